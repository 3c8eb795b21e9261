/-! States: a component's number and an index (an Int) give an Int. The reference's state is σ, the class's κ; the heap of both is pu_H. -/
abbrev aS : Type := Nat → Int → Int
def pu_up (σ : aS) (c : Nat) (i v : Int) : aS := fun c' i' => if c' = c ∧ i' = i then v else σ c' i'
theorem pu_up_ne (σ : aS) {c c' : Nat} (i i' v : Int) (h : c' ≠ c) : pu_up σ c i v c' i' = σ c' i' := if_neg (fun z => h z.1)
theorem pu_up_at (σ : aS) (c : Nat) (i v : Int) : pu_up σ c i v c i = v := if_pos ⟨rfl, rfl⟩
theorem pu_up_c (σ : aS) (c : Nat) (i i' v : Int) : pu_up σ c i v c i' = if i' = i then v else σ c i' := by
  unfold pu_up
  by_cases h : i' = i
  · rw [if_pos ⟨rfl, h⟩, if_pos h]
  · rw [if_neg (fun z => h z.2), if_neg h]
/-- roles: 1 actor, 2 its script, 3 device, 4 its line, 5 who passed, 6 and 7 its own arrays, 8 step, 9 kit, 10 actors, 11 devices, 12 interrupts, 13 reference, 14 the reference's arrays -/
abbrev jLay : Type := (Nat → Nat × Int) × (Nat → Int → Nat)
def pu_len (c : Int) : Nat := if c < 10 then 16 else if c < 18 then 320 else if c < 22 then 12 else if c = 22 then 192 else if c < 29 then 12 else if c < 32 then 192 else if c = 32 then 96 else if c = 33 then 3600 else if c = 34 then 12 else 200
def pu_tag (k : Int) : Nat := if k = 0 ∨ k = 1 then 6 else if k = 3 then 1 else if k = 4 then 2 else if k = 5 then 4 else if k = 6 then 3 else if k = 9 then 7 else if k = 11 then 5 else 8
def pu_nf (t : Nat) : Nat := if t = 1 then 10 else if t = 2 then 8 else if t = 3 then 11 else if t = 4 then 11 else if t = 5 then 10 else if t = 6 then 9 else if t = 7 then 11 else 10
def pu_ref (a : Nat) : jV := .inr (some a)
def pu_actor (ad : Nat → Int → Nat) (κ : aS) (t : Int) : Nat → jV := fun k => if k = 0 then .inl t else if k = 1 then .inr (some (ad 2 t)) else if k = 2 then .inl (κ 3 t) else if k = 3 then .inl (κ 4 t) else if k = 4 then (if κ 5 t < 0 then .inr none else .inr (some (ad 8 (20 * t + κ 4 t - 1)))) else if k = 5 then .inl (κ 6 t) else if k = 6 then .inl (κ 7 t) else .inl 0
def pu_own (ad : Nat → Int → Nat) (κ : aS) (tag : Nat) (d : Int) : Nat → jV := fun k =>
  if tag = 1 then (if k = 8 then .inl (κ 19 d) else if k = 9 then .inl (κ 25 d) else .inl 0)
  else if tag = 2 then .inl 0
  else if tag = 3 then (if k = 8 then .inl (κ 19 d) else if k = 9 then .inr (some (ad 6 d)) else if k = 10 then .inl (κ 24 d) else .inl 0)
  else if tag = 4 then (if k = 8 then .inr (some (ad 6 d)) else if k = 9 then .inl (κ 43 d) else if k = 10 then .inl (κ 26 d) else .inl 0)
  else if tag = 5 then (if k = 8 then .inr (some (ad 6 d)) else if k = 9 then .inl (κ 26 d) else .inl 0)
  else if tag = 6 then (if k = 8 then .inl (κ 24 d) else .inl 0)
  else if tag = 7 then (if k = 8 then .inr (some (ad 6 d)) else if k = 9 then .inr (some (ad 7 d)) else if k = 10 then .inl (κ 24 d) else .inl 0)
  else (if k = 8 then .inl (if κ 18 d = 2 ∨ κ 18 d = 7 then κ 24 d else κ 25 d) else if k = 9 then .inl (κ 27 d) else .inl 0)
def pu_dev (ad : Nat → Int → Nat) (κ : aS) (d : Int) : Nat → jV := fun k => if k = 0 then .inl (κ 18 d) else if k = 1 then .inl d else if k = 2 then .inl (κ 21 d) else if k = 3 then .inl (κ 20 d) else if k = 4 then .inr (some (ad 4 d)) else if k = 5 then .inl (κ 23 d) else if k = 6 then .inr (some (ad 5 d)) else if k = 7 then .inl (κ 34 d) else pu_own ad κ (pu_tag (κ 18 d)) d k
def pu_step (ad : Nat → Int → Nat) (κ : aS) (s : Int) : Nat → jV := fun k => if k = 0 then .inr (some (ad 1 (s / 20))) else if k = 1 then .inr (some (ad 3 (κ 10 s))) else if k = 2 then .inl (κ 11 s) else if k = 3 then .inl (κ 12 s) else if k = 4 then .inl (κ 13 s) else if k = 5 then .inl (κ 14 s) else if k = 6 then .inl (κ 15 s) else if k = 7 then .inl (κ 16 s) else if k = 8 then .inl (κ 17 s) else .inl 0
def pu_kit (ad : Nat → Int → Nat) (κ : aS) : Nat → jV := fun k => if k = 0 then .inr (some (ad 10 0)) else if k = 1 then .inl (κ 0 0) else if k = 2 then .inr (some (ad 11 0)) else if k = 3 then .inl (κ 1 0) else if k = 4 then .inr (some (ad 12 0)) else if k = 5 then .inl (κ 38 0) else if k = 6 then .inl (κ 41 0) else if k = 7 then .inl (κ 37 0) else if k = 8 then .inl (κ 2 0) else .inl 0
def pu_mod (ad : Nat → Int → Nat) (σ : aS) : Nat → jV := fun k => if k < 3 ∨ 36 < k then .inl (σ k 0) else .inr (some (ad 14 k))
def pu_arr (n : Nat) (f : Int → jV) : Nat → jV := fun j => if j < n then f j else .inl 0
def pu_junk : jC := (99, 0, fun _ => .inl 0)
def pu_cell (ad : Nat → Int → Nat) (κ σ : aS) (r : Nat) (i : Int) : jC :=
  if r = 1 then (0, 7, pu_actor ad κ i)
  else if r = 2 then (25, 20, fun j => if (j : Int) < κ 3 i then .inr (some (ad 8 (20 * i + j))) else .inr none)
  else if r = 3 then (pu_tag (κ 18 i), pu_nf (pu_tag (κ 18 i)), pu_dev ad κ i)
  else if r = 4 then (25, 16, fun j => if j < 16 then (if κ 22 (16 * i + j) < 0 then .inr none else .inr (some (ad 8 (κ 22 (16 * i + j))))) else .inr none)
  else if r = 5 then (20, 300, pu_arr 300 fun j => .inl (κ 33 (300 * i + j)))
  else if r = 6 then (if κ 18 i = 5 then (21, 16, pu_arr 16 fun j => .inl (κ 29 (16 * i + j))) else if κ 18 i = 6 then (20, 8, pu_arr 8 fun j => .inl (κ 32 (8 * i + j))) else if κ 18 i = 9 then (20, 16, pu_arr 16 fun j => .inl (κ 30 (16 * i + j))) else (20, 16, pu_arr 16 fun j => .inl (κ 42 (16 * i + j))))
  else if r = 7 then (21, 16, pu_arr 16 fun j => .inl (κ 31 (16 * i + j)))
  else if r = 8 then (9, 9, pu_step ad κ i)
  else if r = 9 then (if i = 0 then (10, 9, pu_kit ad κ) else pu_junk)
  else if r = 10 then (if i = 0 then (23, 16, fun j => if (j : Int) < κ 0 0 then .inr (some (ad 1 j)) else .inr none) else pu_junk)
  else if r = 11 then (if i = 0 then (24, 12, fun j => if (j : Int) < κ 1 0 then .inr (some (ad 3 j)) else .inr none) else pu_junk)
  else if r = 12 then (if i = 0 then (20, 200, fun j => .inl (κ 40 j)) else pu_junk)
  else if r = 13 then (if i = 0 then (11, 39, pu_mod ad σ) else pu_junk)
  else if r = 14 then (if 3 ≤ i ∧ i ≤ 36 then (if i = 33 then 22 else 20, pu_len i, fun j => .inl (σ i.toNat j)) else pu_junk)
  else pu_junk
def pu_H (y : jLay) (κ σ : aS) (g : jH) : jH := (fun a => if (y.1 a).1 = 0 then g.1 a else some (pu_cell y.2 κ σ (y.1 a).1 (y.1 a).2), g.2)
/-- addresses by their roles -/
def pu_on (y : jLay) (r : Nat) (i : Int) : Prop := y.1 (y.2 r i) = (r, i)
def pu_inv (y : jLay) : Prop := ∀ a, (y.1 a).1 ≠ 0 → a = y.2 (y.1 a).1 (y.1 a).2
theorem pu_get {y : jLay} {κ σ : aS} {g : jH} {r : Nat} {i : Int} (h : pu_on y r i) (hr : r ≠ 0) : (pu_H y κ σ g).1 (y.2 r i) = some (pu_cell y.2 κ σ r i) := by
  show (if (y.1 (y.2 r i)).1 = 0 then _ else _) = _
  rw [h, if_neg hr]
/-- a cell is written: only the state changes -/
theorem pu_put {y : jLay} {κ σ κ' σ' : aS} {g : jH} {r : Nat} {i : Int} {q : jC} (h : pu_on y r i) (hr : r ≠ 0) (hi : pu_inv y) (h1 : pu_cell y.2 κ' σ' r i = q) (h2 : ∀ r' i', (r' ≠ r ∨ i' ≠ i) → pu_cell y.2 κ' σ' r' i' = pu_cell y.2 κ σ r' i') : jm_put (pu_H y κ σ g) (y.2 r i) q = pu_H y κ' σ' g := by
  show (_, _) = (_, _)
  congr 1
  funext a
  show (if a = y.2 r i then some q else if (y.1 a).1 = 0 then g.1 a else some (pu_cell y.2 κ σ (y.1 a).1 (y.1 a).2)) = (if (y.1 a).1 = 0 then g.1 a else some (pu_cell y.2 κ' σ' (y.1 a).1 (y.1 a).2))
  by_cases e : a = y.2 r i
  · subst e
    have h' : y.1 (y.2 r i) = (r, i) := h
    rw [if_pos rfl, h', if_neg hr, h1]
  · rw [if_neg e]
    by_cases e0 : (y.1 a).1 = 0
    · rw [if_pos e0, if_pos e0]
    · rw [if_neg e0, if_neg e0, h2]
      by_cases er : (y.1 a).1 = r
      · refine Or.inr (fun ei => e ?_)
        rw [hi a e0, er, ei]
      · exact Or.inl er
/-! the reference's rows -/
def pm_WF (y : jLay) : Prop := pu_inv y ∧ pu_on y 13 0 ∧ ∀ c : Int, 3 ≤ c → c ≤ 36 → pu_on y 14 c
section PM
variable {y : jLay} {κ σ : aS} {g : jH} {k : jK} {L : List (Option jV)} {S : List jV} {f : Nat} {c : Nat} {i v x : Int}
theorem pm_c14 {ad : Nat → Int → Nat} (h1 : 3 ≤ c) (h2 : c ≤ 36) : pu_cell ad κ σ 14 c = (if c = 33 then 22 else 20, pu_len c, fun j => .inl (σ c j)) := by
  have e : ((c : Int) = 33) ↔ c = 33 := by omega
  have e2 : (3 : Int) ≤ c ∧ (c : Int) ≤ 36 := by omega
  simp [pu_cell, e, e2]
theorem pm_c13 {ad : Nat → Int → Nat} : pu_cell ad κ σ 13 0 = (11, 39, pu_mod ad σ) := rfl
/-- which cells of the reference a state's change touches -/
theorem pm_same {ad : Nat → Int → Nat} {σ' : aS} {r' : Nat} {i' : Int} (hc : r' = 13 → i' = 0 → ∀ j : Nat, (j < 3 ∨ 36 < j) → σ' j 0 = σ j 0) (ha : r' = 14 → 3 ≤ i' → i' ≤ 36 → ∀ x : Int, σ' i'.toNat x = σ i'.toNat x) : pu_cell ad κ σ' r' i' = pu_cell ad κ σ r' i' := by
  by_cases e13 : r' = 13
  · subst e13
    by_cases e0 : i' = 0
    · subst e0
      rw [pm_c13, pm_c13]
      congr 2
      funext j
      simp only [pu_mod]
      by_cases ej : j < 3 ∨ 36 < j
      · rw [if_pos ej, if_pos ej, hc rfl rfl j ej]
      · rw [if_neg ej, if_neg ej]
    · simp [pu_cell, e0]
  · by_cases e14 : r' = 14
    · subst e14
      by_cases e0 : 3 ≤ i' ∧ i' ≤ 36
      · have h := ha rfl e0.1 e0.2
        simp [pu_cell, e0, h]
      · simp [pu_cell, e0]
    · unfold pu_cell
      simp only [e13, e14, if_false]
theorem pm_at14 (hw : pm_WF y) (h1 : 3 ≤ c) (h2 : c ≤ 36) : (pu_H y κ σ g).1 (y.2 14 c) = some (if c = 33 then 22 else 20, pu_len c, fun j => .inl (σ c j)) := by
  rw [pu_get (hw.2.2 c (by omega) (by omega)) (by decide), pm_c14 h1 h2]
theorem pm_at13 (hw : pm_WF y) : (pu_H y κ σ g).1 (y.2 13 0) = some (11, 39, pu_mod y.2 σ) := by
  rw [pu_get hw.2.1 (by decide), pm_c13]
theorem pm_geti (hw : pm_WF y) (hf : f < 3 ∨ 36 < f) : jk_get [11] f k L (.inr (some (y.2 13 0)) :: S) (pu_H y κ σ g) = k L (.inl (σ f 0) :: S) (pu_H y κ σ g) := by
  unfold jk_get
  simp only [pm_at13 hw, List.mem_singleton, if_true, pu_mod, hf]
theorem pm_geta (hw : pm_WF y) (h1 : 3 ≤ f) (h2 : f ≤ 36) : jk_get [11] f k L (.inr (some (y.2 13 0)) :: S) (pu_H y κ σ g) = k L (.inr (some (y.2 14 f)) :: S) (pu_H y κ σ g) := by
  unfold jk_get
  simp only [pm_at13 hw, List.mem_singleton, if_true, pu_mod]
  rw [if_neg (by omega)]
theorem pm_iald (hw : pm_WF y) (h1 : 3 ≤ c) (h2 : c ≤ 36) (h3 : c ≠ 33) (hi : 0 ≤ i) (hl : i < (pu_len c : Nat)) : jk_iald k L (.inl i :: .inr (some (y.2 14 c)) :: S) (pu_H y κ σ g) = k L (.inl (σ c i) :: S) (pu_H y κ σ g) := by
  unfold jk_iald
  simp only [pm_at14 hw h1 h2, if_neg h3]
  rw [if_pos ⟨Or.inl trivial, hi, hl⟩, Int.toNat_of_nonneg hi]
theorem pm_bald (hw : pm_WF y) (hi : 0 ≤ i) (hl : i < 3600) : jk_xald 22 k L (.inl i :: .inr (some (y.2 14 33)) :: S) (pu_H y κ σ g) = k L (.inl (σ 33 i) :: S) (pu_H y κ σ g) := by
  have e := pm_at14 (κ := κ) (σ := σ) (g := g) (c := 33) hw (by decide) (by decide)
  unfold jk_xald
  have e2 : y.2 14 33 = y.2 14 ((33 : Nat) : Int) := rfl
  rw [e2]
  simp only [e, if_true]
  rw [if_pos ⟨trivial, hi, hl⟩, Int.toNat_of_nonneg hi]
theorem pm_set14 (hw : pm_WF y) (h1 : 3 ≤ c) (h2 : c ≤ 36) (hi : 0 ≤ i) : jm_put (pu_H y κ σ g) (y.2 14 c) (if c = 33 then 22 else 20, pu_len c, jm_upd (fun j => .inl (σ c j)) i.toNat (.inl v)) = pu_H y κ (pu_up σ c i v) g := by
  refine pu_put (hw.2.2 c (by omega) (by omega)) (by decide) hw.1 ?_ ?_
  · rw [pm_c14 h1 h2]
    congr 2
    funext j
    simp only [jm_upd, pu_up_c]
    by_cases ej : (j : Int) = i
    · rw [if_pos ej, if_pos (by omega)]
    · rw [if_neg ej, if_neg (by omega)]
  · intro r' i' h
    refine pm_same (fun _ _ j hj => pu_up_ne _ _ _ _ (by omega)) (fun hr h3 h4 x => pu_up_ne _ _ _ _ ?_)
    rcases h with h | h
    · exact absurd hr h
    · omega
theorem pm_iast (hw : pm_WF y) (h1 : 3 ≤ c) (h2 : c ≤ 36) (h3 : c ≠ 33) (hi : 0 ≤ i) (hl : i < (pu_len c : Nat)) : jk_iast k L (.inl v :: .inl i :: .inr (some (y.2 14 c)) :: S) (pu_H y κ σ g) = k L S (pu_H y κ (pu_up σ c i v) g) := by
  unfold jk_iast
  simp only [pm_at14 hw h1 h2, if_neg h3]
  rw [if_pos ⟨trivial, hi, hl⟩]
  congr 1
  have e := pm_set14 (κ := κ) (σ := σ) (g := g) (v := v) hw h1 h2 hi
  rw [if_neg h3] at e
  exact e
theorem pm_bast (hw : pm_WF y) (hi : 0 ≤ i) (hl : i < 3600) (hv : -128 ≤ v) (hv2 : v ≤ 127) : jk_bast k L (.inl v :: .inl i :: .inr (some (y.2 14 33)) :: S) (pu_H y κ σ g) = k L S (pu_H y κ (pu_up σ 33 i v) g) := by
  have e := pm_at14 (κ := κ) (σ := σ) (g := g) (c := 33) hw (by decide) (by decide)
  have e2 : y.2 14 33 = y.2 14 ((33 : Nat) : Int) := rfl
  unfold jk_bast
  rw [e2]
  simp only [e, if_true]
  rw [if_pos ⟨trivial, hi, hl⟩]
  congr 1
  have ev : Int.bmod v 256 = v := by rw [Int.bmod_def]; split <;> omega
  rw [ev]
  have e3 := pm_set14 (κ := κ) (σ := σ) (g := g) (c := 33) (v := v) hw (by decide) (by decide) hi
  exact e3
theorem pm_puti (hw : pm_WF y) (hf : f < 3 ∨ f = 37 ∨ f = 38) : jk_puti [11] f k L (.inl v :: .inr (some (y.2 13 0)) :: S) (pu_H y κ σ g) = k L S (pu_H y κ (pu_up σ f 0 v) g) := by
  unfold jk_puti
  simp only [pm_at13 hw, List.mem_singleton, if_true]
  congr 1
  unfold jm_set
  refine pu_put hw.2.1 (by decide) hw.1 ?_ ?_
  · rw [pm_c13]
    congr 2
    funext j
    simp only [pu_mod, jm_upd]
    by_cases ej : j = f
    · subst ej
      rw [if_pos (by omega), if_pos rfl, pu_up_at]
    · rw [if_neg ej, pu_up_ne _ _ _ _ ej]
  · intro r' i' h
    refine pm_same (fun hr h0 => ?_) (fun hr h3 h4 x => pu_up_ne _ _ _ _ (by omega))
    rcases h with h | h
    · exact absurd hr h
    · exact absurd h0 h
theorem jm_wr_id (h1 : -2147483648 ≤ x) (h2 : x ≤ 2147483647) : jm_wr x = x := by
  unfold jm_wr
  rw [Int.bmod_def]
  split <;> omega
end PM
