/-! Abstract states: components, and each device's LINE as a list of threads. What the reference does is told on them. -/
abbrev bS : Type := aS × (Int → List Int)
def b_up (τ : bS) (c : Nat) (i v : Int) : bS := (pu_up τ.1 c i v, τ.2)
def b_ln (τ : bS) (d : Int) (l : List Int) : bS := (τ.1, fun d' => if d' = d then l else τ.2 d')
def b_s (τ : bS) (t : Int) : Int := 20 * t + τ.1 4 t - 1
def b_ends (τ : bS) (t o v : Int) : bS := (q_ends τ.1 t o v, τ.2)
def b_passes (τ : bS) (t v : Int) : bS := (q_passes τ.1 t v, τ.2)
def b_leaves (τ : bS) (t : Int) : bS := (q_left τ.1 t (τ.1 5 t), fun d' => if d' = τ.1 5 t then (τ.2 d').erase t else τ.2 d')
def b_goes (τ : bS) (t v : Int) : bS := b_passes (b_leaves τ t) t v
/-- the reference's state beside an abstract one -/
def RO (σ : aS) (τ : bS) : Prop := (∀ (c : Nat) (i : Int), c ≠ 22 → c ≠ 23 → σ c i = τ.1 c i) ∧ ∀ d : Int, 0 ≤ d → d < 12 → σ 23 d = ((τ.2 d).length : Nat) ∧ ∀ (j : Nat) (x : Int), (τ.2 d)[j]? = some x → σ 22 (16 * d + j) = x
theorem RO.up {σ : aS} {τ : bS} (h : RO σ τ) {c : Nat} (i v : Int) (h1 : c ≠ 22) (h2 : c ≠ 23) : RO (pu_up σ c i v) (b_up τ c i v) := by
  refine ⟨fun c' i' h3 h4 => ?_, fun d hd0 hd1 => ?_⟩
  · show pu_up σ c i v c' i' = pu_up τ.1 c i v c' i'
    unfold pu_up
    rw [h.1 c' i' h3 h4]
  · obtain ⟨h3, h4⟩ := h.2 d hd0 hd1
    refine ⟨by rw [pu_up_ne _ _ _ _ (Ne.symm h2)]; exact h3, fun j x hx => ?_⟩
    rw [pu_up_ne _ _ _ _ (Ne.symm h1)]
    exact h4 j x hx
theorem RO.same {σ σ' : aS} {τ τ' : bS} (h : RO σ τ) (h1 : ∀ (c : Nat) (i : Int), c ≠ 22 → c ≠ 23 → σ' c i = τ'.1 c i) (h2 : ∀ i, σ' 22 i = σ 22 i) (h3 : ∀ i, σ' 23 i = σ 23 i) (h4 : τ'.2 = τ.2) : RO σ' τ' := by
  refine ⟨h1, fun d hd0 hd1 => ?_⟩
  obtain ⟨g3, g4⟩ := h.2 d hd0 hd1
  rw [h4, h3]
  exact ⟨g3, fun j x hx => by rw [h2]; exact g4 j x hx⟩
theorem q_ends_congr {σ ρ : aS} (t o v : Int) (h : ∀ (c : Nat) (i : Int), c ≠ 22 → c ≠ 23 → σ c i = ρ c i) (c : Nat) (i : Int) (h1 : c ≠ 22) (h2 : c ≠ 23) : q_ends σ t o v c i = q_ends ρ t o v c i := by
  unfold q_ends pu_up
  rw [h 4 t (by decide) (by decide), h 2 0 (by decide) (by decide), h c i h1 h2]
theorem RO.ends {σ : aS} {τ : bS} (h : RO σ τ) (t o v : Int) : RO (q_ends σ t o v) (b_ends τ t o v) :=
  h.same (fun c i h1 h2 => q_ends_congr t o v h.1 c i h1 h2) (fun i => q_ends_c _ _ _ _ _ _ (by decide)) (fun i => q_ends_c _ _ _ _ _ _ (by decide)) rfl
theorem q_passes_congr {σ ρ : aS} (t v : Int) (h : ∀ (c : Nat) (i : Int), c ≠ 22 → c ≠ 23 → σ c i = ρ c i) (c : Nat) (i : Int) (h1 : c ≠ 22) (h2 : c ≠ 23) : q_passes σ t v c i = q_passes ρ t v c i := by
  unfold q_passes
  rw [h 4 t (by decide) (by decide), h 10 _ (by decide) (by decide), h 34 _ (by decide) (by decide)]
  split
  · exact q_ends_congr t 0 v h c i h1 h2
  · unfold pu_up
    rw [q_ends_congr t 0 v h c i h1 h2]
theorem q_passes_c (σ : aS) (t v : Int) (c : Nat) (i : Int) (h : c ≠ 14 ∧ c ≠ 15 ∧ c ≠ 17 ∧ c ≠ 7 ∧ c ≠ 33 ∧ c ≠ 34) : q_passes σ t v c i = σ c i := by
  unfold q_passes
  split
  · exact q_ends_c _ _ _ _ _ _ ⟨h.1, h.2.1, h.2.2.1, h.2.2.2.1⟩
  · rw [pu_up_ne _ _ _ _ h.2.2.2.2.2, pu_up_ne _ _ _ _ h.2.2.2.2.1]
    exact q_ends_c _ _ _ _ _ _ ⟨h.1, h.2.1, h.2.2.1, h.2.2.2.1⟩
theorem RO.passes {σ : aS} {τ : bS} (h : RO σ τ) (t v : Int) : RO (q_passes σ t v) (b_passes τ t v) :=
  h.same (fun c i h1 h2 => q_passes_congr t v h.1 c i h1 h2) (fun i => q_passes_c _ _ _ _ _ (by decide)) (fun i => q_passes_c _ _ _ _ _ (by decide)) rfl
theorem q_left_c (σ : aS) (t d : Int) (c : Nat) (i : Int) (h : c ≠ 5 ∧ c ≠ 28) : q_left σ t d c i = σ c i := by
  unfold q_left
  split
  · rw [pu_up_ne _ _ _ _ h.2, pu_up_ne _ _ _ _ h.1]
  · rw [pu_up_ne _ _ _ _ h.1]
theorem q_left_congr {σ ρ : aS} (t d : Int) (c : Nat) (i : Int) (h : ∀ (c : Nat) (i : Int), c ≠ 22 → c ≠ 23 → σ c i = ρ c i) (h1 : c ≠ 22) (h2 : c ≠ 23) : q_left σ t d c i = q_left ρ t d c i := by
  unfold q_left
  rw [h 28 d (by decide) (by decide)]
  split
  · unfold pu_up
    rw [h c i h1 h2]
  · unfold pu_up
    rw [h c i h1 h2]
/-- where a member stands, and the list without it -/
theorem l_erase (l : List Int) (t : Int) (h : t ∈ l) : ∃ p : Nat, p < l.length ∧ l[p]? = some t ∧ (∀ j : Nat, j < p → l[j]? ≠ some t) ∧ ∀ j : Nat, (l.erase t)[j]? = if j < p then l[j]? else l[j + 1]? := by
  induction l with
  | nil => cases h
  | cons a l ih =>
    by_cases e : a = t
    · subst e
      refine ⟨0, by simp, rfl, fun j hj => by omega, fun j => ?_⟩
      rw [List.erase_cons_head]
      simp
    · have h' : t ∈ l := by
        rcases List.mem_cons.mp h with h | h
        · exact absurd h.symm e
        · exact h
      obtain ⟨p, h1, h2, h3, h4⟩ := ih h'
      refine ⟨p + 1, by simp; omega, by simpa using h2, fun j hj => ?_, fun j => ?_⟩
      · cases j with
        | zero => simpa using e
        | succ j => simpa using h3 j (by omega)
      · rw [List.erase_cons_tail (by simpa using e)]
        cases j with
        | zero => simp
        | succ j =>
          simp only [List.getElem?_cons_succ]
          rw [h4 j]
          by_cases hj : j < p
          · rw [if_pos hj, if_pos (by omega)]
          · rw [if_neg hj, if_neg (by omega)]
theorem RO.leaves {σ : aS} {τ : bS} (h : RO σ τ) {t : Int} (hd0 : 0 ≤ τ.1 5 t) (hd1 : τ.1 5 t < 12) (ht : t ∈ τ.2 (τ.1 5 t)) (hl : ∀ d, 0 ≤ d → d < 12 → (τ.2 d).length ≤ 16) : ∃ p : Int, 0 ≤ p ∧ p < σ 23 (τ.1 5 t) ∧ σ 22 (16 * τ.1 5 t + p) = t ∧ (∀ j, 0 ≤ j → j < p → (τ.2 (τ.1 5 t))[j.toNat]? ≠ some t ∧ j.toNat < (τ.2 (τ.1 5 t)).length) ∧ RO (q_leaves σ t (τ.1 5 t) p) (b_leaves τ t) := by
  obtain ⟨p, h1, h2, h3, h4⟩ := l_erase _ _ ht
  obtain ⟨g1, g2⟩ := h.2 _ hd0 hd1
  refine ⟨p, by omega, by rw [g1]; omega, g2 p t h2, fun j hj0 hj1 => ⟨h3 j.toNat (by omega), by omega⟩, fun c i hc1 hc2 => ?_, fun d hd2 hd3 => ?_⟩
  · show q_left _ t _ c i = q_left τ.1 t (τ.1 5 t) c i
    refine q_left_congr t _ c i (fun c i k1 k2 => ?_) hc1 hc2
    rw [q_shift_c _ _ _ _ _ k1, pu_up_ne _ _ _ _ k2]
    exact h.1 c i k1 k2
  · have e23 : ∀ i, q_leaves σ t (τ.1 5 t) p 23 i = if i = τ.1 5 t then σ 23 (τ.1 5 t) - 1 else σ 23 i := fun i => by
      unfold q_leaves
      rw [q_left_c _ _ _ _ _ (by decide), q_shift_c _ _ _ _ _ (by decide), pu_up_c]
    have e22 : ∀ i, q_leaves σ t (τ.1 5 t) p 22 i = if 16 * τ.1 5 t + p ≤ i ∧ i < 16 * τ.1 5 t + (σ 23 (τ.1 5 t) - 1) then σ 22 (i + 1) else σ 22 i := fun i => by
      unfold q_leaves
      rw [q_left_c _ _ _ _ _ (by decide)]
      unfold q_shift
      simp only [true_and]
      rw [pu_up_ne _ _ _ _ (by decide), pu_up_ne _ _ _ _ (by decide)]
    by_cases ed : d = τ.1 5 t
    · subst ed
      have el : (b_leaves τ t).2 (τ.1 5 t) = (τ.2 (τ.1 5 t)).erase t := if_pos rfl
      rw [el]
      refine ⟨?_, fun j x hx => ?_⟩
      · rw [e23, if_pos rfl, g1, List.length_erase_of_mem ht]
        omega
      · rw [h4 j] at hx
        rw [e22]
        by_cases hj : j < p
        · rw [if_pos hj] at hx
          rw [if_neg (by omega)]
          exact g2 j x hx
        · rw [if_neg hj] at hx
          have hl := (List.getElem?_eq_some_iff.mp hx).1
          rw [if_pos ⟨by omega, by omega⟩]
          have := g2 (j + 1) x hx
          rw [← this]
          congr 1
          omega
    · obtain ⟨k1, k2⟩ := h.2 d hd2 hd3
      have el : (b_leaves τ t).2 d = τ.2 d := if_neg ed
      rw [el]
      refine ⟨by rw [e23, if_neg ed]; exact k1, fun j x hx => ?_⟩
      have hl8 := (List.getElem?_eq_some_iff.mp hx).1
      rw [e22, if_neg (fun z => ?_)]
      · exact k2 j x hx
      · have l1 := hl d hd2 hd3
        have l2 := hl _ hd0 hd1
        omega
theorem RO.push {σ : aS} {τ : bS} (h : RO σ τ) {d t : Int} (hd0 : 0 ≤ d) (hd1 : d < 12) (hl : ∀ d, 0 ≤ d → d < 12 → (τ.2 d).length ≤ 16) (hl9 : (τ.2 d).length < 16) : RO (pu_up (pu_up σ 22 (16 * d + σ 23 d) t) 23 d (σ 23 d + 1)) (b_ln τ d (τ.2 d ++ [t])) := by
  obtain ⟨g1, g2⟩ := h.2 d hd0 hd1
  refine ⟨fun c i hc1 hc2 => by rw [pu_up_ne _ _ _ _ hc2, pu_up_ne _ _ _ _ hc1]; exact h.1 c i hc1 hc2, fun d' k0 k1 => ?_⟩
  obtain ⟨m1, m2⟩ := h.2 d' k0 k1
  by_cases ed : d' = d
  · subst ed
    have el : (b_ln τ d' (τ.2 d' ++ [t])).2 d' = τ.2 d' ++ [t] := if_pos rfl
    rw [el]
    refine ⟨by rw [pu_up_at, g1]; simp, fun j x hx => ?_⟩
    rw [pu_up_ne _ _ _ _ (by decide), pu_up_c]
    by_cases hj : j < (τ.2 d').length
    · rw [List.getElem?_append_left hj] at hx
      rw [if_neg (by omega)]
      exact g2 j x hx
    · rw [List.getElem?_append_right (by omega)] at hx
      have hz : j - (τ.2 d').length < 1 := (List.getElem?_eq_some_iff.mp hx).1
      rw [show j - (τ.2 d').length = 0 by omega] at hx
      cases hx
      rw [if_pos (by omega)]
  · have el : (b_ln τ d (τ.2 d ++ [t])).2 d' = τ.2 d' := if_neg ed
    rw [el]
    refine ⟨by rw [pu_up_c, if_neg ed, pu_up_ne _ _ _ _ (by decide)]; exact m1, fun j x hx => ?_⟩
    have hl1 := (List.getElem?_eq_some_iff.mp hx).1
    have hl2 := hl d' k0 k1
    rw [pu_up_ne _ _ _ _ (by decide), pu_up_c, if_neg ?_]
    · exact m2 j x hx
    · omega
theorem l_len (N : Nat) : ∀ l : List Int, l.Nodup → (∀ x ∈ l, 0 ≤ x ∧ x < N) → l.length ≤ N := by
  induction N with
  | zero =>
    intro l _ h
    cases l with
    | nil => simp
    | cons a l =>
      have := h a List.mem_cons_self
      omega
  | succ N ih =>
    intro l hn h
    have h1 := ih (l.erase N) (hn.erase _) (fun x hx => by
      have h2 := h x (List.mem_of_mem_erase hx)
      have h3 : x ≠ N := fun e => by
        subst e
        exact absurd hx (List.Nodup.not_mem_erase hn)
      omega)
    by_cases hm : (N : Int) ∈ l
    · rw [List.length_erase_of_mem hm] at h1
      omega
    · rw [List.erase_of_not_mem hm] at h1
      omega
/-- what the reference's own steps need of a state -/
def WI (τ : bS) : Prop :=
  (∀ t, 0 ≤ t → t < 16 → 0 ≤ τ.1 4 t ∧ τ.1 4 t ≤ 20 ∧ 0 ≤ τ.1 3 t ∧ τ.1 3 t ≤ 20) ∧
  (∀ t, 0 ≤ t → t < τ.1 0 0 → 0 ≤ τ.1 5 t → τ.1 5 t < 12 ∧ t ∈ τ.2 (τ.1 5 t)) ∧
  (∀ d, 0 ≤ d → d < 12 → (τ.2 d).Nodup ∧ ∀ t ∈ τ.2 d, 0 ≤ t ∧ t < 16 ∧ τ.1 5 t = d ∧ 1 ≤ τ.1 4 t ∧ τ.1 10 (20 * t + τ.1 4 t - 1) = d) ∧
  (∀ d, 0 ≤ d → d < 12 → 0 ≤ τ.1 34 d ∧ τ.1 34 d ≤ 300 ∧ 0 ≤ τ.1 18 d ∧ τ.1 18 d ≤ 11) ∧
  (∀ s, 0 ≤ s → s < 320 → 0 ≤ τ.1 10 s ∧ τ.1 10 s < 12) ∧
  (∀ i, 0 ≤ i → i < 192 → 0 ≤ τ.1 29 i ∧ τ.1 29 i ≤ 1 ∧ 0 ≤ τ.1 30 i ∧ τ.1 30 i ≤ 2 ∧ 0 ≤ τ.1 31 i ∧ τ.1 31 i ≤ 1) ∧
  (∀ d, 0 ≤ d → d < 12 → τ.1 18 d = 5 → τ.1 28 d < 16 ∧ (0 ≤ τ.1 28 d → τ.1 28 d ∈ τ.2 d)) ∧
  (∀ d, 0 ≤ d → d < 12 → τ.1 18 d = 6 → 0 ≤ τ.1 24 d ∧ τ.1 24 d ≤ τ.1 19 d ∧ τ.1 19 d ≤ 8) ∧
  (0 ≤ τ.1 0 0 ∧ τ.1 0 0 ≤ 16 ∧ 0 ≤ τ.1 1 0 ∧ τ.1 1 0 ≤ 12 ∧ 0 ≤ τ.1 38 0 ∧ τ.1 38 0 ≤ 200)
/-- t waits in a line -/
def LV (τ : bS) (t : Int) : Prop := 0 ≤ τ.1 5 t ∧ τ.1 5 t < 12 ∧ t ∈ τ.2 (τ.1 5 t)
theorem LV.of {τ : bS} {t d : Int} (h0 : 0 ≤ d) (h1 : d < 12) (h5 : τ.1 5 t = d) (hm : t ∈ τ.2 d) : LV τ t := by
  unfold LV
  rw [h5]
  exact ⟨h0, h1, hm⟩
theorem LV.same {τ τ' : bS} {t : Int} (h : LV τ t) (h5 : τ'.1 5 t = τ.1 5 t) (h2 : τ'.2 = τ.2) : LV τ' t := by
  unfold LV
  rw [h5, h2]
  exact h
theorem WI.lv {τ : bS} (h : WI τ) {t : Int} (hd : LV τ t) : 0 ≤ t ∧ t < 16 ∧ 1 ≤ τ.1 4 t ∧ τ.1 10 (20 * t + τ.1 4 t - 1) = τ.1 5 t := by
  have h3 := (h.2.2.1 _ hd.1 hd.2.1).2 t hd.2.2
  exact ⟨h3.1, h3.2.1, h3.2.2.2.1, h3.2.2.2.2⟩
theorem WI.len {τ : bS} (h : WI τ) : ∀ d, 0 ≤ d → d < 12 → (τ.2 d).length ≤ 16 := fun d h0 h1 => l_len 16 _ (h.2.2.1 d h0 h1).1 (fun x hx => by
  have := (h.2.2.1 d h0 h1).2 x hx
  omega)
theorem WI.len1 {τ : bS} (h : WI τ) {d t : Int} (h0 : 0 ≤ d) (h1 : d < 12) (ht0 : 0 ≤ t) (ht1 : t < 16) (ht : τ.1 5 t ≠ d) : (τ.2 d).length < 16 := by
  have := l_len 16 (t :: τ.2 d) (List.nodup_cons.mpr ⟨fun z => ht ((h.2.2.1 d h0 h1).2 t z).2.2.1, (h.2.2.1 d h0 h1).1⟩) (fun x hx => by
    rcases List.mem_cons.mp hx with rfl | hx
    · omega
    · have := (h.2.2.1 d h0 h1).2 x hx
      omega)
  simp at this
  omega
/-- components that the invariant reads -/
def wi_c (c : Nat) : Bool := c == 0 || c == 1 || c == 3 || c == 4 || c == 5 || c == 10 || c == 18 || c == 19 || c == 24 || c == 28 || c == 29 || c == 30 || c == 31 || c == 34 || c == 38
theorem WI.congr {τ τ' : bS} (h : WI τ) (hc : ∀ (c : Nat) (i : Int), wi_c c = true → c ≠ 34 → c ≠ 29 → c ≠ 30 → c ≠ 31 → c ≠ 24 → τ'.1 c i = τ.1 c i) (h34 : ∀ d, 0 ≤ d → d < 12 → 0 ≤ τ'.1 34 d ∧ τ'.1 34 d ≤ 300) (h2 : τ'.2 = τ.2) (h29 : ∀ i, 0 ≤ i → i < 192 → 0 ≤ τ'.1 29 i ∧ τ'.1 29 i ≤ 1 ∧ 0 ≤ τ'.1 30 i ∧ τ'.1 30 i ≤ 2 ∧ 0 ≤ τ'.1 31 i ∧ τ'.1 31 i ≤ 1) (h24 : ∀ d, 0 ≤ d → d < 12 → τ.1 18 d = 6 → 0 ≤ τ'.1 24 d ∧ τ'.1 24 d ≤ τ.1 19 d) : WI τ' := by
  obtain ⟨a1, a2, a3, a4, a5, a6, a7, a8, a9⟩ := h
  have e4 : ∀ i, τ'.1 4 i = τ.1 4 i := fun i => hc 4 i rfl (by decide) (by decide) (by decide) (by decide) (by decide)
  have e3 : ∀ i, τ'.1 3 i = τ.1 3 i := fun i => hc 3 i rfl (by decide) (by decide) (by decide) (by decide) (by decide)
  have e5 : ∀ i, τ'.1 5 i = τ.1 5 i := fun i => hc 5 i rfl (by decide) (by decide) (by decide) (by decide) (by decide)
  have e10 : ∀ i, τ'.1 10 i = τ.1 10 i := fun i => hc 10 i rfl (by decide) (by decide) (by decide) (by decide) (by decide)
  have e18 : ∀ i, τ'.1 18 i = τ.1 18 i := fun i => hc 18 i rfl (by decide) (by decide) (by decide) (by decide) (by decide)
  have e19 : ∀ i, τ'.1 19 i = τ.1 19 i := fun i => hc 19 i rfl (by decide) (by decide) (by decide) (by decide) (by decide)
  have e28 : ∀ i, τ'.1 28 i = τ.1 28 i := fun i => hc 28 i rfl (by decide) (by decide) (by decide) (by decide) (by decide)
  have e0 : ∀ i, τ'.1 0 i = τ.1 0 i := fun i => hc 0 i rfl (by decide) (by decide) (by decide) (by decide) (by decide)
  have e1 : ∀ i, τ'.1 1 i = τ.1 1 i := fun i => hc 1 i rfl (by decide) (by decide) (by decide) (by decide) (by decide)
  have e38 : ∀ i, τ'.1 38 i = τ.1 38 i := fun i => hc 38 i rfl (by decide) (by decide) (by decide) (by decide) (by decide)
  refine ⟨fun t h0 h1 => by rw [e4, e3]; exact a1 t h0 h1, fun t h0 h1 hp => ?_, fun d h0 h1 => ?_, fun d h0 h1 => ?_, fun s h0 h1 => by rw [e10]; exact a5 s h0 h1, h29, fun d h0 h1 => by rw [e28, h2, e18]; exact a7 d h0 h1, fun d h0 h1 h6 => ?_, by rw [e0, e1, e38]; exact a9⟩
  · rw [e5] at hp ⊢
    rw [h2]
    rw [e0] at h1
    exact a2 t h0 h1 hp
  · rw [h2]
    refine ⟨(a3 d h0 h1).1, fun t ht => ?_⟩
    rw [e5, e4, e10]
    exact (a3 d h0 h1).2 t ht
  · rw [e18]
    exact ⟨(h34 d h0 h1).1, (h34 d h0 h1).2, (a4 d h0 h1).2.2⟩
  · rw [e18] at h6
    rw [e19]
    exact ⟨(h24 d h0 h1 h6).1, (h24 d h0 h1 h6).2, (a8 d h0 h1 h6).2.2⟩
theorem b_ends_c (τ : bS) (t o v : Int) (c : Nat) (i : Int) (h : c ≠ 14 ∧ c ≠ 15 ∧ c ≠ 17 ∧ c ≠ 7) : (b_ends τ t o v).1 c i = τ.1 c i := q_ends_c _ _ _ _ _ _ h
theorem b_passes_c (τ : bS) (t v : Int) (c : Nat) (i : Int) (h : c ≠ 14 ∧ c ≠ 15 ∧ c ≠ 17 ∧ c ≠ 7 ∧ c ≠ 33 ∧ c ≠ 34) : (b_passes τ t v).1 c i = τ.1 c i := q_passes_c _ _ _ _ _ h
theorem b_leaves_c (τ : bS) (t : Int) (c : Nat) (i : Int) (h : c ≠ 5 ∧ c ≠ 28) : (b_leaves τ t).1 c i = τ.1 c i := q_left_c _ _ _ _ _ h
theorem b_up_c (τ : bS) (c : Nat) (i v : Int) (c' : Nat) (i' : Int) (h : c' ≠ c) : (b_up τ c i v).1 c' i' = τ.1 c' i' := pu_up_ne _ _ _ _ h
theorem wi_ne {c : Nat} (h : wi_c c = true) : c ≠ 14 ∧ c ≠ 15 ∧ c ≠ 17 ∧ c ≠ 7 ∧ c ≠ 33 := by
  refine ⟨?_, ?_, ?_, ?_, ?_⟩ <;> (intro e; subst e; exact absurd h (by decide))
theorem WI.ends {τ : bS} (h : WI τ) (t o v : Int) : WI (b_ends τ t o v) :=
  h.congr (fun c i hc _ _ _ _ _ => b_ends_c τ t o v c i ⟨(wi_ne hc).1, (wi_ne hc).2.1, (wi_ne hc).2.2.1, (wi_ne hc).2.2.2.1⟩) (fun d h0 h1 => by
    rw [b_ends_c τ t o v 34 d (by decide)]
    exact ⟨(h.2.2.2.1 d h0 h1).1, (h.2.2.2.1 d h0 h1).2.1⟩) rfl (fun i h0 h1 => by rw [b_ends_c τ t o v 29 i (by decide), b_ends_c τ t o v 30 i (by decide), b_ends_c τ t o v 31 i (by decide)]; exact h.2.2.2.2.2.1 i h0 h1) (fun d h0 h1 h6 => by rw [b_ends_c τ t o v 24 d (by decide)]; exact ⟨(h.2.2.2.2.2.2.2.1 d h0 h1 h6).1, (h.2.2.2.2.2.2.2.1 d h0 h1 h6).2.1⟩)
theorem WI.upd {τ : bS} (h : WI τ) {c : Nat} (i v : Int) (hc : wi_c c = false) : WI (b_up τ c i v) := by
  have e : ∀ (c' : Nat) (j : Int), wi_c c' = true → (b_up τ c i v).1 c' j = τ.1 c' j := fun c' j h' => b_up_c τ c i v c' j (fun z => by subst z; rw [hc] at h'; cases h')
  refine h.congr (fun c' j h' _ _ _ _ _ => e c' j h') (fun d h0 h1 => ?_) rfl (fun j h0 h1 => ?_) (fun d h0 h1 h6 => ?_)
  · rw [e 34 d rfl]
    exact ⟨(h.2.2.2.1 d h0 h1).1, (h.2.2.2.1 d h0 h1).2.1⟩
  · rw [e 29 j rfl, e 30 j rfl, e 31 j rfl]
    exact h.2.2.2.2.2.1 j h0 h1
  · rw [e 24 d rfl]
    exact ⟨(h.2.2.2.2.2.2.2.1 d h0 h1 h6).1, (h.2.2.2.2.2.2.2.1 d h0 h1 h6).2.1⟩
theorem WI.up24 {τ : bS} (h : WI τ) (i v : Int) (hv : τ.1 18 i = 6 → 0 ≤ v ∧ v ≤ τ.1 19 i) : WI (b_up τ 24 i v) := by
  have e : ∀ (c' : Nat) (j : Int), c' ≠ 24 → (b_up τ 24 i v).1 c' j = τ.1 c' j := fun c' j h' => b_up_c τ 24 i v c' j h'
  refine h.congr (fun c' j _ _ _ _ _ h' => e c' j h') (fun d h0 h1 => ?_) rfl (fun j h0 h1 => ?_) (fun d h0 h1 h6 => ?_)
  · rw [e 34 d (by decide)]
    exact ⟨(h.2.2.2.1 d h0 h1).1, (h.2.2.2.1 d h0 h1).2.1⟩
  · rw [e 29 j (by decide), e 30 j (by decide), e 31 j (by decide)]
    exact h.2.2.2.2.2.1 j h0 h1
  · show 0 ≤ pu_up τ.1 24 i v 24 d ∧ pu_up τ.1 24 i v 24 d ≤ _
    rw [pu_up_c]
    split
    · rename_i ed
      subst ed
      exact hv h6
    · exact ⟨(h.2.2.2.2.2.2.2.1 d h0 h1 h6).1, (h.2.2.2.2.2.2.2.1 d h0 h1 h6).2.1⟩
theorem WI.passes {τ : bS} (h : WI τ) (t v : Int) : WI (b_passes τ t v) :=
  h.congr (fun c i hc h34 _ _ _ _ => b_passes_c τ t v c i ⟨(wi_ne hc).1, (wi_ne hc).2.1, (wi_ne hc).2.2.1, (wi_ne hc).2.2.2.1, (wi_ne hc).2.2.2.2, h34⟩) (fun d h0 h1 => by
    have hd := h.2.2.2.1 d h0 h1
    show 0 ≤ q_passes τ.1 t v 34 d ∧ q_passes τ.1 t v 34 d ≤ 300
    unfold q_passes
    split
    · rw [q_ends_c _ _ _ _ _ _ (by decide)]
      exact ⟨hd.1, hd.2.1⟩
    · rw [pu_up_c, pu_up_ne _ _ _ _ (by decide), q_ends_c _ _ _ _ _ _ (by decide)]
      split
      · rename_i hne he
        rw [← he] at hne ⊢
        omega
      · exact ⟨hd.1, hd.2.1⟩) rfl (fun i h0 h1 => by rw [b_passes_c τ t v 29 i (by decide), b_passes_c τ t v 30 i (by decide), b_passes_c τ t v 31 i (by decide)]; exact h.2.2.2.2.2.1 i h0 h1) (fun d h0 h1 h6 => by rw [b_passes_c τ t v 24 d (by decide)]; exact ⟨(h.2.2.2.2.2.2.2.1 d h0 h1 h6).1, (h.2.2.2.2.2.2.2.1 d h0 h1 h6).2.1⟩)
theorem q_left_5 (σ : aS) (t d i : Int) : q_left σ t d 5 i = if i = t then -1 else σ 5 i := by
  unfold q_left
  split
  · rw [pu_up_ne _ _ _ _ (by decide), pu_up_c]
  · rw [pu_up_c]
theorem q_left_28 (σ : aS) (t d i : Int) : q_left σ t d 28 i = if i = d ∧ σ 28 d = t then -1 else σ 28 i := by
  unfold q_left
  by_cases h : σ 28 d = t
  · rw [if_pos h, pu_up_c]
    by_cases hi : i = d
    · rw [if_pos hi, if_pos ⟨hi, h⟩]
    · rw [if_neg hi, if_neg (fun z => hi z.1), pu_up_ne _ _ _ _ (by decide)]
  · rw [if_neg h, if_neg (fun z => h z.2), pu_up_ne _ _ _ _ (by decide)]
theorem WI.leaves {τ : bS} (h : WI τ) {t : Int} (hd : LV τ t) : WI (b_leaves τ t) := by
  obtain ⟨a1, a2, a3, a4, a5, a6, a7, a8, a9⟩ := h
  have e5 : ∀ i, (b_leaves τ t).1 5 i = if i = t then -1 else τ.1 5 i := fun i => q_left_5 _ _ _ _
  have e28 : ∀ i, (b_leaves τ t).1 28 i = if i = τ.1 5 t ∧ τ.1 28 (τ.1 5 t) = t then -1 else τ.1 28 i := fun i => q_left_28 _ _ _ _
  have ec : ∀ (c : Nat) (i : Int), c ≠ 5 ∧ c ≠ 28 → (b_leaves τ t).1 c i = τ.1 c i := fun c i hc => q_left_c _ _ _ _ _ hc
  have el : ∀ d, (b_leaves τ t).2 d = if d = τ.1 5 t then (τ.2 d).erase t else τ.2 d := fun d => rfl
  refine ⟨fun u h0 h1 => by rw [ec 4 u (by decide), ec 3 u (by decide)]; exact a1 u h0 h1, fun u h0 h1 hp => ?_, fun d h0 h1 => ?_, fun d h0 h1 => by rw [ec 34 d (by decide), ec 18 d (by decide)]; exact a4 d h0 h1, fun s h0 h1 => by rw [ec 10 s (by decide)]; exact a5 s h0 h1, fun i h0 h1 => by rw [ec 29 i (by decide), ec 30 i (by decide), ec 31 i (by decide)]; exact a6 i h0 h1, fun d h0 h1 hne => ?_, fun d h0 h1 h6 => ?_, by rw [ec 0 _ (by decide), ec 1 _ (by decide), ec 38 _ (by decide)]; exact a9⟩
  · rw [e5] at hp ⊢
    rw [ec 0 0 (by decide)] at h1
    by_cases hu : u = t
    · rw [if_pos hu] at hp
      omega
    · rw [if_neg hu] at hp ⊢
      obtain ⟨b1, b3⟩ := a2 u h0 h1 hp
      refine ⟨b1, ?_⟩
      rw [el]
      split
      · exact (List.mem_erase_of_ne hu).mpr b3
      · exact b3
  · rw [el]
    obtain ⟨c1, c2⟩ := a3 d h0 h1
    by_cases ed : d = τ.1 5 t
    · rw [if_pos ed]
      refine ⟨c1.erase t, fun u hu => ?_⟩
      have hut : u ≠ t := fun e => by
        subst e
        exact absurd hu (List.Nodup.not_mem_erase c1)
      rw [e5, if_neg hut, ec 4 u (by decide), ec 10 _ (by decide)]
      exact c2 u (List.mem_of_mem_erase hu)
    · rw [if_neg ed]
      refine ⟨c1, fun u hu => ?_⟩
      have h3 := c2 u hu
      have hut : u ≠ t := fun e => by
        subst e
        exact ed h3.2.2.1.symm
      rw [e5, if_neg hut, ec 4 u (by decide), ec 10 _ (by decide)]
      exact h3
  · rw [e28]
    rw [ec 18 d (by decide)] at hne
    rw [el]
    have h7 := a7 d h0 h1 hne
    by_cases c1 : d = τ.1 5 t ∧ τ.1 28 (τ.1 5 t) = t
    · rw [if_pos c1]
      exact ⟨by omega, fun z => by omega⟩
    · rw [if_neg c1]
      refine ⟨h7.1, fun hp => ?_⟩
      have h8 := h7.2 hp
      split
      · rename_i ed
        refine (List.mem_erase_of_ne (fun e => c1 ⟨ed, ?_⟩)).mpr h8
        rw [← ed]
        exact e
      · exact h8
  · rw [ec 18 d (by decide)] at h6
    rw [ec 24 d (by decide), ec 19 d (by decide)]
    exact a8 d h0 h1 h6
theorem R_leaves {y : jLay} {κ σ : aS} {g : jH} {n : Nat} {τ : bS} {t : Int} (hw : pm_WF y) (hn : 100 ≤ n) (hR : RO σ τ) (hI : WI τ) (ht0 : 0 ≤ t) (ht1 : t < 16) (hl0 : LV τ t) : ∃ σ', fX12_leavesLine n [.inr (some (y.2 13 0)), .inl t] (pu_H y κ σ g) = some (none, pu_H y κ σ' g) ∧ RO σ' (b_leaves τ t) := by
  obtain ⟨hd, b1, b3⟩ := hl0
  have hl := hI.len
  obtain ⟨p, h1, h2, h3, h4, h5⟩ := hR.leaves hd b1 b3 hl
  obtain ⟨g1, g2⟩ := hR.2 _ hd b1
  have hl5 := hl _ hd b1
  refine ⟨_, r_leaves hw hn ht0 ht1 (hR.1 5 t (by decide) (by decide)) hd b1 h1 (by omega) h2 h3 (fun j hj0 hj1 => ?_), h5⟩
  obtain ⟨k1, k2⟩ := h4 j hj0 hj1
  have e := List.getElem?_eq_getElem k2
  have e2 := g2 j.toNat _ e
  rw [Int.toNat_of_nonneg hj0] at e2
  rw [e2]
  intro z
  exact k1 (by rw [e, z])
theorem WI.upb {τ : bS} (h : WI τ) {c : Nat} (i v : Int) (hc : (c = 29 ∧ 0 ≤ v ∧ v ≤ 1) ∨ (c = 30 ∧ 0 ≤ v ∧ v ≤ 2) ∨ (c = 31 ∧ 0 ≤ v ∧ v ≤ 1)) : WI (b_up τ c i v) := by
  refine h.congr (fun c' j _ _ h29 h30 h31 _ => b_up_c τ c i v c' j (by omega)) (fun d h0 h1 => ?_) rfl (fun j h0 h1 => ?_) (fun d h0 h1 h6 => ?_)
  · rw [b_up_c τ c i v 34 d (by omega)]
    exact ⟨(h.2.2.2.1 d h0 h1).1, (h.2.2.2.1 d h0 h1).2.1⟩
  · have h6 := h.2.2.2.2.2.1 j h0 h1
    show 0 ≤ pu_up τ.1 c i v 29 j ∧ pu_up τ.1 c i v 29 j ≤ 1 ∧ 0 ≤ pu_up τ.1 c i v 30 j ∧ pu_up τ.1 c i v 30 j ≤ 2 ∧ 0 ≤ pu_up τ.1 c i v 31 j ∧ pu_up τ.1 c i v 31 j ≤ 1
    unfold pu_up
    rcases hc with ⟨rfl, hv⟩ | ⟨rfl, hv⟩ | ⟨rfl, hv⟩
    · refine ⟨?_, ?_, ?_, ?_, ?_, ?_⟩ <;> split <;> omega
    · refine ⟨?_, ?_, ?_, ?_, ?_, ?_⟩ <;> split <;> omega
    · refine ⟨?_, ?_, ?_, ?_, ?_, ?_⟩ <;> split <;> omega
  · rw [b_up_c τ c i v 24 d (by omega)]
    exact ⟨(h.2.2.2.2.2.2.2.1 d h0 h1 h6).1, (h.2.2.2.2.2.2.2.1 d h0 h1 h6).2.1⟩
theorem WI.up28 {τ : bS} (h : WI τ) {d t : Int} (ht1 : t < 16) (hm : t ∈ τ.2 d) : WI (b_up τ 28 d t) := by
  obtain ⟨a1, a2, a3, a4, a5, a6, a7, a8, a9⟩ := h
  have ec : ∀ (c : Nat) (i : Int), c ≠ 28 → (b_up τ 28 d t).1 c i = τ.1 c i := fun c i hc => pu_up_ne _ _ _ _ hc
  refine ⟨fun u h0 h1 => by rw [ec 4 u (by decide), ec 3 u (by decide)]; exact a1 u h0 h1, fun u h0 h1 hp => ?_, fun d' h0 h1 => ⟨(a3 d' h0 h1).1, fun u hu => by rw [ec 5 u (by decide), ec 4 u (by decide), ec 10 _ (by decide)]; exact (a3 d' h0 h1).2 u hu⟩, fun d h0 h1 => by rw [ec 34 d (by decide), ec 18 d (by decide)]; exact a4 d h0 h1, fun s h0 h1 => by rw [ec 10 s (by decide)]; exact a5 s h0 h1, fun i h0 h1 => by rw [ec 29 i (by decide), ec 30 i (by decide), ec 31 i (by decide)]; exact a6 i h0 h1, fun d' h0 h1 hne => ?_, fun d h0 h1 h6 => ?_, by rw [ec 0 _ (by decide), ec 1 _ (by decide), ec 38 _ (by decide)]; exact a9⟩
  · rw [ec 5 u (by decide)] at hp ⊢
    rw [ec 0 0 (by decide)] at h1
    exact a2 u h0 h1 hp
  · have e28 : (b_up τ 28 d t).1 28 d' = if d' = d then t else τ.1 28 d' := pu_up_c _ _ _ _ _
    rw [e28]
    rw [ec 18 d' (by decide)] at hne
    split
    · rename_i e
      rw [e]
      exact ⟨ht1, fun _ => hm⟩
    · exact a7 d' h0 h1 hne
  · rw [ec 18 d (by decide)] at h6
    rw [ec 24 d (by decide), ec 19 d (by decide)]
    exact a8 d h0 h1 h6
/-- t, that waits nowhere, comes behind d's line -/
theorem WI.push {τ : bS} (h : WI τ) {t d : Int} (ht0 : 0 ≤ t) (ht1 : t < 16) (hd0 : 0 ≤ d) (hd1 : d < 12) (h5 : τ.1 5 t < 0) (h4 : 1 ≤ τ.1 4 t) (h10 : τ.1 10 (20 * t + τ.1 4 t - 1) = d) : WI (b_ln (b_up τ 5 t d) d (τ.2 d ++ [t])) := by
  obtain ⟨a1, a2, a3, a4, a5, a6, a7, a8, a9⟩ := h
  have e5 : ∀ i, (b_ln (b_up τ 5 t d) d (τ.2 d ++ [t])).1 5 i = if i = t then d else τ.1 5 i := fun i => pu_up_c _ _ _ _ _
  have ec : ∀ (c : Nat) (i : Int), c ≠ 5 → (b_ln (b_up τ 5 t d) d (τ.2 d ++ [t])).1 c i = τ.1 c i := fun c i hc => pu_up_ne _ _ _ _ hc
  have e2 : ∀ d', (b_ln (b_up τ 5 t d) d (τ.2 d ++ [t])).2 d' = if d' = d then τ.2 d ++ [t] else τ.2 d' := fun d' => rfl
  refine ⟨fun u h0 h1 => by rw [ec 4 u (by decide), ec 3 u (by decide)]; exact a1 u h0 h1, fun u h0 h1 hp => ?_, fun d' h0 h1 => ?_, fun d h0 h1 => by rw [ec 34 d (by decide), ec 18 d (by decide)]; exact a4 d h0 h1, fun s h0 h1 => by rw [ec 10 s (by decide)]; exact a5 s h0 h1, fun i h0 h1 => by rw [ec 29 i (by decide), ec 30 i (by decide), ec 31 i (by decide)]; exact a6 i h0 h1, fun d' h0 h1 hne => ?_, fun d h0 h1 h6 => ?_, by rw [ec 0 _ (by decide), ec 1 _ (by decide), ec 38 _ (by decide)]; exact a9⟩
  · rw [e5] at hp ⊢
    rw [ec 0 0 (by decide)] at h1
    rw [e2]
    by_cases hu : u = t
    · rw [if_pos hu, if_pos rfl]
      subst hu
      exact ⟨hd1, List.mem_append_right _ List.mem_cons_self⟩
    · rw [if_neg hu] at hp ⊢
      obtain ⟨b1, b3⟩ := a2 u h0 h1 hp
      refine ⟨b1, ?_⟩
      split
      · rename_i he
        rw [← he]
        exact List.mem_append_left _ b3
      · exact b3
  · rw [e2]
    by_cases ed : d' = d
    · subst ed
      rw [if_pos rfl]
      obtain ⟨c1, c2⟩ := a3 d' h0 h1
      refine ⟨?_, fun u hu => ?_⟩
      · rw [List.nodup_append]
        refine ⟨c1, by simp, fun x hx z hz => ?_⟩
        rw [List.mem_singleton.mp hz]
        intro e
        subst e
        have := (c2 x hx).2.2.1
        omega
      · rw [e5, ec 4 u (by decide), ec 10 _ (by decide)]
        rcases List.mem_append.mp hu with hu | hu
        · have h3 := c2 u hu
          refine ⟨h3.1, h3.2.1, ?_, h3.2.2.2⟩
          split
          · rfl
          · exact h3.2.2.1
        · rw [List.mem_singleton.mp hu, if_pos rfl]
          exact ⟨ht0, ht1, rfl, h4, h10⟩
    · rw [if_neg ed]
      obtain ⟨c1, c2⟩ := a3 d' h0 h1
      refine ⟨c1, fun u hu => ?_⟩
      have h3 := c2 u hu
      rw [e5, if_neg (fun e => by subst e; omega), ec 4 u (by decide), ec 10 _ (by decide)]
      exact h3
  · rw [ec 28 d' (by decide), e2]
    rw [ec 18 d' (by decide)] at hne
    have h7 := a7 d' h0 h1 hne
    by_cases ed : d' = d
    · subst ed
      rw [if_pos rfl]
      exact ⟨h7.1, fun hp => List.mem_append_left _ (h7.2 hp)⟩
    · rw [if_neg ed]
      exact h7
  · rw [ec 18 d (by decide)] at h6
    rw [ec 24 d (by decide), ec 19 d (by decide)]
    exact a8 d h0 h1 h6
