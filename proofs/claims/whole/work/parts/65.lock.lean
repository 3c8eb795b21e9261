theorem b_sum_nn {f : Int → Int} : ∀ k : Nat, (∀ i : Int, 0 ≤ i → i < k → 0 ≤ f i) → 0 ≤ b_sum f k := by
  intro k
  induction k with
  | zero => intro _; exact Int.le_refl _
  | succ k ih =>
    intro hp
    rw [b_sum]
    have h1 := ih (fun i h0 h1 => hp i h0 (by omega))
    have h2 := hp k (by omega) (by omega)
    omega
theorem b_sum_ext {f g : Int → Int} : ∀ k : Nat, (∀ i : Int, 0 ≤ i → i < k → f i = g i) → b_sum f k = b_sum g k := by
  intro k
  induction k with
  | zero => intro _; rfl
  | succ k ih =>
    intro hp
    rw [b_sum, b_sum, ih (fun i h0 h1 => hp i h0 (by omega)), hp k (by omega) (by omega)]
theorem b_sum_up {f g : Int → Int} {x : Int} (h : ∀ t : Int, t ≠ x → g t = f t) : ∀ k : Nat, b_sum g k = b_sum f k + (if 0 ≤ x ∧ x < k then g x - f x else 0) := by
  intro k
  induction k with
  | zero =>
    rw [if_neg (by omega)]
    rfl
  | succ k ih =>
    rw [b_sum, b_sum, ih]
    by_cases hx : x = k
    · rw [if_neg (by omega), if_pos (by omega), hx]
      omega
    · rw [h k (fun e => hx e.symm)]
      by_cases h2 : 0 ≤ x ∧ x < k
      · rw [if_pos h2, if_pos (by omega)]
        omega
      · rw [if_neg h2, if_neg (by omega)]
        omega
theorem b_sum_zero {f : Int → Int} : ∀ k : Nat, (∀ i : Int, 0 ≤ i → i < k → 0 ≤ f i) → b_sum f k = 0 → ∀ i : Int, 0 ≤ i → i < k → f i = 0 := by
  intro k
  induction k with
  | zero => intro _ _ i h0 h1; omega
  | succ k ih =>
    intro hp hs i h0 h1
    rw [b_sum] at hs
    have h2 : 0 ≤ b_sum f k := by
      have := b_sum_nn k (fun i h0 h1 => hp i h0 (by omega))
      exact this
    have h3 := hp k (by omega) (by omega)
    by_cases hi : i = k
    · rw [hi]
      omega
    · exact ih (fun i h0 h1 => hp i h0 (by omega)) (by omega) i h0 (by omega)
theorem b_look_up {τ : bS} {d x v : Int} (h0 : 0 ≤ x) (h1 : x < 16) : b_lookers (b_up τ 29 (16 * d + x) v) d = b_lookers τ d - τ.1 29 (16 * d + x) + v := by
  have e : ∀ t : Int, t ≠ x → (b_up τ 29 (16 * d + x) v).1 29 (16 * d + t) = τ.1 29 (16 * d + t) := fun t ht => by
    show pu_up τ.1 29 _ v 29 _ = _
    rw [pu_up_c, if_neg (by omega)]
  unfold b_lookers
  rw [b_sum_up (f := fun t => τ.1 29 (16 * d + t)) (g := fun t => (b_up τ 29 (16 * d + x) v).1 29 (16 * d + t)) (x := x) e 16, if_pos (by omega)]
  have e2 : (b_up τ 29 (16 * d + x) v).1 29 (16 * d + x) = v := pu_up_at _ _ _ _
  rw [e2]
  omega
theorem b_look_oth {τ : bS} {d e x v : Int} (h0 : 0 ≤ x) (h1 : x < 16) (he : e ≠ d) : b_lookers (b_up τ 29 (16 * d + x) v) e = b_lookers τ e := by
  unfold b_lookers
  refine b_sum_ext 16 (fun t h2 h3 => ?_)
  show pu_up τ.1 29 _ v 29 _ = _
  rw [pu_up_c, if_neg (by omega)]
theorem b_look_rg {τ : bS} (hI : WI τ) {d : Int} (hd0 : 0 ≤ d) (hd1 : d < 12) : 0 ≤ b_lookers τ d ∧ b_lookers τ d ≤ 16 := by
  have := b_sum_le (f := fun t => τ.1 29 (16 * d + t)) (b := 1) (by decide) 16 (fun i hi => by
    have := hI.2.2.2.2.2.1 (16 * d + i) (by omega) (by omega)
    exact ⟨this.1, this.2.1⟩)
  unfold b_lookers
  omega
theorem b_look_0 {τ : bS} (hI : WI τ) {d : Int} (hd0 : 0 ≤ d) (hd1 : d < 12) (h : b_lookers τ d = 0) : ∀ i, 0 ≤ i → i < 16 → τ.1 29 (16 * d + i) = 0 :=
  b_sum_zero (f := fun t => τ.1 29 (16 * d + t)) 16 (fun i h0 h1 => (hI.2.2.2.2.2.1 (16 * d + i) (by omega) (by omega)).1) h
/-- a looker comes or goes, on both sides -/
theorem Mq.look {κ : aS} {τ : bS} {d : Int} {Λ : Int → List Int} {pre P : List Int} (h : Mq κ τ d Λ pre P) {x v w : Int} (x0 : 0 ≤ x) (x1 : x < 16) (hI : WI (b_up τ 29 (16 * d + x) v)) (hw : w = b_lookers τ d - τ.1 29 (16 * d + x) + v) : Mq (pu_up (pu_up κ 29 (16 * d + x) v) 43 d w) (b_up τ 29 (16 * d + x) v) d Λ pre P := by
  obtain ⟨⟨m1, m5, m7, m17, m17n, mlog, m15, msp, mP, mPr⟩, hL, hP, _, he⟩ := h
  have eC : ∀ (c' : Nat) (j : Int), c' ≠ 29 → (b_up τ 29 (16 * d + x) v).1 c' j = τ.1 c' j := fun c' j h' => b_up_c τ 29 _ v c' j h'
  have eK : ∀ (c' : Nat) (j : Int), c' ≠ 29 → c' ≠ 43 → pu_up (pu_up κ 29 (16 * d + x) v) 43 d w c' j = κ c' j := fun c' j h1 h2 => by rw [pu_up_ne _ _ _ _ h2, pu_up_ne _ _ _ _ h1]
  have ebs : ∀ z, b_s (b_up τ 29 (16 * d + x) v) z = b_s τ z := fun z => b_s_up _ _ _ _ (by decide)
  have ewf : wt (b_up τ 29 (16 * d + x) v) = wt τ := funext fun z => wt_up _ _ _ _ (by decide)
  have eps : ps (b_up τ 29 (16 * d + x) v) = ps τ := funext fun z => by unfold ps; rw [ebs, eC 14 _ (by decide)]
  have eO : ∀ z, OKt (b_up τ 29 (16 * d + x) v) z = OKt τ z := fun z => by unfold OKt; rw [eC 4 z (by decide)]
  refine ⟨⟨fun c' j hc' => ?_, fun z => ?_, fun z => ?_, fun z hz => ?_, fun s hs => ?_, fun c' j hc' => ?_, fun s => ?_, fun e he0 he1 => ?_, mP, fun z hz => ?_⟩, fun e he0 he1 => ?_, ?_, hI, he⟩
  · have h43 : c' ≠ 43 := by
      intro e
      subst e
      exact absurd hc' (by decide)
    rw [pu_up_ne _ _ _ _ h43]
    show pu_up κ 29 (16 * d + x) v c' j = pu_up τ.1 29 (16 * d + x) v c' j
    unfold pu_up
    rw [m1 c' j hc']
  · rw [eC 5 z (by decide), eK 5 z (by decide) (by decide)]
    exact m5 z
  · rw [eC 7 z (by decide), eK 7 z (by decide) (by decide), eC 2 0 (by decide)]
    exact m7 z
  · rw [ebs, eC 17 _ (by decide), eC 2 0 (by decide)]
    exact m17 z hz
  · rw [eC 17 _ (by decide), eK 17 _ (by decide) (by decide)]
    exact m17n s (fun z hz => by have := hs z hz; rw [ebs] at this; exact this)
  · rw [eC c' j (by omega), eps, mlog c' j hc']
    exact c_logs_congr _ (fun c2 j2 h2 => (eK c2 j2 (by omega) (by omega)).symm) c' j hc'
  · refine ⟨?_, UZ.tr s (fun i => eC 4 i (by decide)) (fun i => eC 3 i (by decide)) (m15 s).2 (fun _ _ => eK 15 s (by decide) (by decide)) (fun _ _ => eC 14 s (by decide))⟩
    rw [eC 15 s (by decide), eC 14 s (by decide), eK 15 s (by decide) (by decide)]
    exact (m15 s).1
  · obtain ⟨s1, s2⟩ := msp e he0 he1
    refine ⟨fun h5 => ?_, fun z hz => ⟨fun h => ?_, fun h => ?_⟩⟩
    · rw [eC 18 e (by decide)] at h5
      rw [pu_up_c]
      by_cases hed : e = d
      · subst hed
        rw [if_pos rfl, b_look_up x0 x1, hw]
      · rw [if_neg hed, pu_up_ne _ _ _ _ (by decide), s1 h5, b_look_oth x0 x1 hed]
    · rw [eC 18 e (by decide)] at h
      rw [eK 42 _ (by decide) (by decide), (s2 z hz).1 h, eC 9 z (by decide), b_num_up _ _ _ _ (by decide)]
    · rw [eC 18 e (by decide)] at h
      rw [ebs, eK 15 _ (by decide) (by decide), (s2 z hz).2 h, eC 8 z (by decide)]
  · rw [eO]
    exact mPr z hz
  · obtain ⟨a1, a2, a3, a4, a5⟩ := hL e he0 he1
    refine ⟨by rw [eK 23 e (by decide) (by decide)]; exact a1, fun j x hx => by rw [eK 22 _ (by decide) (by decide), ebs]; exact a2 j x hx, by rw [ewf]; exact a3, a4, fun x hx => by rw [eO]; exact a5 x hx⟩
  · unfold PO
    rw [eps, ewf]
    exact hP
theorem fw_sim {κ : aS} {τ : bS} {d a : Int} (m : ∀ (c : Nat) (i : Int), mr_c c = true → κ c i = τ.1 c i) : ∀ (l : List Int) (j : Int), (∀ (i : Nat) (x : Int), l[i]? = some x → κ 22 (16 * d + (j + i)) = b_s τ x) → c_fw κ d a l.length j = ((l.filter (wt τ)).find? (fun x => decide (b_act τ x = a))).map (b_s τ) := by
  intro l
  induction l with
  | nil => intro j _; rfl
  | cons x l ih =>
    intro j h
    have h0 : κ 22 (16 * d + j) = b_s τ x := by
      have := h 0 x rfl
      rw [← this]
      congr 1
      omega
    rw [List.length_cons, c_fw, h0, m 14 _ rfl, m 11 _ rfl]
    have ih' := ih (j + 1) (fun i z hz => by
      have := h (i + 1) z (by simpa using hz)
      rw [← this]
      congr 1
      omega)
    by_cases hw : τ.1 14 (b_s τ x) = 1
    · have hwt : wt τ x = true := by unfold wt; simpa using hw
      rw [List.filter_cons, if_pos hwt, List.find?_cons]
      by_cases ha : τ.1 11 (b_s τ x) = a
      · have ha2 : b_act τ x = a := ha
        rw [if_pos ⟨hw, ha⟩]
        simp [ha2]
      · have ha2 : ¬ b_act τ x = a := ha
        rw [if_neg (fun z => ha z.2), ih']
        simp [ha2]
    · have hwt : ¬ wt τ x = true := by unfold wt; simpa using hw
      rw [if_neg (fun z => hw z.1), ih', List.filter_cons, if_neg hwt]
theorem Mq.first {κ : aS} {τ : bS} {d : Int} {Λ : Int → List Int} {pre P : List Int} (h : Mq κ τ d Λ pre P) (hd0 : 0 ≤ d) (hd1 : d < 12) (a : Int) : c_first κ d a = ((τ.2 d).find? (fun x => decide (b_act τ x = a))).map (b_s τ) := by
  obtain ⟨a1, a2, a3, _⟩ := h.2.1 d hd0 hd1
  unfold c_first
  rw [a1, Int.toNat_natCast, a3]
  exact fw_sim h.1.1 _ 0 (fun i x hx => by rw [Int.zero_add]; exact a2 i x hx)
theorem l_find_uq {l : List Int} {p : Int → Bool} {x : Int} (hx : x ∈ l) (hp : p x = true) (hu : ∀ z ∈ l, p z = true → z = x) : l.find? p = some x := by
  cases hf : l.find? p with
  | none =>
    have := List.find?_eq_none.mp hf x hx
    exact absurd hp this
  | some z =>
    have h1 := List.find?_some hf
    have h2 := List.mem_of_find?_eq_some hf
    rw [hu z h2 h1]
theorem b_act_out (τ : bS) (x o v z : Int) : b_act (b_out τ x o v) z = b_act τ z := by
  unfold b_act
  rw [b_out_s, b_out_c _ _ _ _ _ _ (by decide)]
theorem b_act_up (τ : bS) {c : Nat} (i v z : Int) (hc : c ≠ 4 ∧ c ≠ 11) : b_act (b_up τ c i v) z = b_act τ z := by
  unfold b_act
  rw [b_s_up _ _ _ _ hc.1, b_up_c _ _ _ _ _ _ (Ne.symm hc.2)]
theorem b_out_28 (τ : bS) (x o v e : Int) : (b_out τ x o v).1 28 e = if e = τ.1 5 x ∧ τ.1 28 (τ.1 5 x) = x then -1 else τ.1 28 e := by
  rw [b_out_e _ _ _ _ _ _ (by decide), q_ends_c _ _ _ _ _ _ (by decide), q_left_28]
/-- what the lock's line holds when x has gone and the entries of who looks and who uses have changed -/
theorem JA.lock {τ τ1 : bS} {d x : Int} (hJ : JA τ) (hI : WI τ) (hI1 : WI τ1) (hd0 : 0 ≤ d) (hd1 : d < 12) (hk : τ.1 18 d = 5) (hx : x ∈ τ.2 d) (h2 : τ1.2 = τ.2) (hc : ∀ (c : Nat) (i : Int), c ≠ 26 → c ≠ 29 → τ1.1 c i = τ.1 c i) (h26 : ∀ i, i ≠ d → τ1.1 26 i = τ.1 26 i) (h29 : ∀ i, i ≠ 16 * d + x → τ1.1 29 i = τ.1 29 i) (hu : -1 ≤ τ1.1 26 d ∧ τ1.1 26 d < 16 ∧ (0 ≤ τ1.1 26 d → ∀ i, 0 ≤ i → i < 16 → τ1.1 29 (16 * d + i) = 0)) : JA (b_out τ1 x 0 0) := by
  intro e e0 e1
  have hx1 : x ∈ τ1.2 d := by rw [h2]; exact hx
  have xr := hI.rg hd0 hd1 x hx
  by_cases ed : e = d
  · subst ed
    have hj := hJ e e0 e1
    obtain ⟨k1, k2, k3, k4⟩ := hj.2.2.2.1 hk
    have x5 : τ1.1 5 x = e := ((hI1.2.2.1 e e0 e1).2 x hx1).2.2.1
    have eA : ∀ z, b_act τ1 z = b_act τ z := fun z => by
      unfold b_act b_s
      rw [hc 4 _ (by decide) (by decide), hc 11 _ (by decide) (by decide)]
    have hsub : ∀ z ∈ (b_out τ1 x 0 0).2 e, z ∈ τ.2 e ∧ z ≠ x := fun z hz => by
      rw [b_out_2, x5, if_pos rfl, h2] at hz
      refine ⟨List.mem_of_mem_erase hz, fun e1 => ?_⟩
      subst e1
      exact absurd hz (List.Nodup.not_mem_erase (hI.2.2.1 e e0 e1).1)
    refine JK.k5 ?_ ⟨?_, ?_, fun hz i i0 i1 => ?_, fun z hz => ?_⟩ ⟨?_, fun h => ?_⟩
    · rw [b_out_c _ _ _ _ _ _ (by decide), hc 18 e (by decide) (by decide)]
      exact hk
    · rw [b_out_c _ _ _ _ _ _ (by decide)]
      exact hu.1
    · rw [b_out_c _ _ _ _ _ _ (by decide)]
      exact hu.2.1
    · rw [b_out_c _ _ _ _ _ _ (by decide)] at hz ⊢
      exact hu.2.2 hz i i0 i1
    · obtain ⟨z1, z2⟩ := hsub z hz
      obtain ⟨q1, q2, q3⟩ := k4 z z1
      have zr := hI.rg e0 e1 z z1
      rw [b_act_out, eA, b_out_c _ _ _ _ 29 _ (by decide), h29 _ (by omega), b_out_28, x5, hc 28 e (by decide) (by decide)]
      refine ⟨q1, ?_, q3⟩
      by_cases c1 : τ.1 28 e = x
      · rw [if_pos ⟨rfl, c1⟩]
        constructor
        · intro h
          have := q2.mp h
          omega
        · intro h
          omega
      · rw [if_neg (fun h => c1 h.2)]
        exact q2
    · rw [b_out_c _ _ _ _ _ _ (by decide), hc 20 e (by decide) (by decide)]
      exact hj.c.1
    · rw [b_out_c _ _ _ _ _ _ (by decide), hc 20 e (by decide) (by decide)] at h
      have := hj.c.2 h
      rw [this] at hx
      cases hx
  · have hj1 : JK τ1 e := (hJ e e0 e1).sub (hI.rg e0 e1) (fun c hc' => by
      by_cases c26 : c = 26
      · rw [c26]
        exact h26 e ed
      · exact hc c e c26 (by omega)) (Or.inl (hc 28 e (by decide) (by decide))) (fun i i0 i1 => h29 _ (by omega)) (fun z hz => by rw [h2] at hz; exact hz) (by rw [h2]; exact Nat.le_refl _) (fun z _ => ⟨hc 4 z (by decide) (by decide), hc 9 z (by decide) (by decide)⟩) (fun s => hc 11 s (by decide) (by decide)) (fun s => hc 12 s (by decide) (by decide)) (Int.le_of_eq (by
        congr 1
        funext t
        exact (hc 4 t (by decide) (by decide)).symm))
    exact hj1.out hI1 e0 e1 hd0 hd1 hx1 0 0
