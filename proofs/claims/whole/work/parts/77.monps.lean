/-- one of the line is woken, on both sides -/
theorem wk1_sim {κ : aS} {τ : bS} {d x : Int} {m1 m2 : List Int} (hd0 : 0 ≤ d) (hd1 : d < 12) (hC : CR κ τ) (hI : WI τ) (hl : τ.2 d = m1 ++ x :: m2) : CR (c_wk1 κ d (m1.length : Int)) (b_wk1 τ d x) ∧ (b_wk1 τ d x).2 d = m1 ++ m2 ++ [x] ∧ ∀ e, e ≠ d → (b_wk1 τ d x).2 e = τ.2 e := by
  have hlen := hI.len
  obtain ⟨⟨q1, q5, q7, q17, q17n, qlog, q15, qsp, qP, qPr⟩, hL⟩ := hC
  obtain ⟨a1, a2, a3, a4, a5⟩ := hL d hd0 hd1
  have hnd : x ∉ m1 ∧ x ∉ m2 := by
    rw [hl] at a4
    have := List.nodup_append.mp a4
    exact ⟨fun z => this.2.2 x z x List.mem_cons_self rfl, (List.nodup_cons.mp this.2.1).1⟩
  have xO : OKt τ x := a5 x (by rw [hl]; simp)
  have hxd : x ∈ τ.2 d := by rw [hl]; simp
  have e2 : (b_wk1 τ d x).2 d = m1 ++ m2 ++ [x] := by
    show (if d = d then (τ.2 d).erase x ++ [x] else τ.2 d) = _
    rw [if_pos rfl, hl, List.erase_append_right _ hnd.1, List.erase_cons_head]
  have e2o : ∀ e, e ≠ d → (b_wk1 τ d x).2 e = τ.2 e := fun e he => if_neg he
  have eC : ∀ (c : Nat) (i : Int), c ≠ 9 → (b_wk1 τ d x).1 c i = τ.1 c i := fun c i hc => b_wk1_c _ _ _ _ _ hc
  have e9 : ∀ i, (b_wk1 τ d x).1 9 i = if i = x then 1 else τ.1 9 i := fun i => pu_up_c _ _ _ _ _
  have e22 : κ 22 (16 * d + (m1.length : Int)) = b_s τ x := a2 m1.length x (by rw [hl]; simp)
  have ek : ∀ (c : Nat) (i : Int), c ≠ 22 → c ≠ 42 → c_wk1 κ d (m1.length : Int) c i = κ c i := fun c i h1 h2 => c_wk1_c _ _ _ _ _ ⟨h1, h2⟩
  have ek42 : ∀ i, c_wk1 κ d (m1.length : Int) 42 i = if i = 16 * d + x then -1 else κ 42 i := fun i => by
    unfold c_wk1
    rw [pu_up_c, e22, bs_div xO, c_move_c _ _ _ _ _ (by decide)]
  have hll : (τ.2 d).length = m1.length + m2.length + 1 := by rw [hl]; simp; omega
  have ek22 : ∀ i, c_wk1 κ d (m1.length : Int) 22 i = if i = 16 * d + (κ 23 d - 1) then b_s τ x else if 16 * d + (m1.length : Int) ≤ i ∧ i < 16 * d + (κ 23 d - 1) then κ 22 (i + 1) else κ 22 i := fun i => by
    unfold c_wk1 c_move
    rw [pu_up_ne _ _ _ _ (by decide), pu_up_c, e22]
    split
    · rfl
    · unfold q_shift
      simp only [true_and]
  have ebs : ∀ z, b_s (b_wk1 τ d x) z = b_s τ z := fun z => by unfold b_s; rw [eC 4 z (by decide)]
  have ewt : wt (b_wk1 τ d x) = wt τ := funext fun z => by unfold wt; rw [ebs, eC 14 _ (by decide)]
  have mem2 : ∀ z, z ∈ m1 ++ m2 ++ [x] ↔ z ∈ τ.2 d := fun z => by
    rw [hl]
    simp only [List.mem_append, List.mem_cons, List.mem_singleton, List.not_mem_nil, or_false]
    constructor
    · rintro ((h | h) | h)
      · exact Or.inl h
      · exact Or.inr (Or.inr h)
      · exact Or.inr (Or.inl h)
    · rintro (h | h | h)
      · exact Or.inl (Or.inl h)
      · exact Or.inr h
      · exact Or.inl (Or.inr h)
  refine ⟨⟨⟨fun c i hc => ?_, fun z => ?_, fun z => ?_, (fun z hz => by cases hz), fun s _ => ?_, fun c i hc => ?_, fun s => ?_, fun e e0 e1 => ?_, List.nodup_nil, (fun z hz => by cases hz)⟩, fun e e0 e1 => ?_⟩, e2, e2o⟩
  · have n42 : c ≠ 42 ∧ c ≠ 9 := by
      refine ⟨?_, ?_⟩ <;> (intro e; subst e; exact absurd hc (by decide))
    rw [ek c i (mr_ne hc).2.2.2.2.2.2.2.1 n42.1, eC c i n42.2]
    exact q1 c i hc
  · rw [eC 5 z (by decide), ek 5 z (by decide) (by decide)]
    exact q5 z
  · rw [eC 7 z (by decide), ek 7 z (by decide) (by decide), eC 2 0 (by decide)]
    exact q7 z
  · rw [eC 17 s (by decide), ek 17 s (by decide) (by decide)]
    exact q17n s (fun z hz => by cases hz)
  · rw [eC c i (by omega)]
    show _ = c_wk1 κ d (m1.length : Int) c i
    rw [ek c i (by omega) (by omega)]
    exact qlog c i hc
  · refine ⟨?_, UZ.tr s (fun i => eC 4 i (by decide)) (fun i => eC 3 i (by decide)) (q15 s).2 (fun _ _ => ek 15 s (by decide) (by decide)) (fun _ _ => eC 14 s (by decide))⟩
    rw [eC 15 s (by decide), eC 14 s (by decide), ek 15 s (by decide) (by decide)]
    exact (q15 s).1
  · obtain ⟨s1, s2⟩ := qsp e e0 e1
    have hm : ∀ z, z ∈ (b_wk1 τ d x).2 e → z ∈ τ.2 e := fun z hz => by
      by_cases ed : e = d
      · rw [ed, e2] at hz
        rw [ed]
        exact (mem2 z).mp hz
      · rw [e2o e ed] at hz
        exact hz
    unfold SP
    rw [eC 18 e (by decide)]
    refine ⟨fun h5 => ?_, fun z hz => ⟨fun h => ?_, fun h => ?_⟩⟩
    · rw [ek 43 e (by decide) (by decide), s1 h5]
      exact (b_lookers_congr e (fun i => eC 29 i (by decide))).symm
    · have hz2 := hm z hz
      have hnum : b_num (b_wk1 τ d x) z = b_num τ z := by
        unfold b_num
        rw [eC 4 z (by decide), eC 12 _ (by decide)]
      rw [ek42, e9, hnum]
      have zr := hI.rg e0 e1 z hz2
      have xr := hI.rg hd0 hd1 x hxd
      by_cases zx : z = x
      · have ed : e = d := by
          rw [zx] at hz2
          have h1 := ((hI.2.2.1 e e0 e1).2 x hz2).2.2.1
          have h2 := ((hI.2.2.1 d hd0 hd1).2 x hxd).2.2.1
          omega
        rw [if_pos (by rw [zx, ed]), if_pos zx, if_pos rfl]
      · rw [if_neg (by omega), if_neg zx]
        exact (s2 z hz2).1 h
    · rw [ebs, ek 15 _ (by decide) (by decide), eC 8 z (by decide)]
      exact (s2 z (hm z hz)).2 h
  · obtain ⟨b1, b2, b3, b4, b5⟩ := hL e e0 e1
    have hO : ∀ z, OKt τ z → OKt (b_wk1 τ d x) z := fun z hz => by
      unfold OKt
      rw [eC 4 z (by decide)]
      exact hz
    rw [ek 23 e (by decide) (by decide)]
    by_cases ed : e = d
    · subst ed
      rw [e2]
      refine ⟨by rw [b1, hll]; simp; omega, fun j z hz => ?_, ?_, ?_, fun z hz => hO z (b5 z ((mem2 z).mp hz))⟩
      · have hj : j < (m1 ++ m2 ++ [x]).length := (List.getElem?_eq_some_iff.mp hz).1
        have hj2 : j < m1.length + m2.length + 1 := by
          simp at hj
          omega
        rw [ek22, ebs, b1, hll]
        by_cases c1 : j = m1.length + m2.length
        · rw [if_pos (by omega)]
          rw [List.getElem?_append_right (by simp; omega)] at hz
          simp [c1] at hz
          rw [hz]
        · rw [if_neg (by omega)]
          rw [List.getElem?_append_left (by simp; omega)] at hz
          by_cases c2 : j < m1.length
          · rw [if_neg (by omega)]
            rw [List.getElem?_append_left c2] at hz
            exact a2 j z (by rw [hl, List.getElem?_append_left c2]; exact hz)
          · rw [if_pos (by omega)]
            rw [List.getElem?_append_right (by omega)] at hz
            have := a2 (j + 1) z (by
              rw [hl, List.getElem?_append_right (by omega), show j + 1 - m1.length = (j - m1.length) + 1 by omega, List.getElem?_cons_succ]
              exact hz)
            rw [← this]
            congr 1
            omega
      · rw [ewt]
        refine (List.filter_eq_self.mpr (fun z hz => ?_)).symm
        have hz2 := (mem2 z).mp hz
        rw [a3] at hz2
        exact (List.mem_filter.mp hz2).2
      · have hp : (m1 ++ m2 ++ [x]).Perm (τ.2 e) := by
          rw [hl, List.append_assoc]
          exact List.Perm.append_left m1 (List.perm_append_comm : (m2 ++ [x]).Perm ([x] ++ m2))
        exact hp.nodup_iff.mpr a4
    · rw [e2o e ed]
      refine ⟨b1, fun j z hz => ?_, by rw [ewt]; exact b3, b4, fun z hz => hO z (b5 z hz)⟩
      have hj := (List.getElem?_eq_some_iff.mp hz).1
      have h1 := hlen e e0 e1
      have h2 := hlen d hd0 hd1
      rw [ek22, ebs, a1, if_neg (by omega), if_neg (by omega)]
      exact b2 j z hz
