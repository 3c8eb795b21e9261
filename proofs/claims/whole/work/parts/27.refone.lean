def b_num (τ : bS) (t : Int) : Int := τ.1 12 (20 * t + τ.1 4 t - 1)
def b_perm (τ : bS) (d : Int) (x : Option Int) : Option bS := match x with
  | none => none
  | some t => some (b_goes (b_up τ 24 d (jm_wr (τ.1 24 d - b_num τ t))) t (jm_wr (τ.1 24 d - b_num τ t)))
def b_tick (τ : bS) (x : Option Int) : Option bS := match x with
  | none => none
  | some t => some (b_goes τ t 0)
def b_letsOne (τ : bS) (d : Int) : Option bS := match τ.2 d with
  | [] => none
  | f :: l =>
    if τ.1 18 d = 0 then b_perm τ d ((f :: l).find? (fun t => decide (b_num τ t ≤ τ.1 24 d)))
    else if τ.1 18 d = 1 then b_perm τ d ([f].find? (fun t => decide (b_num τ t ≤ τ.1 24 d)))
    else if τ.1 18 d = 2 then (if 0 < τ.1 24 d then none else some (b_goes τ f 0))
    else if τ.1 18 d = 5 then b_letsLock τ d f
    else if τ.1 18 d = 7 then b_tick τ ((f :: l).find? (fun t => decide (b_num τ t < τ.1 27 d)))
    else if τ.1 18 d = 8 then (if τ.1 25 d = 0 then none else some (b_goes τ f (τ.1 27 d)))
    else if τ.1 18 d = 10 then (if τ.1 25 d = 1 then none else some (b_goes τ f 0))
    else if τ.1 18 d = 11 then (if 0 ≤ τ.1 26 d then none else if b_first τ d < 0 then none else some (b_goes (b_up τ 26 d (b_first τ d)) (b_first τ d) 0))
    else none
set_option maxHeartbeats 4000000 in
theorem R_one_91 {y : jLay} {κ σ : aS} {g : jH} {n : Nat} {τ : bS} (hw : pm_WF y) (hn : 1000 ≤ n) (hR : RO σ τ) (hI : WI τ) {d : Int} (hd0 : 0 ≤ d) (hd1 : d < 12) (hk : τ.1 18 d = 0 ∨ τ.1 18 d = 1) (m : Nat) (hm : m = if τ.1 18 d = 0 then (τ.2 d).length else 1) (hm1 : m ≤ (τ.2 d).length) : ∀ (k fuel j : Nat) (x : Option jV), j + k = m → 2 * k + 5 ≤ fuel → b_ans σ y κ g (jk_fix (kX12_letsOneGo_b n) fuel 91 [some (.inr (some (y.2 13 0))), some (.inl d), some (.inl ((τ.2 d).length : Int)), none, some (.inl (j : Int)), x] [] (pu_H y κ σ g)) (b_perm τ d ((((τ.2 d).take m).drop j).find? (fun t => decide (b_num τ t ≤ τ.1 24 d)))) := by
  have v18 := hR.1 18 d (by decide) (by decide)
  have v24 := hR.1 24 d (by decide) (by decide)
  have hl := hI.len d hd0 hd1
  -- the bound that the code computes
  have hb : ∀ (fuel j : Nat) (x : Option jV), 2 ≤ fuel → jk_fix (kX12_letsOneGo_b n) fuel 91 [some (.inr (some (y.2 13 0))), some (.inl d), some (.inl ((τ.2 d).length : Int)), none, some (.inl (j : Int)), x] [] (pu_H y κ σ g) = jk_fix (kX12_letsOneGo_b n) (fuel - 1) 107 [some (.inr (some (y.2 13 0))), some (.inl d), some (.inl ((τ.2 d).length : Int)), none, some (.inl (j : Int)), none] [.inl (m : Int), .inl (j : Int)] (pu_H y κ σ g) := by
    intro fuel j x hf
    rw [jk_fix_pos (by omega)]
    simp only [kX12_letsOneGo_b, kX12_letsOneGo_91, Nat.reduceEqDiff, if_false, if_true]
    rcases hk with hk | hk
    · have w18 : σ 18 d = 0 := by rw [v18, hk]
      rw [if_pos hk] at hm
      subst hm
      simp (disch := first | omega | (simp only [List.length_cons, List.length_nil]; omega) | assumption) only [jk_none, jk_int, jk_null, jk_iload, jk_aload, jk_istore, jk_astore, jk_kill, jk_iinc, jk_iadd, jk_isub, jk_imul, jk_dup, jk_dup2, jk_ifeq, jk_ifne, jk_iflt, jk_ifge, jk_ifgt, jk_ifle, jk_icmpeq, jk_icmpne, jk_icmplt, jk_icmpge, jk_icmpgt, jk_icmple, jk_iret, jz_0, jz_1, jk_vret, jk_aret, jk_ifnull, jk_ifnonnull, List.getElem?_cons_zero, List.getElem?_cons_succ, List.set_cons_zero, List.set_cons_succ, List.length_cons, List.length_nil, jm_wr_id, pb_none, pb_int, pg_3 hw, pl_3 hw, ps_3 hw, pg_4 hw, pl_4 hw, ps_4 hw, pg_5 hw, pl_5 hw, ps_5 hw, pg_6 hw, pl_6 hw, ps_6 hw, pg_7 hw, pl_7 hw, ps_7 hw, pg_8 hw, pl_8 hw, ps_8 hw, pg_9 hw, pl_9 hw, ps_9 hw, pg_10 hw, pl_10 hw, ps_10 hw, pg_11 hw, pl_11 hw, ps_11 hw, pg_12 hw, pl_12 hw, ps_12 hw, pg_13 hw, pl_13 hw, ps_13 hw, pg_14 hw, pl_14 hw, ps_14 hw, pg_15 hw, pl_15 hw, ps_15 hw, pg_16 hw, pl_16 hw, ps_16 hw, pg_17 hw, pl_17 hw, ps_17 hw, pg_18 hw, pl_18 hw, ps_18 hw, pg_19 hw, pl_19 hw, ps_19 hw, pg_20 hw, pl_20 hw, ps_20 hw, pg_21 hw, pl_21 hw, ps_21 hw, pg_22 hw, pl_22 hw, ps_22 hw, pg_23 hw, pl_23 hw, ps_23 hw, pg_24 hw, pl_24 hw, ps_24 hw, pg_25 hw, pl_25 hw, ps_25 hw, pg_26 hw, pl_26 hw, ps_26 hw, pg_27 hw, pl_27 hw, ps_27 hw, pg_28 hw, pl_28 hw, ps_28 hw, pg_29 hw, pl_29 hw, ps_29 hw, pg_30 hw, pl_30 hw, ps_30 hw, pg_31 hw, pl_31 hw, ps_31 hw, pg_32 hw, pl_32 hw, ps_32 hw, pg_33 hw, pm_bald hw, pm_bast hw, pg_34 hw, pl_34 hw, ps_34 hw, pg_35 hw, pl_35 hw, ps_35 hw, pg_36 hw, pl_36 hw, ps_36 hw, pg_0 hw, ps_0 hw, pg_1 hw, ps_1 hw, pg_2 hw, ps_2 hw, pg_37 hw, ps_37 hw, pg_38 hw, ps_38 hw, pc_0 hw, pc_1 hw, pc_2 hw, pc_3 hw, pc_4 hw, pc_5 hw, pu_up_ne, pu_up_at, w18, if_true]
    · have w18 : σ 18 d = 1 := by rw [v18, hk]
      rw [if_neg (by omega)] at hm
      subst hm
      have w1 : ¬ ((1 : Int) = 0) := by decide
      simp (disch := first | omega | (simp only [List.length_cons, List.length_nil]; omega) | assumption) only [jk_none, jk_int, jk_null, jk_iload, jk_aload, jk_istore, jk_astore, jk_kill, jk_iinc, jk_iadd, jk_isub, jk_imul, jk_dup, jk_dup2, jk_ifeq, jk_ifne, jk_iflt, jk_ifge, jk_ifgt, jk_ifle, jk_icmpeq, jk_icmpne, jk_icmplt, jk_icmpge, jk_icmpgt, jk_icmple, jk_iret, jz_0, jz_1, jk_vret, jk_aret, jk_ifnull, jk_ifnonnull, List.getElem?_cons_zero, List.getElem?_cons_succ, List.set_cons_zero, List.set_cons_succ, List.length_cons, List.length_nil, jm_wr_id, pb_none, pb_int, pg_3 hw, pl_3 hw, ps_3 hw, pg_4 hw, pl_4 hw, ps_4 hw, pg_5 hw, pl_5 hw, ps_5 hw, pg_6 hw, pl_6 hw, ps_6 hw, pg_7 hw, pl_7 hw, ps_7 hw, pg_8 hw, pl_8 hw, ps_8 hw, pg_9 hw, pl_9 hw, ps_9 hw, pg_10 hw, pl_10 hw, ps_10 hw, pg_11 hw, pl_11 hw, ps_11 hw, pg_12 hw, pl_12 hw, ps_12 hw, pg_13 hw, pl_13 hw, ps_13 hw, pg_14 hw, pl_14 hw, ps_14 hw, pg_15 hw, pl_15 hw, ps_15 hw, pg_16 hw, pl_16 hw, ps_16 hw, pg_17 hw, pl_17 hw, ps_17 hw, pg_18 hw, pl_18 hw, ps_18 hw, pg_19 hw, pl_19 hw, ps_19 hw, pg_20 hw, pl_20 hw, ps_20 hw, pg_21 hw, pl_21 hw, ps_21 hw, pg_22 hw, pl_22 hw, ps_22 hw, pg_23 hw, pl_23 hw, ps_23 hw, pg_24 hw, pl_24 hw, ps_24 hw, pg_25 hw, pl_25 hw, ps_25 hw, pg_26 hw, pl_26 hw, ps_26 hw, pg_27 hw, pl_27 hw, ps_27 hw, pg_28 hw, pl_28 hw, ps_28 hw, pg_29 hw, pl_29 hw, ps_29 hw, pg_30 hw, pl_30 hw, ps_30 hw, pg_31 hw, pl_31 hw, ps_31 hw, pg_32 hw, pl_32 hw, ps_32 hw, pg_33 hw, pm_bald hw, pm_bast hw, pg_34 hw, pl_34 hw, ps_34 hw, pg_35 hw, pl_35 hw, ps_35 hw, pg_36 hw, pl_36 hw, ps_36 hw, pg_0 hw, ps_0 hw, pg_1 hw, ps_1 hw, pg_2 hw, ps_2 hw, pg_37 hw, ps_37 hw, pg_38 hw, ps_38 hw, pc_0 hw, pc_1 hw, pc_2 hw, pc_3 hw, pc_4 hw, pc_5 hw, pu_up_ne, pu_up_at, w18, w1, if_false]
      rfl
  intro k
  induction k with
  | zero =>
    intro fuel j x hj hf
    have hd : ((τ.2 d).take m).drop j = [] := List.drop_eq_nil_of_le (by rw [List.length_take]; omega)
    rw [hd, hb fuel j x (by omega)]
    have hc : ¬ (j : Int) < (m : Int) := by omega
    show _ = _
    rw [jk_fix_pos (by omega)]
    simp only [kX12_letsOneGo_b, kX12_letsOneGo_107, Nat.reduceEqDiff, if_false, if_true]
    simp (disch := first | omega | (simp only [List.length_cons, List.length_nil]; omega) | assumption) only [jk_none, jk_int, jk_null, jk_iload, jk_aload, jk_istore, jk_astore, jk_kill, jk_iinc, jk_iadd, jk_isub, jk_imul, jk_dup, jk_dup2, jk_ifeq, jk_ifne, jk_iflt, jk_ifge, jk_ifgt, jk_ifle, jk_icmpeq, jk_icmpne, jk_icmplt, jk_icmpge, jk_icmpgt, jk_icmple, jk_iret, jz_0, jz_1, jk_vret, jk_aret, jk_ifnull, jk_ifnonnull, List.getElem?_cons_zero, List.getElem?_cons_succ, List.set_cons_zero, List.set_cons_succ, List.length_cons, List.length_nil, jm_wr_id, pb_none, pb_int, pg_3 hw, pl_3 hw, ps_3 hw, pg_4 hw, pl_4 hw, ps_4 hw, pg_5 hw, pl_5 hw, ps_5 hw, pg_6 hw, pl_6 hw, ps_6 hw, pg_7 hw, pl_7 hw, ps_7 hw, pg_8 hw, pl_8 hw, ps_8 hw, pg_9 hw, pl_9 hw, ps_9 hw, pg_10 hw, pl_10 hw, ps_10 hw, pg_11 hw, pl_11 hw, ps_11 hw, pg_12 hw, pl_12 hw, ps_12 hw, pg_13 hw, pl_13 hw, ps_13 hw, pg_14 hw, pl_14 hw, ps_14 hw, pg_15 hw, pl_15 hw, ps_15 hw, pg_16 hw, pl_16 hw, ps_16 hw, pg_17 hw, pl_17 hw, ps_17 hw, pg_18 hw, pl_18 hw, ps_18 hw, pg_19 hw, pl_19 hw, ps_19 hw, pg_20 hw, pl_20 hw, ps_20 hw, pg_21 hw, pl_21 hw, ps_21 hw, pg_22 hw, pl_22 hw, ps_22 hw, pg_23 hw, pl_23 hw, ps_23 hw, pg_24 hw, pl_24 hw, ps_24 hw, pg_25 hw, pl_25 hw, ps_25 hw, pg_26 hw, pl_26 hw, ps_26 hw, pg_27 hw, pl_27 hw, ps_27 hw, pg_28 hw, pl_28 hw, ps_28 hw, pg_29 hw, pl_29 hw, ps_29 hw, pg_30 hw, pl_30 hw, ps_30 hw, pg_31 hw, pl_31 hw, ps_31 hw, pg_32 hw, pl_32 hw, ps_32 hw, pg_33 hw, pm_bald hw, pm_bast hw, pg_34 hw, pl_34 hw, ps_34 hw, pg_35 hw, pl_35 hw, ps_35 hw, pg_36 hw, pl_36 hw, ps_36 hw, pg_0 hw, ps_0 hw, pg_1 hw, ps_1 hw, pg_2 hw, ps_2 hw, pg_37 hw, ps_37 hw, pg_38 hw, ps_38 hw, pc_0 hw, pc_1 hw, pc_2 hw, pc_3 hw, pc_4 hw, pc_5 hw, pu_up_ne, pu_up_at, hc, if_false]
  | succ k ih =>
    intro fuel j x hj hf
    rw [hb fuel j x (by omega)]
    have hc : (j : Int) < (m : Int) := by omega
    obtain ⟨t, ht, hmem⟩ := l_at (l := τ.2 d) (j := j) (by omega)
    have ht2 : ((τ.2 d).take m)[j]? = some t := by rw [List.getElem?_take_of_lt (by omega)]; exact ht
    rw [l_drop ht2, List.find?_cons]
    obtain ⟨ht0, ht1, h5, hbg, _⟩ := (hI.2.2.1 d hd0 hd1).2 t hmem
    have h5p : LV τ t := LV.of hd0 hd1 h5 hmem
    have e0 := R_inLine (κ := κ) (g := g) (n := n) hw hn hR hI hd0 hd1 ht
    have e1 := R_numberOf (κ := κ) (g := g) (n := n) hw hn hR hI ht0 ht1 hbg
    have en : τ.1 12 (20 * t + τ.1 4 t - 1) = b_num τ t := rfl
    rw [en] at e1
    by_cases c1 : b_num τ t ≤ τ.1 24 d
    · have c1n : ¬ τ.1 24 d < b_num τ t := by omega
      rw [decide_eq_true c1]
      have hRa := hR.up (c := 24) d (jm_wr (τ.1 24 d - b_num τ t)) (by decide) (by decide)
      have hIa := hI.up24 d (jm_wr (τ.1 24 d - b_num τ t)) (by omega)
      have h5u : LV (b_up τ 24 d (jm_wr (τ.1 24 d - b_num τ t))) t := h5p.same (b_up_c _ _ _ _ _ _ (by decide)) rfl
      obtain ⟨σ1, e3, hR1⟩ := R_goes (κ := κ) (g := g) (n := n) hw hn hRa hIa ht0 ht1 (jm_wr (τ.1 24 d - b_num τ t)) h5u
      refine ⟨σ1, ?_, hR1, hIa.goes _ ht0 ht1 h5u⟩
      generalize hz : jm_wr (τ.1 24 d - b_num τ t) = z at e3 ⊢
      rw [jk_fix_pos (by omega)]
      simp only [kX12_letsOneGo_b, kX12_letsOneGo_107, Nat.reduceEqDiff, if_false, if_true]
      simp (disch := first | omega | (simp only [List.length_cons, List.length_nil]; omega) | assumption) only [jk_none, jk_int, jk_null, jk_iload, jk_aload, jk_istore, jk_astore, jk_kill, jk_iinc, jk_iadd, jk_isub, jk_imul, jk_dup, jk_dup2, jk_ifeq, jk_ifne, jk_iflt, jk_ifge, jk_ifgt, jk_ifle, jk_icmpeq, jk_icmpne, jk_icmplt, jk_icmpge, jk_icmpgt, jk_icmple, jk_iret, jz_0, jz_1, jk_vret, jk_aret, jk_ifnull, jk_ifnonnull, List.getElem?_cons_zero, List.getElem?_cons_succ, List.set_cons_zero, List.set_cons_succ, List.length_cons, List.length_nil, jm_wr_id, pb_none, pb_int, pg_3 hw, pl_3 hw, ps_3 hw, pg_4 hw, pl_4 hw, ps_4 hw, pg_5 hw, pl_5 hw, ps_5 hw, pg_6 hw, pl_6 hw, ps_6 hw, pg_7 hw, pl_7 hw, ps_7 hw, pg_8 hw, pl_8 hw, ps_8 hw, pg_9 hw, pl_9 hw, ps_9 hw, pg_10 hw, pl_10 hw, ps_10 hw, pg_11 hw, pl_11 hw, ps_11 hw, pg_12 hw, pl_12 hw, ps_12 hw, pg_13 hw, pl_13 hw, ps_13 hw, pg_14 hw, pl_14 hw, ps_14 hw, pg_15 hw, pl_15 hw, ps_15 hw, pg_16 hw, pl_16 hw, ps_16 hw, pg_17 hw, pl_17 hw, ps_17 hw, pg_18 hw, pl_18 hw, ps_18 hw, pg_19 hw, pl_19 hw, ps_19 hw, pg_20 hw, pl_20 hw, ps_20 hw, pg_21 hw, pl_21 hw, ps_21 hw, pg_22 hw, pl_22 hw, ps_22 hw, pg_23 hw, pl_23 hw, ps_23 hw, pg_24 hw, pl_24 hw, ps_24 hw, pg_25 hw, pl_25 hw, ps_25 hw, pg_26 hw, pl_26 hw, ps_26 hw, pg_27 hw, pl_27 hw, ps_27 hw, pg_28 hw, pl_28 hw, ps_28 hw, pg_29 hw, pl_29 hw, ps_29 hw, pg_30 hw, pl_30 hw, ps_30 hw, pg_31 hw, pl_31 hw, ps_31 hw, pg_32 hw, pl_32 hw, ps_32 hw, pg_33 hw, pm_bald hw, pm_bast hw, pg_34 hw, pl_34 hw, ps_34 hw, pg_35 hw, pl_35 hw, ps_35 hw, pg_36 hw, pl_36 hw, ps_36 hw, pg_0 hw, ps_0 hw, pg_1 hw, ps_1 hw, pg_2 hw, ps_2 hw, pg_37 hw, ps_37 hw, pg_38 hw, ps_38 hw, pc_0 hw, pc_1 hw, pc_2 hw, pc_3 hw, pc_4 hw, pc_5 hw, pu_up_ne, pu_up_at, hc, if_true, if_false, e0, e1, v24, c1n, hz, e3]
    · have c1n : τ.1 24 d < b_num τ t := by omega
      rw [decide_eq_false c1]
      have e4 := ih (fuel - 1 - 1) (j + 1) (some (.inl t)) (by omega) (by omega)
      have e5 : ((j + 1 : Nat) : Int) = (j : Int) + 1 := rfl
      rw [e5] at e4
      rw [jk_fix_pos (by omega)]
      simp only [kX12_letsOneGo_b, kX12_letsOneGo_107, Nat.reduceEqDiff, if_false, if_true]
      simp (disch := first | omega | (simp only [List.length_cons, List.length_nil]; omega) | assumption) only [jk_none, jk_int, jk_null, jk_iload, jk_aload, jk_istore, jk_astore, jk_kill, jk_iinc, jk_iadd, jk_isub, jk_imul, jk_dup, jk_dup2, jk_ifeq, jk_ifne, jk_iflt, jk_ifge, jk_ifgt, jk_ifle, jk_icmpeq, jk_icmpne, jk_icmplt, jk_icmpge, jk_icmpgt, jk_icmple, jk_iret, jz_0, jz_1, jk_vret, jk_aret, jk_ifnull, jk_ifnonnull, List.getElem?_cons_zero, List.getElem?_cons_succ, List.set_cons_zero, List.set_cons_succ, List.length_cons, List.length_nil, jm_wr_id, pb_none, pb_int, pg_3 hw, pl_3 hw, ps_3 hw, pg_4 hw, pl_4 hw, ps_4 hw, pg_5 hw, pl_5 hw, ps_5 hw, pg_6 hw, pl_6 hw, ps_6 hw, pg_7 hw, pl_7 hw, ps_7 hw, pg_8 hw, pl_8 hw, ps_8 hw, pg_9 hw, pl_9 hw, ps_9 hw, pg_10 hw, pl_10 hw, ps_10 hw, pg_11 hw, pl_11 hw, ps_11 hw, pg_12 hw, pl_12 hw, ps_12 hw, pg_13 hw, pl_13 hw, ps_13 hw, pg_14 hw, pl_14 hw, ps_14 hw, pg_15 hw, pl_15 hw, ps_15 hw, pg_16 hw, pl_16 hw, ps_16 hw, pg_17 hw, pl_17 hw, ps_17 hw, pg_18 hw, pl_18 hw, ps_18 hw, pg_19 hw, pl_19 hw, ps_19 hw, pg_20 hw, pl_20 hw, ps_20 hw, pg_21 hw, pl_21 hw, ps_21 hw, pg_22 hw, pl_22 hw, ps_22 hw, pg_23 hw, pl_23 hw, ps_23 hw, pg_24 hw, pl_24 hw, ps_24 hw, pg_25 hw, pl_25 hw, ps_25 hw, pg_26 hw, pl_26 hw, ps_26 hw, pg_27 hw, pl_27 hw, ps_27 hw, pg_28 hw, pl_28 hw, ps_28 hw, pg_29 hw, pl_29 hw, ps_29 hw, pg_30 hw, pl_30 hw, ps_30 hw, pg_31 hw, pl_31 hw, ps_31 hw, pg_32 hw, pl_32 hw, ps_32 hw, pg_33 hw, pm_bald hw, pm_bast hw, pg_34 hw, pl_34 hw, ps_34 hw, pg_35 hw, pl_35 hw, ps_35 hw, pg_36 hw, pl_36 hw, ps_36 hw, pg_0 hw, ps_0 hw, pg_1 hw, ps_1 hw, pg_2 hw, ps_2 hw, pg_37 hw, ps_37 hw, pg_38 hw, ps_38 hw, pc_0 hw, pc_1 hw, pc_2 hw, pc_3 hw, pc_4 hw, pc_5 hw, pu_up_ne, pu_up_at, hc, if_true, if_false, e0, e1, v24, c1n]
      exact e4
set_option maxHeartbeats 4000000 in
theorem R_one_203 {y : jLay} {κ σ : aS} {g : jH} {n : Nat} {τ : bS} (hw : pm_WF y) (hn : 1000 ≤ n) (hR : RO σ τ) (hI : WI τ) {d : Int} (hd0 : 0 ≤ d) (hd1 : d < 12) : ∀ (k fuel j : Nat) (x z : Option jV), j + k = (τ.2 d).length → k + 5 ≤ fuel → b_ans σ y κ g (jk_fix (kX12_letsOneGo_b n) fuel 203 [some (.inr (some (y.2 13 0))), some (.inl d), some (.inl ((τ.2 d).length : Int)), z, some (.inl (j : Int)), x] [] (pu_H y κ σ g)) (b_tick τ (((τ.2 d).drop j).find? (fun t => decide (b_num τ t < τ.1 27 d)))) := by
  have v27 := hR.1 27 d (by decide) (by decide)
  have hl := hI.len d hd0 hd1
  intro k
  induction k with
  | zero =>
    intro fuel j x z hj hf
    have hd : (τ.2 d).drop j = [] := List.drop_eq_nil_of_le (by omega)
    rw [hd]
    have hc : ¬ (j : Int) < ((τ.2 d).length : Int) := by omega
    show _ = _
    rw [jk_fix_pos (by omega)]
    simp only [kX12_letsOneGo_b, kX12_letsOneGo_203, Nat.reduceEqDiff, if_false, if_true]
    simp (disch := first | omega | (simp only [List.length_cons, List.length_nil]; omega) | assumption) only [jk_none, jk_int, jk_null, jk_iload, jk_aload, jk_istore, jk_astore, jk_kill, jk_iinc, jk_iadd, jk_isub, jk_imul, jk_dup, jk_dup2, jk_ifeq, jk_ifne, jk_iflt, jk_ifge, jk_ifgt, jk_ifle, jk_icmpeq, jk_icmpne, jk_icmplt, jk_icmpge, jk_icmpgt, jk_icmple, jk_iret, jz_0, jz_1, jk_vret, jk_aret, jk_ifnull, jk_ifnonnull, List.getElem?_cons_zero, List.getElem?_cons_succ, List.set_cons_zero, List.set_cons_succ, List.length_cons, List.length_nil, jm_wr_id, pb_none, pb_int, pg_3 hw, pl_3 hw, ps_3 hw, pg_4 hw, pl_4 hw, ps_4 hw, pg_5 hw, pl_5 hw, ps_5 hw, pg_6 hw, pl_6 hw, ps_6 hw, pg_7 hw, pl_7 hw, ps_7 hw, pg_8 hw, pl_8 hw, ps_8 hw, pg_9 hw, pl_9 hw, ps_9 hw, pg_10 hw, pl_10 hw, ps_10 hw, pg_11 hw, pl_11 hw, ps_11 hw, pg_12 hw, pl_12 hw, ps_12 hw, pg_13 hw, pl_13 hw, ps_13 hw, pg_14 hw, pl_14 hw, ps_14 hw, pg_15 hw, pl_15 hw, ps_15 hw, pg_16 hw, pl_16 hw, ps_16 hw, pg_17 hw, pl_17 hw, ps_17 hw, pg_18 hw, pl_18 hw, ps_18 hw, pg_19 hw, pl_19 hw, ps_19 hw, pg_20 hw, pl_20 hw, ps_20 hw, pg_21 hw, pl_21 hw, ps_21 hw, pg_22 hw, pl_22 hw, ps_22 hw, pg_23 hw, pl_23 hw, ps_23 hw, pg_24 hw, pl_24 hw, ps_24 hw, pg_25 hw, pl_25 hw, ps_25 hw, pg_26 hw, pl_26 hw, ps_26 hw, pg_27 hw, pl_27 hw, ps_27 hw, pg_28 hw, pl_28 hw, ps_28 hw, pg_29 hw, pl_29 hw, ps_29 hw, pg_30 hw, pl_30 hw, ps_30 hw, pg_31 hw, pl_31 hw, ps_31 hw, pg_32 hw, pl_32 hw, ps_32 hw, pg_33 hw, pm_bald hw, pm_bast hw, pg_34 hw, pl_34 hw, ps_34 hw, pg_35 hw, pl_35 hw, ps_35 hw, pg_36 hw, pl_36 hw, ps_36 hw, pg_0 hw, ps_0 hw, pg_1 hw, ps_1 hw, pg_2 hw, ps_2 hw, pg_37 hw, ps_37 hw, pg_38 hw, ps_38 hw, pc_0 hw, pc_1 hw, pc_2 hw, pc_3 hw, pc_4 hw, pc_5 hw, pu_up_ne, pu_up_at, hc, if_false]
  | succ k ih =>
    intro fuel j x z hj hf
    have hc : (j : Int) < ((τ.2 d).length : Int) := by omega
    obtain ⟨t, ht, hmem⟩ := l_at (l := τ.2 d) (j := j) (by omega)
    rw [l_drop ht, List.find?_cons]
    obtain ⟨ht0, ht1, h5, hbg, _⟩ := (hI.2.2.1 d hd0 hd1).2 t hmem
    have h5p : LV τ t := LV.of hd0 hd1 h5 hmem
    have e0 := R_inLine (κ := κ) (g := g) (n := n) hw hn hR hI hd0 hd1 ht
    have e1 := R_numberOf (κ := κ) (g := g) (n := n) hw hn hR hI ht0 ht1 hbg
    have en : τ.1 12 (20 * t + τ.1 4 t - 1) = b_num τ t := rfl
    rw [en] at e1
    by_cases c1 : b_num τ t < τ.1 27 d
    · rw [decide_eq_true c1]
      obtain ⟨σ1, e3, hR1⟩ := R_goes (κ := κ) (g := g) (n := n) hw hn hR hI ht0 ht1 0 h5p
      refine ⟨σ1, ?_, hR1, hI.goes _ ht0 ht1 h5p⟩
      rw [jk_fix_pos (by omega)]
      simp only [kX12_letsOneGo_b, kX12_letsOneGo_203, Nat.reduceEqDiff, if_false, if_true]
      simp (disch := first | omega | (simp only [List.length_cons, List.length_nil]; omega) | assumption) only [jk_none, jk_int, jk_null, jk_iload, jk_aload, jk_istore, jk_astore, jk_kill, jk_iinc, jk_iadd, jk_isub, jk_imul, jk_dup, jk_dup2, jk_ifeq, jk_ifne, jk_iflt, jk_ifge, jk_ifgt, jk_ifle, jk_icmpeq, jk_icmpne, jk_icmplt, jk_icmpge, jk_icmpgt, jk_icmple, jk_iret, jz_0, jz_1, jk_vret, jk_aret, jk_ifnull, jk_ifnonnull, List.getElem?_cons_zero, List.getElem?_cons_succ, List.set_cons_zero, List.set_cons_succ, List.length_cons, List.length_nil, jm_wr_id, pb_none, pb_int, pg_3 hw, pl_3 hw, ps_3 hw, pg_4 hw, pl_4 hw, ps_4 hw, pg_5 hw, pl_5 hw, ps_5 hw, pg_6 hw, pl_6 hw, ps_6 hw, pg_7 hw, pl_7 hw, ps_7 hw, pg_8 hw, pl_8 hw, ps_8 hw, pg_9 hw, pl_9 hw, ps_9 hw, pg_10 hw, pl_10 hw, ps_10 hw, pg_11 hw, pl_11 hw, ps_11 hw, pg_12 hw, pl_12 hw, ps_12 hw, pg_13 hw, pl_13 hw, ps_13 hw, pg_14 hw, pl_14 hw, ps_14 hw, pg_15 hw, pl_15 hw, ps_15 hw, pg_16 hw, pl_16 hw, ps_16 hw, pg_17 hw, pl_17 hw, ps_17 hw, pg_18 hw, pl_18 hw, ps_18 hw, pg_19 hw, pl_19 hw, ps_19 hw, pg_20 hw, pl_20 hw, ps_20 hw, pg_21 hw, pl_21 hw, ps_21 hw, pg_22 hw, pl_22 hw, ps_22 hw, pg_23 hw, pl_23 hw, ps_23 hw, pg_24 hw, pl_24 hw, ps_24 hw, pg_25 hw, pl_25 hw, ps_25 hw, pg_26 hw, pl_26 hw, ps_26 hw, pg_27 hw, pl_27 hw, ps_27 hw, pg_28 hw, pl_28 hw, ps_28 hw, pg_29 hw, pl_29 hw, ps_29 hw, pg_30 hw, pl_30 hw, ps_30 hw, pg_31 hw, pl_31 hw, ps_31 hw, pg_32 hw, pl_32 hw, ps_32 hw, pg_33 hw, pm_bald hw, pm_bast hw, pg_34 hw, pl_34 hw, ps_34 hw, pg_35 hw, pl_35 hw, ps_35 hw, pg_36 hw, pl_36 hw, ps_36 hw, pg_0 hw, ps_0 hw, pg_1 hw, ps_1 hw, pg_2 hw, ps_2 hw, pg_37 hw, ps_37 hw, pg_38 hw, ps_38 hw, pc_0 hw, pc_1 hw, pc_2 hw, pc_3 hw, pc_4 hw, pc_5 hw, pu_up_ne, pu_up_at, hc, if_true, if_false, e0, e1, v27, c1, e3]
    · rw [decide_eq_false c1]
      have e4 := ih (fuel - 1) (j + 1) (some (.inl t)) none (by omega) (by omega)
      have e5 : ((j + 1 : Nat) : Int) = (j : Int) + 1 := rfl
      rw [e5] at e4
      rw [jk_fix_pos (by omega)]
      simp only [kX12_letsOneGo_b, kX12_letsOneGo_203, Nat.reduceEqDiff, if_false, if_true]
      simp (disch := first | omega | (simp only [List.length_cons, List.length_nil]; omega) | assumption) only [jk_none, jk_int, jk_null, jk_iload, jk_aload, jk_istore, jk_astore, jk_kill, jk_iinc, jk_iadd, jk_isub, jk_imul, jk_dup, jk_dup2, jk_ifeq, jk_ifne, jk_iflt, jk_ifge, jk_ifgt, jk_ifle, jk_icmpeq, jk_icmpne, jk_icmplt, jk_icmpge, jk_icmpgt, jk_icmple, jk_iret, jz_0, jz_1, jk_vret, jk_aret, jk_ifnull, jk_ifnonnull, List.getElem?_cons_zero, List.getElem?_cons_succ, List.set_cons_zero, List.set_cons_succ, List.length_cons, List.length_nil, jm_wr_id, pb_none, pb_int, pg_3 hw, pl_3 hw, ps_3 hw, pg_4 hw, pl_4 hw, ps_4 hw, pg_5 hw, pl_5 hw, ps_5 hw, pg_6 hw, pl_6 hw, ps_6 hw, pg_7 hw, pl_7 hw, ps_7 hw, pg_8 hw, pl_8 hw, ps_8 hw, pg_9 hw, pl_9 hw, ps_9 hw, pg_10 hw, pl_10 hw, ps_10 hw, pg_11 hw, pl_11 hw, ps_11 hw, pg_12 hw, pl_12 hw, ps_12 hw, pg_13 hw, pl_13 hw, ps_13 hw, pg_14 hw, pl_14 hw, ps_14 hw, pg_15 hw, pl_15 hw, ps_15 hw, pg_16 hw, pl_16 hw, ps_16 hw, pg_17 hw, pl_17 hw, ps_17 hw, pg_18 hw, pl_18 hw, ps_18 hw, pg_19 hw, pl_19 hw, ps_19 hw, pg_20 hw, pl_20 hw, ps_20 hw, pg_21 hw, pl_21 hw, ps_21 hw, pg_22 hw, pl_22 hw, ps_22 hw, pg_23 hw, pl_23 hw, ps_23 hw, pg_24 hw, pl_24 hw, ps_24 hw, pg_25 hw, pl_25 hw, ps_25 hw, pg_26 hw, pl_26 hw, ps_26 hw, pg_27 hw, pl_27 hw, ps_27 hw, pg_28 hw, pl_28 hw, ps_28 hw, pg_29 hw, pl_29 hw, ps_29 hw, pg_30 hw, pl_30 hw, ps_30 hw, pg_31 hw, pl_31 hw, ps_31 hw, pg_32 hw, pl_32 hw, ps_32 hw, pg_33 hw, pm_bald hw, pm_bast hw, pg_34 hw, pl_34 hw, ps_34 hw, pg_35 hw, pl_35 hw, ps_35 hw, pg_36 hw, pl_36 hw, ps_36 hw, pg_0 hw, ps_0 hw, pg_1 hw, ps_1 hw, pg_2 hw, ps_2 hw, pg_37 hw, ps_37 hw, pg_38 hw, ps_38 hw, pc_0 hw, pc_1 hw, pc_2 hw, pc_3 hw, pc_4 hw, pc_5 hw, pu_up_ne, pu_up_at, hc, if_true, if_false, e0, e1, v27, c1]
      exact e4
set_option maxHeartbeats 4000000 in
theorem R_letsOneGo {y : jLay} {κ σ : aS} {g : jH} {n : Nat} {τ : bS} (hw : pm_WF y) (hn : 1000 ≤ n) (hR : RO σ τ) (hI : WI τ) {d : Int} (hd0 : 0 ≤ d) (hd1 : d < 12) : b_ans σ y κ g (fX12_letsOneGo n [.inr (some (y.2 13 0)), .inl d] (pu_H y κ σ g)) (b_letsOne τ d) := by
  have v18 := hR.1 18 d (by decide) (by decide)
  have v24 := hR.1 24 d (by decide) (by decide)
  have v25 := hR.1 25 d (by decide) (by decide)
  have v26 := hR.1 26 d (by decide) (by decide)
  have v27 := hR.1 27 d (by decide) (by decide)
  have hl := hI.len d hd0 hd1
  have e23 := (hR.2 d hd0 hd1).1
  have h18 := (hI.2.2.2.1 d hd0 hd1).2.2
  cases hls : τ.2 d with
  | nil =>
    have eb : b_letsOne τ d = none := by unfold b_letsOne; rw [hls]
    rw [eb]
    rw [hls] at e23
    have e23 : σ 23 d = 0 := e23
    show _ = _
    simp only [fX12_letsOneGo, jm_run, List.length_cons, List.length_nil, Nat.reduceAdd, if_true, jm_init, List.map_cons, List.map_nil, Nat.reduceSub, List.replicate, List.cons_append, List.nil_append, kX12_letsOneGo]
    rw [jk_fix_pos (by omega)]
    simp only [kX12_letsOneGo_b, kX12_letsOneGo_0, Nat.reduceEqDiff, if_false, if_true]
    simp (disch := first | omega | (simp only [List.length_cons, List.length_nil]; omega) | assumption) only [jk_none, jk_int, jk_null, jk_iload, jk_aload, jk_istore, jk_astore, jk_kill, jk_iinc, jk_iadd, jk_isub, jk_imul, jk_dup, jk_dup2, jk_ifeq, jk_ifne, jk_iflt, jk_ifge, jk_ifgt, jk_ifle, jk_icmpeq, jk_icmpne, jk_icmplt, jk_icmpge, jk_icmpgt, jk_icmple, jk_iret, jz_0, jz_1, jk_vret, jk_aret, jk_ifnull, jk_ifnonnull, List.getElem?_cons_zero, List.getElem?_cons_succ, List.set_cons_zero, List.set_cons_succ, List.length_cons, List.length_nil, jm_wr_id, pb_none, pb_int, pg_3 hw, pl_3 hw, ps_3 hw, pg_4 hw, pl_4 hw, ps_4 hw, pg_5 hw, pl_5 hw, ps_5 hw, pg_6 hw, pl_6 hw, ps_6 hw, pg_7 hw, pl_7 hw, ps_7 hw, pg_8 hw, pl_8 hw, ps_8 hw, pg_9 hw, pl_9 hw, ps_9 hw, pg_10 hw, pl_10 hw, ps_10 hw, pg_11 hw, pl_11 hw, ps_11 hw, pg_12 hw, pl_12 hw, ps_12 hw, pg_13 hw, pl_13 hw, ps_13 hw, pg_14 hw, pl_14 hw, ps_14 hw, pg_15 hw, pl_15 hw, ps_15 hw, pg_16 hw, pl_16 hw, ps_16 hw, pg_17 hw, pl_17 hw, ps_17 hw, pg_18 hw, pl_18 hw, ps_18 hw, pg_19 hw, pl_19 hw, ps_19 hw, pg_20 hw, pl_20 hw, ps_20 hw, pg_21 hw, pl_21 hw, ps_21 hw, pg_22 hw, pl_22 hw, ps_22 hw, pg_23 hw, pl_23 hw, ps_23 hw, pg_24 hw, pl_24 hw, ps_24 hw, pg_25 hw, pl_25 hw, ps_25 hw, pg_26 hw, pl_26 hw, ps_26 hw, pg_27 hw, pl_27 hw, ps_27 hw, pg_28 hw, pl_28 hw, ps_28 hw, pg_29 hw, pl_29 hw, ps_29 hw, pg_30 hw, pl_30 hw, ps_30 hw, pg_31 hw, pl_31 hw, ps_31 hw, pg_32 hw, pl_32 hw, ps_32 hw, pg_33 hw, pm_bald hw, pm_bast hw, pg_34 hw, pl_34 hw, ps_34 hw, pg_35 hw, pl_35 hw, ps_35 hw, pg_36 hw, pl_36 hw, ps_36 hw, pg_0 hw, ps_0 hw, pg_1 hw, ps_1 hw, pg_2 hw, ps_2 hw, pg_37 hw, ps_37 hw, pg_38 hw, ps_38 hw, pc_0 hw, pc_1 hw, pc_2 hw, pc_3 hw, pc_4 hw, pc_5 hw, pu_up_ne, pu_up_at, e23, if_true]
  | cons f l =>
    have hne : ¬ σ 23 d = 0 := by rw [e23, hls]; simp; omega
    have hfm : f ∈ τ.2 d := by rw [hls]; exact List.mem_cons_self
    obtain ⟨hf0, hf1, hf5, _, _⟩ := (hI.2.2.1 d hd0 hd1).2 f hfm
    have h5p : LV τ f := LV.of hd0 hd1 hf5 hfm
    have hlen : σ 23 d = ((f :: l).length : Nat) := by rw [e23, hls]
    have e0 := R_inLine (κ := κ) (g := g) (n := n) (j := 0) (x := f) hw hn hR hI hd0 hd1 (by rw [hls]; rfl)
    have e0 : fX12_inLine n [.inr (some (y.2 13 0)), .inl d, .inl 0] (pu_H y κ σ g) = some (some (.inl f), (pu_H y κ σ g)) := e0
    have hcl : ((τ.2 d).length : Int) = σ 23 d := e23.symm
    unfold b_letsOne
    rw [hls]
    dsimp only
    by_cases k0 : τ.1 18 d = 0
    · rw [if_pos k0]
      have e1 := R_one_91 (κ := κ) (g := g) (n := n) hw hn hR hI hd0 hd1 (Or.inl k0) (τ.2 d).length (by rw [if_pos k0]) (Nat.le_refl _) (τ.2 d).length (n - 1 - 1) 0 none (by omega) (by omega)
      rw [List.take_length, List.drop_zero, hcl, hls] at e1
      have w18 : σ 18 d = 0 := by rw [v18, k0]
      simp only [fX12_letsOneGo, jm_run, List.length_cons, List.length_nil, Nat.reduceAdd, if_true, jm_init, List.map_cons, List.map_nil, Nat.reduceSub, List.replicate, List.cons_append, List.nil_append, kX12_letsOneGo]
      rw [jk_fix_pos (by omega)]
      simp only [kX12_letsOneGo_b, kX12_letsOneGo_0, Nat.reduceEqDiff, if_false, if_true]
      simp (disch := first | omega | (simp only [List.length_cons, List.length_nil]; omega) | assumption) only [jk_none, jk_int, jk_null, jk_iload, jk_aload, jk_istore, jk_astore, jk_kill, jk_iinc, jk_iadd, jk_isub, jk_imul, jk_dup, jk_dup2, jk_ifeq, jk_ifne, jk_iflt, jk_ifge, jk_ifgt, jk_ifle, jk_icmpeq, jk_icmpne, jk_icmplt, jk_icmpge, jk_icmpgt, jk_icmple, jk_iret, jz_0, jz_1, jk_vret, jk_aret, jk_ifnull, jk_ifnonnull, List.getElem?_cons_zero, List.getElem?_cons_succ, List.set_cons_zero, List.set_cons_succ, List.length_cons, List.length_nil, jm_wr_id, pb_none, pb_int, pg_3 hw, pl_3 hw, ps_3 hw, pg_4 hw, pl_4 hw, ps_4 hw, pg_5 hw, pl_5 hw, ps_5 hw, pg_6 hw, pl_6 hw, ps_6 hw, pg_7 hw, pl_7 hw, ps_7 hw, pg_8 hw, pl_8 hw, ps_8 hw, pg_9 hw, pl_9 hw, ps_9 hw, pg_10 hw, pl_10 hw, ps_10 hw, pg_11 hw, pl_11 hw, ps_11 hw, pg_12 hw, pl_12 hw, ps_12 hw, pg_13 hw, pl_13 hw, ps_13 hw, pg_14 hw, pl_14 hw, ps_14 hw, pg_15 hw, pl_15 hw, ps_15 hw, pg_16 hw, pl_16 hw, ps_16 hw, pg_17 hw, pl_17 hw, ps_17 hw, pg_18 hw, pl_18 hw, ps_18 hw, pg_19 hw, pl_19 hw, ps_19 hw, pg_20 hw, pl_20 hw, ps_20 hw, pg_21 hw, pl_21 hw, ps_21 hw, pg_22 hw, pl_22 hw, ps_22 hw, pg_23 hw, pl_23 hw, ps_23 hw, pg_24 hw, pl_24 hw, ps_24 hw, pg_25 hw, pl_25 hw, ps_25 hw, pg_26 hw, pl_26 hw, ps_26 hw, pg_27 hw, pl_27 hw, ps_27 hw, pg_28 hw, pl_28 hw, ps_28 hw, pg_29 hw, pl_29 hw, ps_29 hw, pg_30 hw, pl_30 hw, ps_30 hw, pg_31 hw, pl_31 hw, ps_31 hw, pg_32 hw, pl_32 hw, ps_32 hw, pg_33 hw, pm_bald hw, pm_bast hw, pg_34 hw, pl_34 hw, ps_34 hw, pg_35 hw, pl_35 hw, ps_35 hw, pg_36 hw, pl_36 hw, ps_36 hw, pg_0 hw, ps_0 hw, pg_1 hw, ps_1 hw, pg_2 hw, ps_2 hw, pg_37 hw, ps_37 hw, pg_38 hw, ps_38 hw, pc_0 hw, pc_1 hw, pc_2 hw, pc_3 hw, pc_4 hw, pc_5 hw, pu_up_ne, pu_up_at, hne, if_false, e0, w18, jk_sw, jm_pick_eq, jm_pick_ne, jm_pick_nil]
      rw [jk_fix_pos (by omega)]
      simp only [kX12_letsOneGo_b, kX12_letsOneGo_88, Nat.reduceEqDiff, if_false, if_true]
      simp (disch := first | omega | (simp only [List.length_cons, List.length_nil]; omega) | assumption) only [jk_none, jk_int, jk_null, jk_iload, jk_aload, jk_istore, jk_astore, jk_kill, jk_iinc, jk_iadd, jk_isub, jk_imul, jk_dup, jk_dup2, jk_ifeq, jk_ifne, jk_iflt, jk_ifge, jk_ifgt, jk_ifle, jk_icmpeq, jk_icmpne, jk_icmplt, jk_icmpge, jk_icmpgt, jk_icmple, jk_iret, jz_0, jz_1, jk_vret, jk_aret, jk_ifnull, jk_ifnonnull, List.getElem?_cons_zero, List.getElem?_cons_succ, List.set_cons_zero, List.set_cons_succ, List.length_cons, List.length_nil, jm_wr_id, pb_none, pb_int, pg_3 hw, pl_3 hw, ps_3 hw, pg_4 hw, pl_4 hw, ps_4 hw, pg_5 hw, pl_5 hw, ps_5 hw, pg_6 hw, pl_6 hw, ps_6 hw, pg_7 hw, pl_7 hw, ps_7 hw, pg_8 hw, pl_8 hw, ps_8 hw, pg_9 hw, pl_9 hw, ps_9 hw, pg_10 hw, pl_10 hw, ps_10 hw, pg_11 hw, pl_11 hw, ps_11 hw, pg_12 hw, pl_12 hw, ps_12 hw, pg_13 hw, pl_13 hw, ps_13 hw, pg_14 hw, pl_14 hw, ps_14 hw, pg_15 hw, pl_15 hw, ps_15 hw, pg_16 hw, pl_16 hw, ps_16 hw, pg_17 hw, pl_17 hw, ps_17 hw, pg_18 hw, pl_18 hw, ps_18 hw, pg_19 hw, pl_19 hw, ps_19 hw, pg_20 hw, pl_20 hw, ps_20 hw, pg_21 hw, pl_21 hw, ps_21 hw, pg_22 hw, pl_22 hw, ps_22 hw, pg_23 hw, pl_23 hw, ps_23 hw, pg_24 hw, pl_24 hw, ps_24 hw, pg_25 hw, pl_25 hw, ps_25 hw, pg_26 hw, pl_26 hw, ps_26 hw, pg_27 hw, pl_27 hw, ps_27 hw, pg_28 hw, pl_28 hw, ps_28 hw, pg_29 hw, pl_29 hw, ps_29 hw, pg_30 hw, pl_30 hw, ps_30 hw, pg_31 hw, pl_31 hw, ps_31 hw, pg_32 hw, pl_32 hw, ps_32 hw, pg_33 hw, pm_bald hw, pm_bast hw, pg_34 hw, pl_34 hw, ps_34 hw, pg_35 hw, pl_35 hw, ps_35 hw, pg_36 hw, pl_36 hw, ps_36 hw, pg_0 hw, ps_0 hw, pg_1 hw, ps_1 hw, pg_2 hw, ps_2 hw, pg_37 hw, ps_37 hw, pg_38 hw, ps_38 hw, pc_0 hw, pc_1 hw, pc_2 hw, pc_3 hw, pc_4 hw, pc_5 hw, pu_up_ne, pu_up_at]
      exact e1
    rw [if_neg k0]
    by_cases k1 : τ.1 18 d = 1
    · rw [if_pos k1]
      have e1 := R_one_91 (κ := κ) (g := g) (n := n) hw hn hR hI hd0 hd1 (Or.inr k1) 1 (by rw [if_neg k0]) (by rw [hls]; simp) 1 (n - 1 - 1) 0 none (by omega) (by omega)
      rw [List.drop_zero, hcl, hls] at e1
      have w18 : σ 18 d = 1 := by rw [v18, k1]
      simp only [fX12_letsOneGo, jm_run, List.length_cons, List.length_nil, Nat.reduceAdd, if_true, jm_init, List.map_cons, List.map_nil, Nat.reduceSub, List.replicate, List.cons_append, List.nil_append, kX12_letsOneGo]
      rw [jk_fix_pos (by omega)]
      simp only [kX12_letsOneGo_b, kX12_letsOneGo_0, Nat.reduceEqDiff, if_false, if_true]
      simp (disch := first | omega | (simp only [List.length_cons, List.length_nil]; omega) | assumption) only [jk_none, jk_int, jk_null, jk_iload, jk_aload, jk_istore, jk_astore, jk_kill, jk_iinc, jk_iadd, jk_isub, jk_imul, jk_dup, jk_dup2, jk_ifeq, jk_ifne, jk_iflt, jk_ifge, jk_ifgt, jk_ifle, jk_icmpeq, jk_icmpne, jk_icmplt, jk_icmpge, jk_icmpgt, jk_icmple, jk_iret, jz_0, jz_1, jk_vret, jk_aret, jk_ifnull, jk_ifnonnull, List.getElem?_cons_zero, List.getElem?_cons_succ, List.set_cons_zero, List.set_cons_succ, List.length_cons, List.length_nil, jm_wr_id, pb_none, pb_int, pg_3 hw, pl_3 hw, ps_3 hw, pg_4 hw, pl_4 hw, ps_4 hw, pg_5 hw, pl_5 hw, ps_5 hw, pg_6 hw, pl_6 hw, ps_6 hw, pg_7 hw, pl_7 hw, ps_7 hw, pg_8 hw, pl_8 hw, ps_8 hw, pg_9 hw, pl_9 hw, ps_9 hw, pg_10 hw, pl_10 hw, ps_10 hw, pg_11 hw, pl_11 hw, ps_11 hw, pg_12 hw, pl_12 hw, ps_12 hw, pg_13 hw, pl_13 hw, ps_13 hw, pg_14 hw, pl_14 hw, ps_14 hw, pg_15 hw, pl_15 hw, ps_15 hw, pg_16 hw, pl_16 hw, ps_16 hw, pg_17 hw, pl_17 hw, ps_17 hw, pg_18 hw, pl_18 hw, ps_18 hw, pg_19 hw, pl_19 hw, ps_19 hw, pg_20 hw, pl_20 hw, ps_20 hw, pg_21 hw, pl_21 hw, ps_21 hw, pg_22 hw, pl_22 hw, ps_22 hw, pg_23 hw, pl_23 hw, ps_23 hw, pg_24 hw, pl_24 hw, ps_24 hw, pg_25 hw, pl_25 hw, ps_25 hw, pg_26 hw, pl_26 hw, ps_26 hw, pg_27 hw, pl_27 hw, ps_27 hw, pg_28 hw, pl_28 hw, ps_28 hw, pg_29 hw, pl_29 hw, ps_29 hw, pg_30 hw, pl_30 hw, ps_30 hw, pg_31 hw, pl_31 hw, ps_31 hw, pg_32 hw, pl_32 hw, ps_32 hw, pg_33 hw, pm_bald hw, pm_bast hw, pg_34 hw, pl_34 hw, ps_34 hw, pg_35 hw, pl_35 hw, ps_35 hw, pg_36 hw, pl_36 hw, ps_36 hw, pg_0 hw, ps_0 hw, pg_1 hw, ps_1 hw, pg_2 hw, ps_2 hw, pg_37 hw, ps_37 hw, pg_38 hw, ps_38 hw, pc_0 hw, pc_1 hw, pc_2 hw, pc_3 hw, pc_4 hw, pc_5 hw, pu_up_ne, pu_up_at, hne, if_false, e0, w18, jk_sw, jm_pick_eq, jm_pick_ne, jm_pick_nil]
      rw [jk_fix_pos (by omega)]
      simp only [kX12_letsOneGo_b, kX12_letsOneGo_88, Nat.reduceEqDiff, if_false, if_true]
      simp (disch := first | omega | (simp only [List.length_cons, List.length_nil]; omega) | assumption) only [jk_none, jk_int, jk_null, jk_iload, jk_aload, jk_istore, jk_astore, jk_kill, jk_iinc, jk_iadd, jk_isub, jk_imul, jk_dup, jk_dup2, jk_ifeq, jk_ifne, jk_iflt, jk_ifge, jk_ifgt, jk_ifle, jk_icmpeq, jk_icmpne, jk_icmplt, jk_icmpge, jk_icmpgt, jk_icmple, jk_iret, jz_0, jz_1, jk_vret, jk_aret, jk_ifnull, jk_ifnonnull, List.getElem?_cons_zero, List.getElem?_cons_succ, List.set_cons_zero, List.set_cons_succ, List.length_cons, List.length_nil, jm_wr_id, pb_none, pb_int, pg_3 hw, pl_3 hw, ps_3 hw, pg_4 hw, pl_4 hw, ps_4 hw, pg_5 hw, pl_5 hw, ps_5 hw, pg_6 hw, pl_6 hw, ps_6 hw, pg_7 hw, pl_7 hw, ps_7 hw, pg_8 hw, pl_8 hw, ps_8 hw, pg_9 hw, pl_9 hw, ps_9 hw, pg_10 hw, pl_10 hw, ps_10 hw, pg_11 hw, pl_11 hw, ps_11 hw, pg_12 hw, pl_12 hw, ps_12 hw, pg_13 hw, pl_13 hw, ps_13 hw, pg_14 hw, pl_14 hw, ps_14 hw, pg_15 hw, pl_15 hw, ps_15 hw, pg_16 hw, pl_16 hw, ps_16 hw, pg_17 hw, pl_17 hw, ps_17 hw, pg_18 hw, pl_18 hw, ps_18 hw, pg_19 hw, pl_19 hw, ps_19 hw, pg_20 hw, pl_20 hw, ps_20 hw, pg_21 hw, pl_21 hw, ps_21 hw, pg_22 hw, pl_22 hw, ps_22 hw, pg_23 hw, pl_23 hw, ps_23 hw, pg_24 hw, pl_24 hw, ps_24 hw, pg_25 hw, pl_25 hw, ps_25 hw, pg_26 hw, pl_26 hw, ps_26 hw, pg_27 hw, pl_27 hw, ps_27 hw, pg_28 hw, pl_28 hw, ps_28 hw, pg_29 hw, pl_29 hw, ps_29 hw, pg_30 hw, pl_30 hw, ps_30 hw, pg_31 hw, pl_31 hw, ps_31 hw, pg_32 hw, pl_32 hw, ps_32 hw, pg_33 hw, pm_bald hw, pm_bast hw, pg_34 hw, pl_34 hw, ps_34 hw, pg_35 hw, pl_35 hw, ps_35 hw, pg_36 hw, pl_36 hw, ps_36 hw, pg_0 hw, ps_0 hw, pg_1 hw, ps_1 hw, pg_2 hw, ps_2 hw, pg_37 hw, ps_37 hw, pg_38 hw, ps_38 hw, pc_0 hw, pc_1 hw, pc_2 hw, pc_3 hw, pc_4 hw, pc_5 hw, pu_up_ne, pu_up_at]
      exact e1
    rw [if_neg k1]
    by_cases k2 : τ.1 18 d = 2
    · rw [if_pos k2]
      have w18 : σ 18 d = 2 := by rw [v18, k2]
      by_cases c1 : 0 < τ.1 24 d
      · rw [if_pos c1]
        show _ = _
        simp only [fX12_letsOneGo, jm_run, List.length_cons, List.length_nil, Nat.reduceAdd, if_true, jm_init, List.map_cons, List.map_nil, Nat.reduceSub, List.replicate, List.cons_append, List.nil_append, kX12_letsOneGo]
        rw [jk_fix_pos (by omega)]
        simp only [kX12_letsOneGo_b, kX12_letsOneGo_0, Nat.reduceEqDiff, if_false, if_true]
        simp (disch := first | omega | (simp only [List.length_cons, List.length_nil]; omega) | assumption) only [jk_none, jk_int, jk_null, jk_iload, jk_aload, jk_istore, jk_astore, jk_kill, jk_iinc, jk_iadd, jk_isub, jk_imul, jk_dup, jk_dup2, jk_ifeq, jk_ifne, jk_iflt, jk_ifge, jk_ifgt, jk_ifle, jk_icmpeq, jk_icmpne, jk_icmplt, jk_icmpge, jk_icmpgt, jk_icmple, jk_iret, jz_0, jz_1, jk_vret, jk_aret, jk_ifnull, jk_ifnonnull, List.getElem?_cons_zero, List.getElem?_cons_succ, List.set_cons_zero, List.set_cons_succ, List.length_cons, List.length_nil, jm_wr_id, pb_none, pb_int, pg_3 hw, pl_3 hw, ps_3 hw, pg_4 hw, pl_4 hw, ps_4 hw, pg_5 hw, pl_5 hw, ps_5 hw, pg_6 hw, pl_6 hw, ps_6 hw, pg_7 hw, pl_7 hw, ps_7 hw, pg_8 hw, pl_8 hw, ps_8 hw, pg_9 hw, pl_9 hw, ps_9 hw, pg_10 hw, pl_10 hw, ps_10 hw, pg_11 hw, pl_11 hw, ps_11 hw, pg_12 hw, pl_12 hw, ps_12 hw, pg_13 hw, pl_13 hw, ps_13 hw, pg_14 hw, pl_14 hw, ps_14 hw, pg_15 hw, pl_15 hw, ps_15 hw, pg_16 hw, pl_16 hw, ps_16 hw, pg_17 hw, pl_17 hw, ps_17 hw, pg_18 hw, pl_18 hw, ps_18 hw, pg_19 hw, pl_19 hw, ps_19 hw, pg_20 hw, pl_20 hw, ps_20 hw, pg_21 hw, pl_21 hw, ps_21 hw, pg_22 hw, pl_22 hw, ps_22 hw, pg_23 hw, pl_23 hw, ps_23 hw, pg_24 hw, pl_24 hw, ps_24 hw, pg_25 hw, pl_25 hw, ps_25 hw, pg_26 hw, pl_26 hw, ps_26 hw, pg_27 hw, pl_27 hw, ps_27 hw, pg_28 hw, pl_28 hw, ps_28 hw, pg_29 hw, pl_29 hw, ps_29 hw, pg_30 hw, pl_30 hw, ps_30 hw, pg_31 hw, pl_31 hw, ps_31 hw, pg_32 hw, pl_32 hw, ps_32 hw, pg_33 hw, pm_bald hw, pm_bast hw, pg_34 hw, pl_34 hw, ps_34 hw, pg_35 hw, pl_35 hw, ps_35 hw, pg_36 hw, pl_36 hw, ps_36 hw, pg_0 hw, ps_0 hw, pg_1 hw, ps_1 hw, pg_2 hw, ps_2 hw, pg_37 hw, ps_37 hw, pg_38 hw, ps_38 hw, pc_0 hw, pc_1 hw, pc_2 hw, pc_3 hw, pc_4 hw, pc_5 hw, pu_up_ne, pu_up_at, hne, if_false, if_true, e0, w18, v24, c1, jk_sw, jm_pick_eq, jm_pick_ne, jm_pick_nil]
      · rw [if_neg c1]
        obtain ⟨σ1, e3, hR1⟩ := R_goes (κ := κ) (g := g) (n := n) hw hn hR hI hf0 hf1 0 h5p
        refine ⟨σ1, ?_, hR1, hI.goes _ hf0 hf1 h5p⟩
        simp only [fX12_letsOneGo, jm_run, List.length_cons, List.length_nil, Nat.reduceAdd, if_true, jm_init, List.map_cons, List.map_nil, Nat.reduceSub, List.replicate, List.cons_append, List.nil_append, kX12_letsOneGo]
        rw [jk_fix_pos (by omega)]
        simp only [kX12_letsOneGo_b, kX12_letsOneGo_0, Nat.reduceEqDiff, if_false, if_true]
        simp (disch := first | omega | (simp only [List.length_cons, List.length_nil]; omega) | assumption) only [jk_none, jk_int, jk_null, jk_iload, jk_aload, jk_istore, jk_astore, jk_kill, jk_iinc, jk_iadd, jk_isub, jk_imul, jk_dup, jk_dup2, jk_ifeq, jk_ifne, jk_iflt, jk_ifge, jk_ifgt, jk_ifle, jk_icmpeq, jk_icmpne, jk_icmplt, jk_icmpge, jk_icmpgt, jk_icmple, jk_iret, jz_0, jz_1, jk_vret, jk_aret, jk_ifnull, jk_ifnonnull, List.getElem?_cons_zero, List.getElem?_cons_succ, List.set_cons_zero, List.set_cons_succ, List.length_cons, List.length_nil, jm_wr_id, pb_none, pb_int, pg_3 hw, pl_3 hw, ps_3 hw, pg_4 hw, pl_4 hw, ps_4 hw, pg_5 hw, pl_5 hw, ps_5 hw, pg_6 hw, pl_6 hw, ps_6 hw, pg_7 hw, pl_7 hw, ps_7 hw, pg_8 hw, pl_8 hw, ps_8 hw, pg_9 hw, pl_9 hw, ps_9 hw, pg_10 hw, pl_10 hw, ps_10 hw, pg_11 hw, pl_11 hw, ps_11 hw, pg_12 hw, pl_12 hw, ps_12 hw, pg_13 hw, pl_13 hw, ps_13 hw, pg_14 hw, pl_14 hw, ps_14 hw, pg_15 hw, pl_15 hw, ps_15 hw, pg_16 hw, pl_16 hw, ps_16 hw, pg_17 hw, pl_17 hw, ps_17 hw, pg_18 hw, pl_18 hw, ps_18 hw, pg_19 hw, pl_19 hw, ps_19 hw, pg_20 hw, pl_20 hw, ps_20 hw, pg_21 hw, pl_21 hw, ps_21 hw, pg_22 hw, pl_22 hw, ps_22 hw, pg_23 hw, pl_23 hw, ps_23 hw, pg_24 hw, pl_24 hw, ps_24 hw, pg_25 hw, pl_25 hw, ps_25 hw, pg_26 hw, pl_26 hw, ps_26 hw, pg_27 hw, pl_27 hw, ps_27 hw, pg_28 hw, pl_28 hw, ps_28 hw, pg_29 hw, pl_29 hw, ps_29 hw, pg_30 hw, pl_30 hw, ps_30 hw, pg_31 hw, pl_31 hw, ps_31 hw, pg_32 hw, pl_32 hw, ps_32 hw, pg_33 hw, pm_bald hw, pm_bast hw, pg_34 hw, pl_34 hw, ps_34 hw, pg_35 hw, pl_35 hw, ps_35 hw, pg_36 hw, pl_36 hw, ps_36 hw, pg_0 hw, ps_0 hw, pg_1 hw, ps_1 hw, pg_2 hw, ps_2 hw, pg_37 hw, ps_37 hw, pg_38 hw, ps_38 hw, pc_0 hw, pc_1 hw, pc_2 hw, pc_3 hw, pc_4 hw, pc_5 hw, pu_up_ne, pu_up_at, hne, if_false, if_true, e0, e3, w18, v24, c1, jk_sw, jm_pick_eq, jm_pick_ne, jm_pick_nil]
    rw [if_neg k2]
    by_cases k5 : τ.1 18 d = 5
    · rw [if_pos k5]
      have w18 : σ 18 d = 5 := by rw [v18, k5]
      have e1 := R_letsLock (κ := κ) (g := g) (n := n) hw hn hR hI hd0 hd1 hf0 hf1 hfm k5
      cases hb : b_letsLock τ d f with
      | none =>
        rw [hb] at e1
        have e1 : fX12_letsLock n [.inr (some (y.2 13 0)), .inl d, .inl f] (pu_H y κ σ g) = _ := e1
        show _ = _
        simp only [fX12_letsOneGo, jm_run, List.length_cons, List.length_nil, Nat.reduceAdd, if_true, jm_init, List.map_cons, List.map_nil, Nat.reduceSub, List.replicate, List.cons_append, List.nil_append, kX12_letsOneGo]
        rw [jk_fix_pos (by omega)]
        simp only [kX12_letsOneGo_b, kX12_letsOneGo_0, Nat.reduceEqDiff, if_false, if_true]
        simp (disch := first | omega | (simp only [List.length_cons, List.length_nil]; omega) | assumption) only [jk_none, jk_int, jk_null, jk_iload, jk_aload, jk_istore, jk_astore, jk_kill, jk_iinc, jk_iadd, jk_isub, jk_imul, jk_dup, jk_dup2, jk_ifeq, jk_ifne, jk_iflt, jk_ifge, jk_ifgt, jk_ifle, jk_icmpeq, jk_icmpne, jk_icmplt, jk_icmpge, jk_icmpgt, jk_icmple, jk_iret, jz_0, jz_1, jk_vret, jk_aret, jk_ifnull, jk_ifnonnull, List.getElem?_cons_zero, List.getElem?_cons_succ, List.set_cons_zero, List.set_cons_succ, List.length_cons, List.length_nil, jm_wr_id, pb_none, pb_int, pg_3 hw, pl_3 hw, ps_3 hw, pg_4 hw, pl_4 hw, ps_4 hw, pg_5 hw, pl_5 hw, ps_5 hw, pg_6 hw, pl_6 hw, ps_6 hw, pg_7 hw, pl_7 hw, ps_7 hw, pg_8 hw, pl_8 hw, ps_8 hw, pg_9 hw, pl_9 hw, ps_9 hw, pg_10 hw, pl_10 hw, ps_10 hw, pg_11 hw, pl_11 hw, ps_11 hw, pg_12 hw, pl_12 hw, ps_12 hw, pg_13 hw, pl_13 hw, ps_13 hw, pg_14 hw, pl_14 hw, ps_14 hw, pg_15 hw, pl_15 hw, ps_15 hw, pg_16 hw, pl_16 hw, ps_16 hw, pg_17 hw, pl_17 hw, ps_17 hw, pg_18 hw, pl_18 hw, ps_18 hw, pg_19 hw, pl_19 hw, ps_19 hw, pg_20 hw, pl_20 hw, ps_20 hw, pg_21 hw, pl_21 hw, ps_21 hw, pg_22 hw, pl_22 hw, ps_22 hw, pg_23 hw, pl_23 hw, ps_23 hw, pg_24 hw, pl_24 hw, ps_24 hw, pg_25 hw, pl_25 hw, ps_25 hw, pg_26 hw, pl_26 hw, ps_26 hw, pg_27 hw, pl_27 hw, ps_27 hw, pg_28 hw, pl_28 hw, ps_28 hw, pg_29 hw, pl_29 hw, ps_29 hw, pg_30 hw, pl_30 hw, ps_30 hw, pg_31 hw, pl_31 hw, ps_31 hw, pg_32 hw, pl_32 hw, ps_32 hw, pg_33 hw, pm_bald hw, pm_bast hw, pg_34 hw, pl_34 hw, ps_34 hw, pg_35 hw, pl_35 hw, ps_35 hw, pg_36 hw, pl_36 hw, ps_36 hw, pg_0 hw, ps_0 hw, pg_1 hw, ps_1 hw, pg_2 hw, ps_2 hw, pg_37 hw, ps_37 hw, pg_38 hw, ps_38 hw, pc_0 hw, pc_1 hw, pc_2 hw, pc_3 hw, pc_4 hw, pc_5 hw, pu_up_ne, pu_up_at, hne, if_false, if_true, e0, e1, w18, jk_sw, jm_pick_eq, jm_pick_ne, jm_pick_nil]
      | some τ1 =>
        rw [hb] at e1
        obtain ⟨σ1, e1, hR1, hI1⟩ := e1
        refine ⟨σ1, ?_, hR1, hI1⟩
        simp only [fX12_letsOneGo, jm_run, List.length_cons, List.length_nil, Nat.reduceAdd, if_true, jm_init, List.map_cons, List.map_nil, Nat.reduceSub, List.replicate, List.cons_append, List.nil_append, kX12_letsOneGo]
        rw [jk_fix_pos (by omega)]
        simp only [kX12_letsOneGo_b, kX12_letsOneGo_0, Nat.reduceEqDiff, if_false, if_true]
        simp (disch := first | omega | (simp only [List.length_cons, List.length_nil]; omega) | assumption) only [jk_none, jk_int, jk_null, jk_iload, jk_aload, jk_istore, jk_astore, jk_kill, jk_iinc, jk_iadd, jk_isub, jk_imul, jk_dup, jk_dup2, jk_ifeq, jk_ifne, jk_iflt, jk_ifge, jk_ifgt, jk_ifle, jk_icmpeq, jk_icmpne, jk_icmplt, jk_icmpge, jk_icmpgt, jk_icmple, jk_iret, jz_0, jz_1, jk_vret, jk_aret, jk_ifnull, jk_ifnonnull, List.getElem?_cons_zero, List.getElem?_cons_succ, List.set_cons_zero, List.set_cons_succ, List.length_cons, List.length_nil, jm_wr_id, pb_none, pb_int, pg_3 hw, pl_3 hw, ps_3 hw, pg_4 hw, pl_4 hw, ps_4 hw, pg_5 hw, pl_5 hw, ps_5 hw, pg_6 hw, pl_6 hw, ps_6 hw, pg_7 hw, pl_7 hw, ps_7 hw, pg_8 hw, pl_8 hw, ps_8 hw, pg_9 hw, pl_9 hw, ps_9 hw, pg_10 hw, pl_10 hw, ps_10 hw, pg_11 hw, pl_11 hw, ps_11 hw, pg_12 hw, pl_12 hw, ps_12 hw, pg_13 hw, pl_13 hw, ps_13 hw, pg_14 hw, pl_14 hw, ps_14 hw, pg_15 hw, pl_15 hw, ps_15 hw, pg_16 hw, pl_16 hw, ps_16 hw, pg_17 hw, pl_17 hw, ps_17 hw, pg_18 hw, pl_18 hw, ps_18 hw, pg_19 hw, pl_19 hw, ps_19 hw, pg_20 hw, pl_20 hw, ps_20 hw, pg_21 hw, pl_21 hw, ps_21 hw, pg_22 hw, pl_22 hw, ps_22 hw, pg_23 hw, pl_23 hw, ps_23 hw, pg_24 hw, pl_24 hw, ps_24 hw, pg_25 hw, pl_25 hw, ps_25 hw, pg_26 hw, pl_26 hw, ps_26 hw, pg_27 hw, pl_27 hw, ps_27 hw, pg_28 hw, pl_28 hw, ps_28 hw, pg_29 hw, pl_29 hw, ps_29 hw, pg_30 hw, pl_30 hw, ps_30 hw, pg_31 hw, pl_31 hw, ps_31 hw, pg_32 hw, pl_32 hw, ps_32 hw, pg_33 hw, pm_bald hw, pm_bast hw, pg_34 hw, pl_34 hw, ps_34 hw, pg_35 hw, pl_35 hw, ps_35 hw, pg_36 hw, pl_36 hw, ps_36 hw, pg_0 hw, ps_0 hw, pg_1 hw, ps_1 hw, pg_2 hw, ps_2 hw, pg_37 hw, ps_37 hw, pg_38 hw, ps_38 hw, pc_0 hw, pc_1 hw, pc_2 hw, pc_3 hw, pc_4 hw, pc_5 hw, pu_up_ne, pu_up_at, hne, if_false, if_true, e0, e1, w18, jk_sw, jm_pick_eq, jm_pick_ne, jm_pick_nil]
    rw [if_neg k5]
    by_cases k7 : τ.1 18 d = 7
    · rw [if_pos k7]
      have w18 : σ 18 d = 7 := by rw [v18, k7]
      have e1 := R_one_203 (κ := κ) (g := g) (n := n) hw hn hR hI hd0 hd1 (τ.2 d).length (n - 1) 0 none (some (.inl f)) (by omega) (by omega)
      rw [List.drop_zero, hcl, hls] at e1
      simp only [fX12_letsOneGo, jm_run, List.length_cons, List.length_nil, Nat.reduceAdd, if_true, jm_init, List.map_cons, List.map_nil, Nat.reduceSub, List.replicate, List.cons_append, List.nil_append, kX12_letsOneGo]
      rw [jk_fix_pos (by omega)]
      simp only [kX12_letsOneGo_b, kX12_letsOneGo_0, Nat.reduceEqDiff, if_false, if_true]
      simp (disch := first | omega | (simp only [List.length_cons, List.length_nil]; omega) | assumption) only [jk_none, jk_int, jk_null, jk_iload, jk_aload, jk_istore, jk_astore, jk_kill, jk_iinc, jk_iadd, jk_isub, jk_imul, jk_dup, jk_dup2, jk_ifeq, jk_ifne, jk_iflt, jk_ifge, jk_ifgt, jk_ifle, jk_icmpeq, jk_icmpne, jk_icmplt, jk_icmpge, jk_icmpgt, jk_icmple, jk_iret, jz_0, jz_1, jk_vret, jk_aret, jk_ifnull, jk_ifnonnull, List.getElem?_cons_zero, List.getElem?_cons_succ, List.set_cons_zero, List.set_cons_succ, List.length_cons, List.length_nil, jm_wr_id, pb_none, pb_int, pg_3 hw, pl_3 hw, ps_3 hw, pg_4 hw, pl_4 hw, ps_4 hw, pg_5 hw, pl_5 hw, ps_5 hw, pg_6 hw, pl_6 hw, ps_6 hw, pg_7 hw, pl_7 hw, ps_7 hw, pg_8 hw, pl_8 hw, ps_8 hw, pg_9 hw, pl_9 hw, ps_9 hw, pg_10 hw, pl_10 hw, ps_10 hw, pg_11 hw, pl_11 hw, ps_11 hw, pg_12 hw, pl_12 hw, ps_12 hw, pg_13 hw, pl_13 hw, ps_13 hw, pg_14 hw, pl_14 hw, ps_14 hw, pg_15 hw, pl_15 hw, ps_15 hw, pg_16 hw, pl_16 hw, ps_16 hw, pg_17 hw, pl_17 hw, ps_17 hw, pg_18 hw, pl_18 hw, ps_18 hw, pg_19 hw, pl_19 hw, ps_19 hw, pg_20 hw, pl_20 hw, ps_20 hw, pg_21 hw, pl_21 hw, ps_21 hw, pg_22 hw, pl_22 hw, ps_22 hw, pg_23 hw, pl_23 hw, ps_23 hw, pg_24 hw, pl_24 hw, ps_24 hw, pg_25 hw, pl_25 hw, ps_25 hw, pg_26 hw, pl_26 hw, ps_26 hw, pg_27 hw, pl_27 hw, ps_27 hw, pg_28 hw, pl_28 hw, ps_28 hw, pg_29 hw, pl_29 hw, ps_29 hw, pg_30 hw, pl_30 hw, ps_30 hw, pg_31 hw, pl_31 hw, ps_31 hw, pg_32 hw, pl_32 hw, ps_32 hw, pg_33 hw, pm_bald hw, pm_bast hw, pg_34 hw, pl_34 hw, ps_34 hw, pg_35 hw, pl_35 hw, ps_35 hw, pg_36 hw, pl_36 hw, ps_36 hw, pg_0 hw, ps_0 hw, pg_1 hw, ps_1 hw, pg_2 hw, ps_2 hw, pg_37 hw, ps_37 hw, pg_38 hw, ps_38 hw, pc_0 hw, pc_1 hw, pc_2 hw, pc_3 hw, pc_4 hw, pc_5 hw, pu_up_ne, pu_up_at, hne, if_false, e0, w18, jk_sw, jm_pick_eq, jm_pick_ne, jm_pick_nil]
      exact e1
    rw [if_neg k7]
    by_cases k8 : τ.1 18 d = 8
    · rw [if_pos k8]
      have w18 : σ 18 d = 8 := by rw [v18, k8]
      by_cases c1 : τ.1 25 d = 0
      · rw [if_pos c1]
        show _ = _
        simp only [fX12_letsOneGo, jm_run, List.length_cons, List.length_nil, Nat.reduceAdd, if_true, jm_init, List.map_cons, List.map_nil, Nat.reduceSub, List.replicate, List.cons_append, List.nil_append, kX12_letsOneGo]
        rw [jk_fix_pos (by omega)]
        simp only [kX12_letsOneGo_b, kX12_letsOneGo_0, Nat.reduceEqDiff, if_false, if_true]
        simp (disch := first | omega | (simp only [List.length_cons, List.length_nil]; omega) | assumption) only [jk_none, jk_int, jk_null, jk_iload, jk_aload, jk_istore, jk_astore, jk_kill, jk_iinc, jk_iadd, jk_isub, jk_imul, jk_dup, jk_dup2, jk_ifeq, jk_ifne, jk_iflt, jk_ifge, jk_ifgt, jk_ifle, jk_icmpeq, jk_icmpne, jk_icmplt, jk_icmpge, jk_icmpgt, jk_icmple, jk_iret, jz_0, jz_1, jk_vret, jk_aret, jk_ifnull, jk_ifnonnull, List.getElem?_cons_zero, List.getElem?_cons_succ, List.set_cons_zero, List.set_cons_succ, List.length_cons, List.length_nil, jm_wr_id, pb_none, pb_int, pg_3 hw, pl_3 hw, ps_3 hw, pg_4 hw, pl_4 hw, ps_4 hw, pg_5 hw, pl_5 hw, ps_5 hw, pg_6 hw, pl_6 hw, ps_6 hw, pg_7 hw, pl_7 hw, ps_7 hw, pg_8 hw, pl_8 hw, ps_8 hw, pg_9 hw, pl_9 hw, ps_9 hw, pg_10 hw, pl_10 hw, ps_10 hw, pg_11 hw, pl_11 hw, ps_11 hw, pg_12 hw, pl_12 hw, ps_12 hw, pg_13 hw, pl_13 hw, ps_13 hw, pg_14 hw, pl_14 hw, ps_14 hw, pg_15 hw, pl_15 hw, ps_15 hw, pg_16 hw, pl_16 hw, ps_16 hw, pg_17 hw, pl_17 hw, ps_17 hw, pg_18 hw, pl_18 hw, ps_18 hw, pg_19 hw, pl_19 hw, ps_19 hw, pg_20 hw, pl_20 hw, ps_20 hw, pg_21 hw, pl_21 hw, ps_21 hw, pg_22 hw, pl_22 hw, ps_22 hw, pg_23 hw, pl_23 hw, ps_23 hw, pg_24 hw, pl_24 hw, ps_24 hw, pg_25 hw, pl_25 hw, ps_25 hw, pg_26 hw, pl_26 hw, ps_26 hw, pg_27 hw, pl_27 hw, ps_27 hw, pg_28 hw, pl_28 hw, ps_28 hw, pg_29 hw, pl_29 hw, ps_29 hw, pg_30 hw, pl_30 hw, ps_30 hw, pg_31 hw, pl_31 hw, ps_31 hw, pg_32 hw, pl_32 hw, ps_32 hw, pg_33 hw, pm_bald hw, pm_bast hw, pg_34 hw, pl_34 hw, ps_34 hw, pg_35 hw, pl_35 hw, ps_35 hw, pg_36 hw, pl_36 hw, ps_36 hw, pg_0 hw, ps_0 hw, pg_1 hw, ps_1 hw, pg_2 hw, ps_2 hw, pg_37 hw, ps_37 hw, pg_38 hw, ps_38 hw, pc_0 hw, pc_1 hw, pc_2 hw, pc_3 hw, pc_4 hw, pc_5 hw, pu_up_ne, pu_up_at, hne, if_false, if_true, e0, w18, v25, c1, jk_sw, jm_pick_eq, jm_pick_ne, jm_pick_nil]
      · rw [if_neg c1]
        obtain ⟨σ1, e3, hR1⟩ := R_goes (κ := κ) (g := g) (n := n) hw hn hR hI hf0 hf1 (τ.1 27 d) h5p
        refine ⟨σ1, ?_, hR1, hI.goes _ hf0 hf1 h5p⟩
        simp only [fX12_letsOneGo, jm_run, List.length_cons, List.length_nil, Nat.reduceAdd, if_true, jm_init, List.map_cons, List.map_nil, Nat.reduceSub, List.replicate, List.cons_append, List.nil_append, kX12_letsOneGo]
        rw [jk_fix_pos (by omega)]
        simp only [kX12_letsOneGo_b, kX12_letsOneGo_0, Nat.reduceEqDiff, if_false, if_true]
        simp (disch := first | omega | (simp only [List.length_cons, List.length_nil]; omega) | assumption) only [jk_none, jk_int, jk_null, jk_iload, jk_aload, jk_istore, jk_astore, jk_kill, jk_iinc, jk_iadd, jk_isub, jk_imul, jk_dup, jk_dup2, jk_ifeq, jk_ifne, jk_iflt, jk_ifge, jk_ifgt, jk_ifle, jk_icmpeq, jk_icmpne, jk_icmplt, jk_icmpge, jk_icmpgt, jk_icmple, jk_iret, jz_0, jz_1, jk_vret, jk_aret, jk_ifnull, jk_ifnonnull, List.getElem?_cons_zero, List.getElem?_cons_succ, List.set_cons_zero, List.set_cons_succ, List.length_cons, List.length_nil, jm_wr_id, pb_none, pb_int, pg_3 hw, pl_3 hw, ps_3 hw, pg_4 hw, pl_4 hw, ps_4 hw, pg_5 hw, pl_5 hw, ps_5 hw, pg_6 hw, pl_6 hw, ps_6 hw, pg_7 hw, pl_7 hw, ps_7 hw, pg_8 hw, pl_8 hw, ps_8 hw, pg_9 hw, pl_9 hw, ps_9 hw, pg_10 hw, pl_10 hw, ps_10 hw, pg_11 hw, pl_11 hw, ps_11 hw, pg_12 hw, pl_12 hw, ps_12 hw, pg_13 hw, pl_13 hw, ps_13 hw, pg_14 hw, pl_14 hw, ps_14 hw, pg_15 hw, pl_15 hw, ps_15 hw, pg_16 hw, pl_16 hw, ps_16 hw, pg_17 hw, pl_17 hw, ps_17 hw, pg_18 hw, pl_18 hw, ps_18 hw, pg_19 hw, pl_19 hw, ps_19 hw, pg_20 hw, pl_20 hw, ps_20 hw, pg_21 hw, pl_21 hw, ps_21 hw, pg_22 hw, pl_22 hw, ps_22 hw, pg_23 hw, pl_23 hw, ps_23 hw, pg_24 hw, pl_24 hw, ps_24 hw, pg_25 hw, pl_25 hw, ps_25 hw, pg_26 hw, pl_26 hw, ps_26 hw, pg_27 hw, pl_27 hw, ps_27 hw, pg_28 hw, pl_28 hw, ps_28 hw, pg_29 hw, pl_29 hw, ps_29 hw, pg_30 hw, pl_30 hw, ps_30 hw, pg_31 hw, pl_31 hw, ps_31 hw, pg_32 hw, pl_32 hw, ps_32 hw, pg_33 hw, pm_bald hw, pm_bast hw, pg_34 hw, pl_34 hw, ps_34 hw, pg_35 hw, pl_35 hw, ps_35 hw, pg_36 hw, pl_36 hw, ps_36 hw, pg_0 hw, ps_0 hw, pg_1 hw, ps_1 hw, pg_2 hw, ps_2 hw, pg_37 hw, ps_37 hw, pg_38 hw, ps_38 hw, pc_0 hw, pc_1 hw, pc_2 hw, pc_3 hw, pc_4 hw, pc_5 hw, pu_up_ne, pu_up_at, hne, if_false, if_true, e0, e3, w18, v25, v27, c1, jk_sw, jm_pick_eq, jm_pick_ne, jm_pick_nil]
    rw [if_neg k8]
    by_cases k10 : τ.1 18 d = 10
    · rw [if_pos k10]
      have w18 : σ 18 d = 10 := by rw [v18, k10]
      by_cases c1 : τ.1 25 d = 1
      · rw [if_pos c1]
        show _ = _
        simp only [fX12_letsOneGo, jm_run, List.length_cons, List.length_nil, Nat.reduceAdd, if_true, jm_init, List.map_cons, List.map_nil, Nat.reduceSub, List.replicate, List.cons_append, List.nil_append, kX12_letsOneGo]
        rw [jk_fix_pos (by omega)]
        simp only [kX12_letsOneGo_b, kX12_letsOneGo_0, Nat.reduceEqDiff, if_false, if_true]
        simp (disch := first | omega | (simp only [List.length_cons, List.length_nil]; omega) | assumption) only [jk_none, jk_int, jk_null, jk_iload, jk_aload, jk_istore, jk_astore, jk_kill, jk_iinc, jk_iadd, jk_isub, jk_imul, jk_dup, jk_dup2, jk_ifeq, jk_ifne, jk_iflt, jk_ifge, jk_ifgt, jk_ifle, jk_icmpeq, jk_icmpne, jk_icmplt, jk_icmpge, jk_icmpgt, jk_icmple, jk_iret, jz_0, jz_1, jk_vret, jk_aret, jk_ifnull, jk_ifnonnull, List.getElem?_cons_zero, List.getElem?_cons_succ, List.set_cons_zero, List.set_cons_succ, List.length_cons, List.length_nil, jm_wr_id, pb_none, pb_int, pg_3 hw, pl_3 hw, ps_3 hw, pg_4 hw, pl_4 hw, ps_4 hw, pg_5 hw, pl_5 hw, ps_5 hw, pg_6 hw, pl_6 hw, ps_6 hw, pg_7 hw, pl_7 hw, ps_7 hw, pg_8 hw, pl_8 hw, ps_8 hw, pg_9 hw, pl_9 hw, ps_9 hw, pg_10 hw, pl_10 hw, ps_10 hw, pg_11 hw, pl_11 hw, ps_11 hw, pg_12 hw, pl_12 hw, ps_12 hw, pg_13 hw, pl_13 hw, ps_13 hw, pg_14 hw, pl_14 hw, ps_14 hw, pg_15 hw, pl_15 hw, ps_15 hw, pg_16 hw, pl_16 hw, ps_16 hw, pg_17 hw, pl_17 hw, ps_17 hw, pg_18 hw, pl_18 hw, ps_18 hw, pg_19 hw, pl_19 hw, ps_19 hw, pg_20 hw, pl_20 hw, ps_20 hw, pg_21 hw, pl_21 hw, ps_21 hw, pg_22 hw, pl_22 hw, ps_22 hw, pg_23 hw, pl_23 hw, ps_23 hw, pg_24 hw, pl_24 hw, ps_24 hw, pg_25 hw, pl_25 hw, ps_25 hw, pg_26 hw, pl_26 hw, ps_26 hw, pg_27 hw, pl_27 hw, ps_27 hw, pg_28 hw, pl_28 hw, ps_28 hw, pg_29 hw, pl_29 hw, ps_29 hw, pg_30 hw, pl_30 hw, ps_30 hw, pg_31 hw, pl_31 hw, ps_31 hw, pg_32 hw, pl_32 hw, ps_32 hw, pg_33 hw, pm_bald hw, pm_bast hw, pg_34 hw, pl_34 hw, ps_34 hw, pg_35 hw, pl_35 hw, ps_35 hw, pg_36 hw, pl_36 hw, ps_36 hw, pg_0 hw, ps_0 hw, pg_1 hw, ps_1 hw, pg_2 hw, ps_2 hw, pg_37 hw, ps_37 hw, pg_38 hw, ps_38 hw, pc_0 hw, pc_1 hw, pc_2 hw, pc_3 hw, pc_4 hw, pc_5 hw, pu_up_ne, pu_up_at, hne, if_false, if_true, e0, w18, v25, c1, jk_sw, jm_pick_eq, jm_pick_ne, jm_pick_nil]
      · rw [if_neg c1]
        obtain ⟨σ1, e3, hR1⟩ := R_goes (κ := κ) (g := g) (n := n) hw hn hR hI hf0 hf1 0 h5p
        refine ⟨σ1, ?_, hR1, hI.goes _ hf0 hf1 h5p⟩
        simp only [fX12_letsOneGo, jm_run, List.length_cons, List.length_nil, Nat.reduceAdd, if_true, jm_init, List.map_cons, List.map_nil, Nat.reduceSub, List.replicate, List.cons_append, List.nil_append, kX12_letsOneGo]
        rw [jk_fix_pos (by omega)]
        simp only [kX12_letsOneGo_b, kX12_letsOneGo_0, Nat.reduceEqDiff, if_false, if_true]
        simp (disch := first | omega | (simp only [List.length_cons, List.length_nil]; omega) | assumption) only [jk_none, jk_int, jk_null, jk_iload, jk_aload, jk_istore, jk_astore, jk_kill, jk_iinc, jk_iadd, jk_isub, jk_imul, jk_dup, jk_dup2, jk_ifeq, jk_ifne, jk_iflt, jk_ifge, jk_ifgt, jk_ifle, jk_icmpeq, jk_icmpne, jk_icmplt, jk_icmpge, jk_icmpgt, jk_icmple, jk_iret, jz_0, jz_1, jk_vret, jk_aret, jk_ifnull, jk_ifnonnull, List.getElem?_cons_zero, List.getElem?_cons_succ, List.set_cons_zero, List.set_cons_succ, List.length_cons, List.length_nil, jm_wr_id, pb_none, pb_int, pg_3 hw, pl_3 hw, ps_3 hw, pg_4 hw, pl_4 hw, ps_4 hw, pg_5 hw, pl_5 hw, ps_5 hw, pg_6 hw, pl_6 hw, ps_6 hw, pg_7 hw, pl_7 hw, ps_7 hw, pg_8 hw, pl_8 hw, ps_8 hw, pg_9 hw, pl_9 hw, ps_9 hw, pg_10 hw, pl_10 hw, ps_10 hw, pg_11 hw, pl_11 hw, ps_11 hw, pg_12 hw, pl_12 hw, ps_12 hw, pg_13 hw, pl_13 hw, ps_13 hw, pg_14 hw, pl_14 hw, ps_14 hw, pg_15 hw, pl_15 hw, ps_15 hw, pg_16 hw, pl_16 hw, ps_16 hw, pg_17 hw, pl_17 hw, ps_17 hw, pg_18 hw, pl_18 hw, ps_18 hw, pg_19 hw, pl_19 hw, ps_19 hw, pg_20 hw, pl_20 hw, ps_20 hw, pg_21 hw, pl_21 hw, ps_21 hw, pg_22 hw, pl_22 hw, ps_22 hw, pg_23 hw, pl_23 hw, ps_23 hw, pg_24 hw, pl_24 hw, ps_24 hw, pg_25 hw, pl_25 hw, ps_25 hw, pg_26 hw, pl_26 hw, ps_26 hw, pg_27 hw, pl_27 hw, ps_27 hw, pg_28 hw, pl_28 hw, ps_28 hw, pg_29 hw, pl_29 hw, ps_29 hw, pg_30 hw, pl_30 hw, ps_30 hw, pg_31 hw, pl_31 hw, ps_31 hw, pg_32 hw, pl_32 hw, ps_32 hw, pg_33 hw, pm_bald hw, pm_bast hw, pg_34 hw, pl_34 hw, ps_34 hw, pg_35 hw, pl_35 hw, ps_35 hw, pg_36 hw, pl_36 hw, ps_36 hw, pg_0 hw, ps_0 hw, pg_1 hw, ps_1 hw, pg_2 hw, ps_2 hw, pg_37 hw, ps_37 hw, pg_38 hw, ps_38 hw, pc_0 hw, pc_1 hw, pc_2 hw, pc_3 hw, pc_4 hw, pc_5 hw, pu_up_ne, pu_up_at, hne, if_false, if_true, e0, e3, w18, v25, c1, jk_sw, jm_pick_eq, jm_pick_ne, jm_pick_nil]
    rw [if_neg k10]
    by_cases k11 : τ.1 18 d = 11
    · rw [if_pos k11]
      have w18 : σ 18 d = 11 := by rw [v18, k11]
      by_cases c1 : 0 ≤ τ.1 26 d
      · have c1n : ¬ τ.1 26 d < 0 := by omega
        have z1 : (-1 : Int) < 0 := by decide
        rw [if_pos c1]
        show _ = _
        simp only [fX12_letsOneGo, jm_run, List.length_cons, List.length_nil, Nat.reduceAdd, if_true, jm_init, List.map_cons, List.map_nil, Nat.reduceSub, List.replicate, List.cons_append, List.nil_append, kX12_letsOneGo]
        rw [jk_fix_pos (by omega)]
        simp only [kX12_letsOneGo_b, kX12_letsOneGo_0, Nat.reduceEqDiff, if_false, if_true]
        simp (disch := first | omega | (simp only [List.length_cons, List.length_nil]; omega) | assumption) only [jk_none, jk_int, jk_null, jk_iload, jk_aload, jk_istore, jk_astore, jk_kill, jk_iinc, jk_iadd, jk_isub, jk_imul, jk_dup, jk_dup2, jk_ifeq, jk_ifne, jk_iflt, jk_ifge, jk_ifgt, jk_ifle, jk_icmpeq, jk_icmpne, jk_icmplt, jk_icmpge, jk_icmpgt, jk_icmple, jk_iret, jz_0, jz_1, jk_vret, jk_aret, jk_ifnull, jk_ifnonnull, List.getElem?_cons_zero, List.getElem?_cons_succ, List.set_cons_zero, List.set_cons_succ, List.length_cons, List.length_nil, jm_wr_id, pb_none, pb_int, pg_3 hw, pl_3 hw, ps_3 hw, pg_4 hw, pl_4 hw, ps_4 hw, pg_5 hw, pl_5 hw, ps_5 hw, pg_6 hw, pl_6 hw, ps_6 hw, pg_7 hw, pl_7 hw, ps_7 hw, pg_8 hw, pl_8 hw, ps_8 hw, pg_9 hw, pl_9 hw, ps_9 hw, pg_10 hw, pl_10 hw, ps_10 hw, pg_11 hw, pl_11 hw, ps_11 hw, pg_12 hw, pl_12 hw, ps_12 hw, pg_13 hw, pl_13 hw, ps_13 hw, pg_14 hw, pl_14 hw, ps_14 hw, pg_15 hw, pl_15 hw, ps_15 hw, pg_16 hw, pl_16 hw, ps_16 hw, pg_17 hw, pl_17 hw, ps_17 hw, pg_18 hw, pl_18 hw, ps_18 hw, pg_19 hw, pl_19 hw, ps_19 hw, pg_20 hw, pl_20 hw, ps_20 hw, pg_21 hw, pl_21 hw, ps_21 hw, pg_22 hw, pl_22 hw, ps_22 hw, pg_23 hw, pl_23 hw, ps_23 hw, pg_24 hw, pl_24 hw, ps_24 hw, pg_25 hw, pl_25 hw, ps_25 hw, pg_26 hw, pl_26 hw, ps_26 hw, pg_27 hw, pl_27 hw, ps_27 hw, pg_28 hw, pl_28 hw, ps_28 hw, pg_29 hw, pl_29 hw, ps_29 hw, pg_30 hw, pl_30 hw, ps_30 hw, pg_31 hw, pl_31 hw, ps_31 hw, pg_32 hw, pl_32 hw, ps_32 hw, pg_33 hw, pm_bald hw, pm_bast hw, pg_34 hw, pl_34 hw, ps_34 hw, pg_35 hw, pl_35 hw, ps_35 hw, pg_36 hw, pl_36 hw, ps_36 hw, pg_0 hw, ps_0 hw, pg_1 hw, ps_1 hw, pg_2 hw, ps_2 hw, pg_37 hw, ps_37 hw, pg_38 hw, ps_38 hw, pc_0 hw, pc_1 hw, pc_2 hw, pc_3 hw, pc_4 hw, pc_5 hw, pu_up_ne, pu_up_at, hne, if_false, if_true, e0, w18, v26, c1n, jk_sw, jm_pick_eq, jm_pick_ne, jm_pick_nil]
        rw [jk_fix_pos (by omega)]
        simp only [kX12_letsOneGo_b, kX12_letsOneGo_315, Nat.reduceEqDiff, if_false, if_true]
        simp (disch := first | omega | (simp only [List.length_cons, List.length_nil]; omega) | assumption) only [jk_none, jk_int, jk_null, jk_iload, jk_aload, jk_istore, jk_astore, jk_kill, jk_iinc, jk_iadd, jk_isub, jk_imul, jk_dup, jk_dup2, jk_ifeq, jk_ifne, jk_iflt, jk_ifge, jk_ifgt, jk_ifle, jk_icmpeq, jk_icmpne, jk_icmplt, jk_icmpge, jk_icmpgt, jk_icmple, jk_iret, jz_0, jz_1, jk_vret, jk_aret, jk_ifnull, jk_ifnonnull, List.getElem?_cons_zero, List.getElem?_cons_succ, List.set_cons_zero, List.set_cons_succ, List.length_cons, List.length_nil, jm_wr_id, pb_none, pb_int, pg_3 hw, pl_3 hw, ps_3 hw, pg_4 hw, pl_4 hw, ps_4 hw, pg_5 hw, pl_5 hw, ps_5 hw, pg_6 hw, pl_6 hw, ps_6 hw, pg_7 hw, pl_7 hw, ps_7 hw, pg_8 hw, pl_8 hw, ps_8 hw, pg_9 hw, pl_9 hw, ps_9 hw, pg_10 hw, pl_10 hw, ps_10 hw, pg_11 hw, pl_11 hw, ps_11 hw, pg_12 hw, pl_12 hw, ps_12 hw, pg_13 hw, pl_13 hw, ps_13 hw, pg_14 hw, pl_14 hw, ps_14 hw, pg_15 hw, pl_15 hw, ps_15 hw, pg_16 hw, pl_16 hw, ps_16 hw, pg_17 hw, pl_17 hw, ps_17 hw, pg_18 hw, pl_18 hw, ps_18 hw, pg_19 hw, pl_19 hw, ps_19 hw, pg_20 hw, pl_20 hw, ps_20 hw, pg_21 hw, pl_21 hw, ps_21 hw, pg_22 hw, pl_22 hw, ps_22 hw, pg_23 hw, pl_23 hw, ps_23 hw, pg_24 hw, pl_24 hw, ps_24 hw, pg_25 hw, pl_25 hw, ps_25 hw, pg_26 hw, pl_26 hw, ps_26 hw, pg_27 hw, pl_27 hw, ps_27 hw, pg_28 hw, pl_28 hw, ps_28 hw, pg_29 hw, pl_29 hw, ps_29 hw, pg_30 hw, pl_30 hw, ps_30 hw, pg_31 hw, pl_31 hw, ps_31 hw, pg_32 hw, pl_32 hw, ps_32 hw, pg_33 hw, pm_bald hw, pm_bast hw, pg_34 hw, pl_34 hw, ps_34 hw, pg_35 hw, pl_35 hw, ps_35 hw, pg_36 hw, pl_36 hw, ps_36 hw, pg_0 hw, ps_0 hw, pg_1 hw, ps_1 hw, pg_2 hw, ps_2 hw, pg_37 hw, ps_37 hw, pg_38 hw, ps_38 hw, pc_0 hw, pc_1 hw, pc_2 hw, pc_3 hw, pc_4 hw, pc_5 hw, pu_up_ne, pu_up_at, z1, if_true]
      · have c1n : τ.1 26 d < 0 := by omega
        have e1 := R_firstToEnter (κ := κ) (g := g) (n := n) hw hn hR hI hd0 hd1
        rw [if_neg c1]
        by_cases c2 : b_first τ d < 0
        · rw [if_pos c2]
          show _ = _
          simp only [fX12_letsOneGo, jm_run, List.length_cons, List.length_nil, Nat.reduceAdd, if_true, jm_init, List.map_cons, List.map_nil, Nat.reduceSub, List.replicate, List.cons_append, List.nil_append, kX12_letsOneGo]
          rw [jk_fix_pos (by omega)]
          simp only [kX12_letsOneGo_b, kX12_letsOneGo_0, Nat.reduceEqDiff, if_false, if_true]
          simp (disch := first | omega | (simp only [List.length_cons, List.length_nil]; omega) | assumption) only [jk_none, jk_int, jk_null, jk_iload, jk_aload, jk_istore, jk_astore, jk_kill, jk_iinc, jk_iadd, jk_isub, jk_imul, jk_dup, jk_dup2, jk_ifeq, jk_ifne, jk_iflt, jk_ifge, jk_ifgt, jk_ifle, jk_icmpeq, jk_icmpne, jk_icmplt, jk_icmpge, jk_icmpgt, jk_icmple, jk_iret, jz_0, jz_1, jk_vret, jk_aret, jk_ifnull, jk_ifnonnull, List.getElem?_cons_zero, List.getElem?_cons_succ, List.set_cons_zero, List.set_cons_succ, List.length_cons, List.length_nil, jm_wr_id, pb_none, pb_int, pg_3 hw, pl_3 hw, ps_3 hw, pg_4 hw, pl_4 hw, ps_4 hw, pg_5 hw, pl_5 hw, ps_5 hw, pg_6 hw, pl_6 hw, ps_6 hw, pg_7 hw, pl_7 hw, ps_7 hw, pg_8 hw, pl_8 hw, ps_8 hw, pg_9 hw, pl_9 hw, ps_9 hw, pg_10 hw, pl_10 hw, ps_10 hw, pg_11 hw, pl_11 hw, ps_11 hw, pg_12 hw, pl_12 hw, ps_12 hw, pg_13 hw, pl_13 hw, ps_13 hw, pg_14 hw, pl_14 hw, ps_14 hw, pg_15 hw, pl_15 hw, ps_15 hw, pg_16 hw, pl_16 hw, ps_16 hw, pg_17 hw, pl_17 hw, ps_17 hw, pg_18 hw, pl_18 hw, ps_18 hw, pg_19 hw, pl_19 hw, ps_19 hw, pg_20 hw, pl_20 hw, ps_20 hw, pg_21 hw, pl_21 hw, ps_21 hw, pg_22 hw, pl_22 hw, ps_22 hw, pg_23 hw, pl_23 hw, ps_23 hw, pg_24 hw, pl_24 hw, ps_24 hw, pg_25 hw, pl_25 hw, ps_25 hw, pg_26 hw, pl_26 hw, ps_26 hw, pg_27 hw, pl_27 hw, ps_27 hw, pg_28 hw, pl_28 hw, ps_28 hw, pg_29 hw, pl_29 hw, ps_29 hw, pg_30 hw, pl_30 hw, ps_30 hw, pg_31 hw, pl_31 hw, ps_31 hw, pg_32 hw, pl_32 hw, ps_32 hw, pg_33 hw, pm_bald hw, pm_bast hw, pg_34 hw, pl_34 hw, ps_34 hw, pg_35 hw, pl_35 hw, ps_35 hw, pg_36 hw, pl_36 hw, ps_36 hw, pg_0 hw, ps_0 hw, pg_1 hw, ps_1 hw, pg_2 hw, ps_2 hw, pg_37 hw, ps_37 hw, pg_38 hw, ps_38 hw, pc_0 hw, pc_1 hw, pc_2 hw, pc_3 hw, pc_4 hw, pc_5 hw, pu_up_ne, pu_up_at, hne, if_false, if_true, e0, e1, w18, v26, c1n, jk_sw, jm_pick_eq, jm_pick_ne, jm_pick_nil]
          rw [jk_fix_pos (by omega)]
          simp only [kX12_letsOneGo_b, kX12_letsOneGo_315, Nat.reduceEqDiff, if_false, if_true]
          simp (disch := first | omega | (simp only [List.length_cons, List.length_nil]; omega) | assumption) only [jk_none, jk_int, jk_null, jk_iload, jk_aload, jk_istore, jk_astore, jk_kill, jk_iinc, jk_iadd, jk_isub, jk_imul, jk_dup, jk_dup2, jk_ifeq, jk_ifne, jk_iflt, jk_ifge, jk_ifgt, jk_ifle, jk_icmpeq, jk_icmpne, jk_icmplt, jk_icmpge, jk_icmpgt, jk_icmple, jk_iret, jz_0, jz_1, jk_vret, jk_aret, jk_ifnull, jk_ifnonnull, List.getElem?_cons_zero, List.getElem?_cons_succ, List.set_cons_zero, List.set_cons_succ, List.length_cons, List.length_nil, jm_wr_id, pb_none, pb_int, pg_3 hw, pl_3 hw, ps_3 hw, pg_4 hw, pl_4 hw, ps_4 hw, pg_5 hw, pl_5 hw, ps_5 hw, pg_6 hw, pl_6 hw, ps_6 hw, pg_7 hw, pl_7 hw, ps_7 hw, pg_8 hw, pl_8 hw, ps_8 hw, pg_9 hw, pl_9 hw, ps_9 hw, pg_10 hw, pl_10 hw, ps_10 hw, pg_11 hw, pl_11 hw, ps_11 hw, pg_12 hw, pl_12 hw, ps_12 hw, pg_13 hw, pl_13 hw, ps_13 hw, pg_14 hw, pl_14 hw, ps_14 hw, pg_15 hw, pl_15 hw, ps_15 hw, pg_16 hw, pl_16 hw, ps_16 hw, pg_17 hw, pl_17 hw, ps_17 hw, pg_18 hw, pl_18 hw, ps_18 hw, pg_19 hw, pl_19 hw, ps_19 hw, pg_20 hw, pl_20 hw, ps_20 hw, pg_21 hw, pl_21 hw, ps_21 hw, pg_22 hw, pl_22 hw, ps_22 hw, pg_23 hw, pl_23 hw, ps_23 hw, pg_24 hw, pl_24 hw, ps_24 hw, pg_25 hw, pl_25 hw, ps_25 hw, pg_26 hw, pl_26 hw, ps_26 hw, pg_27 hw, pl_27 hw, ps_27 hw, pg_28 hw, pl_28 hw, ps_28 hw, pg_29 hw, pl_29 hw, ps_29 hw, pg_30 hw, pl_30 hw, ps_30 hw, pg_31 hw, pl_31 hw, ps_31 hw, pg_32 hw, pl_32 hw, ps_32 hw, pg_33 hw, pm_bald hw, pm_bast hw, pg_34 hw, pl_34 hw, ps_34 hw, pg_35 hw, pl_35 hw, ps_35 hw, pg_36 hw, pl_36 hw, ps_36 hw, pg_0 hw, ps_0 hw, pg_1 hw, ps_1 hw, pg_2 hw, ps_2 hw, pg_37 hw, ps_37 hw, pg_38 hw, ps_38 hw, pc_0 hw, pc_1 hw, pc_2 hw, pc_3 hw, pc_4 hw, pc_5 hw, pu_up_ne, pu_up_at, c2, if_true]
        · rw [if_neg c2]
          have hfm : b_first τ d ∈ τ.2 d := by
            unfold b_first at c2 ⊢
            cases hfi : (τ.2 d).find? (fun t => decide (τ.1 9 t = 1)) with
            | none => rw [hfi] at c2; exact absurd (by decide) c2
            | some z => exact List.mem_of_find?_eq_some hfi
          obtain ⟨u0, u1, u5, _, _⟩ := (hI.2.2.1 d hd0 hd1).2 _ hfm
          have hRa := hR.up (c := 26) d (b_first τ d) (by decide) (by decide)
          have hIa := hI.upd (c := 26) d (b_first τ d) (by decide)
          have h5u : LV (b_up τ 26 d (b_first τ d)) (b_first τ d) := (LV.of hd0 hd1 u5 hfm).same (b_up_c _ _ _ _ _ _ (by decide)) rfl
          obtain ⟨σ1, e3, hR1⟩ := R_goes (κ := κ) (g := g) (n := n) hw hn hRa hIa u0 u1 0 h5u
          refine ⟨σ1, ?_, hR1, hIa.goes _ u0 u1 h5u⟩
          simp only [fX12_letsOneGo, jm_run, List.length_cons, List.length_nil, Nat.reduceAdd, if_true, jm_init, List.map_cons, List.map_nil, Nat.reduceSub, List.replicate, List.cons_append, List.nil_append, kX12_letsOneGo]
          rw [jk_fix_pos (by omega)]
          simp only [kX12_letsOneGo_b, kX12_letsOneGo_0, Nat.reduceEqDiff, if_false, if_true]
          simp (disch := first | omega | (simp only [List.length_cons, List.length_nil]; omega) | assumption) only [jk_none, jk_int, jk_null, jk_iload, jk_aload, jk_istore, jk_astore, jk_kill, jk_iinc, jk_iadd, jk_isub, jk_imul, jk_dup, jk_dup2, jk_ifeq, jk_ifne, jk_iflt, jk_ifge, jk_ifgt, jk_ifle, jk_icmpeq, jk_icmpne, jk_icmplt, jk_icmpge, jk_icmpgt, jk_icmple, jk_iret, jz_0, jz_1, jk_vret, jk_aret, jk_ifnull, jk_ifnonnull, List.getElem?_cons_zero, List.getElem?_cons_succ, List.set_cons_zero, List.set_cons_succ, List.length_cons, List.length_nil, jm_wr_id, pb_none, pb_int, pg_3 hw, pl_3 hw, ps_3 hw, pg_4 hw, pl_4 hw, ps_4 hw, pg_5 hw, pl_5 hw, ps_5 hw, pg_6 hw, pl_6 hw, ps_6 hw, pg_7 hw, pl_7 hw, ps_7 hw, pg_8 hw, pl_8 hw, ps_8 hw, pg_9 hw, pl_9 hw, ps_9 hw, pg_10 hw, pl_10 hw, ps_10 hw, pg_11 hw, pl_11 hw, ps_11 hw, pg_12 hw, pl_12 hw, ps_12 hw, pg_13 hw, pl_13 hw, ps_13 hw, pg_14 hw, pl_14 hw, ps_14 hw, pg_15 hw, pl_15 hw, ps_15 hw, pg_16 hw, pl_16 hw, ps_16 hw, pg_17 hw, pl_17 hw, ps_17 hw, pg_18 hw, pl_18 hw, ps_18 hw, pg_19 hw, pl_19 hw, ps_19 hw, pg_20 hw, pl_20 hw, ps_20 hw, pg_21 hw, pl_21 hw, ps_21 hw, pg_22 hw, pl_22 hw, ps_22 hw, pg_23 hw, pl_23 hw, ps_23 hw, pg_24 hw, pl_24 hw, ps_24 hw, pg_25 hw, pl_25 hw, ps_25 hw, pg_26 hw, pl_26 hw, ps_26 hw, pg_27 hw, pl_27 hw, ps_27 hw, pg_28 hw, pl_28 hw, ps_28 hw, pg_29 hw, pl_29 hw, ps_29 hw, pg_30 hw, pl_30 hw, ps_30 hw, pg_31 hw, pl_31 hw, ps_31 hw, pg_32 hw, pl_32 hw, ps_32 hw, pg_33 hw, pm_bald hw, pm_bast hw, pg_34 hw, pl_34 hw, ps_34 hw, pg_35 hw, pl_35 hw, ps_35 hw, pg_36 hw, pl_36 hw, ps_36 hw, pg_0 hw, ps_0 hw, pg_1 hw, ps_1 hw, pg_2 hw, ps_2 hw, pg_37 hw, ps_37 hw, pg_38 hw, ps_38 hw, pc_0 hw, pc_1 hw, pc_2 hw, pc_3 hw, pc_4 hw, pc_5 hw, pu_up_ne, pu_up_at, hne, if_false, if_true, e0, e1, w18, v26, c1n, jk_sw, jm_pick_eq, jm_pick_ne, jm_pick_nil]
          rw [jk_fix_pos (by omega)]
          simp only [kX12_letsOneGo_b, kX12_letsOneGo_315, Nat.reduceEqDiff, if_false, if_true]
          simp (disch := first | omega | (simp only [List.length_cons, List.length_nil]; omega) | assumption) only [jk_none, jk_int, jk_null, jk_iload, jk_aload, jk_istore, jk_astore, jk_kill, jk_iinc, jk_iadd, jk_isub, jk_imul, jk_dup, jk_dup2, jk_ifeq, jk_ifne, jk_iflt, jk_ifge, jk_ifgt, jk_ifle, jk_icmpeq, jk_icmpne, jk_icmplt, jk_icmpge, jk_icmpgt, jk_icmple, jk_iret, jz_0, jz_1, jk_vret, jk_aret, jk_ifnull, jk_ifnonnull, List.getElem?_cons_zero, List.getElem?_cons_succ, List.set_cons_zero, List.set_cons_succ, List.length_cons, List.length_nil, jm_wr_id, pb_none, pb_int, pg_3 hw, pl_3 hw, ps_3 hw, pg_4 hw, pl_4 hw, ps_4 hw, pg_5 hw, pl_5 hw, ps_5 hw, pg_6 hw, pl_6 hw, ps_6 hw, pg_7 hw, pl_7 hw, ps_7 hw, pg_8 hw, pl_8 hw, ps_8 hw, pg_9 hw, pl_9 hw, ps_9 hw, pg_10 hw, pl_10 hw, ps_10 hw, pg_11 hw, pl_11 hw, ps_11 hw, pg_12 hw, pl_12 hw, ps_12 hw, pg_13 hw, pl_13 hw, ps_13 hw, pg_14 hw, pl_14 hw, ps_14 hw, pg_15 hw, pl_15 hw, ps_15 hw, pg_16 hw, pl_16 hw, ps_16 hw, pg_17 hw, pl_17 hw, ps_17 hw, pg_18 hw, pl_18 hw, ps_18 hw, pg_19 hw, pl_19 hw, ps_19 hw, pg_20 hw, pl_20 hw, ps_20 hw, pg_21 hw, pl_21 hw, ps_21 hw, pg_22 hw, pl_22 hw, ps_22 hw, pg_23 hw, pl_23 hw, ps_23 hw, pg_24 hw, pl_24 hw, ps_24 hw, pg_25 hw, pl_25 hw, ps_25 hw, pg_26 hw, pl_26 hw, ps_26 hw, pg_27 hw, pl_27 hw, ps_27 hw, pg_28 hw, pl_28 hw, ps_28 hw, pg_29 hw, pl_29 hw, ps_29 hw, pg_30 hw, pl_30 hw, ps_30 hw, pg_31 hw, pl_31 hw, ps_31 hw, pg_32 hw, pl_32 hw, ps_32 hw, pg_33 hw, pm_bald hw, pm_bast hw, pg_34 hw, pl_34 hw, ps_34 hw, pg_35 hw, pl_35 hw, ps_35 hw, pg_36 hw, pl_36 hw, ps_36 hw, pg_0 hw, ps_0 hw, pg_1 hw, ps_1 hw, pg_2 hw, ps_2 hw, pg_37 hw, ps_37 hw, pg_38 hw, ps_38 hw, pc_0 hw, pc_1 hw, pc_2 hw, pc_3 hw, pc_4 hw, pc_5 hw, pu_up_ne, pu_up_at, c2, if_false, e3]
    rw [if_neg k11]
    show _ = _
    simp only [fX12_letsOneGo, jm_run, List.length_cons, List.length_nil, Nat.reduceAdd, if_true, jm_init, List.map_cons, List.map_nil, Nat.reduceSub, List.replicate, List.cons_append, List.nil_append, kX12_letsOneGo]
    rw [jk_fix_pos (by omega)]
    simp only [kX12_letsOneGo_b, kX12_letsOneGo_0, Nat.reduceEqDiff, if_false, if_true]
    rcases (show τ.1 18 d = 3 ∨ τ.1 18 d = 4 ∨ τ.1 18 d = 6 ∨ τ.1 18 d = 9 by omega) with k | k | k | k
    all_goals
      have w18 := v18
      rw [k] at w18
      simp (disch := first | omega | (simp only [List.length_cons, List.length_nil]; omega) | assumption) only [jk_none, jk_int, jk_null, jk_iload, jk_aload, jk_istore, jk_astore, jk_kill, jk_iinc, jk_iadd, jk_isub, jk_imul, jk_dup, jk_dup2, jk_ifeq, jk_ifne, jk_iflt, jk_ifge, jk_ifgt, jk_ifle, jk_icmpeq, jk_icmpne, jk_icmplt, jk_icmpge, jk_icmpgt, jk_icmple, jk_iret, jz_0, jz_1, jk_vret, jk_aret, jk_ifnull, jk_ifnonnull, List.getElem?_cons_zero, List.getElem?_cons_succ, List.set_cons_zero, List.set_cons_succ, List.length_cons, List.length_nil, jm_wr_id, pb_none, pb_int, pg_3 hw, pl_3 hw, ps_3 hw, pg_4 hw, pl_4 hw, ps_4 hw, pg_5 hw, pl_5 hw, ps_5 hw, pg_6 hw, pl_6 hw, ps_6 hw, pg_7 hw, pl_7 hw, ps_7 hw, pg_8 hw, pl_8 hw, ps_8 hw, pg_9 hw, pl_9 hw, ps_9 hw, pg_10 hw, pl_10 hw, ps_10 hw, pg_11 hw, pl_11 hw, ps_11 hw, pg_12 hw, pl_12 hw, ps_12 hw, pg_13 hw, pl_13 hw, ps_13 hw, pg_14 hw, pl_14 hw, ps_14 hw, pg_15 hw, pl_15 hw, ps_15 hw, pg_16 hw, pl_16 hw, ps_16 hw, pg_17 hw, pl_17 hw, ps_17 hw, pg_18 hw, pl_18 hw, ps_18 hw, pg_19 hw, pl_19 hw, ps_19 hw, pg_20 hw, pl_20 hw, ps_20 hw, pg_21 hw, pl_21 hw, ps_21 hw, pg_22 hw, pl_22 hw, ps_22 hw, pg_23 hw, pl_23 hw, ps_23 hw, pg_24 hw, pl_24 hw, ps_24 hw, pg_25 hw, pl_25 hw, ps_25 hw, pg_26 hw, pl_26 hw, ps_26 hw, pg_27 hw, pl_27 hw, ps_27 hw, pg_28 hw, pl_28 hw, ps_28 hw, pg_29 hw, pl_29 hw, ps_29 hw, pg_30 hw, pl_30 hw, ps_30 hw, pg_31 hw, pl_31 hw, ps_31 hw, pg_32 hw, pl_32 hw, ps_32 hw, pg_33 hw, pm_bald hw, pm_bast hw, pg_34 hw, pl_34 hw, ps_34 hw, pg_35 hw, pl_35 hw, ps_35 hw, pg_36 hw, pl_36 hw, ps_36 hw, pg_0 hw, ps_0 hw, pg_1 hw, ps_1 hw, pg_2 hw, ps_2 hw, pg_37 hw, ps_37 hw, pg_38 hw, ps_38 hw, pc_0 hw, pc_1 hw, pc_2 hw, pc_3 hw, pc_4 hw, pc_5 hw, pu_up_ne, pu_up_at, hne, if_false, if_true, e0, w18, jk_sw, jm_pick_eq, jm_pick_ne, jm_pick_nil]
      rw [jk_fix_pos (by omega)]
      simp only [kX12_letsOneGo_b, kX12_letsOneGo_341, Nat.reduceEqDiff, if_false, if_true]
      simp (disch := first | omega | (simp only [List.length_cons, List.length_nil]; omega) | assumption) only [jk_none, jk_int, jk_null, jk_iload, jk_aload, jk_istore, jk_astore, jk_kill, jk_iinc, jk_iadd, jk_isub, jk_imul, jk_dup, jk_dup2, jk_ifeq, jk_ifne, jk_iflt, jk_ifge, jk_ifgt, jk_ifle, jk_icmpeq, jk_icmpne, jk_icmplt, jk_icmpge, jk_icmpgt, jk_icmple, jk_iret, jz_0, jz_1, jk_vret, jk_aret, jk_ifnull, jk_ifnonnull, List.getElem?_cons_zero, List.getElem?_cons_succ, List.set_cons_zero, List.set_cons_succ, List.length_cons, List.length_nil, jm_wr_id, pb_none, pb_int, pg_3 hw, pl_3 hw, ps_3 hw, pg_4 hw, pl_4 hw, ps_4 hw, pg_5 hw, pl_5 hw, ps_5 hw, pg_6 hw, pl_6 hw, ps_6 hw, pg_7 hw, pl_7 hw, ps_7 hw, pg_8 hw, pl_8 hw, ps_8 hw, pg_9 hw, pl_9 hw, ps_9 hw, pg_10 hw, pl_10 hw, ps_10 hw, pg_11 hw, pl_11 hw, ps_11 hw, pg_12 hw, pl_12 hw, ps_12 hw, pg_13 hw, pl_13 hw, ps_13 hw, pg_14 hw, pl_14 hw, ps_14 hw, pg_15 hw, pl_15 hw, ps_15 hw, pg_16 hw, pl_16 hw, ps_16 hw, pg_17 hw, pl_17 hw, ps_17 hw, pg_18 hw, pl_18 hw, ps_18 hw, pg_19 hw, pl_19 hw, ps_19 hw, pg_20 hw, pl_20 hw, ps_20 hw, pg_21 hw, pl_21 hw, ps_21 hw, pg_22 hw, pl_22 hw, ps_22 hw, pg_23 hw, pl_23 hw, ps_23 hw, pg_24 hw, pl_24 hw, ps_24 hw, pg_25 hw, pl_25 hw, ps_25 hw, pg_26 hw, pl_26 hw, ps_26 hw, pg_27 hw, pl_27 hw, ps_27 hw, pg_28 hw, pl_28 hw, ps_28 hw, pg_29 hw, pl_29 hw, ps_29 hw, pg_30 hw, pl_30 hw, ps_30 hw, pg_31 hw, pl_31 hw, ps_31 hw, pg_32 hw, pl_32 hw, ps_32 hw, pg_33 hw, pm_bald hw, pm_bast hw, pg_34 hw, pl_34 hw, ps_34 hw, pg_35 hw, pl_35 hw, ps_35 hw, pg_36 hw, pl_36 hw, ps_36 hw, pg_0 hw, ps_0 hw, pg_1 hw, ps_1 hw, pg_2 hw, ps_2 hw, pg_37 hw, ps_37 hw, pg_38 hw, ps_38 hw, pc_0 hw, pc_1 hw, pc_2 hw, pc_3 hw, pc_4 hw, pc_5 hw, pu_up_ne, pu_up_at]
def b_letsGo (τ : bS) (d : Int) : Nat → bS
  | 0 => τ
  | k + 1 => match b_letsOne τ d with
    | none => τ
    | some τ' => b_letsGo τ' d k
theorem b_goes_l {τ : bS} {t : Int} (v d : Int) (h5 : τ.1 5 t = d) (hm : t ∈ τ.2 d) : ((b_goes τ t v).2 d).length + 1 = (τ.2 d).length := by
  show (if d = τ.1 5 t then (τ.2 d).erase t else τ.2 d : List Int).length + 1 = _
  rw [if_pos h5.symm, List.length_erase_of_mem hm]
  have := List.length_pos_of_mem hm
  omega
theorem b_one_len {τ τ' : bS} {d : Int} (hI : WI τ) (hd0 : 0 ≤ d) (hd1 : d < 12) (h : b_letsOne τ d = some τ') : (τ'.2 d).length + 1 = (τ.2 d).length := by
  have key : ∀ (ρ : bS) (t v : Int), ρ.2 = τ.2 → ρ.1 5 t = τ.1 5 t → t ∈ τ.2 d → ((b_goes ρ t v).2 d).length + 1 = (τ.2 d).length := fun ρ t v e2 e5 hm => by
    have h5 := ((hI.2.2.1 d hd0 hd1).2 t hm).2.2.1
    have := b_goes_l (τ := ρ) (t := t) v d (by rw [e5]; exact h5) (by rw [e2]; exact hm)
    rw [e2] at this
    exact this
  unfold b_letsOne at h
  cases hls : τ.2 d with
  | nil => rw [hls] at h; cases h
  | cons f l =>
    rw [hls] at h
    dsimp only at h
    have hfm : f ∈ τ.2 d := by rw [hls]; exact List.mem_cons_self
    have fnd : ∀ {P : Int → Bool} {x : Int}, (f :: l).find? P = some x → x ∈ τ.2 d := fun hx => by rw [hls]; exact List.mem_of_find?_eq_some hx
    have fnd1 : ∀ {P : Int → Bool} {x : Int}, [f].find? P = some x → x ∈ τ.2 d := fun hx => by
      have := List.mem_of_find?_eq_some hx
      rw [List.mem_singleton.mp this]
      exact hfm
    rw [← hls]
    have hperm : ∀ {x : Option Int}, (∀ t, x = some t → t ∈ τ.2 d) → b_perm τ d x = some τ' → (τ'.2 d).length + 1 = (τ.2 d).length := fun {x} hx hb => by
      cases x with
      | none => cases hb
      | some t => cases hb; exact key _ t _ rfl (b_up_c _ _ _ _ _ _ (by decide)) (hx t rfl)
    have htick : ∀ {x : Option Int}, (∀ t, x = some t → t ∈ τ.2 d) → b_tick τ x = some τ' → (τ'.2 d).length + 1 = (τ.2 d).length := fun {x} hx hb => by
      cases x with
      | none => cases hb
      | some t => cases hb; exact key _ t _ rfl rfl (hx t rfl)
    split at h
    · exact hperm (fun t ht => fnd ht) h
    split at h
    · exact hperm (fun t ht => fnd1 ht) h
    split at h
    · split at h
      · cases h
      · cases h; exact key _ f _ rfl rfl hfm
    split at h
    · rename_i k5
      unfold b_letsLock at h
      split at h
      · rename_i h28
        split at h
        · cases h
          have hm := (hI.2.2.2.2.2.2.1 d hd0 hd1 k5).2 h28
          exact key _ _ _ rfl (by rw [b_up_c _ _ _ _ _ _ (by decide), b_up_c _ _ _ _ _ _ (by decide)]) hm
        · cases h
      · split at h
        · cases h
        · split at h
          · cases h; exact key _ f _ rfl (b_up_c _ _ _ _ _ _ (by decide)) hfm
          · cases h; exact key _ f _ rfl (b_up_c _ _ _ _ _ _ (by decide)) hfm
    split at h
    · exact htick (fun t ht => fnd ht) h
    split at h
    · split at h
      · cases h
      · cases h; exact key _ f _ rfl rfl hfm
    split at h
    · split at h
      · cases h
      · cases h; exact key _ f _ rfl rfl hfm
    split at h
    · split at h
      · cases h
      · split at h
        · cases h
        · rename_i hneg
          cases h
          refine key _ _ _ rfl (b_up_c _ _ _ _ _ _ (by decide)) ?_
          unfold b_first at hneg ⊢
          cases hfi : (τ.2 d).find? (fun t => decide (τ.1 9 t = 1)) with
          | none => rw [hfi] at hneg; exact absurd (by decide) hneg
          | some z => exact List.mem_of_find?_eq_some hfi
    · cases h
set_option maxHeartbeats 4000000 in
theorem R_letsGo_2 {y : jLay} {κ : aS} {g : jH} {n : Nat} (hw : pm_WF y) (hn : 1000 ≤ n) {d : Int} (hd0 : 0 ≤ d) (hd1 : d < 12) : ∀ (k fuel : Nat) (σ : aS) (τ : bS), RO σ τ → WI τ → (τ.2 d).length < k → k + 2 ≤ fuel → ∃ σ', jk_fix (kX12_letsGo_b n) fuel 2 [some (.inr (some (y.2 13 0))), some (.inl d), some (.inl 1)] [] (pu_H y κ σ g) = some (none, pu_H y κ σ' g) ∧ RO σ' (b_letsGo τ d k) ∧ WI (b_letsGo τ d k) := by
  intro k
  induction k with
  | zero => intro fuel σ τ hR hI hk; omega
  | succ k ih =>
    intro fuel σ τ hR hI hk hf
    have e1 := R_letsOneGo (κ := κ) (g := g) (n := n) hw hn hR hI hd0 hd1
    have z1 : ¬ ((1 : Int) = 0) := by decide
    cases hb : b_letsOne τ d with
    | none =>
      rw [hb] at e1
      have e1 : fX12_letsOneGo n [.inr (some (y.2 13 0)), .inl d] (pu_H y κ σ g) = some (some (.inl 0), pu_H y κ σ g) := e1
      have eb : b_letsGo τ d (k + 1) = τ := by unfold b_letsGo; rw [hb]
      rw [eb]
      refine ⟨σ, ?_, hR, hI⟩
      rw [jk_fix_pos (by omega)]
      simp only [kX12_letsGo_b, kX12_letsGo_2, Nat.reduceEqDiff, if_false, if_true]
      simp (disch := first | omega | (simp only [List.length_cons, List.length_nil]; omega) | assumption) only [jk_none, jk_int, jk_null, jk_iload, jk_aload, jk_istore, jk_astore, jk_kill, jk_iinc, jk_iadd, jk_isub, jk_imul, jk_dup, jk_dup2, jk_ifeq, jk_ifne, jk_iflt, jk_ifge, jk_ifgt, jk_ifle, jk_icmpeq, jk_icmpne, jk_icmplt, jk_icmpge, jk_icmpgt, jk_icmple, jk_iret, jz_0, jz_1, jk_vret, jk_aret, jk_ifnull, jk_ifnonnull, List.getElem?_cons_zero, List.getElem?_cons_succ, List.set_cons_zero, List.set_cons_succ, List.length_cons, List.length_nil, jm_wr_id, pb_none, pb_int, pg_3 hw, pl_3 hw, ps_3 hw, pg_4 hw, pl_4 hw, ps_4 hw, pg_5 hw, pl_5 hw, ps_5 hw, pg_6 hw, pl_6 hw, ps_6 hw, pg_7 hw, pl_7 hw, ps_7 hw, pg_8 hw, pl_8 hw, ps_8 hw, pg_9 hw, pl_9 hw, ps_9 hw, pg_10 hw, pl_10 hw, ps_10 hw, pg_11 hw, pl_11 hw, ps_11 hw, pg_12 hw, pl_12 hw, ps_12 hw, pg_13 hw, pl_13 hw, ps_13 hw, pg_14 hw, pl_14 hw, ps_14 hw, pg_15 hw, pl_15 hw, ps_15 hw, pg_16 hw, pl_16 hw, ps_16 hw, pg_17 hw, pl_17 hw, ps_17 hw, pg_18 hw, pl_18 hw, ps_18 hw, pg_19 hw, pl_19 hw, ps_19 hw, pg_20 hw, pl_20 hw, ps_20 hw, pg_21 hw, pl_21 hw, ps_21 hw, pg_22 hw, pl_22 hw, ps_22 hw, pg_23 hw, pl_23 hw, ps_23 hw, pg_24 hw, pl_24 hw, ps_24 hw, pg_25 hw, pl_25 hw, ps_25 hw, pg_26 hw, pl_26 hw, ps_26 hw, pg_27 hw, pl_27 hw, ps_27 hw, pg_28 hw, pl_28 hw, ps_28 hw, pg_29 hw, pl_29 hw, ps_29 hw, pg_30 hw, pl_30 hw, ps_30 hw, pg_31 hw, pl_31 hw, ps_31 hw, pg_32 hw, pl_32 hw, ps_32 hw, pg_33 hw, pm_bald hw, pm_bast hw, pg_34 hw, pl_34 hw, ps_34 hw, pg_35 hw, pl_35 hw, ps_35 hw, pg_36 hw, pl_36 hw, ps_36 hw, pg_0 hw, ps_0 hw, pg_1 hw, ps_1 hw, pg_2 hw, ps_2 hw, pg_37 hw, ps_37 hw, pg_38 hw, ps_38 hw, pc_0 hw, pc_1 hw, pc_2 hw, pc_3 hw, pc_4 hw, pc_5 hw, pu_up_ne, pu_up_at, z1, if_false, e1]
      rw [jk_fix_pos (by omega)]
      simp only [kX12_letsGo_b, kX12_letsGo_2, Nat.reduceEqDiff, if_false, if_true]
      simp (disch := first | omega | (simp only [List.length_cons, List.length_nil]; omega) | assumption) only [jk_none, jk_int, jk_null, jk_iload, jk_aload, jk_istore, jk_astore, jk_kill, jk_iinc, jk_iadd, jk_isub, jk_imul, jk_dup, jk_dup2, jk_ifeq, jk_ifne, jk_iflt, jk_ifge, jk_ifgt, jk_ifle, jk_icmpeq, jk_icmpne, jk_icmplt, jk_icmpge, jk_icmpgt, jk_icmple, jk_iret, jz_0, jz_1, jk_vret, jk_aret, jk_ifnull, jk_ifnonnull, List.getElem?_cons_zero, List.getElem?_cons_succ, List.set_cons_zero, List.set_cons_succ, List.length_cons, List.length_nil, jm_wr_id, pb_none, pb_int, pg_3 hw, pl_3 hw, ps_3 hw, pg_4 hw, pl_4 hw, ps_4 hw, pg_5 hw, pl_5 hw, ps_5 hw, pg_6 hw, pl_6 hw, ps_6 hw, pg_7 hw, pl_7 hw, ps_7 hw, pg_8 hw, pl_8 hw, ps_8 hw, pg_9 hw, pl_9 hw, ps_9 hw, pg_10 hw, pl_10 hw, ps_10 hw, pg_11 hw, pl_11 hw, ps_11 hw, pg_12 hw, pl_12 hw, ps_12 hw, pg_13 hw, pl_13 hw, ps_13 hw, pg_14 hw, pl_14 hw, ps_14 hw, pg_15 hw, pl_15 hw, ps_15 hw, pg_16 hw, pl_16 hw, ps_16 hw, pg_17 hw, pl_17 hw, ps_17 hw, pg_18 hw, pl_18 hw, ps_18 hw, pg_19 hw, pl_19 hw, ps_19 hw, pg_20 hw, pl_20 hw, ps_20 hw, pg_21 hw, pl_21 hw, ps_21 hw, pg_22 hw, pl_22 hw, ps_22 hw, pg_23 hw, pl_23 hw, ps_23 hw, pg_24 hw, pl_24 hw, ps_24 hw, pg_25 hw, pl_25 hw, ps_25 hw, pg_26 hw, pl_26 hw, ps_26 hw, pg_27 hw, pl_27 hw, ps_27 hw, pg_28 hw, pl_28 hw, ps_28 hw, pg_29 hw, pl_29 hw, ps_29 hw, pg_30 hw, pl_30 hw, ps_30 hw, pg_31 hw, pl_31 hw, ps_31 hw, pg_32 hw, pl_32 hw, ps_32 hw, pg_33 hw, pm_bald hw, pm_bast hw, pg_34 hw, pl_34 hw, ps_34 hw, pg_35 hw, pl_35 hw, ps_35 hw, pg_36 hw, pl_36 hw, ps_36 hw, pg_0 hw, ps_0 hw, pg_1 hw, ps_1 hw, pg_2 hw, ps_2 hw, pg_37 hw, ps_37 hw, pg_38 hw, ps_38 hw, pc_0 hw, pc_1 hw, pc_2 hw, pc_3 hw, pc_4 hw, pc_5 hw, pu_up_ne, pu_up_at, if_true]
    | some τ1 =>
      rw [hb] at e1
      obtain ⟨σ1, e1, hR1, hI1⟩ := e1
      have hlen := b_one_len hI hd0 hd1 hb
      obtain ⟨σ2, e2, hR2, hI2⟩ := ih (fuel - 1) σ1 τ1 hR1 hI1 (by omega) (by omega)
      have eb : b_letsGo τ d (k + 1) = b_letsGo τ1 d k := by conv => lhs; unfold b_letsGo; rw [hb]
      rw [eb]
      refine ⟨σ2, ?_, hR2, hI2⟩
      rw [jk_fix_pos (by omega)]
      simp only [kX12_letsGo_b, kX12_letsGo_2, Nat.reduceEqDiff, if_false, if_true]
      simp (disch := first | omega | (simp only [List.length_cons, List.length_nil]; omega) | assumption) only [jk_none, jk_int, jk_null, jk_iload, jk_aload, jk_istore, jk_astore, jk_kill, jk_iinc, jk_iadd, jk_isub, jk_imul, jk_dup, jk_dup2, jk_ifeq, jk_ifne, jk_iflt, jk_ifge, jk_ifgt, jk_ifle, jk_icmpeq, jk_icmpne, jk_icmplt, jk_icmpge, jk_icmpgt, jk_icmple, jk_iret, jz_0, jz_1, jk_vret, jk_aret, jk_ifnull, jk_ifnonnull, List.getElem?_cons_zero, List.getElem?_cons_succ, List.set_cons_zero, List.set_cons_succ, List.length_cons, List.length_nil, jm_wr_id, pb_none, pb_int, pg_3 hw, pl_3 hw, ps_3 hw, pg_4 hw, pl_4 hw, ps_4 hw, pg_5 hw, pl_5 hw, ps_5 hw, pg_6 hw, pl_6 hw, ps_6 hw, pg_7 hw, pl_7 hw, ps_7 hw, pg_8 hw, pl_8 hw, ps_8 hw, pg_9 hw, pl_9 hw, ps_9 hw, pg_10 hw, pl_10 hw, ps_10 hw, pg_11 hw, pl_11 hw, ps_11 hw, pg_12 hw, pl_12 hw, ps_12 hw, pg_13 hw, pl_13 hw, ps_13 hw, pg_14 hw, pl_14 hw, ps_14 hw, pg_15 hw, pl_15 hw, ps_15 hw, pg_16 hw, pl_16 hw, ps_16 hw, pg_17 hw, pl_17 hw, ps_17 hw, pg_18 hw, pl_18 hw, ps_18 hw, pg_19 hw, pl_19 hw, ps_19 hw, pg_20 hw, pl_20 hw, ps_20 hw, pg_21 hw, pl_21 hw, ps_21 hw, pg_22 hw, pl_22 hw, ps_22 hw, pg_23 hw, pl_23 hw, ps_23 hw, pg_24 hw, pl_24 hw, ps_24 hw, pg_25 hw, pl_25 hw, ps_25 hw, pg_26 hw, pl_26 hw, ps_26 hw, pg_27 hw, pl_27 hw, ps_27 hw, pg_28 hw, pl_28 hw, ps_28 hw, pg_29 hw, pl_29 hw, ps_29 hw, pg_30 hw, pl_30 hw, ps_30 hw, pg_31 hw, pl_31 hw, ps_31 hw, pg_32 hw, pl_32 hw, ps_32 hw, pg_33 hw, pm_bald hw, pm_bast hw, pg_34 hw, pl_34 hw, ps_34 hw, pg_35 hw, pl_35 hw, ps_35 hw, pg_36 hw, pl_36 hw, ps_36 hw, pg_0 hw, ps_0 hw, pg_1 hw, ps_1 hw, pg_2 hw, ps_2 hw, pg_37 hw, ps_37 hw, pg_38 hw, ps_38 hw, pc_0 hw, pc_1 hw, pc_2 hw, pc_3 hw, pc_4 hw, pc_5 hw, pu_up_ne, pu_up_at, z1, if_false, e1, e2]
set_option maxHeartbeats 4000000 in
theorem R_letsGo {y : jLay} {κ σ : aS} {g : jH} {n : Nat} {τ : bS} (hw : pm_WF y) (hn : 1000 ≤ n) (hR : RO σ τ) (hI : WI τ) {d : Int} (hd0 : 0 ≤ d) (hd1 : d < 12) : ∃ σ', fX12_letsGo n [.inr (some (y.2 13 0)), .inl d] (pu_H y κ σ g) = some (none, pu_H y κ σ' g) ∧ RO σ' (b_letsGo τ d 17) ∧ WI (b_letsGo τ d 17) := by
  obtain ⟨σ1, e1, hR1, hI1⟩ := R_letsGo_2 (κ := κ) (g := g) (n := n) hw hn hd0 hd1 17 (n - 1) σ τ hR hI (by have := hI.len d hd0 hd1; omega) (by omega)
  refine ⟨σ1, ?_, hR1, hI1⟩
  simp only [fX12_letsGo, jm_run, List.length_cons, List.length_nil, Nat.reduceAdd, if_true, jm_init, List.map_cons, List.map_nil, Nat.reduceSub, List.replicate, List.cons_append, List.nil_append, kX12_letsGo]
  rw [jk_fix_pos (by omega)]
  simp only [kX12_letsGo_b, kX12_letsGo_0, Nat.reduceEqDiff, if_false, if_true]
  simp (disch := first | omega | (simp only [List.length_cons, List.length_nil]; omega) | assumption) only [jk_none, jk_int, jk_null, jk_iload, jk_aload, jk_istore, jk_astore, jk_kill, jk_iinc, jk_iadd, jk_isub, jk_imul, jk_dup, jk_dup2, jk_ifeq, jk_ifne, jk_iflt, jk_ifge, jk_ifgt, jk_ifle, jk_icmpeq, jk_icmpne, jk_icmplt, jk_icmpge, jk_icmpgt, jk_icmple, jk_iret, jz_0, jz_1, jk_vret, jk_aret, jk_ifnull, jk_ifnonnull, List.getElem?_cons_zero, List.getElem?_cons_succ, List.set_cons_zero, List.set_cons_succ, List.length_cons, List.length_nil, jm_wr_id, pb_none, pb_int, pg_3 hw, pl_3 hw, ps_3 hw, pg_4 hw, pl_4 hw, ps_4 hw, pg_5 hw, pl_5 hw, ps_5 hw, pg_6 hw, pl_6 hw, ps_6 hw, pg_7 hw, pl_7 hw, ps_7 hw, pg_8 hw, pl_8 hw, ps_8 hw, pg_9 hw, pl_9 hw, ps_9 hw, pg_10 hw, pl_10 hw, ps_10 hw, pg_11 hw, pl_11 hw, ps_11 hw, pg_12 hw, pl_12 hw, ps_12 hw, pg_13 hw, pl_13 hw, ps_13 hw, pg_14 hw, pl_14 hw, ps_14 hw, pg_15 hw, pl_15 hw, ps_15 hw, pg_16 hw, pl_16 hw, ps_16 hw, pg_17 hw, pl_17 hw, ps_17 hw, pg_18 hw, pl_18 hw, ps_18 hw, pg_19 hw, pl_19 hw, ps_19 hw, pg_20 hw, pl_20 hw, ps_20 hw, pg_21 hw, pl_21 hw, ps_21 hw, pg_22 hw, pl_22 hw, ps_22 hw, pg_23 hw, pl_23 hw, ps_23 hw, pg_24 hw, pl_24 hw, ps_24 hw, pg_25 hw, pl_25 hw, ps_25 hw, pg_26 hw, pl_26 hw, ps_26 hw, pg_27 hw, pl_27 hw, ps_27 hw, pg_28 hw, pl_28 hw, ps_28 hw, pg_29 hw, pl_29 hw, ps_29 hw, pg_30 hw, pl_30 hw, ps_30 hw, pg_31 hw, pl_31 hw, ps_31 hw, pg_32 hw, pl_32 hw, ps_32 hw, pg_33 hw, pm_bald hw, pm_bast hw, pg_34 hw, pl_34 hw, ps_34 hw, pg_35 hw, pl_35 hw, ps_35 hw, pg_36 hw, pl_36 hw, ps_36 hw, pg_0 hw, ps_0 hw, pg_1 hw, ps_1 hw, pg_2 hw, ps_2 hw, pg_37 hw, ps_37 hw, pg_38 hw, ps_38 hw, pc_0 hw, pc_1 hw, pc_2 hw, pc_3 hw, pc_4 hw, pc_5 hw, pu_up_ne, pu_up_at, e1]
def b_gives (τ : bS) (t o : Int) : bS := b_letsGo (if τ.1 18 (τ.1 5 t) = 3 then b_allEnd (b_up (b_ends (b_leaves τ t) t o 0) 25 (τ.1 5 t) 1) (τ.1 5 t) 5 else b_ends (b_leaves τ t) t o 0) (τ.1 5 t) 17
set_option maxHeartbeats 4000000 in
theorem R_gives {y : jLay} {κ σ : aS} {g : jH} {n : Nat} {τ : bS} (hw : pm_WF y) (hn : 1000 ≤ n) (hR : RO σ τ) (hI : WI τ) {t : Int} (ht0 : 0 ≤ t) (ht1 : t < 16) (o : Int) (hl0 : LV τ t) : ∃ σ', fX12_gives n [.inr (some (y.2 13 0)), .inl t, .inl o] (pu_H y κ σ g) = some (none, pu_H y κ σ' g) ∧ RO σ' (b_gives τ t o) ∧ WI (b_gives τ t o) := by
  have b2 := (hI.lv hl0).2.2.1
  have hd := hl0.1
  have b1 := hl0.2.1
  obtain ⟨d, hdd⟩ : ∃ d, d = τ.1 5 t := ⟨_, rfl⟩
  have v5 : σ 5 t = d := by rw [hR.1 5 t (by decide) (by decide), hdd]
  obtain ⟨σ1, e1, hR1⟩ := R_leaves (κ := κ) (g := g) (n := n) hw (by omega) hR hI ht0 ht1 hl0
  have hI1 := hI.leaves hl0
  obtain ⟨σ2, e2, hR2⟩ := R_ends (κ := κ) (g := g) (n := n) hw hn hR1 hI1 ht0 ht1 o 0 (by rw [b_leaves_c _ _ _ _ (by decide)]; exact b2)
  have hI2 := hI1.ends t o 0
  have v18 : σ2 18 d = τ.1 18 d := by rw [hR2.1 18 _ (by decide) (by decide), b_ends_c _ _ _ _ _ _ (by decide), b_leaves_c _ _ _ _ (by decide)]
  rw [← hdd] at hd b1
  unfold b_gives
  rw [← hdd]
  by_cases c1 : τ.1 18 d = 3
  · rw [if_pos c1]
    have w18 : σ2 18 d = 3 := by rw [v18, c1]
    have hRb := hR2.up (c := 25) d 1 (by decide) (by decide)
    have hIb := hI2.upd (c := 25) d 1 (by decide)
    obtain ⟨σ3, e3, hR3, hI3⟩ := R_allEnd (κ := κ) (g := g) (n := n) hw hn hRb hIb hd b1 5
    obtain ⟨σ4, e4, hR4, hI4⟩ := R_letsGo (κ := κ) (g := g) (n := n) hw hn hR3 hI3 hd b1
    refine ⟨σ4, ?_, hR4, hI4⟩
    simp only [fX12_gives, jm_run, List.length_cons, List.length_nil, Nat.reduceAdd, if_true, jm_init, List.map_cons, List.map_nil, Nat.reduceSub, List.replicate, List.cons_append, List.nil_append, kX12_gives]
    simp (disch := first | omega | (simp only [List.length_cons, List.length_nil]; omega) | assumption) only [jk_none, jk_int, jk_null, jk_iload, jk_aload, jk_istore, jk_astore, jk_kill, jk_iinc, jk_iadd, jk_isub, jk_imul, jk_dup, jk_dup2, jk_ifeq, jk_ifne, jk_iflt, jk_ifge, jk_ifgt, jk_ifle, jk_icmpeq, jk_icmpne, jk_icmplt, jk_icmpge, jk_icmpgt, jk_icmple, jk_iret, jz_0, jz_1, jk_vret, jk_aret, jk_ifnull, jk_ifnonnull, List.getElem?_cons_zero, List.getElem?_cons_succ, List.set_cons_zero, List.set_cons_succ, List.length_cons, List.length_nil, jm_wr_id, pb_none, pb_int, pg_3 hw, pl_3 hw, ps_3 hw, pg_4 hw, pl_4 hw, ps_4 hw, pg_5 hw, pl_5 hw, ps_5 hw, pg_6 hw, pl_6 hw, ps_6 hw, pg_7 hw, pl_7 hw, ps_7 hw, pg_8 hw, pl_8 hw, ps_8 hw, pg_9 hw, pl_9 hw, ps_9 hw, pg_10 hw, pl_10 hw, ps_10 hw, pg_11 hw, pl_11 hw, ps_11 hw, pg_12 hw, pl_12 hw, ps_12 hw, pg_13 hw, pl_13 hw, ps_13 hw, pg_14 hw, pl_14 hw, ps_14 hw, pg_15 hw, pl_15 hw, ps_15 hw, pg_16 hw, pl_16 hw, ps_16 hw, pg_17 hw, pl_17 hw, ps_17 hw, pg_18 hw, pl_18 hw, ps_18 hw, pg_19 hw, pl_19 hw, ps_19 hw, pg_20 hw, pl_20 hw, ps_20 hw, pg_21 hw, pl_21 hw, ps_21 hw, pg_22 hw, pl_22 hw, ps_22 hw, pg_23 hw, pl_23 hw, ps_23 hw, pg_24 hw, pl_24 hw, ps_24 hw, pg_25 hw, pl_25 hw, ps_25 hw, pg_26 hw, pl_26 hw, ps_26 hw, pg_27 hw, pl_27 hw, ps_27 hw, pg_28 hw, pl_28 hw, ps_28 hw, pg_29 hw, pl_29 hw, ps_29 hw, pg_30 hw, pl_30 hw, ps_30 hw, pg_31 hw, pl_31 hw, ps_31 hw, pg_32 hw, pl_32 hw, ps_32 hw, pg_33 hw, pm_bald hw, pm_bast hw, pg_34 hw, pl_34 hw, ps_34 hw, pg_35 hw, pl_35 hw, ps_35 hw, pg_36 hw, pl_36 hw, ps_36 hw, pg_0 hw, ps_0 hw, pg_1 hw, ps_1 hw, pg_2 hw, ps_2 hw, pg_37 hw, ps_37 hw, pg_38 hw, ps_38 hw, pc_0 hw, pc_1 hw, pc_2 hw, pc_3 hw, pc_4 hw, pc_5 hw, pu_up_ne, pu_up_at, v5, e1, e2, e3, e4, w18, if_true, jk_fix_pos, kX12_gives_b, kX12_gives_0, kX12_gives_42, Nat.reduceEqDiff, if_false, reduceIte]
  · rw [if_neg c1]
    have w18 : ¬ σ2 18 d = 3 := by rw [v18]; exact c1
    obtain ⟨σ4, e4, hR4, hI4⟩ := R_letsGo (κ := κ) (g := g) (n := n) hw hn hR2 hI2 hd b1
    refine ⟨σ4, ?_, hR4, hI4⟩
    simp only [fX12_gives, jm_run, List.length_cons, List.length_nil, Nat.reduceAdd, if_true, jm_init, List.map_cons, List.map_nil, Nat.reduceSub, List.replicate, List.cons_append, List.nil_append, kX12_gives]
    simp (disch := first | omega | (simp only [List.length_cons, List.length_nil]; omega) | assumption) only [jk_none, jk_int, jk_null, jk_iload, jk_aload, jk_istore, jk_astore, jk_kill, jk_iinc, jk_iadd, jk_isub, jk_imul, jk_dup, jk_dup2, jk_ifeq, jk_ifne, jk_iflt, jk_ifge, jk_ifgt, jk_ifle, jk_icmpeq, jk_icmpne, jk_icmplt, jk_icmpge, jk_icmpgt, jk_icmple, jk_iret, jz_0, jz_1, jk_vret, jk_aret, jk_ifnull, jk_ifnonnull, List.getElem?_cons_zero, List.getElem?_cons_succ, List.set_cons_zero, List.set_cons_succ, List.length_cons, List.length_nil, jm_wr_id, pb_none, pb_int, pg_3 hw, pl_3 hw, ps_3 hw, pg_4 hw, pl_4 hw, ps_4 hw, pg_5 hw, pl_5 hw, ps_5 hw, pg_6 hw, pl_6 hw, ps_6 hw, pg_7 hw, pl_7 hw, ps_7 hw, pg_8 hw, pl_8 hw, ps_8 hw, pg_9 hw, pl_9 hw, ps_9 hw, pg_10 hw, pl_10 hw, ps_10 hw, pg_11 hw, pl_11 hw, ps_11 hw, pg_12 hw, pl_12 hw, ps_12 hw, pg_13 hw, pl_13 hw, ps_13 hw, pg_14 hw, pl_14 hw, ps_14 hw, pg_15 hw, pl_15 hw, ps_15 hw, pg_16 hw, pl_16 hw, ps_16 hw, pg_17 hw, pl_17 hw, ps_17 hw, pg_18 hw, pl_18 hw, ps_18 hw, pg_19 hw, pl_19 hw, ps_19 hw, pg_20 hw, pl_20 hw, ps_20 hw, pg_21 hw, pl_21 hw, ps_21 hw, pg_22 hw, pl_22 hw, ps_22 hw, pg_23 hw, pl_23 hw, ps_23 hw, pg_24 hw, pl_24 hw, ps_24 hw, pg_25 hw, pl_25 hw, ps_25 hw, pg_26 hw, pl_26 hw, ps_26 hw, pg_27 hw, pl_27 hw, ps_27 hw, pg_28 hw, pl_28 hw, ps_28 hw, pg_29 hw, pl_29 hw, ps_29 hw, pg_30 hw, pl_30 hw, ps_30 hw, pg_31 hw, pl_31 hw, ps_31 hw, pg_32 hw, pl_32 hw, ps_32 hw, pg_33 hw, pm_bald hw, pm_bast hw, pg_34 hw, pl_34 hw, ps_34 hw, pg_35 hw, pl_35 hw, ps_35 hw, pg_36 hw, pl_36 hw, ps_36 hw, pg_0 hw, ps_0 hw, pg_1 hw, ps_1 hw, pg_2 hw, ps_2 hw, pg_37 hw, ps_37 hw, pg_38 hw, ps_38 hw, pc_0 hw, pc_1 hw, pc_2 hw, pc_3 hw, pc_4 hw, pc_5 hw, pu_up_ne, pu_up_at, v5, e1, e2, e4, w18, if_false, jk_fix_pos, kX12_gives_b, kX12_gives_0, kX12_gives_42, Nat.reduceEqDiff, if_false, reduceIte]
