set_option maxHeartbeats 4000000 in
theorem R_stepOf {y : jLay} {κ σ : aS} {g : jH} {n : Nat} {τ : bS} (hw : pm_WF y) (hn : 1000 ≤ n) (hR : RO σ τ) (hI : WI τ) {t : Int} (ht0 : 0 ≤ t) (ht1 : t < 16) : fX12_stepOf n [.inr (some (y.2 13 0)), .inl t] (pu_H y κ σ g) = some (some (.inl (20 * t + τ.1 4 t - 1)), pu_H y κ σ g) := by
  have e4 := hR.1 4 t (by decide) (by decide)
  rw [← e4]
  have := hI.1 t ht0 ht1
  exact r_stepOf hw ht0 ht1 (by omega) (by omega)
set_option maxHeartbeats 4000000 in
theorem R_actOf {y : jLay} {κ σ : aS} {g : jH} {n : Nat} {τ : bS} (hw : pm_WF y) (hn : 1000 ≤ n) (hR : RO σ τ) (hI : WI τ) {t : Int} (ht0 : 0 ≤ t) (ht1 : t < 16) (hb : 1 ≤ τ.1 4 t) : fX12_actOf n [.inr (some (y.2 13 0)), .inl t] (pu_H y κ σ g) = some (some (.inl (τ.1 11 (20 * t + τ.1 4 t - 1))), pu_H y κ σ g) := by
  have e4 := hR.1 4 t (by decide) (by decide)
  rw [← hR.1 11 _ (by decide) (by decide), ← e4]
  have := hI.1 t ht0 ht1
  exact r_actOf hw ht0 ht1 (by omega) (by omega)
set_option maxHeartbeats 4000000 in
theorem R_numberOf {y : jLay} {κ σ : aS} {g : jH} {n : Nat} {τ : bS} (hw : pm_WF y) (hn : 1000 ≤ n) (hR : RO σ τ) (hI : WI τ) {t : Int} (ht0 : 0 ≤ t) (ht1 : t < 16) (hb : 1 ≤ τ.1 4 t) : fX12_numberOf n [.inr (some (y.2 13 0)), .inl t] (pu_H y κ σ g) = some (some (.inl (τ.1 12 (20 * t + τ.1 4 t - 1))), pu_H y κ σ g) := by
  have e4 := hR.1 4 t (by decide) (by decide)
  rw [← hR.1 12 _ (by decide) (by decide), ← e4]
  have := hI.1 t ht0 ht1
  exact r_numberOf hw ht0 ht1 (by omega) (by omega)
set_option maxHeartbeats 4000000 in
theorem R_ends {y : jLay} {κ σ : aS} {g : jH} {n : Nat} {τ : bS} (hw : pm_WF y) (hn : 1000 ≤ n) (hR : RO σ τ) (hI : WI τ) {t : Int} (ht0 : 0 ≤ t) (ht1 : t < 16) (o v : Int) (hb : 1 ≤ τ.1 4 t) : ∃ σ', fX12_ends n [.inr (some (y.2 13 0)), .inl t, .inl o, .inl v] (pu_H y κ σ g) = some (none, pu_H y κ σ' g) ∧ RO σ' (b_ends τ t o v) := by
  have e4 := hR.1 4 t (by decide) (by decide)
  have := hI.1 t ht0 ht1
  exact ⟨_, r_ends hw ht0 ht1 (by omega) (by omega), hR.ends t o v⟩
set_option maxHeartbeats 4000000 in
theorem R_passes {y : jLay} {κ σ : aS} {g : jH} {n : Nat} {τ : bS} (hw : pm_WF y) (hn : 1000 ≤ n) (hR : RO σ τ) (hI : WI τ) {t : Int} (ht0 : 0 ≤ t) (ht1 : t < 16) (v : Int) (hb : 1 ≤ τ.1 4 t) : ∃ σ', fX12_passes n [.inr (some (y.2 13 0)), .inl t, .inl v] (pu_H y κ σ g) = some (none, pu_H y κ σ' g) ∧ RO σ' (b_passes τ t v) := by
  have e4 := hR.1 4 t (by decide) (by decide)
  have h4 := hI.1 t ht0 ht1
  have h10 := hI.2.2.2.2.1 (20 * t + τ.1 4 t - 1) (by omega) (by omega)
  have h34 := hI.2.2.2.1 _ h10.1 h10.2
  refine ⟨_, r_passes hw ht0 ht1 (by omega) (by omega) (by omega) ?_ ?_ ?_ ?_, hR.passes t v⟩
  · rw [e4, hR.1 10 _ (by decide) (by decide)]; exact h10.1
  · rw [e4, hR.1 10 _ (by decide) (by decide)]; exact h10.2
  · rw [e4, hR.1 10 _ (by decide) (by decide), hR.1 34 _ (by decide) (by decide)]; exact h34.1
  · rw [e4, hR.1 10 _ (by decide) (by decide), hR.1 34 _ (by decide) (by decide)]; exact h34.2.1
set_option maxHeartbeats 4000000 in
theorem R_inLine {y : jLay} {κ σ : aS} {g : jH} {n : Nat} {τ : bS} (hw : pm_WF y) (hn : 1000 ≤ n) (hR : RO σ τ) (hI : WI τ) {d : Int} (hd0 : 0 ≤ d) (hd1 : d < 12) {j : Nat} {x : Int} (hx : (τ.2 d)[j]? = some x) : fX12_inLine n [.inr (some (y.2 13 0)), .inl d, .inl (j : Int)] (pu_H y κ σ g) = some (some (.inl x), pu_H y κ σ g) := by
  have hl := hI.len d hd0 hd1
  have hj := (List.getElem?_eq_some_iff.mp hx).1
  rw [r_inLine hw (by omega) (by omega) hd0 hd1, (hR.2 d hd0 hd1).2 j x hx]
theorem WI.goes {τ : bS} (h : WI τ) {t : Int} (v : Int) (ht0 : 0 ≤ t) (ht1 : t < 16) (hd : LV τ t) : WI (b_goes τ t v) := (h.leaves hd).passes t v
set_option maxHeartbeats 4000000 in
theorem R_goes {y : jLay} {κ σ : aS} {g : jH} {n : Nat} {τ : bS} (hw : pm_WF y) (hn : 1000 ≤ n) (hR : RO σ τ) (hI : WI τ) {t : Int} (ht0 : 0 ≤ t) (ht1 : t < 16) (v : Int) (hd : LV τ t) : ∃ σ', fX12_goes n [.inr (some (y.2 13 0)), .inl t, .inl v] (pu_H y κ σ g) = some (none, pu_H y κ σ' g) ∧ RO σ' (b_goes τ t v) := by
  have b2 := (hI.lv hd).2.2.1
  obtain ⟨σ1, e1, hR1⟩ := R_leaves (κ := κ) (g := g) (n := n) hw (by omega) hR hI ht0 ht1 hd
  have hI1 := hI.leaves hd
  obtain ⟨σ2, e2, hR2⟩ := R_passes (κ := κ) (g := g) (n := n) hw hn hR1 hI1 ht0 ht1 v (by rw [b_leaves_c _ _ _ _ (by decide)]; exact b2)
  refine ⟨σ2, ?_, hR2⟩
  simp only [fX12_goes, jm_run, List.length_cons, List.length_nil, Nat.reduceAdd, if_true, jm_init, List.map_cons, List.map_nil, Nat.reduceSub, List.replicate, List.cons_append, List.nil_append, kX12_goes]
  simp (disch := first | omega | (simp only [List.length_cons, List.length_nil]; omega) | assumption) only [jk_none, jk_int, jk_null, jk_iload, jk_aload, jk_istore, jk_astore, jk_kill, jk_iinc, jk_iadd, jk_isub, jk_imul, jk_dup, jk_dup2, jk_ifeq, jk_ifne, jk_iflt, jk_ifge, jk_ifgt, jk_ifle, jk_icmpeq, jk_icmpne, jk_icmplt, jk_icmpge, jk_icmpgt, jk_icmple, jk_iret, jz_0, jz_1, jk_vret, jk_aret, jk_ifnull, jk_ifnonnull, List.getElem?_cons_zero, List.getElem?_cons_succ, List.set_cons_zero, List.set_cons_succ, List.length_cons, List.length_nil, jm_wr_id, pb_none, pb_int, pg_3 hw, pl_3 hw, ps_3 hw, pg_4 hw, pl_4 hw, ps_4 hw, pg_5 hw, pl_5 hw, ps_5 hw, pg_6 hw, pl_6 hw, ps_6 hw, pg_7 hw, pl_7 hw, ps_7 hw, pg_8 hw, pl_8 hw, ps_8 hw, pg_9 hw, pl_9 hw, ps_9 hw, pg_10 hw, pl_10 hw, ps_10 hw, pg_11 hw, pl_11 hw, ps_11 hw, pg_12 hw, pl_12 hw, ps_12 hw, pg_13 hw, pl_13 hw, ps_13 hw, pg_14 hw, pl_14 hw, ps_14 hw, pg_15 hw, pl_15 hw, ps_15 hw, pg_16 hw, pl_16 hw, ps_16 hw, pg_17 hw, pl_17 hw, ps_17 hw, pg_18 hw, pl_18 hw, ps_18 hw, pg_19 hw, pl_19 hw, ps_19 hw, pg_20 hw, pl_20 hw, ps_20 hw, pg_21 hw, pl_21 hw, ps_21 hw, pg_22 hw, pl_22 hw, ps_22 hw, pg_23 hw, pl_23 hw, ps_23 hw, pg_24 hw, pl_24 hw, ps_24 hw, pg_25 hw, pl_25 hw, ps_25 hw, pg_26 hw, pl_26 hw, ps_26 hw, pg_27 hw, pl_27 hw, ps_27 hw, pg_28 hw, pl_28 hw, ps_28 hw, pg_29 hw, pl_29 hw, ps_29 hw, pg_30 hw, pl_30 hw, ps_30 hw, pg_31 hw, pl_31 hw, ps_31 hw, pg_32 hw, pl_32 hw, ps_32 hw, pg_33 hw, pm_bald hw, pm_bast hw, pg_34 hw, pl_34 hw, ps_34 hw, pg_35 hw, pl_35 hw, ps_35 hw, pg_36 hw, pl_36 hw, ps_36 hw, pg_0 hw, ps_0 hw, pg_1 hw, ps_1 hw, pg_2 hw, ps_2 hw, pg_37 hw, ps_37 hw, pg_38 hw, ps_38 hw, pc_0 hw, pc_1 hw, pc_2 hw, pc_3 hw, pc_4 hw, pc_5 hw, pu_up_ne, pu_up_at, e1, e2]
def b_allEnd (τ : bS) (d o : Int) : bS := (τ.2 d).foldl (fun τ t => b_ends (b_leaves τ t) t o 0) τ
theorem b_leaves_l {τ : bS} {t d : Int} {l : List Int} (h5 : τ.1 5 t = d) (hl : τ.2 d = t :: l) : (b_leaves τ t).2 d = l := by
  show (if d = τ.1 5 t then (τ.2 d).erase t else τ.2 d) = l
  rw [if_pos h5.symm, hl, List.erase_cons_head]
set_option maxHeartbeats 4000000 in
theorem R_allEnd_0 {y : jLay} {κ : aS} {g : jH} {n : Nat} (hw : pm_WF y) (hn : 1000 ≤ n) {d : Int} (hd0 : 0 ≤ d) (hd1 : d < 12) (o : Int) : ∀ (k fuel : Nat) (σ : aS) (τ : bS) (x : Option jV), RO σ τ → WI τ → (τ.2 d).length = k → k + 5 ≤ fuel → ∃ σ', jk_fix (kX12_allEnd_b n) fuel 0 [some (.inr (some (y.2 13 0))), some (.inl d), some (.inl o), x] [] (pu_H y κ σ g) = some (none, pu_H y κ σ' g) ∧ RO σ' (b_allEnd τ d o) ∧ WI (b_allEnd τ d o) := by
  intro k
  induction k with
  | zero =>
    intro fuel σ τ x hR hI hk hf
    have hl : τ.2 d = [] := List.eq_nil_of_length_eq_zero hk
    have e23 := (hR.2 d hd0 hd1).1
    rw [hl] at e23
    have e23 : σ 23 d = 0 := e23
    refine ⟨σ, ?_, ?_, ?_⟩
    · rw [jk_fix_pos (by omega)]
      simp only [kX12_allEnd_b, kX12_allEnd_0, Nat.reduceEqDiff, if_false, if_true]
      simp (disch := first | omega | (simp only [List.length_cons, List.length_nil]; omega) | assumption) only [jk_none, jk_int, jk_null, jk_iload, jk_aload, jk_istore, jk_astore, jk_kill, jk_iinc, jk_iadd, jk_isub, jk_imul, jk_dup, jk_dup2, jk_ifeq, jk_ifne, jk_iflt, jk_ifge, jk_ifgt, jk_ifle, jk_icmpeq, jk_icmpne, jk_icmplt, jk_icmpge, jk_icmpgt, jk_icmple, jk_iret, jz_0, jz_1, jk_vret, jk_aret, jk_ifnull, jk_ifnonnull, List.getElem?_cons_zero, List.getElem?_cons_succ, List.set_cons_zero, List.set_cons_succ, List.length_cons, List.length_nil, jm_wr_id, pb_none, pb_int, pg_3 hw, pl_3 hw, ps_3 hw, pg_4 hw, pl_4 hw, ps_4 hw, pg_5 hw, pl_5 hw, ps_5 hw, pg_6 hw, pl_6 hw, ps_6 hw, pg_7 hw, pl_7 hw, ps_7 hw, pg_8 hw, pl_8 hw, ps_8 hw, pg_9 hw, pl_9 hw, ps_9 hw, pg_10 hw, pl_10 hw, ps_10 hw, pg_11 hw, pl_11 hw, ps_11 hw, pg_12 hw, pl_12 hw, ps_12 hw, pg_13 hw, pl_13 hw, ps_13 hw, pg_14 hw, pl_14 hw, ps_14 hw, pg_15 hw, pl_15 hw, ps_15 hw, pg_16 hw, pl_16 hw, ps_16 hw, pg_17 hw, pl_17 hw, ps_17 hw, pg_18 hw, pl_18 hw, ps_18 hw, pg_19 hw, pl_19 hw, ps_19 hw, pg_20 hw, pl_20 hw, ps_20 hw, pg_21 hw, pl_21 hw, ps_21 hw, pg_22 hw, pl_22 hw, ps_22 hw, pg_23 hw, pl_23 hw, ps_23 hw, pg_24 hw, pl_24 hw, ps_24 hw, pg_25 hw, pl_25 hw, ps_25 hw, pg_26 hw, pl_26 hw, ps_26 hw, pg_27 hw, pl_27 hw, ps_27 hw, pg_28 hw, pl_28 hw, ps_28 hw, pg_29 hw, pl_29 hw, ps_29 hw, pg_30 hw, pl_30 hw, ps_30 hw, pg_31 hw, pl_31 hw, ps_31 hw, pg_32 hw, pl_32 hw, ps_32 hw, pg_33 hw, pm_bald hw, pm_bast hw, pg_34 hw, pl_34 hw, ps_34 hw, pg_35 hw, pl_35 hw, ps_35 hw, pg_36 hw, pl_36 hw, ps_36 hw, pg_0 hw, ps_0 hw, pg_1 hw, ps_1 hw, pg_2 hw, ps_2 hw, pg_37 hw, ps_37 hw, pg_38 hw, ps_38 hw, pc_0 hw, pc_1 hw, pc_2 hw, pc_3 hw, pc_4 hw, pc_5 hw, pu_up_ne, pu_up_at, e23, Int.lt_irrefl, if_false]
    · unfold b_allEnd; rw [hl]; exact hR
    · unfold b_allEnd; rw [hl]; exact hI
  | succ k ih =>
    intro fuel σ τ x hR hI hk hf
    obtain ⟨t, l, hl⟩ := List.exists_cons_of_length_eq_add_one hk
    have e23 := (hR.2 d hd0 hd1).1
    have h23 : 0 < σ 23 d := by rw [e23, hk]; omega
    have hm := (hI.2.2.1 d hd0 hd1).2 t (by rw [hl]; exact List.mem_cons_self)
    obtain ⟨ht0, ht1, h5, b2, _⟩ := hm
    have hp : LV τ t := LV.of hd0 hd1 h5 (by rw [hl]; exact List.mem_cons_self)
    have e1 := R_inLine (κ := κ) (g := g) (n := n) (j := 0) (x := t) hw hn hR hI hd0 hd1 (by rw [hl]; rfl)
    have e1 : fX12_inLine n [.inr (some (y.2 13 0)), .inl d, .inl 0] (pu_H y κ σ g) = some (some (.inl t), pu_H y κ σ g) := e1
    obtain ⟨σ1, e2, hR1⟩ := R_leaves (κ := κ) (g := g) (n := n) hw (by omega) hR hI ht0 ht1 hp
    have hI1 := hI.leaves hp
    obtain ⟨σ2, e3, hR2⟩ := R_ends (κ := κ) (g := g) (n := n) hw hn hR1 hI1 ht0 ht1 o 0 (by rw [b_leaves_c _ _ _ _ (by decide)]; exact b2)
    have hl2 : (b_ends (b_leaves τ t) t o 0).2 d = l := b_leaves_l h5 hl
    obtain ⟨σ3, e4, hR3, hI3⟩ := ih (fuel - 1) σ2 (b_ends (b_leaves τ t) t o 0) (some (.inl t)) hR2 (hI1.ends t o 0) (by rw [hl2]; rw [hl] at hk; simpa using hk) (by omega)
    have eq : b_allEnd τ d o = b_allEnd (b_ends (b_leaves τ t) t o 0) d o := by unfold b_allEnd; rw [hl2, hl]; rfl
    rw [eq]
    refine ⟨σ3, ?_, hR3, hI3⟩
    rw [jk_fix_pos (by omega)]
    simp only [kX12_allEnd_b, kX12_allEnd_0, Nat.reduceEqDiff, if_false, if_true]
    simp (disch := first | omega | (simp only [List.length_cons, List.length_nil]; omega) | assumption) only [jk_none, jk_int, jk_null, jk_iload, jk_aload, jk_istore, jk_astore, jk_kill, jk_iinc, jk_iadd, jk_isub, jk_imul, jk_dup, jk_dup2, jk_ifeq, jk_ifne, jk_iflt, jk_ifge, jk_ifgt, jk_ifle, jk_icmpeq, jk_icmpne, jk_icmplt, jk_icmpge, jk_icmpgt, jk_icmple, jk_iret, jz_0, jz_1, jk_vret, jk_aret, jk_ifnull, jk_ifnonnull, List.getElem?_cons_zero, List.getElem?_cons_succ, List.set_cons_zero, List.set_cons_succ, List.length_cons, List.length_nil, jm_wr_id, pb_none, pb_int, pg_3 hw, pl_3 hw, ps_3 hw, pg_4 hw, pl_4 hw, ps_4 hw, pg_5 hw, pl_5 hw, ps_5 hw, pg_6 hw, pl_6 hw, ps_6 hw, pg_7 hw, pl_7 hw, ps_7 hw, pg_8 hw, pl_8 hw, ps_8 hw, pg_9 hw, pl_9 hw, ps_9 hw, pg_10 hw, pl_10 hw, ps_10 hw, pg_11 hw, pl_11 hw, ps_11 hw, pg_12 hw, pl_12 hw, ps_12 hw, pg_13 hw, pl_13 hw, ps_13 hw, pg_14 hw, pl_14 hw, ps_14 hw, pg_15 hw, pl_15 hw, ps_15 hw, pg_16 hw, pl_16 hw, ps_16 hw, pg_17 hw, pl_17 hw, ps_17 hw, pg_18 hw, pl_18 hw, ps_18 hw, pg_19 hw, pl_19 hw, ps_19 hw, pg_20 hw, pl_20 hw, ps_20 hw, pg_21 hw, pl_21 hw, ps_21 hw, pg_22 hw, pl_22 hw, ps_22 hw, pg_23 hw, pl_23 hw, ps_23 hw, pg_24 hw, pl_24 hw, ps_24 hw, pg_25 hw, pl_25 hw, ps_25 hw, pg_26 hw, pl_26 hw, ps_26 hw, pg_27 hw, pl_27 hw, ps_27 hw, pg_28 hw, pl_28 hw, ps_28 hw, pg_29 hw, pl_29 hw, ps_29 hw, pg_30 hw, pl_30 hw, ps_30 hw, pg_31 hw, pl_31 hw, ps_31 hw, pg_32 hw, pl_32 hw, ps_32 hw, pg_33 hw, pm_bald hw, pm_bast hw, pg_34 hw, pl_34 hw, ps_34 hw, pg_35 hw, pl_35 hw, ps_35 hw, pg_36 hw, pl_36 hw, ps_36 hw, pg_0 hw, ps_0 hw, pg_1 hw, ps_1 hw, pg_2 hw, ps_2 hw, pg_37 hw, ps_37 hw, pg_38 hw, ps_38 hw, pc_0 hw, pc_1 hw, pc_2 hw, pc_3 hw, pc_4 hw, pc_5 hw, pu_up_ne, pu_up_at, h23, if_true, e1, e2, e3, e4]
set_option maxHeartbeats 4000000 in
theorem R_allEnd {y : jLay} {κ σ : aS} {g : jH} {n : Nat} {τ : bS} (hw : pm_WF y) (hn : 1000 ≤ n) (hR : RO σ τ) (hI : WI τ) {d : Int} (hd0 : 0 ≤ d) (hd1 : d < 12) (o : Int) : ∃ σ', fX12_allEnd n [.inr (some (y.2 13 0)), .inl d, .inl o] (pu_H y κ σ g) = some (none, pu_H y κ σ' g) ∧ RO σ' (b_allEnd τ d o) ∧ WI (b_allEnd τ d o) := by
  simp only [fX12_allEnd, jm_run, List.length_cons, List.length_nil, Nat.reduceAdd, if_true, jm_init, List.map_cons, List.map_nil, Nat.reduceSub, List.replicate, List.cons_append, List.nil_append, kX12_allEnd]
  exact R_allEnd_0 hw hn hd0 hd1 o _ n σ τ none hR hI rfl (by have := hI.len d hd0 hd1; omega)
def b_waits (τ : bS) (t : Int) : bS :=
  if τ.1 6 t = 1 then (if τ.1 18 (τ.1 10 (20 * t + τ.1 4 t - 1)) = 3 then b_allEnd (b_up (b_ends (b_up τ 6 t 0) t 2 0) 25 (τ.1 10 (20 * t + τ.1 4 t - 1)) 1) (τ.1 10 (20 * t + τ.1 4 t - 1)) 5 else b_ends (b_up τ 6 t 0) t 2 0)
  else b_ln (b_up (b_up τ 14 (20 * t + τ.1 4 t - 1) 1) 5 t (τ.1 10 (20 * t + τ.1 4 t - 1))) (τ.1 10 (20 * t + τ.1 4 t - 1)) (τ.2 (τ.1 10 (20 * t + τ.1 4 t - 1)) ++ [t])
set_option maxHeartbeats 4000000 in
theorem R_waits {y : jLay} {κ σ : aS} {g : jH} {n : Nat} {τ : bS} (hw : pm_WF y) (hn : 1000 ≤ n) (hR : RO σ τ) (hI : WI τ) {t : Int} (ht0 : 0 ≤ t) (ht1 : t < 16) (hb : 1 ≤ τ.1 4 t) (h5 : τ.1 5 t < 0) : ∃ σ', fX12_waits n [.inr (some (y.2 13 0)), .inl t] (pu_H y κ σ g) = some (some (.inl (if τ.1 6 t = 1 then 0 else 1)), pu_H y κ σ' g) ∧ RO σ' (b_waits τ t) ∧ WI (b_waits τ t) := by
  have h4 := hI.1 t ht0 ht1
  obtain ⟨d, hd⟩ : ∃ d, d = τ.1 10 (20 * t + τ.1 4 t - 1) := ⟨_, rfl⟩
  have h10 := hI.2.2.2.2.1 (20 * t + τ.1 4 t - 1) (by omega) (by omega)
  rw [← hd] at h10
  obtain ⟨hd0, hd1⟩ := h10
  have e1 := R_stepOf (κ := κ) (g := g) (n := n) hw hn hR hI ht0 ht1
  have v10 : σ 10 (20 * t + τ.1 4 t - 1) = d := by rw [hR.1 10 _ (by decide) (by decide), hd]
  have v6 := hR.1 6 t (by decide) (by decide)
  have v18 := hR.1 18 d (by decide) (by decide)
  have e23 := (hR.2 d hd0 hd1).1
  have hl := hI.len1 hd0 hd1 ht0 ht1 (by omega)
  have hll := hI.len
  by_cases c1 : τ.1 6 t = 1
  · have w6 : σ 6 t = 1 := by rw [v6, c1]
    have hRa := hR.up (c := 6) t 0 (by decide) (by decide)
    have hIa := hI.upd (c := 6) t 0 (by decide)
    obtain ⟨σ2, e2, hR2⟩ := R_ends (κ := κ) (g := g) (n := n) hw hn hRa hIa ht0 ht1 2 0 (by rw [b_up_c _ _ _ _ _ _ (by decide)]; exact hb)
    have hI2 := hIa.ends t 2 0
    have w18 : σ2 18 d = τ.1 18 d := by rw [hR2.1 18 _ (by decide) (by decide), b_ends_c _ _ _ _ _ _ (by decide), b_up_c _ _ _ _ _ _ (by decide)]
    by_cases c2 : τ.1 18 d = 3
    · have x18 : σ2 18 d = 3 := by rw [w18, c2]
      have hRb := hR2.up (c := 25) d 1 (by decide) (by decide)
      have hIb := hI2.upd (c := 25) d 1 (by decide)
      obtain ⟨σ3, e3, hR3, hI3⟩ := R_allEnd (κ := κ) (g := g) (n := n) hw hn hRb hIb hd0 hd1 5
      have eb : b_waits τ t = b_allEnd (b_up (b_ends (b_up τ 6 t 0) t 2 0) 25 d 1) d 5 := by unfold b_waits; rw [← hd, if_pos c1, if_pos c2]
      rw [eb, if_pos c1]
      refine ⟨σ3, ?_, hR3, hI3⟩
      simp only [fX12_waits, jm_run, List.length_cons, List.length_nil, Nat.reduceAdd, if_true, jm_init, List.map_cons, List.map_nil, Nat.reduceSub, List.replicate, List.cons_append, List.nil_append, kX12_waits]
      simp (disch := first | omega | (simp only [List.length_cons, List.length_nil]; omega) | assumption) only [jk_none, jk_int, jk_null, jk_iload, jk_aload, jk_istore, jk_astore, jk_kill, jk_iinc, jk_iadd, jk_isub, jk_imul, jk_dup, jk_dup2, jk_ifeq, jk_ifne, jk_iflt, jk_ifge, jk_ifgt, jk_ifle, jk_icmpeq, jk_icmpne, jk_icmplt, jk_icmpge, jk_icmpgt, jk_icmple, jk_iret, jz_0, jz_1, jk_vret, jk_aret, jk_ifnull, jk_ifnonnull, List.getElem?_cons_zero, List.getElem?_cons_succ, List.set_cons_zero, List.set_cons_succ, List.length_cons, List.length_nil, jm_wr_id, pb_none, pb_int, pg_3 hw, pl_3 hw, ps_3 hw, pg_4 hw, pl_4 hw, ps_4 hw, pg_5 hw, pl_5 hw, ps_5 hw, pg_6 hw, pl_6 hw, ps_6 hw, pg_7 hw, pl_7 hw, ps_7 hw, pg_8 hw, pl_8 hw, ps_8 hw, pg_9 hw, pl_9 hw, ps_9 hw, pg_10 hw, pl_10 hw, ps_10 hw, pg_11 hw, pl_11 hw, ps_11 hw, pg_12 hw, pl_12 hw, ps_12 hw, pg_13 hw, pl_13 hw, ps_13 hw, pg_14 hw, pl_14 hw, ps_14 hw, pg_15 hw, pl_15 hw, ps_15 hw, pg_16 hw, pl_16 hw, ps_16 hw, pg_17 hw, pl_17 hw, ps_17 hw, pg_18 hw, pl_18 hw, ps_18 hw, pg_19 hw, pl_19 hw, ps_19 hw, pg_20 hw, pl_20 hw, ps_20 hw, pg_21 hw, pl_21 hw, ps_21 hw, pg_22 hw, pl_22 hw, ps_22 hw, pg_23 hw, pl_23 hw, ps_23 hw, pg_24 hw, pl_24 hw, ps_24 hw, pg_25 hw, pl_25 hw, ps_25 hw, pg_26 hw, pl_26 hw, ps_26 hw, pg_27 hw, pl_27 hw, ps_27 hw, pg_28 hw, pl_28 hw, ps_28 hw, pg_29 hw, pl_29 hw, ps_29 hw, pg_30 hw, pl_30 hw, ps_30 hw, pg_31 hw, pl_31 hw, ps_31 hw, pg_32 hw, pl_32 hw, ps_32 hw, pg_33 hw, pm_bald hw, pm_bast hw, pg_34 hw, pl_34 hw, ps_34 hw, pg_35 hw, pl_35 hw, ps_35 hw, pg_36 hw, pl_36 hw, ps_36 hw, pg_0 hw, ps_0 hw, pg_1 hw, ps_1 hw, pg_2 hw, ps_2 hw, pg_37 hw, ps_37 hw, pg_38 hw, ps_38 hw, pc_0 hw, pc_1 hw, pc_2 hw, pc_3 hw, pc_4 hw, pc_5 hw, pu_up_ne, pu_up_at, e1, e2, e3, v10, w6, x18, if_true, jk_fix_pos, kX12_waits_b, kX12_waits_0, kX12_waits_58, Nat.reduceEqDiff, if_false, reduceIte]
    · have x18 : ¬ σ2 18 d = 3 := by rw [w18]; exact c2
      have eb : b_waits τ t = b_ends (b_up τ 6 t 0) t 2 0 := by unfold b_waits; rw [← hd, if_pos c1, if_neg c2]
      rw [eb, if_pos c1]
      refine ⟨σ2, ?_, hR2, hI2⟩
      simp only [fX12_waits, jm_run, List.length_cons, List.length_nil, Nat.reduceAdd, if_true, jm_init, List.map_cons, List.map_nil, Nat.reduceSub, List.replicate, List.cons_append, List.nil_append, kX12_waits]
      simp (disch := first | omega | (simp only [List.length_cons, List.length_nil]; omega) | assumption) only [jk_none, jk_int, jk_null, jk_iload, jk_aload, jk_istore, jk_astore, jk_kill, jk_iinc, jk_iadd, jk_isub, jk_imul, jk_dup, jk_dup2, jk_ifeq, jk_ifne, jk_iflt, jk_ifge, jk_ifgt, jk_ifle, jk_icmpeq, jk_icmpne, jk_icmplt, jk_icmpge, jk_icmpgt, jk_icmple, jk_iret, jz_0, jz_1, jk_vret, jk_aret, jk_ifnull, jk_ifnonnull, List.getElem?_cons_zero, List.getElem?_cons_succ, List.set_cons_zero, List.set_cons_succ, List.length_cons, List.length_nil, jm_wr_id, pb_none, pb_int, pg_3 hw, pl_3 hw, ps_3 hw, pg_4 hw, pl_4 hw, ps_4 hw, pg_5 hw, pl_5 hw, ps_5 hw, pg_6 hw, pl_6 hw, ps_6 hw, pg_7 hw, pl_7 hw, ps_7 hw, pg_8 hw, pl_8 hw, ps_8 hw, pg_9 hw, pl_9 hw, ps_9 hw, pg_10 hw, pl_10 hw, ps_10 hw, pg_11 hw, pl_11 hw, ps_11 hw, pg_12 hw, pl_12 hw, ps_12 hw, pg_13 hw, pl_13 hw, ps_13 hw, pg_14 hw, pl_14 hw, ps_14 hw, pg_15 hw, pl_15 hw, ps_15 hw, pg_16 hw, pl_16 hw, ps_16 hw, pg_17 hw, pl_17 hw, ps_17 hw, pg_18 hw, pl_18 hw, ps_18 hw, pg_19 hw, pl_19 hw, ps_19 hw, pg_20 hw, pl_20 hw, ps_20 hw, pg_21 hw, pl_21 hw, ps_21 hw, pg_22 hw, pl_22 hw, ps_22 hw, pg_23 hw, pl_23 hw, ps_23 hw, pg_24 hw, pl_24 hw, ps_24 hw, pg_25 hw, pl_25 hw, ps_25 hw, pg_26 hw, pl_26 hw, ps_26 hw, pg_27 hw, pl_27 hw, ps_27 hw, pg_28 hw, pl_28 hw, ps_28 hw, pg_29 hw, pl_29 hw, ps_29 hw, pg_30 hw, pl_30 hw, ps_30 hw, pg_31 hw, pl_31 hw, ps_31 hw, pg_32 hw, pl_32 hw, ps_32 hw, pg_33 hw, pm_bald hw, pm_bast hw, pg_34 hw, pl_34 hw, ps_34 hw, pg_35 hw, pl_35 hw, ps_35 hw, pg_36 hw, pl_36 hw, ps_36 hw, pg_0 hw, ps_0 hw, pg_1 hw, ps_1 hw, pg_2 hw, ps_2 hw, pg_37 hw, ps_37 hw, pg_38 hw, ps_38 hw, pc_0 hw, pc_1 hw, pc_2 hw, pc_3 hw, pc_4 hw, pc_5 hw, pu_up_ne, pu_up_at, e1, e2, v10, w6, x18, if_true, jk_fix_pos, kX12_waits_b, kX12_waits_0, kX12_waits_58, Nat.reduceEqDiff, if_false, reduceIte]
  · have w6 : ¬ σ 6 t = 1 := by rw [v6]; exact c1
    have eb : b_waits τ t = b_ln (b_up (b_up τ 14 (20 * t + τ.1 4 t - 1) 1) 5 t d) d (τ.2 d ++ [t]) := by unfold b_waits; rw [← hd, if_neg c1]
    rw [eb, if_neg c1]
    have hRa := (hR.up (c := 14) (20 * t + τ.1 4 t - 1) 1 (by decide) (by decide)).up (c := 5) t d (by decide) (by decide)
    have hIa := hI.upd (c := 14) (20 * t + τ.1 4 t - 1) 1 (by decide)
    have hIb := hIa.push (t := t) (d := d) ht0 ht1 hd0 hd1 (by rw [b_up_c _ _ _ _ _ _ (by decide)]; exact h5) (by rw [b_up_c _ _ _ _ _ _ (by decide)]; exact hb) (by rw [b_up_c _ _ _ _ _ _ (by decide), b_up_c _ _ _ _ _ _ (by decide), ← hd])
    have hRb := hRa.push (t := t) hd0 hd1 hll hl
    have w23 : pu_up (pu_up σ 14 (20 * t + τ.1 4 t - 1) 1) 5 t d 23 d = σ 23 d := by rw [pu_up_ne _ _ _ _ (by decide), pu_up_ne _ _ _ _ (by decide)]
    rw [w23] at hRb
    have h23 : 0 ≤ σ 23 d ∧ σ 23 d < 16 := by omega
    refine ⟨_, ?_, hRb, hIb⟩
    simp only [fX12_waits, jm_run, List.length_cons, List.length_nil, Nat.reduceAdd, if_true, jm_init, List.map_cons, List.map_nil, Nat.reduceSub, List.replicate, List.cons_append, List.nil_append, kX12_waits]
    simp (disch := first | omega | (simp only [List.length_cons, List.length_nil]; omega) | assumption) only [jk_none, jk_int, jk_null, jk_iload, jk_aload, jk_istore, jk_astore, jk_kill, jk_iinc, jk_iadd, jk_isub, jk_imul, jk_dup, jk_dup2, jk_ifeq, jk_ifne, jk_iflt, jk_ifge, jk_ifgt, jk_ifle, jk_icmpeq, jk_icmpne, jk_icmplt, jk_icmpge, jk_icmpgt, jk_icmple, jk_iret, jz_0, jz_1, jk_vret, jk_aret, jk_ifnull, jk_ifnonnull, List.getElem?_cons_zero, List.getElem?_cons_succ, List.set_cons_zero, List.set_cons_succ, List.length_cons, List.length_nil, jm_wr_id, pb_none, pb_int, pg_3 hw, pl_3 hw, ps_3 hw, pg_4 hw, pl_4 hw, ps_4 hw, pg_5 hw, pl_5 hw, ps_5 hw, pg_6 hw, pl_6 hw, ps_6 hw, pg_7 hw, pl_7 hw, ps_7 hw, pg_8 hw, pl_8 hw, ps_8 hw, pg_9 hw, pl_9 hw, ps_9 hw, pg_10 hw, pl_10 hw, ps_10 hw, pg_11 hw, pl_11 hw, ps_11 hw, pg_12 hw, pl_12 hw, ps_12 hw, pg_13 hw, pl_13 hw, ps_13 hw, pg_14 hw, pl_14 hw, ps_14 hw, pg_15 hw, pl_15 hw, ps_15 hw, pg_16 hw, pl_16 hw, ps_16 hw, pg_17 hw, pl_17 hw, ps_17 hw, pg_18 hw, pl_18 hw, ps_18 hw, pg_19 hw, pl_19 hw, ps_19 hw, pg_20 hw, pl_20 hw, ps_20 hw, pg_21 hw, pl_21 hw, ps_21 hw, pg_22 hw, pl_22 hw, ps_22 hw, pg_23 hw, pl_23 hw, ps_23 hw, pg_24 hw, pl_24 hw, ps_24 hw, pg_25 hw, pl_25 hw, ps_25 hw, pg_26 hw, pl_26 hw, ps_26 hw, pg_27 hw, pl_27 hw, ps_27 hw, pg_28 hw, pl_28 hw, ps_28 hw, pg_29 hw, pl_29 hw, ps_29 hw, pg_30 hw, pl_30 hw, ps_30 hw, pg_31 hw, pl_31 hw, ps_31 hw, pg_32 hw, pl_32 hw, ps_32 hw, pg_33 hw, pm_bald hw, pm_bast hw, pg_34 hw, pl_34 hw, ps_34 hw, pg_35 hw, pl_35 hw, ps_35 hw, pg_36 hw, pl_36 hw, ps_36 hw, pg_0 hw, ps_0 hw, pg_1 hw, ps_1 hw, pg_2 hw, ps_2 hw, pg_37 hw, ps_37 hw, pg_38 hw, ps_38 hw, pc_0 hw, pc_1 hw, pc_2 hw, pc_3 hw, pc_4 hw, pc_5 hw, pu_up_ne, pu_up_at, e1, v10, w6, if_false, jk_fix_pos, kX12_waits_b, kX12_waits_0, kX12_waits_58, Nat.reduceEqDiff, if_false, reduceIte]
