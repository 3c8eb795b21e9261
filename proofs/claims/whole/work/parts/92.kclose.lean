theorem IQ.px {κ κ' : aS} {τ τ' : bS} {j : Int} (h : IQ κ τ j) (hk : ∀ (c : Nat) (i : Int), c = 38 ∨ c = 40 ∨ c = 41 → κ' c i = κ c i) (ht : ∀ (c : Nat) (i : Int), c = 0 ∨ c = 2 ∨ c = 35 ∨ c = 36 ∨ c = 38 → τ'.1 c i = τ.1 c i) : IQ κ' τ' j := by
  obtain ⟨a1, a2, a3, a4, a5, a6⟩ := h
  have e41 := hk 41 0 (by decide)
  have e38 := hk 38 0 (by decide)
  have e40 := fun i => hk 40 i (by decide)
  have ep : ∀ t b, b_planned τ' t b = b_planned τ t b := fun t b => by
    unfold b_planned
    rw [ht 38 0 (by decide)]
    congr 1
    funext k
    unfold b_plf
    rw [ht 35 k (by decide), ht 36 k (by decide)]
  refine ⟨by rw [e41]; exact a1, by rw [e41, e38]; exact a2, by rw [e38]; exact a3, fun i k h1 h2 h3 => ?_, fun i h1 h2 => ?_, fun t b t0 t1 hb hp => ?_⟩
  · rw [e41] at h1
    rw [e38] at h3
    rw [e40, e40]
    exact a4 i k h1 h2 h3
  · rw [e41] at h1
    rw [e38] at h2
    obtain ⟨t, b, q1, q2, q3, q4, q5, q6, q7⟩ := a5 i h1 h2
    exact ⟨t, b, by rw [e40]; exact q1, q2, by rw [ht 0 0 (by decide)]; exact q3, q4, by rw [ht 2 0 (by decide)]; exact q5, by rw [ht 2 0 (by decide)]; exact q6, by rw [ep]; exact q7⟩
  · rw [ht 2 0 (by decide)] at hb
    rw [ep] at hp
    obtain ⟨i, q1, q2, q3⟩ := a6 t b t0 t1 hb hp
    exact ⟨i, by rw [e41]; exact q1, by rw [e38]; exact q2, by rw [e40]; exact q3⟩
theorem WW.close {y : jLay} {κ : aS} {τ : bS} (h : WW y κ τ) (hp : PL τ) {d b : Int} (ok : p_closeok τ d b) : WW y (pu_up (pu_up κ 21 d b) 37 0 (κ 37 0 + 1)) (b_close τ d b) ∧ PL (b_close τ d b) := by
  obtain ⟨hG, hy, hq, hT⟩ := h
  obtain ⟨⟨d0, d1⟩, ⟨hb, hb5, h37⟩, h21⟩ := ok
  obtain ⟨p1, p2, p3⟩ := hp
  obtain ⟨hC, hI, hJ, hGT⟩ := hG
  have h9 := hI.2.2.2.2.2.2.2.2
  have k37 : κ 37 0 = τ.1 37 0 := hC.1.1 37 0 rfl
  have w1 : WI (b_up τ 21 d b) := hI.upd _ _ rfl
  have eT : ∀ (c : Nat) (i : Int), c ≠ 21 → c ≠ 37 → (b_close τ d b).1 c i = τ.1 c i := fun c i n21 n37 => by
    unfold b_close
    rw [b_up_c _ _ _ _ _ _ n37, b_up_c _ _ _ _ _ _ n21]
  have e21 : ∀ i, (b_close τ d b).1 21 i = if i = d then b else τ.1 21 i := fun i => by
    unfold b_close
    rw [b_up_c _ _ _ _ _ _ (by decide)]
    exact pu_up_c _ _ _ _ _
  have e37 : (b_close τ d b).1 37 0 = τ.1 37 0 + 1 := pu_up_at (b_up τ 21 d b).1 37 0 (τ.1 37 0 + 1)
  have eK : ∀ (c : Nat) (i : Int), c ≠ 21 → c ≠ 37 → pu_up (pu_up κ 21 d b) 37 0 (κ 37 0 + 1) c i = κ c i := fun c i n21 n37 => by rw [pu_up_ne _ _ _ _ n37, pu_up_ne _ _ _ _ n21]
  have hC' : CR (pu_up (pu_up κ 21 d b) 37 0 (κ 37 0 + 1)) (b_close τ d b) := by
    rw [k37]
    exact (hC.upx (c := 21) _ _ (by decide)).upx (c := 37) _ _ (by decide)
  refine ⟨⟨⟨hC', w1.upd _ _ rfl, (hJ.upx hI (c := 21) d b (by decide)).upx w1 (c := 37) _ _ (by decide), hGT.same (fun c i hc => eT c i (by omega) (by omega))⟩, hy.same (eK _ _ (by decide) (by decide)) (eK _ _ (by decide) (by decide)) (fun i => eK _ _ (by decide) (by decide)) (fun i => eK _ _ (by decide) (by decide)), hq.px (fun c i hc => eK c i (by omega) (by omega)) (fun c i hc => eT c i (by omega) (by omega)), ?_⟩, by rw [eT 38 0 (by decide) (by decide)]; exact p1, by rw [eT 38 0 (by decide) (by decide), e37]; omega, by rw [e37]; omega⟩
  obtain ⟨v1, v2, vN, v13, vd, v3, vk⟩ := hT
  have ebs : ∀ x, b_s (b_close τ d b) x = b_s τ x := fun x => by unfold b_s; rw [eT 4 x (by decide) (by decide)]
  refine ⟨by rw [eT 2 0 (by decide) (by decide)]; exact v1, by rw [eT 2 0 (by decide) (by decide)]; exact v2, by rw [eT 0 0 (by decide) (by decide)]; exact vN, fun s s0 s1 => by rw [eT 13 s (by decide) (by decide)]; exact v13 s s0 s1, fun e e0 e1 => ?_, ⟨fun x x0 x1 => by rw [eT 4 x (by decide) (by decide), eT 3 x (by decide) (by decide)]; exact v3.1 x x0 x1, fun x x0 x1 h5 => ?_⟩, fun k k0 k1 => ?_⟩
  · obtain ⟨r1, r2, r3, r4, r5, r6⟩ := vd e e0 e1
    rw [e21, eT 20 e (by decide) (by decide), eT 2 0 (by decide) (by decide), eT 1 0 (by decide) (by decide)]
    by_cases c : e = d
    · rw [if_pos c]
      rw [c] at r3 r5 r6 ⊢
      refine ⟨by omega, hb5, r3, fun _ => Or.inr hb, fun z => ?_, fun z => by omega⟩
      have := r5 z
      omega
    · rw [if_neg c]
      exact ⟨r1, r2, r3, r4, r5, r6⟩
  · rw [eT 0 0 (by decide) (by decide)] at x1
    rw [eT 5 x (by decide) (by decide)] at h5
    rw [ebs, eT 4 x (by decide) (by decide), eT 16 _ (by decide) (by decide), eT 13 _ (by decide) (by decide), eT 2 0 (by decide) (by decide)]
    exact v3.2 x x0 x1 h5
  · rw [eT 38 0 (by decide) (by decide)] at k1
    rw [eT 36 k (by decide) (by decide), eT 35 k (by decide) (by decide), eT 0 0 (by decide) (by decide)]
    exact vk k k0 k1
set_option maxHeartbeats 4000000 in
theorem k_closing {y : jLay} {κ σ : aS} {g : jH} {n : Nat} {τ : bS} (hn : 1000 ≤ n) (h : WW y κ τ) (hp : PL τ) {d b : Int} : if p_closeok τ d b then (∃ κ', fX11_close n [.inr (some (y.2 9 0)), .inl d, .inl b] (pu_H y κ σ g) = some (some (.inl 1), pu_H y κ' σ g) ∧ WW y κ' (b_close τ d b) ∧ PL (b_close τ d b)) else (fX11_close n [.inr (some (y.2 9 0)), .inl d, .inl b] (pu_H y κ σ g) = some (some (.inl 0), (pu_H y κ σ g))) := by
  have hW := h
  obtain ⟨hG, hy, hq, hT⟩ := h
  have hC := hG.1
  have hI := hG.2.1
  have h9 := hI.2.2.2.2.2.2.2.2
  have k0 : κ 0 0 = τ.1 0 0 := hC.1.1 0 0 rfl
  have k1 : κ 1 0 = τ.1 1 0 := hC.1.1 1 0 rfl
  have k2 : κ 2 0 = τ.1 2 0 := hC.1.1 2 0 rfl
  have hy0 := hy
  obtain ⟨iy, o9, o10, o11, o12, ya, yd, ys⟩ := hy
  have k37 : κ 37 0 = τ.1 37 0 := hC.1.1 37 0 rfl
  obtain ⟨p1, p2, p3⟩ := hp
  have ec := k_can (τ := τ) (σ := σ) (g := g) (n := n) (b := b) (by omega) o9 k2 k37
  by_cases dd : p_in d (τ.1 1 0)
  · have d1 : d < κ 1 0 := by have := dd.2; omega
    have d12 : d < 12 := by omega
    have e1 := k_device_s (σ := σ) (g := g) (n := n) (by omega) hy0 dd.1 d1 d12
    obtain ⟨o3, o4, o5, gk⟩ := yd d dd.1 d1
    have k21 : κ 21 d = τ.1 21 d := hC.1.1 21 d rfl
    by_cases lt : p_later τ b
    · rw [if_pos lt] at ec
      have h37 := lt.2.2
      by_cases c21 : τ.1 21 d = 0
      · have ok : p_closeok τ d b := ⟨dd, lt, c21⟩
        rw [if_pos ok]
        have c21k : κ 21 d = 0 := by omega
        refine ⟨_, ?_, hW.close ⟨p1, p2, p3⟩ ok⟩
        simp only [fX11_close, jm_run, List.length_cons, List.length_nil, Nat.reduceAdd, if_true, jm_init, List.map_cons, List.map_nil, Nat.reduceSub, List.replicate, List.cons_append, List.nil_append, kX11_close]
        simp (disch := first | omega | assumption | (simp only [List.length_cons, List.length_nil]; omega) | decide | (simp (disch := decide) only [pu_up_ne, pu_up_at]; first | omega | assumption)) only [↓ja_int, ↓ja_null, ↓ja_iload_0, ↓ja_aload_0, ↓ja_istore_0, ↓ja_astore_0, ↓ja_kill_0, ↓ja_iinc_0, ↓ja_iload_1, ↓ja_aload_1, ↓ja_istore_1, ↓ja_astore_1, ↓ja_kill_1, ↓ja_iinc_1, ↓ja_iload_2, ↓ja_aload_2, ↓ja_istore_2, ↓ja_astore_2, ↓ja_kill_2, ↓ja_iinc_2, ↓ja_iload_3, ↓ja_aload_3, ↓ja_istore_3, ↓ja_astore_3, ↓ja_kill_3, ↓ja_iinc_3, ↓ja_iload_4, ↓ja_aload_4, ↓ja_istore_4, ↓ja_astore_4, ↓ja_kill_4, ↓ja_iinc_4, ↓ja_iload_5, ↓ja_aload_5, ↓ja_istore_5, ↓ja_astore_5, ↓ja_kill_5, ↓ja_iinc_5, ↓ja_iload_6, ↓ja_aload_6, ↓ja_istore_6, ↓ja_astore_6, ↓ja_kill_6, ↓ja_iinc_6, ↓ja_iload_7, ↓ja_aload_7, ↓ja_istore_7, ↓ja_astore_7, ↓ja_kill_7, ↓ja_iinc_7, ↓ja_iload_8, ↓ja_aload_8, ↓ja_istore_8, ↓ja_astore_8, ↓ja_kill_8, ↓ja_iinc_8, ↓ja_iload_9, ↓ja_aload_9, ↓ja_istore_9, ↓ja_astore_9, ↓ja_kill_9, ↓ja_iinc_9, ↓ja_iload_10, ↓ja_aload_10, ↓ja_istore_10, ↓ja_astore_10, ↓ja_kill_10, ↓ja_iinc_10, ↓ja_iadd, ↓ja_isub, ↓ja_imul, ↓ja_dup, ↓ja_dup2, ↓ja_i2b, ↓ja_ifeq, ↓ja_ifne, ↓ja_iflt, ↓ja_ifge, ↓ja_ifgt, ↓ja_ifle, ↓ja_icmpeq, ↓ja_icmpne, ↓ja_icmplt, ↓ja_icmpge, ↓ja_icmpgt, ↓ja_icmple, ↓ja_ifnull_n, ↓ja_ifnull_s, ↓ja_ifnonnull_n, ↓ja_ifnonnull_s, ↓ja_iret, ↓ja_aret, ↓ja_vret, ↓ja_zret0, ↓ja_zret1, ↓ja_sw, ↓ja_pe, ↓ja_pn, ↓ja_pz, ↓reduceIte, ite_self, Int.reduceEq, Int.reduceLT, Int.reduceLE, Int.reduceNeg, ca_g0, ca_g1, ca_g2, ca_g3, ca_g5, ca_g6, ca_g4n, ca_g4s, ca_p3, ca_p5, ca_p6, ca_p4n, ca_p4s, cs_g0, cs_g1, cs_g2, cs_g3, cs_g4, cs_g5, cs_g6, cs_g7, cs_g8, cs_p5, cs_p6, cs_p7, cs_p8, cd_g0, cd_g1, cd_g2, cd_g3, cd_g4, cd_g5, cd_g6, cd_g7, cd1_g0, cd1_g1, cd1_g2, cd1_g3, cd1_g4, cd1_g5, cd1_g6, cd1_g7, cd1_g8, cd1_g9, cd2_g0, cd2_g1, cd2_g2, cd2_g3, cd2_g4, cd2_g5, cd2_g6, cd2_g7, cd3_g0, cd3_g1, cd3_g2, cd3_g3, cd3_g4, cd3_g5, cd3_g6, cd3_g7, cd3_g8, cd3_g9, cd3_g10, cd4_g0, cd4_g1, cd4_g2, cd4_g3, cd4_g4, cd4_g5, cd4_g6, cd4_g7, cd4_g8, cd4_g9, cd4_g10, cd5_g0, cd5_g1, cd5_g2, cd5_g3, cd5_g4, cd5_g5, cd5_g6, cd5_g7, cd5_g8, cd5_g9, cd6_g0, cd6_g1, cd6_g2, cd6_g3, cd6_g4, cd6_g5, cd6_g6, cd6_g7, cd6_g8, cd7_g0, cd7_g1, cd7_g2, cd7_g3, cd7_g4, cd7_g5, cd7_g6, cd7_g7, cd7_g8, cd7_g9, cd7_g10, cd8_g0, cd8_g1, cd8_g2, cd8_g3, cd8_g4, cd8_g5, cd8_g6, cd8_g7, cd8_g9, cd8_g8a, cd8_g8b, cd_p2, cd_p3, cd_p5, cd_p7, cd1_p9, cd3_p10, cd4_p9, cd4_p10, cd5_p9, cd6_p8, cd7_p10, cd8_p9, cd8_p8a, cd8_p8b, ck_g0, ck_g1, ck_g2, ck_g3, ck_g4, ck_g5, ck_g6, ck_g7, ck_g8, ck_p5, ck_p6, ck_p7, ck_p8, cr2, cr4, cr5, cr10, cr11, cr12, cr6_5, cr6_6, cr6_9, cr6_11, cr7, cw5, cw6_5, cw6_6, cw6_9, cw6_11, cw7, cw12, cw4, cl2, cl4, cl5, cl12, cc_a0, cc_s0, cc_k0, cc_1_0, cc_2_0, cc_3_0, cc_4_0, cc_5_0, cc_6_0, cc_7_0, cc_8_0, cc_d0, cc_a1, cc_s1, cc_k1, cc_1_1, cc_2_1, cc_3_1, cc_4_1, cc_5_1, cc_6_1, cc_7_1, cc_8_1, cc_d1, cc_k2, cc_1_2, cc_2_2, cc_3_2, cc_4_2, cc_5_2, cc_6_2, cc_7_2, cc_8_2, cc_d2, cc_k3, cc_1_3, cc_2_3, cc_3_3, cc_4_3, cc_5_3, cc_6_3, cc_7_3, cc_8_3, cc_d3, cc_k4, cc_k5, jm_wr_id, pb_none, pb_int, pb_ref, pu_up_ne, pu_up_at, e1, ec, c21k, if_true, if_false, ↓jk_fix_pos, kX11_close_b, kX11_close_0, kX11_close_25, Nat.reduceEqDiff]
      · rw [if_neg (fun z => c21 z.2.2)]
        have c21k : ¬ κ 21 d = 0 := by omega
        simp only [fX11_close, jm_run, List.length_cons, List.length_nil, Nat.reduceAdd, if_true, jm_init, List.map_cons, List.map_nil, Nat.reduceSub, List.replicate, List.cons_append, List.nil_append, kX11_close]
        simp (disch := first | omega | assumption | (simp only [List.length_cons, List.length_nil]; omega) | decide | (simp (disch := decide) only [pu_up_ne, pu_up_at]; first | omega | assumption)) only [↓ja_int, ↓ja_null, ↓ja_iload_0, ↓ja_aload_0, ↓ja_istore_0, ↓ja_astore_0, ↓ja_kill_0, ↓ja_iinc_0, ↓ja_iload_1, ↓ja_aload_1, ↓ja_istore_1, ↓ja_astore_1, ↓ja_kill_1, ↓ja_iinc_1, ↓ja_iload_2, ↓ja_aload_2, ↓ja_istore_2, ↓ja_astore_2, ↓ja_kill_2, ↓ja_iinc_2, ↓ja_iload_3, ↓ja_aload_3, ↓ja_istore_3, ↓ja_astore_3, ↓ja_kill_3, ↓ja_iinc_3, ↓ja_iload_4, ↓ja_aload_4, ↓ja_istore_4, ↓ja_astore_4, ↓ja_kill_4, ↓ja_iinc_4, ↓ja_iload_5, ↓ja_aload_5, ↓ja_istore_5, ↓ja_astore_5, ↓ja_kill_5, ↓ja_iinc_5, ↓ja_iload_6, ↓ja_aload_6, ↓ja_istore_6, ↓ja_astore_6, ↓ja_kill_6, ↓ja_iinc_6, ↓ja_iload_7, ↓ja_aload_7, ↓ja_istore_7, ↓ja_astore_7, ↓ja_kill_7, ↓ja_iinc_7, ↓ja_iload_8, ↓ja_aload_8, ↓ja_istore_8, ↓ja_astore_8, ↓ja_kill_8, ↓ja_iinc_8, ↓ja_iload_9, ↓ja_aload_9, ↓ja_istore_9, ↓ja_astore_9, ↓ja_kill_9, ↓ja_iinc_9, ↓ja_iload_10, ↓ja_aload_10, ↓ja_istore_10, ↓ja_astore_10, ↓ja_kill_10, ↓ja_iinc_10, ↓ja_iadd, ↓ja_isub, ↓ja_imul, ↓ja_dup, ↓ja_dup2, ↓ja_i2b, ↓ja_ifeq, ↓ja_ifne, ↓ja_iflt, ↓ja_ifge, ↓ja_ifgt, ↓ja_ifle, ↓ja_icmpeq, ↓ja_icmpne, ↓ja_icmplt, ↓ja_icmpge, ↓ja_icmpgt, ↓ja_icmple, ↓ja_ifnull_n, ↓ja_ifnull_s, ↓ja_ifnonnull_n, ↓ja_ifnonnull_s, ↓ja_iret, ↓ja_aret, ↓ja_vret, ↓ja_zret0, ↓ja_zret1, ↓ja_sw, ↓ja_pe, ↓ja_pn, ↓ja_pz, ↓reduceIte, ite_self, Int.reduceEq, Int.reduceLT, Int.reduceLE, Int.reduceNeg, ca_g0, ca_g1, ca_g2, ca_g3, ca_g5, ca_g6, ca_g4n, ca_g4s, ca_p3, ca_p5, ca_p6, ca_p4n, ca_p4s, cs_g0, cs_g1, cs_g2, cs_g3, cs_g4, cs_g5, cs_g6, cs_g7, cs_g8, cs_p5, cs_p6, cs_p7, cs_p8, cd_g0, cd_g1, cd_g2, cd_g3, cd_g4, cd_g5, cd_g6, cd_g7, cd1_g0, cd1_g1, cd1_g2, cd1_g3, cd1_g4, cd1_g5, cd1_g6, cd1_g7, cd1_g8, cd1_g9, cd2_g0, cd2_g1, cd2_g2, cd2_g3, cd2_g4, cd2_g5, cd2_g6, cd2_g7, cd3_g0, cd3_g1, cd3_g2, cd3_g3, cd3_g4, cd3_g5, cd3_g6, cd3_g7, cd3_g8, cd3_g9, cd3_g10, cd4_g0, cd4_g1, cd4_g2, cd4_g3, cd4_g4, cd4_g5, cd4_g6, cd4_g7, cd4_g8, cd4_g9, cd4_g10, cd5_g0, cd5_g1, cd5_g2, cd5_g3, cd5_g4, cd5_g5, cd5_g6, cd5_g7, cd5_g8, cd5_g9, cd6_g0, cd6_g1, cd6_g2, cd6_g3, cd6_g4, cd6_g5, cd6_g6, cd6_g7, cd6_g8, cd7_g0, cd7_g1, cd7_g2, cd7_g3, cd7_g4, cd7_g5, cd7_g6, cd7_g7, cd7_g8, cd7_g9, cd7_g10, cd8_g0, cd8_g1, cd8_g2, cd8_g3, cd8_g4, cd8_g5, cd8_g6, cd8_g7, cd8_g9, cd8_g8a, cd8_g8b, cd_p2, cd_p3, cd_p5, cd_p7, cd1_p9, cd3_p10, cd4_p9, cd4_p10, cd5_p9, cd6_p8, cd7_p10, cd8_p9, cd8_p8a, cd8_p8b, ck_g0, ck_g1, ck_g2, ck_g3, ck_g4, ck_g5, ck_g6, ck_g7, ck_g8, ck_p5, ck_p6, ck_p7, ck_p8, cr2, cr4, cr5, cr10, cr11, cr12, cr6_5, cr6_6, cr6_9, cr6_11, cr7, cw5, cw6_5, cw6_6, cw6_9, cw6_11, cw7, cw12, cw4, cl2, cl4, cl5, cl12, cc_a0, cc_s0, cc_k0, cc_1_0, cc_2_0, cc_3_0, cc_4_0, cc_5_0, cc_6_0, cc_7_0, cc_8_0, cc_d0, cc_a1, cc_s1, cc_k1, cc_1_1, cc_2_1, cc_3_1, cc_4_1, cc_5_1, cc_6_1, cc_7_1, cc_8_1, cc_d1, cc_k2, cc_1_2, cc_2_2, cc_3_2, cc_4_2, cc_5_2, cc_6_2, cc_7_2, cc_8_2, cc_d2, cc_k3, cc_1_3, cc_2_3, cc_3_3, cc_4_3, cc_5_3, cc_6_3, cc_7_3, cc_8_3, cc_d3, cc_k4, cc_k5, jm_wr_id, pb_none, pb_int, pb_ref, pu_up_ne, pu_up_at, e1, ec, c21k, if_true, if_false, ↓jk_fix_pos, kX11_close_b, kX11_close_0, kX11_close_25, Nat.reduceEqDiff]
    · rw [if_neg lt] at ec
      rw [if_neg (fun z => lt z.2.1)]
      simp only [fX11_close, jm_run, List.length_cons, List.length_nil, Nat.reduceAdd, if_true, jm_init, List.map_cons, List.map_nil, Nat.reduceSub, List.replicate, List.cons_append, List.nil_append, kX11_close]
      simp (disch := first | omega | assumption | (simp only [List.length_cons, List.length_nil]; omega) | decide | (simp (disch := decide) only [pu_up_ne, pu_up_at]; first | omega | assumption)) only [↓ja_int, ↓ja_null, ↓ja_iload_0, ↓ja_aload_0, ↓ja_istore_0, ↓ja_astore_0, ↓ja_kill_0, ↓ja_iinc_0, ↓ja_iload_1, ↓ja_aload_1, ↓ja_istore_1, ↓ja_astore_1, ↓ja_kill_1, ↓ja_iinc_1, ↓ja_iload_2, ↓ja_aload_2, ↓ja_istore_2, ↓ja_astore_2, ↓ja_kill_2, ↓ja_iinc_2, ↓ja_iload_3, ↓ja_aload_3, ↓ja_istore_3, ↓ja_astore_3, ↓ja_kill_3, ↓ja_iinc_3, ↓ja_iload_4, ↓ja_aload_4, ↓ja_istore_4, ↓ja_astore_4, ↓ja_kill_4, ↓ja_iinc_4, ↓ja_iload_5, ↓ja_aload_5, ↓ja_istore_5, ↓ja_astore_5, ↓ja_kill_5, ↓ja_iinc_5, ↓ja_iload_6, ↓ja_aload_6, ↓ja_istore_6, ↓ja_astore_6, ↓ja_kill_6, ↓ja_iinc_6, ↓ja_iload_7, ↓ja_aload_7, ↓ja_istore_7, ↓ja_astore_7, ↓ja_kill_7, ↓ja_iinc_7, ↓ja_iload_8, ↓ja_aload_8, ↓ja_istore_8, ↓ja_astore_8, ↓ja_kill_8, ↓ja_iinc_8, ↓ja_iload_9, ↓ja_aload_9, ↓ja_istore_9, ↓ja_astore_9, ↓ja_kill_9, ↓ja_iinc_9, ↓ja_iload_10, ↓ja_aload_10, ↓ja_istore_10, ↓ja_astore_10, ↓ja_kill_10, ↓ja_iinc_10, ↓ja_iadd, ↓ja_isub, ↓ja_imul, ↓ja_dup, ↓ja_dup2, ↓ja_i2b, ↓ja_ifeq, ↓ja_ifne, ↓ja_iflt, ↓ja_ifge, ↓ja_ifgt, ↓ja_ifle, ↓ja_icmpeq, ↓ja_icmpne, ↓ja_icmplt, ↓ja_icmpge, ↓ja_icmpgt, ↓ja_icmple, ↓ja_ifnull_n, ↓ja_ifnull_s, ↓ja_ifnonnull_n, ↓ja_ifnonnull_s, ↓ja_iret, ↓ja_aret, ↓ja_vret, ↓ja_zret0, ↓ja_zret1, ↓ja_sw, ↓ja_pe, ↓ja_pn, ↓ja_pz, ↓reduceIte, ite_self, Int.reduceEq, Int.reduceLT, Int.reduceLE, Int.reduceNeg, ca_g0, ca_g1, ca_g2, ca_g3, ca_g5, ca_g6, ca_g4n, ca_g4s, ca_p3, ca_p5, ca_p6, ca_p4n, ca_p4s, cs_g0, cs_g1, cs_g2, cs_g3, cs_g4, cs_g5, cs_g6, cs_g7, cs_g8, cs_p5, cs_p6, cs_p7, cs_p8, cd_g0, cd_g1, cd_g2, cd_g3, cd_g4, cd_g5, cd_g6, cd_g7, cd1_g0, cd1_g1, cd1_g2, cd1_g3, cd1_g4, cd1_g5, cd1_g6, cd1_g7, cd1_g8, cd1_g9, cd2_g0, cd2_g1, cd2_g2, cd2_g3, cd2_g4, cd2_g5, cd2_g6, cd2_g7, cd3_g0, cd3_g1, cd3_g2, cd3_g3, cd3_g4, cd3_g5, cd3_g6, cd3_g7, cd3_g8, cd3_g9, cd3_g10, cd4_g0, cd4_g1, cd4_g2, cd4_g3, cd4_g4, cd4_g5, cd4_g6, cd4_g7, cd4_g8, cd4_g9, cd4_g10, cd5_g0, cd5_g1, cd5_g2, cd5_g3, cd5_g4, cd5_g5, cd5_g6, cd5_g7, cd5_g8, cd5_g9, cd6_g0, cd6_g1, cd6_g2, cd6_g3, cd6_g4, cd6_g5, cd6_g6, cd6_g7, cd6_g8, cd7_g0, cd7_g1, cd7_g2, cd7_g3, cd7_g4, cd7_g5, cd7_g6, cd7_g7, cd7_g8, cd7_g9, cd7_g10, cd8_g0, cd8_g1, cd8_g2, cd8_g3, cd8_g4, cd8_g5, cd8_g6, cd8_g7, cd8_g9, cd8_g8a, cd8_g8b, cd_p2, cd_p3, cd_p5, cd_p7, cd1_p9, cd3_p10, cd4_p9, cd4_p10, cd5_p9, cd6_p8, cd7_p10, cd8_p9, cd8_p8a, cd8_p8b, ck_g0, ck_g1, ck_g2, ck_g3, ck_g4, ck_g5, ck_g6, ck_g7, ck_g8, ck_p5, ck_p6, ck_p7, ck_p8, cr2, cr4, cr5, cr10, cr11, cr12, cr6_5, cr6_6, cr6_9, cr6_11, cr7, cw5, cw6_5, cw6_6, cw6_9, cw6_11, cw7, cw12, cw4, cl2, cl4, cl5, cl12, cc_a0, cc_s0, cc_k0, cc_1_0, cc_2_0, cc_3_0, cc_4_0, cc_5_0, cc_6_0, cc_7_0, cc_8_0, cc_d0, cc_a1, cc_s1, cc_k1, cc_1_1, cc_2_1, cc_3_1, cc_4_1, cc_5_1, cc_6_1, cc_7_1, cc_8_1, cc_d1, cc_k2, cc_1_2, cc_2_2, cc_3_2, cc_4_2, cc_5_2, cc_6_2, cc_7_2, cc_8_2, cc_d2, cc_k3, cc_1_3, cc_2_3, cc_3_3, cc_4_3, cc_5_3, cc_6_3, cc_7_3, cc_8_3, cc_d3, cc_k4, cc_k5, jm_wr_id, pb_none, pb_int, pb_ref, pu_up_ne, pu_up_at, e1, ec, if_true, if_false, ↓jk_fix_pos, kX11_close_b, kX11_close_0, kX11_close_25, Nat.reduceEqDiff]
  · rw [if_neg (fun z => dd z.1)]
    have e1 := k_device_n (κ := κ) (σ := σ) (g := g) (n := n) (d := d) (by omega) hy0 (by rw [k1]; by_cases c : d < 0; exact Or.inl c; exact Or.inr (by by_cases c2 : d < τ.1 1 0; exact absurd ⟨by omega, c2⟩ dd; omega))
    simp only [fX11_close, jm_run, List.length_cons, List.length_nil, Nat.reduceAdd, if_true, jm_init, List.map_cons, List.map_nil, Nat.reduceSub, List.replicate, List.cons_append, List.nil_append, kX11_close]
    simp (disch := first | omega | assumption | (simp only [List.length_cons, List.length_nil]; omega) | decide | (simp (disch := decide) only [pu_up_ne, pu_up_at]; first | omega | assumption)) only [↓ja_int, ↓ja_null, ↓ja_iload_0, ↓ja_aload_0, ↓ja_istore_0, ↓ja_astore_0, ↓ja_kill_0, ↓ja_iinc_0, ↓ja_iload_1, ↓ja_aload_1, ↓ja_istore_1, ↓ja_astore_1, ↓ja_kill_1, ↓ja_iinc_1, ↓ja_iload_2, ↓ja_aload_2, ↓ja_istore_2, ↓ja_astore_2, ↓ja_kill_2, ↓ja_iinc_2, ↓ja_iload_3, ↓ja_aload_3, ↓ja_istore_3, ↓ja_astore_3, ↓ja_kill_3, ↓ja_iinc_3, ↓ja_iload_4, ↓ja_aload_4, ↓ja_istore_4, ↓ja_astore_4, ↓ja_kill_4, ↓ja_iinc_4, ↓ja_iload_5, ↓ja_aload_5, ↓ja_istore_5, ↓ja_astore_5, ↓ja_kill_5, ↓ja_iinc_5, ↓ja_iload_6, ↓ja_aload_6, ↓ja_istore_6, ↓ja_astore_6, ↓ja_kill_6, ↓ja_iinc_6, ↓ja_iload_7, ↓ja_aload_7, ↓ja_istore_7, ↓ja_astore_7, ↓ja_kill_7, ↓ja_iinc_7, ↓ja_iload_8, ↓ja_aload_8, ↓ja_istore_8, ↓ja_astore_8, ↓ja_kill_8, ↓ja_iinc_8, ↓ja_iload_9, ↓ja_aload_9, ↓ja_istore_9, ↓ja_astore_9, ↓ja_kill_9, ↓ja_iinc_9, ↓ja_iload_10, ↓ja_aload_10, ↓ja_istore_10, ↓ja_astore_10, ↓ja_kill_10, ↓ja_iinc_10, ↓ja_iadd, ↓ja_isub, ↓ja_imul, ↓ja_dup, ↓ja_dup2, ↓ja_i2b, ↓ja_ifeq, ↓ja_ifne, ↓ja_iflt, ↓ja_ifge, ↓ja_ifgt, ↓ja_ifle, ↓ja_icmpeq, ↓ja_icmpne, ↓ja_icmplt, ↓ja_icmpge, ↓ja_icmpgt, ↓ja_icmple, ↓ja_ifnull_n, ↓ja_ifnull_s, ↓ja_ifnonnull_n, ↓ja_ifnonnull_s, ↓ja_iret, ↓ja_aret, ↓ja_vret, ↓ja_zret0, ↓ja_zret1, ↓ja_sw, ↓ja_pe, ↓ja_pn, ↓ja_pz, ↓reduceIte, ite_self, Int.reduceEq, Int.reduceLT, Int.reduceLE, Int.reduceNeg, ca_g0, ca_g1, ca_g2, ca_g3, ca_g5, ca_g6, ca_g4n, ca_g4s, ca_p3, ca_p5, ca_p6, ca_p4n, ca_p4s, cs_g0, cs_g1, cs_g2, cs_g3, cs_g4, cs_g5, cs_g6, cs_g7, cs_g8, cs_p5, cs_p6, cs_p7, cs_p8, cd_g0, cd_g1, cd_g2, cd_g3, cd_g4, cd_g5, cd_g6, cd_g7, cd1_g0, cd1_g1, cd1_g2, cd1_g3, cd1_g4, cd1_g5, cd1_g6, cd1_g7, cd1_g8, cd1_g9, cd2_g0, cd2_g1, cd2_g2, cd2_g3, cd2_g4, cd2_g5, cd2_g6, cd2_g7, cd3_g0, cd3_g1, cd3_g2, cd3_g3, cd3_g4, cd3_g5, cd3_g6, cd3_g7, cd3_g8, cd3_g9, cd3_g10, cd4_g0, cd4_g1, cd4_g2, cd4_g3, cd4_g4, cd4_g5, cd4_g6, cd4_g7, cd4_g8, cd4_g9, cd4_g10, cd5_g0, cd5_g1, cd5_g2, cd5_g3, cd5_g4, cd5_g5, cd5_g6, cd5_g7, cd5_g8, cd5_g9, cd6_g0, cd6_g1, cd6_g2, cd6_g3, cd6_g4, cd6_g5, cd6_g6, cd6_g7, cd6_g8, cd7_g0, cd7_g1, cd7_g2, cd7_g3, cd7_g4, cd7_g5, cd7_g6, cd7_g7, cd7_g8, cd7_g9, cd7_g10, cd8_g0, cd8_g1, cd8_g2, cd8_g3, cd8_g4, cd8_g5, cd8_g6, cd8_g7, cd8_g9, cd8_g8a, cd8_g8b, cd_p2, cd_p3, cd_p5, cd_p7, cd1_p9, cd3_p10, cd4_p9, cd4_p10, cd5_p9, cd6_p8, cd7_p10, cd8_p9, cd8_p8a, cd8_p8b, ck_g0, ck_g1, ck_g2, ck_g3, ck_g4, ck_g5, ck_g6, ck_g7, ck_g8, ck_p5, ck_p6, ck_p7, ck_p8, cr2, cr4, cr5, cr10, cr11, cr12, cr6_5, cr6_6, cr6_9, cr6_11, cr7, cw5, cw6_5, cw6_6, cw6_9, cw6_11, cw7, cw12, cw4, cl2, cl4, cl5, cl12, cc_a0, cc_s0, cc_k0, cc_1_0, cc_2_0, cc_3_0, cc_4_0, cc_5_0, cc_6_0, cc_7_0, cc_8_0, cc_d0, cc_a1, cc_s1, cc_k1, cc_1_1, cc_2_1, cc_3_1, cc_4_1, cc_5_1, cc_6_1, cc_7_1, cc_8_1, cc_d1, cc_k2, cc_1_2, cc_2_2, cc_3_2, cc_4_2, cc_5_2, cc_6_2, cc_7_2, cc_8_2, cc_d2, cc_k3, cc_1_3, cc_2_3, cc_3_3, cc_4_3, cc_5_3, cc_6_3, cc_7_3, cc_8_3, cc_d3, cc_k4, cc_k5, jm_wr_id, pb_none, pb_int, pb_ref, pu_up_ne, pu_up_at, e1, if_true, if_false, ↓jk_fix_pos, kX11_close_b, kX11_close_0, kX11_close_25, Nat.reduceEqDiff]
