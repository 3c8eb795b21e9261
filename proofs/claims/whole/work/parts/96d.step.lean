/-! a step is born -/
set_option maxHeartbeats 4000000 in
theorem k_learn {n : Nat} {h : jH} {a s v : Nat} {f fs : Nat → jV} {q : jC} {l : Int} (qa : h.1 a = some (0, 7, f)) (qs : h.1 s = some (25, 20, fs)) (qv : h.1 v = some q) (q9 : q.1 = 9) (f1 : f 1 = .inr (some s)) (f2 : f 2 = .inl l) (l0 : 0 ≤ l) (l1 : l < 20) (ne : a ≠ s) : fX0_learn n [.inr (some a), .inr (some v)] h = some (some (.inl (l + 1)), jm_set (jm_set h s (25, 20, fs) l.toNat (.inr (some v))) a (0, 7, f) 2 (.inl (l + 1))) := by
  obtain ⟨h3, e3⟩ : ∃ z : jH, z = jm_set h s (25, 20, fs) l.toNat (.inr (some v)) := ⟨_, rfl⟩
  have q3 : h3.1 a = some (0, 7, f) := by rw [e3, st_ne ne]; exact qa
  obtain ⟨h4, e4⟩ : ∃ z : jH, z = jm_set h3 a (0, 7, f) 2 (.inl (l + 1)) := ⟨_, rfl⟩
  have q4 : h4.1 a = some (0, 7, jm_upd f 2 (.inl (l + 1))) := by rw [e4]; exact st_at
  have r0 : ∀ {i : Nat} {kk : jK} {LL : List (Option jV)} {SS : List jV}, jk_get [0] i kk LL (.inr (some a) :: SS) h = kk LL (f i :: SS) h := fun {i kk LL SS} => rw_get qa (by simp)
  have r3 : ∀ {i : Nat} {kk : jK} {LL : List (Option jV)} {SS : List jV}, jk_get [0] i kk LL (.inr (some a) :: SS) h3 = kk LL (f i :: SS) h3 := fun {i kk LL SS} => rw_get q3 (by simp)
  have r4 : ∀ {i : Nat} {kk : jK} {LL : List (Option jV)} {SS : List jV}, jk_get [0] i kk LL (.inr (some a) :: SS) h4 = kk LL (jm_upd f 2 (.inl (l + 1)) i :: SS) h4 := fun {i kk LL SS} => rw_get q4 (by simp)
  have ra : ∀ {kk : jK} {LL : List (Option jV)} {SS : List jV}, jk_alen kk LL (.inr (some s) :: SS) h = kk LL (.inl 20 :: SS) h := fun {kk LL SS} => rw_alen qs (show 20 ≤ 25 by decide) (show 25 ≤ 30 by decide)
  have aa : ∀ {kk : jK} {LL : List (Option jV)} {SS : List jV}, jk_aast 25 kk LL (.inr (some v) :: .inl l :: .inr (some s) :: SS) h = kk LL SS h3 := fun {kk LL SS} => by rw [e3]; exact rw_aast qs qv rfl l0 l1 (by rw [q9]; decide)
  have pp : ∀ {kk : jK} {LL : List (Option jV)} {SS : List jV}, jk_puti [0] 2 kk LL (.inl (l + 1) :: .inr (some a) :: SS) h3 = kk LL SS h4 := fun {kk LL SS} => by rw [e4]; exact rw_puti q3 (by simp)
  have w2 : jm_upd f 2 (.inl (l + 1)) 2 = .inl (l + 1) := rfl
  rw [← e3, ← e4]
  simp only [fX0_learn, jm_run, List.length_cons, List.length_nil, Nat.reduceAdd, if_true, jm_init, List.map_cons, List.map_nil, Nat.reduceSub, List.replicate, List.cons_append, List.nil_append, kX0_learn]
  simp (disch := first | omega | assumption | (simp only [List.length_cons, List.length_nil]; omega) | decide | (simp (disch := decide) only [pu_up_ne, pu_up_at]; first | omega | assumption)) only [↓ja_int, ↓ja_null, ↓ja_iload_0, ↓ja_aload_0, ↓ja_istore_0, ↓ja_astore_0, ↓ja_kill_0, ↓ja_iinc_0, ↓ja_iload_1, ↓ja_aload_1, ↓ja_istore_1, ↓ja_astore_1, ↓ja_kill_1, ↓ja_iinc_1, ↓ja_iload_2, ↓ja_aload_2, ↓ja_istore_2, ↓ja_astore_2, ↓ja_kill_2, ↓ja_iinc_2, ↓ja_iload_3, ↓ja_aload_3, ↓ja_istore_3, ↓ja_astore_3, ↓ja_kill_3, ↓ja_iinc_3, ↓ja_iload_4, ↓ja_aload_4, ↓ja_istore_4, ↓ja_astore_4, ↓ja_kill_4, ↓ja_iinc_4, ↓ja_iload_5, ↓ja_aload_5, ↓ja_istore_5, ↓ja_astore_5, ↓ja_kill_5, ↓ja_iinc_5, ↓ja_iload_6, ↓ja_aload_6, ↓ja_istore_6, ↓ja_astore_6, ↓ja_kill_6, ↓ja_iinc_6, ↓ja_iload_7, ↓ja_aload_7, ↓ja_istore_7, ↓ja_astore_7, ↓ja_kill_7, ↓ja_iinc_7, ↓ja_iload_8, ↓ja_aload_8, ↓ja_istore_8, ↓ja_astore_8, ↓ja_kill_8, ↓ja_iinc_8, ↓ja_iload_9, ↓ja_aload_9, ↓ja_istore_9, ↓ja_astore_9, ↓ja_kill_9, ↓ja_iinc_9, ↓ja_iload_10, ↓ja_aload_10, ↓ja_istore_10, ↓ja_astore_10, ↓ja_kill_10, ↓ja_iinc_10, ↓ja_iadd, ↓ja_isub, ↓ja_imul, ↓ja_dup, ↓ja_dup2, ↓ja_i2b, ↓ja_ifeq, ↓ja_ifne, ↓ja_iflt, ↓ja_ifge, ↓ja_ifgt, ↓ja_ifle, ↓ja_icmpeq, ↓ja_icmpne, ↓ja_icmplt, ↓ja_icmpge, ↓ja_icmpgt, ↓ja_icmple, ↓ja_ifnull_n, ↓ja_ifnull_s, ↓ja_ifnonnull_n, ↓ja_ifnonnull_s, ↓ja_iret, ↓ja_aret, ↓ja_vret, ↓ja_zret0, ↓ja_zret1, ↓ja_sw, ↓ja_pe, ↓ja_pn, ↓ja_pz, ↓reduceIte, ite_self, Int.reduceEq, Int.reduceLT, Int.reduceLE, Int.reduceNeg, Int.reduceToNat, jm_wr_id, pb_none, pb_int, pb_ref, ↓rw_obj, w2, f1, f2, l1, ↓r0, ↓r3, ↓r4, ↓ra, ↓aa, ↓pp, if_true, if_false]
theorem l_bound (f : Int → Int) : ∀ k : Nat, ∃ v : Int, 320 ≤ v ∧ ∀ x : Int, 0 ≤ x → x < k → f x < v := by
  intro k
  induction k with
  | zero => exact ⟨320, by omega, fun x a b => by omega⟩
  | succ k ih =>
    obtain ⟨v, v1, v2⟩ := ih
    by_cases c : f k < v
    · refine ⟨v, v1, fun x a b => ?_⟩
      by_cases cx : x = k
      · rw [cx]; exact c
      · exact v2 x a (by omega)
    · refine ⟨f k + 1, by omega, fun x a b => ?_⟩
      by_cases cx : x = k
      · rw [cx]; omega
      · have := v2 x a (by omega)
        omega
def ly_alt (y : jLay) (v : Int) (a : Nat) : jLay := (y.1, fun r j => if r = 8 ∧ j = v then a else y.2 r j)
theorem la_old {y : jLay} {v : Int} {a r : Nat} {j : Int} (h : ¬ (r = 8 ∧ j = v)) : (ly_alt y v a).2 r j = y.2 r j := if_neg h
theorem la_on {y : jLay} {v : Int} {a r : Nat} {j : Int} (ho : pu_on y r j) (h : ¬ (r = 8 ∧ j = v)) : pu_on (ly_alt y v a) r j := by
  unfold pu_on
  rw [la_old h]
  exact ho
theorem lv.lt8 {τ : bS} {r : Nat} {i v : Int} (h : lv τ.1 r i) (hI : WI τ) (hv : 320 ≤ v) : ¬ (r = 8 ∧ i = v) := by
  rintro ⟨a, b⟩
  obtain ⟨t, j, w1, w2, w3, w4, w5, w6, w7, w8⟩ := h.s20 a hI
  omega
set_option maxHeartbeats 4000000 in
theorem k_step {y : jLay} {κ σ : aS} {g : jH} {n : Nat} {τ : bS} {B : Nat} {t d act a w : Int} (hn : 1000 ≤ n) (h : WW y κ τ) (hz : ZI τ) (hl : LA y τ.1 B g.2.1) (hB : B ≤ g.2.1) (hw : pm_WF y) (ok : p_stepok τ t d act a w) : ∃ y' κ' g', fX11_step n [.inr (some (y.2 9 0)), .inl t, .inl d, .inl act, .inl a, .inl w] (pu_H y κ σ g) = some (some (.inl (τ.1 3 t + 1)), pu_H y' κ' σ g') ∧ WW y' κ' (b_step τ t d act a w) ∧ LA y' (b_step τ t d act a w).1 B g'.2.1 ∧ pm_WF y' ∧ GR y y' ∧ g'.1 = g.1 ∧ g.2.1 ≤ g'.2.1 ∧ g'.2.1 ≤ g.2.1 + 5 ∧ g'.2.2 ≤ g.2.2 + 400 := by
  obtain ⟨hG, hy0, hq, hT⟩ := h
  have hC := hG.1
  have hI := hG.2.1
  have ok0 := ok
  obtain ⟨⟨t0, t1⟩, ⟨d0, d1⟩, o3, ⟨a0, a1⟩, a2, a3, ⟨w0, w1⟩⟩ := ok
  obtain ⟨m1, m5, m7, m17, mlog, m15, msp⟩ := hC.rows
  have k0 : κ 0 0 = τ.1 0 0 := m1 0 0 rfl
  have k1 : κ 1 0 = τ.1 1 0 := m1 1 0 rfl
  have k3 : κ 3 t = τ.1 3 t := m1 3 t rfl
  have h9 := hI.2.2.2.2.2.2.2.2
  have t16 : t < 16 := by omega
  have ht := hI.1 t t0 t16
  have ht2 := hG.2.2.2.2.1 t t0 t16
  have l0 : 0 ≤ κ 3 t := by omega
  have l20 : κ 3 t < 20 := by omega
  have e1 := k_actor_s (σ := σ) (g := g) (n := n) (by omega) hy0 t0 (by omega) t16
  have e2 := k_device_s (σ := σ) (g := g) (n := n) (by omega) hy0 d0 (by omega) (by omega)
  obtain ⟨iy, o9, o10, o11, o12, ya, yd, ys⟩ := hy0
  obtain ⟨p1, p2⟩ := ya t t0 (by omega)
  have l1 := hl.on p1 (by decide)
  have l2 := hl.on p2 (by decide)
  have n12 := on_ne p1 p2 (Or.inl (by decide))
  have qa : (pu_H y κ σ g).1 (y.2 1 t) = some (0, 7, pu_actor y.2 κ t) := pu_get p1 (by decide)
  have qs : (pu_H y κ σ g).1 (y.2 2 t) = some (25, 20, fn_2 y.2 κ t) := pu_get p2 (by decide)
  have f0 : ∀ b, (y.1 b).1 = 0 → (pu_H y κ σ g).1 b = g.1 b := fun b hb => if_pos hb
  have f1 : ∀ b, (y.1 b).1 ≠ 0 → (pu_H y κ σ g).1 b = some (pu_cell y.2 κ σ (y.1 b).1 (y.1 b).2) := fun b hb => if_neg hb
  obtain ⟨h1, eh1⟩ : ∃ z : jH, z = jm_new (pu_H y κ σ g) (9, 9, fun j => if j ∈ [0, 1] then .inr none else .inl 0) := ⟨_, rfl⟩
  have q1 : h1.1 g.2.1 = some (9, 9, fun j => if j ∈ [0, 1] then .inr none else .inl 0) := by rw [eh1]; exact nw_at (h := pu_H y κ σ g)
  have s1 : h1.2 = (g.2.1 + 1, g.2.2 + 9) := by rw [eh1]; rfl
  have u1 : ∀ b, b ≠ g.2.1 → h1.1 b = (pu_H y κ σ g).1 b := fun b hb => by rw [eh1]; exact nw_ne (h := pu_H y κ σ g) hb
  have nn : ∀ {kk : jK} {LL : List (Option jV)} {SS : List jV}, jk_new 9 9 [0, 1] kk LL SS (pu_H y κ σ g) = kk LL (.inr (some g.2.1) :: SS) h1 := fun {kk LL SS} => by rw [eh1]; exact rw_new
  obtain ⟨h2, c2, q2, u2, s2⟩ := k_init10 (n := n) (r1 := some (y.2 1 t)) (r2 := some (y.2 3 d)) (x1 := act) (x2 := a) (x3 := w) q1
  have qa2 : h2.1 (y.2 1 t) = some (0, 7, pu_actor y.2 κ t) := by rw [u2 _ (by omega), u1 _ (by omega)]; exact qa
  have qs2 : h2.1 (y.2 2 t) = some (25, 20, fn_2 y.2 κ t) := by rw [u2 _ (by omega), u1 _ (by omega)]; exact qs
  have c4 := k_learn (n := n) (l := κ 3 t) qa2 qs2 q2 rfl rfl rfl l0 l20 n12
  obtain ⟨h3, eh3⟩ : ∃ z : jH, z = jm_set h2 (y.2 2 t) (25, 20, fn_2 y.2 κ t) (κ 3 t).toNat (.inr (some g.2.1)) := ⟨_, rfl⟩
  rw [← eh3] at c4
  obtain ⟨h4, eh4⟩ : ∃ z : jH, z = jm_set h3 (y.2 1 t) (0, 7, pu_actor y.2 κ t) 2 (.inl (κ 3 t + 1)) := ⟨_, rfl⟩
  rw [← eh4] at c4
  have s4 : h4.2 = (g.2.1 + 1, g.2.2 + 9) := by rw [eh4, st_2, eh3, st_2, s2]; exact s1
  have qa4 : h4.1 (y.2 1 t) = some (0, 7, jm_upd (pu_actor y.2 κ t) 2 (.inl (κ 3 t + 1))) := by rw [eh4]; exact st_at
  have qs4 : h4.1 (y.2 2 t) = some (25, 20, jm_upd (fn_2 y.2 κ t) (κ 3 t).toNat (.inr (some g.2.1))) := by rw [eh4, st_ne n12.symm, eh3]; exact st_at
  have u4 : ∀ b, b ≠ y.2 1 t → b ≠ y.2 2 t → h4.1 b = h2.1 b := fun b b1 b2 => by rw [eh4, st_ne b1, eh3, st_ne b2]
  have vc : ∀ {kk : jK} {LL : List (Option jV)} {SS : List jV} {F : jF} {u : jV}, SS.length ≤ 8 → jk_vcall [(0, F)] 1 kk LL (u :: .inr (some (y.2 1 t)) :: SS) h2 = jm_back kk LL SS (F [.inr (some (y.2 1 t)), u] h2) := fun {kk LL SS F u} hS => rw_vc1 qa2 rfl hS
  have ev : fX11_step n [.inr (some (y.2 9 0)), .inl t, .inl d, .inl act, .inl a, .inl w] (pu_H y κ σ g) = some (some (.inl (κ 3 t + 1)), h4) := by
    have c1 : ¬ act < 0 := by omega
    have c2' : ¬ 9 < act := by omega
    have c3 : ¬ a < -1000000 := by omega
    have c5 : ¬ 1000000 < a := by omega
    have c6 : ¬ w < 0 := by omega
    have c7 : ¬ 1000 < w := by omega
    simp only [fX11_step, jm_run, List.length_cons, List.length_nil, Nat.reduceAdd, if_true, jm_init, List.map_cons, List.map_nil, Nat.reduceSub, List.replicate, List.cons_append, List.nil_append, kX11_step]
    simp (disch := first | omega | assumption | (simp only [List.length_cons, List.length_nil]; omega) | decide | (simp (disch := decide) only [pu_up_ne, pu_up_at]; first | omega | assumption)) only [↓ja_int, ↓ja_null, ↓ja_iload_0, ↓ja_aload_0, ↓ja_istore_0, ↓ja_astore_0, ↓ja_kill_0, ↓ja_iinc_0, ↓ja_iload_1, ↓ja_aload_1, ↓ja_istore_1, ↓ja_astore_1, ↓ja_kill_1, ↓ja_iinc_1, ↓ja_iload_2, ↓ja_aload_2, ↓ja_istore_2, ↓ja_astore_2, ↓ja_kill_2, ↓ja_iinc_2, ↓ja_iload_3, ↓ja_aload_3, ↓ja_istore_3, ↓ja_astore_3, ↓ja_kill_3, ↓ja_iinc_3, ↓ja_iload_4, ↓ja_aload_4, ↓ja_istore_4, ↓ja_astore_4, ↓ja_kill_4, ↓ja_iinc_4, ↓ja_iload_5, ↓ja_aload_5, ↓ja_istore_5, ↓ja_astore_5, ↓ja_kill_5, ↓ja_iinc_5, ↓ja_iload_6, ↓ja_aload_6, ↓ja_istore_6, ↓ja_astore_6, ↓ja_kill_6, ↓ja_iinc_6, ↓ja_iload_7, ↓ja_aload_7, ↓ja_istore_7, ↓ja_astore_7, ↓ja_kill_7, ↓ja_iinc_7, ↓ja_iload_8, ↓ja_aload_8, ↓ja_istore_8, ↓ja_astore_8, ↓ja_kill_8, ↓ja_iinc_8, ↓ja_iload_9, ↓ja_aload_9, ↓ja_istore_9, ↓ja_astore_9, ↓ja_kill_9, ↓ja_iinc_9, ↓ja_iload_10, ↓ja_aload_10, ↓ja_istore_10, ↓ja_astore_10, ↓ja_kill_10, ↓ja_iinc_10, ↓ja_iadd, ↓ja_isub, ↓ja_imul, ↓ja_dup, ↓ja_dup2, ↓ja_i2b, ↓ja_ifeq, ↓ja_ifne, ↓ja_iflt, ↓ja_ifge, ↓ja_ifgt, ↓ja_ifle, ↓ja_icmpeq, ↓ja_icmpne, ↓ja_icmplt, ↓ja_icmpge, ↓ja_icmpgt, ↓ja_icmple, ↓ja_ifnull_n, ↓ja_ifnull_s, ↓ja_ifnonnull_n, ↓ja_ifnonnull_s, ↓ja_iret, ↓ja_aret, ↓ja_vret, ↓ja_zret0, ↓ja_zret1, ↓ja_sw, ↓ja_pe, ↓ja_pn, ↓ja_pz, ↓reduceIte, ite_self, Int.reduceEq, Int.reduceLT, Int.reduceLE, Int.reduceNeg, Int.reduceToNat, jm_wr_id, pb_none, pb_int, pb_ref, ↓rw_obj, ca_g0, ca_g1, ca_g2, ca_g3, ca_g5, ca_g6, ca_g4n, ca_g4s, ca_p3, ca_p5, ca_p6, ca_p4n, ca_p4s, cs_g0, cs_g1, cs_g2, cs_g3, cs_g4, cs_g5, cs_g6, cs_g7, cs_g8, cs_p5, cs_p6, cs_p7, cs_p8, cd_g0, cd_g1, cd_g2, cd_g3, cd_g4, cd_g5, cd_g6, cd_g7, cd1_g0, cd1_g1, cd1_g2, cd1_g3, cd1_g4, cd1_g5, cd1_g6, cd1_g7, cd1_g8, cd1_g9, cd2_g0, cd2_g1, cd2_g2, cd2_g3, cd2_g4, cd2_g5, cd2_g6, cd2_g7, cd3_g0, cd3_g1, cd3_g2, cd3_g3, cd3_g4, cd3_g5, cd3_g6, cd3_g7, cd3_g8, cd3_g9, cd3_g10, cd4_g0, cd4_g1, cd4_g2, cd4_g3, cd4_g4, cd4_g5, cd4_g6, cd4_g7, cd4_g8, cd4_g9, cd4_g10, cd5_g0, cd5_g1, cd5_g2, cd5_g3, cd5_g4, cd5_g5, cd5_g6, cd5_g7, cd5_g8, cd5_g9, cd6_g0, cd6_g1, cd6_g2, cd6_g3, cd6_g4, cd6_g5, cd6_g6, cd6_g7, cd6_g8, cd7_g0, cd7_g1, cd7_g2, cd7_g3, cd7_g4, cd7_g5, cd7_g6, cd7_g7, cd7_g8, cd7_g9, cd7_g10, cd8_g0, cd8_g1, cd8_g2, cd8_g3, cd8_g4, cd8_g5, cd8_g6, cd8_g7, cd8_g9, cd8_g8a, cd8_g8b, cd_p2, cd_p3, cd_p5, cd_p7, cd1_p9, cd3_p10, cd4_p9, cd4_p10, cd5_p9, cd6_p8, cd7_p10, cd8_p9, cd8_p8a, cd8_p8b, ck_g0, ck_g1, ck_g2, ck_g3, ck_g4, ck_g5, ck_g6, ck_g7, ck_g8, ck_p5, ck_p6, ck_p7, ck_p8, cr2, cr4, cr5, cr10, cr11, cr12, cr6_5, cr6_6, cr6_9, cr6_11, cr7, cw5, cw6_5, cw6_6, cw6_9, cw6_11, cw7, cw12, cw4, cl2, cl4, cl5, cl12, cc_a0, cc_s0, cc_k0, cc_1_0, cc_2_0, cc_3_0, cc_4_0, cc_5_0, cc_6_0, cc_7_0, cc_8_0, cc_d0, cc_a1, cc_s1, cc_k1, cc_1_1, cc_2_1, cc_3_1, cc_4_1, cc_5_1, cc_6_1, cc_7_1, cc_8_1, cc_d1, cc_k2, cc_1_2, cc_2_2, cc_3_2, cc_4_2, cc_5_2, cc_6_2, cc_7_2, cc_8_2, cc_d2, cc_k3, cc_1_3, cc_2_3, cc_3_3, cc_4_3, cc_5_3, cc_6_3, cc_7_3, cc_8_3, cc_d3, cc_k4, cc_k5, pu_up_ne, pu_up_at, e1, e2, l20, c1, c2', c3, c5, c6, c7, ↓nn, ↓rw_ic5, c2, ↓vc, c4, if_true, if_false, ↓jk_fix_pos, kX11_step_b, kX11_step_0, kX11_step_34, kX11_step_60, kX11_step_75, Nat.reduceEqDiff]
  obtain ⟨v, v1, v2⟩ := l_bound (fun x => κ 22 x) 192
  have v2 : ∀ x : Int, 0 ≤ x → x < 192 → κ 22 x < v := v2
  obtain ⟨s, es⟩ : ∃ s, s = 20 * t + κ 3 t := ⟨_, rfl⟩
  obtain ⟨y1, ey⟩ : ∃ y1, y1 = ly_alt y v (y.2 8 s) := ⟨_, rfl⟩
  have yy : ∀ b, y1.1 b = y.1 b := fun b => by rw [ey]; rfl
  have yo : ∀ {r : Nat} {j : Int}, ¬ (r = 8 ∧ j = v) → y1.2 r j = y.2 r j := fun hh => by rw [ey]; exact la_old hh
  have yv : y1.2 8 v = y.2 8 s := by rw [ey]; exact if_pos ⟨rfl, rfl⟩
  have yn : ∀ {r : Nat} {j : Int}, pu_on y r j → ¬ (r = 8 ∧ j = v) → pu_on y1 r j := fun ho hh => by rw [ey]; exact la_on ho hh
  have hl1 : LA y1 τ.1 B g.2.1 := fun b hb => by rw [yy] at hb ⊢; exact hl b hb
  have iy1 : pu_inv y1 := fun b hb => by
    rw [yy] at hb ⊢
    rw [yo ((hl b hb).2.2.lt8 hI v1)]
    exact iy b hb
  have hno : ∀ b, (y1.1 b).1 ≠ 0 → ¬ (8 ≤ (y1.1 b).1 ∧ (y1.1 b).1 < 8 + 1 ∧ (y1.1 b).2 = s) := by
    intro b hb z
    obtain ⟨t', j, w1, w2, w3, w4, w5, w6, w7, w8⟩ := (hl1 b hb).2.2.s20 (by omega) hI
    have : t' = t := by omega
    subst this
    omega
  have iy' : pu_inv (ly_blk y1 g.2.1 8 1 s) := lb_inv iy1 hno
  have ad1 : ∀ {r : Nat} {j : Int}, r ≠ 8 → (ly_blk y1 g.2.1 8 1 s).2 r j = y.2 r j := fun hr => by rw [lb_old (by omega), yo (by omega)]
  have ad8 : ∀ {j : Int}, j ≠ s → j ≠ v → (ly_blk y1 g.2.1 8 1 s).2 8 j = y.2 8 j := fun h1 h2 => by rw [lb_old (by omega), yo (by omega)]
  have adv : (ly_blk y1 g.2.1 8 1 s).2 8 v = y.2 8 s := by rw [lb_old (by omega), yv]
  have ads : (ly_blk y1 g.2.1 8 1 s).2 8 s = g.2.1 := lb_new (by decide) (by decide)
  have kp : ∀ {r : Nat} {j : Int}, pu_on y r j → r ≠ 0 → pu_on (ly_blk y1 g.2.1 8 1 s) r j := fun {r j} ho hr => by
    have q := hl.on ho hr
    have n8 := q.2.2.lt8 hI v1
    refine lb_keep (yn ho n8) (fun z => ?_) (by rw [yo n8]; exact q.2.1)
    have ho1 := yn ho n8
    refine hno (y1.2 r j) ?_ ?_
    · have e : y1.1 (y1.2 r j) = (r, j) := ho1
      rw [e]
      exact hr
    · have e : y1.1 (y1.2 r j) = (r, j) := ho1
      rw [e]
      exact z
  obtain ⟨κ', ek⟩ : ∃ κ', κ' = c_step κ t d act a w v := ⟨_, rfl⟩
  have K : ∀ (c : Nat) (i : Int), c ≠ 10 ∧ c ≠ 11 ∧ c ≠ 12 ∧ c ≠ 13 ∧ c ≠ 14 ∧ c ≠ 3 → c ≠ 22 → κ' c i = κ c i := fun c i hc h22 => by
    rw [ek]
    unfold c_step
    rw [if_neg (fun z => h22 z.1), st0_e κ c i hc]
  have KN : ∀ (c : Nat) (i : Int), i ≠ s → c ≠ 3 → c ≠ 22 → κ' c i = κ c i := fun c i hi h3 h22 => by
    rw [ek]
    unfold c_step
    rw [if_neg (fun z => h22 z.1), st0_n κ c i (by omega) h3]
  have K3 : ∀ i, κ' 3 i = if i = t then κ 3 t + 1 else κ 3 i := fun i => by
    rw [ek]
    unfold c_step
    rw [if_neg (fun z => absurd z.1 (by decide)), st0_3]
  have K22 : ∀ i, κ' 22 i = if κ 22 i = s then v else κ 22 i := fun i => by
    rw [ek, es]
    unfold c_step
    by_cases c : κ 22 i = 20 * t + κ 3 t
    · rw [if_pos ⟨rfl, c⟩, if_pos c]
    · rw [if_neg (fun z => c z.2), if_neg c, st0_e κ 22 i (by decide)]
  obtain ⟨x10, x11, x12, x13, x14⟩ : κ' 10 s = d ∧ κ' 11 s = act ∧ κ' 12 s = a ∧ κ' 13 s = w ∧ κ' 14 s = 8 := by
    have q := st0_s (t := t) (d := d) (act := act) (a := a) (w := w) κ
    rw [ek, es]
    unfold c_step
    rw [if_neg (fun z => absurd z.1 (by decide)), if_neg (fun z => absurd z.1 (by decide)), if_neg (fun z => absurd z.1 (by decide)), if_neg (fun z => absurd z.1 (by decide)), if_neg (fun z => absurd z.1 (by decide))]
    exact q
  have z15 : κ' 15 s = 0 := by
    rw [K 15 s (by decide) (by decide)]
    exact ((m15 s).2 (fun x x0 x1 => (hI.1 x x0 x1).1)).1 ⟨t, κ 3 t, t0, t16, by omega, by omega, es⟩
  have zn := hz.1.2.2.2.2.2.2.2.1 t (κ 3 t) t0 (by omega) l0 l20
  rw [← es] at zn
  have z16 : κ' 16 s = 0 := by rw [K 16 s (by decide) (by decide), m1 16 s rfl]; exact zn.1
  have z17 : κ' 17 s = 0 := by rw [K 17 s (by decide) (by decide), ← m17 s]; exact zn.2
  have sd : s / 20 = t := by omega
  have hp : h4 = pu_H (ly_blk y1 g.2.1 8 1 s) κ' σ (g.1, h4.2) := by
    refine lb_heap (by decide) (fun b b1 b2 => ?_) (fun b b1 b2 => ?_) (fun b b1 b2 => ?_)
    · have cb : b = g.2.1 := by omega
      subst cb
      rw [u4 _ (by omega) (by omega), q2, show g.2.1 - g.2.1 + 8 = 8 by omega]
      show _ = some (9, 9, pu_step _ _ _)
      congr 3
      funext j
      simp only [jm_upd, pu_step, sd, x10, x11, x12, x13, x14, z15, z16, z17, ad1 (r := 1) (by decide), ad1 (r := 3) (by decide)]
      rcases (show j = 0 ∨ j = 1 ∨ j = 2 ∨ j = 3 ∨ j = 4 ∨ j = 5 ∨ j = 6 ∨ j = 7 ∨ j = 8 ∨ 9 ≤ j by omega) with rfl | rfl | rfl | rfl | rfl | rfl | rfl | rfl | rfl | hj
      · rfl
      · rfl
      · rfl
      · rfl
      · rfl
      · rfl
      · rfl
      · rfl
      · rfl
      · simp [show j ≠ 0 by omega, show j ≠ 1 by omega, show j ≠ 2 by omega, show j ≠ 3 by omega, show j ≠ 4 by omega, show j ≠ 5 by omega, show j ≠ 6 by omega, show j ≠ 7 by omega, show j ≠ 8 by omega]
    · rw [yy] at b2
      have n1 : b ≠ y.2 1 t := fun z => by
        have q : y.1 (y.2 1 t) = (1, t) := p1
        rw [z, q] at b2
        cases b2
      have n2 : b ≠ y.2 2 t := fun z => by
        have q : y.1 (y.2 2 t) = (2, t) := p2
        rw [z, q] at b2
        cases b2
      rw [u4 b n1 n2, u2 b (by omega), u1 b (by omega)]
      exact f0 b b2
    · rw [yy] at b2 ⊢
      by_cases n1 : b = y.2 1 t
      · rw [n1, qa4]
        have q : y.1 (y.2 1 t) = (1, t) := p1
        rw [q]
        show _ = some (0, 7, pu_actor _ _ _)
        congr 3
        funext j
        have k5 := K 5 t (by decide) (by decide)
        have k4 := K 4 t (by decide) (by decide)
        simp only [jm_upd, pu_actor, K3, if_true, k4, k5, K 6 t (by decide) (by decide), K 7 t (by decide) (by decide), ad1 (r := 2) (by decide)]
        by_cases cj : j = 2
        · subst cj
          rfl
        · simp only [if_neg cj]
          by_cases c5 : κ 5 t < 0
          · simp only [if_pos c5]
          · have q4 := hT.2.2.2.2.2.1.2 t t0 t1 (by rw [m5]; omega)
            rw [← m1 4 t rfl] at q4
            have q3 := ht2.1
            rw [← m1 4 t rfl, ← m1 3 t rfl] at q3
            rw [ad8 (by omega) (by omega)]
      · by_cases n2 : b = y.2 2 t
        · rw [n2, qs4]
          have q : y.1 (y.2 2 t) = (2, t) := p2
          rw [q]
          simp only [pu_cell, Nat.reduceEqDiff, if_false, if_true, K3]
          congr 3
          funext j
          simp only [jm_upd, fn_2]
          by_cases cj : j = (κ 3 t).toNat
          · have cj' : (j : Int) = κ 3 t := by omega
            rw [if_pos cj, if_pos (by omega), cj', ← es, ads]
          · rw [if_neg cj]
            by_cases cj2 : (j : Int) < κ 3 t
            · rw [if_pos cj2, if_pos (by omega), ad8 (by omega) (by omega)]
            · rw [if_neg cj2, if_neg (by omega)]
        · obtain ⟨g1, g2, g3⟩ := hl b b2
          rw [u4 b n1 n2, u2 b (by omega), u1 b (by omega), f1 b b2]
          have hib := iy b b2
          obtain ⟨r, er⟩ : ∃ r, r = (y.1 b).1 := ⟨_, rfl⟩
          obtain ⟨i, ei⟩ : ∃ i, i = (y.1 b).2 := ⟨_, rfl⟩
          rw [← er, ← ei] at g3 hib ⊢
          congr 1
          have x1 : r = 1 → i ≠ t := fun z1 z2 => by
            subst z1 z2
            exact n1 hib
          have x2 : r = 2 → i ≠ t := fun z1 z2 => by
            subst z1 z2
            exact n2 hib
          have y12 : r = 1 ∨ r = 2 → 0 ≤ i ∧ i < τ.1 0 0 := fun z => by
            unfold lv at g3
            rcases g3 with q | q | ⟨q, _⟩ | q | q <;> omega
          by_cases c4 : r = 4
          · subst c4
            have yi : 0 ≤ i ∧ i < τ.1 1 0 := by
              unfold lv at g3
              rcases g3 with q | q | ⟨q, _⟩ | q | q <;> omega
            simp only [pu_cell, Nat.reduceEqDiff, if_false, if_true]
            congr 2
            funext j
            by_cases cj : j < 16
            · rw [if_pos cj, if_pos cj, K22]
              have hv := v2 (16 * i + j) (by omega) (by omega)
              by_cases cs : κ 22 (16 * i + j) = s
              · rw [if_pos cs, if_neg (by omega), if_neg (by omega), cs, adv]
              · rw [if_neg cs]
                by_cases c0 : κ 22 (16 * i + j) < 0
                · rw [if_pos c0, if_pos c0]
                · rw [if_neg c0, if_neg c0, ad8 cs (by omega)]
            · rw [if_neg cj, if_neg cj]
          · have E1 : pu_cell (ly_blk y1 g.2.1 8 1 s).2 κ' σ r i = pu_cell y.2 κ' σ r i := by
              refine pc_ad (fun z => ⟨ad1 (by decide), fun z5 => ?_⟩) (fun z j zj => ?_) (fun z q q1 q2 => ?_) (fun z => absurd z c4) (fun z => ⟨ad1 (by decide), ad1 (by decide)⟩) (fun z => ⟨ad1 (by decide), ad1 (by decide), ad1 (by decide)⟩) (fun z j _ => ad1 (by decide)) (fun z j _ => ad1 (by decide)) (fun z k => ad1 (by decide))
              · have yi := y12 (Or.inl z)
                rw [K 5 i (by decide) (by decide)] at z5
                rw [K 4 i (by decide) (by decide)]
                have q4 := hT.2.2.2.2.2.1.2 i yi.1 yi.2 (by rw [m5]; omega)
                rw [← m1 4 i rfl] at q4
                have q5 := hI.1 i yi.1 (by omega)
                rw [← m1 4 i rfl] at q5
                have xi := x1 z
                exact ad8 (by omega) (by omega)
              · have yi := y12 (Or.inr z)
                have xi := x2 z
                rw [K3, if_neg xi] at zj
                have q5 := hI.1 i yi.1 (by omega)
                rw [← m1 3 i rfl] at q5
                exact ad8 (by omega) (by omega)
              · by_cases c8 : q = 8
                · omega
                · exact ad1 c8
            rw [E1]
            refine (pc_cong (fun cc j hu => ?_)).symm
            by_cases c3 : cc = 3
            · subst c3
              obtain ⟨z1, z2⟩ := pc_u3 hu
              rw [K3, if_neg ?_]
              rcases z1 with z1 | z1
              · have := x1 z1
                omega
              · have := x2 z1
                omega
            · by_cases c22 : cc = 22
              · subst c22
                exact absurd (pc_u22 hu).1 c4
              · by_cases cs : j = s
                · refine K cc j ⟨?_, ?_, ?_, ?_, ?_, c3⟩ c22
                  all_goals (intro z; subst z)
                  · have := pc_u10 hu
                    exact hno b (by rw [yy, ← er]; omega) (by rw [yy, ← er, ← ei]; omega)
                  · have := pc_u11 hu
                    exact hno b (by rw [yy, ← er]; omega) (by rw [yy, ← er, ← ei]; omega)
                  · have := pc_u12 hu
                    exact hno b (by rw [yy, ← er]; omega) (by rw [yy, ← er, ← ei]; omega)
                  · have := pc_u13 hu
                    exact hno b (by rw [yy, ← er]; omega) (by rw [yy, ← er, ← ei]; omega)
                  · have := pc_u14 hu
                    exact hno b (by rw [yy, ← er]; omega) (by rw [yy, ← er, ← ei]; omega)
                · exact KN cc j cs c3 c22
  have E : ∀ (c : Nat) (i : Int), c ≠ 10 ∧ c ≠ 11 ∧ c ≠ 12 ∧ c ≠ 13 ∧ c ≠ 14 ∧ c ≠ 3 → (b_step τ t d act a w).1 c i = τ.1 c i := fun c i hc => st0_e (t := t) (d := d) (act := act) (a := a) (w := w) τ.1 c i hc
  have E3 : ∀ i, (b_step τ t d act a w).1 3 i = if i = t then τ.1 3 t + 1 else τ.1 3 i := fun i => st0_3 (t := t) (d := d) (act := act) (a := a) (w := w) τ.1 i
  refine ⟨ly_blk y1 g.2.1 8 1 s, κ', (g.1, h4.2), ?_, ⟨by rw [ek]; exact hG.step ok0 v, ⟨iy', kp o9 (by decide), kp o10 (by decide), kp o11 (by decide), kp o12 (by decide), fun x xa xb => ?_, fun e ea eb => ?_, fun x i xa xb i0 i1 => ?_⟩, hq.more (fun cc i hc => K _ _ (by omega) (by omega)) (fun cc i hc => E _ _ (by omega)) (by rw [E 0 0 (by decide)]; exact Int.le_refl _), hT.step hI hG.2.2.2 ok0⟩, ?_, ⟨iy', kp hw.2.1 (by decide), fun c c3 c36 => kp (hw.2.2 c c3 c36) (by decide)⟩, ⟨ad1 (by decide), ad1 (by decide)⟩, rfl, ?_, ?_, ?_⟩
  · rw [← hp, ev, k3]
  · rw [K 0 0 (by decide) (by decide)] at xb
    obtain ⟨z1, z2⟩ := ya x xa xb
    exact ⟨kp z1 (by decide), kp z2 (by decide)⟩
  · rw [K 1 0 (by decide) (by decide)] at eb
    obtain ⟨z1, z2, z3, z4, z5, z6, z7⟩ := yd e ea eb
    refine ⟨kp z1 (by decide), kp z2 (by decide), kp z3 (by decide), ?_⟩
    unfold GK
    rw [K 18 e (by decide) (by decide)]
    exact ⟨z4, z5, fun z => kp (z6 z) (by decide), fun z => kp (z7 z) (by decide)⟩
  · rw [K 0 0 (by decide) (by decide)] at xb
    rw [K3] at i1
    by_cases cs : 20 * x + i = s
    · rw [cs]
      exact lb_on (by decide) (by decide)
    · refine kp (ys x i xa xb i0 ?_) (by decide)
      split at i1
      · rename_i cx
        subst cx
        omega
      · exact i1
  · have : h4.2.1 = g.2.1 + 1 := by rw [s4]
    show LA _ _ _ h4.2.1
    rw [this]
    refine hl1.blk hB (by rw [E 0 0 (by decide)]; exact Int.le_refl _) (by rw [E 1 0 (by decide)]; exact Int.le_refl _) (fun i => ?_) (fun r r1 r2 => ?_)
    · rw [E3]
      split
      · rename_i c
        subst c
        omega
      · exact Int.le_refl _
    · unfold lv
      refine Or.inr (Or.inr (Or.inl ⟨by omega, t, τ.1 3 t, t0, by rw [E 0 0 (by decide)]; exact t1, by omega, by rw [E3, if_pos rfl]; omega, by omega⟩))
  · show g.2.1 ≤ h4.2.1
    rw [s4]
    omega
  · show h4.2.1 ≤ g.2.1 + 5
    rw [s4]
    omega
  · show h4.2.2 ≤ g.2.2 + 400
    rw [s4]
    omega
set_option maxHeartbeats 4000000 in
theorem k_step_n {y : jLay} {κ σ : aS} {g : jH} {n : Nat} {τ : bS} {t d act a w : Int} (hn : 1000 ≤ n) (h : WW y κ τ) (no : ¬ p_stepok τ t d act a w) : fX11_step n [.inr (some (y.2 9 0)), .inl t, .inl d, .inl act, .inl a, .inl w] (pu_H y κ σ g) = some (some (.inl (-1)), pu_H y κ σ g) := by
  obtain ⟨hG, hy0, hq, hT⟩ := h
  have hC := hG.1
  have hI := hG.2.1
  have k0 : κ 0 0 = τ.1 0 0 := hC.1.1 0 0 rfl
  have k1 : κ 1 0 = τ.1 1 0 := hC.1.1 1 0 rfl
  have h9 := hI.2.2.2.2.2.2.2.2
  have hy := hy0
  obtain ⟨iy, o9, o10, o11, o12, ya, yd, ys⟩ := hy0
  by_cases tt : p_in t (τ.1 0 0)
  · have t16 : t < 16 := by have := tt.2; omega
    have e1 := k_actor_s (σ := σ) (g := g) (n := n) (by omega) hy tt.1 (by have := tt.2; omega) t16
    by_cases dd : p_in d (τ.1 1 0)
    · have e2 := k_device_s (σ := σ) (g := g) (n := n) (by omega) hy dd.1 (by have := dd.2; omega) (by have := dd.2; omega)
      obtain ⟨p1, p2⟩ := ya t tt.1 (by have := tt.2; omega)
      have ht := hI.1 t tt.1 t16
      have k3 : κ 3 t = τ.1 3 t := hC.1.1 3 t rfl
      by_cases c3 : τ.1 3 t = 20
      · have l20 : ¬ κ 3 t < 20 := by omega
        simp only [fX11_step, jm_run, List.length_cons, List.length_nil, Nat.reduceAdd, if_true, jm_init, List.map_cons, List.map_nil, Nat.reduceSub, List.replicate, List.cons_append, List.nil_append, kX11_step]
        simp (disch := first | omega | assumption | (simp only [List.length_cons, List.length_nil]; omega) | decide | (simp (disch := decide) only [pu_up_ne, pu_up_at]; first | omega | assumption)) only [↓ja_int, ↓ja_null, ↓ja_iload_0, ↓ja_aload_0, ↓ja_istore_0, ↓ja_astore_0, ↓ja_kill_0, ↓ja_iinc_0, ↓ja_iload_1, ↓ja_aload_1, ↓ja_istore_1, ↓ja_astore_1, ↓ja_kill_1, ↓ja_iinc_1, ↓ja_iload_2, ↓ja_aload_2, ↓ja_istore_2, ↓ja_astore_2, ↓ja_kill_2, ↓ja_iinc_2, ↓ja_iload_3, ↓ja_aload_3, ↓ja_istore_3, ↓ja_astore_3, ↓ja_kill_3, ↓ja_iinc_3, ↓ja_iload_4, ↓ja_aload_4, ↓ja_istore_4, ↓ja_astore_4, ↓ja_kill_4, ↓ja_iinc_4, ↓ja_iload_5, ↓ja_aload_5, ↓ja_istore_5, ↓ja_astore_5, ↓ja_kill_5, ↓ja_iinc_5, ↓ja_iload_6, ↓ja_aload_6, ↓ja_istore_6, ↓ja_astore_6, ↓ja_kill_6, ↓ja_iinc_6, ↓ja_iload_7, ↓ja_aload_7, ↓ja_istore_7, ↓ja_astore_7, ↓ja_kill_7, ↓ja_iinc_7, ↓ja_iload_8, ↓ja_aload_8, ↓ja_istore_8, ↓ja_astore_8, ↓ja_kill_8, ↓ja_iinc_8, ↓ja_iload_9, ↓ja_aload_9, ↓ja_istore_9, ↓ja_astore_9, ↓ja_kill_9, ↓ja_iinc_9, ↓ja_iload_10, ↓ja_aload_10, ↓ja_istore_10, ↓ja_astore_10, ↓ja_kill_10, ↓ja_iinc_10, ↓ja_iadd, ↓ja_isub, ↓ja_imul, ↓ja_dup, ↓ja_dup2, ↓ja_i2b, ↓ja_ifeq, ↓ja_ifne, ↓ja_iflt, ↓ja_ifge, ↓ja_ifgt, ↓ja_ifle, ↓ja_icmpeq, ↓ja_icmpne, ↓ja_icmplt, ↓ja_icmpge, ↓ja_icmpgt, ↓ja_icmple, ↓ja_ifnull_n, ↓ja_ifnull_s, ↓ja_ifnonnull_n, ↓ja_ifnonnull_s, ↓ja_iret, ↓ja_aret, ↓ja_vret, ↓ja_zret0, ↓ja_zret1, ↓ja_sw, ↓ja_pe, ↓ja_pn, ↓ja_pz, ↓reduceIte, ite_self, Int.reduceEq, Int.reduceLT, Int.reduceLE, Int.reduceNeg, ca_g0, ca_g1, ca_g2, ca_g3, ca_g5, ca_g6, ca_g4n, ca_g4s, ca_p3, ca_p5, ca_p6, ca_p4n, ca_p4s, cs_g0, cs_g1, cs_g2, cs_g3, cs_g4, cs_g5, cs_g6, cs_g7, cs_g8, cs_p5, cs_p6, cs_p7, cs_p8, cd_g0, cd_g1, cd_g2, cd_g3, cd_g4, cd_g5, cd_g6, cd_g7, cd1_g0, cd1_g1, cd1_g2, cd1_g3, cd1_g4, cd1_g5, cd1_g6, cd1_g7, cd1_g8, cd1_g9, cd2_g0, cd2_g1, cd2_g2, cd2_g3, cd2_g4, cd2_g5, cd2_g6, cd2_g7, cd3_g0, cd3_g1, cd3_g2, cd3_g3, cd3_g4, cd3_g5, cd3_g6, cd3_g7, cd3_g8, cd3_g9, cd3_g10, cd4_g0, cd4_g1, cd4_g2, cd4_g3, cd4_g4, cd4_g5, cd4_g6, cd4_g7, cd4_g8, cd4_g9, cd4_g10, cd5_g0, cd5_g1, cd5_g2, cd5_g3, cd5_g4, cd5_g5, cd5_g6, cd5_g7, cd5_g8, cd5_g9, cd6_g0, cd6_g1, cd6_g2, cd6_g3, cd6_g4, cd6_g5, cd6_g6, cd6_g7, cd6_g8, cd7_g0, cd7_g1, cd7_g2, cd7_g3, cd7_g4, cd7_g5, cd7_g6, cd7_g7, cd7_g8, cd7_g9, cd7_g10, cd8_g0, cd8_g1, cd8_g2, cd8_g3, cd8_g4, cd8_g5, cd8_g6, cd8_g7, cd8_g9, cd8_g8a, cd8_g8b, cd_p2, cd_p3, cd_p5, cd_p7, cd1_p9, cd3_p10, cd4_p9, cd4_p10, cd5_p9, cd6_p8, cd7_p10, cd8_p9, cd8_p8a, cd8_p8b, ck_g0, ck_g1, ck_g2, ck_g3, ck_g4, ck_g5, ck_g6, ck_g7, ck_g8, ck_p5, ck_p6, ck_p7, ck_p8, cr2, cr4, cr5, cr10, cr11, cr12, cr6_5, cr6_6, cr6_9, cr6_11, cr7, cw5, cw6_5, cw6_6, cw6_9, cw6_11, cw7, cw12, cw4, cl2, cl4, cl5, cl12, cc_a0, cc_s0, cc_k0, cc_1_0, cc_2_0, cc_3_0, cc_4_0, cc_5_0, cc_6_0, cc_7_0, cc_8_0, cc_d0, cc_a1, cc_s1, cc_k1, cc_1_1, cc_2_1, cc_3_1, cc_4_1, cc_5_1, cc_6_1, cc_7_1, cc_8_1, cc_d1, cc_k2, cc_1_2, cc_2_2, cc_3_2, cc_4_2, cc_5_2, cc_6_2, cc_7_2, cc_8_2, cc_d2, cc_k3, cc_1_3, cc_2_3, cc_3_3, cc_4_3, cc_5_3, cc_6_3, cc_7_3, cc_8_3, cc_d3, cc_k4, cc_k5, jm_wr_id, pb_none, pb_int, pb_ref, pu_up_ne, pu_up_at, e1, e2, l20, if_true, if_false, ↓jk_fix_pos, kX11_step_b, kX11_step_0, kX11_step_34, kX11_step_60, kX11_step_75, Nat.reduceEqDiff]
      · have l20 : κ 3 t < 20 := by omega
        by_cases a1 : act < 0
        ·
          simp only [fX11_step, jm_run, List.length_cons, List.length_nil, Nat.reduceAdd, if_true, jm_init, List.map_cons, List.map_nil, Nat.reduceSub, List.replicate, List.cons_append, List.nil_append, kX11_step]
          simp (disch := first | omega | assumption | (simp only [List.length_cons, List.length_nil]; omega) | decide | (simp (disch := decide) only [pu_up_ne, pu_up_at]; first | omega | assumption)) only [↓ja_int, ↓ja_null, ↓ja_iload_0, ↓ja_aload_0, ↓ja_istore_0, ↓ja_astore_0, ↓ja_kill_0, ↓ja_iinc_0, ↓ja_iload_1, ↓ja_aload_1, ↓ja_istore_1, ↓ja_astore_1, ↓ja_kill_1, ↓ja_iinc_1, ↓ja_iload_2, ↓ja_aload_2, ↓ja_istore_2, ↓ja_astore_2, ↓ja_kill_2, ↓ja_iinc_2, ↓ja_iload_3, ↓ja_aload_3, ↓ja_istore_3, ↓ja_astore_3, ↓ja_kill_3, ↓ja_iinc_3, ↓ja_iload_4, ↓ja_aload_4, ↓ja_istore_4, ↓ja_astore_4, ↓ja_kill_4, ↓ja_iinc_4, ↓ja_iload_5, ↓ja_aload_5, ↓ja_istore_5, ↓ja_astore_5, ↓ja_kill_5, ↓ja_iinc_5, ↓ja_iload_6, ↓ja_aload_6, ↓ja_istore_6, ↓ja_astore_6, ↓ja_kill_6, ↓ja_iinc_6, ↓ja_iload_7, ↓ja_aload_7, ↓ja_istore_7, ↓ja_astore_7, ↓ja_kill_7, ↓ja_iinc_7, ↓ja_iload_8, ↓ja_aload_8, ↓ja_istore_8, ↓ja_astore_8, ↓ja_kill_8, ↓ja_iinc_8, ↓ja_iload_9, ↓ja_aload_9, ↓ja_istore_9, ↓ja_astore_9, ↓ja_kill_9, ↓ja_iinc_9, ↓ja_iload_10, ↓ja_aload_10, ↓ja_istore_10, ↓ja_astore_10, ↓ja_kill_10, ↓ja_iinc_10, ↓ja_iadd, ↓ja_isub, ↓ja_imul, ↓ja_dup, ↓ja_dup2, ↓ja_i2b, ↓ja_ifeq, ↓ja_ifne, ↓ja_iflt, ↓ja_ifge, ↓ja_ifgt, ↓ja_ifle, ↓ja_icmpeq, ↓ja_icmpne, ↓ja_icmplt, ↓ja_icmpge, ↓ja_icmpgt, ↓ja_icmple, ↓ja_ifnull_n, ↓ja_ifnull_s, ↓ja_ifnonnull_n, ↓ja_ifnonnull_s, ↓ja_iret, ↓ja_aret, ↓ja_vret, ↓ja_zret0, ↓ja_zret1, ↓ja_sw, ↓ja_pe, ↓ja_pn, ↓ja_pz, ↓reduceIte, ite_self, Int.reduceEq, Int.reduceLT, Int.reduceLE, Int.reduceNeg, ca_g0, ca_g1, ca_g2, ca_g3, ca_g5, ca_g6, ca_g4n, ca_g4s, ca_p3, ca_p5, ca_p6, ca_p4n, ca_p4s, cs_g0, cs_g1, cs_g2, cs_g3, cs_g4, cs_g5, cs_g6, cs_g7, cs_g8, cs_p5, cs_p6, cs_p7, cs_p8, cd_g0, cd_g1, cd_g2, cd_g3, cd_g4, cd_g5, cd_g6, cd_g7, cd1_g0, cd1_g1, cd1_g2, cd1_g3, cd1_g4, cd1_g5, cd1_g6, cd1_g7, cd1_g8, cd1_g9, cd2_g0, cd2_g1, cd2_g2, cd2_g3, cd2_g4, cd2_g5, cd2_g6, cd2_g7, cd3_g0, cd3_g1, cd3_g2, cd3_g3, cd3_g4, cd3_g5, cd3_g6, cd3_g7, cd3_g8, cd3_g9, cd3_g10, cd4_g0, cd4_g1, cd4_g2, cd4_g3, cd4_g4, cd4_g5, cd4_g6, cd4_g7, cd4_g8, cd4_g9, cd4_g10, cd5_g0, cd5_g1, cd5_g2, cd5_g3, cd5_g4, cd5_g5, cd5_g6, cd5_g7, cd5_g8, cd5_g9, cd6_g0, cd6_g1, cd6_g2, cd6_g3, cd6_g4, cd6_g5, cd6_g6, cd6_g7, cd6_g8, cd7_g0, cd7_g1, cd7_g2, cd7_g3, cd7_g4, cd7_g5, cd7_g6, cd7_g7, cd7_g8, cd7_g9, cd7_g10, cd8_g0, cd8_g1, cd8_g2, cd8_g3, cd8_g4, cd8_g5, cd8_g6, cd8_g7, cd8_g9, cd8_g8a, cd8_g8b, cd_p2, cd_p3, cd_p5, cd_p7, cd1_p9, cd3_p10, cd4_p9, cd4_p10, cd5_p9, cd6_p8, cd7_p10, cd8_p9, cd8_p8a, cd8_p8b, ck_g0, ck_g1, ck_g2, ck_g3, ck_g4, ck_g5, ck_g6, ck_g7, ck_g8, ck_p5, ck_p6, ck_p7, ck_p8, cr2, cr4, cr5, cr10, cr11, cr12, cr6_5, cr6_6, cr6_9, cr6_11, cr7, cw5, cw6_5, cw6_6, cw6_9, cw6_11, cw7, cw12, cw4, cl2, cl4, cl5, cl12, cc_a0, cc_s0, cc_k0, cc_1_0, cc_2_0, cc_3_0, cc_4_0, cc_5_0, cc_6_0, cc_7_0, cc_8_0, cc_d0, cc_a1, cc_s1, cc_k1, cc_1_1, cc_2_1, cc_3_1, cc_4_1, cc_5_1, cc_6_1, cc_7_1, cc_8_1, cc_d1, cc_k2, cc_1_2, cc_2_2, cc_3_2, cc_4_2, cc_5_2, cc_6_2, cc_7_2, cc_8_2, cc_d2, cc_k3, cc_1_3, cc_2_3, cc_3_3, cc_4_3, cc_5_3, cc_6_3, cc_7_3, cc_8_3, cc_d3, cc_k4, cc_k5, jm_wr_id, pb_none, pb_int, pb_ref, pu_up_ne, pu_up_at, e1, e2, l20, a1, if_true, if_false, ↓jk_fix_pos, kX11_step_b, kX11_step_0, kX11_step_34, kX11_step_60, kX11_step_75, Nat.reduceEqDiff]
        · by_cases a2 : 9 < act
          ·
            simp only [fX11_step, jm_run, List.length_cons, List.length_nil, Nat.reduceAdd, if_true, jm_init, List.map_cons, List.map_nil, Nat.reduceSub, List.replicate, List.cons_append, List.nil_append, kX11_step]
            simp (disch := first | omega | assumption | (simp only [List.length_cons, List.length_nil]; omega) | decide | (simp (disch := decide) only [pu_up_ne, pu_up_at]; first | omega | assumption)) only [↓ja_int, ↓ja_null, ↓ja_iload_0, ↓ja_aload_0, ↓ja_istore_0, ↓ja_astore_0, ↓ja_kill_0, ↓ja_iinc_0, ↓ja_iload_1, ↓ja_aload_1, ↓ja_istore_1, ↓ja_astore_1, ↓ja_kill_1, ↓ja_iinc_1, ↓ja_iload_2, ↓ja_aload_2, ↓ja_istore_2, ↓ja_astore_2, ↓ja_kill_2, ↓ja_iinc_2, ↓ja_iload_3, ↓ja_aload_3, ↓ja_istore_3, ↓ja_astore_3, ↓ja_kill_3, ↓ja_iinc_3, ↓ja_iload_4, ↓ja_aload_4, ↓ja_istore_4, ↓ja_astore_4, ↓ja_kill_4, ↓ja_iinc_4, ↓ja_iload_5, ↓ja_aload_5, ↓ja_istore_5, ↓ja_astore_5, ↓ja_kill_5, ↓ja_iinc_5, ↓ja_iload_6, ↓ja_aload_6, ↓ja_istore_6, ↓ja_astore_6, ↓ja_kill_6, ↓ja_iinc_6, ↓ja_iload_7, ↓ja_aload_7, ↓ja_istore_7, ↓ja_astore_7, ↓ja_kill_7, ↓ja_iinc_7, ↓ja_iload_8, ↓ja_aload_8, ↓ja_istore_8, ↓ja_astore_8, ↓ja_kill_8, ↓ja_iinc_8, ↓ja_iload_9, ↓ja_aload_9, ↓ja_istore_9, ↓ja_astore_9, ↓ja_kill_9, ↓ja_iinc_9, ↓ja_iload_10, ↓ja_aload_10, ↓ja_istore_10, ↓ja_astore_10, ↓ja_kill_10, ↓ja_iinc_10, ↓ja_iadd, ↓ja_isub, ↓ja_imul, ↓ja_dup, ↓ja_dup2, ↓ja_i2b, ↓ja_ifeq, ↓ja_ifne, ↓ja_iflt, ↓ja_ifge, ↓ja_ifgt, ↓ja_ifle, ↓ja_icmpeq, ↓ja_icmpne, ↓ja_icmplt, ↓ja_icmpge, ↓ja_icmpgt, ↓ja_icmple, ↓ja_ifnull_n, ↓ja_ifnull_s, ↓ja_ifnonnull_n, ↓ja_ifnonnull_s, ↓ja_iret, ↓ja_aret, ↓ja_vret, ↓ja_zret0, ↓ja_zret1, ↓ja_sw, ↓ja_pe, ↓ja_pn, ↓ja_pz, ↓reduceIte, ite_self, Int.reduceEq, Int.reduceLT, Int.reduceLE, Int.reduceNeg, ca_g0, ca_g1, ca_g2, ca_g3, ca_g5, ca_g6, ca_g4n, ca_g4s, ca_p3, ca_p5, ca_p6, ca_p4n, ca_p4s, cs_g0, cs_g1, cs_g2, cs_g3, cs_g4, cs_g5, cs_g6, cs_g7, cs_g8, cs_p5, cs_p6, cs_p7, cs_p8, cd_g0, cd_g1, cd_g2, cd_g3, cd_g4, cd_g5, cd_g6, cd_g7, cd1_g0, cd1_g1, cd1_g2, cd1_g3, cd1_g4, cd1_g5, cd1_g6, cd1_g7, cd1_g8, cd1_g9, cd2_g0, cd2_g1, cd2_g2, cd2_g3, cd2_g4, cd2_g5, cd2_g6, cd2_g7, cd3_g0, cd3_g1, cd3_g2, cd3_g3, cd3_g4, cd3_g5, cd3_g6, cd3_g7, cd3_g8, cd3_g9, cd3_g10, cd4_g0, cd4_g1, cd4_g2, cd4_g3, cd4_g4, cd4_g5, cd4_g6, cd4_g7, cd4_g8, cd4_g9, cd4_g10, cd5_g0, cd5_g1, cd5_g2, cd5_g3, cd5_g4, cd5_g5, cd5_g6, cd5_g7, cd5_g8, cd5_g9, cd6_g0, cd6_g1, cd6_g2, cd6_g3, cd6_g4, cd6_g5, cd6_g6, cd6_g7, cd6_g8, cd7_g0, cd7_g1, cd7_g2, cd7_g3, cd7_g4, cd7_g5, cd7_g6, cd7_g7, cd7_g8, cd7_g9, cd7_g10, cd8_g0, cd8_g1, cd8_g2, cd8_g3, cd8_g4, cd8_g5, cd8_g6, cd8_g7, cd8_g9, cd8_g8a, cd8_g8b, cd_p2, cd_p3, cd_p5, cd_p7, cd1_p9, cd3_p10, cd4_p9, cd4_p10, cd5_p9, cd6_p8, cd7_p10, cd8_p9, cd8_p8a, cd8_p8b, ck_g0, ck_g1, ck_g2, ck_g3, ck_g4, ck_g5, ck_g6, ck_g7, ck_g8, ck_p5, ck_p6, ck_p7, ck_p8, cr2, cr4, cr5, cr10, cr11, cr12, cr6_5, cr6_6, cr6_9, cr6_11, cr7, cw5, cw6_5, cw6_6, cw6_9, cw6_11, cw7, cw12, cw4, cl2, cl4, cl5, cl12, cc_a0, cc_s0, cc_k0, cc_1_0, cc_2_0, cc_3_0, cc_4_0, cc_5_0, cc_6_0, cc_7_0, cc_8_0, cc_d0, cc_a1, cc_s1, cc_k1, cc_1_1, cc_2_1, cc_3_1, cc_4_1, cc_5_1, cc_6_1, cc_7_1, cc_8_1, cc_d1, cc_k2, cc_1_2, cc_2_2, cc_3_2, cc_4_2, cc_5_2, cc_6_2, cc_7_2, cc_8_2, cc_d2, cc_k3, cc_1_3, cc_2_3, cc_3_3, cc_4_3, cc_5_3, cc_6_3, cc_7_3, cc_8_3, cc_d3, cc_k4, cc_k5, jm_wr_id, pb_none, pb_int, pb_ref, pu_up_ne, pu_up_at, e1, e2, l20, a1, a2, if_true, if_false, ↓jk_fix_pos, kX11_step_b, kX11_step_0, kX11_step_34, kX11_step_60, kX11_step_75, Nat.reduceEqDiff]
          · by_cases a3 : a < -1000000
            ·
              simp only [fX11_step, jm_run, List.length_cons, List.length_nil, Nat.reduceAdd, if_true, jm_init, List.map_cons, List.map_nil, Nat.reduceSub, List.replicate, List.cons_append, List.nil_append, kX11_step]
              simp (disch := first | omega | assumption | (simp only [List.length_cons, List.length_nil]; omega) | decide | (simp (disch := decide) only [pu_up_ne, pu_up_at]; first | omega | assumption)) only [↓ja_int, ↓ja_null, ↓ja_iload_0, ↓ja_aload_0, ↓ja_istore_0, ↓ja_astore_0, ↓ja_kill_0, ↓ja_iinc_0, ↓ja_iload_1, ↓ja_aload_1, ↓ja_istore_1, ↓ja_astore_1, ↓ja_kill_1, ↓ja_iinc_1, ↓ja_iload_2, ↓ja_aload_2, ↓ja_istore_2, ↓ja_astore_2, ↓ja_kill_2, ↓ja_iinc_2, ↓ja_iload_3, ↓ja_aload_3, ↓ja_istore_3, ↓ja_astore_3, ↓ja_kill_3, ↓ja_iinc_3, ↓ja_iload_4, ↓ja_aload_4, ↓ja_istore_4, ↓ja_astore_4, ↓ja_kill_4, ↓ja_iinc_4, ↓ja_iload_5, ↓ja_aload_5, ↓ja_istore_5, ↓ja_astore_5, ↓ja_kill_5, ↓ja_iinc_5, ↓ja_iload_6, ↓ja_aload_6, ↓ja_istore_6, ↓ja_astore_6, ↓ja_kill_6, ↓ja_iinc_6, ↓ja_iload_7, ↓ja_aload_7, ↓ja_istore_7, ↓ja_astore_7, ↓ja_kill_7, ↓ja_iinc_7, ↓ja_iload_8, ↓ja_aload_8, ↓ja_istore_8, ↓ja_astore_8, ↓ja_kill_8, ↓ja_iinc_8, ↓ja_iload_9, ↓ja_aload_9, ↓ja_istore_9, ↓ja_astore_9, ↓ja_kill_9, ↓ja_iinc_9, ↓ja_iload_10, ↓ja_aload_10, ↓ja_istore_10, ↓ja_astore_10, ↓ja_kill_10, ↓ja_iinc_10, ↓ja_iadd, ↓ja_isub, ↓ja_imul, ↓ja_dup, ↓ja_dup2, ↓ja_i2b, ↓ja_ifeq, ↓ja_ifne, ↓ja_iflt, ↓ja_ifge, ↓ja_ifgt, ↓ja_ifle, ↓ja_icmpeq, ↓ja_icmpne, ↓ja_icmplt, ↓ja_icmpge, ↓ja_icmpgt, ↓ja_icmple, ↓ja_ifnull_n, ↓ja_ifnull_s, ↓ja_ifnonnull_n, ↓ja_ifnonnull_s, ↓ja_iret, ↓ja_aret, ↓ja_vret, ↓ja_zret0, ↓ja_zret1, ↓ja_sw, ↓ja_pe, ↓ja_pn, ↓ja_pz, ↓reduceIte, ite_self, Int.reduceEq, Int.reduceLT, Int.reduceLE, Int.reduceNeg, ca_g0, ca_g1, ca_g2, ca_g3, ca_g5, ca_g6, ca_g4n, ca_g4s, ca_p3, ca_p5, ca_p6, ca_p4n, ca_p4s, cs_g0, cs_g1, cs_g2, cs_g3, cs_g4, cs_g5, cs_g6, cs_g7, cs_g8, cs_p5, cs_p6, cs_p7, cs_p8, cd_g0, cd_g1, cd_g2, cd_g3, cd_g4, cd_g5, cd_g6, cd_g7, cd1_g0, cd1_g1, cd1_g2, cd1_g3, cd1_g4, cd1_g5, cd1_g6, cd1_g7, cd1_g8, cd1_g9, cd2_g0, cd2_g1, cd2_g2, cd2_g3, cd2_g4, cd2_g5, cd2_g6, cd2_g7, cd3_g0, cd3_g1, cd3_g2, cd3_g3, cd3_g4, cd3_g5, cd3_g6, cd3_g7, cd3_g8, cd3_g9, cd3_g10, cd4_g0, cd4_g1, cd4_g2, cd4_g3, cd4_g4, cd4_g5, cd4_g6, cd4_g7, cd4_g8, cd4_g9, cd4_g10, cd5_g0, cd5_g1, cd5_g2, cd5_g3, cd5_g4, cd5_g5, cd5_g6, cd5_g7, cd5_g8, cd5_g9, cd6_g0, cd6_g1, cd6_g2, cd6_g3, cd6_g4, cd6_g5, cd6_g6, cd6_g7, cd6_g8, cd7_g0, cd7_g1, cd7_g2, cd7_g3, cd7_g4, cd7_g5, cd7_g6, cd7_g7, cd7_g8, cd7_g9, cd7_g10, cd8_g0, cd8_g1, cd8_g2, cd8_g3, cd8_g4, cd8_g5, cd8_g6, cd8_g7, cd8_g9, cd8_g8a, cd8_g8b, cd_p2, cd_p3, cd_p5, cd_p7, cd1_p9, cd3_p10, cd4_p9, cd4_p10, cd5_p9, cd6_p8, cd7_p10, cd8_p9, cd8_p8a, cd8_p8b, ck_g0, ck_g1, ck_g2, ck_g3, ck_g4, ck_g5, ck_g6, ck_g7, ck_g8, ck_p5, ck_p6, ck_p7, ck_p8, cr2, cr4, cr5, cr10, cr11, cr12, cr6_5, cr6_6, cr6_9, cr6_11, cr7, cw5, cw6_5, cw6_6, cw6_9, cw6_11, cw7, cw12, cw4, cl2, cl4, cl5, cl12, cc_a0, cc_s0, cc_k0, cc_1_0, cc_2_0, cc_3_0, cc_4_0, cc_5_0, cc_6_0, cc_7_0, cc_8_0, cc_d0, cc_a1, cc_s1, cc_k1, cc_1_1, cc_2_1, cc_3_1, cc_4_1, cc_5_1, cc_6_1, cc_7_1, cc_8_1, cc_d1, cc_k2, cc_1_2, cc_2_2, cc_3_2, cc_4_2, cc_5_2, cc_6_2, cc_7_2, cc_8_2, cc_d2, cc_k3, cc_1_3, cc_2_3, cc_3_3, cc_4_3, cc_5_3, cc_6_3, cc_7_3, cc_8_3, cc_d3, cc_k4, cc_k5, jm_wr_id, pb_none, pb_int, pb_ref, pu_up_ne, pu_up_at, e1, e2, l20, a1, a2, a3, if_true, if_false, ↓jk_fix_pos, kX11_step_b, kX11_step_0, kX11_step_34, kX11_step_60, kX11_step_75, Nat.reduceEqDiff]
            · by_cases a4 : 1000000 < a
              ·
                simp only [fX11_step, jm_run, List.length_cons, List.length_nil, Nat.reduceAdd, if_true, jm_init, List.map_cons, List.map_nil, Nat.reduceSub, List.replicate, List.cons_append, List.nil_append, kX11_step]
                simp (disch := first | omega | assumption | (simp only [List.length_cons, List.length_nil]; omega) | decide | (simp (disch := decide) only [pu_up_ne, pu_up_at]; first | omega | assumption)) only [↓ja_int, ↓ja_null, ↓ja_iload_0, ↓ja_aload_0, ↓ja_istore_0, ↓ja_astore_0, ↓ja_kill_0, ↓ja_iinc_0, ↓ja_iload_1, ↓ja_aload_1, ↓ja_istore_1, ↓ja_astore_1, ↓ja_kill_1, ↓ja_iinc_1, ↓ja_iload_2, ↓ja_aload_2, ↓ja_istore_2, ↓ja_astore_2, ↓ja_kill_2, ↓ja_iinc_2, ↓ja_iload_3, ↓ja_aload_3, ↓ja_istore_3, ↓ja_astore_3, ↓ja_kill_3, ↓ja_iinc_3, ↓ja_iload_4, ↓ja_aload_4, ↓ja_istore_4, ↓ja_astore_4, ↓ja_kill_4, ↓ja_iinc_4, ↓ja_iload_5, ↓ja_aload_5, ↓ja_istore_5, ↓ja_astore_5, ↓ja_kill_5, ↓ja_iinc_5, ↓ja_iload_6, ↓ja_aload_6, ↓ja_istore_6, ↓ja_astore_6, ↓ja_kill_6, ↓ja_iinc_6, ↓ja_iload_7, ↓ja_aload_7, ↓ja_istore_7, ↓ja_astore_7, ↓ja_kill_7, ↓ja_iinc_7, ↓ja_iload_8, ↓ja_aload_8, ↓ja_istore_8, ↓ja_astore_8, ↓ja_kill_8, ↓ja_iinc_8, ↓ja_iload_9, ↓ja_aload_9, ↓ja_istore_9, ↓ja_astore_9, ↓ja_kill_9, ↓ja_iinc_9, ↓ja_iload_10, ↓ja_aload_10, ↓ja_istore_10, ↓ja_astore_10, ↓ja_kill_10, ↓ja_iinc_10, ↓ja_iadd, ↓ja_isub, ↓ja_imul, ↓ja_dup, ↓ja_dup2, ↓ja_i2b, ↓ja_ifeq, ↓ja_ifne, ↓ja_iflt, ↓ja_ifge, ↓ja_ifgt, ↓ja_ifle, ↓ja_icmpeq, ↓ja_icmpne, ↓ja_icmplt, ↓ja_icmpge, ↓ja_icmpgt, ↓ja_icmple, ↓ja_ifnull_n, ↓ja_ifnull_s, ↓ja_ifnonnull_n, ↓ja_ifnonnull_s, ↓ja_iret, ↓ja_aret, ↓ja_vret, ↓ja_zret0, ↓ja_zret1, ↓ja_sw, ↓ja_pe, ↓ja_pn, ↓ja_pz, ↓reduceIte, ite_self, Int.reduceEq, Int.reduceLT, Int.reduceLE, Int.reduceNeg, ca_g0, ca_g1, ca_g2, ca_g3, ca_g5, ca_g6, ca_g4n, ca_g4s, ca_p3, ca_p5, ca_p6, ca_p4n, ca_p4s, cs_g0, cs_g1, cs_g2, cs_g3, cs_g4, cs_g5, cs_g6, cs_g7, cs_g8, cs_p5, cs_p6, cs_p7, cs_p8, cd_g0, cd_g1, cd_g2, cd_g3, cd_g4, cd_g5, cd_g6, cd_g7, cd1_g0, cd1_g1, cd1_g2, cd1_g3, cd1_g4, cd1_g5, cd1_g6, cd1_g7, cd1_g8, cd1_g9, cd2_g0, cd2_g1, cd2_g2, cd2_g3, cd2_g4, cd2_g5, cd2_g6, cd2_g7, cd3_g0, cd3_g1, cd3_g2, cd3_g3, cd3_g4, cd3_g5, cd3_g6, cd3_g7, cd3_g8, cd3_g9, cd3_g10, cd4_g0, cd4_g1, cd4_g2, cd4_g3, cd4_g4, cd4_g5, cd4_g6, cd4_g7, cd4_g8, cd4_g9, cd4_g10, cd5_g0, cd5_g1, cd5_g2, cd5_g3, cd5_g4, cd5_g5, cd5_g6, cd5_g7, cd5_g8, cd5_g9, cd6_g0, cd6_g1, cd6_g2, cd6_g3, cd6_g4, cd6_g5, cd6_g6, cd6_g7, cd6_g8, cd7_g0, cd7_g1, cd7_g2, cd7_g3, cd7_g4, cd7_g5, cd7_g6, cd7_g7, cd7_g8, cd7_g9, cd7_g10, cd8_g0, cd8_g1, cd8_g2, cd8_g3, cd8_g4, cd8_g5, cd8_g6, cd8_g7, cd8_g9, cd8_g8a, cd8_g8b, cd_p2, cd_p3, cd_p5, cd_p7, cd1_p9, cd3_p10, cd4_p9, cd4_p10, cd5_p9, cd6_p8, cd7_p10, cd8_p9, cd8_p8a, cd8_p8b, ck_g0, ck_g1, ck_g2, ck_g3, ck_g4, ck_g5, ck_g6, ck_g7, ck_g8, ck_p5, ck_p6, ck_p7, ck_p8, cr2, cr4, cr5, cr10, cr11, cr12, cr6_5, cr6_6, cr6_9, cr6_11, cr7, cw5, cw6_5, cw6_6, cw6_9, cw6_11, cw7, cw12, cw4, cl2, cl4, cl5, cl12, cc_a0, cc_s0, cc_k0, cc_1_0, cc_2_0, cc_3_0, cc_4_0, cc_5_0, cc_6_0, cc_7_0, cc_8_0, cc_d0, cc_a1, cc_s1, cc_k1, cc_1_1, cc_2_1, cc_3_1, cc_4_1, cc_5_1, cc_6_1, cc_7_1, cc_8_1, cc_d1, cc_k2, cc_1_2, cc_2_2, cc_3_2, cc_4_2, cc_5_2, cc_6_2, cc_7_2, cc_8_2, cc_d2, cc_k3, cc_1_3, cc_2_3, cc_3_3, cc_4_3, cc_5_3, cc_6_3, cc_7_3, cc_8_3, cc_d3, cc_k4, cc_k5, jm_wr_id, pb_none, pb_int, pb_ref, pu_up_ne, pu_up_at, e1, e2, l20, a1, a2, a3, a4, if_true, if_false, ↓jk_fix_pos, kX11_step_b, kX11_step_0, kX11_step_34, kX11_step_60, kX11_step_75, Nat.reduceEqDiff]
              · by_cases a5 : w < 0
                ·
                  simp only [fX11_step, jm_run, List.length_cons, List.length_nil, Nat.reduceAdd, if_true, jm_init, List.map_cons, List.map_nil, Nat.reduceSub, List.replicate, List.cons_append, List.nil_append, kX11_step]
                  simp (disch := first | omega | assumption | (simp only [List.length_cons, List.length_nil]; omega) | decide | (simp (disch := decide) only [pu_up_ne, pu_up_at]; first | omega | assumption)) only [↓ja_int, ↓ja_null, ↓ja_iload_0, ↓ja_aload_0, ↓ja_istore_0, ↓ja_astore_0, ↓ja_kill_0, ↓ja_iinc_0, ↓ja_iload_1, ↓ja_aload_1, ↓ja_istore_1, ↓ja_astore_1, ↓ja_kill_1, ↓ja_iinc_1, ↓ja_iload_2, ↓ja_aload_2, ↓ja_istore_2, ↓ja_astore_2, ↓ja_kill_2, ↓ja_iinc_2, ↓ja_iload_3, ↓ja_aload_3, ↓ja_istore_3, ↓ja_astore_3, ↓ja_kill_3, ↓ja_iinc_3, ↓ja_iload_4, ↓ja_aload_4, ↓ja_istore_4, ↓ja_astore_4, ↓ja_kill_4, ↓ja_iinc_4, ↓ja_iload_5, ↓ja_aload_5, ↓ja_istore_5, ↓ja_astore_5, ↓ja_kill_5, ↓ja_iinc_5, ↓ja_iload_6, ↓ja_aload_6, ↓ja_istore_6, ↓ja_astore_6, ↓ja_kill_6, ↓ja_iinc_6, ↓ja_iload_7, ↓ja_aload_7, ↓ja_istore_7, ↓ja_astore_7, ↓ja_kill_7, ↓ja_iinc_7, ↓ja_iload_8, ↓ja_aload_8, ↓ja_istore_8, ↓ja_astore_8, ↓ja_kill_8, ↓ja_iinc_8, ↓ja_iload_9, ↓ja_aload_9, ↓ja_istore_9, ↓ja_astore_9, ↓ja_kill_9, ↓ja_iinc_9, ↓ja_iload_10, ↓ja_aload_10, ↓ja_istore_10, ↓ja_astore_10, ↓ja_kill_10, ↓ja_iinc_10, ↓ja_iadd, ↓ja_isub, ↓ja_imul, ↓ja_dup, ↓ja_dup2, ↓ja_i2b, ↓ja_ifeq, ↓ja_ifne, ↓ja_iflt, ↓ja_ifge, ↓ja_ifgt, ↓ja_ifle, ↓ja_icmpeq, ↓ja_icmpne, ↓ja_icmplt, ↓ja_icmpge, ↓ja_icmpgt, ↓ja_icmple, ↓ja_ifnull_n, ↓ja_ifnull_s, ↓ja_ifnonnull_n, ↓ja_ifnonnull_s, ↓ja_iret, ↓ja_aret, ↓ja_vret, ↓ja_zret0, ↓ja_zret1, ↓ja_sw, ↓ja_pe, ↓ja_pn, ↓ja_pz, ↓reduceIte, ite_self, Int.reduceEq, Int.reduceLT, Int.reduceLE, Int.reduceNeg, ca_g0, ca_g1, ca_g2, ca_g3, ca_g5, ca_g6, ca_g4n, ca_g4s, ca_p3, ca_p5, ca_p6, ca_p4n, ca_p4s, cs_g0, cs_g1, cs_g2, cs_g3, cs_g4, cs_g5, cs_g6, cs_g7, cs_g8, cs_p5, cs_p6, cs_p7, cs_p8, cd_g0, cd_g1, cd_g2, cd_g3, cd_g4, cd_g5, cd_g6, cd_g7, cd1_g0, cd1_g1, cd1_g2, cd1_g3, cd1_g4, cd1_g5, cd1_g6, cd1_g7, cd1_g8, cd1_g9, cd2_g0, cd2_g1, cd2_g2, cd2_g3, cd2_g4, cd2_g5, cd2_g6, cd2_g7, cd3_g0, cd3_g1, cd3_g2, cd3_g3, cd3_g4, cd3_g5, cd3_g6, cd3_g7, cd3_g8, cd3_g9, cd3_g10, cd4_g0, cd4_g1, cd4_g2, cd4_g3, cd4_g4, cd4_g5, cd4_g6, cd4_g7, cd4_g8, cd4_g9, cd4_g10, cd5_g0, cd5_g1, cd5_g2, cd5_g3, cd5_g4, cd5_g5, cd5_g6, cd5_g7, cd5_g8, cd5_g9, cd6_g0, cd6_g1, cd6_g2, cd6_g3, cd6_g4, cd6_g5, cd6_g6, cd6_g7, cd6_g8, cd7_g0, cd7_g1, cd7_g2, cd7_g3, cd7_g4, cd7_g5, cd7_g6, cd7_g7, cd7_g8, cd7_g9, cd7_g10, cd8_g0, cd8_g1, cd8_g2, cd8_g3, cd8_g4, cd8_g5, cd8_g6, cd8_g7, cd8_g9, cd8_g8a, cd8_g8b, cd_p2, cd_p3, cd_p5, cd_p7, cd1_p9, cd3_p10, cd4_p9, cd4_p10, cd5_p9, cd6_p8, cd7_p10, cd8_p9, cd8_p8a, cd8_p8b, ck_g0, ck_g1, ck_g2, ck_g3, ck_g4, ck_g5, ck_g6, ck_g7, ck_g8, ck_p5, ck_p6, ck_p7, ck_p8, cr2, cr4, cr5, cr10, cr11, cr12, cr6_5, cr6_6, cr6_9, cr6_11, cr7, cw5, cw6_5, cw6_6, cw6_9, cw6_11, cw7, cw12, cw4, cl2, cl4, cl5, cl12, cc_a0, cc_s0, cc_k0, cc_1_0, cc_2_0, cc_3_0, cc_4_0, cc_5_0, cc_6_0, cc_7_0, cc_8_0, cc_d0, cc_a1, cc_s1, cc_k1, cc_1_1, cc_2_1, cc_3_1, cc_4_1, cc_5_1, cc_6_1, cc_7_1, cc_8_1, cc_d1, cc_k2, cc_1_2, cc_2_2, cc_3_2, cc_4_2, cc_5_2, cc_6_2, cc_7_2, cc_8_2, cc_d2, cc_k3, cc_1_3, cc_2_3, cc_3_3, cc_4_3, cc_5_3, cc_6_3, cc_7_3, cc_8_3, cc_d3, cc_k4, cc_k5, jm_wr_id, pb_none, pb_int, pb_ref, pu_up_ne, pu_up_at, e1, e2, l20, a1, a2, a3, a4, a5, if_true, if_false, ↓jk_fix_pos, kX11_step_b, kX11_step_0, kX11_step_34, kX11_step_60, kX11_step_75, Nat.reduceEqDiff]
                · by_cases a6 : 1000 < w
                  ·
                    simp only [fX11_step, jm_run, List.length_cons, List.length_nil, Nat.reduceAdd, if_true, jm_init, List.map_cons, List.map_nil, Nat.reduceSub, List.replicate, List.cons_append, List.nil_append, kX11_step]
                    simp (disch := first | omega | assumption | (simp only [List.length_cons, List.length_nil]; omega) | decide | (simp (disch := decide) only [pu_up_ne, pu_up_at]; first | omega | assumption)) only [↓ja_int, ↓ja_null, ↓ja_iload_0, ↓ja_aload_0, ↓ja_istore_0, ↓ja_astore_0, ↓ja_kill_0, ↓ja_iinc_0, ↓ja_iload_1, ↓ja_aload_1, ↓ja_istore_1, ↓ja_astore_1, ↓ja_kill_1, ↓ja_iinc_1, ↓ja_iload_2, ↓ja_aload_2, ↓ja_istore_2, ↓ja_astore_2, ↓ja_kill_2, ↓ja_iinc_2, ↓ja_iload_3, ↓ja_aload_3, ↓ja_istore_3, ↓ja_astore_3, ↓ja_kill_3, ↓ja_iinc_3, ↓ja_iload_4, ↓ja_aload_4, ↓ja_istore_4, ↓ja_astore_4, ↓ja_kill_4, ↓ja_iinc_4, ↓ja_iload_5, ↓ja_aload_5, ↓ja_istore_5, ↓ja_astore_5, ↓ja_kill_5, ↓ja_iinc_5, ↓ja_iload_6, ↓ja_aload_6, ↓ja_istore_6, ↓ja_astore_6, ↓ja_kill_6, ↓ja_iinc_6, ↓ja_iload_7, ↓ja_aload_7, ↓ja_istore_7, ↓ja_astore_7, ↓ja_kill_7, ↓ja_iinc_7, ↓ja_iload_8, ↓ja_aload_8, ↓ja_istore_8, ↓ja_astore_8, ↓ja_kill_8, ↓ja_iinc_8, ↓ja_iload_9, ↓ja_aload_9, ↓ja_istore_9, ↓ja_astore_9, ↓ja_kill_9, ↓ja_iinc_9, ↓ja_iload_10, ↓ja_aload_10, ↓ja_istore_10, ↓ja_astore_10, ↓ja_kill_10, ↓ja_iinc_10, ↓ja_iadd, ↓ja_isub, ↓ja_imul, ↓ja_dup, ↓ja_dup2, ↓ja_i2b, ↓ja_ifeq, ↓ja_ifne, ↓ja_iflt, ↓ja_ifge, ↓ja_ifgt, ↓ja_ifle, ↓ja_icmpeq, ↓ja_icmpne, ↓ja_icmplt, ↓ja_icmpge, ↓ja_icmpgt, ↓ja_icmple, ↓ja_ifnull_n, ↓ja_ifnull_s, ↓ja_ifnonnull_n, ↓ja_ifnonnull_s, ↓ja_iret, ↓ja_aret, ↓ja_vret, ↓ja_zret0, ↓ja_zret1, ↓ja_sw, ↓ja_pe, ↓ja_pn, ↓ja_pz, ↓reduceIte, ite_self, Int.reduceEq, Int.reduceLT, Int.reduceLE, Int.reduceNeg, ca_g0, ca_g1, ca_g2, ca_g3, ca_g5, ca_g6, ca_g4n, ca_g4s, ca_p3, ca_p5, ca_p6, ca_p4n, ca_p4s, cs_g0, cs_g1, cs_g2, cs_g3, cs_g4, cs_g5, cs_g6, cs_g7, cs_g8, cs_p5, cs_p6, cs_p7, cs_p8, cd_g0, cd_g1, cd_g2, cd_g3, cd_g4, cd_g5, cd_g6, cd_g7, cd1_g0, cd1_g1, cd1_g2, cd1_g3, cd1_g4, cd1_g5, cd1_g6, cd1_g7, cd1_g8, cd1_g9, cd2_g0, cd2_g1, cd2_g2, cd2_g3, cd2_g4, cd2_g5, cd2_g6, cd2_g7, cd3_g0, cd3_g1, cd3_g2, cd3_g3, cd3_g4, cd3_g5, cd3_g6, cd3_g7, cd3_g8, cd3_g9, cd3_g10, cd4_g0, cd4_g1, cd4_g2, cd4_g3, cd4_g4, cd4_g5, cd4_g6, cd4_g7, cd4_g8, cd4_g9, cd4_g10, cd5_g0, cd5_g1, cd5_g2, cd5_g3, cd5_g4, cd5_g5, cd5_g6, cd5_g7, cd5_g8, cd5_g9, cd6_g0, cd6_g1, cd6_g2, cd6_g3, cd6_g4, cd6_g5, cd6_g6, cd6_g7, cd6_g8, cd7_g0, cd7_g1, cd7_g2, cd7_g3, cd7_g4, cd7_g5, cd7_g6, cd7_g7, cd7_g8, cd7_g9, cd7_g10, cd8_g0, cd8_g1, cd8_g2, cd8_g3, cd8_g4, cd8_g5, cd8_g6, cd8_g7, cd8_g9, cd8_g8a, cd8_g8b, cd_p2, cd_p3, cd_p5, cd_p7, cd1_p9, cd3_p10, cd4_p9, cd4_p10, cd5_p9, cd6_p8, cd7_p10, cd8_p9, cd8_p8a, cd8_p8b, ck_g0, ck_g1, ck_g2, ck_g3, ck_g4, ck_g5, ck_g6, ck_g7, ck_g8, ck_p5, ck_p6, ck_p7, ck_p8, cr2, cr4, cr5, cr10, cr11, cr12, cr6_5, cr6_6, cr6_9, cr6_11, cr7, cw5, cw6_5, cw6_6, cw6_9, cw6_11, cw7, cw12, cw4, cl2, cl4, cl5, cl12, cc_a0, cc_s0, cc_k0, cc_1_0, cc_2_0, cc_3_0, cc_4_0, cc_5_0, cc_6_0, cc_7_0, cc_8_0, cc_d0, cc_a1, cc_s1, cc_k1, cc_1_1, cc_2_1, cc_3_1, cc_4_1, cc_5_1, cc_6_1, cc_7_1, cc_8_1, cc_d1, cc_k2, cc_1_2, cc_2_2, cc_3_2, cc_4_2, cc_5_2, cc_6_2, cc_7_2, cc_8_2, cc_d2, cc_k3, cc_1_3, cc_2_3, cc_3_3, cc_4_3, cc_5_3, cc_6_3, cc_7_3, cc_8_3, cc_d3, cc_k4, cc_k5, jm_wr_id, pb_none, pb_int, pb_ref, pu_up_ne, pu_up_at, e1, e2, l20, a1, a2, a3, a4, a5, a6, if_true, if_false, ↓jk_fix_pos, kX11_step_b, kX11_step_0, kX11_step_34, kX11_step_60, kX11_step_75, Nat.reduceEqDiff]
                  · exact absurd ⟨tt, dd, c3, ⟨by omega, by omega⟩, by omega, by omega, ⟨by omega, by omega⟩⟩ no
    · have e2 := k_device_n (κ := κ) (σ := σ) (g := g) (n := n) (d := d) (by omega) hy (by rw [k1]; by_cases c : d < 0; exact Or.inl c; exact Or.inr (by by_cases c2 : d < τ.1 1 0; exact absurd ⟨by omega, c2⟩ dd; omega))
      simp only [fX11_step, jm_run, List.length_cons, List.length_nil, Nat.reduceAdd, if_true, jm_init, List.map_cons, List.map_nil, Nat.reduceSub, List.replicate, List.cons_append, List.nil_append, kX11_step]
      simp (disch := first | omega | assumption | (simp only [List.length_cons, List.length_nil]; omega) | decide | (simp (disch := decide) only [pu_up_ne, pu_up_at]; first | omega | assumption)) only [↓ja_int, ↓ja_null, ↓ja_iload_0, ↓ja_aload_0, ↓ja_istore_0, ↓ja_astore_0, ↓ja_kill_0, ↓ja_iinc_0, ↓ja_iload_1, ↓ja_aload_1, ↓ja_istore_1, ↓ja_astore_1, ↓ja_kill_1, ↓ja_iinc_1, ↓ja_iload_2, ↓ja_aload_2, ↓ja_istore_2, ↓ja_astore_2, ↓ja_kill_2, ↓ja_iinc_2, ↓ja_iload_3, ↓ja_aload_3, ↓ja_istore_3, ↓ja_astore_3, ↓ja_kill_3, ↓ja_iinc_3, ↓ja_iload_4, ↓ja_aload_4, ↓ja_istore_4, ↓ja_astore_4, ↓ja_kill_4, ↓ja_iinc_4, ↓ja_iload_5, ↓ja_aload_5, ↓ja_istore_5, ↓ja_astore_5, ↓ja_kill_5, ↓ja_iinc_5, ↓ja_iload_6, ↓ja_aload_6, ↓ja_istore_6, ↓ja_astore_6, ↓ja_kill_6, ↓ja_iinc_6, ↓ja_iload_7, ↓ja_aload_7, ↓ja_istore_7, ↓ja_astore_7, ↓ja_kill_7, ↓ja_iinc_7, ↓ja_iload_8, ↓ja_aload_8, ↓ja_istore_8, ↓ja_astore_8, ↓ja_kill_8, ↓ja_iinc_8, ↓ja_iload_9, ↓ja_aload_9, ↓ja_istore_9, ↓ja_astore_9, ↓ja_kill_9, ↓ja_iinc_9, ↓ja_iload_10, ↓ja_aload_10, ↓ja_istore_10, ↓ja_astore_10, ↓ja_kill_10, ↓ja_iinc_10, ↓ja_iadd, ↓ja_isub, ↓ja_imul, ↓ja_dup, ↓ja_dup2, ↓ja_i2b, ↓ja_ifeq, ↓ja_ifne, ↓ja_iflt, ↓ja_ifge, ↓ja_ifgt, ↓ja_ifle, ↓ja_icmpeq, ↓ja_icmpne, ↓ja_icmplt, ↓ja_icmpge, ↓ja_icmpgt, ↓ja_icmple, ↓ja_ifnull_n, ↓ja_ifnull_s, ↓ja_ifnonnull_n, ↓ja_ifnonnull_s, ↓ja_iret, ↓ja_aret, ↓ja_vret, ↓ja_zret0, ↓ja_zret1, ↓ja_sw, ↓ja_pe, ↓ja_pn, ↓ja_pz, ↓reduceIte, ite_self, Int.reduceEq, Int.reduceLT, Int.reduceLE, Int.reduceNeg, ca_g0, ca_g1, ca_g2, ca_g3, ca_g5, ca_g6, ca_g4n, ca_g4s, ca_p3, ca_p5, ca_p6, ca_p4n, ca_p4s, cs_g0, cs_g1, cs_g2, cs_g3, cs_g4, cs_g5, cs_g6, cs_g7, cs_g8, cs_p5, cs_p6, cs_p7, cs_p8, cd_g0, cd_g1, cd_g2, cd_g3, cd_g4, cd_g5, cd_g6, cd_g7, cd1_g0, cd1_g1, cd1_g2, cd1_g3, cd1_g4, cd1_g5, cd1_g6, cd1_g7, cd1_g8, cd1_g9, cd2_g0, cd2_g1, cd2_g2, cd2_g3, cd2_g4, cd2_g5, cd2_g6, cd2_g7, cd3_g0, cd3_g1, cd3_g2, cd3_g3, cd3_g4, cd3_g5, cd3_g6, cd3_g7, cd3_g8, cd3_g9, cd3_g10, cd4_g0, cd4_g1, cd4_g2, cd4_g3, cd4_g4, cd4_g5, cd4_g6, cd4_g7, cd4_g8, cd4_g9, cd4_g10, cd5_g0, cd5_g1, cd5_g2, cd5_g3, cd5_g4, cd5_g5, cd5_g6, cd5_g7, cd5_g8, cd5_g9, cd6_g0, cd6_g1, cd6_g2, cd6_g3, cd6_g4, cd6_g5, cd6_g6, cd6_g7, cd6_g8, cd7_g0, cd7_g1, cd7_g2, cd7_g3, cd7_g4, cd7_g5, cd7_g6, cd7_g7, cd7_g8, cd7_g9, cd7_g10, cd8_g0, cd8_g1, cd8_g2, cd8_g3, cd8_g4, cd8_g5, cd8_g6, cd8_g7, cd8_g9, cd8_g8a, cd8_g8b, cd_p2, cd_p3, cd_p5, cd_p7, cd1_p9, cd3_p10, cd4_p9, cd4_p10, cd5_p9, cd6_p8, cd7_p10, cd8_p9, cd8_p8a, cd8_p8b, ck_g0, ck_g1, ck_g2, ck_g3, ck_g4, ck_g5, ck_g6, ck_g7, ck_g8, ck_p5, ck_p6, ck_p7, ck_p8, cr2, cr4, cr5, cr10, cr11, cr12, cr6_5, cr6_6, cr6_9, cr6_11, cr7, cw5, cw6_5, cw6_6, cw6_9, cw6_11, cw7, cw12, cw4, cl2, cl4, cl5, cl12, cc_a0, cc_s0, cc_k0, cc_1_0, cc_2_0, cc_3_0, cc_4_0, cc_5_0, cc_6_0, cc_7_0, cc_8_0, cc_d0, cc_a1, cc_s1, cc_k1, cc_1_1, cc_2_1, cc_3_1, cc_4_1, cc_5_1, cc_6_1, cc_7_1, cc_8_1, cc_d1, cc_k2, cc_1_2, cc_2_2, cc_3_2, cc_4_2, cc_5_2, cc_6_2, cc_7_2, cc_8_2, cc_d2, cc_k3, cc_1_3, cc_2_3, cc_3_3, cc_4_3, cc_5_3, cc_6_3, cc_7_3, cc_8_3, cc_d3, cc_k4, cc_k5, jm_wr_id, pb_none, pb_int, pb_ref, pu_up_ne, pu_up_at, e1, e2, if_true, if_false, ↓jk_fix_pos, kX11_step_b, kX11_step_0, kX11_step_34, kX11_step_60, kX11_step_75, Nat.reduceEqDiff]
  · have e1 := k_actor_n (κ := κ) (σ := σ) (g := g) (n := n) (t := t) (by omega) hy (by rw [k0]; by_cases c : t < 0; exact Or.inl c; exact Or.inr (by by_cases c2 : t < τ.1 0 0; exact absurd ⟨by omega, c2⟩ tt; omega))
    by_cases dd : p_in d (τ.1 1 0)
    · have e2 := k_device_s (σ := σ) (g := g) (n := n) (by omega) hy dd.1 (by have := dd.2; omega) (by have := dd.2; omega)
      simp only [fX11_step, jm_run, List.length_cons, List.length_nil, Nat.reduceAdd, if_true, jm_init, List.map_cons, List.map_nil, Nat.reduceSub, List.replicate, List.cons_append, List.nil_append, kX11_step]
      simp (disch := first | omega | assumption | (simp only [List.length_cons, List.length_nil]; omega) | decide | (simp (disch := decide) only [pu_up_ne, pu_up_at]; first | omega | assumption)) only [↓ja_int, ↓ja_null, ↓ja_iload_0, ↓ja_aload_0, ↓ja_istore_0, ↓ja_astore_0, ↓ja_kill_0, ↓ja_iinc_0, ↓ja_iload_1, ↓ja_aload_1, ↓ja_istore_1, ↓ja_astore_1, ↓ja_kill_1, ↓ja_iinc_1, ↓ja_iload_2, ↓ja_aload_2, ↓ja_istore_2, ↓ja_astore_2, ↓ja_kill_2, ↓ja_iinc_2, ↓ja_iload_3, ↓ja_aload_3, ↓ja_istore_3, ↓ja_astore_3, ↓ja_kill_3, ↓ja_iinc_3, ↓ja_iload_4, ↓ja_aload_4, ↓ja_istore_4, ↓ja_astore_4, ↓ja_kill_4, ↓ja_iinc_4, ↓ja_iload_5, ↓ja_aload_5, ↓ja_istore_5, ↓ja_astore_5, ↓ja_kill_5, ↓ja_iinc_5, ↓ja_iload_6, ↓ja_aload_6, ↓ja_istore_6, ↓ja_astore_6, ↓ja_kill_6, ↓ja_iinc_6, ↓ja_iload_7, ↓ja_aload_7, ↓ja_istore_7, ↓ja_astore_7, ↓ja_kill_7, ↓ja_iinc_7, ↓ja_iload_8, ↓ja_aload_8, ↓ja_istore_8, ↓ja_astore_8, ↓ja_kill_8, ↓ja_iinc_8, ↓ja_iload_9, ↓ja_aload_9, ↓ja_istore_9, ↓ja_astore_9, ↓ja_kill_9, ↓ja_iinc_9, ↓ja_iload_10, ↓ja_aload_10, ↓ja_istore_10, ↓ja_astore_10, ↓ja_kill_10, ↓ja_iinc_10, ↓ja_iadd, ↓ja_isub, ↓ja_imul, ↓ja_dup, ↓ja_dup2, ↓ja_i2b, ↓ja_ifeq, ↓ja_ifne, ↓ja_iflt, ↓ja_ifge, ↓ja_ifgt, ↓ja_ifle, ↓ja_icmpeq, ↓ja_icmpne, ↓ja_icmplt, ↓ja_icmpge, ↓ja_icmpgt, ↓ja_icmple, ↓ja_ifnull_n, ↓ja_ifnull_s, ↓ja_ifnonnull_n, ↓ja_ifnonnull_s, ↓ja_iret, ↓ja_aret, ↓ja_vret, ↓ja_zret0, ↓ja_zret1, ↓ja_sw, ↓ja_pe, ↓ja_pn, ↓ja_pz, ↓reduceIte, ite_self, Int.reduceEq, Int.reduceLT, Int.reduceLE, Int.reduceNeg, ca_g0, ca_g1, ca_g2, ca_g3, ca_g5, ca_g6, ca_g4n, ca_g4s, ca_p3, ca_p5, ca_p6, ca_p4n, ca_p4s, cs_g0, cs_g1, cs_g2, cs_g3, cs_g4, cs_g5, cs_g6, cs_g7, cs_g8, cs_p5, cs_p6, cs_p7, cs_p8, cd_g0, cd_g1, cd_g2, cd_g3, cd_g4, cd_g5, cd_g6, cd_g7, cd1_g0, cd1_g1, cd1_g2, cd1_g3, cd1_g4, cd1_g5, cd1_g6, cd1_g7, cd1_g8, cd1_g9, cd2_g0, cd2_g1, cd2_g2, cd2_g3, cd2_g4, cd2_g5, cd2_g6, cd2_g7, cd3_g0, cd3_g1, cd3_g2, cd3_g3, cd3_g4, cd3_g5, cd3_g6, cd3_g7, cd3_g8, cd3_g9, cd3_g10, cd4_g0, cd4_g1, cd4_g2, cd4_g3, cd4_g4, cd4_g5, cd4_g6, cd4_g7, cd4_g8, cd4_g9, cd4_g10, cd5_g0, cd5_g1, cd5_g2, cd5_g3, cd5_g4, cd5_g5, cd5_g6, cd5_g7, cd5_g8, cd5_g9, cd6_g0, cd6_g1, cd6_g2, cd6_g3, cd6_g4, cd6_g5, cd6_g6, cd6_g7, cd6_g8, cd7_g0, cd7_g1, cd7_g2, cd7_g3, cd7_g4, cd7_g5, cd7_g6, cd7_g7, cd7_g8, cd7_g9, cd7_g10, cd8_g0, cd8_g1, cd8_g2, cd8_g3, cd8_g4, cd8_g5, cd8_g6, cd8_g7, cd8_g9, cd8_g8a, cd8_g8b, cd_p2, cd_p3, cd_p5, cd_p7, cd1_p9, cd3_p10, cd4_p9, cd4_p10, cd5_p9, cd6_p8, cd7_p10, cd8_p9, cd8_p8a, cd8_p8b, ck_g0, ck_g1, ck_g2, ck_g3, ck_g4, ck_g5, ck_g6, ck_g7, ck_g8, ck_p5, ck_p6, ck_p7, ck_p8, cr2, cr4, cr5, cr10, cr11, cr12, cr6_5, cr6_6, cr6_9, cr6_11, cr7, cw5, cw6_5, cw6_6, cw6_9, cw6_11, cw7, cw12, cw4, cl2, cl4, cl5, cl12, cc_a0, cc_s0, cc_k0, cc_1_0, cc_2_0, cc_3_0, cc_4_0, cc_5_0, cc_6_0, cc_7_0, cc_8_0, cc_d0, cc_a1, cc_s1, cc_k1, cc_1_1, cc_2_1, cc_3_1, cc_4_1, cc_5_1, cc_6_1, cc_7_1, cc_8_1, cc_d1, cc_k2, cc_1_2, cc_2_2, cc_3_2, cc_4_2, cc_5_2, cc_6_2, cc_7_2, cc_8_2, cc_d2, cc_k3, cc_1_3, cc_2_3, cc_3_3, cc_4_3, cc_5_3, cc_6_3, cc_7_3, cc_8_3, cc_d3, cc_k4, cc_k5, jm_wr_id, pb_none, pb_int, pb_ref, pu_up_ne, pu_up_at, e1, e2, if_true, if_false, ↓jk_fix_pos, kX11_step_b, kX11_step_0, kX11_step_34, kX11_step_60, kX11_step_75, Nat.reduceEqDiff]
    · have e2 := k_device_n (κ := κ) (σ := σ) (g := g) (n := n) (d := d) (by omega) hy (by rw [k1]; by_cases c : d < 0; exact Or.inl c; exact Or.inr (by by_cases c2 : d < τ.1 1 0; exact absurd ⟨by omega, c2⟩ dd; omega))
      simp only [fX11_step, jm_run, List.length_cons, List.length_nil, Nat.reduceAdd, if_true, jm_init, List.map_cons, List.map_nil, Nat.reduceSub, List.replicate, List.cons_append, List.nil_append, kX11_step]
      simp (disch := first | omega | assumption | (simp only [List.length_cons, List.length_nil]; omega) | decide | (simp (disch := decide) only [pu_up_ne, pu_up_at]; first | omega | assumption)) only [↓ja_int, ↓ja_null, ↓ja_iload_0, ↓ja_aload_0, ↓ja_istore_0, ↓ja_astore_0, ↓ja_kill_0, ↓ja_iinc_0, ↓ja_iload_1, ↓ja_aload_1, ↓ja_istore_1, ↓ja_astore_1, ↓ja_kill_1, ↓ja_iinc_1, ↓ja_iload_2, ↓ja_aload_2, ↓ja_istore_2, ↓ja_astore_2, ↓ja_kill_2, ↓ja_iinc_2, ↓ja_iload_3, ↓ja_aload_3, ↓ja_istore_3, ↓ja_astore_3, ↓ja_kill_3, ↓ja_iinc_3, ↓ja_iload_4, ↓ja_aload_4, ↓ja_istore_4, ↓ja_astore_4, ↓ja_kill_4, ↓ja_iinc_4, ↓ja_iload_5, ↓ja_aload_5, ↓ja_istore_5, ↓ja_astore_5, ↓ja_kill_5, ↓ja_iinc_5, ↓ja_iload_6, ↓ja_aload_6, ↓ja_istore_6, ↓ja_astore_6, ↓ja_kill_6, ↓ja_iinc_6, ↓ja_iload_7, ↓ja_aload_7, ↓ja_istore_7, ↓ja_astore_7, ↓ja_kill_7, ↓ja_iinc_7, ↓ja_iload_8, ↓ja_aload_8, ↓ja_istore_8, ↓ja_astore_8, ↓ja_kill_8, ↓ja_iinc_8, ↓ja_iload_9, ↓ja_aload_9, ↓ja_istore_9, ↓ja_astore_9, ↓ja_kill_9, ↓ja_iinc_9, ↓ja_iload_10, ↓ja_aload_10, ↓ja_istore_10, ↓ja_astore_10, ↓ja_kill_10, ↓ja_iinc_10, ↓ja_iadd, ↓ja_isub, ↓ja_imul, ↓ja_dup, ↓ja_dup2, ↓ja_i2b, ↓ja_ifeq, ↓ja_ifne, ↓ja_iflt, ↓ja_ifge, ↓ja_ifgt, ↓ja_ifle, ↓ja_icmpeq, ↓ja_icmpne, ↓ja_icmplt, ↓ja_icmpge, ↓ja_icmpgt, ↓ja_icmple, ↓ja_ifnull_n, ↓ja_ifnull_s, ↓ja_ifnonnull_n, ↓ja_ifnonnull_s, ↓ja_iret, ↓ja_aret, ↓ja_vret, ↓ja_zret0, ↓ja_zret1, ↓ja_sw, ↓ja_pe, ↓ja_pn, ↓ja_pz, ↓reduceIte, ite_self, Int.reduceEq, Int.reduceLT, Int.reduceLE, Int.reduceNeg, ca_g0, ca_g1, ca_g2, ca_g3, ca_g5, ca_g6, ca_g4n, ca_g4s, ca_p3, ca_p5, ca_p6, ca_p4n, ca_p4s, cs_g0, cs_g1, cs_g2, cs_g3, cs_g4, cs_g5, cs_g6, cs_g7, cs_g8, cs_p5, cs_p6, cs_p7, cs_p8, cd_g0, cd_g1, cd_g2, cd_g3, cd_g4, cd_g5, cd_g6, cd_g7, cd1_g0, cd1_g1, cd1_g2, cd1_g3, cd1_g4, cd1_g5, cd1_g6, cd1_g7, cd1_g8, cd1_g9, cd2_g0, cd2_g1, cd2_g2, cd2_g3, cd2_g4, cd2_g5, cd2_g6, cd2_g7, cd3_g0, cd3_g1, cd3_g2, cd3_g3, cd3_g4, cd3_g5, cd3_g6, cd3_g7, cd3_g8, cd3_g9, cd3_g10, cd4_g0, cd4_g1, cd4_g2, cd4_g3, cd4_g4, cd4_g5, cd4_g6, cd4_g7, cd4_g8, cd4_g9, cd4_g10, cd5_g0, cd5_g1, cd5_g2, cd5_g3, cd5_g4, cd5_g5, cd5_g6, cd5_g7, cd5_g8, cd5_g9, cd6_g0, cd6_g1, cd6_g2, cd6_g3, cd6_g4, cd6_g5, cd6_g6, cd6_g7, cd6_g8, cd7_g0, cd7_g1, cd7_g2, cd7_g3, cd7_g4, cd7_g5, cd7_g6, cd7_g7, cd7_g8, cd7_g9, cd7_g10, cd8_g0, cd8_g1, cd8_g2, cd8_g3, cd8_g4, cd8_g5, cd8_g6, cd8_g7, cd8_g9, cd8_g8a, cd8_g8b, cd_p2, cd_p3, cd_p5, cd_p7, cd1_p9, cd3_p10, cd4_p9, cd4_p10, cd5_p9, cd6_p8, cd7_p10, cd8_p9, cd8_p8a, cd8_p8b, ck_g0, ck_g1, ck_g2, ck_g3, ck_g4, ck_g5, ck_g6, ck_g7, ck_g8, ck_p5, ck_p6, ck_p7, ck_p8, cr2, cr4, cr5, cr10, cr11, cr12, cr6_5, cr6_6, cr6_9, cr6_11, cr7, cw5, cw6_5, cw6_6, cw6_9, cw6_11, cw7, cw12, cw4, cl2, cl4, cl5, cl12, cc_a0, cc_s0, cc_k0, cc_1_0, cc_2_0, cc_3_0, cc_4_0, cc_5_0, cc_6_0, cc_7_0, cc_8_0, cc_d0, cc_a1, cc_s1, cc_k1, cc_1_1, cc_2_1, cc_3_1, cc_4_1, cc_5_1, cc_6_1, cc_7_1, cc_8_1, cc_d1, cc_k2, cc_1_2, cc_2_2, cc_3_2, cc_4_2, cc_5_2, cc_6_2, cc_7_2, cc_8_2, cc_d2, cc_k3, cc_1_3, cc_2_3, cc_3_3, cc_4_3, cc_5_3, cc_6_3, cc_7_3, cc_8_3, cc_d3, cc_k4, cc_k5, jm_wr_id, pb_none, pb_int, pb_ref, pu_up_ne, pu_up_at, e1, e2, if_true, if_false, ↓jk_fix_pos, kX11_step_b, kX11_step_0, kX11_step_34, kX11_step_60, kX11_step_75, Nat.reduceEqDiff]
