set_option maxHeartbeats 4000000 in
theorem pure_law : jp_Goal := by
  intro h0 b L aL aM xs S
  obtain ⟨n, hn⟩ : ∃ n : Nat, 20000 ≤ n := ⟨20000, Nat.le_refl _⟩
  obtain ⟨N, eN⟩ : ∃ N, N = h0.2.1 := ⟨_, rfl⟩
  obtain ⟨h1, e1⟩ : ∃ z : jH, z = jm_new h0 (10, 9, fun j => if j ∈ [0, 2, 4] then .inr none else .inl 0) := ⟨_, rfl⟩
  have q1 : h1.1 N = some (10, 9, fun j => if j ∈ [0, 2, 4] then .inr none else .inl 0) := by rw [e1, eN]; exact nw_at
  have s1 : h1.2 = (N + 1, h0.2.2 + 9) := by rw [e1, nw_2, eN]
  have s11 : h1.2.1 = N + 1 := by rw [s1]
  have s12 : h1.2.2 = h0.2.2 + 9 := by rw [s1]
  have u1 : ∀ b, b ≠ N → h1.1 b = h0.1 b := fun b hb => by rw [e1]; exact nw_ne (by rw [← eN]; exact hb)
  have n1 : ∀ {kk : jK} {LL : List (Option jV)} {SS : List jV}, jk_new 10 9 [0, 2, 4] kk LL SS h0 = kk LL (.inr (some N) :: SS) h1 := fun {kk LL SS} => by rw [e1, eN]; exact rw_new
  obtain ⟨h2, c2, q2, g1, g2, g3, u2, s2⟩ := k_init11 (n := n) q1 (by omega)
  rw [s11] at q2 g1 g2 g3 u2 s2
  rw [s12] at s2
  have s21 : h2.2.1 = N + 4 := by rw [s2]
  have s22 : h2.2.2 = h0.2.2 + 9 + 228 := by rw [s2]
  obtain ⟨h3, e3⟩ : ∃ z : jH, z = jm_new h2 (11, 39, fun j => if j ∈ [3, 4, 5, 6, 7, 8, 9, 10, 11, 12, 13, 14, 15, 16, 17, 18, 19, 20, 21, 22, 23, 24, 25, 26, 27, 28, 29, 30, 31, 32, 33, 34, 35, 36] then .inr none else .inl 0) := ⟨_, rfl⟩
  have q3 : h3.1 (N + 4) = some (11, 39, fun j => if j ∈ [3, 4, 5, 6, 7, 8, 9, 10, 11, 12, 13, 14, 15, 16, 17, 18, 19, 20, 21, 22, 23, 24, 25, 26, 27, 28, 29, 30, 31, 32, 33, 34, 35, 36] then .inr none else .inl 0) := by rw [e3, ← s21]; exact nw_at
  have s31 : h3.2.1 = N + 5 := by rw [e3, nw_2, s21]
  have s32 : h3.2.2 = h0.2.2 + 9 + 228 + 39 := by rw [e3, nw_2, s22]
  have u3 : ∀ b, b ≠ N + 4 → h3.1 b = h2.1 b := fun b hb => by rw [e3]; exact nw_ne (by rw [s21]; exact hb)
  have n3 : ∀ {kk : jK} {LL : List (Option jV)} {SS : List jV}, jk_new 11 39 [3, 4, 5, 6, 7, 8, 9, 10, 11, 12, 13, 14, 15, 16, 17, 18, 19, 20, 21, 22, 23, 24, 25, 26, 27, 28, 29, 30, 31, 32, 33, 34, 35, 36] kk LL SS h2 = kk LL (.inr (some (N + 4)) :: SS) h3 := fun {kk LL SS} => by rw [e3, ← s21]; exact rw_new
  obtain ⟨h4, c4, m1, m2, m3, m4, m5⟩ := R_init (n := n) q3 (show N + 4 < N + 5 by omega) s31
  rw [s32] at m5
  have s41 : h4.2.1 = N + 39 := by rw [m2]; omega
  have s42 : h4.2.2 ≤ h0.2.2 + 140000 := Nat.le_trans m5 (by omega)
  have A9 : (ly_0 N).2 9 0 = N := l0_a (by decide)
  have A10 : (ly_0 N).2 10 0 = N + 1 := l0_a (by decide)
  have A11 : (ly_0 N).2 11 0 = N + 2 := l0_a (by decide)
  have A12 : (ly_0 N).2 12 0 = N + 3 := l0_a (by decide)
  have A13 : (ly_0 N).2 13 0 = N + 4 := l0_a (by decide)
  have z' : ∀ (c : Nat) (i : Int), a_0 c i = 0 := fun _ _ => rfl
  have hp : h4 = pu_H (ly_0 N) a_0 a_0 (h0.1, h4.2) := by
    show (h4.1, h4.2) = (_, h4.2)
    congr 1
    funext b
    show h4.1 b = if ((ly_0 N).1 b).1 = 0 then h0.1 b else some (pu_cell (ly_0 N).2 a_0 a_0 ((ly_0 N).1 b).1 ((ly_0 N).1 b).2)
    by_cases b0 : b = N
    · subst b0
      rw [l0_1 (by omega) (by omega), show b - b + 9 = 9 by omega, if_neg (show (9 : Nat) ≠ 0 by decide), m4 _ (by omega) (by omega), u3 _ (by omega), q2]
      show _ = some (10, 9, pu_kit _ _)
      congr 3
      funext j
      simp only [jm_upd, pu_kit, z', A10, A11, A12]
      rcases (show j = 0 ∨ j = 1 ∨ j = 2 ∨ j = 3 ∨ j = 4 ∨ j = 5 ∨ j = 6 ∨ j = 7 ∨ j = 8 ∨ 9 ≤ j by omega) with rfl | rfl | rfl | rfl | rfl | rfl | rfl | rfl | rfl | hj
      · rfl
      · rfl
      · rfl
      · rfl
      · rfl
      · rfl
      · rfl
      · rfl
      · rfl
      · simp [show j ≠ 0 by omega, show j ≠ 1 by omega, show j ≠ 2 by omega, show j ≠ 3 by omega, show j ≠ 4 by omega, show j ≠ 5 by omega, show j ≠ 6 by omega, show j ≠ 7 by omega, show j ≠ 8 by omega]
    by_cases b1 : b = N + 1
    · rw [l0_1 (by omega) (by omega), show b - N + 9 = 10 by omega, if_neg (show (10 : Nat) ≠ 0 by decide), m4 _ (by omega) (by omega), u3 _ (by omega), b1, g1]
      show _ = some (23, 16, fn_10 _ _)
      congr 3
    by_cases b2 : b = N + 2
    · rw [l0_1 (by omega) (by omega), show b - N + 9 = 11 by omega, if_neg (show (11 : Nat) ≠ 0 by decide), m4 _ (by omega) (by omega), u3 _ (by omega), b2, show N + 2 = N + 1 + 1 by rfl, g2]
      show _ = some (24, 12, fn_11 _ _)
      congr 3
    by_cases b3 : b = N + 3
    · rw [l0_1 (by omega) (by omega), show b - N + 9 = 12 by omega, if_neg (show (12 : Nat) ≠ 0 by decide), m4 _ (by omega) (by omega), u3 _ (by omega), b3, show N + 3 = N + 1 + 2 by rfl, g3]
      rfl
    by_cases b4 : b = N + 4
    · rw [l0_1 (by omega) (by omega), show b - N + 9 = 13 by omega, if_neg (show (13 : Nat) ≠ 0 by decide), b4, m1]
      show _ = some (11, 39, pu_mod _ _)
      congr 3
      funext j
      simp only [fn_13, pu_mod, z', l0_b]
      by_cases c : j < 3 ∨ 36 < j
      · rw [if_pos c, if_neg (show ¬ (3 ≤ j ∧ j < 37) by omega), if_neg (show ¬ (3 ≤ j ∧ j ≤ 36) by omega)]
      · rw [if_neg c, if_pos (show 3 ≤ j ∧ j < 37 by omega)]
        congr 2
        omega
    by_cases b5 : N + 5 ≤ b ∧ b < N + 39
    · rw [l0_2 b5.1 b5.2, if_neg (show (14 : Nat) ≠ 0 by decide)]
      obtain ⟨i, ei⟩ : ∃ i, i = b - N - 2 := ⟨_, rfl⟩
      rw [← ei]
      have eb : b = N + 5 + i - 3 := by omega
      rw [eb, m3 i (by omega) (by omega), pm_c14 (by omega) (by omega)]
      rfl
    · rw [l0_3 (by omega), if_pos (show (0 : Nat) = 0 from rfl), m4 _ (by omega) (by omega), u3 _ (by omega), u2 _ (by omega) (by omega), u1 _ (by omega)]
  have X : XW h0 (ly_0 N) a_0 a_0 (h0.1, h4.2) b_0 0 := by
    refine ⟨⟨g_0, cw_0, i_0, t_0⟩, pl_0, zi_0, ro_0, pw_0, ?_, ?_, rfl, ?_, ?_⟩
    · show LA _ _ _ h4.2.1
      rw [s41, ← eN]
      exact l0_la
    · show h0.2.1 ≤ h4.2.1
      omega
    · show h4.2.1 ≤ _
      omega
    · show h4.2.2 ≤ h0.2.2 + 140000 + 400 * 0
      exact s42
  have hLL := S.1
  obtain ⟨h', e, r1, r2⟩ := L_loop hn S (L / 6) (n - 1) 0 0 (ly_0 N) a_0 a_0 (h0.1, h4.2) b_0 X rfl (by omega) (by omega)
  rw [A9, A13, ← hp] at e
  refine ⟨n, h', ?_, r1, r2⟩
  unfold kL_law
  rw [jk_fix_pos (by omega)]
  simp only [kL_law_b, kL_law_0, Nat.reduceEqDiff, if_false, if_true]
  simp (disch := first | omega | assumption | (simp only [List.length_cons, List.length_nil]; omega) | decide | (simp (disch := decide) only [pu_up_ne, pu_up_at]; first | omega | assumption)) only [↓ja_int, ↓ja_null, ↓ja_iload_0, ↓ja_aload_0, ↓ja_istore_0, ↓ja_astore_0, ↓ja_kill_0, ↓ja_iinc_0, ↓ja_iload_1, ↓ja_aload_1, ↓ja_istore_1, ↓ja_astore_1, ↓ja_kill_1, ↓ja_iinc_1, ↓ja_iload_2, ↓ja_aload_2, ↓ja_istore_2, ↓ja_astore_2, ↓ja_kill_2, ↓ja_iinc_2, ↓ja_iload_3, ↓ja_aload_3, ↓ja_istore_3, ↓ja_astore_3, ↓ja_kill_3, ↓ja_iinc_3, ↓ja_iload_4, ↓ja_aload_4, ↓ja_istore_4, ↓ja_astore_4, ↓ja_kill_4, ↓ja_iinc_4, ↓ja_iload_5, ↓ja_aload_5, ↓ja_istore_5, ↓ja_astore_5, ↓ja_kill_5, ↓ja_iinc_5, ↓ja_iload_6, ↓ja_aload_6, ↓ja_istore_6, ↓ja_astore_6, ↓ja_kill_6, ↓ja_iinc_6, ↓ja_iload_7, ↓ja_aload_7, ↓ja_istore_7, ↓ja_astore_7, ↓ja_kill_7, ↓ja_iinc_7, ↓ja_iload_8, ↓ja_aload_8, ↓ja_istore_8, ↓ja_astore_8, ↓ja_kill_8, ↓ja_iinc_8, ↓ja_iload_9, ↓ja_aload_9, ↓ja_istore_9, ↓ja_astore_9, ↓ja_kill_9, ↓ja_iinc_9, ↓ja_iload_10, ↓ja_aload_10, ↓ja_istore_10, ↓ja_astore_10, ↓ja_kill_10, ↓ja_iinc_10, ↓ja_iadd, ↓ja_isub, ↓ja_imul, ↓ja_dup, ↓ja_dup2, ↓ja_i2b, ↓ja_ifeq, ↓ja_ifne, ↓ja_iflt, ↓ja_ifge, ↓ja_ifgt, ↓ja_ifle, ↓ja_icmpeq, ↓ja_icmpne, ↓ja_icmplt, ↓ja_icmpge, ↓ja_icmpgt, ↓ja_icmple, ↓ja_ifnull_n, ↓ja_ifnull_s, ↓ja_ifnonnull_n, ↓ja_ifnonnull_s, ↓ja_iret, ↓ja_aret, ↓ja_vret, ↓ja_zret0, ↓ja_zret1, ↓ja_sw, ↓ja_pe, ↓ja_pn, ↓ja_pz, ↓reduceIte, ite_self, Int.reduceEq, Int.reduceLT, Int.reduceLE, Int.reduceNeg, Int.reduceToNat, jm_wr_id, pb_none, pb_int, pb_ref, ↓rw_obj, ↓n1, ↓n3, ↓rw_ic0, c2, c4, List.set_cons_zero, List.set_cons_succ, e]

