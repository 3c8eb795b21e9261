/-! a thread is born: both worlds, and the heap -/
def GR (y y' : jLay) : Prop := y'.2 9 0 = y.2 9 0 ∧ y'.2 13 0 = y.2 13 0
theorem on_ne {y : jLay} {r r' : Nat} {i i' : Int} (h : pu_on y r i) (h' : pu_on y r' i') (hne : r ≠ r' ∨ i ≠ i') : y.2 r i ≠ y.2 r' i' := by
  intro e
  have a : y.1 (y.2 r i) = (r, i) := h
  have b : y.1 (y.2 r' i') = (r', i') := h'
  rw [e, b] at a
  rcases hne with z | z
  · exact z (congrArg Prod.fst a).symm
  · exact z (congrArg Prod.snd a).symm
theorem lv.mono {ρ ρ' : aS} {r : Nat} {i : Int} (h : lv ρ r i) (h0 : ρ 0 0 ≤ ρ' 0 0) (h1 : ρ 1 0 ≤ ρ' 1 0) (h3 : ∀ i, ρ 3 i ≤ ρ' 3 i) : lv ρ' r i := by
  unfold lv at h ⊢
  rcases h with h | h | ⟨h, t, j, a, b, c, d, e⟩ | h | h
  · exact Or.inl (by omega)
  · exact Or.inr (Or.inl (by omega))
  · exact Or.inr (Or.inr (Or.inl ⟨h, t, j, a, by omega, c, by have := h3 t; omega, e⟩))
  · exact Or.inr (Or.inr (Or.inr (Or.inl h)))
  · exact Or.inr (Or.inr (Or.inr (Or.inr h)))
theorem pm_WF.blk {y : jLay} {N r0 m : Nat} {i : Int} {ρ : aS} {B : Nat} (h : pm_WF y) (hl : LA y ρ B N) (hr : r0 + m ≤ 13) (hi : pu_inv (ly_blk y N r0 m i)) : pm_WF (ly_blk y N r0 m i) := ⟨hi, lb_keep h.2.1 (by omega) (hl.on h.2.1 (by decide)).2.1, fun c c3 c36 => lb_keep (h.2.2 c c3 c36) (by omega) (hl.on (h.2.2 c c3 c36) (by decide)).2.1⟩
theorem LA.blk {y : jLay} {N r0 m : Nat} {i : Int} {ρ ρ' : aS} {B : Nat} (hl : LA y ρ B N) (hB : B ≤ N) (h0 : ρ 0 0 ≤ ρ' 0 0) (h1 : ρ 1 0 ≤ ρ' 1 0) (h3 : ∀ i, ρ 3 i ≤ ρ' 3 i) (hn : ∀ r, r0 ≤ r → r < r0 + m → lv ρ' r i) : LA (ly_blk y N r0 m i) ρ' B (N + m) := by
  intro a ha
  by_cases c : N ≤ a ∧ a < N + m
  · rw [lb_in c.1 c.2]
    exact ⟨by omega, c.2, hn _ (by show r0 ≤ a - N + r0; omega) (by show a - N + r0 < r0 + m; omega)⟩
  · rw [lb_out c] at ha ⊢
    obtain ⟨p, q, r⟩ := hl a ha
    exact ⟨p, by omega, r.mono h0 h1 h3⟩
theorem lv.s20 {τ : bS} {r : Nat} {i : Int} (h : lv τ.1 r i) (h8 : r = 8) (hI : WI τ) : ∃ t j, 0 ≤ t ∧ t < τ.1 0 0 ∧ t < 16 ∧ 0 ≤ j ∧ j < τ.1 3 t ∧ j < 20 ∧ i = 20 * t + j ∧ i / 20 = t := by
  have h9 := hI.2.2.2.2.2.2.2.2
  rcases h with h | h | ⟨h, t, j, a, b, c, d, e⟩ | h | h
  · omega
  · omega
  · have := hI.1 t a (by omega)
    exact ⟨t, j, a, b, by omega, c, d, by omega, e, by omega⟩
  · omega
  · omega
set_option maxHeartbeats 4000000 in
theorem k_thread {y : jLay} {κ σ : aS} {g : jH} {n : Nat} {τ : bS} {B : Nat} (h : WW y κ τ) (hz : ZI τ) (hl : LA y τ.1 B g.2.1) (hB : B ≤ g.2.1) (hw : pm_WF y) : if τ.1 0 0 ≠ 16 then (∃ y' g', fX11_thread n [.inr (some (y.2 9 0))] (pu_H y κ σ g) = some (some (.inl (τ.1 0 0)), pu_H y' (c_thread κ) σ g') ∧ WW y' (c_thread κ) (b_thread τ) ∧ LA y' (b_thread τ).1 B g'.2.1 ∧ pm_WF y' ∧ GR y y' ∧ g'.1 = g.1 ∧ g.2.1 ≤ g'.2.1 ∧ g'.2.1 ≤ g.2.1 + 5 ∧ g'.2.2 ≤ g.2.2 + 400) else (fX11_thread n [.inr (some (y.2 9 0))] (pu_H y κ σ g) = some (some (.inl (-1)), pu_H y κ σ g)) := by
  obtain ⟨hG, hy0, hq, hT⟩ := h
  have hC := hG.1
  have hI := hG.2.1
  obtain ⟨m1, m5, m7, m17, mlog, m15, msp⟩ := hC.rows
  have k0 : κ 0 0 = τ.1 0 0 := m1 0 0 rfl
  have h9 := hI.2.2.2.2.2.2.2.2
  obtain ⟨iy, o9, o10, o11, o12, ya, yd, ys⟩ := hy0
  have q9 : (pu_H y κ σ g).1 (y.2 9 0) = some (10, 9, pu_kit y.2 κ) := pu_get o9 (by decide)
  have q10 : (pu_H y κ σ g).1 (y.2 10 0) = some (23, 16, fn_10 y.2 κ) := pu_get o10 (by decide)
  have v0 : pu_kit y.2 κ 0 = .inr (some (y.2 10 0)) := rfl
  have v1 : pu_kit y.2 κ 1 = .inl (κ 0 0) := rfl
  obtain ⟨h0, e0⟩ : ∃ z : jH, z = pu_H y κ σ g := ⟨_, rfl⟩
  have f0 : ∀ b, (y.1 b).1 = 0 → h0.1 b = g.1 b := fun b hb => by rw [e0]; exact if_pos hb
  have f1 : ∀ b, (y.1 b).1 ≠ 0 → h0.1 b = some (pu_cell y.2 κ σ (y.1 b).1 (y.1 b).2) := fun b hb => by rw [e0]; exact if_neg hb
  rw [← e0] at q9 q10
  have s0 : h0.2 = g.2 := by rw [e0]; rfl
  have r0 : ∀ {f : Nat} {kk : jK} {LL : List (Option jV)} {SS : List jV}, jk_get [10] f kk LL (.inr (some (y.2 9 0)) :: SS) h0 = kk LL (pu_kit y.2 κ f :: SS) h0 := fun {f kk LL SS} => rw_get q9 (by simp)
  by_cases c : τ.1 0 0 ≠ 16
  · rw [if_pos c]
    have t0 : 0 ≤ κ 0 0 := by omega
    have t1 : κ 0 0 < 16 := by omega
    have l9 := hl.on o9 (by decide)
    have l10 := hl.on o10 (by decide)
    have n910 := on_ne o9 o10 (Or.inl (by decide))
    obtain ⟨h1, e1⟩ : ∃ z : jH, z = jm_new h0 (0, 7, fun j => if j ∈ [1, 4] then .inr none else .inl 0) := ⟨_, rfl⟩
    have q1 : h1.1 g.2.1 = some (0, 7, fun j => if j ∈ [1, 4] then .inr none else .inl 0) := by rw [e1, ← s0]; exact nw_at
    have s1 : h1.2 = (g.2.1 + 1, g.2.2 + 7) := by rw [e1, nw_2, s0]
    have s11 : h1.2.1 = g.2.1 + 1 := by rw [s1]
    have s12 : h1.2.2 = g.2.2 + 7 := by rw [s1]
    have o1 : ∀ b, b ≠ g.2.1 → h1.1 b = h0.1 b := fun b hb => by rw [e1]; exact nw_ne (by rw [s0]; exact hb)
    have nn : ∀ {kk : jK} {LL : List (Option jV)} {SS : List jV}, jk_new 0 7 [1, 4] kk LL SS h0 = kk LL (.inr (some g.2.1) :: SS) h1 := fun {kk LL SS} => by rw [e1, ← s0]; exact rw_new
    obtain ⟨h2, c2, q2, l2, o2, s2⟩ := k_init0 (n := n) (t := κ 0 0) q1 (by omega)
    rw [s11] at q2 l2 o2 s2
    rw [s12] at s2
    have q29 : h2.1 (y.2 9 0) = some (10, 9, pu_kit y.2 κ) := by rw [o2 _ (by omega) (by omega), o1 _ (by omega)]; exact q9
    have q19 : h1.1 (y.2 9 0) = some (10, 9, pu_kit y.2 κ) := by rw [o1 _ (by omega)]; exact q9
    have q210 : h2.1 (y.2 10 0) = some (23, 16, fn_10 y.2 κ) := by rw [o2 _ (by omega) (by omega), o1 _ (by omega)]; exact q10
    obtain ⟨h3, e3⟩ : ∃ z : jH, z = jm_set h2 (y.2 10 0) (23, 16, fn_10 y.2 κ) (κ 0 0).toNat (.inr (some g.2.1)) := ⟨_, rfl⟩
    have q39 : h3.1 (y.2 9 0) = some (10, 9, pu_kit y.2 κ) := by rw [e3, st_ne n910]; exact q29
    obtain ⟨h4, e4⟩ : ∃ z : jH, z = jm_set h3 (y.2 9 0) (10, 9, pu_kit y.2 κ) 1 (.inl (κ 0 0 + 1)) := ⟨_, rfl⟩
    have q49 : h4.1 (y.2 9 0) = some (10, 9, jm_upd (pu_kit y.2 κ) 1 (.inl (κ 0 0 + 1))) := by rw [e4]; exact st_at
    have q410 : h4.1 (y.2 10 0) = some (23, 16, jm_upd (fn_10 y.2 κ) (κ 0 0).toNat (.inr (some g.2.1))) := by rw [e4, st_ne n910.symm, e3]; exact st_at
    have o4 : ∀ b, b ≠ y.2 9 0 → b ≠ y.2 10 0 → h4.1 b = h2.1 b := fun b b1 b2 => by rw [e4, st_ne b1, e3, st_ne b2]
    have s4 : h4.2 = (g.2.1 + 2, g.2.2 + 27) := by rw [e4, st_2, e3, st_2]; exact s2
    have r1 : ∀ {f : Nat} {kk : jK} {LL : List (Option jV)} {SS : List jV}, jk_get [10] f kk LL (.inr (some (y.2 9 0)) :: SS) h1 = kk LL (pu_kit y.2 κ f :: SS) h1 := fun {f kk LL SS} => rw_get q19 (by simp)
    have r3 : ∀ {f : Nat} {kk : jK} {LL : List (Option jV)} {SS : List jV}, jk_get [10] f kk LL (.inr (some (y.2 9 0)) :: SS) h3 = kk LL (pu_kit y.2 κ f :: SS) h3 := fun {f kk LL SS} => rw_get q39 (by simp)
    have r4 : ∀ {f : Nat} {kk : jK} {LL : List (Option jV)} {SS : List jV}, jk_get [10] f kk LL (.inr (some (y.2 9 0)) :: SS) h4 = kk LL (jm_upd (pu_kit y.2 κ) 1 (.inl (κ 0 0 + 1)) f :: SS) h4 := fun {f kk LL SS} => rw_get q49 (by simp)
    have aa : ∀ {kk : jK} {LL : List (Option jV)} {SS : List jV}, jk_aast 23 kk LL (.inr (some g.2.1) :: .inl (κ 0 0) :: .inr (some (y.2 10 0)) :: SS) h2 = kk LL SS h3 := fun {kk LL SS} => by rw [e3]; exact rw_aast q210 q2 rfl t0 t1 (show (0 : Nat) ∈ jm_may 23 by decide)
    have pp : ∀ {kk : jK} {LL : List (Option jV)} {SS : List jV}, jk_puti [10] 1 kk LL (.inl (κ 0 0 + 1) :: .inr (some (y.2 9 0)) :: SS) h3 = kk LL SS h4 := fun {kk LL SS} => by rw [e4]; exact rw_puti q39 (by simp)
    have w1 : jm_upd (pu_kit y.2 κ) 1 (.inl (κ 0 0 + 1)) 1 = .inl (κ 0 0 + 1) := rfl
    have ev : fX11_thread n [.inr (some (y.2 9 0))] h0 = some (some (.inl (κ 0 0)), h4) := by
      simp only [fX11_thread, jm_run, List.length_cons, List.length_nil, Nat.reduceAdd, if_true, jm_init, List.map_cons, List.map_nil, Nat.reduceSub, List.replicate, List.cons_append, List.nil_append, kX11_thread]
      simp (disch := first | omega | assumption | (simp only [List.length_cons, List.length_nil]; omega) | decide | (simp (disch := decide) only [pu_up_ne, pu_up_at]; first | omega | assumption)) only [↓ja_int, ↓ja_null, ↓ja_iload_0, ↓ja_aload_0, ↓ja_istore_0, ↓ja_astore_0, ↓ja_kill_0, ↓ja_iinc_0, ↓ja_iload_1, ↓ja_aload_1, ↓ja_istore_1, ↓ja_astore_1, ↓ja_kill_1, ↓ja_iinc_1, ↓ja_iload_2, ↓ja_aload_2, ↓ja_istore_2, ↓ja_astore_2, ↓ja_kill_2, ↓ja_iinc_2, ↓ja_iload_3, ↓ja_aload_3, ↓ja_istore_3, ↓ja_astore_3, ↓ja_kill_3, ↓ja_iinc_3, ↓ja_iload_4, ↓ja_aload_4, ↓ja_istore_4, ↓ja_astore_4, ↓ja_kill_4, ↓ja_iinc_4, ↓ja_iload_5, ↓ja_aload_5, ↓ja_istore_5, ↓ja_astore_5, ↓ja_kill_5, ↓ja_iinc_5, ↓ja_iload_6, ↓ja_aload_6, ↓ja_istore_6, ↓ja_astore_6, ↓ja_kill_6, ↓ja_iinc_6, ↓ja_iload_7, ↓ja_aload_7, ↓ja_istore_7, ↓ja_astore_7, ↓ja_kill_7, ↓ja_iinc_7, ↓ja_iload_8, ↓ja_aload_8, ↓ja_istore_8, ↓ja_astore_8, ↓ja_kill_8, ↓ja_iinc_8, ↓ja_iload_9, ↓ja_aload_9, ↓ja_istore_9, ↓ja_astore_9, ↓ja_kill_9, ↓ja_iinc_9, ↓ja_iload_10, ↓ja_aload_10, ↓ja_istore_10, ↓ja_astore_10, ↓ja_kill_10, ↓ja_iinc_10, ↓ja_iadd, ↓ja_isub, ↓ja_imul, ↓ja_dup, ↓ja_dup2, ↓ja_i2b, ↓ja_ifeq, ↓ja_ifne, ↓ja_iflt, ↓ja_ifge, ↓ja_ifgt, ↓ja_ifle, ↓ja_icmpeq, ↓ja_icmpne, ↓ja_icmplt, ↓ja_icmpge, ↓ja_icmpgt, ↓ja_icmple, ↓ja_ifnull_n, ↓ja_ifnull_s, ↓ja_ifnonnull_n, ↓ja_ifnonnull_s, ↓ja_iret, ↓ja_aret, ↓ja_vret, ↓ja_zret0, ↓ja_zret1, ↓ja_sw, ↓ja_pe, ↓ja_pn, ↓ja_pz, ↓reduceIte, ite_self, Int.reduceEq, Int.reduceLT, Int.reduceLE, Int.reduceNeg, Int.reduceToNat, jm_wr_id, pb_none, pb_int, pb_ref, ↓rw_obj, Int.add_sub_cancel, v0, v1, w1, ↓r0, ↓r1, ↓r3, ↓r4, ↓nn, ↓aa, ↓pp, ↓rw_ic1, c2, t1, if_true, if_false]
    have hno : ∀ a, (y.1 a).1 ≠ 0 → ¬ (1 ≤ (y.1 a).1 ∧ (y.1 a).1 < 1 + 2 ∧ (y.1 a).2 = κ 0 0) := by
      intro a ha z
      have q := (hl a ha).2.2
      unfold lv at q
      rcases q with q | q | ⟨q, _⟩ | q | q <;> omega
    have iy' : pu_inv (ly_blk y g.2.1 1 2 (κ 0 0)) := lb_inv iy hno
    have z3 : κ 3 (κ 0 0) = 0 := by
      rw [m1 3 _ rfl, k0]
      exact (hG.2.2.2.2.1 _ (by omega) (by omega)).2.1 (Int.le_refl _)
    have z4 : κ 4 (κ 0 0) = 0 := by
      have a := (hI.1 (κ 0 0) t0 t1).1
      have b := (hG.2.2.2.2.1 _ t0 t1).1
      rw [m1 4 _ rfl]
      rw [m1 3 _ rfl] at z3
      omega
    have zz := hz.1.2.2.2.2.2.2.1 (κ 0 0) (by omega)
    have z6 : κ 6 (κ 0 0) = 0 := by rw [m1 6 _ rfl]; exact zz.1
    have z7 : κ 7 (κ 0 0) = 0 := by rw [← m7]; exact zz.2
    have hp : h4 = pu_H (ly_blk y g.2.1 1 2 (κ 0 0)) (c_thread κ) σ (g.1, h4.2) := by
      refine lb_heap (by decide) (fun b b1 b2 => ?_) (fun b b1 b2 => ?_) (fun b b1 b2 => ?_)
      · by_cases cb : b = g.2.1
        · subst cb
          rw [o4 _ (by omega) (by omega), q2, show g.2.1 - g.2.1 + 1 = 1 by omega]
          show _ = some (0, 7, pu_actor _ _ _)
          congr 3
          funext j
          have a2 : (ly_blk y g.2.1 1 2 (κ 0 0)).2 2 (κ 0 0) = g.2.1 + 1 := lb_new (by decide) (by decide)
          have k3 : c_thread κ 3 (κ 0 0) = 0 := by rw [thk_e _ _ _ (by decide) (by decide)]; exact z3
          have k4 : c_thread κ 4 (κ 0 0) = 0 := by rw [thk_e _ _ _ (by decide) (by decide)]; exact z4
          have k5 : c_thread κ 5 (κ 0 0) = -1 := by rw [thk_5, if_pos rfl]
          have k6 : c_thread κ 6 (κ 0 0) = 0 := by rw [thk_e _ _ _ (by decide) (by decide)]; exact z6
          have k7 : c_thread κ 7 (κ 0 0) = 0 := by rw [thk_e _ _ _ (by decide) (by decide)]; exact z7
          simp only [jm_upd, pu_actor, a2, k3, k4, k5, k6, k7]
          rcases (show j = 0 ∨ j = 1 ∨ j = 2 ∨ j = 3 ∨ j = 4 ∨ j = 5 ∨ j = 6 ∨ 7 ≤ j by omega) with rfl | rfl | rfl | rfl | rfl | rfl | rfl | hj
          · rfl
          · rfl
          · rfl
          · rfl
          · rfl
          · rfl
          · rfl
          · simp [show j ≠ 0 by omega, show j ≠ 1 by omega, show j ≠ 2 by omega, show j ≠ 3 by omega, show j ≠ 4 by omega, show j ≠ 5 by omega, show j ≠ 6 by omega]
        · have cb' : b = g.2.1 + 1 := by omega
          subst cb'
          rw [o4 _ (by omega) (by omega), l2, show g.2.1 + 1 - g.2.1 + 1 = 2 by omega]
          have k3 : c_thread κ 3 (κ 0 0) = 0 := by rw [thk_e _ _ _ (by decide) (by decide)]; exact z3
          simp only [pu_cell, Nat.reduceEqDiff, if_false, if_true, k3]
          congr 3
      · have n9 : b ≠ y.2 9 0 := fun z => by
          have a : y.1 (y.2 9 0) = (9, 0) := o9
          rw [z, a] at b2
          cases b2
        have n10 : b ≠ y.2 10 0 := fun z => by
          have a : y.1 (y.2 10 0) = (10, 0) := o10
          rw [z, a] at b2
          cases b2
        rw [o4 b n9 n10, o2 b (by omega) (by omega), o1 b (by omega)]
        exact f0 b b2
      · by_cases n9 : b = y.2 9 0
        · rw [n9, q49]
          have a : y.1 (y.2 9 0) = (9, 0) := o9
          rw [a]
          show _ = some (10, 9, pu_kit _ _)
          congr 3
          funext j
          have a10 : (ly_blk y g.2.1 1 2 (κ 0 0)).2 10 0 = y.2 10 0 := lb_old (by omega)
          have a11 : (ly_blk y g.2.1 1 2 (κ 0 0)).2 11 0 = y.2 11 0 := lb_old (by omega)
          have a12 : (ly_blk y g.2.1 1 2 (κ 0 0)).2 12 0 = y.2 12 0 := lb_old (by omega)
          simp only [jm_upd, pu_kit, a10, a11, a12, thk_0, thk_e κ 1 0 (by decide) (by decide), thk_e κ 38 0 (by decide) (by decide), thk_e κ 41 0 (by decide) (by decide), thk_e κ 37 0 (by decide) (by decide), thk_e κ 2 0 (by decide) (by decide)]
          by_cases cj : j = 1
          · subst cj
            rfl
          · simp only [if_neg cj]
        · by_cases n10 : b = y.2 10 0
          · rw [n10, q410]
            have a : y.1 (y.2 10 0) = (10, 0) := o10
            rw [a]
            simp only [pu_cell, Nat.reduceEqDiff, if_false, if_true, thk_0]
            congr 3
            funext j
            simp only [jm_upd, fn_10]
            by_cases cj : j = (κ 0 0).toNat
            · have cj' : (j : Int) = κ 0 0 := by omega
              rw [if_pos cj, if_pos (by omega), cj']
              have a1 : (ly_blk y g.2.1 1 2 (κ 0 0)).2 1 (κ 0 0) = g.2.1 + 0 := lb_new (by decide) (by decide)
              rw [a1]
              rfl
            · rw [if_neg cj]
              by_cases cj2 : (j : Int) < κ 0 0
              · rw [if_pos cj2, if_pos (by omega), lb_old (by omega)]
              · rw [if_neg cj2, if_neg (by omega)]
          · obtain ⟨p1, p2, p3⟩ := hl b b2
            rw [o4 b n9 n10, o2 b (by omega) (by omega), o1 b (by omega), f1 b b2]
            have hib := iy b b2
            obtain ⟨r, er⟩ : ∃ r, r = (y.1 b).1 := ⟨_, rfl⟩
            obtain ⟨i, ei⟩ : ∃ i, i = (y.1 b).2 := ⟨_, rfl⟩
            rw [← er, ← ei] at p3 hib ⊢
            have x9 : r ≠ 9 := fun z => by
              subst z
              have : i = 0 := by unfold lv at p3; rcases p3 with q | q | ⟨q, _⟩ | q | q <;> omega
              exact n9 (by rw [hib, this])
            have x10 : r ≠ 10 := fun z => by
              subst z
              have : i = 0 := by unfold lv at p3; rcases p3 with q | q | ⟨q, _⟩ | q | q <;> omega
              exact n10 (by rw [hib, this])
            have y1 : r = 1 ∨ r = 2 → i < κ 0 0 := fun z => by
              rw [k0]
              unfold lv at p3
              rcases p3 with q | q | ⟨q, _⟩ | q | q <;> omega
            have E1 : pu_cell (ly_blk y g.2.1 1 2 (κ 0 0)).2 (c_thread κ) σ r i = pu_cell y.2 (c_thread κ) σ r i := by
              refine pc_ad (fun z => ⟨?_, fun _ => lb_old (by omega)⟩) (fun z j _ => lb_old (by omega)) (fun z q q1 q2 => lb_old (by omega)) (fun z j _ _ => lb_old (by omega)) (fun z => ⟨?_, lb_old (by omega)⟩) (fun z => absurd z x9) (fun z => absurd z x10) (fun z j _ => lb_old (by omega)) (fun z k => lb_old (by omega))
              · have := y1 (Or.inl z)
                exact lb_old (by omega)
              · obtain ⟨t, j, w1, w2, w3, w4, w5, w6, w7, w8⟩ := p3.s20 z hI
                exact lb_old (by omega)
            rw [E1]
            congr 1
            refine (pc_cong (fun cc j hu => ?_)).symm
            by_cases c5 : cc = 5
            · subst c5
              obtain ⟨u1, u2⟩ := pc_u5 hu
              have := y1 (Or.inl u1)
              rw [thk_5, if_neg (by omega)]
            · by_cases c0 : cc = 0
              · subst c0
                obtain ⟨u1, u2⟩ := pc_u0 hu
                omega
              · exact thk_e _ _ _ c5 c0
    have e0' : (b_thread τ).1 0 0 = τ.1 0 0 + 1 := th_0 τ
    refine ⟨ly_blk y g.2.1 1 2 (κ 0 0), (g.1, h4.2), ?_, ⟨hG.thread c, ⟨iy', lb_keep o9 (by omega) l9.2.1, lb_keep o10 (by omega) l10.2.1, lb_keep o11 (by omega) (hl.on o11 (by decide)).2.1, lb_keep o12 (by omega) (hl.on o12 (by decide)).2.1, fun t a b => ?_, fun d a b => ?_, fun t i a b i0 i1 => ?_⟩, hq.more (fun cc i hc => thk_e _ _ _ (by omega) (by omega)) (fun cc i hc => th_e _ _ _ (by omega) (by omega)) (by omega), hT.thread c⟩, ?_, hw.blk hl (by decide) iy', ⟨lb_old (by omega), lb_old (by omega)⟩, rfl, ?_, ?_, ?_⟩
    · rw [← hp, ← e0, ev, k0]
    · rw [thk_0] at b
      by_cases ct : t = κ 0 0
      · rw [ct]
        exact ⟨lb_on (by decide) (by decide), lb_on (by decide) (by decide)⟩
      · obtain ⟨w1, w2⟩ := ya t a (by omega)
        exact ⟨lb_keep w1 (by omega) (hl.on w1 (by decide)).2.1, lb_keep w2 (by omega) (hl.on w2 (by decide)).2.1⟩
    · rw [thk_e _ _ _ (by decide) (by decide)] at b
      obtain ⟨w1, w2, w3, w4, w5, w6, w7⟩ := yd d a b
      refine ⟨lb_keep w1 (by omega) (hl.on w1 (by decide)).2.1, lb_keep w2 (by omega) (hl.on w2 (by decide)).2.1, lb_keep w3 (by omega) (hl.on w3 (by decide)).2.1, ?_⟩
      unfold GK
      rw [thk_e _ _ _ (by decide) (by decide)]
      exact ⟨w4, w5, fun z => lb_keep (w6 z) (by omega) (hl.on (w6 z) (by decide)).2.1, fun z => lb_keep (w7 z) (by omega) (hl.on (w7 z) (by decide)).2.1⟩
    · rw [thk_0] at b
      rw [thk_e _ _ _ (by decide) (by decide)] at i1
      by_cases ct : t = κ 0 0
      · rw [ct, z3] at i1
        omega
      · have w := ys t i a (by omega) i0 i1
        exact lb_keep w (by omega) (hl.on w (by decide)).2.1
    · have : h4.2.1 = g.2.1 + 2 := by rw [s4]
      show LA _ _ _ h4.2.1
      rw [this]
      refine hl.blk hB (by omega) (by rw [th_e _ _ _ (by decide) (by decide)]; exact Int.le_refl _) (fun i => by rw [th_e _ _ _ (by decide) (by decide)]; exact Int.le_refl _) (fun r r1 r2 => ?_)
      unfold lv
      rw [e0']
      exact Or.inl (by omega)
    · show g.2.1 ≤ h4.2.1
      rw [s4]
      omega
    · show h4.2.1 ≤ g.2.1 + 5
      rw [s4]
      omega
    · show h4.2.2 ≤ g.2.2 + 400
      rw [s4]
      omega
  · rw [if_neg c, ← e0]
    have t1 : ¬ κ 0 0 < 16 := by omega
    simp only [fX11_thread, jm_run, List.length_cons, List.length_nil, Nat.reduceAdd, if_true, jm_init, List.map_cons, List.map_nil, Nat.reduceSub, List.replicate, List.cons_append, List.nil_append, kX11_thread]
    simp (disch := first | omega | assumption | (simp only [List.length_cons, List.length_nil]; omega) | decide | (simp (disch := decide) only [pu_up_ne, pu_up_at]; first | omega | assumption)) only [↓ja_int, ↓ja_null, ↓ja_iload_0, ↓ja_aload_0, ↓ja_istore_0, ↓ja_astore_0, ↓ja_kill_0, ↓ja_iinc_0, ↓ja_iload_1, ↓ja_aload_1, ↓ja_istore_1, ↓ja_astore_1, ↓ja_kill_1, ↓ja_iinc_1, ↓ja_iload_2, ↓ja_aload_2, ↓ja_istore_2, ↓ja_astore_2, ↓ja_kill_2, ↓ja_iinc_2, ↓ja_iload_3, ↓ja_aload_3, ↓ja_istore_3, ↓ja_astore_3, ↓ja_kill_3, ↓ja_iinc_3, ↓ja_iload_4, ↓ja_aload_4, ↓ja_istore_4, ↓ja_astore_4, ↓ja_kill_4, ↓ja_iinc_4, ↓ja_iload_5, ↓ja_aload_5, ↓ja_istore_5, ↓ja_astore_5, ↓ja_kill_5, ↓ja_iinc_5, ↓ja_iload_6, ↓ja_aload_6, ↓ja_istore_6, ↓ja_astore_6, ↓ja_kill_6, ↓ja_iinc_6, ↓ja_iload_7, ↓ja_aload_7, ↓ja_istore_7, ↓ja_astore_7, ↓ja_kill_7, ↓ja_iinc_7, ↓ja_iload_8, ↓ja_aload_8, ↓ja_istore_8, ↓ja_astore_8, ↓ja_kill_8, ↓ja_iinc_8, ↓ja_iload_9, ↓ja_aload_9, ↓ja_istore_9, ↓ja_astore_9, ↓ja_kill_9, ↓ja_iinc_9, ↓ja_iload_10, ↓ja_aload_10, ↓ja_istore_10, ↓ja_astore_10, ↓ja_kill_10, ↓ja_iinc_10, ↓ja_iadd, ↓ja_isub, ↓ja_imul, ↓ja_dup, ↓ja_dup2, ↓ja_i2b, ↓ja_ifeq, ↓ja_ifne, ↓ja_iflt, ↓ja_ifge, ↓ja_ifgt, ↓ja_ifle, ↓ja_icmpeq, ↓ja_icmpne, ↓ja_icmplt, ↓ja_icmpge, ↓ja_icmpgt, ↓ja_icmple, ↓ja_ifnull_n, ↓ja_ifnull_s, ↓ja_ifnonnull_n, ↓ja_ifnonnull_s, ↓ja_iret, ↓ja_aret, ↓ja_vret, ↓ja_zret0, ↓ja_zret1, ↓ja_sw, ↓ja_pe, ↓ja_pn, ↓ja_pz, ↓reduceIte, ite_self, Int.reduceEq, Int.reduceLT, Int.reduceLE, Int.reduceNeg, Int.reduceToNat, jm_wr_id, pb_none, pb_int, pb_ref, ↓rw_obj, v0, v1, ↓r0, t1, if_true, if_false]
