theorem bk_2 {τ : bS} {d t a b : Int} (hk : τ.1 18 d = 2) : b_kind τ d t a b = b_gate τ d t a := by
  unfold b_kind
  rw [if_neg (by omega), if_neg (by omega), if_pos hk]
theorem bk_3 {τ : bS} {d t a b : Int} (hk : τ.1 18 d = 3) : b_kind τ d t a b = b_barrier τ d t a := by
  unfold b_kind
  rw [if_neg (by omega), if_neg (by omega), if_neg (by omega), if_pos hk]
theorem bk_4 {τ : bS} {d t a b : Int} (hk : τ.1 18 d = 4) : b_kind τ d t a b = b_exchange τ d t a b := by
  unfold b_kind
  rw [if_neg (by omega), if_neg (by omega), if_neg (by omega), if_neg (by omega), if_pos hk]
theorem bk_5 {τ : bS} {d t a b : Int} (hk : τ.1 18 d = 5) : b_kind τ d t a b = b_lockop τ d t a := by
  unfold b_kind
  rw [if_neg (by omega), if_neg (by omega), if_neg (by omega), if_neg (by omega), if_neg (by omega), if_pos hk]
theorem bk_6 {τ : bS} {d t a b : Int} (hk : τ.1 18 d = 6) : b_kind τ d t a b = b_hand τ d t a b := by
  unfold b_kind
  rw [if_neg (by omega), if_neg (by omega), if_neg (by omega), if_neg (by omega), if_neg (by omega), if_neg (by omega), if_pos hk]
theorem bk_7 {τ : bS} {d t a b : Int} (hk : τ.1 18 d = 7) : b_kind τ d t a b = b_tickets τ d t a b := by
  unfold b_kind
  rw [if_neg (by omega), if_neg (by omega), if_neg (by omega), if_neg (by omega), if_neg (by omega), if_neg (by omega), if_neg (by omega), if_pos hk]
theorem bk_8 {τ : bS} {d t a b : Int} (hk : τ.1 18 d = 8) : b_kind τ d t a b = b_cell τ d t a b := by
  unfold b_kind
  rw [if_neg (by omega), if_neg (by omega), if_neg (by omega), if_neg (by omega), if_neg (by omega), if_neg (by omega), if_neg (by omega), if_neg (by omega), if_pos hk]
theorem bk_9 {τ : bS} {d t a b : Int} (hk : τ.1 18 d = 9) : b_kind τ d t a b = b_phaser τ d t a := by
  unfold b_kind
  rw [if_neg (by omega), if_neg (by omega), if_neg (by omega), if_neg (by omega), if_neg (by omega), if_neg (by omega), if_neg (by omega), if_neg (by omega), if_neg (by omega), if_pos hk]
theorem bk_10 {τ : bS} {d t a b : Int} (hk : τ.1 18 d = 10) : b_kind τ d t a b = b_pause τ d t a := by
  unfold b_kind
  rw [if_neg (by omega), if_neg (by omega), if_neg (by omega), if_neg (by omega), if_neg (by omega), if_neg (by omega), if_neg (by omega), if_neg (by omega), if_neg (by omega), if_neg (by omega), if_pos hk]
theorem bk_11 {τ : bS} {d t a b : Int} (hk : τ.1 18 d = 11) : b_kind τ d t a b = b_monitor τ d t a b := by
  unfold b_kind
  rw [if_neg (by omega), if_neg (by omega), if_neg (by omega), if_neg (by omega), if_neg (by omega), if_neg (by omega), if_neg (by omega), if_neg (by omega), if_neg (by omega), if_neg (by omega), if_neg (by omega)]
theorem look_ps {κ : aS} {τ : bS} {d t : Int} (h : AH κ τ d t) (hk : τ.1 18 d ≠ 11 ∧ τ.1 18 d ≠ 3) (hJ : JK (b_wait τ d t) d) : PS τ (if c_has τ.1 d (b_s τ t) = true then b_passes τ t (c_vb τ.1 d) else b_waits τ t) d t (c_look κ d (b_s τ t)) := by
  have eh := c_has_eq h.1.1.1 d (b_s τ t)
  unfold c_look
  rw [eh.1, eh.2]
  cases c : c_has τ.1 d (b_s τ t)
  · rw [if_neg (by decide), if_neg (by decide)]
    exact pw_plain h hk hJ
  · rw [if_pos rfl, if_pos rfl]
    exact ps_pass0 h (fun c i h1 _ => pu_up_ne _ _ _ _ h1) (fun i _ => pu_up_ne _ _ _ _ (by decide)) (fun i => pu_up_c _ _ _ _ _)
theorem gate_ps {κ : aS} {τ : bS} {d t : Int} (h : AH κ τ d t) (hk : τ.1 18 d = 2) : PS τ (b_gate τ d t (b_act τ t)) d t (c_gate κ d (b_s τ t)) := by
  have hI := h.2.1
  have hJ := h.2.2.1
  have e24 := h.e 24 d rfl
  obtain ⟨e11, e12⟩ := h.act
  have h2 : J2 τ d := h.jk.2.1 hk
  obtain ⟨g0, g1, g2⟩ := h2
  have hw : JK (b_wait τ d t) d := JK.k2 (by rw [b_wait_c _ _ _ _ _ (by decide)]; exact hk) ⟨by rw [b_wait_c _ _ _ _ _ (by decide)]; exact g0, by rw [b_wait_c _ _ _ _ _ (by decide)]; exact g1, by rw [b_wait_c _ _ _ _ _ (by decide)]; exact g2⟩ h.cw
  have hl := look_ps h ⟨by omega, by omega⟩ hw
  unfold c_gate b_gate
  rw [e11, e24]
  by_cases a0 : b_act τ t = 0
  · rw [if_pos a0, if_neg (by omega), if_pos a0]
    have e1 : c_has τ.1 d (b_s τ t) = decide (τ.1 24 d = 0) := by simp [c_has, hk]
    have e2 : c_vb τ.1 d = 0 := by simp [c_vb, hk]
    rw [e1, e2] at hl
    simpa using hl
  by_cases a1 : b_act τ t = 1
  · simp only [if_pos a1, if_neg a0]
    by_cases c : 0 < τ.1 24 d
    · rw [if_pos c]
      have ew : jm_wr (τ.1 24 d - 1) = τ.1 24 d - 1 := jm_wr_id (by omega) (by omega)
      have ep : (if 0 < jm_wr (τ.1 24 d - 1) then jm_wr (τ.1 24 d - 1) else 0) = jm_wr (τ.1 24 d - 1) := by
        rw [ew]
        split <;> omega
      rw [ep]
      have hI1 : WI (b_up τ 24 d (jm_wr (τ.1 24 d - 1))) := hI.up24 d _ (fun h6 => by omega)
      have e1 : (b_up τ 24 d (jm_wr (τ.1 24 d - 1))).1 24 d = jm_wr (τ.1 24 d - 1) := pu_up_at _ _ _ _
      have hJ1 : JA (b_up τ 24 d (jm_wr (τ.1 24 d - 1))) := hJ.up1 hI (by decide) (JK.k2 (by rw [b_up_c _ _ _ _ _ _ (by decide)]; exact hk) ⟨by rw [e1, ew]; omega, by rw [e1, ew]; omega, by rw [b_up_c _ _ _ _ _ _ (by decide)]; exact g2⟩ (h.cu _ _ (by decide)))
      exact ps_pass h (h.mq.up d _ (by decide) hI1) rfl (fun c i hc => b_up_c _ _ _ _ _ _ (by omega)) hJ1 (fun c i h1 _ => pu_up_ne _ _ _ _ h1) (fun i _ => pu_up_ne _ _ _ _ (by decide)) (fun i => pu_up_c _ _ _ _ _)
    · rw [if_neg c]
      have h0 : τ.1 24 d = 0 := by omega
      have ew : jm_wr (τ.1 24 d - 1) = -1 := by rw [h0]; exact jm_wr_id (by omega) (by omega)
      rw [ew, if_neg (show ¬ (0 : Int) < -1 by decide), h0]
      refine ps_pass0 h (fun c i h1 h2 => ?_) (fun i _ => ?_) (fun i => ?_)
      · rw [pu_up_ne _ _ _ _ h1]
        by_cases hc : c = 24
        · subst hc
          rw [pu_up_c]
          split
          · rename_i e
            rw [e, e24, h0]
          · rfl
        · rw [pu_up_ne _ _ _ _ hc]
      · rw [pu_up_ne _ _ _ _ (by decide), pu_up_ne _ _ _ _ (by decide)]
      · rw [pu_up_c, pu_up_ne _ _ _ _ (by decide)]
  · simp only [if_neg a1, if_neg a0]
    exact ps_end h (by decide) (by decide)
theorem sum4_rg {τ : bS} (hI : WI τ) : b_sum (fun t => τ.1 4 t) 16 ≤ 320 := by
  have := b_sum_le (f := fun t => τ.1 4 t) (b := 20) (by decide) 16 (fun i hi => by
    have := hI.1 i (by omega) (by omega)
    exact ⟨this.1, this.2.1⟩)
  omega
theorem tickets_ps {κ : aS} {τ : bS} {d t : Int} (h : AH κ τ d t) (hk : τ.1 18 d = 7) : PS τ (b_tickets τ d t (b_act τ t) (b_num τ t)) d t (c_tickets κ d (b_s τ t)) := by
  have hI := h.2.1
  have hJ := h.2.2.1
  have e24 := h.e 24 d rfl
  have e27 := h.e 27 d rfl
  obtain ⟨e11, e12⟩ := h.act
  have h7 := h.2.2.2.2.2.2.2.1 hk
  obtain ⟨g0, g1, g2⟩ := h.jk.2.2.2.2.2.1 hk
  have hs := sum4_rg hI
  have hw : JK (b_wait τ d t) d := JK.k7 (by rw [b_wait_c _ _ _ _ _ (by decide)]; exact hk) ⟨by rw [b_wait_c _ _ _ _ _ (by decide)]; exact g0, by rw [b_wait_c _ _ _ _ _ (by decide), b_wait_c _ _ _ _ _ (by decide)]; exact g1, by rw [b_wait_c _ _ _ _ _ (by decide)]; exact g2⟩ h.cw
  have hl := look_ps h ⟨by omega, by omega⟩ hw
  unfold c_tickets b_tickets
  rw [e11, e12, e24, e27]
  by_cases a0 : b_act τ t = 0
  · rw [if_pos a0, if_pos a0]
    have ew : jm_wr (τ.1 24 d + 1) = τ.1 24 d + 1 := jm_wr_id (by omega) (by omega)
    have ew2 : jm_wr (jm_wr (τ.1 24 d + 1) - 1) = τ.1 24 d := by
      rw [ew, show τ.1 24 d + 1 - 1 = τ.1 24 d by omega]
      exact jm_wr_id (by omega) (by omega)
    rw [ew2]
    have hI1 : WI (b_up τ 24 d (jm_wr (τ.1 24 d + 1))) := hI.up24 d _ (fun h6 => by omega)
    have e1 : (b_up τ 24 d (jm_wr (τ.1 24 d + 1))).1 24 d = jm_wr (τ.1 24 d + 1) := pu_up_at _ _ _ _
    have hJ1 : JA (b_up τ 24 d (jm_wr (τ.1 24 d + 1))) := hJ.up1 hI (by decide) (JK.k7 (by rw [b_up_c _ _ _ _ _ _ (by decide)]; exact hk) ⟨by rw [b_up_c _ _ _ _ _ _ (by decide)]; exact g0, by rw [b_up_c _ _ _ _ 27 _ (by decide), e1, ew]; omega, by rw [e1, ew]; exact h7⟩ (h.cu _ _ (by decide)))
    refine ps_pass h (h.mq.up d _ (by decide) hI1) rfl (fun c i hc => b_up_c _ _ _ _ _ _ (by omega)) hJ1 (fun c i h1 _ => ?_) (fun i _ => ?_) (fun i => ?_)
    · unfold pu_up
      simp [h1]
    · rw [pu_up_ne _ _ _ _ (by decide), pu_up_ne _ _ _ _ (by decide), pu_up_ne _ _ _ _ (by decide)]
    · rw [pu_up_ne _ _ _ _ (by decide), pu_up_c, pu_up_ne _ _ _ _ (by decide)]
  rw [if_neg a0, if_neg a0]
  by_cases a1 : b_act τ t = 1
  · rw [if_pos a1, if_pos a1]
    by_cases c1 : b_num τ t < 0
    · rw [if_pos c1, if_pos c1]
      exact ps_end h (by decide) (by decide)
    rw [if_neg c1, if_neg c1]
    by_cases c2 : b_num τ t < τ.1 24 d
    · rw [if_pos c2, if_pos c2]
      have eb : τ.1 12 (b_s τ t) = b_num τ t := rfl
      have e1 : c_has τ.1 d (b_s τ t) = decide (b_num τ t < τ.1 27 d) := by simp [c_has, hk, eb]
      have e2 : c_vb τ.1 d = 0 := by simp [c_vb, hk]
      rw [e1, e2] at hl
      simpa using hl
    · rw [if_neg c2, if_neg c2]
      exact ps_end h (by decide) (by decide)
  rw [if_neg a1, if_neg a1]
  by_cases a2 : b_act τ t = 2
  · rw [if_pos a2, if_pos a2]
    by_cases c1 : τ.1 27 d < τ.1 24 d
    · rw [if_pos c1, if_neg (by omega)]
      have ew : jm_wr (τ.1 27 d + 1) = τ.1 27 d + 1 := jm_wr_id (by omega) (by omega)
      have ew2 : jm_wr (jm_wr (τ.1 27 d + 1) - 1) = τ.1 27 d := by
        rw [ew, show τ.1 27 d + 1 - 1 = τ.1 27 d by omega]
        exact jm_wr_id (by omega) (by omega)
      rw [ew2]
      have hI1 : WI (b_up τ 27 d (jm_wr (τ.1 27 d + 1))) := hI.upd _ _ rfl
      have e1 : (b_up τ 27 d (jm_wr (τ.1 27 d + 1))).1 27 d = jm_wr (τ.1 27 d + 1) := pu_up_at _ _ _ _
      have hJ1 : JA (b_up τ 27 d (jm_wr (τ.1 27 d + 1))) := hJ.up1 hI (by decide) (JK.k7 (by rw [b_up_c _ _ _ _ _ _ (by decide)]; exact hk) ⟨by rw [e1, ew]; omega, by rw [e1, ew, b_up_c _ _ _ _ _ _ (by decide)]; omega, by rw [b_up_c _ _ _ _ 24 _ (by decide)]; exact g2⟩ (h.cu _ _ (by decide)))
      refine ps_pass h (h.mq.up d _ (by decide) hI1) rfl (fun c i hc => b_up_c _ _ _ _ _ _ (by omega)) hJ1 (fun c i h1 _ => ?_) (fun i _ => ?_) (fun i => ?_)
      · unfold pu_up
        simp [h1]
      · rw [pu_up_ne _ _ _ _ (by decide), pu_up_ne _ _ _ _ (by decide), pu_up_ne _ _ _ _ (by decide)]
      · rw [pu_up_ne _ _ _ _ (by decide), pu_up_c, pu_up_ne _ _ _ _ (by decide)]
    · rw [if_neg c1, if_pos (by omega)]
      exact ps_end h (by decide) (by decide)
  · rw [if_neg a2, if_neg a2]
    exact ps_end h (by decide) (by decide)
theorem AH.v0 {κ κ' κ1 : aS} {τ : bS} {d t : Int} (h : AH κ τ d t) (h1 : ∀ i, κ1 15 i = κ 15 i) (h' : ∀ i, κ' 15 i = κ 15 i) : ∀ i, κ' 15 i = if i = b_s τ t then 0 else κ1 15 i := fun i => by
  rw [h', h1]
  split
  · rename_i e
    rw [e]
    exact h.2.2.2.2.1
  · rfl
theorem cell_ps {κ : aS} {τ : bS} {d t : Int} (h : AH κ τ d t) (hk : τ.1 18 d = 8) : PS τ (b_cell τ d t (b_act τ t) (b_num τ t)) d t (c_cell κ d (b_s τ t)) := by
  have hI := h.2.1
  have hJ := h.2.2.1
  have e25 := h.e 25 d rfl
  have hact := h.2.2.2.2.2.2.1
  obtain ⟨e11, e12⟩ := h.act
  have g0 : J8 τ d := h.jk.2.2.2.2.2.2.1 hk
  have hw : JK (b_wait τ d t) d := JK.k8 (by rw [b_wait_c _ _ _ _ _ (by decide)]; exact hk) (by unfold J8; rw [b_wait_c _ _ _ _ _ (by decide)]; exact g0) h.cw
  have hl := look_ps h ⟨by omega, by omega⟩ hw
  unfold c_cell b_cell
  rw [e11, e12, e25]
  by_cases a0 : b_act τ t = 0
  · rw [if_pos a0, if_neg (by omega), if_pos a0]
    by_cases c1 : τ.1 25 d = 1
    · rw [if_pos c1, if_pos c1]
      exact ps_end h (by decide) (by decide)
    · rw [if_neg c1, if_neg c1]
      have hI1 : WI (b_up τ 25 d 1) := hI.upd _ _ rfl
      have e1 : (b_up τ 25 d 1).1 25 d = 1 := pu_up_at _ _ _ _
      have hJ1 : JA (b_up τ 25 d 1) := hJ.up1 hI (by decide) (JK.k8 (by rw [b_up_c _ _ _ _ _ _ (by decide)]; exact hk) (Or.inr e1) (h.cu _ _ (by decide)))
      have hI2 : WI (b_up (b_up τ 25 d 1) 27 d (b_num τ t)) := hI1.upd _ _ rfl
      have hJ2 : JA (b_up (b_up τ 25 d 1) 27 d (b_num τ t)) := hJ1.up1 hI1 (by decide) (JK.k8 (by rw [b_up_c _ _ _ _ _ _ (by decide), b_up_c _ _ _ _ _ _ (by decide)]; exact hk) (by unfold J8; rw [b_up_c _ _ _ _ _ _ (by decide)]; exact Or.inr e1) (by rw [b_up_c _ _ _ _ _ _ (by decide)]; exact h.cu _ _ (by decide)))
      have hM2 := (h.mq.up d 1 (c := 25) (by decide) hI1).up d (b_num τ t) (c := 27) (by decide) hI2
      exact ps_pass h hM2 rfl (fun c i hc => by rw [b_up_c _ _ _ _ _ _ (by omega), b_up_c _ _ _ _ _ _ (by omega)]) hJ2 (fun c i _ _ => rfl) (fun i _ => rfl) (h.v0 (fun i => by rw [pu_up_ne _ _ _ _ (by decide), pu_up_ne _ _ _ _ (by decide)]) (fun i => by rw [pu_up_ne _ _ _ _ (by decide), pu_up_ne _ _ _ _ (by decide)]))
  by_cases a1 : b_act τ t = 1
  · simp only [if_pos a1, if_neg a0, if_neg (show ¬ 1 < b_act τ t by omega)]
    have e1 : c_has τ.1 d (b_s τ t) = decide (τ.1 25 d = 1) := by simp [c_has, hk]
    have e2 : c_vb τ.1 d = τ.1 27 d := by simp [c_vb, hk]
    rw [e1, e2] at hl
    simpa using hl
  · simp only [if_neg a0, if_neg a1, if_pos (show 1 < b_act τ t by omega)]
    exact ps_end h (by decide) (by decide)
theorem pause_ps {κ : aS} {τ : bS} {d t : Int} (h : AH κ τ d t) (hk : τ.1 18 d = 10) : PS τ (b_pause τ d t (b_act τ t)) d t (c_pause κ d (b_s τ t)) := by
  have hI := h.2.1
  have hJ := h.2.2.1
  have e25 := h.e 25 d rfl
  have hact := h.2.2.2.2.2.2.1
  obtain ⟨e11, e12⟩ := h.act
  obtain ⟨g0, g1⟩ := h.jk.2.2.2.2.2.2.2.1 hk
  have hw : JK (b_wait τ d t) d := JK.k10 (by rw [b_wait_c _ _ _ _ _ (by decide)]; exact hk) ⟨by rw [b_wait_c _ _ _ _ _ (by decide)]; exact g0, by rw [b_wait_c _ _ _ _ _ (by decide)]; exact g1⟩ h.cw
  have hl := look_ps h ⟨by omega, by omega⟩ hw
  have hpass : ∀ p, (p = 0 ∨ p = 1) → PS τ (b_passes (b_up τ 25 d p) t 0) d t (0, pu_up κ 25 d p) := fun p hp => by
    have hI1 : WI (b_up τ 25 d p) := hI.upd _ _ rfl
    have e1 : (b_up τ 25 d p).1 25 d = p := pu_up_at _ _ _ _
    have hJ1 : JA (b_up τ 25 d p) := hJ.up1 hI (by decide) (JK.k10 (by rw [b_up_c _ _ _ _ _ _ (by decide)]; exact hk) ⟨by rw [e1]; exact hp, by rw [b_up_c _ _ _ _ _ _ (by decide)]; exact g1⟩ (h.cu _ _ (by decide)))
    exact ps_pass h (h.mq.up d p (c := 25) (by decide) hI1) rfl (fun c i hc => by rw [b_up_c _ _ _ _ _ _ (by omega)]) hJ1 (fun c i _ _ => rfl) (fun i _ => rfl) (h.v0 (fun i => by rw [pu_up_ne _ _ _ _ (by decide)]) (fun i => by rw [pu_up_ne _ _ _ _ (by decide)]))
  unfold c_pause b_pause
  rw [e11]
  by_cases a0 : b_act τ t = 0
  · rw [if_pos a0, if_neg (by omega), if_neg (by omega), a0, show jm_wr (1 - 0) = 1 by decide]
    exact hpass 1 (Or.inr rfl)
  by_cases a1 : b_act τ t = 1
  · simp only [if_neg a0, if_pos a1, if_neg (show ¬ 2 < b_act τ t by omega), if_neg (show ¬ b_act τ t = 2 by omega)]
    rw [a1, show jm_wr (1 - 1) = 0 by decide]
    exact hpass 0 (Or.inl rfl)
  by_cases a2 : b_act τ t = 2
  · simp only [if_neg a0, if_neg a1, if_neg (show ¬ 2 < b_act τ t by omega), if_pos a2]
    have e1 : c_has τ.1 d (b_s τ t) = decide (τ.1 25 d = 0) := by simp [c_has, hk]
    have e2 : c_vb τ.1 d = 0 := by simp [c_vb, hk]
    rw [e1, e2] at hl
    by_cases c1 : τ.1 25 d = 1
    · rw [if_pos c1]
      rw [if_neg (by rw [c1]; decide)] at hl
      exact hl
    · rw [if_neg c1]
      rw [if_pos (by simp; omega)] at hl
      exact hl
  · simp only [if_neg a0, if_neg a1, if_neg a2, if_pos (show 2 < b_act τ t by omega)]
    exact ps_end h (by decide) (by decide)
