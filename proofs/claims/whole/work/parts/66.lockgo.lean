theorem JA.j5 {τ : bS} (hJ : JA τ) {d : Int} (hd0 : 0 ≤ d) (hd1 : d < 12) (hk : τ.1 18 d = 5) : J5 τ d := (hJ d hd0 hd1).2.2.2.1 hk
theorem Mq.sp5 {κ : aS} {τ : bS} {d : Int} {Λ : Int → List Int} {pre P : List Int} (h : Mq κ τ d Λ pre P) (hd0 : 0 ≤ d) (hd1 : d < 12) (hk : τ.1 18 d = 5) : κ 43 d = b_lookers τ d := (h.1.2.2.2.2.2.2.2.1 d hd0 hd1).1 hk
theorem WI.up29 {τ : bS} (h : WI τ) (i v : Int) (hv : 0 ≤ v ∧ v ≤ 1) : WI (b_up τ 29 i v) := h.upb i v (Or.inl ⟨rfl, hv⟩)
theorem ad_sim {κ : aS} {τ : bS} {d : Int} {Λ : Int → List Int} {pre P : List Int} (hd0 : 0 ≤ d) (hd1 : d < 12) (hk : τ.1 18 d = 5) (h28 : τ.1 28 d < 0) (h : Mq κ τ d Λ pre P) (hJ : JA τ) (hp : ∀ z ∈ Λ d, ps τ z = false) : ∃ P', Mq (c_adgo κ d) (b_letsGo τ d 17) d Λ pre P' ∧ JA (b_letsGo τ d 17) ∧ b_letsOne (b_letsGo τ d 17) d = none := by
  have l16 := h.len hd0 hd1
  have e23 : κ 23 d = ((Λ d).length : Nat) := (h.2.1 d hd0 hd1).1
  have g := lets_sim (Λ := Λ) (pre := pre) hd0 hd1 (f := c_ad d) (fun κ τ l1 => JA τ ∧ τ.1 18 d = 5 ∧ τ.1 28 d < 0 ∧ ∀ z ∈ l1, wt τ z = false) ?_ ?_ ?_ (Λ d) [] κ τ P 17 rfl h ⟨hJ, hk, h28, by simp⟩ hp (by omega)
  · obtain ⟨P', l', g1, g2⟩ := g
    refine ⟨P', ?_, g2.1.1, g2.2⟩
    unfold c_adgo
    rw [e23, Int.toNat_natCast]
    exact g1
  · intro κ τ P l1 l2 x hl hM hq hw
    obtain ⟨q1, q2, q3, q4⟩ := hq
    refine ⟨q1, q2, q3, fun z hz => ?_⟩
    rcases List.mem_append.mp hz with hz | hz
    · exact q4 z hz
    · rw [List.mem_singleton.mp hz]
      exact hw
  · intro κ τ P l1 l2 x hl hM hq hw
    obtain ⟨q1, q2, q3, q4⟩ := hq
    have hx := hM.mem hd0 hd1 (by rw [hl]; simp) hw
    have hI := hM.2.2.2.1
    have xr := hI.rg hd0 hd1 x hx
    have hsp := hM.split hd0 hd1 hl hw
    have hl0 : l1.filter (wt τ) = [] := List.filter_eq_nil_iff.mpr (fun z hz => by rw [q4 z hz]; decide)
    rw [hl0, List.nil_append] at hsp
    have xO := hM.ok hd0 hd1 (x := x) (by rw [hl]; simp)
    have hnd := hM.nd hd0 hd1 hl
    have xd := bs_div xO
    obtain ⟨k1, k2, k3, k4⟩ := q1.j5 hd0 hd1 q2
    obtain ⟨a1, a2, a3⟩ := k4 x hx
    have na3 : b_act τ x ≠ 3 := fun e => by
      have := a2.mp e
      omega
    rw [if_neg na3] at a3
    have e11 : κ 11 (b_s τ x) = b_act τ x := hM.1.1 11 _ rfl
    have e26 : κ 26 d = τ.1 26 d := hM.1.1 26 d rfl
    have e43 := hM.sp5 hd0 hd1 q2
    have lr := b_look_rg hI hd0 hd1
    have eact : τ.1 11 (20 * x + τ.1 4 x - 1) = b_act τ x := rfl
    have tail : ∀ τ1 : bS, (∀ i, τ1.1 4 i = τ.1 4 i) → (∀ i, τ1.1 14 i = τ.1 14 i) → ∀ z ∈ l1 ++ [x], wt (b_out τ1 x 0 0) z = false := fun τ1 s4 s14 z hz => by
      have eO : ∀ z, OKt τ z → OKt τ1 z := fun z hz => by
        unfold OKt at hz ⊢
        rw [s4]
        exact hz
      have ewt : wt τ1 z = wt τ z := by
        unfold wt b_s
        rw [s4, s14]
      rcases List.mem_append.mp hz with hz | hz
      · rw [wt_out (eO x xO) (eO z (hM.ok hd0 hd1 (by rw [hl]; exact List.mem_append_left _ hz))) (fun e => hnd.1 (e ▸ hz)), ewt]
        exact q4 z hz
      · rw [List.mem_singleton.mp hz]
        exact wt_self (by decide)
    have o28 : ∀ τ1 : bS, τ1.1 28 d = τ.1 28 d → (b_out τ1 x 0 0).1 28 d < 0 := fun τ1 e => by
      rw [b_out_28]
      split
      · decide
      · rw [e]
        exact q3
    by_cases hf : τ.1 26 d = -1 ∧ (b_act τ x = 0 ∨ b_lookers τ d = 0)
    · have hfree : c_free κ d (b_s τ x) = true := by
        unfold c_free
        rw [e11, e26, e43]
        simp only [Bool.and_eq_true, Bool.or_eq_true, decide_eq_true_eq]
        exact hf
      refine Or.inr (Or.inr ?_)
      by_cases ha : b_act τ x = 0
      · have hI1 : WI (b_up τ 29 (16 * d + x) 1) := hI.up29 _ _ (by decide)
        refine ⟨c_addL κ d x, c_pass (c_addL κ d x) (b_s τ x) 0, b_up τ 29 (16 * d + x) 1, 0, ?_, ?_, ?_, fun i => b_up_c _ _ _ _ _ _ (by decide), fun i => b_up_c _ _ _ _ _ _ (by decide), fun c i h1 h2 => c_pass_c _ _ _ _ _ h1 h2, fun i => c_pass_14 _ _ _ _, fun i => c_pass_15 _ _ _ _, ?_, ?_, ?_, tail _ (fun i => b_up_c _ _ _ _ _ _ (by decide)) (fun i => b_up_c _ _ _ _ _ _ (by decide))⟩
        · unfold c_ad
          rw [if_pos hfree]
          unfold c_las
          rw [e11, if_pos ha, xd]
        · rw [lets_5 q2 hsp, b_out_0]
          unfold b_letsLock
          rw [eact, if_neg (by omega), if_neg (by omega), if_neg (by omega)]
        · unfold c_addL
          refine hM.look xr.1 xr.2 hI1 ?_
          rw [e43, a3, jm_wr_id (by omega) (by omega)]
          omega
        · refine q1.lock hI hI1 hd0 hd1 q2 hx rfl (fun c i _ h2 => b_up_c _ _ _ _ _ _ h2) (fun i _ => b_up_c _ _ _ _ _ _ (by decide)) (fun i hi => ?_) ?_
          · show pu_up τ.1 29 _ 1 29 i = _
            rw [pu_up_c, if_neg hi]
          · rw [b_up_c _ _ _ _ _ _ (by decide)]
            refine ⟨k1, k2, fun z => ?_⟩
            omega
        · rw [b_out_c _ _ _ _ _ _ (by decide), b_up_c _ _ _ _ _ _ (by decide)]
          exact q2
        · exact o28 _ (b_up_c _ _ _ _ _ _ (by decide))
      · have ha1 : b_act τ x = 1 := by omega
        have hl00 : b_lookers τ d = 0 := by omega
        have hI1 : WI (b_up τ 26 d x) := hI.upd _ _ rfl
        refine ⟨pu_up κ 26 d x, c_pass (pu_up κ 26 d x) (b_s τ x) 0, b_up τ 26 d x, 0, ?_, ?_, hM.up d x (by decide) hI1, fun i => b_up_c _ _ _ _ _ _ (by decide), fun i => b_up_c _ _ _ _ _ _ (by decide), fun c i h1 h2 => c_pass_c _ _ _ _ _ h1 h2, fun i => c_pass_14 _ _ _ _, fun i => c_pass_15 _ _ _ _, ?_, ?_, ?_, tail _ (fun i => b_up_c _ _ _ _ _ _ (by decide)) (fun i => b_up_c _ _ _ _ _ _ (by decide))⟩
        · unfold c_ad
          rw [if_pos hfree]
          unfold c_las
          rw [e11, if_neg ha, xd]
        · rw [lets_5 q2 hsp, b_out_0]
          unfold b_letsLock
          rw [eact, if_neg (by omega), if_neg (by omega), if_pos ha1]
        · refine q1.lock hI hI1 hd0 hd1 q2 hx rfl (fun c i h1 _ => b_up_c _ _ _ _ _ _ h1) (fun i hi => ?_) (fun i _ => b_up_c _ _ _ _ _ _ (by decide)) ?_
          · show pu_up τ.1 26 d x 26 i = _
            rw [pu_up_c, if_neg hi]
          · have e1 : (b_up τ 26 d x).1 26 d = x := pu_up_at _ _ _ _
            rw [e1]
            refine ⟨by omega, xr.2, fun z i i0 i1 => ?_⟩
            rw [b_up_c _ _ _ _ _ _ (by decide)]
            exact b_look_0 hI hd0 hd1 hl00 i i0 i1
        · rw [b_out_c _ _ _ _ _ _ (by decide), b_up_c _ _ _ _ _ _ (by decide)]
          exact q2
        · exact o28 _ (b_up_c _ _ _ _ _ _ (by decide))
    · refine Or.inl ⟨?_, ?_⟩
      · unfold c_ad
        rw [if_neg]
        unfold c_free
        rw [e11, e26, e43]
        simp only [Bool.and_eq_true, Bool.or_eq_true, decide_eq_true_eq]
        exact hf
      · rw [lets_5 q2 hsp]
        unfold b_letsLock
        rw [eact, if_neg (by omega), if_pos (by omega)]
  · intro κ τ P hM hq
    obtain ⟨q1, q2, q3, q4⟩ := hq
    refine lets_nil ?_
    rw [(hM.2.1 d hd0 hd1).2.2.1]
    exact List.filter_eq_nil_iff.mpr (fun z hz => by rw [q4 z hz]; decide)
theorem lk_sim {κ : aS} {τ : bS} {d : Int} {Λ : Int → List Int} {pre P : List Int} (hd0 : 0 ≤ d) (hd1 : d < 12) (hk : τ.1 18 d = 5) (h : Mq κ τ d Λ pre P) (hJ : JA τ) (hp : ∀ z ∈ Λ d, ps τ z = false) : ∃ P', Mq (c_lockgo κ d) (b_letsGo τ d 17) d Λ pre P' ∧ JA (b_letsGo τ d 17) ∧ b_letsOne (b_letsGo τ d 17) d = none := by
  have hI := h.2.2.2.1
  obtain ⟨k1, k2, k3, k4⟩ := hJ.j5 hd0 hd1 hk
  have hf := h.first hd0 hd1 3
  have e43 := h.sp5 hd0 hd1 hk
  unfold c_lockgo
  by_cases h28 : τ.1 28 d < 0
  · have hno : (τ.2 d).find? (fun x => decide (b_act τ x = 3)) = none := l_find_no (fun z hz => by
      have h1 := (k4 z hz).2.1
      have h2 := hI.rg hd0 hd1 z hz
      have : ¬ b_act τ z = 3 := fun e => by
        have := h1.mp e
        omega
      simpa using this)
    rw [hno] at hf
    rw [hf]
    exact ad_sim hd0 hd1 hk h28 h hJ hp
  · have h7 := hI.2.2.2.2.2.2.1 d hd0 hd1 hk
    have hx : τ.1 28 d ∈ τ.2 d := h7.2 (by omega)
    obtain ⟨x, ex⟩ : ∃ x, τ.1 28 d = x := ⟨_, rfl⟩
    rw [ex] at hx h28 h7
    have ax : b_act τ x = 3 := (k4 x hx).2.1.mpr ex
    have xr := hI.rg hd0 hd1 x hx
    have hys : (τ.2 d).find? (fun x => decide (b_act τ x = 3)) = some x := l_find_uq hx (by simpa using ax) (fun z hz hz3 => by
      have := (k4 z hz).2.1.mp (by simpa using hz3)
      omega)
    rw [hys] at hf
    have hxL : x ∈ Λ d := by
      rw [(h.2.1 d hd0 hd1).2.2.1] at hx
      exact (List.mem_filter.mp hx).1
    have hxw : wt τ x = true := by
      rw [(h.2.1 d hd0 hd1).2.2.1] at hx
      exact (List.mem_filter.mp hx).2
    have xO := h.ok hd0 hd1 hxL
    rw [hf]
    simp only [Option.map_some]
    rw [e43, bs_div xO]
    obtain ⟨f, l, hfl⟩ : ∃ f l, τ.2 d = f :: l := by
      cases hh : τ.2 d with
      | nil => rw [hh] at hx; cases hx
      | cons f l => exact ⟨f, l, rfl⟩
    by_cases hc : b_lookers τ d = 1
    · rw [if_pos hc]
      have a29 : τ.1 29 (16 * d + x) = 1 := by
        rw [(k4 x hx).2.2, if_pos ax]
      have hI1 : WI (b_up τ 29 (16 * d + x) 0) := hI.up29 _ _ (by decide)
      have hI2 : WI (b_up (b_up τ 29 (16 * d + x) 0) 26 d x) := hI1.upd _ _ rfl
      obtain ⟨l1, l2, hl⟩ := List.append_of_mem hxL
      have hM1 : Mq (c_dropL κ d x) (b_up τ 29 (16 * d + x) 0) d Λ pre P := by
        unfold c_dropL
        refine h.look xr.1 xr.2 hI1 ?_
        rw [e43, a29, hc]
        rfl
      have hM2 : Mq (c_user κ d x) (b_up (b_up τ 29 (16 * d + x) 0) 26 d x) d Λ pre P := hM1.up d x (by decide) hI2
      have ebs : b_s (b_up (b_up τ 29 (16 * d + x) 0) 26 d x) x = b_s τ x := by rw [b_s_up _ _ _ _ (by decide), b_s_up _ _ _ _ (by decide)]
      have ewt : wt (b_up (b_up τ 29 (16 * d + x) 0) 26 d x) x = true := by rw [wt_up _ _ _ _ (by decide), wt_up _ _ _ _ (by decide)]; exact hxw
      have hM3 := hM2.out (κ' := c_pass (c_user κ d x) (b_s τ x) 0) (o := 0) (w := 0) hd0 hd1 hl ewt (by decide) (fun _ z hz => ?_) (fun c i h1 h2 => c_pass_c _ _ _ _ _ h1 h2) (fun i => by rw [ebs]; exact c_pass_14 _ _ _ _) (fun i => by rw [ebs]; exact c_pass_15 _ _ _ _)
      · have hone : b_letsOne τ d = some (b_out (b_up (b_up τ 29 (16 * d + x) 0) 26 d x) x 0 0) := by
          rw [lets_5 hk hfl, b_out_0]
          unfold b_letsLock
          rw [ex, if_pos (by omega), if_pos hc]
        have hC : ∀ (c : Nat) (i : Int), c ≠ 26 → c ≠ 29 → (b_up (b_up τ 29 (16 * d + x) 0) 26 d x).1 c i = τ.1 c i := fun c i h1 h2 => by rw [b_up_c _ _ _ _ _ _ h1, b_up_c _ _ _ _ _ _ h2]
        have e26 : (b_up (b_up τ 29 (16 * d + x) 0) 26 d x).1 26 d = x := pu_up_at _ _ _ _
        have hz : b_lookers (b_up τ 29 (16 * d + x) 0) d = 0 := by
          rw [b_look_up xr.1 xr.2, a29, hc]
          rfl
        have hJ3 : JA (b_out (b_up (b_up τ 29 (16 * d + x) 0) 26 d x) x 0 0) := by
          refine hJ.lock hI hI2 hd0 hd1 hk hx rfl hC (fun i hi => ?_) (fun i hi => ?_) ?_
          · show pu_up (b_up τ 29 (16 * d + x) 0).1 26 d x 26 i = _
            rw [pu_up_c, if_neg hi, b_up_c _ _ _ _ _ _ (by decide)]
          · rw [b_up_c _ _ _ _ _ _ (by decide)]
            show pu_up τ.1 29 _ 0 29 i = _
            rw [pu_up_c, if_neg hi]
          · rw [e26]
            refine ⟨by omega, xr.2, fun _ i i0 i1 => ?_⟩
            rw [b_up_c _ _ _ _ _ _ (by decide)]
            exact b_look_0 hI1 hd0 hd1 hz i i0 i1
        have hnone : b_letsOne (b_out (b_up (b_up τ 29 (16 * d + x) 0) 26 d x) x 0 0) d = none := by
          cases hh : (b_out (b_up (b_up τ 29 (16 * d + x) 0) 26 d x) x 0 0).2 d with
          | nil => exact lets_nil hh
          | cons f l =>
            rw [lets_5 (by rw [b_out_c _ _ _ _ _ _ (by decide), hC 18 d (by decide) (by decide)]; exact hk) hh]
            unfold b_letsLock
            have h5 : (b_up (b_up τ 29 (16 * d + x) 0) 26 d x).1 5 x = d := by
              rw [hC 5 x (by decide) (by decide)]
              exact ((hI.2.2.1 d hd0 hd1).2 x hx).2.2.1
            have h28' : (b_out (b_up (b_up τ 29 (16 * d + x) 0) 26 d x) x 0 0).1 28 d = -1 := by
              rw [b_out_28, h5, hC 28 d (by decide) (by decide), if_pos ⟨rfl, ex⟩]
            have h26' : (b_out (b_up (b_up τ 29 (16 * d + x) 0) 26 d x) x 0 0).1 26 d = x := by
              rw [b_out_c _ _ _ _ _ _ (by decide)]
              exact e26
            rw [h28', if_neg (by decide), h26', if_pos (Or.inl xr.1)]
        have hgo : b_letsGo τ d 17 = b_out (b_up (b_up τ 29 (16 * d + x) 0) 26 d x) x 0 0 := by
          rw [b_letsGo, hone]
          exact b_letsGo_no hnone 16
        rw [hgo]
        exact ⟨_, hM3, hJ3, hnone⟩
      · have := hp z (by rw [hl]; exact List.mem_append_right _ (List.mem_cons_of_mem _ hz))
        unfold ps at this ⊢
        rw [b_s_up _ _ _ _ (by decide), b_s_up _ _ _ _ (by decide), b_up_c _ _ _ _ _ _ (by decide), b_up_c _ _ _ _ _ _ (by decide)]
        exact this
    · rw [if_neg hc]
      have hnone : b_letsOne τ d = none := by
        rw [lets_5 hk hfl]
        unfold b_letsLock
        rw [ex, if_pos (by omega), if_neg hc]
      rw [b_letsGo_no hnone]
      exact ⟨P, h, hJ, hnone⟩
