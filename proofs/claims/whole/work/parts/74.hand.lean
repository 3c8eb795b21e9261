theorem ps_mark {κ κ1 κ' : aS} {τ τ1 : bS} {d t u w : Int} {l : List Int} (h : AH κ τ d t) (g1 : Mq κ1 τ1 d τ.2 [t] []) (h2 : τ1.2 = τ.2) (hl : τ.2 d = u :: l) (hC : ∀ (c : Nat) (i : Int), c = 4 ∨ c = 2 → τ1.1 c i = τ.1 c i) (hk : ∀ (c : Nat) (i : Int), c ≠ 14 → c ≠ 15 → κ' c i = κ1 c i) (hk14 : ∀ i, i ≠ b_s τ t → κ' 14 i = if i = b_s τ u then 0 else κ1 14 i) (hk1 : κ1 14 (b_s τ t) = 0) (hk15 : ∀ i, κ' 15 i = if i = b_s τ u then w else κ1 15 i) (hJ1 : JA τ1) (hkd : τ1.1 18 d = 3 ∨ τ1.1 18 d = 4 ∨ τ1.1 18 d = 6 ∨ τ1.1 18 d = 9) : PS τ (b_goes τ1 u w) d t (0, κ') := by
  obtain ⟨hC0, hI, hJ, ha, _, h20, hact, h7, hd0, hd1⟩ := h
  have hu : u ∈ τ.2 d := by rw [hl]; exact List.mem_cons_self
  have es : ∀ z, b_s τ1 z = b_s τ z := fun z => by unfold b_s; rw [hC 4 z (by decide)]
  have uO := (hC0.2 d hd0 hd1).2.2.2.2 u hu
  have sne : b_s τ u ≠ b_s τ t := fun e => ha.ne hd0 hd1 hu (bs_inj uO ha.1 e)
  have hwu : wt τ1 u = true := by
    have hu2 : u ∈ τ1.2 d := by rw [h2]; exact hu
    rw [(g1.2.1 d hd0 hd1).2.2.1] at hu2
    exact (List.mem_filter.mp hu2).2
  have g2 := g1.out (κ' := pu_up κ' 14 (b_s τ t) 0) (o := 0) (w := w) hd0 hd1 (l1 := []) (l2 := l) (x := u) (by rw [hl]; rfl) hwu (by decide) (fun _ z hz => g1.nops z (by rw [hl]; exact List.mem_cons_of_mem _ hz)) (fun c i h1 h2 => by rw [pu_up_ne _ _ _ _ h1, hk c i h1 h2]) (fun i => ?_) (fun i => by rw [es, pu_up_ne _ _ _ _ (by decide)]; exact hk15 i)
  · rw [b_out_0] at g2
    refine Or.inl ⟨show (0 : Int) ≠ 1 by decide, τ.2, [] ++ [u], g2, ?_, Or.inr ?_, ?_, ?_⟩
    · rw [← b_out_0]
      exact hJ1.out g1.2.2.2.1 hd0 hd1 (by rw [h2]; exact hu) _ _
    · rw [← b_out_0, b_out_c _ _ _ _ _ _ (by decide)]
      exact hkd
    · rw [← b_out_0, b_out_s, es]
    · rw [← b_out_0, b_out_c _ _ _ _ _ _ (by decide), hC 2 0 (by decide)]
  · rw [es, pu_up_c]
    by_cases h1 : i = b_s τ t
    · rw [if_pos h1, if_neg (fun e => sne (e.symm.trans h1)), h1, hk1]
    · rw [if_neg h1, hk14 i h1]
theorem c_pick_c (κ : aS) (d : Int) (c : Nat) (i : Int) (h1 : c ≠ 24) (h2 : c ≠ 32) : c_pick κ d c i = κ c i := by
  unfold c_pick
  rw [pu_up_ne _ _ _ _ h1, q_lies_k _ _ _ _ _ h2]
theorem dv_mr {c : Nat} (h : dv_c c = true) : mr_c c = true := by
  unfold dv_c at h
  simp only [Bool.or_eq_true, beq_iff_eq] at h
  rcases h with ((((((h | h) | h) | h) | h) | h) | h) | h <;> (subst h; rfl)
theorem dv_ne {c : Nat} (h : dv_c c = false) : c ≠ 20 ∧ c ≠ 24 ∧ c ≠ 25 ∧ c ≠ 26 ∧ c ≠ 27 ∧ c ≠ 30 ∧ c ≠ 31 ∧ c ≠ 32 := by
  refine ⟨?_, ?_, ?_, ?_, ?_, ?_, ?_, ?_⟩ <;> (intro e; subst e; exact absurd h (by decide))
theorem hand_ps {κ : aS} {τ : bS} {d t : Int} (h : AH κ τ d t) (hk : τ.1 18 d = 6) : PS τ (b_hand τ d t (b_act τ t) (b_num τ t)) d t (c_hand κ d (b_s τ t)) := by
  have hI := h.2.1
  have hJ := h.2.2.1
  have ha := h.2.2.2.1
  have hact := h.2.2.2.2.2.2.1
  have hd0 := h.2.2.2.2.2.2.2.2.1
  have hd1 := h.2.2.2.2.2.2.2.2.2
  obtain ⟨e11, e12⟩ := h.act
  have e24 := h.e 24 d rfl
  have e19 := h.e 19 d rfl
  obtain ⟨q1, q2, q3⟩ := h.jk.2.2.2.2.1 hk
  obtain ⟨r0, r1, r2⟩ := hI.2.2.2.2.2.2.2.1 d hd0 hd1 hk
  have hf0 := h.mq.first hd0 hd1 0
  have hf1 := h.mq.first hd0 hd1 1
  have wtk : (b_wait τ d t).1 18 d = 6 := by rw [b_wait_c _ _ _ _ _ (by decide)]; exact hk
  -- t behind the line, where all do what it does
  have hwait : (b_act τ t = 0 ∨ (b_act τ t = 1 ∧ τ.1 24 d = 0)) → (∀ z ∈ τ.2 d, b_act τ z = b_act τ t) → PS τ (b_waits τ t) d t (1, κ) := fun h1 h2 => by
    refine pw_plain h ⟨by omega, by omega⟩ (JK.k6 wtk ⟨fun z hz => ?_, fun z hz x hx => ?_, fun z hz => ?_⟩ h.cw)
    · rw [b_wait_act]
      rcases h.wm hz with hz | hz
      · exact q1 z hz
      · rw [hz]; omega
    · rw [b_wait_act, b_wait_act]
      have e1 : b_act τ z = b_act τ t := by
        rcases h.wm hz with hz | hz
        · exact h2 z hz
        · rw [hz]
      have e2 : b_act τ x = b_act τ t := by
        rcases h.wm hx with hx | hx
        · exact h2 x hx
        · rw [hx]
      rw [e1, e2]
    · rw [b_wait_act, b_wait_c _ _ _ _ _ (by decide)]
      rcases h.wm hz with hz | hz
      · exact q3 z hz
      · rw [hz]; omega
  have own0 : ∀ v, Mq (pu_up (pu_up κ 15 (b_s τ t) v) 14 (b_s τ t) 0) (b_passes τ t v) d τ.2 [t] [] ∧ b_passes τ t v = b_fin τ t 0 v := fun v => h.own (κ1 := κ) (τ1 := τ) h.mq rfl (fun _ _ _ => rfl) (fun c i h1 h2 => by rw [pu_up_ne _ _ _ _ h2, pu_up_ne _ _ _ _ h1]) (fun i => by rw [pu_up_c, pu_up_ne _ _ _ _ (by decide)]) (fun i => by rw [pu_up_ne _ _ _ _ (by decide), pu_up_c])
  -- f is let go, t has passed with v
  have hgo : ∀ (f : Int) (l : List Int) (v w : Int) (κ' : aS), τ.2 d = f :: l → (∀ (c : Nat) (i : Int), c ≠ 14 → c ≠ 15 → κ' c i = κ c i) → (∀ i, κ' 14 i = if i = b_s τ f then 0 else κ 14 i) → (∀ i, κ' 15 i = if i = b_s τ f then w else pu_up κ 15 (b_s τ t) v 15 i) → PS τ (b_goes (b_passes τ t v) f w) d t (0, κ') := fun f l v w κ' hl k1 k2 k3 => by
    obtain ⟨g1, ef⟩ := own0 v
    refine ps_mark h g1 (by rw [ef, b_fin_2]) hl (fun c i hc => by rw [ef, b_fin_c _ _ _ _ _ _ (by omega)]) (fun c i h1 h2 => by rw [k1 c i h1 h2, pu_up_ne _ _ _ _ h1, pu_up_ne _ _ _ _ h2]) (fun i hi => ?_) (pu_up_at _ _ _ _) (fun i => ?_) (by rw [ef]; exact hJ.fin hI t 0 v) (Or.inr (Or.inr (Or.inl (by rw [ef, b_fin_c _ _ _ _ _ _ (by decide)]; exact hk))))
    · rw [k2 i, pu_up_c, if_neg hi, pu_up_ne _ _ _ _ (by decide)]
    · rw [k3 i, pu_up_ne (pu_up κ 15 (b_s τ t) v) _ _ _ (by decide)]
  have e15 : pu_up κ 15 (b_s τ t) 0 = κ := by
    funext c i
    unfold pu_up
    split
    · rename_i hh
      rw [hh.1, hh.2]
      exact h.2.2.2.2.1.symm
    · rfl
  unfold c_hand b_hand
  rw [e11]
  by_cases a0 : b_act τ t = 0
  · simp only [if_pos a0, if_neg (show ¬ 1 < b_act τ t by omega)]
    unfold c_put
    rw [e12, e24, e19]
    -- lays it down
    have hlay : (∀ z ∈ τ.2 d, b_act τ z ≠ 1) → τ.1 24 d < τ.1 19 d → PS τ (b_passes (b_puts τ d (b_num τ t)) t 0) d t (0, c_lay κ d (b_num τ t)) := fun hno hlt => by
      have hI1 : WI (b_up τ 32 (8 * d + τ.1 24 d) (b_num τ t)) := hI.upd _ _ rfl
      have hI2 : WI (b_puts τ d (b_num τ t)) := hI1.up24 _ _ (fun _ => by rw [b_up_c _ _ _ _ _ _ (by decide)]; omega)
      have hJ1 : JA (b_up τ 32 (8 * d + τ.1 24 d) (b_num τ t)) := fun e e0 e1 => (hJ e e0 e1).up (hI.rg e0 e1) e1 _ _ (by simp)
      have hJ2 : JA (b_puts τ d (b_num τ t)) := hJ1.up1 hI1 (by decide) (JK.k6 (by rw [b_up_c _ _ _ _ _ _ (by decide), b_up_c _ _ _ _ _ _ (by decide)]; exact hk) ⟨fun z hz => by rw [b_act_up _ _ _ _ (by decide), b_act_up _ _ _ _ (by decide)]; exact q1 z hz, fun z hz x hx => by rw [b_act_up _ _ _ _ (by decide), b_act_up _ _ _ _ (by decide), b_act_up _ _ _ _ (by decide), b_act_up _ _ _ _ (by decide)]; exact q2 z hz x hx, fun z hz e => by
        rw [b_act_up _ _ _ _ (by decide), b_act_up _ _ _ _ (by decide)] at e
        exact absurd e (hno z hz)⟩ (by rw [b_up_c _ _ _ _ _ _ (by decide), b_up_c _ _ _ _ _ _ (by decide)]; exact h.jk.c))
      have hM2 := (h.mq.up (8 * d + τ.1 24 d) (b_num τ t) (c := 32) (by decide) hI1).up d (τ.1 24 d + 1) (c := 24) (by decide) hI2
      have el : c_lay κ d (b_num τ t) = pu_up (pu_up κ 32 (8 * d + τ.1 24 d) (b_num τ t)) 24 d (τ.1 24 d + 1) := by
        unfold c_lay
        rw [e24]
      rw [el]
      exact ps_pass h hM2 rfl (fun c i hc => by
        unfold b_puts
        rw [b_up_c _ _ _ _ _ _ (by omega), b_up_c _ _ _ _ _ _ (by omega)]) hJ2 (fun _ _ _ _ => rfl) (fun _ _ => rfl) (h.v0 (fun i => by rw [pu_up_ne _ _ _ _ (by decide), pu_up_ne _ _ _ _ (by decide)]) (fun i => by rw [pu_up_ne _ _ _ _ (by decide), pu_up_ne _ _ _ _ (by decide)]))
    have hnone : (∀ z ∈ τ.2 d, b_act τ z ≠ 1) → PS τ (if τ.1 24 d < τ.1 19 d then b_passes (b_puts τ d (b_num τ t)) t 0 else b_waits τ t) d t (if τ.1 24 d < τ.1 19 d then (0, c_lay κ d (b_num τ t)) else (1, κ)) := fun hno => by
      by_cases c : τ.1 24 d < τ.1 19 d
      · rw [if_pos c, if_pos c]
        exact hlay hno c
      · rw [if_neg c, if_neg c]
        refine hwait (Or.inl a0) (fun z hz => ?_)
        have := q1 z hz
        have := hno z hz
        omega
    cases hl : τ.2 d with
    | nil =>
      rw [hl] at hf1
      rw [hf1]
      simp only [List.find?_nil, Option.map_none]
      exact hnone (by rw [hl]; simp)
    | cons f l =>
      have hfm : f ∈ τ.2 d := by rw [hl]; exact List.mem_cons_self
      dsimp only
      rw [show τ.1 11 (20 * f + τ.1 4 f - 1) = b_act τ f from rfl]
      by_cases cf : b_act τ f = 1
      · have e1 : c_first κ d 1 = some (b_s τ f) := by
          rw [hf1, hl, List.find?_cons]
          simp [cf]
        rw [e1, if_pos cf]
        dsimp only
        exact hgo f l 0 (b_num τ t) _ hl (fun c i h1 h2 => c_pass_c _ _ _ _ _ h1 h2) (fun i => c_pass_14 _ _ _ _) (fun i => by rw [e15]; exact c_pass_15 _ _ _ _)
      · have hno : ∀ z ∈ τ.2 d, b_act τ z ≠ 1 := fun z hz => by
          rw [q2 z hz f hfm]
          exact cf
        have e1 : c_first κ d 1 = none := by
          rw [hf1, l_find_no (fun z hz => by simpa using hno z hz)]
          rfl
        rw [e1, if_neg cf]
        exact hnone hno
  by_cases a1 : b_act τ t = 1
  · simp only [if_neg a0, if_pos a1, if_neg (show ¬ 1 < b_act τ t by omega)]
    unfold c_tk
    rw [e24]
    by_cases c1 : 0 < τ.1 24 d
    · simp only [if_pos c1]
      have hno : ∀ z ∈ τ.2 d, b_act τ z = 0 := fun z hz => by
        have := q1 z hz
        have := q3 z hz
        omega
      -- the first is taken away
      have eT : ∀ (c : Nat) (i : Int), c ≠ 24 → c ≠ 32 → (b_lies (b_up τ 24 d (τ.1 24 d - 1)) d (τ.1 24 d - 1)).1 c i = τ.1 c i := fun c i n1 n2 => by
        show q_lies (pu_up τ.1 24 d (τ.1 24 d - 1)) d (τ.1 24 d - 1) c i = _
        rw [q_lies_k _ _ _ _ _ n2, pu_up_ne _ _ _ _ n1]
      have t24 : ∀ i, (b_lies (b_up τ 24 d (τ.1 24 d - 1)) d (τ.1 24 d - 1)).1 24 i = if i = d then τ.1 24 d - 1 else τ.1 24 i := fun i => by
        show q_lies (pu_up τ.1 24 d (τ.1 24 d - 1)) d (τ.1 24 d - 1) 24 i = _
        rw [q_lies_k _ _ _ _ _ (by decide), pu_up_c]
      have hIa0 : WI (b_up τ 24 d (τ.1 24 d - 1)) := hI.up24 _ _ (fun _ => by omega)
      have hIa : WI (b_lies (b_up τ 24 d (τ.1 24 d - 1)) d (τ.1 24 d - 1)) := hIa0.congr (fun c i hc _ _ _ _ _ => by
        show q_lies (b_up τ 24 d (τ.1 24 d - 1)).1 d (τ.1 24 d - 1) c i = _
        rw [q_lies_k _ _ _ _ _ (by intro e; subst e; exact absurd hc (by decide))]) (fun e e0 e1 => by
        show 0 ≤ q_lies (b_up τ 24 d (τ.1 24 d - 1)).1 d (τ.1 24 d - 1) 34 e ∧ q_lies (b_up τ 24 d (τ.1 24 d - 1)).1 d (τ.1 24 d - 1) 34 e ≤ 300
        rw [q_lies_k _ _ _ _ _ (by decide)]
        exact ⟨(hIa0.2.2.2.1 e e0 e1).1, (hIa0.2.2.2.1 e e0 e1).2.1⟩) rfl (fun i i0 i1 => hIa0.2.2.2.2.2.1 i i0 i1) (fun e e0 e1 h6 => ⟨(hIa0.2.2.2.2.2.2.2.1 e e0 e1 h6).1, (hIa0.2.2.2.2.2.2.2.1 e e0 e1 h6).2.1⟩)
      have hMa : Mq (c_pick κ d) (b_lies (b_up τ 24 d (τ.1 24 d - 1)) d (τ.1 24 d - 1)) d τ.2 [] [] := by
        refine h.mq.ups (fun c i hc => c_pick_c _ _ _ _ (dv_ne hc).2.1 (dv_ne hc).2.2.2.2.2.2.2) (fun c i hc => eT c i (dv_ne hc).2.1 (dv_ne hc).2.2.2.2.2.2.2) (fun c i hc => ?_) rfl hIa
        by_cases c24 : c = 24
        · subst c24
          rw [t24]
          unfold c_pick
          rw [pu_up_c, e24, q_lies_k _ _ _ _ _ (by decide), h.e 24 i rfl]
        · by_cases c32 : c = 32
          · subst c32
            unfold c_pick
            rw [pu_up_ne _ _ _ _ (by decide), e24]
            show q_lies κ d (τ.1 24 d - 1) 32 i = q_lies (pu_up τ.1 24 d (τ.1 24 d - 1)) d (τ.1 24 d - 1) 32 i
            unfold q_lies
            rw [pu_up_ne _ _ _ _ (by decide), pu_up_ne _ _ _ _ (by decide), h.e 32 _ rfl, h.e 32 _ rfl]
          · rw [c_pick_c _ _ _ _ c24 c32, eT c i c24 c32]
            exact h.e c i (dv_mr hc)
      have eaA : ∀ z, b_act (b_lies (b_up τ 24 d (τ.1 24 d - 1)) d (τ.1 24 d - 1)) z = b_act τ z := fun z => by
        unfold b_act b_s
        rw [eT 4 _ (by decide) (by decide), eT 11 _ (by decide) (by decide)]
      have hJa : JA (b_lies (b_up τ 24 d (τ.1 24 d - 1)) d (τ.1 24 d - 1)) := fun e e0 e1 => by
        by_cases ed : e = d
        · subst ed
          refine JK.k6 (by rw [eT _ _ (by decide) (by decide)]; exact hk) ⟨fun z hz => by rw [eaA]; exact q1 z hz, fun z hz x hx => by rw [eaA, eaA]; exact q2 z hz x hx, fun z hz e => ?_⟩ (by rw [eT _ _ (by decide) (by decide)]; exact h.jk.c)
          rw [eaA, hno z hz] at e
          exact absurd e (by decide)
        · exact (hJ e e0 e1).sub (hI.rg e0 e1) (fun c hc => by
            by_cases c24 : c = 24
            · rw [c24, t24, if_neg ed]
            · exact eT c e c24 (by omega)) (Or.inl (eT _ _ (by decide) (by decide))) (fun i _ _ => eT _ _ (by decide) (by decide)) (fun x hx => hx) (Nat.le_refl _) (fun x _ => ⟨eT _ _ (by decide) (by decide), eT _ _ (by decide) (by decide)⟩) (fun s => eT _ _ (by decide) (by decide)) (fun s => eT _ _ (by decide) (by decide)) (Int.le_of_eq (b_sum_ext 16 (fun i _ _ => (eT 4 i (by decide) (by decide)).symm)))
      have e32 : κ 32 (8 * d) = τ.1 32 (8 * d) := h.e 32 _ rfl
      rw [e32]
      cases hl : τ.2 d with
      | nil =>
        have e1 : c_first κ d 0 = none := by
          rw [hf0, hl]
          rfl
        rw [e1]
        dsimp only
        exact ps_pass h hMa rfl (fun c i hc => eT c i (by omega) (by omega)) hJa (fun c i h1 _ => pu_up_ne _ _ _ _ h1) (fun i _ => pu_up_ne _ _ _ _ (by decide)) (fun i => pu_up_c _ _ _ _ _)
      | cons f l =>
        have hfm : f ∈ τ.2 d := by rw [hl]; exact List.mem_cons_self
        have e1 : c_first κ d 0 = some (b_s τ f) := by
          rw [hf0, hl, List.find?_cons]
          simp [hno f hfm]
        have ef12 : κ 12 (b_s τ f) = b_num τ f := h.e 12 _ rfl
        rw [e1]
        dsimp only
        rw [ef12]
        -- t has passed
        obtain ⟨g1, ef⟩ := h.own (κ1 := c_pick κ d) (τ1 := b_lies (b_up τ 24 d (τ.1 24 d - 1)) d (τ.1 24 d - 1)) (κ' := pu_up (pu_up (c_pick κ d) 15 (b_s τ t) (τ.1 32 (8 * d))) 14 (b_s τ t) 0) (v := τ.1 32 (8 * d)) hMa rfl (fun c i hc => eT c i (by omega) (by omega)) (fun c i h1 h2 => by rw [pu_up_ne _ _ _ _ h2, pu_up_ne _ _ _ _ h1]) (fun i => by rw [pu_up_c, pu_up_ne _ _ _ _ (by decide)]) (fun i => by rw [pu_up_ne _ _ _ _ (by decide), pu_up_c])
        obtain ⟨τb, eτb⟩ : ∃ τb, τb = b_passes (b_lies (b_up τ 24 d (τ.1 24 d - 1)) d (τ.1 24 d - 1)) t (τ.1 32 (8 * d)) := ⟨_, rfl⟩
        rw [← eτb] at g1 ef ⊢
        have eB : ∀ (c : Nat) (i : Int), c ≠ 14 ∧ c ≠ 15 ∧ c ≠ 17 ∧ c ≠ 7 ∧ c ≠ 33 ∧ c ≠ 34 → c ≠ 24 → c ≠ 32 → τb.1 c i = τ.1 c i := fun c i h1 h2 h3 => by rw [ef, b_fin_c _ _ _ _ _ _ h1, eT c i h2 h3]
        have b24 : τb.1 24 d = τ.1 24 d - 1 := by rw [ef, b_fin_c _ _ _ _ _ _ (by decide), t24, if_pos rfl]
        have hIb : WI τb := g1.2.2.2.1
        have l2 : τb.2 = τ.2 := by rw [ef, b_fin_2]; rfl
        have hJb : JA τb := by rw [ef]; exact hJa.fin hIa t 0 _
        have k24 : pu_up (pu_up (c_pick κ d) 15 (b_s τ t) (τ.1 32 (8 * d))) 14 (b_s τ t) 0 24 d = τ.1 24 d - 1 := by
          rw [pu_up_ne _ _ _ _ (by decide), pu_up_ne _ _ _ _ (by decide)]
          unfold c_pick
          rw [pu_up_at, e24]
        have hI1 : WI (b_up τb 32 (8 * d + τb.1 24 d) (b_num τ f)) := hIb.upd _ _ rfl
        have hI2 : WI (b_puts τb d (b_num τ f)) := hI1.up24 _ _ (fun _ => by rw [b24, b_up_c _ _ _ _ _ _ (by decide), eB _ _ (by decide) (by decide) (by decide)]; omega)
        have hJ1 : JA (b_up τb 32 (8 * d + τb.1 24 d) (b_num τ f)) := fun e e0 e1 => (hJb e e0 e1).up (hIb.rg e0 e1) e1 _ _ (by simp)
        have eaB : ∀ z, b_act τb z = b_act τ z := fun z => by
          unfold b_act b_s
          rw [eB 4 _ (by decide) (by decide) (by decide), eB 11 _ (by decide) (by decide) (by decide)]
        have hJ2 : JA (b_puts τb d (b_num τ f)) := hJ1.up1 hI1 (by decide) (JK.k6 (by rw [b_up_c _ _ _ _ _ _ (by decide), b_up_c _ _ _ _ _ _ (by decide), eB _ _ (by decide) (by decide) (by decide)]; exact hk) ⟨fun z hz => by rw [b_act_up _ _ _ _ (by decide), b_act_up _ _ _ _ (by decide), eaB]; exact q1 z (by rw [← l2]; exact hz), fun z hz x hx => by rw [b_act_up _ _ _ _ (by decide), b_act_up _ _ _ _ (by decide), b_act_up _ _ _ _ (by decide), b_act_up _ _ _ _ (by decide), eaB, eaB]; exact q2 z (by rw [← l2]; exact hz) x (by rw [← l2]; exact hx), fun z hz e => by
          rw [b_act_up _ _ _ _ (by decide), b_act_up _ _ _ _ (by decide), eaB, hno z (by rw [← l2]; exact hz)] at e
          exact absurd e (by decide)⟩ (by rw [b_up_c _ _ _ _ _ _ (by decide), b_up_c _ _ _ _ _ _ (by decide)]; exact (hJb d hd0 hd1).c))
        have hM2 := (g1.up (8 * d + τb.1 24 d) (b_num τ f) (c := 32) (by decide) hI1).up d (τb.1 24 d + 1) (c := 24) (by decide) hI2
        have eP : ∀ (c : Nat) (i : Int), c ≠ 24 → c ≠ 32 → (b_puts τb d (b_num τ f)).1 c i = τb.1 c i := fun c i h1 h2 => by
          unfold b_puts
          rw [b_up_c _ _ _ _ _ _ h1, b_up_c _ _ _ _ _ _ h2]
        have el : ∀ (c : Nat) (i : Int), c ≠ 14 → c_lay (pu_up (c_pick κ d) 15 (b_s τ t) (τ.1 32 (8 * d))) d (b_num τ f) c i = pu_up (pu_up (pu_up (pu_up (c_pick κ d) 15 (b_s τ t) (τ.1 32 (8 * d))) 14 (b_s τ t) 0) 32 (8 * d + τb.1 24 d) (b_num τ f)) 24 d (τb.1 24 d + 1) c i := fun c i n14 => by
          have q24 : pu_up (c_pick κ d) 15 (b_s τ t) (τ.1 32 (8 * d)) 24 d = τb.1 24 d := by
            rw [pu_up_ne _ _ _ _ (by decide), b24]
            unfold c_pick
            rw [pu_up_at, e24]
          unfold c_lay
          rw [q24]
          unfold pu_up
          simp [n14]
        refine ps_mark h hM2 (by show τb.2 = τ.2; exact l2) hl (fun c i hc => ?_) (fun c i h1 h2 => ?_) (fun i hi => ?_) ?_ (fun i => ?_) hJ2 (Or.inr (Or.inr (Or.inl ?_)))
        · rw [eP c i (by omega) (by omega), eB c i (by omega) (by omega) (by omega)]
        · rw [c_pass_c _ _ _ _ _ h1 h2, el c i h1]
        · rw [c_pass_14]
          split
          · rfl
          · unfold c_lay
            rw [pu_up_ne _ _ _ _ (by decide), pu_up_ne _ _ _ _ (by decide), pu_up_ne _ _ _ _ (by decide), pu_up_ne _ _ _ _ (by decide), pu_up_ne _ _ _ _ (by decide), pu_up_c, if_neg hi, pu_up_ne _ _ _ _ (by decide)]
        · rw [pu_up_ne _ _ _ _ (by decide), pu_up_ne _ _ _ _ (by decide), pu_up_at]
        · rw [c_pass_15, el 15 i (by decide)]
        · rw [eP _ _ (by decide) (by decide), eB _ _ (by decide) (by decide) (by decide)]
          exact hk
    · simp only [if_neg c1]
      have h0 : τ.1 24 d = 0 := by omega
      cases hl : τ.2 d with
      | nil =>
        have e1 : c_first κ d 0 = none := by
          rw [hf0, hl]
          rfl
        rw [e1]
        exact hwait (Or.inr ⟨a1, h0⟩) (by rw [hl]; simp)
      | cons f l =>
        have hfm : f ∈ τ.2 d := by rw [hl]; exact List.mem_cons_self
        dsimp only
        rw [show τ.1 11 (20 * f + τ.1 4 f - 1) = b_act τ f from rfl]
        have ef12 : κ 12 (b_s τ f) = b_num τ f := h.e 12 _ rfl
        by_cases cf : b_act τ f = 0
        · have e1 : c_first κ d 0 = some (b_s τ f) := by
            rw [hf0, hl, List.find?_cons]
            simp [cf]
          rw [e1, if_pos cf]
          dsimp only
          rw [ef12]
          exact hgo f l (b_num τ f) 0 _ hl (fun c i h1 h2 => by rw [c_pass_c _ _ _ _ _ h1 h2, pu_up_ne _ _ _ _ h2]) (fun i => by rw [c_pass_14, pu_up_ne _ _ _ _ (by decide)]) (fun i => c_pass_15 _ _ _ _)
        · have hno : ∀ z ∈ τ.2 d, b_act τ z ≠ 0 := fun z hz => by
            rw [q2 z hz f hfm]
            exact cf
          have e1 : c_first κ d 0 = none := by
            rw [hf0, l_find_no (fun z hz => by simpa using hno z hz)]
            rfl
          rw [e1, if_neg cf]
          refine hwait (Or.inr ⟨a1, h0⟩) (fun z hz => ?_)
          have := q1 z hz
          have := hno z hz
          omega
  · simp only [if_neg a0, if_neg a1, if_pos (show 1 < b_act τ t by omega)]
    exact ps_end h (by decide) (by decide)
