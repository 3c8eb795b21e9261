theorem cnt_eq {κ : aS} {τ : bS} {d : Int} (h30 : ∀ i, κ 30 i = τ.1 30 i) (h31 : ∀ i, κ 31 i = τ.1 31 i) (hI : WI τ) (hd0 : 0 ≤ d) (hd1 : d < 12) : c_cnt κ d 0 = b_parties τ d ∧ c_cnt κ d 1 = b_arrived τ d := by
  unfold c_cnt b_parties b_arrived
  refine ⟨b_sum_ext 16 (fun i i0 i1 => ?_), b_sum_ext 16 (fun i i0 i1 => ?_)⟩
  · unfold c_cf
    rw [h30]
    by_cases c : τ.1 30 (16 * d + i) = 1
    · rw [if_pos ⟨c, Or.inr rfl⟩, if_pos c]
    · rw [if_neg (fun z => c z.1), if_neg c]
  · unfold c_cf
    rw [h30, h31]
    have r := hI.2.2.2.2.2.1 (16 * d + i) (by omega) (by omega)
    by_cases c : τ.1 30 (16 * d + i) = 1
    · rw [if_pos c]
      by_cases c2 : τ.1 31 (16 * d + i) = 0
      · rw [if_neg (fun z => by rcases z.2 with z | z; exact z c2; exact absurd z (by decide)), c2]
      · rw [if_pos ⟨c, Or.inl c2⟩]
        omega
    · rw [if_neg (fun z => c z.1), if_neg c]
theorem allc_eq {κ : aS} {τ : bS} {d : Int} (h30 : ∀ i, κ 30 i = τ.1 30 i) (h31 : ∀ i, κ 31 i = τ.1 31 i) (hI : WI τ) (hd0 : 0 ≤ d) (hd1 : d < 12) : c_allc κ d = true ↔ b_there τ d 1 = 1 := by
  obtain ⟨e0, e1⟩ := cnt_eq h30 h31 hI hd0 hd1
  unfold c_allc b_there
  rw [e0, e1, if_neg (by decide)]
  simp only [Bool.and_eq_true, decide_eq_true_eq]
  constructor
  · intro h
    rw [if_pos h]
  · intro h
    by_cases c : 0 < b_parties τ d ∧ b_arrived τ d = b_parties τ d
    · exact c
    · rw [if_neg c] at h
      exact absurd h (by decide)
theorem c_lp_upc {d s v : Int} {c' : Nat} (hc : c' ≠ 22) {f : aS → Int → aS} (hf : ∀ (κ : aS) (s' : Int), s' ≠ s → f (pu_up κ c' s v) s' = pu_up (f κ s') c' s v) (hf22 : ∀ (κ : aS) (s' i : Int), f κ s' 22 i = κ 22 i) : ∀ (k : Nat) (j : Int) (κ : aS), 0 ≤ j → (∀ i, j ≤ i → i < j + k → κ 22 (16 * d + i) ≠ s) → c_lp d (fun κ s => some (f κ s)) k j (pu_up κ c' s v) = pu_up (c_lp d (fun κ s => some (f κ s)) k j κ) c' s v := by
  intro k
  induction k with
  | zero => intro j κ _ _; rfl
  | succ k ih =>
    intro j κ h0 hn
    have hs := hn j (by omega) (by omega)
    have e22 : pu_up κ c' s v 22 (16 * d + j) = κ 22 (16 * d + j) := pu_up_ne _ _ _ _ (Ne.symm hc)
    have e14 : pu_up κ c' s v 14 (κ 22 (16 * d + j)) = κ 14 (κ 22 (16 * d + j)) := by
      unfold pu_up
      rw [if_neg (fun z => hs z.2)]
    by_cases hw : κ 14 (κ 22 (16 * d + j)) = 1
    · rw [c_lp_s (κ := pu_up κ c' s v) (by rw [e22, e14]; exact hw) rfl, c_lp_s hw rfl, e22, hf κ _ hs]
      exact ih (j + 1) _ (by omega) (fun i h1 h2 => by rw [hf22]; exact hn i (by omega) (by omega))
    · rw [c_lp_n (κ := pu_up κ c' s v) (by rw [e22, e14]; exact hw), c_lp_n hw]
      exact ih (j + 1) _ (by omega) (fun i h1 h2 => hn i (by omega) (by omega))
theorem c_ph_up {d s v s' : Int} {c' : Nat} (κ : aS) (hs : s' ≠ s) (hc : c' ≠ 24) : c_ph d (pu_up κ c' s v) s' = pu_up (c_ph d κ s') c' s v := by
  unfold c_ph c_pass
  rw [pu_up_ne _ _ _ _ (Ne.symm hc)]
  funext a b
  unfold pu_up
  by_cases h1 : b = s'
  · have h2 : ¬ b = s := fun e => hs (h1.symm.trans e)
    simp [h1, h2, hs]
  · simp [h1]
theorem JA.sub2 {τ τ' : bS} (hJ : JA τ) (hI : WI τ) (hC : ∀ (c : Nat) (i : Int), c ≠ 30 → c ≠ 31 → τ'.1 c i = τ.1 c i) (h2 : τ'.2 = τ.2) : JA τ' := fun e e0 e1 => (hJ e e0 e1).sub (hI.rg e0 e1) (fun c hc => hC c e (by omega) (by omega)) (Or.inl (hC _ _ (by decide) (by decide))) (fun i _ _ => hC _ _ (by decide) (by decide)) (fun x hx => by rw [h2] at hx; exact hx) (by rw [h2]; exact Nat.le_refl _) (fun x _ => ⟨hC _ _ (by decide) (by decide), hC _ _ (by decide) (by decide)⟩) (fun s => hC _ _ (by decide) (by decide)) (fun s => hC _ _ (by decide) (by decide)) (Int.le_of_eq (b_sum_ext 16 (fun i _ _ => (hC 4 i (by decide) (by decide)).symm)))
/-- a phase begins, by t's act -/
theorem rises_ps {κ κ1 : aS} {τ τ1 : bS} {d t : Int} (h : AH κ τ d t) (hk : τ.1 18 d = 9) (hM : Mq κ1 τ1 d τ.2 [] []) (h2 : τ1.2 = τ.2) (hJ1 : JA τ1) (hC : ∀ (c : Nat) (i : Int), c ≠ 30 → c ≠ 31 → τ1.1 c i = τ.1 c i) (hK : ∀ (c : Nat) (i : Int), c ≠ 30 → c ≠ 31 → κ1 c i = κ c i) : PS τ (b_rises τ1 d t) d t (if c_allc κ1 d = true then (0, pu_up (c_phase κ1 d) 15 (b_s τ t) (c_phase κ1 d 24 d)) else (0, pu_up κ1 15 (b_s τ t) (κ 24 d))) := by
  have hd0 := h.2.2.2.2.2.2.2.2.1
  have hd1 := h.2.2.2.2.2.2.2.2.2
  have hI1 := hM.2.2.2.1
  have ha := allc_eq (κ := κ1) (τ := τ1) (d := d) (fun i => hM.1.1 30 i rfl) (fun i => hM.1.1 31 i rfl) hI1 hd0 hd1
  have e24 : κ 24 d = τ1.1 24 d := by rw [h.e 24 d rfl, hC _ _ (by decide) (by decide)]
  have e24b : κ1 24 d = τ1.1 24 d := hM.1.1 24 d rfl
  have hk1 : τ1.1 18 d = 9 := by rw [hC _ _ (by decide) (by decide)]; exact hk
  have hM0 : Mq κ1 τ1 d τ1.2 [] [] := by rw [h2]; exact hM
  unfold b_rises
  by_cases c : b_there τ1 d 1 = 1
  · rw [if_pos c, if_pos (ha.mpr c)]
    obtain ⟨p, ep⟩ : ∃ p, p = jm_wr (τ1.1 24 d + 1) := ⟨_, rfl⟩
    rw [← ep]
    have hI2 : WI (b_up τ1 24 d p) := hI1.up24 _ _ (fun h6 => by omega)
    have hI3 : WI (b_rise (b_up τ1 24 d p) d) := hI2.rise d
    have eC : ∀ (c : Nat) (i : Int), c ≠ 30 → c ≠ 31 → c ≠ 24 → (b_rise (b_up τ1 24 d p) d).1 c i = τ.1 c i := fun c i n30 n31 n24 => by rw [b_rise_c _ _ _ _ ⟨n31, n30⟩, b_up_c _ _ _ _ _ _ n24, hC c i n30 n31]
    have t24 : (b_rise (b_up τ1 24 d p) d).1 24 d = p := by
      rw [b_rise_c _ _ _ _ (by decide)]
      exact pu_up_at _ _ _ _
    have hM2 := hM0.up d p (c := 24) (by decide) hI2
    have hM3 : Mq (q_rise (pu_up κ1 24 d p) d 16) (b_rise (b_up τ1 24 d p) d) d τ1.2 [] [] := by
      refine hM2.ups (fun c i hc => q_rise_c _ _ _ _ ⟨(dv_ne hc).2.2.2.2.2.2.1, (dv_ne hc).2.2.2.2.2.1⟩) (fun c i hc => b_rise_c _ _ _ _ ⟨(dv_ne hc).2.2.2.2.2.2.1, (dv_ne hc).2.2.2.2.2.1⟩) (fun c i hc => ?_) rfl hI3
      show q_rise (pu_up κ1 24 d p) d 16 c i = q_rise (b_up τ1 24 d p).1 d 16 c i
      unfold q_rise
      rw [hM2.1.1 30 i rfl, hM2.1.1 c i (dv_mr hc)]
    have hJ2 : JA (b_up τ1 24 d p) := hJ1.up1 hI1 (by decide) (JK.k49 (by rw [b_up_c _ _ _ _ _ _ (by decide)]; exact Or.inr hk1) (by rw [b_up_c _ _ _ _ _ _ (by decide)]; exact (hJ1 d hd0 hd1).c))
    have hJ3 : JA (b_rise (b_up τ1 24 d p) d) := hJ2.sub2 hI2 (fun c i n30 n31 => b_rise_c _ _ _ _ ⟨n31, n30⟩) rfl
    obtain ⟨g1, ef⟩ := h.own (κ1 := q_rise (pu_up κ1 24 d p) d 16) (τ1 := b_rise (b_up τ1 24 d p) d) (κ' := pu_up (pu_up (q_rise (pu_up κ1 24 d p) d 16) 15 (b_s τ t) p) 14 (b_s τ t) 0) (v := p) hM3 h2 (fun c i hc => eC c i (by omega) (by omega) (by omega)) (fun c i h1 h2 => by rw [pu_up_ne _ _ _ _ h2, pu_up_ne _ _ _ _ h1]) (fun i => by rw [pu_up_c, pu_up_ne _ _ _ _ (by decide)]) (fun i => by rw [pu_up_ne _ _ _ _ (by decide), pu_up_c])
    obtain ⟨τb, eτb⟩ : ∃ τb, τb = b_passes (b_rise (b_up τ1 24 d p) d) t p := ⟨_, rfl⟩
    rw [← eτb] at g1 ef ⊢
    have lb : τb.2 = τ.2 := by rw [ef, b_fin_2]; exact h2
    have ga := all_sim (Λ := τ.2) (pre := [t]) (o := 0) (F := b_cnt d) (W := fun κ s => κ 24 d) (f := c_ph d) hd0 hd1 (by decide) (fun κ s c i h1 h2 => c_pass_c _ _ _ _ _ h1 h2) (fun κ s i => c_pass_14 _ _ _ _) (fun κ s i => c_pass_15 _ _ _ _) (fun _ => True) (fun _ _ _ _ => trivial) (fun κ τ P x _ hM hx _ => hM.1.1 24 d rfl) (τ.2 d) [] _ τb [] rfl trivial g1 (by simp) g1.nops
    obtain ⟨P', g2⟩ := ga
    have eg : b_goAll (b_cnt d) τb d = (τb.2 d).foldl (fun τ u => b_out τ u 0 (b_cnt d τ u)) τb := b_goAll_out
    have hJo := JA.outs (o := 0) (F := b_cnt d) hd0 hd1 (fun τ' => JA τ' ∧ τ'.1 18 d = 9 ∧ (∀ z, b_s τ' z = b_s τ z) ∧ τ'.1 2 0 = τ.1 2 0) (fun τ' x hI' hq hx => ⟨hq.1.out hI' hd0 hd1 hx _ _, by rw [b_out_c _ _ _ _ _ _ (by decide)]; exact hq.2.1, fun z => by rw [b_out_s]; exact hq.2.2.1 z, by rw [b_out_c _ _ _ _ _ _ (by decide)]; exact hq.2.2.2⟩) _ τb rfl g1.2.2.2.1 ⟨by rw [ef]; exact hJ3.fin hI3 t 0 _, by rw [ef, b_fin_c _ _ _ _ _ _ (by decide), eC _ _ (by decide) (by decide) (by decide)]; exact hk, fun z => by
      rw [ef, b_fin_s]
      unfold b_s
      rw [eC _ _ (by decide) (by decide) (by decide)], by rw [ef, b_fin_c _ _ _ _ _ _ (by decide), eC _ _ (by decide) (by decide) (by decide)]⟩
    rw [← eg] at g2 hJo
    have ec24 : c_phase κ1 d 24 d = p := by
      unfold c_phase
      rw [c_lp_c (c := 24) (fun κ s κ' e i => ?_), q_rise_c _ _ _ _ (by decide), pu_up_at, e24b, ep]
      cases e
      exact c_pass_c _ _ _ _ _ (by decide) (by decide)
    have enos : ∀ i, 0 ≤ i → i < 0 + (((τ.2 d).length : Nat) : Int) → q_rise (pu_up κ1 24 d p) d 16 22 (16 * d + i) ≠ b_s τ t := fun i i0 i1 => by
      rw [q_rise_c _ _ _ _ (by decide), pu_up_ne _ _ _ _ (by decide), hK _ _ (by decide) (by decide)]
      exact h.nos i i0 (by omega)
    have ecp : c_phase κ1 d = c_lp d (fun κ s => some (c_ph d κ s)) (τ.2 d).length 0 (q_rise (pu_up κ1 24 d p) d 16) := by
      unfold c_phase
      rw [hK 23 d (by decide) (by decide), h.len, Int.toNat_natCast, e24b, ← ep]
    rw [ec24]
    refine Or.inl ⟨show (0 : Int) ≠ 1 by decide, τ.2, P', ?_, hJo.1.1, Or.inr (Or.inr (Or.inr (Or.inr hJo.1.2.1))), hJo.1.2.2.1 t, hJo.1.2.2.2⟩
    show Mq (pu_up (pu_up (c_phase κ1 d) 15 (b_s τ t) p) 14 (b_s τ t) 0) _ d τ.2 [t] P'
    rw [ecp, ← c_lp_upc (c' := 15) (by decide) (fun κ s' hs => c_ph_up κ hs (by decide)) (fun κ s' i => c_pass_c _ _ _ _ _ (by decide) (by decide)) _ 0 _ (by omega) enos, ← c_lp_upc (c' := 14) (by decide) (fun κ s' hs => c_ph_up κ hs (by decide)) (fun κ s' i => c_pass_c _ _ _ _ _ (by decide) (by decide)) _ 0 _ (by omega) (fun i i0 i1 => by rw [pu_up_ne _ _ _ _ (by decide)]; exact enos i i0 i1)]
    exact g2
  · rw [if_neg c, if_neg (fun z => c (ha.mp z)), e24]
    exact ps_pass h hM0 h2 (fun c i hc => hC c i (by omega) (by omega)) hJ1 (fun c i h1 _ => pu_up_ne _ _ _ _ h1) (fun i _ => pu_up_ne _ _ _ _ (by decide)) (fun i => pu_up_c _ _ _ _ _)
theorem phaser_ps {κ : aS} {τ : bS} {d t : Int} (h : AH κ τ d t) (hk : τ.1 18 d = 9) : PS τ (b_phaser τ d t (b_act τ t)) d t (c_phaser κ d (b_s τ t)) := by
  have hI := h.2.1
  have hJ := h.2.2.1
  have ha := h.2.2.2.1
  have hd0 := h.2.2.2.2.2.2.2.2.1
  have hd1 := h.2.2.2.2.2.2.2.2.2
  obtain ⟨e11, e12⟩ := h.act
  have td := bs_div ha.1
  have t0 := ha.1.1
  have t1 := ha.1.2.1
  have e30 := h.e 30 (16 * d + t) rfl
  have e31 := h.e 31 (16 * d + t) rfl
  have e24 := h.e 24 d rfl
  have r := hI.2.2.2.2.2.1 (16 * d + t) (by omega) (by omega)
  have hcnt := cnt_eq (κ := κ) (τ := τ) (d := d) (fun i => h.e 30 i rfl) (fun i => h.e 31 i rfl) hI hd0 hd1
  unfold c_phaser b_phaser c_join c_pcome c_pleave
  rw [td, e11, e30, e31]
  by_cases a0 : b_act τ t = 0
  · simp only [if_pos a0]
    by_cases c : τ.1 30 (16 * d + t) = 0
    · rw [if_pos c, if_pos c, hcnt.2, e24]
      have ev : (if b_there τ d 0 = 1 then (2 : Int) else 1) = if 0 < b_arrived τ d then 2 else 1 := by
        unfold b_there
        rw [if_pos rfl]
        by_cases cc : 0 < b_arrived τ d
        · rw [if_pos cc, if_pos cc, if_pos rfl]
        · rw [if_neg cc, if_neg cc, if_neg (by decide)]
      rw [ev]
      obtain ⟨q, eq⟩ : ∃ q, q = if 0 < b_arrived τ d then (2 : Int) else 1 := ⟨_, rfl⟩
      rw [← eq]
      have hI1 : WI (b_up τ 30 (16 * d + t) q) := hI.upb _ _ (Or.inr (Or.inl ⟨rfl, by rw [eq]; split <;> omega⟩))
      have hJ1 : JA (b_up τ 30 (16 * d + t) q) := hJ.sub2 hI (fun c i n30 _ => b_up_c _ _ _ _ _ _ n30) rfl
      exact ps_pass h (h.mq.up (16 * d + t) q (c := 30) (by decide) hI1) rfl (fun c i hc => b_up_c _ _ _ _ _ _ (by omega)) hJ1 (fun c i h1 _ => pu_up_ne _ _ _ _ h1) (fun i _ => pu_up_ne _ _ _ _ (by decide)) (fun i => pu_up_c _ _ _ _ _)
    · rw [if_neg c, if_neg c]
      exact ps_end h (by decide) (by decide)
  simp only [if_neg a0]
  by_cases a1 : b_act τ t = 1
  · simp only [if_pos a1]
    by_cases c : τ.1 30 (16 * d + t) = 1
    · rw [if_pos c, if_pos c]
      by_cases c2 : τ.1 31 (16 * d + t) = 0
      · rw [if_pos c2, if_pos c2]
        have hI1 : WI (b_up τ 31 (16 * d + t) 1) := hI.upb _ _ (Or.inr (Or.inr ⟨rfl, by decide⟩))
        have hJ1 : JA (b_up τ 31 (16 * d + t) 1) := hJ.sub2 hI (fun c i _ n31 => b_up_c _ _ _ _ _ _ n31) rfl
        have hM1 := h.mq.up (16 * d + t) 1 (c := 31) (by decide) hI1
        have hr := rises_ps h hk hM1 rfl hJ1 (fun c i _ n31 => b_up_c _ _ _ _ _ _ n31) (fun c i _ n31 => pu_up_ne _ _ _ _ n31)
        have hall := allc_eq (κ := pu_up κ 31 (16 * d + t) 1) (τ := b_up τ 31 (16 * d + t) 1) (d := d) (fun i => hM1.1.1 30 i rfl) (fun i => hM1.1.1 31 i rfl) hI1 hd0 hd1
        by_cases c3 : b_there (b_up τ 31 (16 * d + t) 1) d 1 = 1
        · rw [if_pos (hall.mpr c3), if_pos c3]
          rw [if_pos (hall.mpr c3)] at hr
          exact hr
        · rw [if_neg (fun z => c3 (hall.mp z)), if_neg c3]
          have hne : ∀ e, 0 ≤ e → e < 12 → ∀ x ∈ τ.2 e, b_s τ x ≠ b_s τ t := fun e e0 e1 x hx z => ha.ne e0 e1 hx (bs_inj ((h.1.2 e e0 e1).2.2.2.2 x hx) ha.1 z)
          have hC0 : CR (pu_up κ 31 (16 * d + t) 1) (b_up τ 31 (16 * d + t) 1) := ⟨hM1.1, hM1.2.1⟩
          have hC1 : CR (pu_up (pu_up κ 31 (16 * d + t) 1) 15 (b_s τ t) (κ 24 d)) (b_up τ 31 (16 * d + t) 1) := hC0.loose (fun _ _ _ _ _ => rfl) rfl (fun _ _ _ _ _ => ⟨rfl, rfl⟩) (fun c i _ n15 => pu_up_ne _ _ _ _ n15) (fun e e0 e1 x hx => ⟨pu_up_ne _ _ _ _ (by decide), by rw [pu_up_c, b_s_up _ _ _ _ (by decide), if_neg (hne e e0 e1 x hx)]⟩) (fun s hs => by
            rw [pu_up_c, if_neg]
            intro e
            rw [e, b_up_c _ _ _ _ _ _ (by decide), ha.2.2.2.1] at hs
            omega) (fun s hp u => by
              have := u.ne hp (OKt_up (by decide) ha.1)
              rw [b_s_up _ _ _ _ (by decide)] at this
              rw [pu_up_c, if_neg this])
          have ha1 : ACT (b_up τ 31 (16 * d + t) 1) t d := ha.up _ _ (by decide)
          refine Or.inr ⟨rfl, b_up τ 31 (16 * d + t) 1, hC1, hI1, hJ1, ha1, rfl, b_up_c _ _ _ _ _ _ (by decide), b_up_c _ _ _ _ _ _ (by decide), b_s_up _ _ _ _ (by decide), ⟨fun e => ?_, fun e => ?_⟩, fun _ => rfl, fun h6 => ⟨Or.inl rfl, ?_⟩⟩
          · rw [b_up_c _ _ _ _ _ _ (by decide)] at e
            omega
          · rw [b_up_c _ _ _ _ _ _ (by decide)] at e
            omega
          · rw [b_waits_n (by rw [b_up_c _ _ _ _ _ _ (by decide)]; exact h6) ha1.2.2.1]
            refine JK.k49 (by rw [b_wait_c _ _ _ _ _ (by decide), b_up_c _ _ _ _ _ _ (by decide)]; exact Or.inr hk) ?_
            rw [b_wait_c _ _ _ _ _ (by decide), b_up_c _ _ _ _ _ _ (by decide), h.2.2.2.2.2.1]
            exact ⟨Or.inl rfl, fun e => absurd e (by decide)⟩
      · rw [if_neg c2, if_neg c2]
        exact ps_end h (by decide) (by decide)
    · rw [if_neg c, if_neg c]
      exact ps_end h (by decide) (by decide)
  simp only [if_neg a1]
  by_cases a2 : b_act τ t = 2
  · simp only [if_pos a2]
    by_cases c : τ.1 30 (16 * d + t) = 0
    · rw [if_pos c, if_pos c]
      exact ps_end h (by decide) (by decide)
    · rw [if_neg c, if_neg c]
      have hI1 : WI (b_up τ 30 (16 * d + t) 0) := hI.upb _ _ (Or.inr (Or.inl ⟨rfl, by decide⟩))
      have hI2 : WI (b_up (b_up τ 30 (16 * d + t) 0) 31 (16 * d + t) 0) := hI1.upb _ _ (Or.inr (Or.inr ⟨rfl, by decide⟩))
      have hJ2 : JA (b_up (b_up τ 30 (16 * d + t) 0) 31 (16 * d + t) 0) := hJ.sub2 hI (fun c i n30 n31 => by rw [b_up_c _ _ _ _ _ _ n31, b_up_c _ _ _ _ _ _ n30]) rfl
      have hM2 := (h.mq.up (16 * d + t) 0 (c := 30) (by decide) hI1).up (16 * d + t) 0 (c := 31) (by decide) hI2
      exact rises_ps h hk hM2 rfl hJ2 (fun c i n30 n31 => by rw [b_up_c _ _ _ _ _ _ n31, b_up_c _ _ _ _ _ _ n30]) (fun c i n30 n31 => by unfold c_pout; rw [pu_up_ne _ _ _ _ n31, pu_up_ne _ _ _ _ n30])
  · simp only [if_neg a2]
    exact ps_end h (by decide) (by decide)
