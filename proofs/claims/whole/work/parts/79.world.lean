theorem perf_ps {κ : aS} {τ : bS} {d t : Int} (h : AH κ τ d t) : PS τ (b_kind τ d t (b_act τ t) (b_num τ t)) d t (c_perf κ d (b_s τ t)) := by
  have e18 := h.e 18 d rfl
  have h4 := h.2.1.2.2.2.1 d h.2.2.2.2.2.2.2.2.1 h.2.2.2.2.2.2.2.2.2
  unfold c_perf
  rw [e18]
  by_cases c1 : τ.1 18 d = 0 ∨ τ.1 18 d = 1
  · rw [if_pos c1, bk_01 c1]
    exact perm_ps h c1
  rw [if_neg c1]
  by_cases c3 : τ.1 18 d = 3
  · rw [if_pos c3, bk_3 c3]
    exact barrier_ps h c3
  rw [if_neg c3]
  by_cases c4 : τ.1 18 d = 4
  · rw [if_pos c4, bk_4 c4]
    exact exchange_ps h c4
  rw [if_neg c4]
  by_cases c5 : τ.1 18 d = 5
  · rw [if_pos c5, bk_5 c5]
    exact lock_ps h c5
  rw [if_neg c5]
  by_cases c6 : τ.1 18 d = 6
  · rw [if_pos c6, bk_6 c6]
    exact hand_ps h c6
  rw [if_neg c6]
  by_cases c9 : τ.1 18 d = 9
  · rw [if_pos c9, bk_9 c9]
    exact phaser_ps h c9
  rw [if_neg c9]
  by_cases c11 : τ.1 18 d = 11
  · rw [if_pos c11, bk_11 c11]
    exact monitor_ps h c11
  rw [if_neg c11]
  unfold c_sign
  rw [e18]
  by_cases c2 : τ.1 18 d = 2
  · rw [if_pos c2, bk_2 c2]
    exact gate_ps h c2
  rw [if_neg c2]
  by_cases c7 : τ.1 18 d = 7
  · rw [if_pos c7, bk_7 c7]
    exact tickets_ps h c7
  rw [if_neg c7]
  by_cases c8 : τ.1 18 d = 8
  · rw [if_pos c8, bk_8 c8]
    exact cell_ps h c8
  rw [if_neg c8]
  have c10 : τ.1 18 d = 10 := by omega
  rw [bk_10 c10]
  exact pause_ps h c10
/-! both worlds, between two acts -/
def P5 (b : Int) (κ : aS) : Prop := ∀ i, -1 ≤ κ 5 i ∧ κ 7 i ≤ b
def GT (τ : bS) : Prop := WA τ ∧ (∀ t, 0 ≤ t → t < 16 → τ.1 4 t ≤ τ.1 3 t ∧ (τ.1 0 0 ≤ t → τ.1 3 t = 0) ∧ (τ.1 6 t = 0 ∨ τ.1 6 t = 1)) ∧ (∀ t i, 0 ≤ t → t < 16 → 0 ≤ i → i < τ.1 3 t → 0 ≤ τ.1 10 (20 * t + i) ∧ τ.1 10 (20 * t + i) < τ.1 1 0) ∧ P5 (τ.1 2 0) τ.1
def GW (κ : aS) (τ : bS) : Prop := CR κ τ ∧ WI τ ∧ JA τ ∧ GT τ
theorem P5.same {b : Int} {κ κ' : aS} (h : P5 b κ) (h5 : ∀ i, κ' 5 i = κ 5 i) (h7 : ∀ i, κ' 7 i = κ 7 i) : P5 b κ' := fun i => by
  rw [h5, h7]
  exact h i
theorem P5.fin {b : Int} {κ : aS} (h : P5 b κ) (d s : Int) : P5 b (c_fin κ d s b) := fun i => by
  rw [c_fin_5, c_fin_7]
  have := h i
  refine ⟨?_, ?_⟩
  · split
    · decide
    · exact this.1
  · split
    · exact Int.le_refl _
    · exact this.2
theorem c_sw_5 {d b : Int} : ∀ (k : Nat) (j p : Int) (κ : aS), P5 b κ → P5 b (c_sw d b k j p κ) := by
  intro k
  induction k with
  | zero => intro j p κ h; exact h.same (fun i => pu_up_ne _ _ _ _ (by decide)) (fun i => pu_up_ne _ _ _ _ (by decide))
  | succ k ih =>
    intro j p κ h
    rw [c_sw]
    split
    · exact ih _ _ _ (h.same (fun i => pu_up_ne _ _ _ _ (by decide)) (fun i => pu_up_ne _ _ _ _ (by decide)))
    · exact ih _ _ _ (h.fin _ _)
theorem c_sweep_c (κ : aS) (d b : Int) (c : Nat) (i : Int) (h : c ≠ 22 ∧ c ≠ 23 ∧ c ≠ 17 ∧ c ≠ 5 ∧ c ≠ 7 ∧ c ≠ 33 ∧ c ≠ 34) : c_sweep κ d b c i = κ c i := c_sw_c _ _ _ _ h _ _ _ _
theorem c_giveUp_46 (κ : aS) (d s x b : Int) (c : Nat) (i : Int) (h : c = 4 ∨ c = 6) : c_giveUp κ d s x b c i = κ c i := by
  unfold c_giveUp
  rw [c_sweep_c _ _ _ _ _ (by omega), c_go_c _ _ _ _ (by omega), c_suf_c _ _ _ _ (by omega), pu_up_ne _ _ _ _ (by omega)]
theorem c_giveUp_5 {κ : aS} {b : Int} (h : P5 b κ) (d s x : Int) : P5 b (c_giveUp κ d s x b) := by
  unfold c_giveUp c_sweep
  refine c_sw_5 _ _ _ _ (h.same (fun i => ?_) (fun i => ?_)) <;> rw [c_go_c _ _ _ _ (by decide), c_suf_c _ _ _ _ (by decide), pu_up_ne _ _ _ _ (by decide)]
theorem c_shut_46 (κ : aS) (d b : Int) (c : Nat) (i : Int) (h : c = 4 ∨ c = 6) : c_shut κ d b c i = κ c i := by
  unfold c_shut
  rw [c_sweep_c _ _ _ _ _ (by omega), c_endAll_c _ _ _ _ _ (by omega), pu_up_ne _ _ _ _ (by omega)]
theorem c_shut_5 {κ : aS} {b : Int} (h : P5 b κ) (d : Int) : P5 b (c_shut κ d b) := by
  unfold c_shut c_sweep
  refine c_sw_5 _ _ _ _ (h.same (fun i => ?_) (fun i => ?_)) <;> rw [c_endAll_c _ _ _ _ _ (by decide), pu_up_ne _ _ _ _ (by decide)]
theorem c_res_c (κ : aS) (d s b : Int) (c : Nat) (i : Int) (h : pf_c c = false) (h16 : c ≠ 16) : (c_res κ d s b).2 c i = κ c i := by
  unfold c_res
  split
  · rw [(c_perf_c _ _ _ _ _ h).1, pu_up_ne _ _ _ _ h16]
  · show pu_up κ 16 s b c i = _
    rw [pu_up_ne _ _ _ _ h16]
theorem c_mid_46 (κ : aS) (d s b : Int) (i : Int) : c_mid κ d s b 4 i = κ 4 i ∧ (c_mid κ d s b 6 i = κ 6 i ∨ c_mid κ d s b 6 i = 0) := by
  unfold c_mid
  split
  · split
    · exact ⟨c_push_c _ _ _ _ _ (by decide), Or.inl (c_push_c _ _ _ _ _ (by decide))⟩
    · rw [c_giveUp_46 _ _ _ _ _ _ _ (by decide), c_giveUp_46 _ _ _ _ _ _ _ (by decide), pu_up_ne _ _ _ _ (by decide), c_push_c _ _ _ _ _ (by decide), pu_up_c]
      refine ⟨rfl, ?_⟩
      split
      · exact Or.inr rfl
      · exact Or.inl (c_push_c _ _ _ _ _ (by decide))
  · exact ⟨c_fin_c _ _ _ _ _ _ (by decide), Or.inl (c_fin_c _ _ _ _ _ _ (by decide))⟩
theorem c_mid_5 {κ : aS} {d s b : Int} (h : P5 b κ) (h10 : 0 ≤ κ 10 s) : P5 b (c_mid κ d s b) := by
  have hp : P5 b (c_push κ d s) := fun i => by
    unfold c_push
    rw [pu_up_c, pu_up_ne _ _ _ _ (by decide), pu_up_ne _ _ _ _ (by decide), pu_up_ne _ _ _ _ (by decide), pu_up_ne _ _ _ _ (by decide), pu_up_ne _ _ _ _ (by decide)]
    refine ⟨?_, (h i).2⟩
    split
    · omega
    · exact (h i).1
  unfold c_mid
  split
  · split
    · exact hp
    · exact c_giveUp_5 (hp.same (fun i => pu_up_ne _ _ _ _ (by decide)) (fun i => pu_up_ne _ _ _ _ (by decide))) _ _ _
  · exact h.fin _ _
theorem c_serve_46 (κ : aS) (d s b i : Int) : c_serve κ d s b 4 i = κ 4 i ∧ (c_serve κ d s b 6 i = κ 6 i ∨ c_serve κ d s b 6 i = 0) := by
  unfold c_serve
  rw [c_sweep_c _ _ _ _ _ (by decide), c_sweep_c _ _ _ _ _ (by decide), c_go_c _ _ _ _ (by decide), c_go_c _ _ _ _ (by decide)]
  have := c_mid_46 (pu_up (c_res κ d s b).2 14 s (c_res κ d s b).1) d s b i
  rw [pu_up_ne _ _ _ _ (by decide), pu_up_ne _ _ _ _ (by decide), c_res_c _ _ _ _ _ _ (by decide) (by decide), c_res_c _ _ _ _ _ _ (by decide) (by decide)] at this
  exact this
theorem c_serve_5 {κ : aS} {d s b : Int} (h : P5 b κ) (h10 : 0 ≤ κ 10 s) : P5 b (c_serve κ d s b) := by
  unfold c_serve c_sweep
  have h1 : P5 b (pu_up (c_res κ d s b).2 14 s (c_res κ d s b).1) := h.same (fun i => by rw [pu_up_ne _ _ _ _ (by decide), c_res_c _ _ _ _ _ _ (by decide) (by decide)]) (fun i => by rw [pu_up_ne _ _ _ _ (by decide), c_res_c _ _ _ _ _ _ (by decide) (by decide)])
  refine c_sw_5 _ _ _ _ ((c_mid_5 (d := d) (s := s) h1 ?_).same (fun i => c_go_c _ _ _ _ (by decide)) (fun i => c_go_c _ _ _ _ (by decide)))
  rw [pu_up_ne _ _ _ _ (by decide), c_res_c _ _ _ _ _ _ (by decide) (by decide)]
  exact h10
theorem CR.c7 {κ : aS} {τ : bS} (h : CR κ τ) (i : Int) : τ.1 7 i = κ 7 i := by
  have := h.1.2.2.1 i
  simpa using this
theorem CR.c5 {κ : aS} {τ : bS} (h : CR κ τ) (i : Int) : τ.1 5 i = κ 5 i := by
  have := h.1.2.1 i
  simpa using this
/-- what holds of steps and threads afterwards -/
theorem GT.of {κ κ' : aS} {τ τ' : bS} (hC : CR κ τ) (h : GT τ) (hS : SE τ τ') (hC' : CR κ' τ') (h4 : ∀ t, 0 ≤ t → t < 16 → κ' 4 t = κ 4 t ∨ (κ' 4 t = κ 4 t + 1 ∧ κ 4 t < τ.1 3 t)) (h6 : ∀ i, κ' 6 i = κ 6 i ∨ κ' 6 i = 0) (h5 : P5 (τ.1 2 0) κ') : GT τ' := by
  obtain ⟨g1, g2, g3, g4⟩ := h
  refine ⟨fun s a b => by rw [hS 11 s rfl]; exact g1 s a b, fun t t0 t1 => ?_, fun t i t0 t1 i0 i1 => ?_, fun i => by rw [hC'.c5, hC'.c7, hS 2 0 rfl]; exact h5 i⟩
  · obtain ⟨a1, a2, a3⟩ := g2 t t0 t1
    have k4 := hC.1.1 4 t rfl
    have k6 := hC.1.1 6 t rfl
    have e4 := hC'.1.1 4 t rfl
    have e6 := hC'.1.1 6 t rfl
    rw [hS 3 t rfl, hS 0 0 rfl, ← e4, ← e6]
    refine ⟨?_, a2, ?_⟩
    · rcases h4 t t0 t1 with h | h <;> omega
    · rcases h6 t with h | h <;> rw [h]
      · rw [k6]
        exact a3
      · exact Or.inl rfl
  · rw [hS 3 t rfl] at i1
    rw [hS 10 _ rfl, hS 1 0 rfl]
    exact g3 t i t0 t1 i0 i1
theorem GW.give {κ : aS} {τ : bS} {d x o : Int} (h : GW κ τ) (hd0 : 0 ≤ d) (hd1 : d < 12) (hx : x ∈ τ.2 d) (ho : o ≠ 0) (ho1 : o ≠ 1) : GW (c_giveUp κ d (b_s τ x) o (τ.1 2 0)) (b_gives τ x o) := by
  obtain ⟨hC, hI, hJ, hT⟩ := h
  obtain ⟨g1, g2, g3⟩ := give_sim hd0 hd1 hC hI hJ hx ho ho1
  refine ⟨g1, g2, g3, GT.of hC hT (SE.gives (SE.refl τ) x o) g1 (fun t _ _ => Or.inl (c_giveUp_46 _ _ _ _ _ _ _ (by decide))) (fun i => Or.inl (c_giveUp_46 _ _ _ _ _ _ _ (by decide))) (c_giveUp_5 (hT.2.2.2.same (fun i => (hC.c5 i).symm) (fun i => (hC.c7 i).symm)) _ _ _)⟩
theorem GW.shut {κ : aS} {τ : bS} {d : Int} (h : GW κ τ) (hd0 : 0 ≤ d) (hd1 : d < 12) : GW (c_shut κ d (τ.1 2 0)) (b_allEnd (b_up τ 20 d 1) d 4) := by
  obtain ⟨hC, hI, hJ, hT⟩ := h
  obtain ⟨g1, g2, g3⟩ := shut_sim hd0 hd1 hC hI hJ
  refine ⟨g1, g2, g3, GT.of hC hT (((SE.refl τ).up _ _ rfl).allEnd _ _) g1 (fun t _ _ => Or.inl (c_shut_46 _ _ _ _ _ (by decide))) (fun i => Or.inl (c_shut_46 _ _ _ _ _ (by decide))) (c_shut_5 (hT.2.2.2.same (fun i => (hC.c5 i).symm) (fun i => (hC.c7 i).symm)) _)⟩
/-- t begins its next step -/
theorem GW.begin {κ : aS} {τ : bS} {t : Int} (h : GW κ τ) (t0 : 0 ≤ t) (t1 : t < 16) (h5 : τ.1 5 t < 0) (h43 : τ.1 4 t < τ.1 3 t) : GW (c_serve (pu_up κ 4 t (κ 4 t + 1)) (τ.1 10 (20 * t + τ.1 4 t)) (20 * t + τ.1 4 t) (τ.1 2 0)) (b_begins τ t) := by
  obtain ⟨hC, hI, hJ, hT⟩ := h
  obtain ⟨hA, hG, hD, h5m⟩ := hT
  obtain ⟨a41, a42, a31, a32⟩ := hI.1 t t0 t1
  have k4 : κ 4 t = τ.1 4 t := hC.1.1 4 t rfl
  obtain ⟨s, es⟩ : ∃ s, s = 20 * t + τ.1 4 t := ⟨_, rfl⟩
  obtain ⟨d, ed⟩ : ∃ d, d = τ.1 10 s := ⟨_, rfl⟩
  rw [← es, ← ed]
  have s0 : 0 ≤ s := by omega
  have s1 : s < 320 := by omega
  obtain ⟨d0, d1'⟩ := hD t (τ.1 4 t) t0 t1 a41 h43
  rw [← es, ← ed] at d0 d1'
  have d1 : d < 12 := by
    have := hI.2.2.2.2.2.2.2.2
    omega
  have h5e : τ.1 5 t = -1 := by
    have := (h5m t).1
    omega
  have tl : ∀ e, 0 ≤ e → e < 12 → t ∉ τ.2 e := fun e e0 e1 hm => by
    have := ((hI.2.2.1 e e0 e1).2 t hm).2.2.1
    omega
  -- the reference's state, begun
  obtain ⟨τ0, eτ⟩ : ∃ τ0, τ0 = b_bg τ t := ⟨_, rfl⟩
  have es' : 20 * t + (τ.1 4 t + 1) - 1 = s := by omega
  have eτ2 : τ0 = b_up (b_up τ 4 t (τ.1 4 t + 1)) 16 s (τ.1 2 0) := by
    rw [eτ]
    unfold b_bg
    rw [es']
  have eC : ∀ (c : Nat) (i : Int), c ≠ 4 → c ≠ 16 → τ0.1 c i = τ.1 c i := fun c i n4 n16 => by rw [eτ2, b_up_c _ _ _ _ _ _ n16, b_up_c _ _ _ _ _ _ n4]
  have e4 : ∀ i, τ0.1 4 i = if i = t then τ.1 4 t + 1 else τ.1 4 i := fun i => by
    rw [eτ2, b_up_c _ _ _ _ _ _ (by decide)]
    exact pu_up_c _ _ _ _ _
  have l2 : τ0.2 = τ.2 := by rw [eτ2]; rfl
  obtain ⟨κ0, eκ⟩ : ∃ κ0, κ0 = pu_up (pu_up κ 4 t (κ 4 t + 1)) 16 s (τ.1 2 0) := ⟨_, rfl⟩
  have eK : ∀ (c : Nat) (i : Int), c ≠ 4 → c ≠ 16 → κ0 c i = κ c i := fun c i n4 n16 => by rw [eκ, pu_up_ne _ _ _ _ n16, pu_up_ne _ _ _ _ n4]
  have est : b_s τ0 t = s := by
    unfold b_s
    rw [e4, if_pos rfl]
    omega
  have esx : ∀ x, x ≠ t → b_s τ0 x = b_s τ x := fun x hx => by
    unfold b_s
    rw [e4, if_neg hx]
  have hI0 : WI τ0 := by
    rw [eτ2]
    exact (hI.begin h5 (by omega)).upd _ _ rfl
  have hxt : ∀ e x, 0 ≤ e → e < 12 → x ∈ τ.2 e → x ≠ t := fun e x e0 e1 hx z => tl e e0 e1 (z ▸ hx)
  have hp4 : ∀ t, 0 ≤ t → t < 16 → 0 ≤ τ.1 4 t := fun t t0 t1 => (hI.1 t t0 t1).1
  have hsum : b_sum (fun t => τ0.1 4 t) 16 = b_sum (fun t => τ.1 4 t) 16 + 1 := by
    have := b_sum_up (f := fun t => τ.1 4 t) (g := fun t => τ0.1 4 t) (x := t) (fun z hz => by
      show τ0.1 4 z = τ.1 4 z
      rw [e4, if_neg hz]) 16
    rw [this, if_pos (by omega)]
    show _ + (τ0.1 4 t - τ.1 4 t) = _
    rw [e4, if_pos rfl]
    omega
  have hJ0 : JA τ0 := fun e e0 e1 => (hJ e e0 e1).sub (hI.rg e0 e1) (fun c hc => eC c e (by omega) (by omega)) (Or.inl (eC _ _ (by decide) (by decide))) (fun i _ _ => eC _ _ (by decide) (by decide)) (fun x hx => by rw [l2] at hx; exact hx) (by rw [l2]; exact Nat.le_refl _) (fun x hx => by
    rw [l2] at hx
    exact ⟨by rw [e4, if_neg (hxt e x e0 e1 hx)], eC _ _ (by decide) (by decide)⟩) (fun s => eC _ _ (by decide) (by decide)) (fun s => eC _ _ (by decide) (by decide)) (by omega)
  have hC0 : CR κ0 τ0 := by
    obtain ⟨⟨m1, m5, m7, m17, m17n, mlog, m15, msp, mP, mPr⟩, hL⟩ := hC
    refine ⟨⟨fun c i hc => ?_, fun z => ?_, fun z => ?_, (fun z hz => by cases hz), fun s _ => ?_, fun c i hc => ?_, fun s' => ⟨?_, fun hp => ?_⟩, fun e e0 e1 => ?_, List.nodup_nil, (fun z hz => by cases hz)⟩, fun e e0 e1 => ?_⟩
    · rw [eκ, eτ2]
      show pu_up (pu_up κ 4 t (κ 4 t + 1)) 16 s (τ.1 2 0) c i = pu_up (pu_up τ.1 4 t (τ.1 4 t + 1)) 16 s (τ.1 2 0) c i
      rw [k4]
      unfold pu_up
      rw [m1 c i hc]
    · rw [eC 5 _ (by decide) (by decide), eK 5 _ (by decide) (by decide)]
      exact m5 z
    · rw [eC 7 _ (by decide) (by decide), eK 7 _ (by decide) (by decide), eC 2 _ (by decide) (by decide)]
      exact m7 z
    · rw [eC 17 _ (by decide) (by decide), eK 17 _ (by decide) (by decide)]
      exact m17n s (fun z hz => by cases hz)
    · rw [eC c i (by omega) (by omega)]
      show _ = κ0 c i
      rw [eK c i (by omega) (by omega)]
      exact mlog c i hc
    · rw [eC 15 _ (by decide) (by decide), eC 14 _ (by decide) (by decide), eK 15 _ (by decide) (by decide)]
      exact (m15 s').1
    · obtain ⟨u1, u2⟩ := (m15 s').2 hp4
      refine ⟨fun u => ?_, fun u => ?_⟩
      · rw [eK 15 _ (by decide) (by decide)]
        refine u1 ?_
        obtain ⟨x, i, q1, q2, q3, q4, q6⟩ := u
        rw [e4] at q3
        refine ⟨x, i, q1, q2, ?_, q4, q6⟩
        split at q3
        · rename_i hx
          rw [hx]
          omega
        · exact q3
      · rw [eC 14 _ (by decide) (by decide)]
        refine u2 ?_
        obtain ⟨x, i, q1, q2, q3, q4, q5, q6⟩ := u
        rw [e4] at q3
        rw [eC 3 _ (by decide) (by decide)] at q5
        refine ⟨x, i, q1, q2, ?_, q4, q5, q6⟩
        split at q3
        · rename_i hx
          rw [hx]
          omega
        · exact q3
    · obtain ⟨s1, s2⟩ := msp e e0 e1
      unfold SP
      rw [eC 18 e (by decide) (by decide), l2]
      refine ⟨fun h5 => ?_, fun z hz => ⟨fun h => ?_, fun h => ?_⟩⟩
      · rw [eK 43 e (by decide) (by decide), s1 h5]
        exact (b_lookers_congr e (fun i => eC 29 i (by decide) (by decide))).symm
      · rw [eK 42 _ (by decide) (by decide), (s2 z hz).1 h, eC 9 z (by decide) (by decide)]
        unfold b_num
        rw [e4, if_neg (hxt e z e0 e1 hz), eC 12 _ (by decide) (by decide)]
      · rw [esx z (hxt e z e0 e1 hz), eK 15 _ (by decide) (by decide), (s2 z hz).2 h, eC 8 z (by decide) (by decide)]
    · obtain ⟨b1, b2, b3, b4, b5⟩ := hL e e0 e1
      rw [l2]
      refine ⟨by rw [eK 23 e (by decide) (by decide)]; exact b1, fun j x hx => ?_, ?_, b4, fun x hx => ?_⟩
      · rw [eK 22 _ (by decide) (by decide), esx x (hxt e x e0 e1 (List.mem_of_getElem? hx))]
        exact b2 j x hx
      · have : (τ.2 e).filter (wt τ0) = (τ.2 e).filter (wt τ) := List.filter_congr (fun z hz => by
          unfold wt
          rw [esx z (hxt e z e0 e1 hz), eC 14 _ (by decide) (by decide)])
        rw [this]
        exact b3
      · unfold OKt
        rw [e4, if_neg (hxt e x e0 e1 hx)]
        exact b5 x hx
  obtain ⟨u1, u2⟩ := (hC.1.2.2.2.2.2.2.1 s).2 hp4
  have k15 : κ 15 s = 0 := u1 ⟨t, τ.1 4 t, t0, t1, Int.le_refl _, by omega, es⟩
  have t14 : τ.1 14 s = 8 := u2 ⟨t, τ.1 4 t, t0, t1, Int.le_refl _, by omega, h43, es⟩
  have tO : OKt τ0 t := ⟨t0, t1, by rw [e4, if_pos rfl]; omega, by rw [e4, if_pos rfl]; omega⟩
  have ha : ACT τ0 t d := ⟨tO, by rw [eC 5 _ (by decide) (by decide)]; exact h5e, by rw [est, eC 10 _ (by decide) (by decide)]; exact ed.symm, by rw [est, eC 14 _ (by decide) (by decide)]; exact t14, fun e e0 e1 => by rw [l2]; exact tl e e0 e1⟩
  have e2 : τ0.1 2 0 = τ.1 2 0 := eC _ _ (by decide) (by decide)
  have e20 : κ 20 d = τ.1 20 d := hC.1.1 20 d rfl
  have hj := (hJ d d0 d1).c
  have t6 : τ0.1 6 t = 0 ∨ τ0.1 6 t = 1 := by rw [eC 6 _ (by decide) (by decide)]; exact (hG t t0 t1).2.2
  have main : CR (c_serve (pu_up κ 4 t (κ 4 t + 1)) d s (τ.1 2 0)) (b_begins τ t) ∧ WI (b_begins τ t) ∧ JA (b_begins τ t) := by
    unfold c_serve c_res b_begins
    rw [es', ← ed, ← eκ, ← eτ, pu_up_ne _ _ _ _ (by decide), e20]
    by_cases c20 : τ.1 20 d = 0
    · rw [if_pos c20, if_neg (by omega)]
      have hAH : AH κ0 τ0 d t := ⟨hC0, hI0, hJ0, ha, by rw [est, eK 15 _ (by decide) (by decide)]; exact k15, by rw [eC 20 _ (by decide) (by decide)]; exact c20, by
        unfold b_act
        rw [est, eC 11 _ (by decide) (by decide)]
        exact hA s s0 s1, fun h7 => by
        rw [eC 18 _ (by decide) (by decide)] at h7
        have := ((hJ d d0 d1).2.2.2.2.2.1 h7).2.2
        rw [hsum, eC 24 _ (by decide) (by decide)]
        omega, d0, d1⟩
      have g := mid_sim (κ := κ0) d0 d1 tO t6 hI0 ha.2.1 (perf_ps hAH)
      rw [est, e2] at g
      have ea : b_act τ0 t = τ.1 11 s := by
        unfold b_act
        rw [est, eC 11 _ (by decide) (by decide)]
      have en : b_num τ0 t = τ.1 12 s := by
        show τ0.1 12 (b_s τ0 t) = _
        rw [est, eC 12 _ (by decide) (by decide)]
      rw [ea, en] at g
      exact g
    · rw [if_neg c20, if_pos (by omega)]
      have g := mid_sim (κ := κ0) (r := (4, κ0)) d0 d1 tO t6 hI0 ha.2.1 (Or.inl ⟨show (4 : Int) ≠ 1 by decide, pfd_end d0 d1 hC0 hI0 hJ0 ha (show (4 : Int) ≠ 0 by decide)⟩)
      rw [est, e2] at g
      have hline : (b_ends τ0 t 4 0).2 d = [] := by
        show τ0.2 d = []
        rw [l2]
        exact hj.2 (by omega)
      rw [b_letsGo_no (lets_nil hline)] at g
      exact g
  obtain ⟨g1, g2, g3⟩ := main
  refine ⟨g1, g2, g3, GT.of hC ⟨hA, hG, hD, h5m⟩ (SE.begins (SE.refl τ) t) g1 (fun x x0 x1 => ?_) (fun i => ?_) (c_serve_5 (h5m.same (fun i => ?_) (fun i => ?_)) ?_)⟩
  · rw [(c_serve_46 _ _ _ _ _).1, pu_up_c]
    split
    · rename_i hx
      rw [hx]
      exact Or.inr ⟨rfl, by rw [k4]; exact h43⟩
    · exact Or.inl rfl
  · rcases (c_serve_46 (pu_up κ 4 t (κ 4 t + 1)) d s (τ.1 2 0) i).2 with h | h
    · rw [h, pu_up_ne _ _ _ _ (by decide)]
      exact Or.inl rfl
    · exact Or.inr h
  · rw [pu_up_ne _ _ _ _ (by decide), ← hC.c5]
  · rw [pu_up_ne _ _ _ _ (by decide), ← hC.c7]
  · rw [pu_up_ne _ _ _ _ (by decide), hC.1.1 10 s rfl, ← ed]
    exact d0
