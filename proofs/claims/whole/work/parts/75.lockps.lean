theorem JA.lk {τ τ1 : bS} {d t : Int} (hJ : JA τ) (hI : WI τ) (hd0 : 0 ≤ d) (hd1 : d < 12) (hk : τ.1 18 d = 5) (t0 : 0 ≤ t) (t1 : t < 16) (h2 : τ1.2 = τ.2) (hc : ∀ (c : Nat) (i : Int), c ≠ 26 → c ≠ 29 → τ1.1 c i = τ.1 c i) (h26 : ∀ i, i ≠ d → τ1.1 26 i = τ.1 26 i) (h29 : ∀ i, i ≠ 16 * d + t → τ1.1 29 i = τ.1 29 i) (hj : J5 τ1 d) : JA τ1 := by
  intro e e0 e1
  by_cases ed : e = d
  · subst ed
    refine JK.k5 (by rw [hc _ _ (by decide) (by decide)]; exact hk) hj ?_
    rw [hc _ _ (by decide) (by decide), h2]
    exact (hJ e e0 e1).c
  · exact (hJ e e0 e1).sub (hI.rg e0 e1) (fun c hc' => by
      by_cases c26 : c = 26
      · rw [c26]
        exact h26 e ed
      · exact hc c e c26 (by omega)) (Or.inl (hc 28 e (by decide) (by decide))) (fun i i0 i1 => h29 _ (by omega)) (fun z hz => by rw [h2] at hz; exact hz) (by rw [h2]; exact Nat.le_refl _) (fun z _ => ⟨hc 4 z (by decide) (by decide), hc 9 z (by decide) (by decide)⟩) (fun s => hc 11 s (by decide) (by decide)) (fun s => hc 12 s (by decide) (by decide)) (Int.le_of_eq (b_sum_ext 16 (fun i _ _ => (hc 4 i (by decide) (by decide)).symm)))
theorem b_up_id {τ : bS} {c : Nat} {i v : Int} (h : τ.1 c i = v) : b_up τ c i v = τ := by
  show (pu_up τ.1 c i v, τ.2) = τ
  have : pu_up τ.1 c i v = τ.1 := by
    funext a b
    unfold pu_up
    split
    · rename_i hh
      rw [hh.1, hh.2, h]
    · rfl
  rw [this]
theorem lock_ps {κ : aS} {τ : bS} {d t : Int} (h : AH κ τ d t) (hk : τ.1 18 d = 5) : PS τ (b_lockop τ d t (b_act τ t)) d t (c_lock κ d (b_s τ t)) := by
  have hI := h.2.1
  have hJ := h.2.2.1
  have ha := h.2.2.2.1
  have hact := h.2.2.2.2.2.2.1
  have hd0 := h.2.2.2.2.2.2.2.2.1
  have hd1 := h.2.2.2.2.2.2.2.2.2
  obtain ⟨e11, e12⟩ := h.act
  have e23 := h.len
  have e26 := h.e 26 d rfl
  have td := bs_div ha.1
  have t0 := ha.1.1
  have t1 := ha.1.2.1
  have tnl := ha.2.2.2.2 d hd0 hd1
  have e29 := h.e 29 (16 * d + t) rfl
  have e43 := h.mq.sp5 hd0 hd1 hk
  have lr := b_look_rg hI hd0 hd1
  obtain ⟨k1, k2, k3, k4⟩ := hJ.j5 hd0 hd1 hk
  have r29 := hI.2.2.2.2.2.1 (16 * d + t) (by omega) (by omega)
  have h7 := hI.2.2.2.2.2.2.1 d hd0 hd1 hk
  have n28 : τ.1 28 d ≠ t := fun e => tnl (by rw [← e]; exact h7.2 (by omega))
  have hf3 := h.mq.first hd0 hd1 3
  have e15 := h.2.2.2.2.1
  -- members keep their rows
  have mem29 : ∀ v z, z ∈ τ.2 d → pu_up τ.1 29 (16 * d + t) v 29 (16 * d + z) = τ.1 29 (16 * d + z) := fun v z hz => by
    rw [pu_up_c, if_neg]
    have := ha.ne hd0 hd1 hz
    omega
  -- t comes behind the line, to look or to use
  have hwait : (b_act τ t = 0 ∨ b_act τ t = 1) → τ.1 29 (16 * d + t) = 0 → PS τ (b_waits τ t) d t (1, κ) := fun hab h29 => by
    refine pw_plain h ⟨by omega, by omega⟩ (JK.k5 (by rw [b_wait_c _ _ _ _ _ (by decide)]; exact hk) ⟨?_, ?_, fun hz i i0 i1 => ?_, fun z hz => ?_⟩ h.cw)
    · rw [b_wait_c _ _ _ _ _ (by decide)]; exact k1
    · rw [b_wait_c _ _ _ _ _ (by decide)]; exact k2
    · rw [b_wait_c _ _ _ _ _ (by decide)] at hz ⊢
      exact k3 hz i i0 i1
    · rw [b_wait_act, b_wait_c _ _ _ 28 _ (by decide), b_wait_c _ _ _ 29 _ (by decide)]
      rcases h.wm hz with hz | hz
      · exact k4 z hz
      · rw [hz, h29]
        refine ⟨by omega, ⟨fun e => by omega, fun e => absurd e n28⟩, ?_⟩
        rw [if_neg (by omega)]
  -- t passes, with its rows of who looks and who uses changed
  have hlook : ∀ v w, (v = 0 ∨ v = 1) → w = b_lookers τ d - τ.1 29 (16 * d + t) + v → J5 (b_up τ 29 (16 * d + t) v) d → PS τ (b_passes (b_up τ 29 (16 * d + t) v) t 0) d t (0, pu_up (pu_up κ 29 (16 * d + t) v) 43 d w) := fun v w hv hw hj => by
    have hI1 : WI (b_up τ 29 (16 * d + t) v) := hI.up29 _ _ (by omega)
    have hJ1 : JA (b_up τ 29 (16 * d + t) v) := hJ.lk hI hd0 hd1 hk t0 t1 rfl (fun c i _ n29 => b_up_c _ _ _ _ _ _ n29) (fun i _ => b_up_c _ _ _ _ _ _ (by decide)) (fun i hi => by
      show pu_up τ.1 29 _ v 29 i = _
      rw [pu_up_c, if_neg hi]) hj
    exact ps_pass h (h.mq.look t0 t1 hI1 hw) rfl (fun c i hc => b_up_c _ _ _ _ _ _ (by omega)) hJ1 (fun _ _ _ _ => rfl) (fun _ _ => rfl) (h.v0 (fun i => by rw [pu_up_ne _ _ _ _ (by decide), pu_up_ne _ _ _ _ (by decide)]) (fun i => by rw [pu_up_ne _ _ _ _ (by decide), pu_up_ne _ _ _ _ (by decide)]))
  have huse : ∀ v, J5 (b_up τ 26 d v) d → PS τ (b_passes (b_up τ 26 d v) t 0) d t (0, pu_up κ 26 d v) := fun v hj => by
    have hI1 : WI (b_up τ 26 d v) := hI.upd _ _ rfl
    have hJ1 : JA (b_up τ 26 d v) := hJ.lk hI hd0 hd1 hk t0 t1 rfl (fun c i n26 _ => b_up_c _ _ _ _ _ _ n26) (fun i hi => by
      show pu_up τ.1 26 d v 26 i = _
      rw [pu_up_c, if_neg hi]) (fun i _ => b_up_c _ _ _ _ _ _ (by decide)) hj
    exact ps_pass h (h.mq.up d v (c := 26) (by decide) hI1) rfl (fun c i hc => b_up_c _ _ _ _ _ _ (by omega)) hJ1 (fun _ _ _ _ => rfl) (fun _ _ => rfl) (h.v0 (fun i => by rw [pu_up_ne _ _ _ _ (by decide)]) (fun i => by rw [pu_up_ne _ _ _ _ (by decide)]))
  have hboth : ∀ v w u, (v = 0 ∨ v = 1) → w = b_lookers τ d - τ.1 29 (16 * d + t) + v → J5 (b_up (b_up τ 29 (16 * d + t) v) 26 d u) d → PS τ (b_passes (b_up (b_up τ 29 (16 * d + t) v) 26 d u) t 0) d t (0, pu_up (pu_up (pu_up κ 29 (16 * d + t) v) 43 d w) 26 d u) := fun v w u hv hw hj => by
    have hI1 : WI (b_up τ 29 (16 * d + t) v) := hI.up29 _ _ (by omega)
    have hI2 : WI (b_up (b_up τ 29 (16 * d + t) v) 26 d u) := hI1.upd _ _ rfl
    have hJ1 : JA (b_up (b_up τ 29 (16 * d + t) v) 26 d u) := hJ.lk hI hd0 hd1 hk t0 t1 rfl (fun c i n26 n29 => by rw [b_up_c _ _ _ _ _ _ n26, b_up_c _ _ _ _ _ _ n29]) (fun i hi => by
      show pu_up (b_up τ 29 (16 * d + t) v).1 26 d u 26 i = _
      rw [pu_up_c, if_neg hi, b_up_c _ _ _ _ _ _ (by decide)]) (fun i hi => by
      rw [b_up_c _ _ _ _ _ _ (by decide)]
      show pu_up τ.1 29 _ v 29 i = _
      rw [pu_up_c, if_neg hi]) hj
    exact ps_pass h ((h.mq.look t0 t1 hI1 hw).up d u (c := 26) (by decide) hI2) rfl (fun c i hc => by rw [b_up_c _ _ _ _ _ _ (by omega), b_up_c _ _ _ _ _ _ (by omega)]) hJ1 (fun _ _ _ _ => rfl) (fun _ _ => rfl) (h.v0 (fun i => by rw [pu_up_ne _ _ _ _ (by decide), pu_up_ne _ _ _ _ (by decide), pu_up_ne _ _ _ _ (by decide)]) (fun i => by rw [pu_up_ne _ _ _ _ (by decide), pu_up_ne _ _ _ _ (by decide), pu_up_ne _ _ _ _ (by decide)]))
  have jl : ∀ v, τ.1 26 d = -1 → J5 (b_up τ 29 (16 * d + t) v) d := fun v hm => by
    refine ⟨by rw [b_up_c _ _ _ _ _ _ (by decide)]; exact k1, by rw [b_up_c _ _ _ _ _ _ (by decide)]; exact k2, fun hz => ?_, fun z hz => ?_⟩
    · rw [b_up_c _ _ _ _ _ _ (by decide)] at hz
      omega
    · rw [b_act_up _ _ _ _ (by decide), b_up_c _ _ _ _ 28 _ (by decide)]
      have e : (b_up τ 29 (16 * d + t) v).1 29 (16 * d + z) = τ.1 29 (16 * d + z) := mem29 v z hz
      rw [e]
      exact k4 z hz
  have jb : ∀ v u, -1 ≤ u → u < 16 → (0 ≤ u → ∀ i, 0 ≤ i → i < 16 → pu_up τ.1 29 (16 * d + t) v 29 (16 * d + i) = 0) → J5 (b_up (b_up τ 29 (16 * d + t) v) 26 d u) d := fun v u u0 u1 hz => by
    have e1 : (b_up (b_up τ 29 (16 * d + t) v) 26 d u).1 26 d = u := pu_up_at _ _ _ _
    refine ⟨by rw [e1]; exact u0, by rw [e1]; exact u1, fun hp i i0 i1 => ?_, fun z hz' => ?_⟩
    · rw [e1] at hp
      rw [b_up_c _ _ _ _ _ _ (by decide)]
      exact hz hp i i0 i1
    · rw [b_act_up _ _ _ _ (by decide), b_act_up _ _ _ _ (by decide), b_up_c _ _ _ _ 28 _ (by decide), b_up_c _ _ _ _ 28 _ (by decide), b_up_c _ _ _ _ 29 _ (by decide)]
      have e : (b_up τ 29 (16 * d + t) v).1 29 (16 * d + z) = τ.1 29 (16 * d + z) := mem29 v z hz'
      rw [e]
      exact k4 z hz'
  have ju : ∀ u, -1 ≤ u → u < 16 → (0 ≤ u → ∀ i, 0 ≤ i → i < 16 → τ.1 29 (16 * d + i) = 0) → J5 (b_up τ 26 d u) d := fun u u0 u1 hz => by
    have e1 : (b_up τ 26 d u).1 26 d = u := pu_up_at _ _ _ _
    refine ⟨by rw [e1]; exact u0, by rw [e1]; exact u1, fun hp i i0 i1 => ?_, fun z hz' => ?_⟩
    · rw [e1] at hp
      rw [b_up_c _ _ _ _ _ _ (by decide)]
      exact hz hp i i0 i1
    · rw [b_act_up _ _ _ _ (by decide), b_up_c _ _ _ _ 28 _ (by decide), b_up_c _ _ _ _ 29 _ (by decide)]
      exact k4 z hz'
  unfold c_lock b_lockop c_enter c_leaveL c_upg c_down
  rw [td, e11, e26, e29, e23, e43]
  by_cases ab : b_act τ t = 0 ∨ b_act τ t = 1
  · rw [if_pos ab]
    by_cases c29 : τ.1 29 (16 * d + t) = 0
    · rw [if_pos c29]
      by_cases c26 : τ.1 26 d = t
      · rw [if_pos c26]
        rcases ab with a | a
        · simp only [if_pos a, if_pos c26]
          exact ps_end h (by decide) (by decide)
        · simp only [if_neg (show ¬ b_act τ t = 0 by omega), if_pos a, if_pos c26]
          exact ps_end h (by decide) (by decide)
      · rw [if_neg c26]
        have n291 : ¬ τ.1 29 (16 * d + t) = 1 := by omega
        have hfree : c_free κ d (b_s τ t) = true ↔ τ.1 26 d = -1 ∧ (b_act τ t = 0 ∨ b_lookers τ d = 0) := by
          unfold c_free
          rw [e11, e26, e43]
          simp only [Bool.and_eq_true, Bool.or_eq_true, decide_eq_true_eq]
        by_cases hl : τ.2 d = []
        · have hlen0 : ¬ 0 < (((τ.2 d).length : Nat) : Int) := by rw [hl]; simp
          rw [if_neg hlen0]
          unfold c_las
          rw [e11, td]
          rcases ab with a | a
          · simp only [if_pos a, if_neg c26, if_neg n291, if_pos hl]
            by_cases cm : τ.1 26 d = -1
            · rw [if_pos (hfree.mpr ⟨cm, Or.inl a⟩), if_pos (show τ.1 26 d < 0 by omega)]
              unfold c_addL
              rw [e43]
              have ew : jm_wr (b_lookers τ d + 1) = b_lookers τ d + 1 := jm_wr_id (by omega) (by omega)
              rw [ew]
              exact hlook 1 _ (Or.inr rfl) (by rw [c29]; omega) (jl 1 cm)
            · rw [if_neg (fun z => cm (hfree.mp z).1), if_neg (show ¬ τ.1 26 d < 0 by omega)]
              exact hwait (Or.inl a) c29
          · have na : ¬ b_act τ t = 0 := by omega
            simp only [if_neg na, if_pos a, if_neg c26, if_neg n291, if_pos hl]
            by_cases cm : τ.1 26 d = -1
            · rw [if_pos (show τ.1 26 d < 0 by omega)]
              by_cases cl : b_lookers τ d = 0
              · rw [if_pos (hfree.mpr ⟨cm, Or.inr cl⟩), if_pos cl]
                exact huse t (ju t (by omega) t1 (fun _ => b_look_0 hI hd0 hd1 cl))
              · have nf : ¬ c_free κ d (b_s τ t) = true := fun z => by
                  have := (hfree.mp z).2
                  omega
                rw [if_neg nf, if_neg cl]
                exact hwait (Or.inr a) c29
            · rw [if_neg (fun z => cm (hfree.mp z).1), if_neg (show ¬ τ.1 26 d < 0 by omega)]
              exact hwait (Or.inr a) c29
        · have hpos : 0 < (((τ.2 d).length : Nat) : Int) := by
            have := List.length_pos_iff.mpr hl
            omega
          rw [if_pos hpos]
          rcases ab with a | a
          · simp only [if_pos a, if_neg c26, if_neg n291, if_neg hl]
            exact hwait (Or.inl a) c29
          · simp only [if_neg (show ¬ b_act τ t = 0 by omega), if_pos a, if_neg c26, if_neg n291, if_neg hl]
            exact hwait (Or.inr a) c29
    · rw [if_neg c29]
      have c291 : τ.1 29 (16 * d + t) = 1 := by omega
      rcases ab with a | a
      · simp only [if_pos a, if_pos c291, ite_self]
        exact ps_end h (by decide) (by decide)
      · simp only [if_neg (show ¬ b_act τ t = 0 by omega), if_pos a, if_pos c291, ite_self]
        exact ps_end h (by decide) (by decide)
  rw [if_neg ab]
  have na0 : ¬ b_act τ t = 0 := fun e => ab (Or.inl e)
  have na1 : ¬ b_act τ t = 1 := fun e => ab (Or.inr e)
  simp only [if_neg na0, if_neg na1]
  by_cases a2 : b_act τ t = 2
  · simp only [if_pos a2]
    by_cases c26 : τ.1 26 d = t
    · have hz := k3 (by omega)
      have c29 := hz t t0 t1
      rw [if_pos c29, if_pos c26, if_pos c26, b_up_id (τ := τ) (c := 29) c29]
      exact huse (-1) (ju (-1) (by omega) (by omega) (fun e => by omega))
    · rw [if_neg c26, if_neg c26]
      by_cases c29 : τ.1 29 (16 * d + t) = 0
      · rw [if_pos c29, if_neg (by omega)]
        exact ps_end h (by decide) (by decide)
      · rw [if_neg c29, if_pos (by omega)]
        unfold c_dropL
        rw [e43]
        have h26 : τ.1 26 d = -1 := by
          by_cases hm : 0 ≤ τ.1 26 d
          · exact absurd (k3 hm t t0 t1) c29
          · omega
        have lo := b_look_up (τ := τ) (d := d) (v := 0) t0 t1
        have lr2 := b_look_rg (hI.up29 (16 * d + t) 0 (by decide)) hd0 hd1
        exact hlook 0 _ (Or.inl rfl) (by rw [jm_wr_id (by omega) (by omega)]; omega) (jl 0 h26)
  simp only [if_neg a2]
  by_cases a3 : b_act τ t = 3
  · simp only [if_pos a3]
    by_cases c29 : τ.1 29 (16 * d + t) = 0
    · rw [if_pos c29, if_neg (by omega)]
      exact ps_end h (by decide) (by decide)
    · have c291 : τ.1 29 (16 * d + t) = 1 := by omega
      have h26 : τ.1 26 d = -1 := by
        by_cases hm : 0 ≤ τ.1 26 d
        · exact absurd (k3 hm t t0 t1) c29
        · omega
      rw [if_neg c29, if_pos c291]
      by_cases h28 : τ.1 28 d < 0
      · have hno : (τ.2 d).find? (fun x => decide (b_act τ x = 3)) = none := l_find_no (fun z hz => by
          have h1 := (k4 z hz).2.1
          have h2 := hI.rg hd0 hd1 z hz
          have : ¬ b_act τ z = 3 := fun e => by
            have := h1.mp e
            omega
          simpa using this)
        rw [hno] at hf3
        rw [hf3, if_pos h28]
        simp only [Option.map_none]
        have lo := b_look_up (τ := τ) (d := d) (v := 0) t0 t1
        have lr2 := b_look_rg (hI.up29 (16 * d + t) 0 (by decide)) hd0 hd1
        by_cases cl : 1 < b_lookers τ d
        · rw [if_pos cl, if_neg (by omega)]
          refine Or.inr ⟨rfl, τ, h.1, hI, hJ, ha, rfl, rfl, rfl, rfl, ⟨fun e => by omega, fun e => by omega⟩, fun h6 => by rw [if_pos h6], fun h6 => ⟨Or.inr ⟨by rw [if_neg h6], hk⟩, ?_⟩⟩
          rw [if_neg h6, b_waits_n h6 ha.2.2.1]
          have e28 : (b_up (b_wait τ d t) 28 d t).1 28 d = t := pu_up_at _ _ _ _
          have eC : ∀ (c : Nat) (i : Int), c ≠ 28 → c ≠ 14 → c ≠ 5 → (b_up (b_wait τ d t) 28 d t).1 c i = τ.1 c i := fun c i n28 n14 n5 => by rw [b_up_c _ _ _ _ _ _ n28, b_wait_c _ _ _ _ _ ⟨n14, n5⟩]
          refine JK.k5 (by rw [eC _ _ (by decide) (by decide) (by decide)]; exact hk) ⟨by rw [eC _ _ (by decide) (by decide) (by decide)]; exact k1, by rw [eC _ _ (by decide) (by decide) (by decide)]; exact k2, fun hz => ?_, fun z hz => ?_⟩ ?_
          · rw [eC _ _ (by decide) (by decide) (by decide)] at hz
            omega
          · rw [b_act_up _ _ _ _ (by decide), b_wait_act, e28, eC 29 _ (by decide) (by decide) (by decide)]
            rcases h.wm hz with hz | hz
            · obtain ⟨p1, p2, p3⟩ := k4 z hz
              have zr := hI.rg hd0 hd1 z hz
              refine ⟨p1, ⟨fun e => ?_, fun e => ?_⟩, p3⟩
              · have := p2.mp e
                omega
              · exact absurd e.symm (ha.ne hd0 hd1 hz)
            · rw [hz]
              refine ⟨Or.inr (Or.inr a3), ⟨fun _ => rfl, fun _ => a3⟩, ?_⟩
              rw [if_pos a3]
              exact c291
          · rw [eC _ _ (by decide) (by decide) (by decide), h.2.2.2.2.2.1]
            exact ⟨Or.inl rfl, fun e => absurd e (by decide)⟩
        · have cl1 : b_lookers τ d = 1 := by omega
          rw [if_neg cl, if_pos cl1, if_neg (show ¬ τ.1 26 d = t by omega)]
          unfold c_user c_dropL
          rw [e43]
          have hz : b_lookers (b_up τ 29 (16 * d + t) 0) d = 0 := by omega
          exact hboth 0 _ t (Or.inl rfl) (by rw [jm_wr_id (by omega) (by omega)]; omega) (jb 0 t (by omega) t1 (fun _ i i0 i1 => b_look_0 (hI.up29 (16 * d + t) 0 (by decide)) hd0 hd1 hz i i0 i1))
      · have hx : τ.1 28 d ∈ τ.2 d := h7.2 (by omega)
        obtain ⟨x, ex⟩ : ∃ x, τ.1 28 d = x := ⟨_, rfl⟩
        rw [ex] at hx
        have ax : b_act τ x = 3 := (k4 x hx).2.1.mpr ex
        have hys : (τ.2 d).find? (fun x => decide (b_act τ x = 3)) = some x := l_find_uq hx (by simpa using ax) (fun z hz hz3 => by
          have := (k4 z hz).2.1.mp (by simpa using hz3)
          omega)
        rw [hys] at hf3
        rw [hf3, if_neg h28]
        simp only [Option.map_some]
        exact ps_end h (by decide) (by decide)
  simp only [if_neg a3]
  by_cases a4 : b_act τ t = 4
  · simp only [if_pos a4]
    by_cases c26 : τ.1 26 d = t
    · rw [if_pos c26, if_pos c26]
      have hz := k3 (by omega)
      have c29 := hz t t0 t1
      have hl0 : b_lookers τ d = 0 := by
        unfold b_lookers
        rw [b_sum_ext (g := fun _ => 0) 16 (fun i i0 i1 => hz i i0 (by omega))]
        rfl
      have ek : c_addL (pu_up κ 26 d (-1)) d t = pu_up (pu_up (pu_up κ 29 (16 * d + t) 1) 43 d 1) 26 d (-1) := by
        unfold c_addL
        rw [pu_up_ne _ _ _ _ (by decide), e43, hl0, show jm_wr (0 + 1) = 1 by decide, pu_up_comm κ d (-1) _ _ (by decide), pu_up_comm _ d (-1) _ _ (by decide)]
      rw [ek]
      exact hboth 1 1 (-1) (Or.inr rfl) (by rw [hl0, c29]; rfl) (jb 1 (-1) (by omega) (by omega) (fun e => by omega))
    · rw [if_neg c26, if_neg c26]
      exact ps_end h (by decide) (by decide)
  · simp only [if_neg a4]
    exact ps_end h (by decide) (by decide)
