/-! a thread, a step, a device is born: the worlds go on -/
theorem mr_up {κ σ : aS} (h : ∀ (c : Nat) (i : Int), mr_c c = true → κ c i = σ c i) (c0 : Nat) (j v : Int) : ∀ (c : Nat) (i : Int), mr_c c = true → pu_up κ c0 j v c i = pu_up σ c0 j v c i := by
  intro c i hc
  unfold pu_up
  rw [h c i hc]
theorem JK.cg {τ τ' : bS} {e : Int} (h : JK τ e) (hc : ∀ c : Nat, c = 18 ∨ c = 19 ∨ c = 20 ∨ c = 24 ∨ c = 25 ∨ c = 26 ∨ c = 27 ∨ c = 28 → τ'.1 c e = τ.1 c e) (h29 : ∀ i, 0 ≤ i → i < 16 → τ'.1 29 (16 * e + i) = τ.1 29 (16 * e + i)) (hr : ∀ x ∈ τ.2 e, 0 ≤ x ∧ x < 16) (hl : τ'.2 e = τ.2 e) (hx : ∀ x ∈ τ.2 e, τ'.1 9 x = τ.1 9 x ∧ b_act τ' x = b_act τ x ∧ b_num τ' x = b_num τ x) (hs : b_sum (fun t => τ'.1 4 t) 16 = b_sum (fun t => τ.1 4 t) 16) : JK τ' e := by
  obtain ⟨j01, j2, j3, j5, j6, j7, j8, j10, j11, jc1, jc2⟩ := h
  have e18 := hc 18 (by decide)
  have e19 := hc 19 (by decide)
  have e20 := hc 20 (by decide)
  have e24 := hc 24 (by decide)
  have e25 := hc 25 (by decide)
  have e26 := hc 26 (by decide)
  have e27 := hc 27 (by decide)
  have e28 := hc 28 (by decide)
  unfold JK
  rw [e18, e20, hl]
  refine ⟨fun hk => ?_, fun hk => ?_, fun hk => ?_, fun hk => ?_, fun hk => ?_, fun hk => ?_, fun hk => ?_, fun hk => ?_, fun hk => ?_, jc1, jc2⟩
  · have q := j01 hk
    unfold J01 at q ⊢
    rw [hl]
    exact fun x hx' => by rw [(hx x hx').2.2]; exact q x hx'
  · have q := j2 hk
    unfold J2 at q ⊢
    rw [e24, e27]
    exact q
  · have q := j3 hk
    unfold J3 at q ⊢
    rw [e25, e19, hl]
    exact q
  · have q := j5 hk
    unfold J5 at q ⊢
    rw [e26, e28, hl]
    refine ⟨q.1, q.2.1, fun z i i0 i1 => by rw [h29 i i0 i1]; exact q.2.2.1 z i i0 i1, fun x hx' => ?_⟩
    rw [(hx x hx').2.1, h29 x (hr x hx').1 (hr x hx').2]
    exact q.2.2.2 x hx'
  · have q := j6 hk
    unfold J6 at q ⊢
    rw [hl, e24]
    exact ⟨fun x h1 => by rw [(hx x h1).2.1]; exact q.1 x h1, fun x h1 z h2 => by rw [(hx x h1).2.1, (hx z h2).2.1]; exact q.2.1 x h1 z h2, fun x h1 => by rw [(hx x h1).2.1]; exact q.2.2 x h1⟩
  · have q := j7 hk
    unfold J7 at q ⊢
    rw [e27, e24, hs]
    exact q
  · have q := j8 hk
    unfold J8 at q ⊢
    rw [e25]
    exact q
  · have q := j10 hk
    unfold J10 at q ⊢
    rw [e25, e27]
    exact q
  · have q := j11 hk
    unfold J11 at q ⊢
    rw [e26, hl]
    exact ⟨q.1, q.2.1, fun x h1 => by rw [(hx x h1).1, (hx x h1).2.2]; exact q.2.2 x h1⟩
/-- both states after a birth -/
theorem CR.born {κ κ' : aS} {τ τ' : bS} (h : CR κ τ) (h2 : τ'.2 = τ.2) (hm : ∀ (c : Nat) (i : Int), mr_c c = true → κ' c i = τ'.1 c i) (h5 : ∀ x, τ'.1 5 x = κ' 5 x) (h7 : ∀ x, τ'.1 7 x = κ' 7 x) (h17 : ∀ s, τ'.1 17 s = κ' 17 s) (hg : ∀ (c : Nat) (i : Int), c = 33 ∨ c = 34 → τ'.1 c i = κ' c i) (h15 : ∀ s, (τ'.1 15 s = if τ'.1 14 s = 0 then κ' 15 s else 0) ∧ UZ κ' τ' s) (hsp : ∀ e, 0 ≤ e → e < 12 → SP κ' τ' e) (h4 : ∀ x, τ'.1 4 x = τ.1 4 x) (hx : ∀ e, 0 ≤ e → e < 12 → ∀ x ∈ τ.2 e, τ'.1 14 (b_s τ x) = τ.1 14 (b_s τ x)) (h23 : ∀ e, 0 ≤ e → e < 12 → κ' 23 e = κ 23 e) (h22 : ∀ e, 0 ≤ e → e < 12 → ∀ (j : Nat) (x : Int), (τ.2 e)[j]? = some x → κ' 22 (16 * e + j) = κ 22 (16 * e + j)) : CR κ' τ' := by
  obtain ⟨hB, hL⟩ := h
  have ebs : ∀ z, b_s τ' z = b_s τ z := fun z => by
    unfold b_s
    rw [h4]
  refine ⟨⟨hm, fun x => by rw [if_neg (List.not_mem_nil)]; exact h5 x, fun x => by rw [if_neg (List.not_mem_nil)]; exact h7 x, (fun x hx => by cases hx), fun s _ => h17 s, fun c i hc => hg c i hc, h15, hsp, List.nodup_nil, (fun x hx => by cases hx)⟩, fun e e0 e1 => ?_⟩
  obtain ⟨a1, a2, a3, a4, a5⟩ := hL e e0 e1
  rw [h2]
  refine ⟨by rw [h23 e e0 e1]; exact a1, fun j x hj => by rw [h22 e e0 e1 j x hj, ebs]; exact a2 j x hj, ?_, a4, fun x hx' => ?_⟩
  · have : (τ.2 e).filter (wt τ') = (τ.2 e).filter (wt τ) := by
      refine List.filter_congr (fun x hx' => ?_)
      unfold wt
      rw [ebs, hx e e0 e1 x hx']
    rw [this]
    exact a3
  · unfold OKt
    rw [h4]
    exact a5 x hx'
theorem CR.rows {κ : aS} {τ : bS} (h : CR κ τ) : (∀ (c : Nat) (i : Int), mr_c c = true → κ c i = τ.1 c i) ∧ (∀ x, τ.1 5 x = κ 5 x) ∧ (∀ x, τ.1 7 x = κ 7 x) ∧ (∀ s, τ.1 17 s = κ 17 s) ∧ (∀ (c : Nat) (i : Int), c = 33 ∨ c = 34 → τ.1 c i = κ c i) ∧ (∀ s, (τ.1 15 s = if τ.1 14 s = 0 then κ 15 s else 0) ∧ UZ κ τ s) ∧ ∀ e, 0 ≤ e → e < 12 → SP κ τ e := by
  obtain ⟨⟨m1, m5, m7, m17, m17n, mlog, m15, msp, mP, mPr⟩, hL⟩ := h
  exact ⟨m1, fun x => by have := m5 x; rw [if_neg (List.not_mem_nil)] at this; exact this, fun x => by have := m7 x; rw [if_neg (List.not_mem_nil)] at this; exact this, fun s => m17n s (fun z hz => by cases hz), fun c i hc => mlog c i hc, m15, msp⟩
/-! a thread -/
section TH
variable {y : jLay} {κ : aS} {τ : bS}
def c_thread (κ : aS) : aS := pu_up (pu_up κ 5 (κ 0 0) (-1)) 0 0 (κ 0 0 + 1)
theorem th_e (τ : bS) (c : Nat) (i : Int) (h5 : c ≠ 5) (h0 : c ≠ 0) : (b_thread τ).1 c i = τ.1 c i := by
  unfold b_thread
  rw [b_up_c _ _ _ _ _ _ h0, b_up_c _ _ _ _ _ _ h5]
theorem th_5 (τ : bS) (i : Int) : (b_thread τ).1 5 i = if i = τ.1 0 0 then -1 else τ.1 5 i := by
  unfold b_thread
  rw [b_up_c _ _ _ _ _ _ (by decide)]
  exact pu_up_c τ.1 5 _ i _
theorem th_0 (τ : bS) : (b_thread τ).1 0 0 = τ.1 0 0 + 1 := pu_up_at (pu_up τ.1 5 (τ.1 0 0) (-1)) 0 0 _
theorem thk_e (κ : aS) (c : Nat) (i : Int) (h5 : c ≠ 5) (h0 : c ≠ 0) : c_thread κ c i = κ c i := by
  unfold c_thread
  rw [pu_up_ne _ _ _ _ h0, pu_up_ne _ _ _ _ h5]
theorem thk_5 (κ : aS) (i : Int) : c_thread κ 5 i = if i = κ 0 0 then -1 else κ 5 i := by
  unfold c_thread
  rw [pu_up_ne _ _ _ _ (by decide)]
  exact pu_up_c κ 5 _ i _
theorem thk_0 (κ : aS) : c_thread κ 0 0 = κ 0 0 + 1 := pu_up_at (pu_up κ 5 (κ 0 0) (-1)) 0 0 _
theorem th_bs (τ : bS) (x : Int) : b_s (b_thread τ) x = b_s τ x := by
  unfold b_s
  rw [th_e _ _ _ (by decide) (by decide)]
theorem GW.thread (h : GW κ τ) (hT : τ.1 0 0 ≠ 16) : GW (c_thread κ) (b_thread τ) := by
  obtain ⟨hC, hI, hJ, hG⟩ := h
  have hcre := fun e x (e0 : 0 ≤ e) (e1 : e < 12) (hx : x ∈ τ.2 e) => GW.cre (κ := κ) ⟨hC, hI, hJ, hG⟩ e0 e1 hx
  obtain ⟨m1, m5, m7, m17, mlog, m15, msp⟩ := hC.rows
  have e00 : κ 0 0 = τ.1 0 0 := m1 0 0 rfl
  have E := fun c i h5 h0 => th_e τ c i h5 h0
  have K := fun c i h5 h0 => thk_e κ c i h5 h0
  obtain ⟨i1, i2, i3, i4, i5, i6, i7, i8, i9⟩ := hI
  refine ⟨hC.born rfl ?_ (fun x => ?_) (fun x => by rw [E 7 x (by decide) (by decide), K 7 x (by decide) (by decide)]; exact m7 x) (fun x => by rw [E 17 x (by decide) (by decide), K 17 x (by decide) (by decide)]; exact m17 x) (fun c i hc => by rw [E c i (by omega) (by omega), K c i (by omega) (by omega)]; exact mlog c i hc) (fun s => ⟨by rw [E 15 s (by decide) (by decide), E 14 s (by decide) (by decide), K 15 s (by decide) (by decide)]; exact (m15 s).1, UZ.tr s (fun i => E 4 i (by decide) (by decide)) (fun i => E 3 i (by decide) (by decide)) (m15 s).2 (fun _ _ => K 15 s (by decide) (by decide)) (fun _ _ => E 14 s (by decide) (by decide))⟩) (fun e e0 e1 => ?_) (fun x => E 4 x (by decide) (by decide)) (fun e _ _ x _ => E 14 _ (by decide) (by decide)) (fun e _ _ => K 23 e (by decide) (by decide)) (fun e _ _ j x _ => K 22 _ (by decide) (by decide)), ?_, ?_, ?_⟩
  · unfold c_thread
    rw [e00]
    intro c i hc
    unfold b_thread
    show _ = pu_up (pu_up τ.1 5 (τ.1 0 0) (-1)) 0 0 (τ.1 0 0 + 1) c i
    exact mr_up (mr_up m1 5 _ _) 0 _ _ c i hc
  · rw [th_5, thk_5, e00, m5 x]
  · obtain ⟨s1, s2⟩ := msp e e0 e1
    unfold SP
    rw [E 18 e (by decide) (by decide)]
    refine ⟨fun h5 => ?_, fun z hz => ⟨fun h => ?_, fun h => ?_⟩⟩
    · rw [K 43 e (by decide) (by decide), s1 h5]
      exact (b_lookers_congr e (fun i => E 29 i (by decide) (by decide))).symm
    · rw [K 42 _ (by decide) (by decide), (s2 z hz).1 h, E 9 z (by decide) (by decide)]
      unfold b_num
      rw [E 4 z (by decide) (by decide), E 12 _ (by decide) (by decide)]
    · rw [th_bs, K 15 _ (by decide) (by decide), (s2 z hz).2 h, E 8 z (by decide) (by decide)]
  · refine ⟨fun t t0 t1 => by rw [E 4 t (by decide) (by decide), E 3 t (by decide) (by decide)]; exact i1 t t0 t1, fun t t0 t1 h5 => ?_, fun d d0 d1 => ⟨(i3 d d0 d1).1, fun t ht => ?_⟩, fun d d0 d1 => by rw [E 34 d (by decide) (by decide), E 18 d (by decide) (by decide)]; exact i4 d d0 d1, fun s s0 s1 => by rw [E 10 s (by decide) (by decide)]; exact i5 s s0 s1, fun i a b => by rw [E 29 i (by decide) (by decide), E 30 i (by decide) (by decide), E 31 i (by decide) (by decide)]; exact i6 i a b, fun d d0 d1 => by rw [E 18 d (by decide) (by decide), E 28 d (by decide) (by decide)]; exact i7 d d0 d1, fun d d0 d1 => by rw [E 18 d (by decide) (by decide), E 24 d (by decide) (by decide), E 19 d (by decide) (by decide)]; exact i8 d d0 d1, ?_⟩
    · rw [th_5] at h5 ⊢
      rw [th_0] at t1
      by_cases c : t = τ.1 0 0
      · rw [if_pos c] at h5
        omega
      · rw [if_neg c] at h5 ⊢
        exact i2 t t0 (by omega) h5
    · have q := hcre d t d0 d1 ht
      obtain ⟨b1, b2, b3, b4, b5⟩ := (i3 d d0 d1).2 t ht
      rw [th_5, if_neg (by omega), E 4 t (by decide) (by decide), E 10 _ (by decide) (by decide)]
      exact ⟨b1, b2, b3, b4, b5⟩
    · rw [th_0, E 1 0 (by decide) (by decide), E 38 0 (by decide) (by decide)]
      omega
  · intro e e0 e1
    exact (hJ e e0 e1).cg (fun c hc => E c e (by omega) (by omega)) (fun i _ _ => E 29 _ (by decide) (by decide)) (fun x hx => by have := hcre e x e0 e1 hx; omega) rfl (fun x hx => ⟨E 9 x (by decide) (by decide), by unfold b_act; rw [th_bs, E 11 _ (by decide) (by decide)], by unfold b_num; rw [E 4 x (by decide) (by decide), E 12 _ (by decide) (by decide)]⟩) (b_sum_ext 16 (fun i _ _ => E 4 i (by decide) (by decide)))
  · obtain ⟨g1, g2, g3, g4⟩ := hG
    refine ⟨fun s s0 s1 => by rw [E 11 s (by decide) (by decide)]; exact g1 s s0 s1, fun t t0 t1 => ?_, fun t i t0 t1 i0 i1 => ?_, fun i => ?_⟩
    · obtain ⟨b1, b2, b3⟩ := g2 t t0 t1
      rw [E 4 t (by decide) (by decide), E 3 t (by decide) (by decide), E 6 t (by decide) (by decide), th_0]
      exact ⟨b1, fun z => b2 (by omega), b3⟩
    · rw [E 3 t (by decide) (by decide)] at i1
      rw [E 10 _ (by decide) (by decide), E 1 0 (by decide) (by decide)]
      exact g3 t i t0 t1 i0 i1
    · have q := g4 i
      rw [th_5, E 7 i (by decide) (by decide), E 2 0 (by decide) (by decide)]
      split
      · exact ⟨by omega, q.2⟩
      · exact q
theorem IQ.more {κ κ' : aS} {τ τ' : bS} {j : Int} (h : IQ κ τ j) (hk : ∀ (c : Nat) (i : Int), c = 38 ∨ c = 40 ∨ c = 41 → κ' c i = κ c i) (ht : ∀ (c : Nat) (i : Int), c = 2 ∨ c = 35 ∨ c = 36 ∨ c = 38 → τ'.1 c i = τ.1 c i) (h0 : τ.1 0 0 ≤ τ'.1 0 0) : IQ κ' τ' j := by
  obtain ⟨q1, q2, q3, q4, q5, q6⟩ := h
  have ep : ∀ t b, b_planned τ' t b = b_planned τ t b := fun t b => by
    unfold b_planned
    rw [ht 38 0 (by decide)]
    congr 1
    funext k
    unfold b_plf
    rw [ht 35 k (by decide), ht 36 k (by decide)]
  unfold IQ
  rw [hk 41 0 (by decide), hk 38 0 (by decide), ht 2 0 (by decide)]
  refine ⟨q1, q2, q3, fun i k a b c => by rw [hk 40 i (by decide), hk 40 k (by decide)]; exact q4 i k a b c, fun i a b => ?_, fun t b t0 t1 hb hp => ?_⟩
  · obtain ⟨t, b', r1, r2, r3, r4, r5, r6, r7⟩ := q5 i a b
    exact ⟨t, b', by rw [hk 40 i (by decide)]; exact r1, r2, by omega, r4, r5, r6, by rw [ep]; exact r7⟩
  · rw [ep] at hp
    obtain ⟨i, r1, r2, r3⟩ := q6 t b t0 t1 hb hp
    exact ⟨i, r1, r2, by rw [hk 40 i (by decide)]; exact r3⟩
theorem TV.thread (h : TV τ) (hT : τ.1 0 0 ≠ 16) : TV (b_thread τ) := by
  obtain ⟨v1, v2, vN, v13, vd, v3, vk⟩ := h
  have E := fun c i h5 h0 => th_e τ c i h5 h0
  refine ⟨by rw [E 2 0 (by decide) (by decide)]; exact v1, by rw [E 2 0 (by decide) (by decide)]; exact v2, by rw [th_0]; omega, fun s s0 s1 => by rw [E 13 s (by decide) (by decide)]; exact v13 s s0 s1, fun d d0 d1 => by rw [E 21 d (by decide) (by decide), E 20 d (by decide) (by decide), E 2 0 (by decide) (by decide), E 1 0 (by decide) (by decide)]; exact vd d d0 d1, ⟨fun x x0 x1 => by rw [E 4 x (by decide) (by decide), E 3 x (by decide) (by decide)]; exact v3.1 x x0 x1, fun x x0 x1 h5 => ?_⟩, fun k k0 k1 => ?_⟩
  · rw [th_5] at h5
    rw [th_0] at x1
    by_cases c : x = τ.1 0 0
    · rw [if_pos c] at h5
      omega
    · rw [if_neg c] at h5
      rw [th_bs, E 4 x (by decide) (by decide), E 16 _ (by decide) (by decide), E 2 0 (by decide) (by decide), E 13 _ (by decide) (by decide)]
      exact v3.2 x x0 (by omega) h5
  · rw [E 38 0 (by decide) (by decide)] at k1
    rw [E 36 k (by decide) (by decide), E 35 k (by decide) (by decide), th_0]
    have := vk k k0 k1
    omega
theorem zk_T {ρ ρ' : aS} {T T' D x : Int} (e : ∀ (c : Nat) (i : Int), c = 3 ∨ c = 4 ∨ c = 10 → ρ' c i = ρ c i) (h : zk ρ T D x) (hT : T ≤ T') : zk ρ' T' D x := by
  have := zk_eq e h
  exact ⟨this.1, by have := this.2.1; omega, this.2.2⟩
theorem ZI.thread (h : ZI τ) (hT : τ.1 0 0 ≠ 16) : ZI (b_thread τ) := by
  obtain ⟨⟨z1, z2, z3, z4, ⟨z5, z5'⟩, z6, n1, n2, n3, n4, n5, n6⟩, h1, h2, h3, h4⟩ := h
  have E := fun c i h5 h0 => th_e τ c i h5 h0
  have E3 : ∀ (c : Nat) (i : Int), c = 3 ∨ c = 4 ∨ c = 10 → (b_thread τ).1 c i = τ.1 c i := fun c i hc => E c i (by omega) (by omega)
  have hD := E 1 0 (by decide) (by decide)
  refine ⟨⟨fun _ _ _ => rfl, fun e x hx => ?_, fun e e0 e1 hx => ?_, fun e => by rw [E 34 e (by decide) (by decide)]; exact z4 e, ⟨fun x hx => ?_, fun x x0 x1 hx => ?_⟩, fun e he => ?_, fun i hi => ?_, fun t i t0 i0 i1 i2 => ?_, fun i hi => ?_, fun i hi => ?_, fun i hi => ?_, fun i hi => ?_⟩, fun t t0 t1 => by rw [E 4 t (by decide) (by decide), E 3 t (by decide) (by decide)]; exact h1 t t0 t1, fun t i t0 t1 i0 i1 => ?_, by rw [th_0]; omega, by rw [hD]; exact h4⟩
  · rw [th_0, hD]
    exact zk_T E3 (z2 e x hx) (by omega)
  · rw [hD] at e1 ⊢
    rw [E 28 e (by decide) (by decide)] at hx ⊢
    rw [th_0]
    exact zk_T E3 (z3 e e0 e1 hx) (by omega)
  · rw [th_0, hD] at hx
    rw [th_5, hD]
    split
    · omega
    · rename_i c
      have hx' := zk_eq (fun c i hc => (E3 c i hc).symm) hx
      refine z5 x ⟨hx'.1, ?_, hx'.2.2⟩
      have := hx'.2.1
      omega
  · rw [th_5] at hx
    rw [th_0] at x1
    rw [E 4 x (by decide) (by decide)]
    split at hx
    · omega
    · exact z5' x x0 (by omega) hx
  · rw [E 18 e (by decide) (by decide)] at he
    rw [E 24 e (by decide) (by decide), E 19 e (by decide) (by decide)]
    exact z6 e he
  · rw [th_0] at hi
    rw [E 6 i (by decide) (by decide), E 7 i (by decide) (by decide)]
    exact n1 i (by omega)
  · rw [E 3 t (by decide) (by decide)] at i0
    rw [E 16 _ (by decide) (by decide), E 17 _ (by decide) (by decide)]
    exact n2 t i t0 i0 i1 i2
  · rw [hD] at hi
    rw [E 25 i (by decide) (by decide), E 27 i (by decide) (by decide), E 34 i (by decide) (by decide)]
    exact n3 i hi
  · rw [hD] at hi
    rw [E 29 i (by decide) (by decide), E 30 i (by decide) (by decide), E 31 i (by decide) (by decide)]
    exact n4 i hi
  · rw [hD] at hi
    rw [E 32 i (by decide) (by decide)]
    exact n5 i hi
  · rw [hD] at hi
    rw [E 33 i (by decide) (by decide)]
    exact n6 i hi
  · rw [E 3 t (by decide) (by decide)] at i1
    rw [E 10 _ (by decide) (by decide), hD]
    exact h2 t i t0 t1 i0 i1
theorem PL.of (h : PL τ) {τ' : bS} (e : ∀ (c : Nat), c = 37 ∨ c = 38 → τ'.1 c 0 = τ.1 c 0) : PL τ' := by
  unfold PL
  rw [e 38 (by decide), e 37 (by decide)]
  exact h
end TH
