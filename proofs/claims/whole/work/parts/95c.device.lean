/-! a device -/
section DV
variable {y : jLay} {κ : aS} {τ : bS} {k x : Int}
def c_dv0 (κ : aS) (k x : Int) : aS := pu_up (pu_up (pu_up (pu_up (pu_up κ 1 0 (κ 1 0 + 1)) 18 (κ 1 0) k) 19 (κ 1 0) x) 24 (κ 1 0) (if k < 3 then x else 0)) 26 (κ 1 0) (-1)
def c_device (κ : aS) (k x : Int) : aS := fun c i => if c = 22 ∧ 16 * κ 1 0 ≤ i ∧ i < 16 * κ 1 0 + 16 then -1 else if c = 42 ∧ 16 * κ 1 0 ≤ i ∧ i < 16 * κ 1 0 + 16 then 0 else if c = 43 ∧ i = κ 1 0 then 0 else c_dv0 κ k x c i
theorem dv0_e (κ : aS) (c : Nat) (i : Int) (h : c ≠ 1 ∧ c ≠ 18 ∧ c ≠ 19 ∧ c ≠ 24 ∧ c ≠ 26) : c_dv0 κ k x c i = κ c i := by
  unfold c_dv0
  rw [pu_up_ne _ _ _ _ h.2.2.2.2, pu_up_ne _ _ _ _ h.2.2.2.1, pu_up_ne _ _ _ _ h.2.2.1, pu_up_ne _ _ _ _ h.2.1, pu_up_ne _ _ _ _ h.1]
theorem dv0_n (κ : aS) (c : Nat) (i : Int) (h : i ≠ κ 1 0) (h1 : c ≠ 1) : c_dv0 κ k x c i = κ c i := by
  unfold c_dv0 pu_up
  rw [if_neg (fun z => h z.2), if_neg (fun z => h z.2), if_neg (fun z => h z.2), if_neg (fun z => h z.2), if_neg (fun z => h1 z.1)]
theorem dv0_s (κ : aS) : c_dv0 κ k x 18 (κ 1 0) = k ∧ c_dv0 κ k x 19 (κ 1 0) = x ∧ c_dv0 κ k x 24 (κ 1 0) = (if k < 3 then x else 0) ∧ c_dv0 κ k x 26 (κ 1 0) = -1 ∧ c_dv0 κ k x 1 0 = κ 1 0 + 1 := by
  unfold c_dv0
  refine ⟨?_, ?_, ?_, ?_, ?_⟩ <;> simp [pu_up]
theorem b_device_1 (τ : bS) : (b_device τ k x).1 = pu_up (c_dv0 τ.1 k x) 28 (τ.1 1 0) (-1) := rfl
theorem dv_E (τ : bS) (c : Nat) (i : Int) (h : c ≠ 1 ∧ c ≠ 18 ∧ c ≠ 19 ∧ c ≠ 24 ∧ c ≠ 26) (h28 : c ≠ 28) : (b_device τ k x).1 c i = τ.1 c i := by
  rw [b_device_1, pu_up_ne _ _ _ _ h28, dv0_e _ _ _ h]
theorem dv_N (τ : bS) (c : Nat) (i : Int) (h : i ≠ τ.1 1 0) (h1 : c ≠ 1) : (b_device τ k x).1 c i = τ.1 c i := by
  rw [b_device_1]
  have : pu_up (c_dv0 τ.1 k x) 28 (τ.1 1 0) (-1) c i = c_dv0 τ.1 k x c i := if_neg (fun z => h z.2)
  rw [this, dv0_n _ _ _ h h1]
theorem dv_S (τ : bS) : (b_device τ k x).1 18 (τ.1 1 0) = k ∧ (b_device τ k x).1 19 (τ.1 1 0) = x ∧ (b_device τ k x).1 24 (τ.1 1 0) = (if k < 3 then x else 0) ∧ (b_device τ k x).1 26 (τ.1 1 0) = -1 ∧ (b_device τ k x).1 1 0 = τ.1 1 0 + 1 ∧ (b_device τ k x).1 28 (τ.1 1 0) = -1 := by
  obtain ⟨a, b, c, d, e⟩ := dv0_s (k := k) (x := x) τ.1
  rw [b_device_1, pu_up_ne _ _ _ _ (by decide), pu_up_ne _ _ _ _ (by decide), pu_up_ne _ _ _ _ (by decide), pu_up_ne _ _ _ _ (by decide), pu_up_ne _ _ _ _ (by decide)]
  exact ⟨a, b, c, d, e, pu_up_at _ 28 _ _⟩
theorem GW.device (h : GW κ τ) (hz : ZI τ) (ok : p_devok τ k x) : GW (c_device κ k x) (b_device τ k x) := by
  have hcre := fun e x (e0 : 0 ≤ e) (e1 : e < 12) (hx : x ∈ τ.2 e) => h.cre e0 e1 hx
  obtain ⟨hC, hI, hJ, hG⟩ := h
  obtain ⟨oD, ⟨k0, k1⟩, x0, x1⟩ := ok
  obtain ⟨m1, m5, m7, m17, mlog, m15, msp⟩ := hC.rows
  have e1 : κ 1 0 = τ.1 1 0 := m1 1 0 rfl
  obtain ⟨s18, s19, s24, s26, s1, s28⟩ := dv_S (k := k) (x := x) τ
  have E := fun c i h h28 => dv_E (k := k) (x := x) τ c i h h28
  have N := fun c i h h1 => dv_N (k := k) (x := x) τ c i h h1
  have hlen := fun e e0 e1' => hI.len e e0 e1'
  obtain ⟨i1, i2, i3, i4, i5, i6, i7, i8, i9⟩ := hI
  have D0 : 0 ≤ τ.1 1 0 := i9.2.2.1
  have D1 : τ.1 1 0 < 12 := by omega
  obtain ⟨⟨_, _, _, _, _, _, n1, n2, n3, n4, n5, n6⟩, _⟩ := hz
  have l0 : τ.2 (τ.1 1 0) = [] := by
    cases hl : τ.2 (τ.1 1 0) with
    | nil => rfl
    | cons z l =>
      have := hcre (τ.1 1 0) z D0 D1 (by rw [hl]; exact List.mem_cons_self)
      omega
  have K : ∀ (c : Nat) (i : Int), c ≠ 1 ∧ c ≠ 18 ∧ c ≠ 19 ∧ c ≠ 24 ∧ c ≠ 26 → c ≠ 22 → c ≠ 42 → c ≠ 43 → c_device κ k x c i = κ c i := fun c i hc a b d => by
    unfold c_device
    rw [if_neg (fun z => a z.1), if_neg (fun z => b z.1), if_neg (fun z => d z.1), dv0_e κ c i hc]
  refine ⟨hC.born rfl ?_ (fun z => by rw [E 5 z (by decide) (by decide), K 5 z (by decide) (by decide) (by decide) (by decide)]; exact m5 z) (fun z => by rw [E 7 z (by decide) (by decide), K 7 z (by decide) (by decide) (by decide) (by decide)]; exact m7 z) (fun z => by rw [E 17 z (by decide) (by decide), K 17 z (by decide) (by decide) (by decide) (by decide)]; exact m17 z) (fun c i hc => by rw [E c i (by omega) (by omega), K c i (by omega) (by omega) (by omega) (by omega)]; exact mlog c i hc) (fun s => ⟨by rw [E 15 s (by decide) (by decide), E 14 s (by decide) (by decide), K 15 s (by decide) (by decide) (by decide) (by decide)]; exact (m15 s).1, UZ.tr s (fun i => E 4 i (by decide) (by decide)) (fun i => E 3 i (by decide) (by decide)) (m15 s).2 (fun _ _ => K 15 s (by decide) (by decide) (by decide) (by decide)) (fun _ _ => E 14 s (by decide) (by decide))⟩) (fun e e0 e2 => ?_) (fun z => E 4 z (by decide) (by decide)) (fun e _ _ z _ => E 14 _ (by decide) (by decide)) (fun e _ _ => K 23 e (by decide) (by decide) (by decide) (by decide)) (fun e e0 e2 j z hj => ?_), ?_, ?_, ?_⟩
  · intro c i hc
    have h22 : c ≠ 22 := fun z => by subst z; cases hc
    have h42 : c ≠ 42 := fun z => by subst z; cases hc
    have h43 : c ≠ 43 := fun z => by subst z; cases hc
    have h28 : c ≠ 28 := fun z => by subst z; cases hc
    unfold c_device
    rw [if_neg (fun z => h22 z.1), if_neg (fun z => h42 z.1), if_neg (fun z => h43 z.1), b_device_1, pu_up_ne _ _ _ _ h28]
    unfold c_dv0
    rw [e1]
    exact mr_up (mr_up (mr_up (mr_up (mr_up m1 _ _ _) _ _ _) _ _ _) _ _ _) _ _ _ c i hc
  · by_cases c : e = τ.1 1 0
    · subst c
      unfold SP
      refine ⟨fun _ => ?_, fun z hz => ?_⟩
      · have : c_device κ k x 43 (τ.1 1 0) = 0 := by
          unfold c_device
          rw [if_neg (fun z => absurd z.1 (by decide)), if_neg (fun z => absurd z.1 (by decide)), if_pos ⟨rfl, e1.symm⟩]
        rw [this]
        have : b_lookers (b_device τ k x) (τ.1 1 0) = b_sum (fun _ => 0) 16 := b_sum_ext 16 (fun i i0 i1 => by
          show (b_device τ k x).1 29 (16 * τ.1 1 0 + i) = 0
          rw [E 29 _ (by decide) (by decide)]
          exact (n4 _ (by omega)).1)
        rw [this]
        rfl
      · have hz : z ∈ τ.2 (τ.1 1 0) := hz
        rw [l0] at hz
        cases hz
    · obtain ⟨s1, s2⟩ := msp e e0 e2
      unfold SP
      rw [N 18 e c (by decide)]
      refine ⟨fun h5 => ?_, fun z hz => ⟨fun h => ?_, fun h => ?_⟩⟩
      · have : c_device κ k x 43 e = κ 43 e := by
          unfold c_device
          rw [if_neg (fun z => absurd z.1 (by decide)), if_neg (fun z => absurd z.1 (by decide)), if_neg (fun z => by omega), dv0_e κ 43 e (by decide)]
        rw [this, s1 h5]
        exact (b_lookers_congr e (fun i => E 29 i (by decide) (by decide))).symm
      · have hr := hcre e z e0 e2 hz
        have : c_device κ k x 42 (16 * e + z) = κ 42 (16 * e + z) := by
          unfold c_device
          rw [if_neg (fun z => absurd z.1 (by decide)), if_neg (fun z => by omega), if_neg (fun z => absurd z.1 (by decide)), dv0_e κ 42 _ (by decide)]
        rw [this, (s2 z hz).1 h, E 9 z (by decide) (by decide)]
        unfold b_num
        rw [E 4 z (by decide) (by decide), E 12 _ (by decide) (by decide)]
      · have ebs : b_s (b_device τ k x) z = b_s τ z := by
          unfold b_s
          rw [E 4 z (by decide) (by decide)]
        rw [ebs, K 15 _ (by decide) (by decide) (by decide) (by decide), (s2 z hz).2 h, E 8 z (by decide) (by decide)]
  · have hm := List.mem_of_getElem? hj
    have hr := hcre e z e0 e2 hm
    have hl := hlen e e0 e2
    have hj' := (List.getElem?_eq_some_iff.mp hj).1
    unfold c_device
    rw [if_neg (fun z => by omega), if_neg (fun z => absurd z.1 (by decide)), if_neg (fun z => absurd z.1 (by decide)), dv0_e κ 22 _ (by decide)]
  · refine ⟨fun t t0 t1 => by rw [E 4 t (by decide) (by decide), E 3 t (by decide) (by decide)]; exact i1 t t0 t1, fun t t0 t1 h5 => ?_, fun d d0 d1 => ⟨(i3 d d0 d1).1, fun t ht => by rw [E 5 t (by decide) (by decide), E 4 t (by decide) (by decide), E 10 _ (by decide) (by decide)]; exact (i3 d d0 d1).2 t ht⟩, fun d d0 d1 => ?_, fun s s0 s1 => by rw [E 10 s (by decide) (by decide)]; exact i5 s s0 s1, fun i a b => by rw [E 29 i (by decide) (by decide), E 30 i (by decide) (by decide), E 31 i (by decide) (by decide)]; exact i6 i a b, fun d d0 d1 h5 => ?_, fun d d0 d1 h6 => ?_, ?_⟩
    · rw [E 0 0 (by decide) (by decide)] at t1
      rw [E 5 t (by decide) (by decide)] at h5 ⊢
      exact i2 t t0 t1 h5
    · rw [E 34 d (by decide) (by decide)]
      have := i4 d d0 d1
      by_cases c : d = τ.1 1 0
      · subst c
        rw [s18]
        omega
      · rw [N 18 d c (by decide)]
        exact this
    · by_cases c : d = τ.1 1 0
      · subst c
        rw [s28]
        exact ⟨by omega, fun z => by omega⟩
      · rw [N 18 d c (by decide)] at h5
        rw [N 28 d c (by decide)]
        exact i7 d d0 d1 h5
    · by_cases c : d = τ.1 1 0
      · subst c
        rw [s18] at h6
        rw [s24, s19, if_neg (by omega)]
        subst h6
        have x0' : (0 : Int) ≤ x := x0
        have x1' : x ≤ 8 := x1
        omega
      · rw [N 18 d c (by decide)] at h6
        rw [N 24 d c (by decide), N 19 d c (by decide)]
        exact i8 d d0 d1 h6
    · rw [s1, E 0 0 (by decide) (by decide), E 38 0 (by decide) (by decide)]
      omega
  · intro e e0 e2
    by_cases c : e = τ.1 1 0
    · subst c
      have hc : ((b_device τ k x).1 20 (τ.1 1 0) = 0 ∨ (b_device τ k x).1 20 (τ.1 1 0) = 1) ∧ ((b_device τ k x).1 20 (τ.1 1 0) = 1 → (b_device τ k x).2 (τ.1 1 0) = []) := by
        rw [E 20 _ (by decide) (by decide)]
        exact ⟨(hJ _ D0 D1).c.1, fun _ => l0⟩
      have l0' : (b_device τ k x).2 (τ.1 1 0) = [] := l0
      have z25 : (b_device τ k x).1 25 (τ.1 1 0) = 0 := by
        rw [E 25 _ (by decide) (by decide)]
        exact (n3 _ (by omega)).1
      have z27 : (b_device τ k x).1 27 (τ.1 1 0) = 0 := by
        rw [E 27 _ (by decide) (by decide)]
        exact (n3 _ (by omega)).2.1
      unfold JK J01 J2 J3 J5 J6 J7 J8 J10 J11
      rw [s18, z25, z27, s24, s19, s26, l0']
      refine ⟨fun _ z hz => (by cases hz), fun hk => ?_, fun hk => ?_, fun hk => ⟨by omega, by omega, fun z => by omega, fun z hz => (by cases hz)⟩, fun hk => ⟨fun z hz => (by cases hz), fun z hz => (by cases hz), fun z hz => (by cases hz)⟩, fun hk => ?_, fun _ => Or.inl rfl, fun _ => ⟨Or.inl rfl, rfl⟩, fun _ => ⟨by omega, by omega, fun z hz => (by cases hz)⟩, hc.1, fun _ => rfl⟩
      · subst hk
        rw [if_pos (by decide)]
        have x0' : (0 : Int) ≤ x := x0
        have x1' : x ≤ 100 := x1
        exact ⟨x0', x1', rfl⟩
      · subst hk
        have x0' : (1 : Int) ≤ x := x0
        exact ⟨Or.inl rfl, by show (0 : Int) < x; omega⟩
      · subst hk
        rw [if_neg (by decide)]
        have q := b_sum_nn (f := fun t => (b_device τ 7 x).1 4 t) 16 (fun i i0 i2 => by
          show 0 ≤ (b_device τ 7 x).1 4 i
          rw [E 4 _ (by decide) (by decide)]
          exact (i1 i i0 (by omega)).1)
        exact ⟨by omega, by omega, q⟩
    · exact (hJ e e0 e2).cg (fun c' hc => N c' e c (by omega)) (fun i _ _ => E 29 _ (by decide) (by decide)) (fun z hz => by have := hcre e z e0 e2 hz; omega) rfl (fun z hz => ⟨E 9 z (by decide) (by decide), by unfold b_act b_s; rw [E 4 z (by decide) (by decide), E 11 _ (by decide) (by decide)], by unfold b_num; rw [E 4 z (by decide) (by decide), E 12 _ (by decide) (by decide)]⟩) (b_sum_ext 16 (fun i _ _ => E 4 i (by decide) (by decide)))
  · obtain ⟨g1, g2, g3, g4⟩ := hG
    refine ⟨fun s s0 s1 => by rw [E 11 s (by decide) (by decide)]; exact g1 s s0 s1, fun t t0 t1 => by rw [E 4 t (by decide) (by decide), E 3 t (by decide) (by decide), E 0 0 (by decide) (by decide), E 6 t (by decide) (by decide)]; exact g2 t t0 t1, fun t i t0 t1 i0 i1 => ?_, fun i => by rw [E 5 i (by decide) (by decide), E 7 i (by decide) (by decide), E 2 0 (by decide) (by decide)]; exact g4 i⟩
    rw [E 3 t (by decide) (by decide)] at i1
    rw [E 10 _ (by decide) (by decide), s1]
    have := g3 t i t0 t1 i0 i1
    omega
theorem TV.device (h : TV τ) (ok : p_devok τ k x) : TV (b_device τ k x) := by
  obtain ⟨v1, v2, vN, v13, vd, v3, vk⟩ := h
  have E := fun c i h h28 => dv_E (k := k) (x := x) τ c i h h28
  have s1 := (dv_S (k := k) (x := x) τ).2.2.2.2.1
  have ebs : ∀ z, b_s (b_device τ k x) z = b_s τ z := fun z => by
    unfold b_s
    rw [E 4 z (by decide) (by decide)]
  refine ⟨by rw [E 2 0 (by decide) (by decide)]; exact v1, by rw [E 2 0 (by decide) (by decide)]; exact v2, by rw [E 0 0 (by decide) (by decide)]; exact vN, fun s s0 s1 => by rw [E 13 s (by decide) (by decide)]; exact v13 s s0 s1, fun d d0 d1 => ?_, ⟨fun z z0 z1 => by rw [E 4 z (by decide) (by decide), E 3 z (by decide) (by decide)]; exact v3.1 z z0 z1, fun z z0 z1 h5 => ?_⟩, fun k k0 k1 => ?_⟩
  · rw [E 21 d (by decide) (by decide), E 20 d (by decide) (by decide), E 2 0 (by decide) (by decide), s1]
    obtain ⟨r1, r2, r3, r4, r5, r6⟩ := vd d d0 d1
    exact ⟨r1, r2, r3, r4, r5, fun z => r6 (by omega)⟩
  · rw [E 5 z (by decide) (by decide)] at h5
    rw [E 0 0 (by decide) (by decide)] at z1
    rw [ebs, E 4 z (by decide) (by decide), E 16 _ (by decide) (by decide), E 2 0 (by decide) (by decide), E 13 _ (by decide) (by decide)]
    exact v3.2 z z0 z1 h5
  · rw [E 38 0 (by decide) (by decide)] at k1
    rw [E 36 k (by decide) (by decide), E 35 k (by decide) (by decide), E 0 0 (by decide) (by decide)]
    exact vk k k0 k1
theorem ZI.device (h : ZI τ) (ok : p_devok τ k x) : ZI (b_device τ k x) := by
  obtain ⟨⟨z1, z2, z3, z4, ⟨z5, z5'⟩, z6, n1, n2, n3, n4, n5, n6⟩, h1, h2, h3, h4⟩ := h
  obtain ⟨oD, ⟨k0, k1⟩, x0, x1⟩ := ok
  have E := fun c i h h28 => dv_E (k := k) (x := x) τ c i h h28
  have N := fun c i h h1 => dv_N (k := k) (x := x) τ c i h h1
  obtain ⟨s18, s19, s24, s26, s1, s28⟩ := dv_S (k := k) (x := x) τ
  have E0 := E 0 0 (by decide) (by decide)
  have up : ∀ z, zk τ.1 (τ.1 0 0) (τ.1 1 0) z → zk (b_device τ k x).1 (τ.1 0 0) (τ.1 1 0 + 1) z := fun z hz => by
    unfold zk at hz ⊢
    rw [E 4 z (by decide) (by decide), E 3 z (by decide) (by decide), E 10 _ (by decide) (by decide)]
    omega
  have dn : ∀ z, zk (b_device τ k x).1 (τ.1 0 0) (τ.1 1 0 + 1) z → zk τ.1 (τ.1 0 0) (τ.1 1 0) z := fun z hz => by
    unfold zk at hz ⊢
    rw [E 4 z (by decide) (by decide), E 3 z (by decide) (by decide), E 10 _ (by decide) (by decide)] at hz
    have q := h2 z (τ.1 4 z - 1) hz.1 hz.2.2.1 (by omega) (by omega)
    have e : 20 * z + (τ.1 4 z - 1) = 20 * z + τ.1 4 z - 1 := by omega
    rw [e] at q
    omega
  unfold ZI
  rw [E0, s1]
  refine ⟨⟨fun _ _ _ => rfl, fun e z hz => up z (z2 e z hz), fun e e0 e1 hz => ?_, fun e => by rw [E 34 e (by decide) (by decide)]; exact z4 e, ⟨fun z hz => by rw [E 5 z (by decide) (by decide)]; have := z5 z (dn z hz); omega, fun z z0 z1 hz => ?_⟩, fun e he => ?_, fun i hi => by rw [E 6 i (by decide) (by decide), E 7 i (by decide) (by decide)]; exact n1 i hi, fun t i t0 i0 j0 j1 => ?_, fun i hi => by rw [E 25 i (by decide) (by decide), E 27 i (by decide) (by decide), E 34 i (by decide) (by decide)]; exact n3 i (by omega), fun i hi => by rw [E 29 i (by decide) (by decide), E 30 i (by decide) (by decide), E 31 i (by decide) (by decide)]; exact n4 i (by omega), fun i hi => by rw [E 32 i (by decide) (by decide)]; exact n5 i (by omega), fun i hi => by rw [E 33 i (by decide) (by decide)]; exact n6 i (by omega)⟩, fun t t0 t1 => by rw [E 4 t (by decide) (by decide), E 3 t (by decide) (by decide)]; exact h1 t t0 t1, fun t i t0 t1 j0 j1 => ?_, by rw [E0]; exact h3, by rw [s1]; omega⟩
  · by_cases c : e = τ.1 1 0
    · rw [c, s28] at hz
      omega
    · rw [N 28 e c (by decide)] at hz ⊢
      exact up _ (z3 e e0 (by omega) hz)
  · rw [E 5 z (by decide) (by decide)] at hz
    rw [E 4 z (by decide) (by decide)]
    exact z5' z z0 z1 hz
  · by_cases c : e = τ.1 1 0
    · rw [c, s18] at he
      rw [c, s24, s19, if_neg (by omega)]
      subst he
      have x1' : x ≤ 8 := x1
      omega
    · rw [N 18 e c (by decide)] at he
      rw [N 24 e c (by decide), N 19 e c (by decide)]
      exact z6 e he
  · rw [E 3 t (by decide) (by decide)] at i0
    rw [E 16 _ (by decide) (by decide), E 17 _ (by decide) (by decide)]
    exact n2 t i t0 i0 j0 j1
  · rw [E 3 t (by decide) (by decide)] at j1
    rw [E 10 _ (by decide) (by decide), s1]
    have := h2 t i t0 t1 j0 j1
    omega
end DV
