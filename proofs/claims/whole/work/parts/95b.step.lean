/-! a step -/
section ST
variable {y : jLay} {κ : aS} {τ : bS} {t d act a w : Int}
def c_st0 (κ : aS) (t d act a w : Int) : aS := pu_up (pu_up (pu_up (pu_up (pu_up (pu_up κ 10 (20 * t + κ 3 t) d) 11 (20 * t + κ 3 t) act) 12 (20 * t + κ 3 t) a) 13 (20 * t + κ 3 t) w) 14 (20 * t + κ 3 t) 8) 3 t (κ 3 t + 1)
def c_step (κ : aS) (t d act a w v : Int) : aS := fun c i => if c = 22 ∧ κ 22 i = 20 * t + κ 3 t then v else c_st0 κ t d act a w c i
theorem st0_e (κ : aS) (c : Nat) (i : Int) (h : c ≠ 10 ∧ c ≠ 11 ∧ c ≠ 12 ∧ c ≠ 13 ∧ c ≠ 14 ∧ c ≠ 3) : c_st0 κ t d act a w c i = κ c i := by
  unfold c_st0
  rw [pu_up_ne _ _ _ _ h.2.2.2.2.2, pu_up_ne _ _ _ _ h.2.2.2.2.1, pu_up_ne _ _ _ _ h.2.2.2.1, pu_up_ne _ _ _ _ h.2.2.1, pu_up_ne _ _ _ _ h.2.1, pu_up_ne _ _ _ _ h.1]
theorem st0_n (κ : aS) (c : Nat) (i : Int) (h : i ≠ 20 * t + κ 3 t) (h3 : c ≠ 3) : c_st0 κ t d act a w c i = κ c i := by
  unfold c_st0 pu_up
  rw [if_neg (fun z => h3 z.1), if_neg (fun z => h z.2), if_neg (fun z => h z.2), if_neg (fun z => h z.2), if_neg (fun z => h z.2), if_neg (fun z => h z.2)]
theorem st0_3 (κ : aS) (i : Int) : c_st0 κ t d act a w 3 i = if i = t then κ 3 t + 1 else κ 3 i := by
  unfold c_st0
  rw [pu_up_c, pu_up_ne _ _ _ _ (by decide), pu_up_ne _ _ _ _ (by decide), pu_up_ne _ _ _ _ (by decide), pu_up_ne _ _ _ _ (by decide), pu_up_ne _ _ _ _ (by decide)]
theorem st0_s (κ : aS) : c_st0 κ t d act a w 10 (20 * t + κ 3 t) = d ∧ c_st0 κ t d act a w 11 (20 * t + κ 3 t) = act ∧ c_st0 κ t d act a w 12 (20 * t + κ 3 t) = a ∧ c_st0 κ t d act a w 13 (20 * t + κ 3 t) = w ∧ c_st0 κ t d act a w 14 (20 * t + κ 3 t) = 8 := by
  unfold c_st0
  refine ⟨?_, ?_, ?_, ?_, ?_⟩ <;> simp [pu_up]
theorem b_step_1 (τ : bS) : (b_step τ t d act a w).1 = c_st0 τ.1 t d act a w := rfl
theorem bs_ne {x s4 s3 : Int} (x0 : 0 ≤ x) (t0 : 0 ≤ t) (h1 : 1 ≤ s4) (h2 : x = t → s4 ≤ s3) (h3 : s4 ≤ 20) (h4 : 0 ≤ s3) (h5 : s3 < 20) : 20 * x + s4 - 1 ≠ 20 * t + s3 := by
  intro e
  have : x = t := by omega
  have := h2 this
  omega
theorem GW.bsn (h : GW κ τ) (ok : p_stepok τ t d act a w) {e x : Int} (e0 : 0 ≤ e) (e1 : e < 12) (hx : x ∈ τ.2 e) : b_s τ x ≠ 20 * t + τ.1 3 t := by
  have q := h.cre e0 e1 hx
  have p := h.2.1.1 x q.1 q.2.2.1
  obtain ⟨⟨t0, t1⟩, _, o3, _⟩ := ok
  have hT := h.2.1.2.2.2.2.2.2.2.2
  have p2 := h.2.1.1 t t0 (by omega)
  exact bs_ne q.1 t0 q.2.2.2.1 (fun z => by subst z; exact q.2.2.2.2.1) p.2.1 p2.2.2.1 (by omega)
theorem GW.step (h : GW κ τ) (ok : p_stepok τ t d act a w) (v : Int) : GW (c_step κ t d act a w v) (b_step τ t d act a w) := by
  have hbs := fun e x (e0 : 0 ≤ e) (e1 : e < 12) (hx : x ∈ τ.2 e) => h.bsn ok e0 e1 hx
  have hcre := fun e x (e0 : 0 ≤ e) (e1 : e < 12) (hx : x ∈ τ.2 e) => h.cre e0 e1 hx
  obtain ⟨hC, hI, hJ, hG⟩ := h
  obtain ⟨⟨t0, t1⟩, ⟨d0, d1⟩, o3, ⟨a0, a1⟩, _, _, ⟨w0, w1⟩⟩ := ok
  obtain ⟨m1, m5, m7, m17, mlog, m15, msp⟩ := hC.rows
  have e3 : κ 3 t = τ.1 3 t := m1 3 t rfl
  have E : ∀ (c : Nat) (i : Int), c ≠ 10 ∧ c ≠ 11 ∧ c ≠ 12 ∧ c ≠ 13 ∧ c ≠ 14 ∧ c ≠ 3 → (b_step τ t d act a w).1 c i = τ.1 c i := fun c i hc => st0_e (t := t) (d := d) (act := act) (a := a) (w := w) τ.1 c i hc
  have N : ∀ (c : Nat) (i : Int), i ≠ 20 * t + τ.1 3 t → c ≠ 3 → (b_step τ t d act a w).1 c i = τ.1 c i := fun c i hi hc => st0_n (t := t) (d := d) (act := act) (a := a) (w := w) τ.1 c i hi hc
  have E3 : ∀ i, (b_step τ t d act a w).1 3 i = if i = t then τ.1 3 t + 1 else τ.1 3 i := fun i => st0_3 (t := t) (d := d) (act := act) (a := a) (w := w) τ.1 i
  obtain ⟨s10, s11, s12, s13, s14⟩ : (b_step τ t d act a w).1 10 (20 * t + τ.1 3 t) = d ∧ (b_step τ t d act a w).1 11 (20 * t + τ.1 3 t) = act ∧ (b_step τ t d act a w).1 12 (20 * t + τ.1 3 t) = a ∧ (b_step τ t d act a w).1 13 (20 * t + τ.1 3 t) = w ∧ (b_step τ t d act a w).1 14 (20 * t + τ.1 3 t) = 8 := st0_s τ.1
  have K : ∀ (c : Nat) (i : Int), c ≠ 10 ∧ c ≠ 11 ∧ c ≠ 12 ∧ c ≠ 13 ∧ c ≠ 14 ∧ c ≠ 3 → c ≠ 22 → c_step κ t d act a w v c i = κ c i := fun c i hc h22 => by
    unfold c_step
    rw [if_neg (fun z => h22 z.1), st0_e κ c i hc]
  have ebs : ∀ x, b_s (b_step τ t d act a w) x = b_s τ x := fun x => by
    unfold b_s
    rw [E 4 x (by decide)]
  obtain ⟨i1, i2, i3, i4, i5, i6, i7, i8, i9⟩ := hI
  obtain ⟨g1, g2, g3, g4⟩ := hG
  have ht := i1 t t0 (by omega)
  have ht2 := g2 t t0 (by omega)
  have hz : τ.1 15 (20 * t + τ.1 3 t) = 0 := by
    have q := m15 (20 * t + τ.1 3 t)
    have q2 := (q.2 (fun x x0 x1 => (i1 x x0 x1).1)).1 ⟨t, τ.1 3 t, t0, by omega, by omega, by omega, rfl⟩
    have q1 := q.1
    rw [q2] at q1
    split at q1 <;> exact q1
  refine ⟨hC.born rfl ?_ (fun x => by rw [E 5 x (by decide), K 5 x (by decide) (by decide)]; exact m5 x) (fun x => by rw [E 7 x (by decide), K 7 x (by decide) (by decide)]; exact m7 x) (fun x => by rw [E 17 x (by decide), K 17 x (by decide) (by decide)]; exact m17 x) (fun c i hc => by rw [E c i (by omega), K c i (by omega) (by omega)]; exact mlog c i hc) (fun s => ⟨?_, fun hp => ⟨fun hu => ?_, fun hu => ?_⟩⟩) (fun e e0 e1 => ?_) (fun x => E 4 x (by decide)) (fun e e0 e1 x hx => N 14 _ (hbs e x e0 e1 hx) (by decide)) (fun e _ _ => K 23 e (by decide) (by decide)) (fun e e0 e1 j x hj => ?_), ?_, ?_, ?_⟩
  · intro c i hc
    have h22 : c ≠ 22 := fun z => by subst z; cases hc
    unfold c_step
    rw [if_neg (fun z => h22 z.1), b_step_1]
    unfold c_st0
    rw [e3]
    exact mr_up (mr_up (mr_up (mr_up (mr_up (mr_up m1 _ _ _) _ _ _) _ _ _) _ _ _) _ _ _) _ _ _ c i hc
  · rw [E 15 s (by decide), K 15 s (by decide) (by decide)]
    by_cases c : s = 20 * t + τ.1 3 t
    · subst c
      rw [s14, if_neg (by decide)]
      exact hz
    · rw [N 14 s c (by decide)]
      exact (m15 s).1
  · rw [K 15 s (by decide) (by decide)]
    refine ((m15 s).2 (fun x x0 x1 => (i1 x x0 x1).1)).1 ?_
    obtain ⟨t', i, r1, r2, r3, r4, r5⟩ := hu
    rw [E 4 t' (by decide)] at r3
    exact ⟨t', i, r1, r2, r3, r4, r5⟩
  · by_cases c : s = 20 * t + τ.1 3 t
    · rw [c]
      exact s14
    · rw [N 14 s c (by decide)]
      refine ((m15 s).2 (fun x x0 x1 => (i1 x x0 x1).1)).2 ?_
      obtain ⟨t', i, r1, r2, r3, r4, r5, r6⟩ := hu
      rw [E 4 t' (by decide)] at r3
      rw [E3] at r5
      refine ⟨t', i, r1, r2, r3, r4, ?_, r6⟩
      split at r5
      · rename_i c'
        subst c'
        omega
      · exact r5
  · obtain ⟨s1, s2⟩ := msp e e0 e1
    unfold SP
    rw [E 18 e (by decide)]
    refine ⟨fun h5 => ?_, fun z hz => ⟨fun h => ?_, fun h => ?_⟩⟩
    · rw [K 43 e (by decide) (by decide), s1 h5]
      exact (b_lookers_congr e (fun i => E 29 i (by decide))).symm
    · rw [K 42 _ (by decide) (by decide), (s2 z hz).1 h, E 9 z (by decide)]
      unfold b_num
      rw [E 4 z (by decide), N 12 (20 * z + τ.1 4 z - 1) (hbs e z e0 e1 hz) (by decide)]
    · rw [ebs, K 15 _ (by decide) (by decide), (s2 z hz).2 h, E 8 z (by decide)]
  · have hx := List.mem_of_getElem? hj
    have q := (hC.2 e e0 e1).2.1 j x hj
    unfold c_step
    rw [if_neg (fun z => by rw [q, e3] at z; exact hbs e x e0 e1 hx z.2), st0_e κ 22 _ (by decide)]
  · refine ⟨fun x x0 x1 => ?_, fun x x0 x1 h5 => ?_, fun e e0 e1 => ⟨(i3 e e0 e1).1, fun x hx => ?_⟩, fun e e0 e1 => by rw [E 34 e (by decide), E 18 e (by decide)]; exact i4 e e0 e1, fun s s0 s1 => ?_, fun i p q => by rw [E 29 i (by decide), E 30 i (by decide), E 31 i (by decide)]; exact i6 i p q, fun e e0 e1 => by rw [E 18 e (by decide), E 28 e (by decide)]; exact i7 e e0 e1, fun e e0 e1 => by rw [E 18 e (by decide), E 24 e (by decide), E 19 e (by decide)]; exact i8 e e0 e1, by rw [E 0 0 (by decide), E 1 0 (by decide), E 38 0 (by decide)]; exact i9⟩
    · rw [E 4 x (by decide), E3]
      have := i1 x x0 x1
      split
      · rename_i c
        subst c
        omega
      · exact this
    · rw [E 0 0 (by decide)] at x1
      rw [E 5 x (by decide)] at h5 ⊢
      exact i2 x x0 x1 h5
    · rw [E 5 x (by decide), E 4 x (by decide), N 10 (20 * x + τ.1 4 x - 1) (hbs e x e0 e1 hx) (by decide)]
      exact (i3 e e0 e1).2 x hx
    · by_cases c : s = 20 * t + τ.1 3 t
      · subst c
        rw [s10]
        omega
      · rw [N 10 s c (by decide)]
        exact i5 s s0 s1
  · intro e e0 e1
    exact (hJ e e0 e1).cg (fun c hc => E c e (by omega)) (fun i _ _ => E 29 _ (by decide)) (fun x hx => by have := hcre e x e0 e1 hx; omega) rfl (fun x hx => ⟨E 9 x (by decide), by unfold b_act; rw [ebs, N 11 _ (hbs e x e0 e1 hx) (by decide)], by unfold b_num; rw [E 4 x (by decide), N 12 (20 * x + τ.1 4 x - 1) (hbs e x e0 e1 hx) (by decide)]⟩) (b_sum_ext 16 (fun i _ _ => E 4 i (by decide)))
  · refine ⟨fun s s0 s1 => ?_, fun x x0 x1 => ?_, fun x i x0 x1 j0 j1 => ?_, fun i => by rw [E 5 i (by decide), E 7 i (by decide), E 2 0 (by decide)]; exact g4 i⟩
    · by_cases c : s = 20 * t + τ.1 3 t
      · subst c
        rw [s11]
        exact a0
      · rw [N 11 s c (by decide)]
        exact g1 s s0 s1
    · obtain ⟨b1, b2, b3⟩ := g2 x x0 x1
      rw [E 4 x (by decide), E3, E 6 x (by decide), E 0 0 (by decide)]
      split
      · rename_i c
        subst c
        exact ⟨by omega, fun z => by omega, b3⟩
      · exact ⟨b1, b2, b3⟩
    · rw [E3] at j1
      rw [E 1 0 (by decide)]
      by_cases c : 20 * x + i = 20 * t + τ.1 3 t
      · rw [c, s10]
        exact ⟨d0, d1⟩
      · rw [N 10 _ c (by decide)]
        refine g3 x i x0 x1 j0 ?_
        split at j1
        · rename_i c'
          subst c'
          omega
        · exact j1
theorem TV.step (h : TV τ) (hI : WI τ) (hG : GT τ) (ok : p_stepok τ t d act a w) : TV (b_step τ t d act a w) := by
  obtain ⟨v1, v2, vN, v13, vd, v3, vk⟩ := h
  obtain ⟨⟨t0, t1⟩, ⟨d0, d1⟩, o3, ⟨a0, a1⟩, _, _, ⟨w0, w1⟩⟩ := ok
  have E : ∀ (c : Nat) (i : Int), c ≠ 10 ∧ c ≠ 11 ∧ c ≠ 12 ∧ c ≠ 13 ∧ c ≠ 14 ∧ c ≠ 3 → (b_step τ t d act a w).1 c i = τ.1 c i := fun c i hc => st0_e (t := t) (d := d) (act := act) (a := a) (w := w) τ.1 c i hc
  have N : ∀ (c : Nat) (i : Int), i ≠ 20 * t + τ.1 3 t → c ≠ 3 → (b_step τ t d act a w).1 c i = τ.1 c i := fun c i hi hc => st0_n (t := t) (d := d) (act := act) (a := a) (w := w) τ.1 c i hi hc
  have E3 : ∀ i, (b_step τ t d act a w).1 3 i = if i = t then τ.1 3 t + 1 else τ.1 3 i := fun i => st0_3 (t := t) (d := d) (act := act) (a := a) (w := w) τ.1 i
  have s13 : (b_step τ t d act a w).1 13 (20 * t + τ.1 3 t) = w := (st0_s (t := t) (d := d) (act := act) (a := a) (w := w) τ.1).2.2.2.1
  have ebs : ∀ x, b_s (b_step τ t d act a w) x = b_s τ x := fun x => by
    unfold b_s
    rw [E 4 x (by decide)]
  have ht := hI.1 t t0 (by omega)
  refine ⟨by rw [E 2 0 (by decide)]; exact v1, by rw [E 2 0 (by decide)]; exact v2, by rw [E 0 0 (by decide)]; exact vN, fun s s0 s1 => ?_, fun e e0 e1 => by rw [E 21 e (by decide), E 20 e (by decide), E 2 0 (by decide), E 1 0 (by decide)]; exact vd e e0 e1, ⟨fun x x0 x1 => ?_, fun x x0 x1 h5 => ?_⟩, fun k k0 k1 => ?_⟩
  · by_cases c : s = 20 * t + τ.1 3 t
    · subst c
      rw [s13]
      omega
    · rw [N 13 s c (by decide)]
      exact v13 s s0 s1
  · rw [E 4 x (by decide), E3]
    have := v3.1 x x0 x1
    split
    · rename_i c
      subst c
      omega
    · exact this
  · rw [E 0 0 (by decide)] at x1
    rw [E 5 x (by decide)] at h5
    have q := v3.2 x x0 x1 h5
    have q2 := v3.1 x x0 (by omega)
    have q3 := hG.2.1 x x0 (by omega)
    have hn : b_s τ x ≠ 20 * t + τ.1 3 t := bs_ne x0 t0 q.1 (fun z => by subst z; exact q3.1) q2.2.1 ht.2.2.1 (by omega)
    rw [ebs, E 4 x (by decide), E 16 _ (by decide), E 2 0 (by decide), N 13 _ hn (by decide)]
    exact q
  · rw [E 38 0 (by decide)] at k1
    rw [E 36 k (by decide), E 35 k (by decide), E 0 0 (by decide)]
    exact vk k k0 k1
theorem ZI.step (h : ZI τ) (ok : p_stepok τ t d act a w) : ZI (b_step τ t d act a w) := by
  obtain ⟨⟨z1, z2, z3, z4, ⟨z5, z5'⟩, z6, n1, n2, n3, n4, n5, n6⟩, h1, h2, h3, h4⟩ := h
  obtain ⟨⟨t0, t1⟩, ⟨d0, d1⟩, o3, ⟨a0, a1⟩, _, _, ⟨w0, w1⟩⟩ := ok
  have E : ∀ (c : Nat) (i : Int), c ≠ 10 ∧ c ≠ 11 ∧ c ≠ 12 ∧ c ≠ 13 ∧ c ≠ 14 ∧ c ≠ 3 → (b_step τ t d act a w).1 c i = τ.1 c i := fun c i hc => st0_e (t := t) (d := d) (act := act) (a := a) (w := w) τ.1 c i hc
  have N : ∀ (c : Nat) (i : Int), i ≠ 20 * t + τ.1 3 t → c ≠ 3 → (b_step τ t d act a w).1 c i = τ.1 c i := fun c i hi hc => st0_n (t := t) (d := d) (act := act) (a := a) (w := w) τ.1 c i hi hc
  have E3 : ∀ i, (b_step τ t d act a w).1 3 i = if i = t then τ.1 3 t + 1 else τ.1 3 i := fun i => st0_3 (t := t) (d := d) (act := act) (a := a) (w := w) τ.1 i
  have s10 : (b_step τ t d act a w).1 10 (20 * t + τ.1 3 t) = d := (st0_s (t := t) (d := d) (act := act) (a := a) (w := w) τ.1).1
  have E0 := E 0 0 (by decide)
  have E1 := E 1 0 (by decide)
  have ht := h1 t t0 (by omega)
  have up : ∀ x, zk τ.1 (τ.1 0 0) (τ.1 1 0) x → zk (b_step τ t d act a w).1 (τ.1 0 0) (τ.1 1 0) x := fun x hx => by
    obtain ⟨p1, p2, p3, p4, p5, p6, p7⟩ := hx
    have hn : 20 * x + τ.1 4 x - 1 ≠ 20 * t + τ.1 3 t := bs_ne p1 t0 p4 (fun z => by subst z; exact p5) (by omega) (by omega) (by omega)
    unfold zk
    rw [E 4 x (by decide), N 10 _ hn (by decide), E3]
    refine ⟨p1, p2, p3, p4, ?_, ?_, p7⟩ <;> (split; (rename_i c; subst c; omega); omega)
  have dn : ∀ x, zk (b_step τ t d act a w).1 (τ.1 0 0) (τ.1 1 0) x → zk τ.1 (τ.1 0 0) (τ.1 1 0) x := fun x hx => by
    obtain ⟨p1, p2, p3, p4, p5, p6, p7⟩ := hx
    rw [E 4 x (by decide)] at p4 p7
    have q := h1 x p1 p3
    have hn : 20 * x + τ.1 4 x - 1 ≠ 20 * t + τ.1 3 t := bs_ne p1 t0 p4 (fun z => by subst z; exact q.2.1) (by omega) (by omega) (by omega)
    rw [N 10 _ hn (by decide)] at p7
    exact ⟨p1, p2, p3, p4, q.2.1, q.2.2, p7⟩
  unfold ZI
  rw [E0, E1]
  refine ⟨⟨fun _ _ _ => rfl, fun e x hx => up x (z2 e x hx), fun e e0 e1 hx => ?_, fun e => by rw [E 34 e (by decide)]; exact z4 e, ⟨fun x hx => by rw [E 5 x (by decide)]; exact z5 x (dn x hx), fun x x0 x1 hx => ?_⟩, fun e he => ?_, fun i hi => by rw [E 6 i (by decide), E 7 i (by decide)]; exact n1 i hi, fun x i x0 i0 j0 j1 => ?_, fun i hi => by rw [E 25 i (by decide), E 27 i (by decide), E 34 i (by decide)]; exact n3 i hi, fun i hi => by rw [E 29 i (by decide), E 30 i (by decide), E 31 i (by decide)]; exact n4 i hi, fun i hi => by rw [E 32 i (by decide)]; exact n5 i hi, fun i hi => by rw [E 33 i (by decide)]; exact n6 i hi⟩, fun x x0 x1 => ?_, fun x i x0 x1 j0 j1 => ?_, by rw [E0]; exact h3, by rw [E1]; exact h4⟩
  · rw [E 28 e (by decide)] at hx ⊢
    exact up _ (z3 e e0 e1 hx)
  · rw [E 5 x (by decide)] at hx
    rw [E 4 x (by decide)]
    exact z5' x x0 x1 hx
  · rw [E 18 e (by decide)] at he
    rw [E 24 e (by decide), E 19 e (by decide)]
    exact z6 e he
  · rw [E3] at i0
    rw [E 16 _ (by decide), E 17 _ (by decide)]
    refine n2 x i x0 ?_ j0 j1
    split at i0
    · rename_i c
      subst c
      omega
    · exact i0
  · rw [E 4 x (by decide), E3]
    have := h1 x x0 x1
    split
    · rename_i c
      subst c
      omega
    · exact this
  · rw [E3] at j1
    rw [E1]
    by_cases c : 20 * x + i = 20 * t + τ.1 3 t
    · rw [c, s10]
      exact ⟨d0, d1⟩
    · rw [N 10 _ c (by decide)]
      refine h2 x i x0 x1 j0 ?_
      split at j1
      · rename_i c'
        subst c'
        omega
      · exact j1
end ST
