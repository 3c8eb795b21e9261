theorem CR.tx {κ : aS} {τ τ' : bS} (h : CR κ τ) (hτ : ∀ (c : Nat) (i : Int), c ≠ 35 → c ≠ 36 → τ'.1 c i = τ.1 c i) (h2 : τ'.2 = τ.2) : CR κ τ' := by
  obtain ⟨⟨m1, m5, m7, m17, m17n, mlog, m15, msp, mP, mPr⟩, hL⟩ := h
  have ebs : ∀ z, b_s τ' z = b_s τ z := fun z => by unfold b_s; rw [hτ 4 z (by decide) (by decide)]
  have ewt : wt τ' = wt τ := funext fun z => by unfold wt; rw [ebs, hτ 14 _ (by decide) (by decide)]
  refine ⟨⟨fun c i hc => ?_, fun z => ?_, fun z => ?_, (fun z hz => by cases hz), fun s _ => ?_, fun c i hc => ?_, fun s => ⟨?_, UZ.tr s (fun i => hτ 4 i (by decide) (by decide)) (fun i => hτ 3 i (by decide) (by decide)) (m15 s).2 (fun _ _ => rfl) (fun _ _ => hτ 14 s (by decide) (by decide))⟩, fun e e0 e1 => ?_, List.nodup_nil, (fun z hz => by cases hz)⟩, fun e e0 e1 => ?_⟩
  · have n4 : c ≠ 35 ∧ c ≠ 36 := by
      refine ⟨?_, ?_⟩ <;> (intro e; subst e; exact absurd hc (by decide))
    rw [hτ c i n4.1 n4.2]
    exact m1 c i hc
  · rw [hτ 5 z (by decide) (by decide)]
    exact m5 z
  · rw [hτ 7 z (by decide) (by decide), hτ 2 0 (by decide) (by decide)]
    exact m7 z
  · rw [hτ 17 s (by decide) (by decide)]
    exact m17n s (fun z hz => by cases hz)
  · rw [hτ c i (by omega) (by omega)]
    exact mlog c i hc
  · rw [hτ 15 s (by decide) (by decide), hτ 14 s (by decide) (by decide)]
    exact (m15 s).1
  · obtain ⟨s1, s2⟩ := msp e e0 e1
    unfold SP
    rw [hτ 18 e (by decide) (by decide), h2]
    refine ⟨fun h5 => ?_, fun z hz => ⟨fun h => ?_, fun h => ?_⟩⟩
    · rw [s1 h5]
      exact (b_lookers_congr e (fun i => hτ 29 i (by decide) (by decide))).symm
    · rw [(s2 z hz).1 h, hτ 9 z (by decide) (by decide)]
      unfold b_num
      rw [hτ 4 z (by decide) (by decide), hτ 12 _ (by decide) (by decide)]
    · rw [ebs, (s2 z hz).2 h, hτ 8 z (by decide) (by decide)]
  · obtain ⟨a1, a2, a3, a4, a5⟩ := hL e e0 e1
    rw [h2]
    refine ⟨a1, fun j x hx => by rw [ebs]; exact a2 j x hx, by rw [ewt]; exact a3, a4, fun x hx => ?_⟩
    unfold OKt
    rw [hτ 4 x (by decide) (by decide)]
    exact a5 x hx
theorem WI.up38 {τ : bS} (h : WI τ) {v : Int} (hv : 0 ≤ v ∧ v ≤ 200) : WI (b_up τ 38 0 v) := by
  obtain ⟨a1, a2, a3, a4, a5, a6, a7, a8, a9⟩ := h
  have e : (b_up τ 38 0 v).1 38 0 = v := pu_up_at τ.1 38 0 v
  exact ⟨a1, a2, a3, a4, a5, a6, a7, a8, a9.1, a9.2.1, a9.2.2.1, a9.2.2.2.1, by rw [e]; exact hv.1, by rw [e]; exact hv.2⟩
theorem GT.same {τ τ' : bS} (h : GT τ) (hc : ∀ (c : Nat) (i : Int), c = 0 ∨ c = 1 ∨ c = 2 ∨ c = 3 ∨ c = 4 ∨ c = 5 ∨ c = 6 ∨ c = 7 ∨ c = 10 ∨ c = 11 → τ'.1 c i = τ.1 c i) : GT τ' := by
  obtain ⟨g1, g2, g3, g4⟩ := h
  refine ⟨fun s a b => by rw [hc 11 s (by decide)]; exact g1 s a b, fun t t0 t1 => ?_, fun t i t0 t1 i0 i1 => ?_, fun i => ?_⟩
  · rw [hc 4 t (by decide), hc 3 t (by decide), hc 0 0 (by decide), hc 6 t (by decide)]
    exact g2 t t0 t1
  · rw [hc 3 t (by decide)] at i1
    rw [hc 10 _ (by decide), hc 1 0 (by decide)]
    exact g3 t i t0 t1 i0 i1
  · rw [hc 5 i (by decide), hc 7 i (by decide), hc 2 0 (by decide)]
    exact g4 i
/-- the reference's plan -/
theorem planned_int {τ : bS} {t b x c : Int} (h38 : 0 ≤ τ.1 38 0) : b_planned (b_interrupt τ t b) x c = true ↔ (b_planned τ x c = true ∨ (c = b ∧ x = t)) := by
  have e38 : (b_interrupt τ t b).1 38 0 = τ.1 38 0 + 1 := by
    unfold b_interrupt
    rw [b_up_c _ _ _ _ _ _ (by decide)]
    exact pu_up_at (b_up (b_up τ 35 (τ.1 38 0) b) 36 (τ.1 38 0) t).1 38 0 (τ.1 38 0 + 1)
  have e35 : ∀ k, (b_interrupt τ t b).1 35 k = if k = τ.1 38 0 then b else τ.1 35 k := fun k => by
    unfold b_interrupt
    rw [b_up_c _ _ _ _ _ _ (by decide), b_up_c _ _ _ _ _ _ (by decide), b_up_c _ _ _ _ _ _ (by decide)]
    exact pu_up_c _ _ _ _ _
  have e36 : ∀ k, (b_interrupt τ t b).1 36 k = if k = τ.1 38 0 then t else τ.1 36 k := fun k => by
    unfold b_interrupt
    rw [b_up_c _ _ _ _ _ _ (by decide), b_up_c _ _ _ _ _ _ (by decide)]
    show pu_up (b_up τ 35 (τ.1 38 0) b).1 36 (τ.1 38 0) t 36 k = _
    rw [pu_up_c, b_up_c _ _ _ _ _ _ (by decide)]
  constructor
  · intro h
    obtain ⟨k, k0, k1, k2, k3⟩ := planned_ex h
    rw [e38] at k1
    rw [e35] at k2
    rw [e36] at k3
    by_cases e : k = τ.1 38 0
    · rw [if_pos e] at k2 k3
      exact Or.inr ⟨k2.symm, k3.symm⟩
    · rw [if_neg e] at k2 k3
      left
      rw [← k2, ← k3]
      exact planned_of k0 (by omega)
  · rintro (h | ⟨h1, h2⟩)
    · obtain ⟨k, k0, k1, k2, k3⟩ := planned_ex h
      have := planned_of (τ := b_interrupt τ t b) k0 (by rw [e38]; omega)
      rw [e35, e36, if_neg (by omega), if_neg (by omega), k2, k3] at this
      exact this
    · have := planned_of (τ := b_interrupt τ t b) h38 (by rw [e38]; omega)
      rw [e35, e36, if_pos rfl, if_pos rfl] at this
      rw [h1, h2]
      exact this
theorem plan_at {κ : aS} {τ : bS} (h : IQ κ τ 16) (q : Int) : (∀ x, κ 41 0 ≤ x → x < c_plan κ q → κ 40 x < q) ∧ (∀ x, c_plan κ q ≤ x → x < κ 38 0 → q ≤ κ 40 x) ∧ κ 41 0 ≤ c_plan κ q ∧ c_plan κ q ≤ κ 38 0 := by
  obtain ⟨q1, q2, q3, q4, q5, q6⟩ := h
  have r := c_pl_at (κ := κ) (q := q) (κ 38 0 - κ 41 0).toNat (κ 38 0 - 1) (fun x z h1 h2 h3 => q4 x z (by omega) h2 (by omega))
  rw [show κ 38 0 - 1 + 1 = κ 38 0 by omega] at r
  have e : c_pl κ q (κ 38 0 - κ 41 0).toNat (κ 38 0 - 1) (κ 38 0) = c_plan κ q := rfl
  rw [e] at r
  obtain ⟨r1, r2, r3, r4⟩ := r
  exact ⟨fun x h1 h2 => r1 x (by omega) (by omega) h2, fun x h1 h2 => r2 x h1 (by omega), by omega, r4⟩
/-- whether it is planned already -/
theorem plan_has {κ : aS} {τ : bS} (h : IQ κ τ 16) (hN : τ.1 0 0 ≤ 16) {t b : Int} (t0 : 0 ≤ t) (t1 : t < 16) (hb : τ.1 2 0 < b) : (c_plan κ (16 * b + t) < κ 38 0 ∧ κ 40 (c_plan κ (16 * b + t)) = 16 * b + t) ↔ b_planned τ t b = true := by
  obtain ⟨r1, r2, r3, r4⟩ := plan_at h (16 * b + t)
  obtain ⟨q1, q2, q3, q4, q5, q6⟩ := h
  constructor
  · rintro ⟨h1, h2⟩
    obtain ⟨x, c, p1, p2, p3, p4, p5, p6, p7⟩ := q5 _ r3 h1
    have e1 : x = t := by omega
    have e2 : c = b := by omega
    rw [e1, e2] at p7
    exact p7
  · intro hp
    obtain ⟨i, i0, i1, i2⟩ := q6 t b t0 t1 (Or.inl hb) hp
    have hi : c_plan κ (16 * b + t) ≤ i := by
      by_cases c : i < c_plan κ (16 * b + t)
      · have := r1 i i0 c
        omega
      · omega
    refine ⟨by omega, ?_⟩
    have h3 := r2 (c_plan κ (16 * b + t)) (Int.le_refl _) (by omega)
    by_cases e : i = c_plan κ (16 * b + t)
    · rw [← e]
      exact i2
    · have := q4 _ i r3 (by omega) i1
      omega
theorem ins_40 (κ : aS) (p q x : Int) : c_ins κ p q 40 x = if x = p then q else if p < x ∧ x ≤ κ 38 0 then κ 40 (x - 1) else κ 40 x := by
  unfold c_ins
  rw [pu_up_ne _ _ _ _ (by decide), pu_up_ne _ _ _ _ (by decide), pu_up_c]
  split
  · rfl
  · unfold q_sh
    simp only [true_and]
theorem ins_c (κ : aS) (p q : Int) (c : Nat) (x : Int) (h : c ≠ 40 ∧ c ≠ 38 ∧ c ≠ 37) : c_ins κ p q c x = κ c x := by
  unfold c_ins
  rw [pu_up_ne _ _ _ _ h.2.2, pu_up_ne _ _ _ _ h.2.1, pu_up_ne _ _ _ _ h.1, q_sh_c _ _ _ _ _ h.1]
theorem WW.plan {y : jLay} {κ : aS} {τ : bS} (h : WW y κ τ) (hp : PL τ) {t b : Int} (ok : p_intok τ t b) : WW y (c_ins κ (c_plan κ (16 * b + t)) (16 * b + t)) (b_interrupt τ t b) ∧ PL (b_interrupt τ t b) := by
  obtain ⟨hG, hy, hq, hT⟩ := h
  obtain ⟨⟨t0, t1⟩, ⟨hb, hb5, h37⟩, hnp⟩ := ok
  obtain ⟨p1, p2, p3⟩ := hp
  have hq0 := hq
  obtain ⟨hC, hI, hJ, hGT⟩ := hG
  have h9 := hI.2.2.2.2.2.2.2.2
  have k38 : κ 38 0 = τ.1 38 0 := hC.1.1 38 0 rfl
  have k37 : κ 37 0 = τ.1 37 0 := hC.1.1 37 0 rfl
  have hnot : ¬ (c_plan κ (16 * b + t) < κ 38 0 ∧ κ 40 (c_plan κ (16 * b + t)) = 16 * b + t) := fun z => by
    have := (plan_has hq0 (by omega) t0 (by omega) hb).mp z
    rw [hnp] at this
    cases this
  obtain ⟨r1, r2, r3, r4⟩ := plan_at hq0 (16 * b + t)
  obtain ⟨p, ep⟩ : ∃ p, p = c_plan κ (16 * b + t) := ⟨_, rfl⟩
  rw [← ep] at hnot r1 r2 r3 r4 ⊢
  have e38 : (b_interrupt τ t b).1 38 0 = τ.1 38 0 + 1 := by
    unfold b_interrupt
    rw [b_up_c _ _ _ _ _ _ (by decide)]
    exact pu_up_at (b_up (b_up τ 35 (τ.1 38 0) b) 36 (τ.1 38 0) t).1 38 0 (τ.1 38 0 + 1)
  have e37 : (b_interrupt τ t b).1 37 0 = τ.1 37 0 + 1 := by
    unfold b_interrupt
    exact pu_up_at (b_up (b_up (b_up τ 35 (τ.1 38 0) b) 36 (τ.1 38 0) t) 38 0 (τ.1 38 0 + 1)).1 37 0 (τ.1 37 0 + 1)
  have eT : ∀ (c : Nat) (i : Int), c ≠ 35 → c ≠ 36 → c ≠ 37 → c ≠ 38 → (b_interrupt τ t b).1 c i = τ.1 c i := fun c i n35 n36 n37 n38 => by
    unfold b_interrupt
    rw [b_up_c _ _ _ _ _ _ n37, b_up_c _ _ _ _ _ _ n38, b_up_c _ _ _ _ _ _ n36, b_up_c _ _ _ _ _ _ n35]
  have i38 : c_ins κ p (16 * b + t) 38 0 = κ 38 0 + 1 := by
    unfold c_ins
    rw [pu_up_ne _ _ _ _ (by decide), pu_up_at]
  have hI' : WI (b_interrupt τ t b) := ((((hI.upd (c := 35) _ _ rfl).upd (c := 36) _ _ rfl).up38 (by omega)).upd (c := 37) _ _ rfl)
  have hJ' : JA (b_interrupt τ t b) := by
    have j1 := hJ.upx hI (c := 35) (τ.1 38 0) b (by decide)
    have w1 : WI (b_up τ 35 (τ.1 38 0) b) := hI.upd _ _ rfl
    have j2 := j1.upx w1 (c := 36) (τ.1 38 0) t (by decide)
    have w2 : WI (b_up (b_up τ 35 (τ.1 38 0) b) 36 (τ.1 38 0) t) := w1.upd _ _ rfl
    have j3 := j2.upx w2 (c := 38) 0 (τ.1 38 0 + 1) (by decide)
    exact j3.upx (w2.up38 (by omega)) (c := 37) 0 (τ.1 37 0 + 1) (by decide)
  have hC' : CR (c_ins κ p (16 * b + t)) (b_interrupt τ t b) := by
    have c1 : CR (pu_up (pu_up κ 38 0 (τ.1 38 0 + 1)) 37 0 (τ.1 37 0 + 1)) (b_up (b_up τ 38 0 (τ.1 38 0 + 1)) 37 0 (τ.1 37 0 + 1)) := (hC.upx (c := 38) _ _ (by decide)).upx (c := 37) _ _ (by decide)
    have c2 := c1.k4 (κ' := c_ins κ p (16 * b + t)) (fun c i n40 _ => by
      unfold c_ins
      rw [k38, k37]
      unfold pu_up q_sh
      simp [n40])
    refine c2.tx (fun c i n35 n36 => ?_) rfl
    unfold b_interrupt
    show pu_up (pu_up (pu_up (pu_up τ.1 35 _ b) 36 _ t) 38 0 _) 37 0 _ c i = pu_up (pu_up τ.1 38 0 _) 37 0 _ c i
    unfold pu_up
    simp [n35, n36]
  refine ⟨⟨⟨hC', hI', hJ', hGT.same (fun c i hc => eT c i (by omega) (by omega) (by omega) (by omega))⟩, hy.same (ins_c _ _ _ _ _ (by decide)) (ins_c _ _ _ _ _ (by decide)) (fun i => ins_c _ _ _ _ _ (by decide)) (fun i => ins_c _ _ _ _ _ (by decide)), ?_, ?_⟩, by rw [e38]; omega, by rw [e38, e37]; omega, by rw [e37]; omega⟩
  · obtain ⟨q1, q2, q3, q4, q5, q6⟩ := hq0
    have i41 : c_ins κ p (16 * b + t) 41 0 = κ 41 0 := ins_c _ _ _ _ _ (by decide)
    have i2 := eT 2 0 (by decide) (by decide) (by decide) (by decide)
    have i0 := eT 0 0 (by decide) (by decide) (by decide) (by decide)
    have lt_p : ∀ x, p ≤ x → x < κ 38 0 → 16 * b + t < κ 40 x := fun x h1 h2 => by
      have h3 := r2 x h1 h2
      by_cases e : x = p
      · rw [e] at h2 h3 ⊢
        have : κ 40 p ≠ 16 * b + t := fun z => hnot ⟨h2, z⟩
        omega
      · have h4 := q4 p x r3 (by omega) h2
        have h5 := r2 p (Int.le_refl _) (by omega)
        omega
    refine ⟨by rw [i41]; exact q1, by rw [i41, i38]; omega, by rw [i38]; omega, fun i k h1 h2 h3 => ?_, fun i h1 h2 => ?_, fun x c x0 x1 hc hpp => ?_⟩
    · rw [i41] at h1
      rw [i38] at h3
      rw [ins_40, ins_40]
      by_cases ci : i = p
      · rw [if_pos ci, if_neg (by omega), if_pos (by omega)]
        exact lt_p (k - 1) (by omega) (by omega)
      · rw [if_neg ci]
        by_cases ck : k = p
        · rw [if_pos ck, if_neg (by omega)]
          exact r1 i h1 (by omega)
        · rw [if_neg ck]
          by_cases ci2 : p < i ∧ i ≤ κ 38 0
          · rw [if_pos ci2, if_pos (by omega)]
            exact q4 (i - 1) (k - 1) (by omega) (by omega) (by omega)
          · rw [if_neg ci2]
            by_cases ck2 : p < k ∧ k ≤ κ 38 0
            · rw [if_pos ck2]
              have h4 := r1 i h1 (by omega)
              have h5 := lt_p (k - 1) (by omega) (by omega)
              omega
            · rw [if_neg ck2]
              exact q4 i k h1 h2 (by omega)
    · rw [i41] at h1
      rw [i38] at h2
      have old : ∀ j, κ 41 0 ≤ j → j < κ 38 0 → ∃ x c, κ 40 j = 16 * c + x ∧ 0 ≤ x ∧ x < (b_interrupt τ t b).1 0 0 ∧ c ≤ 5000 ∧ (b_interrupt τ t b).1 2 0 ≤ c ∧ 16 * (b_interrupt τ t b).1 2 0 + 16 ≤ 16 * c + x ∧ b_planned (b_interrupt τ t b) x c = true := fun j j0 j1 => by
        obtain ⟨x, c, s1, s2, s3, s4, s5, s6, s7⟩ := q5 j j0 j1
        exact ⟨x, c, s1, s2, by rw [i0]; exact s3, s4, by rw [i2]; exact s5, by rw [i2]; exact s6, (planned_int p1).mpr (Or.inl s7)⟩
      rw [ins_40]
      by_cases ci : i = p
      · rw [if_pos ci]
        exact ⟨t, b, rfl, t0, by rw [i0]; exact t1, hb5, by rw [i2]; omega, by rw [i2]; omega, (planned_int p1).mpr (Or.inr ⟨rfl, rfl⟩)⟩
      · rw [if_neg ci]
        by_cases ci2 : p < i ∧ i ≤ κ 38 0
        · rw [if_pos ci2]
          exact old (i - 1) (by omega) (by omega)
        · rw [if_neg ci2]
          exact old i h1 (by omega)
    · rw [i2] at hc
      rw [i41, i38]
      rcases (planned_int p1).mp hpp with hpo | ⟨e1, e2⟩
      · obtain ⟨i, s1, s2, s3⟩ := q6 x c x0 x1 hc hpo
        by_cases ci : i < p
        · exact ⟨i, s1, by omega, by rw [ins_40, if_neg (by omega), if_neg (by omega)]; exact s3⟩
        · exact ⟨i + 1, by omega, by omega, by rw [ins_40, if_neg (by omega), if_pos (by omega), show i + 1 - 1 = i by omega]; exact s3⟩
      · exact ⟨p, r3, by omega, by rw [ins_40, if_pos rfl, e1, e2]⟩
  · obtain ⟨v1, v2, vN, v13, vd, v3, vk⟩ := hT
    have eN := fun (c : Nat) (i : Int) (hc : c ≠ 35 ∧ c ≠ 36 ∧ c ≠ 37 ∧ c ≠ 38) => eT c i hc.1 hc.2.1 hc.2.2.1 hc.2.2.2
    have ebs : ∀ x, b_s (b_interrupt τ t b) x = b_s τ x := fun x => by unfold b_s; rw [eN 4 x (by decide)]
    refine ⟨by rw [eN 2 0 (by decide)]; exact v1, by rw [eN 2 0 (by decide)]; exact v2, by rw [eN 0 0 (by decide)]; exact vN, fun s s0 s1 => by rw [eN 13 s (by decide)]; exact v13 s s0 s1, fun d d0 d1 => by rw [eN 21 d (by decide), eN 20 d (by decide), eN 2 0 (by decide), eN 1 0 (by decide)]; exact vd d d0 d1, ⟨fun x x0 x1 => by rw [eN 4 x (by decide), eN 3 x (by decide)]; exact v3.1 x x0 x1, fun x x0 x1 h5 => ?_⟩, fun k k0 k1 => ?_⟩
    · rw [eN 0 0 (by decide)] at x1
      rw [eN 5 x (by decide)] at h5
      rw [ebs, eN 4 x (by decide), eN 16 _ (by decide), eN 13 _ (by decide), eN 2 0 (by decide)]
      exact v3.2 x x0 x1 h5
    · rw [e38] at k1
      have e35 : (b_interrupt τ t b).1 35 k = if k = τ.1 38 0 then b else τ.1 35 k := by
        unfold b_interrupt
        rw [b_up_c _ _ _ _ _ _ (by decide), b_up_c _ _ _ _ _ _ (by decide), b_up_c _ _ _ _ _ _ (by decide)]
        exact pu_up_c _ _ _ _ _
      have e36 : (b_interrupt τ t b).1 36 k = if k = τ.1 38 0 then t else τ.1 36 k := by
        unfold b_interrupt
        rw [b_up_c _ _ _ _ _ _ (by decide), b_up_c _ _ _ _ _ _ (by decide)]
        show pu_up (b_up τ 35 (τ.1 38 0) b).1 36 (τ.1 38 0) t 36 k = _
        rw [pu_up_c, b_up_c _ _ _ _ _ _ (by decide)]
      rw [e35, e36, eN 0 0 (by decide)]
      by_cases e : k = τ.1 38 0
      · rw [if_pos e, if_pos e]
        exact ⟨t0, t1, hb5⟩
      · rw [if_neg e, if_neg e]
        exact vk k k0 (by omega)
set_option maxHeartbeats 4000000 in
theorem k_interrupt {y : jLay} {κ σ : aS} {g : jH} {n : Nat} {τ : bS} (hn : 1000 ≤ n) (h : WW y κ τ) (hp : PL τ) {t b : Int} : if p_intok τ t b then (∃ κ', fX11_interrupt n [.inr (some (y.2 9 0)), .inl t, .inl b] (pu_H y κ σ g) = some (some (.inl 1), pu_H y κ' σ g) ∧ WW y κ' (b_interrupt τ t b) ∧ PL (b_interrupt τ t b)) else (fX11_interrupt n [.inr (some (y.2 9 0)), .inl t, .inl b] (pu_H y κ σ g) = some (some (.inl 0), (pu_H y κ σ g))) := by
  have hW := h
  obtain ⟨hG, hy, hq, hT⟩ := h
  have hC := hG.1
  have hI := hG.2.1
  have h9 := hI.2.2.2.2.2.2.2.2
  have k0 : κ 0 0 = τ.1 0 0 := hC.1.1 0 0 rfl
  have k1 : κ 1 0 = τ.1 1 0 := hC.1.1 1 0 rfl
  have k2 : κ 2 0 = τ.1 2 0 := hC.1.1 2 0 rfl
  have hy0 := hy
  obtain ⟨iy, o9, o10, o11, o12, ya, yd, ys⟩ := hy
  have k37 : κ 37 0 = τ.1 37 0 := hC.1.1 37 0 rfl
  have k38 : κ 38 0 = τ.1 38 0 := hC.1.1 38 0 rfl
  obtain ⟨p1, p2, p3⟩ := hp
  have ec := k_can (τ := τ) (σ := σ) (g := g) (n := n) (b := b) (by omega) o9 k2 k37
  have v1 := hT.1
  by_cases tt : p_in t (τ.1 0 0)
  · have t1 : t < κ 0 0 := by have := tt.2; omega
    have t16 : t < 16 := by omega
    have tt0 := tt.1
    have e1 := k_actor_s (σ := σ) (g := g) (n := n) (by omega) hy0 tt.1 t1 t16
    by_cases lt : p_later τ b
    · rw [if_pos lt] at ec
      have hb := lt.1
      have hb5 := lt.2.1
      have h37 := lt.2.2
      have eq : b * 16 + t = 16 * b + t := by omega
      obtain ⟨r1, r2, r3, r4⟩ := plan_at hq (16 * b + t)
      have e2 := k_plan (σ := σ) (g := g) (n := n) (q := 16 * b + t) hn iy o9 o12 hq.1 hq.2.1 (by omega) (by omega) (by omega) ⟨r3, r4⟩
      have hh := plan_has hq (by omega) tt.1 t16 hb
      by_cases hc : b_planned τ t b = false
      · have ok : p_intok τ t b := ⟨tt, lt, hc⟩
        rw [if_pos ok]
        rw [if_neg (fun z => by have := hh.mp z; rw [hc] at this; cases this)] at e2
        refine ⟨_, ?_, hW.plan ⟨p1, p2, p3⟩ ok⟩
        simp only [fX11_interrupt, jm_run, List.length_cons, List.length_nil, Nat.reduceAdd, if_true, jm_init, List.map_cons, List.map_nil, Nat.reduceSub, List.replicate, List.cons_append, List.nil_append, kX11_interrupt]
        simp (disch := first | omega | assumption | (simp only [List.length_cons, List.length_nil]; omega) | decide | (simp (disch := decide) only [pu_up_ne, pu_up_at]; first | omega | assumption)) only [↓ja_int, ↓ja_null, ↓ja_iload_0, ↓ja_aload_0, ↓ja_istore_0, ↓ja_astore_0, ↓ja_kill_0, ↓ja_iinc_0, ↓ja_iload_1, ↓ja_aload_1, ↓ja_istore_1, ↓ja_astore_1, ↓ja_kill_1, ↓ja_iinc_1, ↓ja_iload_2, ↓ja_aload_2, ↓ja_istore_2, ↓ja_astore_2, ↓ja_kill_2, ↓ja_iinc_2, ↓ja_iload_3, ↓ja_aload_3, ↓ja_istore_3, ↓ja_astore_3, ↓ja_kill_3, ↓ja_iinc_3, ↓ja_iload_4, ↓ja_aload_4, ↓ja_istore_4, ↓ja_astore_4, ↓ja_kill_4, ↓ja_iinc_4, ↓ja_iload_5, ↓ja_aload_5, ↓ja_istore_5, ↓ja_astore_5, ↓ja_kill_5, ↓ja_iinc_5, ↓ja_iload_6, ↓ja_aload_6, ↓ja_istore_6, ↓ja_astore_6, ↓ja_kill_6, ↓ja_iinc_6, ↓ja_iload_7, ↓ja_aload_7, ↓ja_istore_7, ↓ja_astore_7, ↓ja_kill_7, ↓ja_iinc_7, ↓ja_iload_8, ↓ja_aload_8, ↓ja_istore_8, ↓ja_astore_8, ↓ja_kill_8, ↓ja_iinc_8, ↓ja_iload_9, ↓ja_aload_9, ↓ja_istore_9, ↓ja_astore_9, ↓ja_kill_9, ↓ja_iinc_9, ↓ja_iload_10, ↓ja_aload_10, ↓ja_istore_10, ↓ja_astore_10, ↓ja_kill_10, ↓ja_iinc_10, ↓ja_iadd, ↓ja_isub, ↓ja_imul, ↓ja_dup, ↓ja_dup2, ↓ja_i2b, ↓ja_ifeq, ↓ja_ifne, ↓ja_iflt, ↓ja_ifge, ↓ja_ifgt, ↓ja_ifle, ↓ja_icmpeq, ↓ja_icmpne, ↓ja_icmplt, ↓ja_icmpge, ↓ja_icmpgt, ↓ja_icmple, ↓ja_ifnull_n, ↓ja_ifnull_s, ↓ja_ifnonnull_n, ↓ja_ifnonnull_s, ↓ja_iret, ↓ja_aret, ↓ja_vret, ↓ja_zret0, ↓ja_zret1, ↓ja_sw, ↓ja_pe, ↓ja_pn, ↓ja_pz, ↓reduceIte, ite_self, Int.reduceEq, Int.reduceLT, Int.reduceLE, Int.reduceNeg, ca_g0, ca_g1, ca_g2, ca_g3, ca_g5, ca_g6, ca_g4n, ca_g4s, ca_p3, ca_p5, ca_p6, ca_p4n, ca_p4s, cs_g0, cs_g1, cs_g2, cs_g3, cs_g4, cs_g5, cs_g6, cs_g7, cs_g8, cs_p5, cs_p6, cs_p7, cs_p8, cd_g0, cd_g1, cd_g2, cd_g3, cd_g4, cd_g5, cd_g6, cd_g7, cd1_g0, cd1_g1, cd1_g2, cd1_g3, cd1_g4, cd1_g5, cd1_g6, cd1_g7, cd1_g8, cd1_g9, cd2_g0, cd2_g1, cd2_g2, cd2_g3, cd2_g4, cd2_g5, cd2_g6, cd2_g7, cd3_g0, cd3_g1, cd3_g2, cd3_g3, cd3_g4, cd3_g5, cd3_g6, cd3_g7, cd3_g8, cd3_g9, cd3_g10, cd4_g0, cd4_g1, cd4_g2, cd4_g3, cd4_g4, cd4_g5, cd4_g6, cd4_g7, cd4_g8, cd4_g9, cd4_g10, cd5_g0, cd5_g1, cd5_g2, cd5_g3, cd5_g4, cd5_g5, cd5_g6, cd5_g7, cd5_g8, cd5_g9, cd6_g0, cd6_g1, cd6_g2, cd6_g3, cd6_g4, cd6_g5, cd6_g6, cd6_g7, cd6_g8, cd7_g0, cd7_g1, cd7_g2, cd7_g3, cd7_g4, cd7_g5, cd7_g6, cd7_g7, cd7_g8, cd7_g9, cd7_g10, cd8_g0, cd8_g1, cd8_g2, cd8_g3, cd8_g4, cd8_g5, cd8_g6, cd8_g7, cd8_g9, cd8_g8a, cd8_g8b, cd_p2, cd_p3, cd_p5, cd_p7, cd1_p9, cd3_p10, cd4_p9, cd4_p10, cd5_p9, cd6_p8, cd7_p10, cd8_p9, cd8_p8a, cd8_p8b, ck_g0, ck_g1, ck_g2, ck_g3, ck_g4, ck_g5, ck_g6, ck_g7, ck_g8, ck_p5, ck_p6, ck_p7, ck_p8, cr2, cr4, cr5, cr10, cr11, cr12, cr6_5, cr6_6, cr6_9, cr6_11, cr7, cw5, cw6_5, cw6_6, cw6_9, cw6_11, cw7, cw12, cw4, cl2, cl4, cl5, cl12, cc_a0, cc_s0, cc_k0, cc_1_0, cc_2_0, cc_3_0, cc_4_0, cc_5_0, cc_6_0, cc_7_0, cc_8_0, cc_d0, cc_a1, cc_s1, cc_k1, cc_1_1, cc_2_1, cc_3_1, cc_4_1, cc_5_1, cc_6_1, cc_7_1, cc_8_1, cc_d1, cc_k2, cc_1_2, cc_2_2, cc_3_2, cc_4_2, cc_5_2, cc_6_2, cc_7_2, cc_8_2, cc_d2, cc_k3, cc_1_3, cc_2_3, cc_3_3, cc_4_3, cc_5_3, cc_6_3, cc_7_3, cc_8_3, cc_d3, cc_k4, cc_k5, jm_wr_id, pb_none, pb_int, pb_ref, pu_up_ne, pu_up_at, e1, ec, eq, e2, if_true, if_false, ↓jk_fix_pos, kX11_interrupt_b, kX11_interrupt_0, kX11_interrupt_16, Nat.reduceEqDiff]
      · rw [if_neg (fun z => hc z.2.2)]
        have hct : b_planned τ t b = true := by simpa using hc
        rw [if_pos (hh.mpr hct)] at e2
        simp only [fX11_interrupt, jm_run, List.length_cons, List.length_nil, Nat.reduceAdd, if_true, jm_init, List.map_cons, List.map_nil, Nat.reduceSub, List.replicate, List.cons_append, List.nil_append, kX11_interrupt]
        simp (disch := first | omega | assumption | (simp only [List.length_cons, List.length_nil]; omega) | decide | (simp (disch := decide) only [pu_up_ne, pu_up_at]; first | omega | assumption)) only [↓ja_int, ↓ja_null, ↓ja_iload_0, ↓ja_aload_0, ↓ja_istore_0, ↓ja_astore_0, ↓ja_kill_0, ↓ja_iinc_0, ↓ja_iload_1, ↓ja_aload_1, ↓ja_istore_1, ↓ja_astore_1, ↓ja_kill_1, ↓ja_iinc_1, ↓ja_iload_2, ↓ja_aload_2, ↓ja_istore_2, ↓ja_astore_2, ↓ja_kill_2, ↓ja_iinc_2, ↓ja_iload_3, ↓ja_aload_3, ↓ja_istore_3, ↓ja_astore_3, ↓ja_kill_3, ↓ja_iinc_3, ↓ja_iload_4, ↓ja_aload_4, ↓ja_istore_4, ↓ja_astore_4, ↓ja_kill_4, ↓ja_iinc_4, ↓ja_iload_5, ↓ja_aload_5, ↓ja_istore_5, ↓ja_astore_5, ↓ja_kill_5, ↓ja_iinc_5, ↓ja_iload_6, ↓ja_aload_6, ↓ja_istore_6, ↓ja_astore_6, ↓ja_kill_6, ↓ja_iinc_6, ↓ja_iload_7, ↓ja_aload_7, ↓ja_istore_7, ↓ja_astore_7, ↓ja_kill_7, ↓ja_iinc_7, ↓ja_iload_8, ↓ja_aload_8, ↓ja_istore_8, ↓ja_astore_8, ↓ja_kill_8, ↓ja_iinc_8, ↓ja_iload_9, ↓ja_aload_9, ↓ja_istore_9, ↓ja_astore_9, ↓ja_kill_9, ↓ja_iinc_9, ↓ja_iload_10, ↓ja_aload_10, ↓ja_istore_10, ↓ja_astore_10, ↓ja_kill_10, ↓ja_iinc_10, ↓ja_iadd, ↓ja_isub, ↓ja_imul, ↓ja_dup, ↓ja_dup2, ↓ja_i2b, ↓ja_ifeq, ↓ja_ifne, ↓ja_iflt, ↓ja_ifge, ↓ja_ifgt, ↓ja_ifle, ↓ja_icmpeq, ↓ja_icmpne, ↓ja_icmplt, ↓ja_icmpge, ↓ja_icmpgt, ↓ja_icmple, ↓ja_ifnull_n, ↓ja_ifnull_s, ↓ja_ifnonnull_n, ↓ja_ifnonnull_s, ↓ja_iret, ↓ja_aret, ↓ja_vret, ↓ja_zret0, ↓ja_zret1, ↓ja_sw, ↓ja_pe, ↓ja_pn, ↓ja_pz, ↓reduceIte, ite_self, Int.reduceEq, Int.reduceLT, Int.reduceLE, Int.reduceNeg, ca_g0, ca_g1, ca_g2, ca_g3, ca_g5, ca_g6, ca_g4n, ca_g4s, ca_p3, ca_p5, ca_p6, ca_p4n, ca_p4s, cs_g0, cs_g1, cs_g2, cs_g3, cs_g4, cs_g5, cs_g6, cs_g7, cs_g8, cs_p5, cs_p6, cs_p7, cs_p8, cd_g0, cd_g1, cd_g2, cd_g3, cd_g4, cd_g5, cd_g6, cd_g7, cd1_g0, cd1_g1, cd1_g2, cd1_g3, cd1_g4, cd1_g5, cd1_g6, cd1_g7, cd1_g8, cd1_g9, cd2_g0, cd2_g1, cd2_g2, cd2_g3, cd2_g4, cd2_g5, cd2_g6, cd2_g7, cd3_g0, cd3_g1, cd3_g2, cd3_g3, cd3_g4, cd3_g5, cd3_g6, cd3_g7, cd3_g8, cd3_g9, cd3_g10, cd4_g0, cd4_g1, cd4_g2, cd4_g3, cd4_g4, cd4_g5, cd4_g6, cd4_g7, cd4_g8, cd4_g9, cd4_g10, cd5_g0, cd5_g1, cd5_g2, cd5_g3, cd5_g4, cd5_g5, cd5_g6, cd5_g7, cd5_g8, cd5_g9, cd6_g0, cd6_g1, cd6_g2, cd6_g3, cd6_g4, cd6_g5, cd6_g6, cd6_g7, cd6_g8, cd7_g0, cd7_g1, cd7_g2, cd7_g3, cd7_g4, cd7_g5, cd7_g6, cd7_g7, cd7_g8, cd7_g9, cd7_g10, cd8_g0, cd8_g1, cd8_g2, cd8_g3, cd8_g4, cd8_g5, cd8_g6, cd8_g7, cd8_g9, cd8_g8a, cd8_g8b, cd_p2, cd_p3, cd_p5, cd_p7, cd1_p9, cd3_p10, cd4_p9, cd4_p10, cd5_p9, cd6_p8, cd7_p10, cd8_p9, cd8_p8a, cd8_p8b, ck_g0, ck_g1, ck_g2, ck_g3, ck_g4, ck_g5, ck_g6, ck_g7, ck_g8, ck_p5, ck_p6, ck_p7, ck_p8, cr2, cr4, cr5, cr10, cr11, cr12, cr6_5, cr6_6, cr6_9, cr6_11, cr7, cw5, cw6_5, cw6_6, cw6_9, cw6_11, cw7, cw12, cw4, cl2, cl4, cl5, cl12, cc_a0, cc_s0, cc_k0, cc_1_0, cc_2_0, cc_3_0, cc_4_0, cc_5_0, cc_6_0, cc_7_0, cc_8_0, cc_d0, cc_a1, cc_s1, cc_k1, cc_1_1, cc_2_1, cc_3_1, cc_4_1, cc_5_1, cc_6_1, cc_7_1, cc_8_1, cc_d1, cc_k2, cc_1_2, cc_2_2, cc_3_2, cc_4_2, cc_5_2, cc_6_2, cc_7_2, cc_8_2, cc_d2, cc_k3, cc_1_3, cc_2_3, cc_3_3, cc_4_3, cc_5_3, cc_6_3, cc_7_3, cc_8_3, cc_d3, cc_k4, cc_k5, jm_wr_id, pb_none, pb_int, pb_ref, pu_up_ne, pu_up_at, e1, ec, eq, e2, if_true, if_false, ↓jk_fix_pos, kX11_interrupt_b, kX11_interrupt_0, kX11_interrupt_16, Nat.reduceEqDiff]
    · rw [if_neg lt] at ec
      rw [if_neg (fun z => lt z.2.1)]
      simp only [fX11_interrupt, jm_run, List.length_cons, List.length_nil, Nat.reduceAdd, if_true, jm_init, List.map_cons, List.map_nil, Nat.reduceSub, List.replicate, List.cons_append, List.nil_append, kX11_interrupt]
      simp (disch := first | omega | assumption | (simp only [List.length_cons, List.length_nil]; omega) | decide | (simp (disch := decide) only [pu_up_ne, pu_up_at]; first | omega | assumption)) only [↓ja_int, ↓ja_null, ↓ja_iload_0, ↓ja_aload_0, ↓ja_istore_0, ↓ja_astore_0, ↓ja_kill_0, ↓ja_iinc_0, ↓ja_iload_1, ↓ja_aload_1, ↓ja_istore_1, ↓ja_astore_1, ↓ja_kill_1, ↓ja_iinc_1, ↓ja_iload_2, ↓ja_aload_2, ↓ja_istore_2, ↓ja_astore_2, ↓ja_kill_2, ↓ja_iinc_2, ↓ja_iload_3, ↓ja_aload_3, ↓ja_istore_3, ↓ja_astore_3, ↓ja_kill_3, ↓ja_iinc_3, ↓ja_iload_4, ↓ja_aload_4, ↓ja_istore_4, ↓ja_astore_4, ↓ja_kill_4, ↓ja_iinc_4, ↓ja_iload_5, ↓ja_aload_5, ↓ja_istore_5, ↓ja_astore_5, ↓ja_kill_5, ↓ja_iinc_5, ↓ja_iload_6, ↓ja_aload_6, ↓ja_istore_6, ↓ja_astore_6, ↓ja_kill_6, ↓ja_iinc_6, ↓ja_iload_7, ↓ja_aload_7, ↓ja_istore_7, ↓ja_astore_7, ↓ja_kill_7, ↓ja_iinc_7, ↓ja_iload_8, ↓ja_aload_8, ↓ja_istore_8, ↓ja_astore_8, ↓ja_kill_8, ↓ja_iinc_8, ↓ja_iload_9, ↓ja_aload_9, ↓ja_istore_9, ↓ja_astore_9, ↓ja_kill_9, ↓ja_iinc_9, ↓ja_iload_10, ↓ja_aload_10, ↓ja_istore_10, ↓ja_astore_10, ↓ja_kill_10, ↓ja_iinc_10, ↓ja_iadd, ↓ja_isub, ↓ja_imul, ↓ja_dup, ↓ja_dup2, ↓ja_i2b, ↓ja_ifeq, ↓ja_ifne, ↓ja_iflt, ↓ja_ifge, ↓ja_ifgt, ↓ja_ifle, ↓ja_icmpeq, ↓ja_icmpne, ↓ja_icmplt, ↓ja_icmpge, ↓ja_icmpgt, ↓ja_icmple, ↓ja_ifnull_n, ↓ja_ifnull_s, ↓ja_ifnonnull_n, ↓ja_ifnonnull_s, ↓ja_iret, ↓ja_aret, ↓ja_vret, ↓ja_zret0, ↓ja_zret1, ↓ja_sw, ↓ja_pe, ↓ja_pn, ↓ja_pz, ↓reduceIte, ite_self, Int.reduceEq, Int.reduceLT, Int.reduceLE, Int.reduceNeg, ca_g0, ca_g1, ca_g2, ca_g3, ca_g5, ca_g6, ca_g4n, ca_g4s, ca_p3, ca_p5, ca_p6, ca_p4n, ca_p4s, cs_g0, cs_g1, cs_g2, cs_g3, cs_g4, cs_g5, cs_g6, cs_g7, cs_g8, cs_p5, cs_p6, cs_p7, cs_p8, cd_g0, cd_g1, cd_g2, cd_g3, cd_g4, cd_g5, cd_g6, cd_g7, cd1_g0, cd1_g1, cd1_g2, cd1_g3, cd1_g4, cd1_g5, cd1_g6, cd1_g7, cd1_g8, cd1_g9, cd2_g0, cd2_g1, cd2_g2, cd2_g3, cd2_g4, cd2_g5, cd2_g6, cd2_g7, cd3_g0, cd3_g1, cd3_g2, cd3_g3, cd3_g4, cd3_g5, cd3_g6, cd3_g7, cd3_g8, cd3_g9, cd3_g10, cd4_g0, cd4_g1, cd4_g2, cd4_g3, cd4_g4, cd4_g5, cd4_g6, cd4_g7, cd4_g8, cd4_g9, cd4_g10, cd5_g0, cd5_g1, cd5_g2, cd5_g3, cd5_g4, cd5_g5, cd5_g6, cd5_g7, cd5_g8, cd5_g9, cd6_g0, cd6_g1, cd6_g2, cd6_g3, cd6_g4, cd6_g5, cd6_g6, cd6_g7, cd6_g8, cd7_g0, cd7_g1, cd7_g2, cd7_g3, cd7_g4, cd7_g5, cd7_g6, cd7_g7, cd7_g8, cd7_g9, cd7_g10, cd8_g0, cd8_g1, cd8_g2, cd8_g3, cd8_g4, cd8_g5, cd8_g6, cd8_g7, cd8_g9, cd8_g8a, cd8_g8b, cd_p2, cd_p3, cd_p5, cd_p7, cd1_p9, cd3_p10, cd4_p9, cd4_p10, cd5_p9, cd6_p8, cd7_p10, cd8_p9, cd8_p8a, cd8_p8b, ck_g0, ck_g1, ck_g2, ck_g3, ck_g4, ck_g5, ck_g6, ck_g7, ck_g8, ck_p5, ck_p6, ck_p7, ck_p8, cr2, cr4, cr5, cr10, cr11, cr12, cr6_5, cr6_6, cr6_9, cr6_11, cr7, cw5, cw6_5, cw6_6, cw6_9, cw6_11, cw7, cw12, cw4, cl2, cl4, cl5, cl12, cc_a0, cc_s0, cc_k0, cc_1_0, cc_2_0, cc_3_0, cc_4_0, cc_5_0, cc_6_0, cc_7_0, cc_8_0, cc_d0, cc_a1, cc_s1, cc_k1, cc_1_1, cc_2_1, cc_3_1, cc_4_1, cc_5_1, cc_6_1, cc_7_1, cc_8_1, cc_d1, cc_k2, cc_1_2, cc_2_2, cc_3_2, cc_4_2, cc_5_2, cc_6_2, cc_7_2, cc_8_2, cc_d2, cc_k3, cc_1_3, cc_2_3, cc_3_3, cc_4_3, cc_5_3, cc_6_3, cc_7_3, cc_8_3, cc_d3, cc_k4, cc_k5, jm_wr_id, pb_none, pb_int, pb_ref, pu_up_ne, pu_up_at, e1, ec, if_true, if_false, ↓jk_fix_pos, kX11_interrupt_b, kX11_interrupt_0, kX11_interrupt_16, Nat.reduceEqDiff]
  · rw [if_neg (fun z => tt z.1)]
    have e1 := k_actor_n (κ := κ) (σ := σ) (g := g) (n := n) (t := t) (by omega) hy0 (by rw [k0]; by_cases c : t < 0; exact Or.inl c; exact Or.inr (by by_cases c2 : t < τ.1 0 0; exact absurd ⟨by omega, c2⟩ tt; omega))
    simp only [fX11_interrupt, jm_run, List.length_cons, List.length_nil, Nat.reduceAdd, if_true, jm_init, List.map_cons, List.map_nil, Nat.reduceSub, List.replicate, List.cons_append, List.nil_append, kX11_interrupt]
    simp (disch := first | omega | assumption | (simp only [List.length_cons, List.length_nil]; omega) | decide | (simp (disch := decide) only [pu_up_ne, pu_up_at]; first | omega | assumption)) only [↓ja_int, ↓ja_null, ↓ja_iload_0, ↓ja_aload_0, ↓ja_istore_0, ↓ja_astore_0, ↓ja_kill_0, ↓ja_iinc_0, ↓ja_iload_1, ↓ja_aload_1, ↓ja_istore_1, ↓ja_astore_1, ↓ja_kill_1, ↓ja_iinc_1, ↓ja_iload_2, ↓ja_aload_2, ↓ja_istore_2, ↓ja_astore_2, ↓ja_kill_2, ↓ja_iinc_2, ↓ja_iload_3, ↓ja_aload_3, ↓ja_istore_3, ↓ja_astore_3, ↓ja_kill_3, ↓ja_iinc_3, ↓ja_iload_4, ↓ja_aload_4, ↓ja_istore_4, ↓ja_astore_4, ↓ja_kill_4, ↓ja_iinc_4, ↓ja_iload_5, ↓ja_aload_5, ↓ja_istore_5, ↓ja_astore_5, ↓ja_kill_5, ↓ja_iinc_5, ↓ja_iload_6, ↓ja_aload_6, ↓ja_istore_6, ↓ja_astore_6, ↓ja_kill_6, ↓ja_iinc_6, ↓ja_iload_7, ↓ja_aload_7, ↓ja_istore_7, ↓ja_astore_7, ↓ja_kill_7, ↓ja_iinc_7, ↓ja_iload_8, ↓ja_aload_8, ↓ja_istore_8, ↓ja_astore_8, ↓ja_kill_8, ↓ja_iinc_8, ↓ja_iload_9, ↓ja_aload_9, ↓ja_istore_9, ↓ja_astore_9, ↓ja_kill_9, ↓ja_iinc_9, ↓ja_iload_10, ↓ja_aload_10, ↓ja_istore_10, ↓ja_astore_10, ↓ja_kill_10, ↓ja_iinc_10, ↓ja_iadd, ↓ja_isub, ↓ja_imul, ↓ja_dup, ↓ja_dup2, ↓ja_i2b, ↓ja_ifeq, ↓ja_ifne, ↓ja_iflt, ↓ja_ifge, ↓ja_ifgt, ↓ja_ifle, ↓ja_icmpeq, ↓ja_icmpne, ↓ja_icmplt, ↓ja_icmpge, ↓ja_icmpgt, ↓ja_icmple, ↓ja_ifnull_n, ↓ja_ifnull_s, ↓ja_ifnonnull_n, ↓ja_ifnonnull_s, ↓ja_iret, ↓ja_aret, ↓ja_vret, ↓ja_zret0, ↓ja_zret1, ↓ja_sw, ↓ja_pe, ↓ja_pn, ↓ja_pz, ↓reduceIte, ite_self, Int.reduceEq, Int.reduceLT, Int.reduceLE, Int.reduceNeg, ca_g0, ca_g1, ca_g2, ca_g3, ca_g5, ca_g6, ca_g4n, ca_g4s, ca_p3, ca_p5, ca_p6, ca_p4n, ca_p4s, cs_g0, cs_g1, cs_g2, cs_g3, cs_g4, cs_g5, cs_g6, cs_g7, cs_g8, cs_p5, cs_p6, cs_p7, cs_p8, cd_g0, cd_g1, cd_g2, cd_g3, cd_g4, cd_g5, cd_g6, cd_g7, cd1_g0, cd1_g1, cd1_g2, cd1_g3, cd1_g4, cd1_g5, cd1_g6, cd1_g7, cd1_g8, cd1_g9, cd2_g0, cd2_g1, cd2_g2, cd2_g3, cd2_g4, cd2_g5, cd2_g6, cd2_g7, cd3_g0, cd3_g1, cd3_g2, cd3_g3, cd3_g4, cd3_g5, cd3_g6, cd3_g7, cd3_g8, cd3_g9, cd3_g10, cd4_g0, cd4_g1, cd4_g2, cd4_g3, cd4_g4, cd4_g5, cd4_g6, cd4_g7, cd4_g8, cd4_g9, cd4_g10, cd5_g0, cd5_g1, cd5_g2, cd5_g3, cd5_g4, cd5_g5, cd5_g6, cd5_g7, cd5_g8, cd5_g9, cd6_g0, cd6_g1, cd6_g2, cd6_g3, cd6_g4, cd6_g5, cd6_g6, cd6_g7, cd6_g8, cd7_g0, cd7_g1, cd7_g2, cd7_g3, cd7_g4, cd7_g5, cd7_g6, cd7_g7, cd7_g8, cd7_g9, cd7_g10, cd8_g0, cd8_g1, cd8_g2, cd8_g3, cd8_g4, cd8_g5, cd8_g6, cd8_g7, cd8_g9, cd8_g8a, cd8_g8b, cd_p2, cd_p3, cd_p5, cd_p7, cd1_p9, cd3_p10, cd4_p9, cd4_p10, cd5_p9, cd6_p8, cd7_p10, cd8_p9, cd8_p8a, cd8_p8b, ck_g0, ck_g1, ck_g2, ck_g3, ck_g4, ck_g5, ck_g6, ck_g7, ck_g8, ck_p5, ck_p6, ck_p7, ck_p8, cr2, cr4, cr5, cr10, cr11, cr12, cr6_5, cr6_6, cr6_9, cr6_11, cr7, cw5, cw6_5, cw6_6, cw6_9, cw6_11, cw7, cw12, cw4, cl2, cl4, cl5, cl12, cc_a0, cc_s0, cc_k0, cc_1_0, cc_2_0, cc_3_0, cc_4_0, cc_5_0, cc_6_0, cc_7_0, cc_8_0, cc_d0, cc_a1, cc_s1, cc_k1, cc_1_1, cc_2_1, cc_3_1, cc_4_1, cc_5_1, cc_6_1, cc_7_1, cc_8_1, cc_d1, cc_k2, cc_1_2, cc_2_2, cc_3_2, cc_4_2, cc_5_2, cc_6_2, cc_7_2, cc_8_2, cc_d2, cc_k3, cc_1_3, cc_2_3, cc_3_3, cc_4_3, cc_5_3, cc_6_3, cc_7_3, cc_8_3, cc_d3, cc_k4, cc_k5, jm_wr_id, pb_none, pb_int, pb_ref, pu_up_ne, pu_up_at, e1, if_true, if_false, ↓jk_fix_pos, kX11_interrupt_b, kX11_interrupt_0, kX11_interrupt_16, Nat.reduceEqDiff]
