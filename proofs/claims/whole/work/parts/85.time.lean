/-! beats: what holds of times -/
def b_ph (τ : bS) : bS := b_it b_g4 (τ.1 0 0).toNat 0 (b_it b_g3 (τ.1 0 0).toNat 0 (b_it b_g2 (τ.1 1 0).toNat 0 (b_it b_g1 (τ.1 0 0).toNat 0 τ)))
theorem b_beat_ph (τ : bS) : b_beat τ = b_ph (b_up τ 2 0 (τ.1 2 0 + 1)) := rfl
def V3 (τ : bS) (b : Int) : Prop := (∀ x, 0 ≤ x → x < 16 → 0 ≤ τ.1 4 x ∧ τ.1 4 x ≤ 20 ∧ τ.1 3 x ≤ 20) ∧ ∀ x, 0 ≤ x → x < τ.1 0 0 → 0 ≤ τ.1 5 x → 1 ≤ τ.1 4 x ∧ 0 ≤ τ.1 16 (b_s τ x) ∧ τ.1 16 (b_s τ x) ≤ b ∧ (0 < τ.1 13 (b_s τ x) → b < τ.1 16 (b_s τ x) + τ.1 13 (b_s τ x))
/-- the same, without the last: some may be impatient by now -/
def V2 (τ : bS) (b : Int) : Prop := (∀ x, 0 ≤ x → x < 16 → 0 ≤ τ.1 4 x ∧ τ.1 4 x ≤ 20 ∧ τ.1 3 x ≤ 20) ∧ ∀ x, 0 ≤ x → x < τ.1 0 0 → 0 ≤ τ.1 5 x → 1 ≤ τ.1 4 x ∧ 0 ≤ τ.1 16 (b_s τ x) ∧ τ.1 16 (b_s τ x) ≤ b
def TV (τ : bS) : Prop := 0 ≤ τ.1 2 0 ∧ τ.1 2 0 ≤ 5000 ∧ τ.1 0 0 ≤ 16 ∧ (∀ s, 0 ≤ s → s < 320 → 0 ≤ τ.1 13 s ∧ τ.1 13 s ≤ 1000) ∧ (∀ d, 0 ≤ d → d < 12 → 0 ≤ τ.1 21 d ∧ τ.1 21 d ≤ 5000 ∧ (τ.1 20 d = 0 ∨ τ.1 20 d = 1) ∧ (τ.1 20 d = 0 → τ.1 21 d = 0 ∨ τ.1 2 0 < τ.1 21 d) ∧ (τ.1 20 d = 1 → 0 < τ.1 21 d ∧ τ.1 21 d ≤ τ.1 2 0) ∧ (τ.1 1 0 ≤ d → τ.1 21 d = 0)) ∧ V3 τ (τ.1 2 0) ∧ ∀ k, 0 ≤ k → k < τ.1 38 0 → 0 ≤ τ.1 36 k ∧ τ.1 36 k < τ.1 0 0 ∧ τ.1 35 k ≤ 5000
theorem FX.bs {w : Int} {τ τ' : bS} (h : FX w τ τ') (x : Int) : b_s τ' x = b_s τ x := by
  unfold b_s
  rw [h.1 4 x (by decide)]
theorem V2.fx {τ τ' : bS} {b : Int} (h : V2 τ b) (hF : FX (-1) τ τ') (hS : SE τ τ') : V2 τ' b := by
  refine ⟨fun x x0 x1 => by rw [hF.1 4 x (by decide), hS 3 x rfl]; exact h.1 x x0 x1, fun x x0 x1 h5 => ?_⟩
  rw [hS 0 0 rfl] at x1
  rw [hF.bs, hF.1 4 x (by decide), hF.1 16 _ (by decide)]
  rcases hF.2 x (by omega) with e | e
  · rw [e] at h5
    exact h.2 x x0 x1 h5
  · omega
theorem FX.g1 (τ : bS) (t : Int) : FX (-1) τ (b_g1 τ t) := by
  unfold b_g1
  split
  · split
    · exact (FX.refl τ).up _ _ rfl
    · exact (FX.refl τ).gives _ _
  · exact FX.refl τ
theorem FX.g3 (τ : bS) (t : Int) : FX (-1) τ (b_g3 τ t) := by
  unfold b_g3
  split
  · exact FX.refl τ
  · split
    · exact (FX.refl τ).gives _ _
    · exact FX.refl τ
theorem FX.it {f : bS → Int → bS} (hf : ∀ τ u, FX (-1) τ (f τ u)) : ∀ (k : Nat) (j : Int) (τ : bS), FX (-1) τ (b_it f k j τ) := by
  intro k
  induction k with
  | zero => intro j τ; exact FX.refl τ
  | succ k ih => intro j τ; exact (hf τ j).trans (ih (j + 1) (f τ j))
/-- the closings of a beat -/
theorem g2_fr : ∀ (k : Nat) (j : Int) (τ : bS), (∀ (c : Nat) (i : Int), c = 4 ∨ c = 16 → (b_it b_g2 k j τ).1 c i = τ.1 c i) ∧ (∀ i, i ≠ -1 → (b_it b_g2 k j τ).1 5 i = τ.1 5 i ∨ (b_it b_g2 k j τ).1 5 i = -1) ∧ (∀ i, (b_it b_g2 k j τ).1 20 i = if j ≤ i ∧ i < j + k ∧ τ.1 21 i = τ.1 2 0 then 1 else τ.1 20 i) ∧ SE τ (b_it b_g2 k j τ) := by
  intro k
  induction k with
  | zero => intro j τ; exact ⟨fun _ _ _ => rfl, fun _ _ => Or.inl rfl, fun i => by rw [if_neg (by omega)]; rfl, SE.refl τ⟩
  | succ k ih =>
    intro j τ
    obtain ⟨h1, h2, h3, h4⟩ := ih (j + 1) (b_g2 τ j)
    have hS := SE.g2 τ j
    show (∀ (c : Nat) (i : Int), c = 4 ∨ c = 16 → (b_it b_g2 k (j + 1) (b_g2 τ j)).1 c i = τ.1 c i) ∧ (∀ i, i ≠ -1 → (b_it b_g2 k (j + 1) (b_g2 τ j)).1 5 i = τ.1 5 i ∨ (b_it b_g2 k (j + 1) (b_g2 τ j)).1 5 i = -1) ∧ (∀ i, (b_it b_g2 k (j + 1) (b_g2 τ j)).1 20 i = if j ≤ i ∧ i < j + ((k + 1 : Nat) : Int) ∧ τ.1 21 i = τ.1 2 0 then 1 else τ.1 20 i) ∧ SE τ (b_it b_g2 k (j + 1) (b_g2 τ j))
    have g : (∀ (c : Nat) (i : Int), c = 4 ∨ c = 16 → (b_g2 τ j).1 c i = τ.1 c i) ∧ (∀ i, i ≠ -1 → (b_g2 τ j).1 5 i = τ.1 5 i ∨ (b_g2 τ j).1 5 i = -1) ∧ (∀ i, (b_g2 τ j).1 20 i = if i = j ∧ τ.1 21 i = τ.1 2 0 then 1 else τ.1 20 i) := by
      unfold b_g2
      by_cases c : τ.1 21 j = τ.1 2 0
      · rw [if_pos c]
        have hF : FX (-1) (b_up τ 20 j 1) (b_allEnd (b_up τ 20 j 1) j 4) := (FX.refl _).allEnd _ _
        refine ⟨fun c i hc => ?_, fun i hi => ?_, fun i => ?_⟩
        · rw [hF.1 c i (by omega), b_up_c _ _ _ _ _ _ (by omega)]
        · have := hF.2 i hi
          rw [b_up_c _ _ _ _ _ _ (by decide)] at this
          exact this
        · rw [hF.1 20 i (by decide)]
          show pu_up τ.1 20 j 1 20 i = _
          rw [pu_up_c]
          by_cases e : i = j
          · rw [if_pos e, if_pos ⟨e, by rw [e]; exact c⟩]
          · rw [if_neg e, if_neg (fun z => e z.1)]
      · rw [if_neg c]
        exact ⟨fun _ _ _ => rfl, fun _ _ => Or.inl rfl, fun i => by rw [if_neg (fun z => c (by rw [← z.1]; exact z.2))]⟩
    refine ⟨fun c i hc => by rw [h1 c i hc, g.1 c i hc], fun i hi => ?_, fun i => ?_, hS.trans h4⟩
    · rcases h2 i hi with e | e
      · rw [e]
        exact g.2.1 i hi
      · exact Or.inr e
    · rw [h3 i, hS 21 i rfl, hS 2 0 rfl, g.2.2 i]
      by_cases c : τ.1 21 i = τ.1 2 0
      · by_cases c2 : i = j
        · rw [if_neg (by omega), if_pos ⟨c2, c⟩, if_pos (by omega)]
        · by_cases c3 : j + 1 ≤ i ∧ i < j + 1 + k ∧ τ.1 21 i = τ.1 2 0
          · rw [if_pos c3, if_pos (by omega)]
          · rw [if_neg c3, if_neg (fun z => c2 z.1), if_neg (by omega)]
      · rw [if_neg (fun z => c z.2.2), if_neg (fun z => c z.2), if_neg (fun z => c z.2.2)]
theorem gives_5 (τ : bS) (t o : Int) (ht : t ≠ -1) : (b_gives τ t o).1 5 t = -1 := by
  have hF : FX (-1) (b_leaves τ t) (b_gives τ t o) := by
    unfold b_gives
    refine FX.letsGo _ ?_
    split
    · exact ((((FX.refl _).ends _ _ _).up _ _ rfl)).allEnd _ _
    · exact (FX.refl _).ends _ _ _
  have e : (b_leaves τ t).1 5 t = -1 := by
    have : (b_leaves τ t).1 5 t = if t = t then -1 else τ.1 5 t := q_left_5 _ _ _ _
    rw [this, if_pos rfl]
  rcases hF.2 t ht with h | h
  · rw [h, e]
  · exact h
/-- nobody is impatient behind the third part of a beat -/
theorem g3_fr {b : Int} (b0 : 0 ≤ b) (b1 : b ≤ 5000) : ∀ (k : Nat) (j : Int) (τ : bS), V2 τ b → τ.1 2 0 = b → (∀ s, 0 ≤ s → s < 320 → 0 ≤ τ.1 13 s ∧ τ.1 13 s ≤ 1000) → τ.1 0 0 ≤ 16 → 0 ≤ j → j + k = τ.1 0 0 → (∀ x, 0 ≤ x → x < j → 0 ≤ τ.1 5 x → 0 < τ.1 13 (b_s τ x) → b < τ.1 16 (b_s τ x) + τ.1 13 (b_s τ x)) → V3 (b_it b_g3 k j τ) b := by
  intro k
  induction k with
  | zero =>
    intro j τ h h2 h13 hN h0 hj hp
    show V3 τ b
    refine ⟨h.1, fun x x0 x1 h5 => ?_⟩
    obtain ⟨a1, a2, a3⟩ := h.2 x x0 x1 h5
    exact ⟨a1, a2, a3, hp x x0 (by omega) h5⟩
  | succ k ih =>
    intro j τ h h2 h13 hN h0 hj hp
    have hF := FX.g3 τ j
    have hS := SE.g3 τ j
    show V3 (b_it b_g3 k (j + 1) (b_g3 τ j)) b
    refine ih (j + 1) (b_g3 τ j) (h.fx hF hS) (by rw [hS 2 0 rfl]; exact h2) (fun s s0 s1 => by rw [hS 13 s rfl]; exact h13 s s0 s1) (by rw [hS 0 0 rfl]; exact hN) (by omega) (by rw [hS 0 0 rfl]; omega) (fun x x0 x1 h5 h13p => ?_)
    rw [hF.bs, hS 13 _ rfl] at h13p
    rw [hF.bs, hS 13 _ rfl, hF.1 16 _ (by decide)]
    by_cases e : x = j
    · subst e
      unfold b_g3 at h5
      by_cases c5 : τ.1 5 x < 0
      · rw [if_pos c5] at h5
        omega
      · rw [if_neg c5] at h5
        obtain ⟨a1, a2, a3⟩ := h.2 x x0 (by omega) (by omega)
        by_cases co : b_over τ x = true
        · rw [if_pos co, gives_5 τ x 3 (by omega)] at h5
          omega
        · have hs : 20 * x + τ.1 4 x - 1 = b_s τ x := rfl
          unfold b_over at co
          simp only [Bool.and_eq_true, decide_eq_true_eq] at co
          rw [hs, h2, jm_wr_id (by omega) (by omega)] at co
          omega
    · rcases hF.2 x (by omega) with e5 | e5
      · rw [e5] at h5
        exact hp x x0 (by omega) h5 h13p
      · omega
/-- steps begin -/
theorem V3.begin {τ : bS} {b t : Int} (h : V3 τ b) (hN : τ.1 0 0 ≤ 16) (h2 : τ.1 2 0 = b) (b0 : 0 ≤ b) (t0 : 0 ≤ t) (t1 : t < τ.1 0 0) (h43 : τ.1 4 t < τ.1 3 t) (h13 : ∀ s, 0 ≤ s → s < 320 → 0 ≤ τ.1 13 s ∧ τ.1 13 s ≤ 1000) : V3 (b_begins τ t) b := by
  have hF : FX t (b_bg τ t) (b_begins τ t) := by
    unfold b_begins
    split
    · exact (FX.refl _).ends _ _ _
    · exact FX.letsGo _ (FX.kind _ _ _ _ _)
  have hS : SE τ (b_begins τ t) := SE.begins (SE.refl τ) t
  have e4 : ∀ i, (b_bg τ t).1 4 i = if i = t then τ.1 4 t + 1 else τ.1 4 i := fun i => by
    unfold b_bg
    rw [b_up_c _ _ _ _ _ _ (by decide)]
    exact pu_up_c _ _ _ _ _
  have e16 : ∀ i, (b_bg τ t).1 16 i = if i = 20 * t + (τ.1 4 t + 1) - 1 then τ.1 2 0 else τ.1 16 i := fun i => by
    show pu_up (b_up τ 4 t (τ.1 4 t + 1)).1 16 _ _ 16 i = _
    rw [pu_up_c, b_up_c _ _ _ _ _ _ (by decide)]
  have e5 : ∀ i, (b_bg τ t).1 5 i = τ.1 5 i := fun i => by
    unfold b_bg
    rw [b_up_c _ _ _ _ _ _ (by decide), b_up_c _ _ _ _ _ _ (by decide)]
  obtain ⟨q1, q2, q3⟩ := h.1 t t0 (by omega)
  refine ⟨fun x x0 x1 => ?_, fun x x0 x1 h5 => ?_⟩
  · rw [hF.1 4 x (by decide), e4, hS 3 x rfl]
    have := h.1 x x0 x1
    split
    · rename_i e
      subst e
      omega
    · exact this
  · rw [hS 0 0 rfl] at x1
    have hb : b_s (b_begins τ t) x = b_s (b_bg τ t) x := hF.bs x
    rw [hb, hF.1 4 x (by decide), hF.1 16 _ (by decide), hS 13 _ rfl, e16]
    by_cases e : x = t
    · subst e
      have es : b_s (b_bg τ x) x = 20 * x + (τ.1 4 x + 1) - 1 := by
        unfold b_s
        rw [e4, if_pos rfl]
      rw [es, if_pos rfl, e4, if_pos rfl, h2]
      exact ⟨by omega, b0, Int.le_refl _, fun hp => by omega⟩
    · have es : b_s (b_bg τ t) x = b_s τ x := by
        unfold b_s
        rw [e4, if_neg e]
      rw [es, e4, if_neg e]
      rcases hF.2 x e with h6 | h6
      · rw [h6, e5] at h5
        have g := h.2 x x0 x1 h5
        obtain ⟨r1, r2, r3⟩ := h.1 x x0 (by omega)
        rw [if_neg (by unfold b_s; omega)]
        exact g
      · omega
theorem g4_fr {b : Int} (b0 : 0 ≤ b) : ∀ (k : Nat) (j : Int) (τ : bS), V3 τ b → τ.1 2 0 = b → (∀ s, 0 ≤ s → s < 320 → 0 ≤ τ.1 13 s ∧ τ.1 13 s ≤ 1000) → τ.1 0 0 ≤ 16 → 0 ≤ j → j + k = τ.1 0 0 → V3 (b_it b_g4 k j τ) b ∧ ∀ i, (b_it b_g4 k j τ).1 20 i = τ.1 20 i := by
  intro k
  induction k with
  | zero => intro j τ h _ _ _ _ _; exact ⟨h, fun _ => rfl⟩
  | succ k ih =>
    intro j τ h h2 h13 hN h0 hj
    have hS := SE.g4 τ j
    have g : V3 (b_g4 τ j) b ∧ ∀ i, (b_g4 τ j).1 20 i = τ.1 20 i := by
      unfold b_g4
      split
      · split
        · rename_i h43
          split
          · exact ⟨h, fun _ => rfl⟩
          · refine ⟨h.begin hN h2 b0 h0 (by omega) h43 h13, fun i => ?_⟩
            have hF : FX j (b_bg τ j) (b_begins τ j) := by
              unfold b_begins
              split
              · exact (FX.refl _).ends _ _ _
              · exact FX.letsGo _ (FX.kind _ _ _ _ _)
            rw [hF.1 20 i (by decide)]
            unfold b_bg
            rw [b_up_c _ _ _ _ _ _ (by decide), b_up_c _ _ _ _ _ _ (by decide)]
        · exact ⟨h, fun _ => rfl⟩
      · exact ⟨h, fun _ => rfl⟩
    have r := ih (j + 1) (b_g4 τ j) g.1 (by rw [hS 2 0 rfl]; exact h2) (fun s s0 s1 => by rw [hS 13 s rfl]; exact h13 s s0 s1) (by rw [hS 0 0 rfl]; exact hN) (by omega) (by rw [hS 0 0 rfl]; omega)
    exact ⟨r.1, fun i => by
      show (b_it b_g4 k (j + 1) (b_g4 τ j)).1 20 i = _
      rw [r.2 i, g.2 i]⟩
theorem TV.ph {τ : bS} (h : TV τ) {b : Int} (h0 : 0 ≤ τ.1 0 0) (h1 : 0 ≤ τ.1 1 0) (h1b : τ.1 1 0 ≤ 12) (hb : τ.1 2 0 < b) (hb1 : b ≤ 5000) (hd : ∀ d, 0 ≤ d → d < 12 → τ.1 20 d = 0 → τ.1 21 d ≠ 0 → b ≤ τ.1 21 d) : TV (b_ph (b_up τ 2 0 b)) := by
  obtain ⟨v1, v2, vN, v13, vd, v3, vk⟩ := h
  have eC : ∀ (c : Nat) (i : Int), c ≠ 2 → (b_up τ 2 0 b).1 c i = τ.1 c i := fun c i hc => b_up_c _ _ _ _ _ _ hc
  have e2 : (b_up τ 2 0 b).1 2 0 = b := pu_up_at τ.1 2 0 b
  have ebs : ∀ x, b_s (b_up τ 2 0 b) x = b_s τ x := fun x => b_s_up _ _ _ _ (by decide)
  have w0 : V2 (b_up τ 2 0 b) b := by
    refine ⟨fun x x0 x1 => by rw [eC 4 _ (by decide), eC 3 _ (by decide)]; exact v3.1 x x0 x1, fun x x0 x1 h5 => ?_⟩
    rw [eC 5 _ (by decide)] at h5
    rw [eC 0 _ (by decide)] at x1
    obtain ⟨q1, q2, q3, _⟩ := v3.2 x x0 x1 h5
    rw [ebs, eC 4 _ (by decide), eC 16 _ (by decide)]
    exact ⟨q1, q2, by omega⟩
  have s1 := SE.it SE.g1 (τ.1 0 0).toNat 0 (SE.refl (b_up τ 2 0 b))
  have f1 := FX.it FX.g1 (τ.1 0 0).toNat 0 (b_up τ 2 0 b)
  obtain ⟨τ1, eτ1⟩ : ∃ τ1, τ1 = b_it b_g1 (τ.1 0 0).toNat 0 (b_up τ 2 0 b) := ⟨_, rfl⟩
  rw [← eτ1] at s1 f1
  have w1 := w0.fx f1 s1
  obtain ⟨p1, p2, p3, s2⟩ := g2_fr (τ.1 1 0).toNat 0 τ1
  obtain ⟨τ2, eτ2⟩ : ∃ τ2, τ2 = b_it b_g2 (τ.1 1 0).toNat 0 τ1 := ⟨_, rfl⟩
  rw [← eτ2] at p1 p2 p3 s2
  have w2 : V2 τ2 b := by
    refine ⟨fun x x0 x1 => by rw [p1 4 x (by decide), s2 3 x rfl]; exact w1.1 x x0 x1, fun x x0 x1 h5 => ?_⟩
    rw [s2 0 0 rfl] at x1
    have hb : b_s τ2 x = b_s τ1 x := by unfold b_s; rw [p1 4 x (by decide)]
    rw [hb, p1 4 x (by decide), p1 16 _ (by decide)]
    rcases p2 x (by omega) with e | e
    · rw [e] at h5
      exact w1.2 x x0 x1 h5
    · omega
  have s12 := s1.trans s2
  have w3 := g3_fr (by omega) hb1 (τ.1 0 0).toNat 0 τ2 w2 (by rw [s12 2 0 rfl]; exact e2) (fun s q0 q1 => by rw [s12 13 s rfl, eC _ _ (by decide)]; exact v13 s q0 q1) (by rw [s12 0 0 rfl, eC _ _ (by decide)]; exact vN) (by omega) (by rw [s12 0 0 rfl, eC _ _ (by decide)]; omega) (fun x x0 x1 => by omega)
  have s3 := SE.it SE.g3 (τ.1 0 0).toNat 0 (SE.refl τ2)
  have f3 := FX.it FX.g3 (τ.1 0 0).toNat 0 τ2
  obtain ⟨τ3, eτ3⟩ : ∃ τ3, τ3 = b_it b_g3 (τ.1 0 0).toNat 0 τ2 := ⟨_, rfl⟩
  rw [← eτ3] at w3 s3 f3
  have s13 := s12.trans s3
  obtain ⟨w4, f4⟩ := g4_fr (b := b) (by omega) (τ.1 0 0).toNat 0 τ3 w3 (by rw [s13 2 0 rfl]; exact e2) (fun s q0 q1 => by rw [s13 13 s rfl, eC _ _ (by decide)]; exact v13 s q0 q1) (by rw [s13 0 0 rfl, eC _ _ (by decide)]; exact vN) (by omega) (by rw [s13 0 0 rfl, eC _ _ (by decide)]; omega)
  have s4 := SE.it SE.g4 (τ.1 0 0).toNat 0 (SE.refl τ3)
  have ef : b_ph (b_up τ 2 0 b) = b_it b_g4 (τ.1 0 0).toNat 0 τ3 := by
    rw [eτ3, eτ2, eτ1]
    rfl
  rw [ef]
  have sA := s13.trans s4
  have sT : ∀ (c : Nat) (i : Int), se_c c = true → c ≠ 2 → (b_it b_g4 (τ.1 0 0).toNat 0 τ3).1 c i = τ.1 c i := fun c i hc n2 => by rw [sA c i hc, eC c i n2]
  have sB : (b_it b_g4 (τ.1 0 0).toNat 0 τ3).1 2 0 = b := by rw [sA 2 0 rfl]; exact e2
  refine ⟨by rw [sB]; omega, by rw [sB]; exact hb1, by rw [sT 0 0 rfl (by decide)]; exact vN, fun s q0 q1 => by rw [sT 13 s rfl (by decide)]; exact v13 s q0 q1, fun d d0 d1 => ?_, by rw [sB]; exact w4, fun k k0 k1 => ?_⟩
  · obtain ⟨r1, r2, r3, r4, r5, r6⟩ := vd d d0 d1
    rw [sT 1 0 rfl (by decide), sT 21 d rfl (by decide), sB, f4, f3.1 20 d (by decide), p3 d, f1.1 20 d (by decide), eC 20 _ (by decide), s1 21 d rfl, s1 2 0 rfl, eC 21 _ (by decide), e2]
    by_cases c : τ.1 21 d = b
    · by_cases c20 : τ.1 20 d = 0
      · have hlt : d < τ.1 1 0 := by
          by_cases hc : τ.1 1 0 ≤ d
          · have := r6 hc
            omega
          · omega
        rw [if_pos (by omega)]
        exact ⟨r1, r2, Or.inr rfl, fun e => absurd e (by decide), fun _ => by omega, r6⟩
      · have c21 : τ.1 20 d = 1 := by omega
        have := r5 c21
        omega
    · rw [if_neg (fun z => c z.2.2)]
      refine ⟨r1, r2, r3, fun e => ?_, fun e => ?_, r6⟩
      · by_cases c0 : τ.1 21 d = 0
        · exact Or.inl c0
        · have := hd d d0 d1 e c0
          exact Or.inr (by omega)
      · have := r5 e
        omega
  · rw [sT 38 0 rfl (by decide)] at k1
    rw [sT 36 k rfl (by decide), sT 35 k rfl (by decide), sT 0 0 rfl (by decide)]
    exact vk k k0 k1
