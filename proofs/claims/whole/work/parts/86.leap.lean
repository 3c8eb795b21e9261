/-! leaps: the beats in between are empty -/
theorem b_up_up (τ : bS) (c : Nat) (i v w : Int) : b_up (b_up τ c i v) c i w = b_up τ c i w := by
  show (pu_up (pu_up τ.1 c i v) c i w, τ.2) = (pu_up τ.1 c i w, τ.2)
  congr 1
  funext a b
  unfold pu_up
  by_cases h : a = c ∧ b = i
  · rw [if_pos h, if_pos h]
  · rw [if_neg h, if_neg h, if_neg h]
def EV (τ : bS) (N : Int) : Prop := (∃ t, 0 ≤ t ∧ t < τ.1 0 0 ∧ τ.1 5 t < 0 ∧ τ.1 4 t < τ.1 3 t) ∨ (∃ t, 0 ≤ t ∧ t < τ.1 0 0 ∧ 0 ≤ τ.1 5 t ∧ 0 < τ.1 13 (b_s τ t)) ∨ (∃ k, 0 ≤ k ∧ k < τ.1 38 0 ∧ N ≤ τ.1 35 k) ∨ (∃ d, 0 ≤ d ∧ d < τ.1 1 0 ∧ N ≤ τ.1 21 d)
def NX (τ : bS) (N : Int) : Prop := τ.1 2 0 < N ∧ (∀ t, 0 ≤ t → t < τ.1 0 0 → τ.1 5 t < 0 → τ.1 4 t < τ.1 3 t → N ≤ τ.1 2 0 + 1) ∧ (∀ t, 0 ≤ t → t < τ.1 0 0 → 0 ≤ τ.1 5 t → 0 < τ.1 13 (b_s τ t) → N ≤ τ.1 16 (b_s τ t) + τ.1 13 (b_s τ t)) ∧ (∀ t b, 0 ≤ t → t < 16 → τ.1 2 0 < b → b_planned τ t b = true → N ≤ b) ∧ (∀ d, 0 ≤ d → d < 12 → τ.1 20 d = 0 → τ.1 21 d ≠ 0 → N ≤ τ.1 21 d) ∧ (N < 1000000 → EV τ N)
theorem b_any_mem {f : Int → Bool} : ∀ (k : Nat) (j : Int), b_any f k j = true ↔ ∃ i, j ≤ i ∧ i < j + k ∧ f i = true := by
  intro k
  induction k with
  | zero =>
    intro j
    constructor
    · intro h
      cases h
    · rintro ⟨i, h1, h2, _⟩
      omega
  | succ k ih =>
    intro j
    rw [b_any, Bool.or_eq_true, ih (j + 1)]
    constructor
    · rintro (h | ⟨i, h1, h2, h3⟩)
      · exact ⟨j, by omega, by omega, h⟩
      · exact ⟨i, by omega, by omega, h3⟩
    · rintro ⟨i, h1, h2, h3⟩
      by_cases e : i = j
      · exact Or.inl (e ▸ h3)
      · exact Or.inr ⟨i, by omega, by omega, h3⟩
theorem planned_of {τ : bS} {k : Int} (k0 : 0 ≤ k) (k1 : k < τ.1 38 0) : b_planned τ (τ.1 36 k) (τ.1 35 k) = true := by
  unfold b_planned
  rw [b_any_mem]
  refine ⟨k, k0, by omega, ?_⟩
  unfold b_plf
  simp
theorem planned_ex {τ : bS} {t b : Int} (h : b_planned τ t b = true) : ∃ k, 0 ≤ k ∧ k < τ.1 38 0 ∧ τ.1 35 k = b ∧ τ.1 36 k = t := by
  unfold b_planned at h
  rw [b_any_mem] at h
  obtain ⟨k, h1, h2, h3⟩ := h
  unfold b_plf at h3
  simp only [Bool.and_eq_true, decide_eq_true_eq] at h3
  exact ⟨k, h1, by omega, h3.1, h3.2⟩
theorem can_iff {τ : bS} {N : Int} (hT : TV τ) (hN : NX τ N) (n1 : τ.1 1 0 ≤ 12) : b_can τ = true ↔ N < 1000000 := by
  obtain ⟨v1, v2, vN, v13, vd, v3, vk⟩ := hT
  obtain ⟨x0, x1, x2, x3, x4, x5⟩ := hN
  unfold b_can
  rw [Bool.or_eq_true, Bool.or_eq_true, b_any_mem, b_any_mem, b_any_mem]
  constructor
  · rintro (⟨t, h1, h2, h3⟩ | ⟨d, h1, h2, h3⟩ | ⟨k, h1, h2, h3⟩)
    · unfold b_can1 at h3
      by_cases c : τ.1 5 t < 0
      · rw [if_pos c] at h3
        have h3 : τ.1 4 t < τ.1 3 t := by simpa using h3
        have := x1 t h1 (by omega) c h3
        omega
      · rw [if_neg c] at h3
        have h3' : 0 < τ.1 13 (20 * t + τ.1 4 t - 1) := by simpa using h3
        have h3 : 0 < τ.1 13 (b_s τ t) := h3'
        have a := x2 t h1 (by omega) (by omega) h3
        obtain ⟨b1, b2, b3, _⟩ := v3.2 t h1 (by omega) (by omega)
        obtain ⟨c1, c2, _⟩ := v3.1 t h1 (by omega)
        have d := v13 (b_s τ t) (by unfold b_s; omega) (by unfold b_s; omega)
        omega
    · unfold b_can2 at h3
      have h3 : τ.1 2 0 < τ.1 21 d := by simpa using h3
      obtain ⟨r1, r2, r3, r4, r5, r6⟩ := vd d h1 (by omega)
      have := x4 d h1 (by omega) (by omega) (by omega)
      omega
    · unfold b_can3 at h3
      have h3 : τ.1 2 0 < τ.1 35 k := by simpa using h3
      obtain ⟨q1, q2, q3⟩ := vk k h1 (by omega)
      have := x3 (τ.1 36 k) (τ.1 35 k) q1 (by omega) h3 (planned_of h1 (by omega))
      omega
  · intro h
    rcases x5 h with ⟨t, h1, h2, h3, h4⟩ | ⟨t, h1, h2, h3, h4⟩ | ⟨k, h1, h2, h3⟩ | ⟨d, h1, h2, h3⟩
    · refine Or.inl ⟨t, h1, by omega, ?_⟩
      unfold b_can1
      rw [if_pos h3]
      simpa using h4
    · refine Or.inl ⟨t, h1, by omega, ?_⟩
      unfold b_can1
      rw [if_neg (by omega)]
      have h4 : 0 < τ.1 13 (20 * t + τ.1 4 t - 1) := h4
      simpa using h4
    · refine Or.inr (Or.inr ⟨k, h1, by omega, ?_⟩)
      unfold b_can3
      have : τ.1 2 0 < τ.1 35 k := by omega
      simpa using this
    · refine Or.inr (Or.inl ⟨d, h1, by omega, ?_⟩)
      unfold b_can2
      have : τ.1 2 0 < τ.1 21 d := by omega
      simpa using this
theorem planned_2 (τ : bS) (v t b : Int) : b_planned (b_up τ 2 0 v) t b = b_planned τ t b := by
  unfold b_planned
  rw [b_up_c _ _ _ _ _ _ (by decide)]
  congr 1
theorem NX.shift {τ : bS} {N b : Int} (hT : TV τ) (hN : NX τ N) (hb : τ.1 2 0 ≤ b) (hb1 : b < N) (hb2 : b ≤ 5000) : TV (b_up τ 2 0 b) ∧ NX (b_up τ 2 0 b) N := by
  obtain ⟨v1, v2, vN, v13, vd, v3, vk⟩ := hT
  obtain ⟨x0, x1, x2, x3, x4, x5⟩ := hN
  have eC : ∀ (c : Nat) (i : Int), c ≠ 2 → (b_up τ 2 0 b).1 c i = τ.1 c i := fun c i hc => b_up_c _ _ _ _ _ _ hc
  have e2 : (b_up τ 2 0 b).1 2 0 = b := pu_up_at τ.1 2 0 b
  have ebs : ∀ x, b_s (b_up τ 2 0 b) x = b_s τ x := fun x => b_s_up _ _ _ _ (by decide)
  refine ⟨⟨by rw [e2]; omega, by rw [e2]; exact hb2, by rw [eC 0 _ (by decide)]; exact vN, fun s s0 s1 => by rw [eC 13 _ (by decide)]; exact v13 s s0 s1, fun d d0 d1 => ?_, ⟨fun x q0 q1 => by rw [eC 4 _ (by decide), eC 3 _ (by decide)]; exact v3.1 x q0 q1, fun x q0 q1 h5 => ?_⟩, fun k k0 k1 => ?_⟩, ⟨by rw [e2]; exact hb1, fun t t0 t1 h5 h43 => ?_, fun t t0 t1 h5 h13 => ?_, fun t b' t0 t1 hb' hp => ?_, fun d d0 d1 h20 h21 => ?_, fun h => ?_⟩⟩
  · obtain ⟨r1, r2, r3, r4, r5, r6⟩ := vd d d0 d1
    rw [eC 21 _ (by decide), eC 20 _ (by decide), eC 1 _ (by decide), e2]
    refine ⟨r1, r2, r3, fun e => ?_, fun e => ?_, r6⟩
    · by_cases c : τ.1 21 d = 0
      · exact Or.inl c
      · have := x4 d d0 d1 e c
        exact Or.inr (by omega)
    · have := r5 e
      omega
  · rw [eC 0 _ (by decide)] at q1
    rw [eC 5 _ (by decide)] at h5
    obtain ⟨a1, a2, a3, a4⟩ := v3.2 x q0 q1 h5
    rw [ebs, eC 4 _ (by decide), eC 16 _ (by decide), eC 13 _ (by decide), e2]
    refine ⟨a1, a2, by omega, fun hp => ?_⟩
    have := x2 x q0 q1 h5 hp
    omega
  · rw [eC 38 _ (by decide)] at k1
    rw [eC 36 _ (by decide), eC 35 _ (by decide), eC 0 _ (by decide)]
    exact vk k k0 k1
  · rw [eC 0 _ (by decide)] at t1
    rw [eC 5 _ (by decide)] at h5
    rw [eC 4 _ (by decide), eC 3 _ (by decide)] at h43
    have := x1 t t0 t1 h5 h43
    rw [e2]
    omega
  · rw [eC 0 _ (by decide)] at t1
    rw [eC 5 _ (by decide)] at h5
    rw [ebs, eC 13 _ (by decide)] at h13
    rw [ebs, eC 13 _ (by decide), eC 16 _ (by decide)]
    exact x2 t t0 t1 h5 h13
  · rw [e2] at hb'
    rw [planned_2] at hp
    exact x3 t b' t0 t1 (by omega) hp
  · rw [eC 20 _ (by decide)] at h20
    rw [eC 21 _ (by decide)] at h21 ⊢
    exact x4 d d0 d1 h20 h21
  · rcases x5 h with ⟨t, h1, h2, h3, h4⟩ | ⟨t, h1, h2, h3, h4⟩ | ⟨k, h1, h2, h3⟩ | ⟨d, h1, h2, h3⟩
    · exact Or.inl ⟨t, h1, by rw [eC 0 _ (by decide)]; exact h2, by rw [eC 5 _ (by decide)]; exact h3, by rw [eC 4 _ (by decide), eC 3 _ (by decide)]; exact h4⟩
    · exact Or.inr (Or.inl ⟨t, h1, by rw [eC 0 _ (by decide)]; exact h2, by rw [eC 5 _ (by decide)]; exact h3, by rw [ebs, eC 13 _ (by decide)]; exact h4⟩)
    · exact Or.inr (Or.inr (Or.inl ⟨k, h1, by rw [eC 38 _ (by decide)]; exact h2, by rw [eC 35 _ (by decide)]; exact h3⟩))
    · exact Or.inr (Or.inr (Or.inr ⟨d, h1, by rw [eC 1 _ (by decide)]; exact h2, by rw [eC 21 _ (by decide)]; exact h3⟩))
theorem it_id {f : bS → Int → bS} {τ : bS} : ∀ (k : Nat) (j : Int), (∀ i, j ≤ i → i < j + k → f τ i = τ) → b_it f k j τ = τ := by
  intro k
  induction k with
  | zero => intro j _; rfl
  | succ k ih =>
    intro j h
    show b_it f k (j + 1) (f τ j) = τ
    rw [h j (by omega) (by omega)]
    exact ih (j + 1) (fun i h1 h2 => h i (by omega) (by omega))
theorem idle {τ : bS} {N : Int} (hT : TV τ) (hN : NX τ N) (n0 : 0 ≤ τ.1 0 0) (n1 : 0 ≤ τ.1 1 0) (n2 : τ.1 1 0 ≤ 12) (h : τ.1 2 0 + 1 < N) : b_beat τ = b_up τ 2 0 (τ.1 2 0 + 1) := by
  obtain ⟨v1, v2, vN, v13, vd, v3, vk⟩ := hT
  obtain ⟨x0, x1, x2, x3, x4, x5⟩ := hN
  rw [b_beat_ph]
  obtain ⟨τ1, e1⟩ : ∃ τ1, τ1 = b_up τ 2 0 (τ.1 2 0 + 1) := ⟨_, rfl⟩
  rw [← e1]
  have eC : ∀ (c : Nat) (i : Int), c ≠ 2 → τ1.1 c i = τ.1 c i := fun c i hc => by rw [e1]; exact b_up_c _ _ _ _ _ _ hc
  have e2 : τ1.1 2 0 = τ.1 2 0 + 1 := by rw [e1]; exact pu_up_at τ.1 2 0 _
  have g1 : b_it b_g1 (τ1.1 0 0).toNat 0 τ1 = τ1 := it_id _ _ (fun t h1 h2 => by
    unfold b_g1
    rw [if_neg]
    intro hp
    rw [eC 0 _ (by decide)] at h2
    rw [e2] at hp
    have hp2 : b_planned τ t (τ.1 2 0 + 1) = true := by
      rw [e1, planned_2] at hp
      exact hp
    have := x3 t (τ.1 2 0 + 1) h1 (by omega) (by omega) hp2
    omega)
  have g2 : b_it b_g2 (τ1.1 1 0).toNat 0 τ1 = τ1 := it_id _ _ (fun d h1 h2 => by
    rw [eC 1 _ (by decide)] at h2
    unfold b_g2
    rw [if_neg]
    rw [eC 21 _ (by decide), e2]
    intro he
    obtain ⟨r1, r2, r3, r4, r5, r6⟩ := vd d h1 (by omega)
    rcases r3 with c | c
    · have := x4 d h1 (by omega) c (by omega)
      omega
    · have := r5 c
      omega)
  have g3 : b_it b_g3 (τ1.1 0 0).toNat 0 τ1 = τ1 := it_id _ _ (fun t h1 h2 => by
    rw [eC 0 _ (by decide)] at h2
    unfold b_g3
    split
    · rfl
    · rename_i c5
      rw [eC 5 _ (by decide)] at c5
      rw [if_neg]
      intro ho
      unfold b_over at ho
      simp only [Bool.and_eq_true, decide_eq_true_eq] at ho
      rw [eC 4 _ (by decide), eC 13 _ (by decide), eC 16 _ (by decide), e2] at ho
      obtain ⟨a1, a2, a3, a4⟩ := v3.2 t h1 (by omega) (by omega)
      have hs : 20 * t + τ.1 4 t - 1 = b_s τ t := rfl
      rw [hs] at ho
      rw [jm_wr_id (by omega) (by omega)] at ho
      have := x2 t h1 (by omega) (by omega) ho.1
      omega)
  have g4 : b_it b_g4 (τ1.1 0 0).toNat 0 τ1 = τ1 := it_id _ _ (fun t h1 h2 => by
    rw [eC 0 _ (by decide)] at h2
    unfold b_g4
    split
    · rename_i c5
      rw [eC 5 _ (by decide)] at c5
      rw [if_neg]
      rw [eC 4 _ (by decide), eC 3 _ (by decide)]
      intro c
      have := x1 t h1 (by omega) c5 c
      omega
    · rfl)
  unfold b_ph
  rw [g1, g2, g3, g4]
theorem run_idle {u N : Int} : ∀ (m k : Nat) (τ : bS), TV τ → NX τ N → N < 1000000 → 0 ≤ τ.1 0 0 → 0 ≤ τ.1 1 0 → τ.1 1 0 ≤ 12 → τ.1 2 0 + m < N → τ.1 2 0 + m ≤ u → τ.1 2 0 + m ≤ 5000 → b_run u (m + k) τ = b_run u k (b_up τ 2 0 (τ.1 2 0 + m)) := by
  intro m
  induction m with
  | zero =>
    intro k τ _ _ _ _ _ _ _ _ _
    rw [b_up_id (τ := τ) (c := 2) (by simp), Nat.zero_add]
  | succ m ih =>
    intro k τ hT hN hf n0 n1 n2 h1 h2 h3
    obtain ⟨sT, sN⟩ := hN.shift hT (b := τ.1 2 0 + 1) (by omega) (by omega) (by omega)
    rw [show m + 1 + k = (m + k) + 1 by omega, b_run, if_pos (by omega), if_pos ((can_iff hT hN n2).mpr hf), idle hT hN n0 n1 n2 (by omega)]
    have e2 : (b_up τ 2 0 (τ.1 2 0 + 1)).1 2 0 = τ.1 2 0 + 1 := pu_up_at τ.1 2 0 _
    have r := ih k (b_up τ 2 0 (τ.1 2 0 + 1)) sT sN hf (by rw [b_up_c _ _ _ _ _ _ (by decide)]; exact n0) (by rw [b_up_c _ _ _ _ _ _ (by decide)]; exact n1) (by rw [b_up_c _ _ _ _ _ _ (by decide)]; exact n2) (by rw [e2]; omega) (by rw [e2]; omega) (by rw [e2]; omega)
    rw [r, e2, b_up_up]
    congr 2
    omega
