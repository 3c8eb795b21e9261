/-! the zones hold in every run -/
def HS (τ : bS) : Prop := (∀ t, 0 ≤ t → t < 16 → 0 ≤ τ.1 4 t ∧ τ.1 4 t ≤ τ.1 3 t ∧ τ.1 3 t ≤ 20) ∧ (∀ t i, 0 ≤ t → t < 16 → 0 ≤ i → i < τ.1 3 t → 0 ≤ τ.1 10 (20 * t + i) ∧ τ.1 10 (20 * t + i) < τ.1 1 0) ∧ τ.1 0 0 ≤ 16 ∧ 0 ≤ τ.1 1 0
def ZI (τ : bS) : Prop := ZQ τ.1 (τ.1 0 0) (τ.1 1 0) τ ∧ HS τ
theorem zk_eq {ρ ρ' : aS} {T D x : Int} (e : ∀ (c : Nat) (i : Int), c = 3 ∨ c = 4 ∨ c = 10 → ρ' c i = ρ c i) (h : zk ρ T D x) : zk ρ' T D x := by
  unfold zk at h ⊢
  rw [e 4 x (by decide), e 3 x (by decide), e 10 _ (by decide)]
  exact h
theorem ZQ.self {ρ : aS} {T D : Int} {τ : bS} (h : ZQ ρ T D τ) : ZQ τ.1 T D τ := by
  have e1 : ∀ (c : Nat) (i : Int), c = 3 ∨ c = 4 ∨ c = 10 → τ.1 c i = ρ c i := fun c i hc => h.1 c i (by rcases hc with hc | hc | hc <;> (subst hc; rfl))
  have e2 : ∀ (c : Nat) (i : Int), c = 3 ∨ c = 4 ∨ c = 10 → ρ c i = τ.1 c i := fun c i hc => (e1 c i hc).symm
  obtain ⟨z1, z2, z3, z4, ⟨z5, z5'⟩, z6, n1, n2, n3⟩ := h
  refine ⟨fun _ _ _ => rfl, fun e x hx => zk_eq e1 (z2 e x hx), fun e e0 e1' h => zk_eq e1 (z3 e e0 e1' h), z4, ⟨fun x hx => z5 x (zk_eq e2 hx), fun x x0 x1 h => by rw [z1 4 x rfl]; exact z5' x x0 x1 h⟩, fun e he => ?_, n1, fun t i => ?_, n3⟩
  · rw [z1 18 e rfl] at he
    rw [z1 19 e rfl]
    exact z6 e he
  · rw [z1 3 t rfl]
    exact n2 t i
theorem ZI.of {τ τ' : bS} (h : ZI τ) (hq : ZQ τ.1 (τ.1 0 0) (τ.1 1 0) τ') : ZI τ' ∧ τ'.1 0 0 = τ.1 0 0 ∧ τ'.1 1 0 = τ.1 1 0 := by
  have e0 := hq.1 0 0 rfl
  have e1 := hq.1 1 0 rfl
  refine ⟨⟨by rw [e0, e1]; exact hq.self, ?_⟩, e0, e1⟩
  obtain ⟨h1, h2, h3, h4⟩ := h.2
  refine ⟨fun t t0 t1 => by rw [hq.1 4 t rfl, hq.1 3 t rfl]; exact h1 t t0 t1, fun t i t0 t1 i0 i1 => ?_, by rw [e0]; exact h3, by rw [e1]; exact h4⟩
  rw [hq.1 3 t rfl] at i1
  rw [hq.1 10 _ rfl, e1]
  exact h2 t i t0 t1 i0 i1
theorem ZI.tk {τ : bS} (h : ZI τ) {t : Int} (t0 : 0 ≤ t) (t1 : t < τ.1 0 0) (h5 : 0 ≤ τ.1 5 t) : zk τ.1 (τ.1 0 0) (τ.1 1 0) t := by
  have a := h.1.2.2.2.2.1.2 t t0 t1 h5
  obtain ⟨h1, h2, h3, h4⟩ := h.2
  have b := h1 t t0 (by omega)
  have c := h2 t (τ.1 4 t - 1) t0 (by omega) (by omega) (by omega)
  have e : 20 * t + τ.1 4 t - 1 = 20 * t + (τ.1 4 t - 1) := by omega
  refine ⟨t0, t1, by omega, a, b.2.1, b.2.2, ?_⟩
  rw [e]
  exact c
theorem ZI.bg {τ : bS} (h : ZI τ) {t : Int} (t0 : 0 ≤ t) (t1 : t < τ.1 0 0) (h5 : τ.1 5 t < 0) (h4 : τ.1 4 t < τ.1 3 t) : ZQ (b_bg τ t).1 (τ.1 0 0) (τ.1 1 0) (b_bg τ t) ∧ zk (b_bg τ t).1 (τ.1 0 0) (τ.1 1 0) t := by
  obtain ⟨⟨z1, z2, z3, z4, ⟨z5, z5'⟩, z6, n1, n2, n3, n4⟩, h1, h2, h3, hD⟩ := h
  have e4 : ∀ x, (b_bg τ t).1 4 x = if x = t then τ.1 4 t + 1 else τ.1 4 x := fun x => by
    unfold b_bg
    rw [b_up_c _ _ _ _ _ _ (by decide)]
    exact pu_up_c τ.1 4 t x _
  have e16 : ∀ x, (b_bg τ t).1 16 x = if x = 20 * t + (τ.1 4 t + 1) - 1 then τ.1 2 0 else τ.1 16 x := fun x => by
    have : (b_bg τ t).1 16 x = _ := pu_up_c _ 16 _ x _
    rw [this, b_up_c _ _ _ _ _ _ (by decide)]
  have e : ∀ (c : Nat) (i : Int), c ≠ 4 → c ≠ 16 → (b_bg τ t).1 c i = τ.1 c i := fun c i c1 c2 => by
    unfold b_bg
    rw [b_up_c _ _ _ _ _ _ c2, b_up_c _ _ _ _ _ _ c1]
  have b := h1 t t0 (by omega)
  have kt : zk (b_bg τ t).1 (τ.1 0 0) (τ.1 1 0) t := by
    have c := h2 t (τ.1 4 t) t0 (by omega) (by omega) h4
    unfold zk
    rw [e4 t, if_pos rfl, e 3 _ (by decide) (by decide), e 10 _ (by decide) (by decide)]
    have e' : 20 * t + (τ.1 4 t + 1) - 1 = 20 * t + τ.1 4 t := by omega
    rw [e']
    exact ⟨t0, t1, by omega, by omega, by omega, b.2.2, c⟩
  have kk : ∀ x, zk τ.1 (τ.1 0 0) (τ.1 1 0) x → zk (b_bg τ t).1 (τ.1 0 0) (τ.1 1 0) x := fun x hx => by
    by_cases c : x = t
    · rw [c]
      exact kt
    · unfold zk
      rw [e4 x, if_neg c, e 3 _ (by decide) (by decide), e 10 _ (by decide) (by decide)]
      exact hx
  have kb : ∀ x, x ≠ t → zk (b_bg τ t).1 (τ.1 0 0) (τ.1 1 0) x → zk τ.1 (τ.1 0 0) (τ.1 1 0) x := fun x c hx => by
    unfold zk at hx
    rw [e4 x, if_neg c, e 3 _ (by decide) (by decide), e 10 _ (by decide) (by decide)] at hx
    exact hx
  refine ⟨⟨fun _ _ _ => rfl, fun d x hx => kk x (z2 d x hx), fun d d0 d1 => ?_, fun d => by rw [e 34 _ (by decide) (by decide)]; exact z4 d, ⟨fun x hx => ?_, fun x x0 x1 hx => ?_⟩, fun d => ?_, fun i => by rw [e 6 _ (by decide) (by decide), e 7 _ (by decide) (by decide)]; exact n1 i, fun t' i u0 i0 i1 i2 => ?_, fun i => by rw [e 25 _ (by decide) (by decide), e 27 _ (by decide) (by decide), e 34 _ (by decide) (by decide)]; exact n3 i, fun i => by rw [e 29 _ (by decide) (by decide), e 30 _ (by decide) (by decide), e 31 _ (by decide) (by decide)]; exact n4.1 i, fun i => by rw [e 32 _ (by decide) (by decide)]; exact n4.2.1 i, fun i => by rw [e 33 _ (by decide) (by decide)]; exact n4.2.2 i⟩, kt⟩
  · rw [e 28 _ (by decide) (by decide)]
    exact fun q => kk _ (z3 d d0 d1 q)
  · rw [e 5 _ (by decide) (by decide)]
    by_cases c : x = t
    · rw [c]
      omega
    · exact z5 x (kb x c hx)
  · rw [e 5 _ (by decide) (by decide)] at hx
    by_cases c : x = t
    · rw [c] at hx
      omega
    · rw [e4 x, if_neg c]
      exact z5' x x0 x1 hx
  · rw [e 18 _ (by decide) (by decide), e 24 _ (by decide) (by decide), e 19 _ (by decide) (by decide)]
    exact z6 d
  · rw [e 3 _ (by decide) (by decide)] at i0
    rw [e 17 _ (by decide) (by decide), e16, if_neg ?_]
    · exact n2 t' i u0 i0 i1 i2
    · intro q
      have : t' = t := by omega
      subst this
      omega
theorem ZI.begin {τ : bS} (h : ZI τ) {t : Int} (t0 : 0 ≤ t) (t1 : t < τ.1 0 0) (h5 : τ.1 5 t < 0) (h4 : τ.1 4 t < τ.1 3 t) : ZI (b_begins τ t) ∧ (b_begins τ t).1 0 0 = τ.1 0 0 ∧ (b_begins τ t).1 1 0 = τ.1 1 0 := by
  obtain ⟨hq, hk⟩ := h.bg t0 t1 h5 h4
  have hD := h.2.2.2.2
  have e0 : (b_bg τ t).1 0 0 = τ.1 0 0 := by
    unfold b_bg
    rw [b_up_c _ _ _ _ _ _ (by decide), b_up_c _ _ _ _ _ _ (by decide)]
  have e1 : ∀ (c : Nat) (i : Int), c ≠ 4 → c ≠ 16 → (b_bg τ t).1 c i = τ.1 c i := fun c i c1 c2 => by
    unfold b_bg
    rw [b_up_c _ _ _ _ _ _ c2, b_up_c _ _ _ _ _ _ c1]
  have e4 : ∀ x, (b_bg τ t).1 4 x = if x = t then τ.1 4 t + 1 else τ.1 4 x := fun x => by
    unfold b_bg
    rw [b_up_c _ _ _ _ _ _ (by decide)]
    exact pu_up_c τ.1 4 t x _
  have hz : ZI (b_bg τ t) := by
    refine ⟨by rw [e0, e1 1 0 (by decide) (by decide)]; exact hq, fun x x0 x1 => ?_, fun x i x0 x1 i0 i1 => ?_, by rw [e0]; exact h.2.2.2.1, by rw [e1 1 0 (by decide) (by decide)]; exact hD⟩
    · rw [e4, e1 3 _ (by decide) (by decide)]
      have := h.2.1 x x0 x1
      split
      · rename_i c
        subst c
        omega
      · exact this
    · rw [e1 3 _ (by decide) (by decide)] at i1
      rw [e1 10 _ (by decide) (by decide), e1 1 _ (by decide) (by decide)]
      exact h.2.2.1 x i x0 x1 i0 i1
  have hd : 0 ≤ τ.1 10 (20 * t + (τ.1 4 t + 1) - 1) ∧ τ.1 10 (20 * t + (τ.1 4 t + 1) - 1) < τ.1 1 0 := by
    have c := h.2.2.1 t (τ.1 4 t) t0 (by have := h.2.2.2.1; omega) (by have := h.2.1 t t0 (by have := h.2.2.2.1; omega); omega) h4
    have e' : 20 * t + (τ.1 4 t + 1) - 1 = 20 * t + τ.1 4 t := by omega
    rw [e']
    exact c
  have hr : ZQ (b_bg τ t).1 (τ.1 0 0) (τ.1 1 0) (b_begins τ t) := by
    unfold b_begins
    split
    · exact hq.ends _ _ hk
    · exact ZQ.letsGo hD hd _ (hq.kind hD hd hk)
  have := hz.of (τ' := b_begins τ t) (by rw [e0, e1 1 0 (by decide) (by decide)]; exact hr)
  rw [e0, e1 1 0 (by decide) (by decide)] at this
  exact this
def ZF (f : bS → Int → bS) : Prop := ∀ τ u, ZI τ → 0 ≤ u → u < τ.1 0 0 → ZI (f τ u) ∧ (f τ u).1 0 0 = τ.1 0 0 ∧ (f τ u).1 1 0 = τ.1 1 0
theorem ZI.it {f : bS → Int → bS} (hf : ZF f) : ∀ (k : Nat) (j : Int) (τ : bS), ZI τ → 0 ≤ j → j + k ≤ τ.1 0 0 → ZI (b_it f k j τ) ∧ (b_it f k j τ).1 0 0 = τ.1 0 0 ∧ (b_it f k j τ).1 1 0 = τ.1 1 0 := by
  intro k
  induction k with
  | zero => intro j τ h _ _; exact ⟨h, rfl, rfl⟩
  | succ k ih =>
    intro j τ h h0 h1
    obtain ⟨a, b, c⟩ := hf τ j h h0 (by omega)
    obtain ⟨a', b', c'⟩ := ih (j + 1) (f τ j) a (by omega) (by omega)
    exact ⟨a', by rw [← b]; exact b', by rw [← c]; exact c'⟩
theorem ZI.it2 : ∀ (k : Nat) (j : Int) (τ : bS), ZI τ → ZI (b_it b_g2 k j τ) ∧ (b_it b_g2 k j τ).1 0 0 = τ.1 0 0 ∧ (b_it b_g2 k j τ).1 1 0 = τ.1 1 0 := by
  intro k
  induction k with
  | zero => intro j τ h; exact ⟨h, rfl, rfl⟩
  | succ k ih =>
    intro j τ h
    have : ZI (b_g2 τ j) ∧ (b_g2 τ j).1 0 0 = τ.1 0 0 ∧ (b_g2 τ j).1 1 0 = τ.1 1 0 := by
      unfold b_g2
      split
      · exact h.of ((h.1.up _ _ rfl).allEnd h.2.2.2.2 _ _)
      · exact ⟨h, rfl, rfl⟩
    obtain ⟨a, b, c⟩ := this
    obtain ⟨a', b', c'⟩ := ih (j + 1) (b_g2 τ j) a
    exact ⟨a', by rw [← b]; exact b', by rw [← c]; exact c'⟩
theorem zf1 : ZF b_g1 := fun τ t h t0 t1 => by
  unfold b_g1
  split
  · split
    · exact h.of (h.1.up67 _ (Or.inl rfl) t1)
    · exact h.of (h.1.gives h.2.2.2.2 _ (h.tk t0 t1 (by omega)) (by omega))
  · exact ⟨h, rfl, rfl⟩
theorem zf3 : ZF b_g3 := fun τ t h t0 t1 => by
  unfold b_g3
  split
  · exact ⟨h, rfl, rfl⟩
  split
  · exact h.of (h.1.gives h.2.2.2.2 _ (h.tk t0 t1 (by omega)) (by omega))
  · exact ⟨h, rfl, rfl⟩
theorem zf4 : ZF b_g4 := fun τ t h t0 t1 => by
  unfold b_g4
  split
  · rename_i h5
    split
    · rename_i h4
      split
      · exact ⟨h, rfl, rfl⟩
      · exact h.begin t0 t1 h5 h4
    · exact ⟨h, rfl, rfl⟩
  · exact ⟨h, rfl, rfl⟩
theorem ZI.up {τ : bS} (h : ZI τ) {c : Nat} (j v : Int) (hk : zz_c c = false) : ZI (b_up τ c j v) := (h.of (h.1.up j v hk)).1
theorem ZI.beat {τ : bS} (h : ZI τ) (h0 : 0 ≤ τ.1 0 0) : ZI (b_beat τ) ∧ (b_beat τ).1 0 0 = τ.1 0 0 := by
  have a0 := h.of (h.1.up (c := 2) 0 (τ.1 2 0 + 1) rfl)
  have a1 := ZI.it zf1 (τ.1 0 0).toNat 0 _ a0.1 (by omega) (by rw [a0.2.1]; omega)
  have a2 := ZI.it2 (τ.1 1 0).toNat 0 _ a1.1
  have a3 := ZI.it zf3 (τ.1 0 0).toNat 0 _ a2.1 (by omega) (by rw [a2.2.1, a1.2.1, a0.2.1]; omega)
  have a4 := ZI.it zf4 (τ.1 0 0).toNat 0 _ a3.1 (by omega) (by rw [a3.2.1, a2.2.1, a1.2.1, a0.2.1]; omega)
  exact ⟨a4.1, by
    have : (b_beat τ).1 0 0 = _ := a4.2.1
    rw [this, a3.2.1, a2.2.1, a1.2.1, a0.2.1]⟩
theorem ZI.run {u : Int} : ∀ (k : Nat) (τ : bS), ZI τ → 0 ≤ τ.1 0 0 → ZI (b_run u k τ) := by
  intro k
  induction k with
  | zero => intro τ h _; exact h
  | succ k ih =>
    intro τ h h0
    unfold b_run
    split
    · split
      · obtain ⟨a, b⟩ := h.beat h0
        exact ih _ a (by omega)
      · exact h
    · exact h
theorem ZI.interrupt {τ : bS} (h : ZI τ) (t b : Int) : ZI (b_interrupt τ t b) := by
  unfold b_interrupt
  exact (((h.up _ _ rfl).up _ _ rfl).up _ _ rfl).up _ _ rfl
theorem ZI.close {τ : bS} (h : ZI τ) (d b : Int) : ZI (b_close τ d b) := by
  unfold b_close
  exact (h.up _ _ rfl).up _ _ rfl
