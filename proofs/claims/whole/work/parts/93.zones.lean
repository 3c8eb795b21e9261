/-! what is not yet there stays zero -/
def zk (ρ : aS) (T D t : Int) : Prop := 0 ≤ t ∧ t < T ∧ t < 16 ∧ 1 ≤ ρ 4 t ∧ ρ 4 t ≤ ρ 3 t ∧ ρ 3 t ≤ 20 ∧ 0 ≤ ρ 10 (20 * t + ρ 4 t - 1) ∧ ρ 10 (20 * t + ρ 4 t - 1) < D
def zs_c (c : Nat) : Bool := c == 0 || c == 1 || c == 3 || c == 4 || c == 10 || c == 18 || c == 19
def zz_c (c : Nat) : Bool := c == 0 || c == 1 || c == 3 || c == 4 || c == 10 || c == 18 || c == 19 || c == 5 || c == 6 || c == 7 || c == 16 || c == 17 || c == 24 || c == 25 || c == 27 || c == 28 || c == 29 || c == 30 || c == 31 || c == 32 || c == 33 || c == 34
def ZN (ρ : aS) (T D : Int) (σ : aS) : Prop := (∀ i, T ≤ i → σ 6 i = 0 ∧ σ 7 i = 0) ∧ (∀ t i, 0 ≤ t → ρ 3 t ≤ i → 0 ≤ i → i < 20 → σ 16 (20 * t + i) = 0 ∧ σ 17 (20 * t + i) = 0) ∧ (∀ i, D ≤ i → σ 25 i = 0 ∧ σ 27 i = 0 ∧ σ 34 i = 0) ∧ (∀ i, 16 * D ≤ i → σ 29 i = 0 ∧ σ 30 i = 0 ∧ σ 31 i = 0) ∧ (∀ i, 8 * D ≤ i → σ 32 i = 0) ∧ ∀ i, 300 * D ≤ i → σ 33 i = 0
def ZQ (ρ : aS) (T D : Int) (τ : bS) : Prop := (∀ (c : Nat) (i : Int), zs_c c = true → τ.1 c i = ρ c i) ∧ (∀ e x, x ∈ τ.2 e → zk ρ T D x) ∧ (∀ e, 0 ≤ e → e < D → 0 ≤ τ.1 28 e → zk ρ T D (τ.1 28 e)) ∧ (∀ e, τ.1 34 e ≤ 300) ∧ ((∀ x, zk ρ T D x → τ.1 5 x < D) ∧ ∀ x, 0 ≤ x → x < T → 0 ≤ τ.1 5 x → 1 ≤ ρ 4 x) ∧ (∀ e, ρ 18 e = 6 → τ.1 24 e ≤ 8 ∧ ρ 19 e ≤ 8) ∧ ZN ρ T D τ.1
theorem ZQ.upg {ρ : aS} {T D : Int} {τ : bS} (h : ZQ ρ T D τ) (c : Nat) (j v : Int) (hs : zs_c c = false) (h28 : c = 28 → 0 ≤ v → zk ρ T D v) (h34 : c = 34 → v ≤ 300 ∧ j < D) (h5 : c = 5 → v < D ∧ (0 ≤ v → 1 ≤ ρ 4 j)) (h24 : c = 24 → ρ 18 j = 6 → v ≤ 8) (h6 : c = 6 ∨ c = 7 → j < T) (h16 : c = 16 ∨ c = 17 → ∀ t i, 0 ≤ t → ρ 3 t ≤ i → 0 ≤ i → i < 20 → 20 * t + i ≠ j) (h25 : c = 25 ∨ c = 27 → j < D) (h29 : c = 29 ∨ c = 30 ∨ c = 31 → j < 16 * D) (h32 : c = 32 → j < 8 * D) (h33 : c = 33 → j < 300 * D) : ZQ ρ T D (b_up τ c j v) := by
  obtain ⟨z1, z2, z3, z4, ⟨z5, z5'⟩, z6, n1, n2, n3, n4, n5, n6⟩ := h
  have e : ∀ (c' : Nat) (i : Int), (b_up τ c j v).1 c' i = if c' = c ∧ i = j then v else τ.1 c' i := fun _ _ => rfl
  have k : ∀ (c' : Nat) (i : Int), (c' = c → i = j → τ.1 c' i = 0 → v = 0) → τ.1 c' i = 0 → (b_up τ c j v).1 c' i = 0 := fun c' i h1 h2 => by
    rw [e]
    split
    · rename_i z
      exact h1 z.1 z.2 h2
    · exact h2
  refine ⟨fun c' i hc => ?_, z2, fun d d0 d1 => ?_, fun d => ?_, ⟨fun x hx => ?_, fun x x0 x1 => ?_⟩, fun d hd => ?_, fun i hi => ?_, fun t i t0 i0 i1 i2 => ?_, fun i hi => ?_, fun i hi => ?_, fun i hi => ?_, fun i hi => ?_⟩
  · rw [e, if_neg (fun z => by rw [z.1, hs] at hc; cases hc)]
    exact z1 c' i hc
  · rw [e]
    split
    · rename_i z
      exact fun hv => h28 z.1.symm hv
    · exact z3 d d0 d1
  · rw [e]
    split
    · rename_i z
      exact (h34 z.1.symm).1
    · exact z4 d
  · rw [e]
    split
    · rename_i z
      exact (h5 z.1.symm).1
    · exact z5 x hx
  · rw [e]
    split
    · rename_i z
      rw [z.2]
      exact (h5 z.1.symm).2
    · exact z5' x x0 x1
  · refine ⟨?_, (z6 d hd).2⟩
    rw [e]
    split
    · rename_i z
      exact h24 z.1.symm (by rw [← z.2]; exact hd)
    · exact (z6 d hd).1
  · exact ⟨k 6 i (fun a b _ => absurd (h6 (Or.inl a.symm)) (by omega)) (n1 i hi).1, k 7 i (fun a b _ => absurd (h6 (Or.inr a.symm)) (by omega)) (n1 i hi).2⟩
  · exact ⟨k 16 _ (fun a b _ => absurd b (h16 (Or.inl a.symm) t i t0 i0 i1 i2)) (n2 t i t0 i0 i1 i2).1, k 17 _ (fun a b _ => absurd b (h16 (Or.inr a.symm) t i t0 i0 i1 i2)) (n2 t i t0 i0 i1 i2).2⟩
  · exact ⟨k 25 i (fun a b _ => absurd (h25 (Or.inl a.symm)) (by omega)) (n3 i hi).1, k 27 i (fun a b _ => absurd (h25 (Or.inr a.symm)) (by omega)) (n3 i hi).2.1, k 34 i (fun a b _ => absurd (h34 a.symm).2 (by omega)) (n3 i hi).2.2⟩
  · exact ⟨k 29 i (fun a b _ => absurd (h29 (Or.inl a.symm)) (by omega)) (n4 i hi).1, k 30 i (fun a b _ => absurd (h29 (Or.inr (Or.inl a.symm))) (by omega)) (n4 i hi).2.1, k 31 i (fun a b _ => absurd (h29 (Or.inr (Or.inr a.symm))) (by omega)) (n4 i hi).2.2⟩
  · exact k 32 i (fun a b _ => absurd (h32 a.symm) (by omega)) (n5 i hi)
  · exact k 33 i (fun a b _ => absurd (h33 a.symm) (by omega)) (n6 i hi)
section ZQs
variable {ρ : aS} {T D : Int} {τ : bS}
theorem ZQ.up (h : ZQ ρ T D τ) {c : Nat} (j v : Int) (hk : zz_c c = false) : ZQ ρ T D (b_up τ c j v) := by
  have q : ∀ c', zz_c c' = true → c ≠ c' := fun c' h1 e => by subst e; rw [h1] at hk; cases hk
  have hs : zs_c c = false := by
    cases hz : zs_c c with
    | false => rfl
    | true =>
      have : zz_c c = true := by
        simp only [zs_c, zz_c, Bool.or_eq_true, beq_iff_eq] at hz ⊢
        omega
      rw [this] at hk
      cases hk
  exact h.upg c j v hs (fun e => absurd e (q 28 rfl)) (fun e => absurd e (q 34 rfl)) (fun e => absurd e (q 5 rfl)) (fun e => absurd e (q 24 rfl)) (fun e => by rcases e with e | e; exact absurd e (q 6 rfl); exact absurd e (q 7 rfl)) (fun e => by rcases e with e | e; exact absurd e (q 16 rfl); exact absurd e (q 17 rfl)) (fun e => by rcases e with e | e; exact absurd e (q 25 rfl); exact absurd e (q 27 rfl)) (fun e => by rcases e with e | e | e; exact absurd e (q 29 rfl); exact absurd e (q 30 rfl); exact absurd e (q 31 rfl)) (fun e => absurd e (q 32 rfl)) (fun e => absurd e (q 33 rfl))
theorem ZQ.up25 (h : ZQ ρ T D τ) {c : Nat} {d : Int} (v : Int) (hc : c = 25 ∨ c = 27) (hd : 0 ≤ d ∧ d < D) : ZQ ρ T D (b_up τ c d v) := by
  refine h.upg c d v ?_ ?_ ?_ ?_ ?_ ?_ ?_ (fun _ => hd.2) ?_ ?_ ?_
  · rcases hc with hc | hc <;> (subst hc; rfl)
  all_goals (intro e; omega)
theorem ZQ.up24 (h : ZQ ρ T D τ) {d : Int} (v : Int) (h6 : ρ 18 d = 6 → v ≤ 8) : ZQ ρ T D (b_up τ 24 d v) := by
  refine h.upg 24 d v rfl ?_ ?_ ?_ (fun _ => h6) ?_ ?_ ?_ ?_ ?_ ?_
  all_goals (intro e; omega)
theorem ZQ.up29 (h : ZQ ρ T D τ) {c : Nat} {d t : Int} (v : Int) (hc : c = 29 ∨ c = 30 ∨ c = 31) (hd : 0 ≤ d ∧ d < D) (ht : zk ρ T D t) : ZQ ρ T D (b_up τ c (16 * d + t) v) := by
  have ht := ht.2.2.1
  refine h.upg c _ v ?_ ?_ ?_ ?_ ?_ ?_ ?_ ?_ (fun _ => by omega) ?_ ?_
  · rcases hc with hc | hc | hc <;> (subst hc; rfl)
  all_goals (intro e; omega)
theorem ZQ.up28 (h : ZQ ρ T D τ) {t : Int} (d : Int) (ht : 0 ≤ t → zk ρ T D t) : ZQ ρ T D (b_up τ 28 d t) := by
  refine h.upg 28 d t rfl (fun _ => ht) ?_ ?_ ?_ ?_ ?_ ?_ ?_ ?_ ?_
  all_goals (intro e; omega)
theorem ZQ.up5 (h : ZQ ρ T D τ) {v : Int} (t : Int) (hv : v < D) (h4 : 0 ≤ v → 1 ≤ ρ 4 t) : ZQ ρ T D (b_up τ 5 t v) := by
  refine h.upg 5 t v rfl ?_ ?_ (fun _ => ⟨hv, h4⟩) ?_ ?_ ?_ ?_ ?_ ?_ ?_
  all_goals (intro e; omega)
theorem ZQ.up67 (h : ZQ ρ T D τ) {c : Nat} {t : Int} (v : Int) (hc : c = 6 ∨ c = 7) (ht : t < T) : ZQ ρ T D (b_up τ c t v) := by
  refine h.upg c t v ?_ ?_ ?_ ?_ ?_ (fun _ => ht) ?_ ?_ ?_ ?_ ?_
  · rcases hc with hc | hc <;> (subst hc; rfl)
  all_goals (intro e; omega)
theorem ZQ.up16 (h : ZQ ρ T D τ) {c : Nat} {t : Int} (v : Int) (hc : c = 16 ∨ c = 17) (ht : zk ρ T D t) : ZQ ρ T D (b_up τ c (20 * t + ρ 4 t - 1) v) := by
  obtain ⟨a1, a2, a3, a4, a5, a6, a7⟩ := ht
  refine h.upg c _ v ?_ ?_ ?_ ?_ ?_ ?_ (fun _ t' i t0 i0 i1 i2 e => ?_) ?_ ?_ ?_ ?_
  · rcases hc with hc | hc <;> (subst hc; rfl)
  all_goals first | (intro e; omega) | skip
  have : t' = t := by omega
  subst this
  omega
theorem ZQ.ln (h : ZQ ρ T D τ) (d : Int) {l : List Int} (hl : ∀ x ∈ l, zk ρ T D x) : ZQ ρ T D (b_ln τ d l) := by
  refine ⟨h.1, fun e x hx => ?_, h.2.2⟩
  by_cases c : e = d
  · have : (b_ln τ d l).2 e = l := if_pos c
    rw [this] at hx
    exact hl x hx
  · have : (b_ln τ d l).2 e = τ.2 e := if_neg c
    rw [this] at hx
    exact h.2.1 e x hx
theorem ZQ.bs (h : ZQ ρ T D τ) (t : Int) : 20 * t + τ.1 4 t - 1 = 20 * t + ρ 4 t - 1 := by rw [h.1 4 t rfl]
theorem ZQ.ends (h : ZQ ρ T D τ) {t : Int} (o v : Int) (ht : zk ρ T D t) : ZQ ρ T D (b_ends τ t o v) := by
  have e : b_ends τ t o v = b_up (b_up (b_up (b_up τ 14 (20 * t + τ.1 4 t - 1) o) 15 (20 * t + τ.1 4 t - 1) v) 17 (20 * t + τ.1 4 t - 1) (τ.1 2 0)) 7 t (τ.1 2 0) := rfl
  rw [e, h.bs t]
  exact (((h.up _ _ rfl).up _ _ rfl).up16 _ (Or.inr rfl) ht).up67 _ (Or.inr rfl) ht.2.1
theorem ZQ.passes (h : ZQ ρ T D τ) {t : Int} (v : Int) (ht : zk ρ T D t) : ZQ ρ T D (b_passes τ t v) := by
  have e : b_passes τ t v = if τ.1 34 (τ.1 10 (20 * t + τ.1 4 t - 1)) = 300 then b_ends τ t 0 v else b_up (b_up (b_ends τ t 0 v) 33 (300 * τ.1 10 (20 * t + τ.1 4 t - 1) + τ.1 34 (τ.1 10 (20 * t + τ.1 4 t - 1))) t) 34 (τ.1 10 (20 * t + τ.1 4 t - 1)) (τ.1 34 (τ.1 10 (20 * t + τ.1 4 t - 1)) + 1) := by
    show (q_passes τ.1 t v, τ.2) = _
    unfold q_passes
    split
    · rfl
    · rfl
  rw [e, h.bs t, h.1 10 _ rfl]
  have hd := ht.2.2.2.2.2.2.2
  obtain ⟨d, ed⟩ : ∃ d, d = ρ 10 (20 * t + ρ 4 t - 1) := ⟨_, rfl⟩
  rw [← ed] at hd ⊢
  have h34 := h.2.2.2.1 d
  split
  · exact h.ends _ _ ht
  · have h1 := (h.ends 0 v ht).upg 33 (300 * d + τ.1 34 d) t rfl (fun e => by omega) (fun e => by omega) (fun e => by omega) (fun e => by omega) (fun e => by omega) (fun e => by omega) (fun e => by omega) (fun e => by omega) (fun e => by omega) (fun _ => by omega)
    exact h1.upg 34 d (τ.1 34 d + 1) rfl (fun e => by omega) (fun _ => by omega) (fun e => by omega) (fun e => by omega) (fun e => by omega) (fun e => by omega) (fun e => by omega) (fun e => by omega) (fun e => by omega) (fun e => by omega)
theorem ZQ.leaves (h : ZQ ρ T D τ) (hD : 0 ≤ D) (t : Int) : ZQ ρ T D (b_leaves τ t) := by
  have h1 : ZQ ρ T D (b_up τ 5 t (-1)) := h.up5 t (by omega) (fun z => by omega)
  have h2 : ZQ ρ T D (b_up (b_up τ 5 t (-1)) 28 (τ.1 5 t) (-1)) := h1.up28 _ (fun z => by omega)
  have h3 : ∀ {τ' : bS}, ZQ ρ T D τ' → τ'.2 = τ.2 → ZQ ρ T D (τ'.1, fun d' => if d' = τ.1 5 t then (τ.2 d').erase t else τ.2 d') := fun {τ'} hq e2 => by
    refine ⟨hq.1, fun e x hx => ?_, hq.2.2⟩
    have hx : x ∈ (if e = τ.1 5 t then (τ.2 e).erase t else τ.2 e) := hx
    split at hx
    · exact h.2.1 e x (List.mem_of_mem_erase hx)
    · exact h.2.1 e x hx
  show ZQ ρ T D (q_left τ.1 t (τ.1 5 t), _)
  unfold q_left
  split
  · exact h3 h2 rfl
  · exact h3 h1 rfl
theorem ZQ.goes (h : ZQ ρ T D τ) (hD : 0 ≤ D) {t : Int} (v : Int) (ht : zk ρ T D t) : ZQ ρ T D (b_goes τ t v) := (h.leaves hD t).passes v ht
theorem ZQ.allEnd (h : ZQ ρ T D τ) (hD : 0 ≤ D) (d o : Int) : ZQ ρ T D (b_allEnd τ d o) := by
  have : ∀ (l : List Int) (τ : bS), ZQ ρ T D τ → (∀ x ∈ l, zk ρ T D x) → ZQ ρ T D (l.foldl (fun τ t => b_ends (b_leaves τ t) t o 0) τ) := by
    intro l
    induction l with
    | nil => intro τ h _; exact h
    | cons a l ih => intro τ h hl; exact ih _ ((h.leaves hD a).ends _ _ (hl a List.mem_cons_self)) (fun x hx => hl x (List.mem_cons_of_mem _ hx))
  exact this _ _ h (h.2.1 d)
theorem ZQ.goAll (h : ZQ ρ T D τ) (hD : 0 ≤ D) (f : bS → Int → Int) (d : Int) : ZQ ρ T D (b_goAll f τ d) := by
  have : ∀ (l : List Int) (τ : bS), ZQ ρ T D τ → (∀ x ∈ l, zk ρ T D x) → ZQ ρ T D (l.foldl (fun τ u => b_goes τ u (f τ u)) τ) := by
    intro l
    induction l with
    | nil => intro τ h _; exact h
    | cons a l ih => intro τ h hl; exact ih _ (h.goes hD _ (hl a List.mem_cons_self)) (fun x hx => hl x (List.mem_cons_of_mem _ hx))
  exact this _ _ h (h.2.1 d)
theorem ZQ.waits (h : ZQ ρ T D τ) (hD : 0 ≤ D) {t : Int} (ht : zk ρ T D t) : ZQ ρ T D (b_waits τ t) := by
  have hd := ht.2.2.2.2.2.2
  unfold b_waits
  rw [h.bs t, h.1 10 _ rfl]
  split
  · split
    · exact (((h.up67 _ (Or.inl rfl) ht.2.1).ends _ _ ht).up25 _ (Or.inl rfl) hd).allEnd hD _ _
    · exact (h.up67 _ (Or.inl rfl) ht.2.1).ends _ _ ht
  · refine ((h.up _ _ rfl).up5 _ hd.2 (fun _ => ht.2.2.2.1)).ln _ (fun x hx => ?_)
    rcases List.mem_append.mp hx with hx | hx
    · exact h.2.1 _ x hx
    · rw [List.mem_singleton.mp hx]
      exact ht
theorem ZQ.rise (h : ZQ ρ T D τ) {d : Int} (hd : 0 ≤ d ∧ d < D) : ZQ ρ T D (b_rise τ d) := by
  obtain ⟨z1, z2, z3, z4, z5, z6, n1, n2, n3, n4, n5, n6⟩ := h
  have e : ∀ (c : Nat) (i : Int), c ≠ 31 ∧ c ≠ 30 → (b_rise τ d).1 c i = τ.1 c i := fun c i hc => b_rise_c τ d c i hc
  have s31 : ∀ c, zs_c c = true → c ≠ 31 ∧ c ≠ 30 := fun c hc => ⟨fun e => (by subst e; cases hc), fun e => (by subst e; cases hc)⟩
  have k : ∀ (c : Nat) (i : Int), 16 * D ≤ i → (b_rise τ d).1 c i = τ.1 c i := fun c i hi => if_neg (by omega)
  refine ⟨fun c i hc => by rw [e c i (s31 c hc)]; exact z1 c i hc, z2, fun x x0 x1 => by rw [e 28 _ (by decide)]; exact z3 x x0 x1, fun x => by rw [e 34 _ (by decide)]; exact z4 x, ⟨fun x => by rw [e 5 _ (by decide)]; exact z5.1 x, fun x => by rw [e 5 _ (by decide)]; exact z5.2 x⟩, fun x => by rw [e 24 _ (by decide)]; exact z6 x, fun i => by rw [e 6 _ (by decide), e 7 _ (by decide)]; exact n1 i, fun t i => by rw [e 16 _ (by decide), e 17 _ (by decide)]; exact n2 t i, fun i => by rw [e 25 _ (by decide), e 27 _ (by decide), e 34 _ (by decide)]; exact n3 i, fun i hi => by rw [k 29 i hi, k 30 i hi, k 31 i hi]; exact n4 i hi, fun i => by rw [e 32 _ (by decide)]; exact n5 i, fun i => by rw [e 33 _ (by decide)]; exact n6 i⟩
theorem ZQ.lies (h : ZQ ρ T D τ) {d j : Int} (hd : 0 ≤ d ∧ d < D) (hj : j ≤ 8) : ZQ ρ T D (b_lies τ d j) := by
  obtain ⟨z1, z2, z3, z4, z5, z6, n1, n2, n3, n4, n5, n6⟩ := h
  have e : ∀ (c : Nat) (i : Int), c ≠ 32 → (b_lies τ d j).1 c i = τ.1 c i := fun c i hc => b_lies_c τ d j c i hc
  have s31 : ∀ c, zs_c c = true → c ≠ 32 := fun c hc e => by subst e; cases hc
  have k : ∀ (c : Nat) (i : Int), 8 * D ≤ i → (b_lies τ d j).1 c i = τ.1 c i := fun c i hi => if_neg (by omega)
  refine ⟨fun c i hc => by rw [e c i (s31 c hc)]; exact z1 c i hc, z2, fun x x0 x1 => by rw [e 28 _ (by decide)]; exact z3 x x0 x1, fun x => by rw [e 34 _ (by decide)]; exact z4 x, ⟨fun x => by rw [e 5 _ (by decide)]; exact z5.1 x, fun x => by rw [e 5 _ (by decide)]; exact z5.2 x⟩, fun x => by rw [e 24 _ (by decide)]; exact z6 x, fun i => by rw [e 6 _ (by decide), e 7 _ (by decide)]; exact n1 i, fun t i => by rw [e 16 _ (by decide), e 17 _ (by decide)]; exact n2 t i, fun i => by rw [e 25 _ (by decide), e 27 _ (by decide), e 34 _ (by decide)]; exact n3 i, fun i hi => by rw [e 29 _ (by decide), e 30 _ (by decide), e 31 _ (by decide)]; exact n4 i hi, fun i hi => by rw [k 32 _ hi]; exact n5 i hi, fun i => by rw [e 33 _ (by decide)]; exact n6 i⟩
theorem ZQ.puts (h : ZQ ρ T D τ) {d : Int} (a : Int) (hd : 0 ≤ d ∧ d < D) (hj : τ.1 24 d < 8) : ZQ ρ T D (b_puts τ d a) := by
  unfold b_puts
  refine ZQ.up24 ?_ _ (fun _ => by omega)
  exact h.upg 32 _ a rfl (fun e => by omega) (fun e => by omega) (fun e => by omega) (fun e => by omega) (fun e => by omega) (fun e => by omega) (fun e => by omega) (fun e => by omega) (fun _ => by omega) (fun e => by omega)
theorem ZQ.wk1 (h : ZQ ρ T D τ) (d : Int) {x : Int} (hx : zk ρ T D x) : ZQ ρ T D (b_wk1 τ d x) := by
  unfold b_wk1
  refine (h.ln d (fun z hz => ?_)).up _ _ rfl
  rcases List.mem_append.mp hz with hz | hz
  · exact h.2.1 _ z (List.mem_of_mem_erase hz)
  · rw [List.mem_singleton.mp hz]
    exact hx
theorem ZQ.wk (d a al : Int) : ∀ (l : List Int) (τ : bS) (m : Int), ZQ ρ T D τ → (∀ x ∈ l, zk ρ T D x) → ZQ ρ T D (b_wk d a al τ l m).1 := by
  intro l
  induction l with
  | nil => intro τ m h _; exact h
  | cons x l ih =>
    intro τ m h hl
    have hx := hl x List.mem_cons_self
    have hl' := fun z hz => hl z (List.mem_cons_of_mem x hz)
    unfold b_wk
    repeat' split
    all_goals first | exact ih _ _ h hl' | exact ih _ _ (h.wk1 d hx) hl'
theorem ZQ.rises (h : ZQ ρ T D τ) (hD : 0 ≤ D) {d t : Int} (h6 : ρ 18 d ≠ 6) (hd : 0 ≤ d ∧ d < D) (ht : zk ρ T D t) : ZQ ρ T D (b_rises τ d t) := by
  unfold b_rises
  split
  · exact (((h.up24 _ (fun z => absurd z h6)).rise hd).passes _ ht).goAll hD _ _
  · exact h.passes _ ht
theorem ZQ.one {d : Int} (h : ZQ ρ T D τ) (hD : 0 ≤ D) (hd : 0 ≤ d ∧ d < D) {τ1 : bS} (h1 : b_letsOne τ d = some τ1) : ZQ ρ T D τ1 := by
  have hm := h.2.1 d
  have e18 := h.1 18 d rfl
  unfold b_letsOne at h1
  split at h1
  · cases h1
  · rename_i f l el
    rw [el] at hm
    have hf := hm f List.mem_cons_self
    split at h1
    · rename_i c
      unfold b_perm at h1
      split at h1
      · cases h1
      · rename_i t et
        cases h1
        exact (h.up24 _ (fun z => by omega)).goes hD _ (hm t (List.mem_of_find?_eq_some et))
    split at h1
    · rename_i c
      unfold b_perm at h1
      split at h1
      · cases h1
      · rename_i t et
        cases h1
        have := List.mem_singleton.mp (List.mem_of_find?_eq_some et)
        exact (h.up24 _ (fun z => by omega)).goes hD _ (by rw [this]; exact hf)
    split at h1
    · split at h1
      · cases h1
      · cases h1
        exact h.goes hD _ hf
    split at h1
    · unfold b_letsLock at h1
      split at h1
      · rename_i c28
        have hu := h.2.2.1 d hd.1 hd.2 c28
        split at h1
        · cases h1
          exact ((h.up29 _ (Or.inl rfl) hd hu).up _ _ rfl).goes hD _ hu
        · cases h1
      split at h1
      · cases h1
      split at h1
      · cases h1
        exact (h.up _ _ rfl).goes hD _ hf
      · cases h1
        exact (h.up29 _ (Or.inl rfl) hd hf).goes hD _ hf
    split at h1
    · unfold b_tick at h1
      split at h1
      · cases h1
      · rename_i t et
        cases h1
        exact h.goes hD _ (hm t (List.mem_of_find?_eq_some et))
    split at h1
    · split at h1
      · cases h1
      · cases h1
        exact h.goes hD _ hf
    split at h1
    · split at h1
      · cases h1
      · cases h1
        exact h.goes hD _ hf
    split at h1
    · split at h1
      · cases h1
      split at h1
      · cases h1
      · rename_i c
        cases h1
        refine (h.up _ _ rfl).goes hD _ ?_
        unfold b_first at c ⊢
        cases e : List.find? (fun t => decide (τ.1 9 t = 1)) (τ.2 d) with
        | none =>
          rw [e] at c
          exact absurd (by decide : (none : Option Int).getD (-1) < 0) c
        | some u =>
          have := List.mem_of_find?_eq_some e
          rw [el] at this
          exact hm u this
    · cases h1
theorem ZQ.letsGo {d : Int} (hD : 0 ≤ D) (hd : 0 ≤ d ∧ d < D) : ∀ (k : Nat) {τ : bS}, ZQ ρ T D τ → ZQ ρ T D (b_letsGo τ d k) := by
  intro k
  induction k with
  | zero => intro τ h; exact h
  | succ k ih =>
    intro τ h
    unfold b_letsGo
    split
    · exact h
    · rename_i τ2 e
      exact ih (h.one hD hd e)
theorem ZQ.gives (h : ZQ ρ T D τ) (hD : 0 ≤ D) {t : Int} (o : Int) (ht : zk ρ T D t) (h5 : 0 ≤ τ.1 5 t) : ZQ ρ T D (b_gives τ t o) := by
  have hd : 0 ≤ τ.1 5 t ∧ τ.1 5 t < D := ⟨h5, h.2.2.2.2.1.1 t ht⟩
  unfold b_gives
  refine ZQ.letsGo hD hd _ ?_
  split
  · exact (((h.leaves hD _).ends _ _ ht).up25 _ (Or.inl rfl) hd).allEnd hD _ _
  · exact (h.leaves hD _).ends _ _ ht
theorem ZQ.handy (h : ZQ ρ T D τ) (hD : 0 ≤ D) {d t act a : Int} (hk : ρ 18 d = 6) (hd : 0 ≤ d ∧ d < D) (ht : zk ρ T D t) : ZQ ρ T D (b_hand τ d t act a) := by
  have h24 := h.2.2.2.2.2.1 d hk
  have e19 := h.1 19 d rfl
  have hm := h.2.1 d
  unfold b_hand
  split
  · exact h.ends _ _ ht
  split
  · split
    · split
      · exact (h.puts _ hd (by omega)).passes _ ht
      · exact h.waits hD ht
    · rename_i f l el
      have hf := hm f (by rw [el]; exact List.mem_cons_self)
      split
      · exact (h.passes _ ht).goes hD _ hf
      split
      · exact (h.puts _ hd (by omega)).passes _ ht
      · exact h.waits hD ht
  split
  · have h1 := ((h.up24 (d := d) (τ.1 24 d - 1) (fun _ => by omega)).lies hd (j := τ.1 24 d - 1) (by omega)).passes (t := t) (τ.1 32 (8 * d)) ht
    split
    · exact h1
    · rename_i f l el
      have hf := hm f (by rw [el]; exact List.mem_cons_self)
      refine (h1.puts _ hd ?_).goes hD _ hf
      rw [b_passes_c _ _ _ _ _ (by decide), b_lies_c _ _ _ _ _ (by decide)]
      have : (b_up τ 24 d (τ.1 24 d - 1)).1 24 d = τ.1 24 d - 1 := pu_up_at τ.1 24 d _
      omega
  · split
    · exact h.waits hD ht
    · rename_i f l el
      have hf := hm f (by rw [el]; exact List.mem_cons_self)
      split
      · exact (h.passes _ ht).goes hD _ hf
      · exact h.waits hD ht
theorem ZQ.kind (h : ZQ ρ T D τ) (hD : 0 ≤ D) {d t act a : Int} (hd : 0 ≤ d ∧ d < D) (ht : zk ρ T D t) : ZQ ρ T D (b_kind τ d t act a) := by
  have e18 := h.1 18 d rfl
  have hm := h.2.1 d
  have k25 : 25 = 25 ∨ 25 = 27 := Or.inl rfl
  have k27 : 27 = 25 ∨ 27 = 27 := Or.inr rfl
  have k29 : 29 = 29 ∨ 29 = 30 ∨ 29 = 31 := Or.inl rfl
  have k30 : 30 = 29 ∨ 30 = 30 ∨ 30 = 31 := Or.inr (Or.inl rfl)
  have k31 : 31 = 29 ∨ 31 = 30 ∨ 31 = 31 := Or.inr (Or.inr rfl)
  by_cases c6 : ρ 18 d = 6
  · unfold b_kind
    rw [e18, c6]
    exact h.handy hD c6 hd ht
  have c6' : ∀ v : Int, ρ 18 d = 6 → v ≤ 8 := fun v z => absurd z c6
  have hw : ∀ {τ' : bS}, ZQ ρ T D τ' → ZQ ρ T D (b_waits τ' t) := fun hq => hq.waits hD ht
  unfold b_kind
  split
  · unfold b_permits
    ((repeat' split) <;> (repeat' (first | assumption | exact c6' _ | apply ZQ.ends | apply ZQ.passes | apply hw | apply ZQ.up24)))
  split
  · unfold b_permits
    ((repeat' split) <;> (repeat' (first | assumption | exact c6' _ | apply ZQ.ends | apply ZQ.passes | apply hw | apply ZQ.up24)))
  split
  · unfold b_gate
    ((repeat' split) <;> (repeat' (first | assumption | exact c6' _ | apply ZQ.ends | apply ZQ.passes | apply hw | apply ZQ.up24)))
  split
  · unfold b_barrier
    ((repeat' split) <;> (repeat' (first | assumption | apply ZQ.ends | apply ZQ.passes | apply hw | apply ZQ.allEnd | apply ZQ.goAll | (refine ZQ.up25 ?_ _ k25 hd) | (refine ZQ.up ?_ _ _ rfl))))
  split
  · unfold b_exchange
    split
    · split
      · exact h.waits hD ht
      · rename_i u l el
        exact (h.passes _ ht).goes hD _ (hm u (by rw [el]; exact List.mem_cons_self))
    · exact h.ends _ _ ht
  split
  · unfold b_lockop
    ((repeat' split) <;> (repeat' (first | assumption | (intro _; exact ht) | apply ZQ.ends | apply ZQ.passes | apply hw | (refine ZQ.up29 ?_ _ k29 hd ht) | apply ZQ.up28 | (refine ZQ.up ?_ _ _ rfl))))
  split
  · rename_i c
    exact absurd (by omega) c6
  split
  · unfold b_tickets
    ((repeat' split) <;> (repeat' (first | assumption | exact c6' _ | apply ZQ.ends | apply ZQ.passes | apply hw | apply ZQ.up24 | (refine ZQ.up25 ?_ _ k27 hd))))
  split
  · unfold b_cell
    ((repeat' split) <;> (repeat' (first | assumption | apply ZQ.ends | apply ZQ.passes | apply hw | (refine ZQ.up25 ?_ _ k27 hd) | (refine ZQ.up25 ?_ _ k25 hd))))
  split
  · have hr : ∀ {τ' : bS}, ZQ ρ T D τ' → ZQ ρ T D (b_rises τ' d t) := fun hq => hq.rises hD c6 hd ht
    unfold b_phaser
    ((repeat' split) <;> (repeat' (first | assumption | apply ZQ.ends | apply ZQ.passes | apply hw | apply hr | (refine ZQ.up29 ?_ _ k30 hd ht) | (refine ZQ.up29 ?_ _ k31 hd ht))))
  split
  · unfold b_pause
    ((repeat' split) <;> (repeat' (first | assumption | apply ZQ.ends | apply ZQ.passes | apply hw | (refine ZQ.up25 ?_ _ k25 hd))))
  · have hwk : ∀ al, ZQ ρ T D (b_wk d a al τ (τ.2 d) 0).1 := fun al => ZQ.wk d a al _ _ _ h hm
    unfold b_monitor
    ((repeat' split) <;> (repeat' (first | assumption | exact hwk _ | apply ZQ.ends | apply ZQ.passes | apply hw | (refine ZQ.up ?_ _ _ rfl))))
end ZQs
