/-! the kit's state κ beside the reference's τ. P: those that are let go and not yet swept, in that order; d: their device; Λ: the kit's lines -/
def mr_c (c : Nat) : Bool := c == 0 || c == 1 || c == 2 || c == 3 || c == 4 || c == 6 || c == 10 || c == 11 || c == 12 || c == 13 || c == 14 || c == 16 || c == 18 || c == 19 || c == 20 || c == 21 || c == 24 || c == 25 || c == 26 || c == 27 || c == 29 || c == 30 || c == 31 || c == 32 || c == 37 || c == 38
theorem mr_ne {c : Nat} (h : mr_c c = true) : c ≠ 5 ∧ c ≠ 7 ∧ c ≠ 15 ∧ c ≠ 17 ∧ c ≠ 28 ∧ c ≠ 33 ∧ c ≠ 34 ∧ c ≠ 22 ∧ c ≠ 23 := by
  refine ⟨?_, ?_, ?_, ?_, ?_, ?_, ?_, ?_, ?_⟩ <;> (intro e; subst e; exact absurd h (by decide))
def c_log (d : Int) (κ : aS) (x : Int) : aS := if κ 34 d < 300 then pu_up (pu_up κ 33 (300 * d + κ 34 d) x) 34 d (κ 34 d + 1) else κ
theorem c_log_congr {d x : Int} {κ ρ : aS} (h : ∀ (c : Nat) (i : Int), (c = 33 ∨ c = 34) → κ c i = ρ c i) : ∀ (c : Nat) (i : Int), (c = 33 ∨ c = 34) → c_log d κ x c i = c_log d ρ x c i := by
  intro c i hc
  have h34 := h 34 d (Or.inr rfl)
  unfold c_log
  rw [h34]
  split
  · unfold pu_up
    rw [h c i hc]
  · exact h c i hc
theorem c_logs_congr {d : Int} : ∀ (l : List Int) {κ ρ : aS}, (∀ (c : Nat) (i : Int), (c = 33 ∨ c = 34) → κ c i = ρ c i) → ∀ (c : Nat) (i : Int), (c = 33 ∨ c = 34) → l.foldl (c_log d) κ c i = l.foldl (c_log d) ρ c i := by
  intro l
  induction l with
  | nil => intro κ ρ h; exact h
  | cons a l ih => intro κ ρ h; exact ih (c_log_congr h)
def ps (τ : bS) (x : Int) : Bool := decide (τ.1 14 (b_s τ x) = 0)
def wt (τ : bS) (x : Int) : Bool := decide (τ.1 14 (b_s τ x) = 1)
def OKt (τ : bS) (x : Int) : Prop := 0 ≤ x ∧ x < 16 ∧ 1 ≤ τ.1 4 x ∧ τ.1 4 x ≤ 20
theorem bs_inj {τ : bS} {x z : Int} (hx : OKt τ x) (hz : OKt τ z) (h : b_s τ x = b_s τ z) : x = z := by
  unfold OKt at hx hz
  unfold b_s at h
  omega
theorem bs_div {τ : bS} {x : Int} (hx : OKt τ x) : b_s τ x / 20 = x := by
  unfold OKt at hx
  unfold b_s
  omega
def SP (κ : aS) (τ : bS) (d : Int) : Prop := (τ.1 18 d = 5 → κ 43 d = b_lookers τ d) ∧ ∀ x ∈ τ.2 d, (τ.1 18 d = 11 → κ 42 (16 * d + x) = if τ.1 9 x = 1 then -1 else b_num τ x) ∧ (τ.1 18 d = 3 → κ 15 (b_s τ x) = τ.1 8 x)
/-- steps that are not begun; UL: and are learnt -/
def UB (τ : bS) (s : Int) : Prop := ∃ t i, 0 ≤ t ∧ t < 16 ∧ τ.1 4 t ≤ i ∧ i < 20 ∧ s = 20 * t + i
def UL (τ : bS) (s : Int) : Prop := ∃ t i, 0 ≤ t ∧ t < 16 ∧ τ.1 4 t ≤ i ∧ i < 20 ∧ i < τ.1 3 t ∧ s = 20 * t + i
theorem UL.ub {τ : bS} {s : Int} (h : UL τ s) : UB τ s := by
  obtain ⟨t, i, h1, h2, h3, h4, h5, h6⟩ := h
  exact ⟨t, i, h1, h2, h3, h4, h6⟩
theorem UB.ne {τ : bS} {s x : Int} (h : UB τ s) (hp : ∀ t, 0 ≤ t → t < 16 → 0 ≤ τ.1 4 t) (hx : OKt τ x) : s ≠ b_s τ x := by
  obtain ⟨t, i, h1, h2, h3, h4, h6⟩ := h
  have h0 := hp t h1 h2
  unfold OKt at hx
  unfold b_s
  intro e
  by_cases ht : t = x
  · subst ht
    omega
  · omega
def UZ (κ : aS) (τ : bS) (s : Int) : Prop := (∀ t, 0 ≤ t → t < 16 → 0 ≤ τ.1 4 t) → (UB τ s → κ 15 s = 0) ∧ (UL τ s → τ.1 14 s = 8)
theorem UZ.tr {κ κ' : aS} {τ τ' : bS} (s : Int) (h4 : ∀ i, τ'.1 4 i = τ.1 4 i) (h3 : ∀ i, τ'.1 3 i = τ.1 3 i) (h : UZ κ τ s) (h15 : (∀ t, 0 ≤ t → t < 16 → 0 ≤ τ.1 4 t) → UB τ s → κ' 15 s = κ 15 s) (h14 : (∀ t, 0 ≤ t → t < 16 → 0 ≤ τ.1 4 t) → UB τ s → τ'.1 14 s = τ.1 14 s) : UZ κ' τ' s := by
  intro hp'
  have hp : ∀ t, 0 ≤ t → t < 16 → 0 ≤ τ.1 4 t := fun t t0 t1 => by rw [← h4]; exact hp' t t0 t1
  obtain ⟨g1, g2⟩ := h hp
  have eB : UB τ' s → UB τ s := by
    rintro ⟨t, i, q1, q2, q3, q4, q6⟩
    rw [h4] at q3
    exact ⟨t, i, q1, q2, q3, q4, q6⟩
  have eL : UL τ' s → UL τ s := by
    rintro ⟨t, i, q1, q2, q3, q4, q5, q6⟩
    rw [h4] at q3
    rw [h3] at q5
    exact ⟨t, i, q1, q2, q3, q4, q5, q6⟩
  refine ⟨fun u => ?_, fun u => ?_⟩
  · rw [h15 hp (eB u)]
    exact g1 (eB u)
  · rw [h14 hp (eL u).ub]
    exact g2 (eL u)
def MB (κ : aS) (τ : bS) (d : Int) (P : List Int) : Prop :=
  (∀ (c : Nat) (i : Int), mr_c c = true → κ c i = τ.1 c i) ∧
  (∀ x, τ.1 5 x = if x ∈ P then -1 else κ 5 x) ∧
  (∀ x, τ.1 7 x = if x ∈ P then τ.1 2 0 else κ 7 x) ∧
  (∀ x ∈ P, τ.1 17 (b_s τ x) = τ.1 2 0) ∧
  (∀ s, (∀ x ∈ P, s ≠ b_s τ x) → τ.1 17 s = κ 17 s) ∧
  (∀ (c : Nat) (i : Int), (c = 33 ∨ c = 34) → τ.1 c i = ((P.filter (ps τ)).foldl (c_log d) κ) c i) ∧
  (∀ s, (τ.1 15 s = if τ.1 14 s = 0 then κ 15 s else 0) ∧ UZ κ τ s) ∧
  (∀ e, 0 ≤ e → e < 12 → SP κ τ e) ∧ P.Nodup ∧ ∀ x ∈ P, OKt τ x
def ML (κ : aS) (τ : bS) (Λ : Int → List Int) : Prop := ∀ e, 0 ≤ e → e < 12 → κ 23 e = ((Λ e).length : Nat) ∧ (∀ (j : Nat) (x : Int), (Λ e)[j]? = some x → κ 22 (16 * e + j) = b_s τ x) ∧ τ.2 e = (Λ e).filter (wt τ) ∧ (Λ e).Nodup ∧ ∀ x ∈ Λ e, OKt τ x
/-- x goes, with outcome o -/
def b_out (τ : bS) (x o v : Int) : bS := if o = 0 then b_goes τ x v else b_ends (b_leaves τ x) x o 0
theorem q_passes_e (σ : aS) (t v : Int) (c : Nat) (i : Int) (h : c ≠ 33 ∧ c ≠ 34) : q_passes σ t v c i = q_ends σ t 0 v c i := by
  unfold q_passes
  split
  · rfl
  · rw [pu_up_ne _ _ _ _ h.2, pu_up_ne _ _ _ _ h.1]
theorem q_ends_14 (σ : aS) (t o v i : Int) : q_ends σ t o v 14 i = if i = 20 * t + σ 4 t - 1 then o else σ 14 i := by
  unfold q_ends
  rw [pu_up_ne _ _ _ _ (by decide), pu_up_ne _ _ _ _ (by decide), pu_up_ne _ _ _ _ (by decide), pu_up_c]
theorem q_ends_15 (σ : aS) (t o v i : Int) : q_ends σ t o v 15 i = if i = 20 * t + σ 4 t - 1 then v else σ 15 i := by
  unfold q_ends
  rw [pu_up_ne _ _ _ _ (by decide), pu_up_ne _ _ _ _ (by decide), pu_up_c, pu_up_ne _ _ _ _ (by decide)]
theorem q_ends_17 (σ : aS) (t o v i : Int) : q_ends σ t o v 17 i = if i = 20 * t + σ 4 t - 1 then σ 2 0 else σ 17 i := by
  unfold q_ends
  rw [pu_up_ne _ _ _ _ (by decide), pu_up_c, pu_up_ne _ _ _ _ (by decide), pu_up_ne _ _ _ _ (by decide)]
theorem q_ends_7 (σ : aS) (t o v i : Int) : q_ends σ t o v 7 i = if i = t then σ 2 0 else σ 7 i := by
  unfold q_ends
  rw [pu_up_c, pu_up_ne _ _ _ _ (by decide), pu_up_ne _ _ _ _ (by decide), pu_up_ne _ _ _ _ (by decide)]
theorem b_out_e (τ : bS) (x o v : Int) (c : Nat) (i : Int) (h : c ≠ 33 ∧ c ≠ 34) : (b_out τ x o v).1 c i = q_ends (q_left τ.1 x (τ.1 5 x)) x o (if o = 0 then v else 0) c i := by
  unfold b_out
  by_cases ho : o = 0
  · subst ho
    rw [if_pos rfl, if_pos rfl]
    exact q_passes_e _ _ _ _ _ h
  · rw [if_neg ho, if_neg ho]
    rfl
theorem b_out_c (τ : bS) (x o v : Int) (c : Nat) (i : Int) (h : c ≠ 14 ∧ c ≠ 15 ∧ c ≠ 17 ∧ c ≠ 7 ∧ c ≠ 33 ∧ c ≠ 34 ∧ c ≠ 5 ∧ c ≠ 28) : (b_out τ x o v).1 c i = τ.1 c i := by
  rw [b_out_e _ _ _ _ _ _ ⟨h.2.2.2.2.1, h.2.2.2.2.2.1⟩, q_ends_c _ _ _ _ _ _ ⟨h.1, h.2.1, h.2.2.1, h.2.2.2.1⟩, q_left_c _ _ _ _ _ ⟨h.2.2.2.2.2.2.1, h.2.2.2.2.2.2.2⟩]
theorem b_out_14 (τ : bS) (x o v i : Int) : (b_out τ x o v).1 14 i = if i = b_s τ x then o else τ.1 14 i := by
  rw [b_out_e _ _ _ _ _ _ (by decide), q_ends_14, q_left_c _ _ _ _ _ (by decide), q_left_c _ _ _ _ _ (by decide)]
  rfl
theorem b_out_15 (τ : bS) (x o v i : Int) : (b_out τ x o v).1 15 i = if i = b_s τ x then (if o = 0 then v else 0) else τ.1 15 i := by
  rw [b_out_e _ _ _ _ _ _ (by decide), q_ends_15, q_left_c _ _ _ _ _ (by decide), q_left_c _ _ _ _ _ (by decide)]
  rfl
theorem b_out_17 (τ : bS) (x o v i : Int) : (b_out τ x o v).1 17 i = if i = b_s τ x then τ.1 2 0 else τ.1 17 i := by
  rw [b_out_e _ _ _ _ _ _ (by decide), q_ends_17, q_left_c _ _ _ _ _ (by decide), q_left_c _ _ _ _ _ (by decide), q_left_c _ _ _ _ _ (by decide)]
  rfl
theorem b_out_7 (τ : bS) (x o v i : Int) : (b_out τ x o v).1 7 i = if i = x then τ.1 2 0 else τ.1 7 i := by
  rw [b_out_e _ _ _ _ _ _ (by decide), q_ends_7, q_left_c _ _ _ _ _ (by decide), q_left_c _ _ _ _ _ (by decide)]
theorem b_out_5 (τ : bS) (x o v i : Int) : (b_out τ x o v).1 5 i = if i = x then -1 else τ.1 5 i := by
  rw [b_out_e _ _ _ _ _ _ (by decide), q_ends_c _ _ _ _ _ _ (by decide), q_left_5]
theorem b_out_log {τ : bS} {x o v d : Int} (h10 : τ.1 10 (b_s τ x) = d) (h34 : τ.1 34 d ≤ 300) (c : Nat) (i : Int) (hc : c = 33 ∨ c = 34) : (b_out τ x o v).1 c i = if o = 0 then c_log d τ.1 x c i else τ.1 c i := by
  have hc5 : c ≠ 5 ∧ c ≠ 28 := by omega
  have hc14 : c ≠ 14 ∧ c ≠ 15 ∧ c ≠ 17 ∧ c ≠ 7 := by omega
  unfold b_out
  by_cases ho : o = 0
  · rw [if_pos ho, if_pos ho]
    show q_passes (q_left τ.1 x (τ.1 5 x)) x v c i = _
    unfold q_passes
    have e4 : q_left τ.1 x (τ.1 5 x) 4 x = τ.1 4 x := q_left_c _ _ _ _ _ (by decide)
    have e10 : q_left τ.1 x (τ.1 5 x) 10 (20 * x + τ.1 4 x - 1) = d := by
      rw [q_left_c _ _ _ _ _ (by decide)]
      exact h10
    have e34 : q_left τ.1 x (τ.1 5 x) 34 d = τ.1 34 d := q_left_c _ _ _ _ _ (by decide)
    have eE : ∀ i, q_ends (q_left τ.1 x (τ.1 5 x)) x 0 v c i = τ.1 c i := fun i => by
      rw [q_ends_c _ _ _ _ _ _ hc14, q_left_c _ _ _ _ _ hc5]
    rw [e4, e10, e34]
    unfold c_log
    by_cases h3 : τ.1 34 d = 300
    · rw [if_pos h3, if_neg (by omega)]
      exact eE i
    · rw [if_neg h3, if_pos (by omega)]
      unfold pu_up
      rw [eE i]
  · rw [if_neg ho, if_neg ho]
    show q_ends (q_left τ.1 x (τ.1 5 x)) x o 0 c i = _
    rw [q_ends_c _ _ _ _ _ _ hc14, q_left_c _ _ _ _ _ hc5]
theorem b_out_s (τ : bS) (x o v z : Int) : b_s (b_out τ x o v) z = b_s τ z := by
  unfold b_s
  rw [b_out_c _ _ _ _ _ _ (by decide)]
theorem b_out_2 (τ : bS) (x o v e : Int) : (b_out τ x o v).2 e = if e = τ.1 5 x then (τ.2 e).erase x else τ.2 e := by
  unfold b_out
  split <;> rfl
theorem l_filter_erase (l : List Int) (x : Int) (p q : Int → Bool) (hn : l.Nodup) (hx : q x = false) (h : ∀ z ∈ l, z ≠ x → q z = p z) : l.filter q = (l.filter p).erase x := by
  have hn2 : (l.filter p).Nodup := hn.filter p
  rw [List.Nodup.erase_eq_filter hn2, List.filter_filter]
  refine List.filter_congr (fun z hz => ?_)
  by_cases e : z = x
  · subst e
    rw [hx]
    simp
  · rw [h z hz e]
    simp [e]
theorem b_lookers_congr {τ τ' : bS} (d : Int) (h : ∀ i, τ'.1 29 i = τ.1 29 i) : b_lookers τ' d = b_lookers τ d := by
  unfold b_lookers
  congr 1
  funext t
  exact h _
/-- x, that waits at d, is let go -/
theorem MB.out {κ κ' : aS} {τ : bS} {d : Int} {P : List Int} (h : MB κ τ d P) (hI : WI τ) (hd0 : 0 ≤ d) (hd1 : d < 12) {x : Int} (hx : x ∈ τ.2 d) {o w : Int} (hk : ∀ (c : Nat) (i : Int), c ≠ 14 → c ≠ 15 → κ' c i = κ c i) (hk14 : ∀ i, κ' 14 i = if i = b_s τ x then o else κ 14 i) (hk15 : ∀ i, κ' 15 i = if i = b_s τ x then w else κ 15 i) : MB κ' (b_out τ x o w) d (P ++ [x]) ∧ x ∉ P := by
  obtain ⟨m1, m5, m7, m17, m17n, mlog, m15, msp, mP, mPr⟩ := h
  obtain ⟨x0, x1, x5, x4, x10⟩ := (hI.2.2.1 d hd0 hd1).2 x hx
  have xn := (hI.2.2.1 d hd0 hd1).1
  have xO : OKt τ x := ⟨x0, x1, x4, (hI.1 x x0 x1).2.1⟩
  have h34 := (hI.2.2.2.1 d hd0 hd1).2.1
  have hxP : x ∉ P := fun z => by
    have := m5 x
    rw [if_pos z] at this
    omega
  have eC := b_out_c τ x o w
  have eS := b_out_s τ x o w
  have ne : ∀ z, OKt τ z → z ≠ x → b_s τ z ≠ b_s τ x := fun z hz e1 e2 => e1 (bs_inj hz xO e2)
  have e2 := eC 2 0 (by decide)
  refine ⟨⟨fun c i hc => ?_, fun z => ?_, fun z => ?_, fun z hz => ?_, fun s hs => ?_, fun c i hc => ?_, fun s => ?_, fun e he0 he1 => ?_, ?_, fun z hz => ?_⟩, hxP⟩
  · by_cases e14 : c = 14
    · subst e14
      rw [hk14, b_out_14, m1 14 i rfl]
    · obtain ⟨n5, n7, n15, n17, n28, n33, n34, _, _⟩ := mr_ne hc
      rw [hk c i e14 n15, eC c i ⟨e14, n15, n17, n7, n33, n34, n5, n28⟩]
      exact m1 c i hc
  · rw [b_out_5, hk 5 z (by decide) (by decide), m5 z]
    by_cases e : z = x
    · rw [if_pos e, if_pos (by rw [e]; simp)]
    · rw [if_neg e]
      by_cases hz : z ∈ P
      · rw [if_pos hz, if_pos (List.mem_append_left _ hz)]
      · rw [if_neg hz, if_neg (by simp [hz, e])]
  · rw [b_out_7, e2, hk 7 z (by decide) (by decide), m7 z]
    by_cases e : z = x
    · rw [if_pos e, if_pos (by rw [e]; simp)]
    · rw [if_neg e]
      by_cases hz : z ∈ P
      · rw [if_pos hz, if_pos (List.mem_append_left _ hz)]
      · rw [if_neg hz, if_neg (by simp [hz, e])]
  · rw [eS, b_out_17, e2]
    rcases List.mem_append.mp hz with hz | hz
    · rw [if_neg (ne z (mPr z hz) (fun e => hxP (e ▸ hz)))]
      exact m17 z hz
    · rw [List.mem_singleton.mp hz, if_pos rfl]
  · rw [b_out_17, hk 17 s (by decide) (by decide)]
    have hs2 := hs x (by simp)
    rw [eS] at hs2
    rw [if_neg hs2]
    refine m17n s (fun z hz => ?_)
    have := hs z (List.mem_append_left _ hz)
    rw [eS] at this
    exact this
  · have hP : P.filter (ps (b_out τ x o w)) = P.filter (ps τ) := List.filter_congr (fun z hz => by
      unfold ps
      rw [eS, b_out_14, if_neg (ne z (mPr z hz) (fun e => hxP (e ▸ hz)))])
    have hX : ps (b_out τ x o w) x = decide (o = 0) := by
      unfold ps
      rw [eS, b_out_14, if_pos rfl]
    rw [b_out_log x10 h34 c i hc, List.filter_append, hP, List.foldl_append]
    have g1 : ∀ (c : Nat) (i : Int), (c = 33 ∨ c = 34) → τ.1 c i = (List.foldl (c_log d) κ' (P.filter (ps τ))) c i := fun c i hc => by
      rw [mlog c i hc]
      exact c_logs_congr _ (fun c i hc => (hk c i (by omega) (by omega)).symm) c i hc
    by_cases ho : o = 0
    · have hX2 : ps (b_out τ x o w) x = true := by rw [hX]; simpa using ho
      rw [if_pos ho, show List.filter (ps (b_out τ x o w)) [x] = [x] by rw [List.filter_cons, if_pos hX2]; rfl]
      exact c_log_congr g1 c i hc
    · have hX2 : ¬ ps (b_out τ x o w) x = true := by rw [hX]; simpa using ho
      rw [if_neg ho, show List.filter (ps (b_out τ x o w)) [x] = [] by rw [List.filter_cons, if_neg hX2]; rfl]
      exact g1 c i hc
  · refine ⟨?_, UZ.tr s (fun i => eC 4 i (by decide)) (fun i => eC 3 i (by decide)) (m15 s).2 (fun hp u => by rw [hk15, if_neg (u.ne hp xO)]) (fun hp u => by rw [b_out_14, if_neg (u.ne hp xO)])⟩
    rw [b_out_15, b_out_14, hk15]
    by_cases e : s = b_s τ x
    · rw [if_pos e, if_pos e, if_pos e]
    · rw [if_neg e, if_neg e, if_neg e]
      exact (m15 s).1
  · obtain ⟨s1, s2⟩ := msp e he0 he1
    refine ⟨fun h5 => ?_, fun z hz => ?_⟩
    · rw [eC 18 e (by decide)] at h5
      rw [hk 43 e (by decide) (by decide), s1 h5]
      exact (b_lookers_congr e (fun i => eC 29 i (by decide))).symm
    · rw [b_out_2] at hz
      have hz2 : z ∈ τ.2 e ∧ z ≠ x := by
        by_cases ee : e = τ.1 5 x
        · rw [if_pos ee] at hz
          refine ⟨List.mem_of_mem_erase hz, fun e1 => ?_⟩
          subst e1
          exact absurd hz (List.Nodup.not_mem_erase (hI.2.2.1 e he0 he1).1)
        · rw [if_neg ee] at hz
          refine ⟨hz, fun e1 => ?_⟩
          subst e1
          exact ee ((hI.2.2.1 e he0 he1).2 z hz).2.2.1.symm
      obtain ⟨z1, z2⟩ := hz2
      obtain ⟨t1, t2⟩ := s2 z z1
      have z3 := (hI.2.2.1 e he0 he1).2 z z1
      have zO : OKt τ z := ⟨z3.1, z3.2.1, z3.2.2.2.1, (hI.1 z z3.1 z3.2.1).2.1⟩
      refine ⟨fun h11 => ?_, fun h3 => ?_⟩
      · rw [eC 18 e (by decide)] at h11
        rw [hk 42 _ (by decide) (by decide), t1 h11, eC 9 z (by decide)]
        unfold b_num
        rw [eC 4 z (by decide), eC 12 _ (by decide)]
      · rw [eC 18 e (by decide)] at h3
        rw [eS, hk15, if_neg (ne z zO z2), t2 h3, eC 8 z (by decide)]
  · rw [List.nodup_append]
    refine ⟨mP, by simp, fun a ha b hb e => ?_⟩
    rw [List.mem_singleton.mp hb] at e
    exact hxP (e ▸ ha)
  · have hz3 : OKt τ z := by
      rcases List.mem_append.mp hz with hz | hz
      · exact mPr z hz
      · rw [List.mem_singleton.mp hz]
        exact xO
    unfold OKt
    rw [eC 4 z (by decide)]
    exact hz3
theorem ML.out {κ κ' : aS} {τ : bS} {d : Int} {Λ : Int → List Int} (h : ML κ τ Λ) (hI : WI τ) (hd0 : 0 ≤ d) (hd1 : d < 12) {x : Int} (hx : x ∈ τ.2 d) {o w : Int} (ho : o ≠ 1) (hk : ∀ (c : Nat) (i : Int), c ≠ 14 → c ≠ 15 → κ' c i = κ c i) : ML κ' (b_out τ x o w) Λ := by
  intro e he0 he1
  obtain ⟨l1, l2, l3, l4, l5⟩ := h e he0 he1
  obtain ⟨x0, x1, x5, x4, x10⟩ := (hI.2.2.1 d hd0 hd1).2 x hx
  have xO : OKt τ x := ⟨x0, x1, x4, (hI.1 x x0 x1).2.1⟩
  have eS := b_out_s τ x o w
  have hq : ∀ z, OKt τ z → z ≠ x → wt (b_out τ x o w) z = wt τ z := fun z hz e1 => by
    unfold wt
    rw [eS, b_out_14, if_neg (fun e2 => e1 (bs_inj hz xO e2))]
  refine ⟨by rw [hk 23 e (by decide) (by decide)]; exact l1, fun j z hz => by rw [hk 22 _ (by decide) (by decide), eS]; exact l2 j z hz, ?_, l4, fun z hz => ?_⟩
  · rw [b_out_2, x5]
    by_cases ee : e = d
    · rw [if_pos ee, l3]
      refine (l_filter_erase _ _ _ _ l4 ?_ (fun z hz hne => hq z (l5 z hz) hne)).symm
      unfold wt
      rw [eS, b_out_14, if_pos rfl]
      simpa using ho
    · rw [if_neg ee, l3]
      refine List.filter_congr (fun z hz => (hq z (l5 z hz) (fun e1 => ?_)).symm)
      subst e1
      have hzw : z ∈ τ.2 e := by
        rw [l3]
        refine List.mem_filter.mpr ⟨hz, ?_⟩
        have := (h d hd0 hd1).2.2.1
        rw [this] at hx
        exact (List.mem_filter.mp hx).2
      have := ((hI.2.2.1 e he0 he1).2 z hzw).2.2.1
      omega
  · have := l5 z hz
    unfold OKt at this ⊢
    rw [b_out_c _ _ _ _ _ _ (by decide)]
    exact this
