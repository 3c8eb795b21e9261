def pf_c (c : Nat) : Bool := c == 14 || c == 15 || c == 24 || c == 25 || c == 26 || c == 27 || c == 29 || c == 30 || c == 31 || c == 32 || c == 42 || c == 43 || c == 22
theorem pf_ne {c : Nat} (h : pf_c c = false) : c ≠ 14 ∧ c ≠ 15 ∧ c ≠ 24 ∧ c ≠ 25 ∧ c ≠ 26 ∧ c ≠ 27 ∧ c ≠ 29 ∧ c ≠ 30 ∧ c ≠ 31 ∧ c ≠ 32 ∧ c ≠ 42 ∧ c ≠ 43 := by
  refine ⟨?_, ?_, ?_, ?_, ?_, ?_, ?_, ?_, ?_, ?_, ?_, ?_⟩ <;> (intro e; subst e; exact absurd h (by decide))
def c_perf (κ : aS) (d s : Int) : Int × aS := if κ 18 d = 0 ∨ κ 18 d = 1 then c_permits κ d s else if κ 18 d = 3 then c_barrier κ d s else if κ 18 d = 4 then c_exchange κ d s else if κ 18 d = 5 then c_lock κ d s else if κ 18 d = 6 then c_hand κ d s else if κ 18 d = 9 then c_phaser κ d s else if κ 18 d = 11 then c_monitor κ d s else c_sign κ d s
def c_go (κ : aS) (d : Int) : aS := if κ 18 d = 0 ∨ κ 18 d = 1 then c_permgo κ d else if κ 18 d = 5 then c_lockgo κ d else if κ 18 d = 11 then c_mongo κ d else if κ 18 d = 3 ∨ κ 18 d = 4 ∨ κ 18 d = 6 ∨ κ 18 d = 9 then κ else c_signgo κ d
def c_suf (κ : aS) (d : Int) : aS := if κ 18 d = 3 then c_suffer κ d else κ
theorem c_wk_c (d a : Int) (c : Nat) (i : Int) (h : c ≠ 22 ∧ c ≠ 42) : ∀ (k : Nat) (w : Int) (κ : aS), (c_wk d a k w κ).2 c i = κ c i := by
  intro k
  induction k with
  | zero => intro w κ; rfl
  | succ k ih =>
    intro w κ
    rw [c_wk]
    by_cases hc : c_place κ d a < 0
    · rw [if_pos hc]
    · rw [if_neg hc, ih, c_wk1_c _ _ _ _ _ h]
theorem LK.wk {y : jLay} {d : Int} (a : Int) : ∀ (k : Nat) (w : Int) (κ : aS), LK y κ d → LK y (c_wk d a k w κ).2 d := by
  intro k
  induction k with
  | zero => intro w κ h; exact h
  | succ k ih =>
    intro w κ h
    rw [c_wk]
    by_cases hc : c_place κ d a < 0
    · rw [if_pos hc]
      exact h
    · rw [if_neg hc]
      rcases c_place_rg (κ := κ) (d := d) (a := a) h.2.2.2.2.1 with hp | ⟨q0, q1, _⟩
      · omega
      · exact ih _ _ ((h.move q0 q1).up _ _ (by decide))
theorem c_perf_c (κ : aS) (d s : Int) (c : Nat) (i : Int) (h : pf_c c = false) : (c_perf κ d s).2 c i = κ c i ∧ (κ 18 d ≠ 11 → (c_perf κ d s).2 22 i = κ 22 i) := by
  obtain ⟨n14, n15, n24, n25, n26, n27, n29, n30, n31, n32, n42, n43⟩ := pf_ne h
  have n22 : c ≠ 22 := by
    intro e
    subst e
    exact absurd h (by decide)
  have key : ∀ c, c ≠ 14 ∧ c ≠ 15 ∧ c ≠ 24 ∧ c ≠ 25 ∧ c ≠ 26 ∧ c ≠ 27 ∧ c ≠ 29 ∧ c ≠ 30 ∧ c ≠ 31 ∧ c ≠ 32 ∧ c ≠ 42 ∧ c ≠ 43 ∧ (c ≠ 22 ∨ κ 18 d ≠ 11) → (c_perf κ d s).2 c i = κ c i := by
    rintro c ⟨n14, n15, n24, n25, n26, n27, n29, n30, n31, n32, n42, n43, n22⟩
    unfold c_perf
    split
    · unfold c_permits c_give c_pass
      (repeat' split) <;> simp (disch := assumption) only [pu_up_ne]
    split
    · unfold c_barrier c_come
      (repeat' split) <;> (try simp (disch := assumption) only [pu_up_ne]) <;> (try rw [c_endAll_c _ _ _ _ _ n14]) <;> (try simp (disch := assumption) only [pu_up_ne])
    split
    · unfold c_exchange c_pass
      (repeat' split) <;> simp (disch := assumption) only [pu_up_ne]
    split
    · unfold c_lock c_enter c_leaveL c_upg c_down c_las c_user c_dropL c_addL
      (repeat' split) <;> simp (disch := assumption) only [pu_up_ne]
    split
    · unfold c_hand c_put c_tk c_pass c_lay c_pick
      (repeat' split) <;> (try simp (disch := assumption) only [pu_up_ne]) <;> (try rw [q_lies_k _ _ _ _ _ n32])
    split
    · unfold c_phaser c_join c_pcome c_pleave
      (repeat' split) <;> (try simp (disch := assumption) only [pu_up_ne]) <;> (try rw [c_phase_c _ _ _ _ ⟨n14, n15, n30, n31, n24⟩]) <;> (try unfold c_pout) <;> (try simp (disch := assumption) only [pu_up_ne])
    split
    · rename_i h11
      have n22 : c ≠ 22 := by
        rcases n22 with n22 | n22
        · exact n22
        · exact absurd h11 n22
      unfold c_monitor c_minl c_menter
      (repeat' split) <;> (try simp (disch := assumption) only [pu_up_ne]) <;> (try rw [c_wk_c _ _ _ _ ⟨n22, n42⟩])
    · unfold c_sign c_gate c_tickets c_cell c_pause c_look
      (repeat' split) <;> simp (disch := assumption) only [pu_up_ne]
  exact ⟨key c ⟨n14, n15, n24, n25, n26, n27, n29, n30, n31, n32, n42, n43, Or.inl n22⟩, fun h11 => key 22 (by refine ⟨?_, ?_, ?_, ?_, ?_, ?_, ?_, ?_, ?_, ?_, ?_, ?_, Or.inr h11⟩ <;> decide)⟩
theorem LK.perf {y : jLay} {κ : aS} {d : Int} (h : LK y κ d) (s : Int) : LK y (c_perf κ d s).2 d := by
  have e23 := (c_perf_c κ d s 23 d (by decide)).1
  have e34 := (c_perf_c κ d s 34 d (by decide)).1
  by_cases h11 : κ 18 d = 11
  · have e : c_perf κ d s = c_monitor κ d s := by
      unfold c_perf
      rw [if_neg (by omega), if_neg (by omega), if_neg (by omega), if_neg (by omega), if_neg (by omega), if_neg (by omega), if_pos h11]
    rw [e]
    unfold c_monitor c_minl c_menter
    (repeat' split) <;> first | exact h | exact h.up _ _ (by decide) | exact (h.up _ _ (by decide)).up _ _ (by decide) | exact (h.wk _ _ _ _).up _ _ (by decide)
  · exact h.same (fun i => (c_perf_c κ d s 23 i (by decide)).2 h11) e23 (by rw [e34]; exact ⟨h.2.2.2.2.2.2.1, h.2.2.2.2.2.2.2.1⟩)
theorem c_go_c (κ : aS) (d : Int) (c : Nat) (i : Int) (h : c ≠ 14 ∧ c ≠ 15 ∧ c ≠ 24 ∧ c ≠ 26 ∧ c ≠ 29 ∧ c ≠ 43) : c_go κ d c i = κ c i := by
  obtain ⟨n14, n15, n24, n26, n29, n43⟩ := h
  unfold c_go
  split
  · refine c_lp_c (fun κ s κ' e i => ?_) _ _ _ _
    unfold c_pm at e
    split at e
    · cases e
      unfold c_pass
      simp (disch := assumption) only [pu_up_ne]
    · split at e <;> cases e
      rfl
  split
  · unfold c_lockgo c_adgo
    cases c_first κ d 3 with
    | none =>
      refine c_lp_c (fun κ s κ' e i => ?_) _ _ _ _
      unfold c_ad at e
      split at e <;> cases e
      unfold c_pass
      rw [pu_up_ne _ _ _ _ n15, pu_up_ne _ _ _ _ n14, c_las_c _ _ _ _ _ ⟨n26, n29, n43⟩]
    | some u =>
      dsimp only
      split
      · unfold c_pass c_user c_dropL
        simp (disch := assumption) only [pu_up_ne]
      · rfl
  split
  · unfold c_mongo c_pass
    (repeat' split) <;> simp (disch := assumption) only [pu_up_ne]
  split
  · rfl
  · refine c_lp_c (fun κ s κ' e i => ?_) _ _ _ _
    unfold c_sg at e
    split at e <;> cases e
    · unfold c_pass
      simp (disch := assumption) only [pu_up_ne]
    · rfl
theorem LK.go {y : jLay} {κ : aS} {d : Int} (h : LK y κ d) : LK y (c_go κ d) d :=
  h.same (fun i => c_go_c _ _ _ _ (by decide)) (c_go_c _ _ _ _ (by decide)) (by rw [c_go_c _ _ _ _ (by decide)]; exact ⟨h.2.2.2.2.2.2.1, h.2.2.2.2.2.2.2.1⟩)
theorem c_suf_c (κ : aS) (d : Int) (c : Nat) (i : Int) (h : c ≠ 14 ∧ c ≠ 25) : c_suf κ d c i = κ c i := by
  unfold c_suf c_suffer
  split
  · rw [c_endAll_c _ _ _ _ _ h.1, pu_up_ne _ _ _ _ h.2]
  · rfl
theorem LK.suf {y : jLay} {κ : aS} {d : Int} (h : LK y κ d) : LK y (c_suf κ d) d :=
  h.same (fun i => c_suf_c _ _ _ _ (by decide)) (c_suf_c _ _ _ _ (by decide)) (by rw [c_suf_c _ _ _ _ (by decide)]; exact ⟨h.2.2.2.2.2.2.1, h.2.2.2.2.2.2.2.1⟩)
def GK (y : jLay) (κ : aS) (d : Int) : Prop := 0 ≤ κ 18 d ∧ κ 18 d ≤ 11 ∧ (κ 18 d = 5 ∨ κ 18 d = 6 ∨ κ 18 d = 9 ∨ κ 18 d = 11 → pu_on y 6 d) ∧ (κ 18 d = 9 → pu_on y 7 d)
theorem GK.same {y : jLay} {κ κ' : aS} {d : Int} (h : GK y κ d) (e : κ' 18 d = κ 18 d) : GK y κ' d := by
  unfold GK
  rw [e]
  exact h
theorem ca_p4t {y : jLay} {κ σ : aS} {g : jH} {k : jK} {L : List (Option jV)} {S : List jV} {s t : Int} (hy : pu_inv y) (ho : pu_on y 1 t) (hs : s = 20 * t + κ 4 t - 1) (hv : ¬ κ 10 s < 0) : jk_puta [0] 4 k L (.inr (some (y.2 8 s)) :: .inr (some (y.2 1 t)) :: S) (pu_H y κ σ g) = k L S (pu_H y (pu_up κ 5 t (κ 10 s)) σ g) := by
  subst hs
  exact ca_p4s hy ho hv
set_option maxHeartbeats 4000000 in
theorem k_perf {y : jLay} {κ σ : aS} {g : jH} {n : Nat} {d s : Int} (o8 : pu_on y 8 s) (oa : pu_on y 1 (s / 20)) (s0 : 0 ≤ s) (s1 : s < 320) (hn : 200 ≤ n) (h : LK y κ d) (hg : GK y κ d) (h6 : κ 18 d = 6 → 0 ≤ κ 24 d ∧ κ 24 d ≤ κ 19 d ∧ κ 19 d ≤ 8) : (if pu_tag (κ 18 d) = 1 then fX1_perform n else if pu_tag (κ 18 d) = 2 then fX3_perform n else if pu_tag (κ 18 d) = 3 then fX4_perform n else if pu_tag (κ 18 d) = 4 then fX5_perform n else if pu_tag (κ 18 d) = 5 then fX6_perform n else if pu_tag (κ 18 d) = 6 then fX7_perform n else if pu_tag (κ 18 d) = 7 then fX8_perform n else fX9_perform n) [.inr (some (y.2 3 d)), .inr (some (y.2 8 s))] (pu_H y κ σ g) = some (some (.inl (c_perf κ d s).1), (pu_H y (c_perf κ d s).2 σ g)) := by
  obtain ⟨g0, g1, g2, g3⟩ := hg
  have hks : κ 18 d = 0 ∨ κ 18 d = 1 ∨ κ 18 d = 2 ∨ κ 18 d = 3 ∨ κ 18 d = 4 ∨ κ 18 d = 5 ∨ κ 18 d = 6 ∨ κ 18 d = 7 ∨ κ 18 d = 8 ∨ κ 18 d = 9 ∨ κ 18 d = 10 ∨ κ 18 d = 11 := by omega
  rcases hks with hk | hk | hk | hk | hk | hk | hk | hk | hk | hk | hk | hk
  · have ht : pu_tag (κ 18 d) = 6 := by rw [hk]; rfl
    have e := k_permits (σ := σ) (g := g) hn h o8 ht
    simp only [ht, Nat.reduceEqDiff, if_true, if_false]
    simp only [c_perf, hk, Int.reduceEq, if_true, if_false, or_true, true_or, or_self]
    exact e
  · have ht : pu_tag (κ 18 d) = 6 := by rw [hk]; rfl
    have e := k_permits (σ := σ) (g := g) hn h o8 ht
    simp only [ht, Nat.reduceEqDiff, if_true, if_false]
    simp only [c_perf, hk, Int.reduceEq, if_true, if_false, or_true, true_or, or_self]
    exact e
  · have ht : pu_tag (κ 18 d) = 8 := by rw [hk]; rfl
    have e := k_sign (σ := σ) (g := g) hn h o8 (by omega)
    simp only [ht, Nat.reduceEqDiff, if_true, if_false]
    simp only [c_perf, hk, Int.reduceEq, if_true, if_false, or_true, true_or, or_self]
    exact e
  · have ht : pu_tag (κ 18 d) = 1 := by rw [hk]; rfl
    have e := k_barrier (σ := σ) (g := g) hn h o8 hk
    simp only [ht, Nat.reduceEqDiff, if_true, if_false]
    simp only [c_perf, hk, Int.reduceEq, if_true, if_false, or_true, true_or, or_self]
    exact e
  · have ht : pu_tag (κ 18 d) = 2 := by rw [hk]; rfl
    have e := k_exchange (σ := σ) (g := g) hn h o8 ht
    simp only [ht, Nat.reduceEqDiff, if_true, if_false]
    simp only [c_perf, hk, Int.reduceEq, if_true, if_false, or_true, true_or, or_self]
    exact e
  · have ht : pu_tag (κ 18 d) = 4 := by rw [hk]; rfl
    have e := k_lock (σ := σ) (g := g) o8 oa s0 s1 hn h (g2 (by omega)) hk
    simp only [ht, Nat.reduceEqDiff, if_true, if_false]
    simp only [c_perf, hk, Int.reduceEq, if_true, if_false, or_true, true_or, or_self]
    exact e
  · have ht : pu_tag (κ 18 d) = 3 := by rw [hk]; rfl
    have e := k_hand (σ := σ) (g := g) o8 hn h (g2 (by omega)) hk (h6 hk).1 (h6 hk).2.1 (h6 hk).2.2
    simp only [ht, Nat.reduceEqDiff, if_true, if_false]
    simp only [c_perf, hk, Int.reduceEq, if_true, if_false, or_true, true_or, or_self]
    exact e
  · have ht : pu_tag (κ 18 d) = 8 := by rw [hk]; rfl
    have e := k_sign (σ := σ) (g := g) hn h o8 (by omega)
    simp only [ht, Nat.reduceEqDiff, if_true, if_false]
    simp only [c_perf, hk, Int.reduceEq, if_true, if_false, or_true, true_or, or_self]
    exact e
  · have ht : pu_tag (κ 18 d) = 8 := by rw [hk]; rfl
    have e := k_sign (σ := σ) (g := g) hn h o8 (by omega)
    simp only [ht, Nat.reduceEqDiff, if_true, if_false]
    simp only [c_perf, hk, Int.reduceEq, if_true, if_false, or_true, true_or, or_self]
    exact e
  · have ht : pu_tag (κ 18 d) = 7 := by rw [hk]; rfl
    have e := k_phaser (σ := σ) (g := g) o8 oa s0 s1 hn h (g2 (by omega)) (g3 hk) hk
    simp only [ht, Nat.reduceEqDiff, if_true, if_false]
    simp only [c_perf, hk, Int.reduceEq, if_true, if_false, or_true, true_or, or_self]
    exact e
  · have ht : pu_tag (κ 18 d) = 8 := by rw [hk]; rfl
    have e := k_sign (σ := σ) (g := g) hn h o8 (by omega)
    simp only [ht, Nat.reduceEqDiff, if_true, if_false]
    simp only [c_perf, hk, Int.reduceEq, if_true, if_false, or_true, true_or, or_self]
    exact e
  · have ht : pu_tag (κ 18 d) = 5 := by rw [hk]; rfl
    have e := k_monitor (σ := σ) (g := g) o8 oa s0 s1 hn h (g2 (by omega)) hk
    simp only [ht, Nat.reduceEqDiff, if_true, if_false]
    simp only [c_perf, hk, Int.reduceEq, if_true, if_false, or_true, true_or, or_self]
    exact e
set_option maxHeartbeats 4000000 in
theorem k_go {y : jLay} {κ σ : aS} {g : jH} {n : Nat} {d : Int} (hn : 200 ≤ n) (h : LK y κ d) (hg : GK y κ d) : (if pu_tag (κ 18 d) = 1 then fX2_letOthersGo n else if pu_tag (κ 18 d) = 2 then fX2_letOthersGo n else if pu_tag (κ 18 d) = 3 then fX2_letOthersGo n else if pu_tag (κ 18 d) = 4 then fX5_letOthersGo n else if pu_tag (κ 18 d) = 5 then fX6_letOthersGo n else if pu_tag (κ 18 d) = 6 then fX7_letOthersGo n else if pu_tag (κ 18 d) = 7 then fX2_letOthersGo n else fX9_letOthersGo n) [.inr (some (y.2 3 d))] (pu_H y κ σ g) = some (none, (pu_H y (c_go κ d) σ g)) := by
  obtain ⟨g0, g1, g2, g3⟩ := hg
  have hks : κ 18 d = 0 ∨ κ 18 d = 1 ∨ κ 18 d = 2 ∨ κ 18 d = 3 ∨ κ 18 d = 4 ∨ κ 18 d = 5 ∨ κ 18 d = 6 ∨ κ 18 d = 7 ∨ κ 18 d = 8 ∨ κ 18 d = 9 ∨ κ 18 d = 10 ∨ κ 18 d = 11 := by omega
  rcases hks with hk | hk | hk | hk | hk | hk | hk | hk | hk | hk | hk | hk
  · have ht : pu_tag (κ 18 d) = 6 := by rw [hk]; rfl
    have e := k_permgo (σ := σ) (g := g) hn h ht
    simp only [ht, Nat.reduceEqDiff, if_true, if_false]
    simp only [c_go, hk, Int.reduceEq, if_true, if_false, or_true, true_or, or_self]
    exact e
  · have ht : pu_tag (κ 18 d) = 6 := by rw [hk]; rfl
    have e := k_permgo (σ := σ) (g := g) hn h ht
    simp only [ht, Nat.reduceEqDiff, if_true, if_false]
    simp only [c_go, hk, Int.reduceEq, if_true, if_false, or_true, true_or, or_self]
    exact e
  · have ht : pu_tag (κ 18 d) = 8 := by rw [hk]; rfl
    have e := k_signgo (σ := σ) (g := g) hn h (by omega)
    simp only [ht, Nat.reduceEqDiff, if_true, if_false]
    simp only [c_go, hk, Int.reduceEq, if_true, if_false, or_true, true_or, or_self]
    exact e
  · have ht : pu_tag (κ 18 d) = 1 := by rw [hk]; rfl
    simp only [ht, Nat.reduceEqDiff, if_true, if_false]
    simp only [c_go, hk, Int.reduceEq, if_true, if_false, or_true, true_or, or_self]
    rfl
  · have ht : pu_tag (κ 18 d) = 2 := by rw [hk]; rfl
    simp only [ht, Nat.reduceEqDiff, if_true, if_false]
    simp only [c_go, hk, Int.reduceEq, if_true, if_false, or_true, true_or, or_self]
    rfl
  · have ht : pu_tag (κ 18 d) = 4 := by rw [hk]; rfl
    have e := k_lockgo (σ := σ) (g := g) hn h (g2 (by omega)) hk
    simp only [ht, Nat.reduceEqDiff, if_true, if_false]
    simp only [c_go, hk, Int.reduceEq, if_true, if_false, or_true, true_or, or_self]
    exact e
  · have ht : pu_tag (κ 18 d) = 3 := by rw [hk]; rfl
    simp only [ht, Nat.reduceEqDiff, if_true, if_false]
    simp only [c_go, hk, Int.reduceEq, if_true, if_false, or_true, true_or, or_self]
    rfl
  · have ht : pu_tag (κ 18 d) = 8 := by rw [hk]; rfl
    have e := k_signgo (σ := σ) (g := g) hn h (by omega)
    simp only [ht, Nat.reduceEqDiff, if_true, if_false]
    simp only [c_go, hk, Int.reduceEq, if_true, if_false, or_true, true_or, or_self]
    exact e
  · have ht : pu_tag (κ 18 d) = 8 := by rw [hk]; rfl
    have e := k_signgo (σ := σ) (g := g) hn h (by omega)
    simp only [ht, Nat.reduceEqDiff, if_true, if_false]
    simp only [c_go, hk, Int.reduceEq, if_true, if_false, or_true, true_or, or_self]
    exact e
  · have ht : pu_tag (κ 18 d) = 7 := by rw [hk]; rfl
    simp only [ht, Nat.reduceEqDiff, if_true, if_false]
    simp only [c_go, hk, Int.reduceEq, if_true, if_false, or_true, true_or, or_self]
    rfl
  · have ht : pu_tag (κ 18 d) = 8 := by rw [hk]; rfl
    have e := k_signgo (σ := σ) (g := g) hn h (by omega)
    simp only [ht, Nat.reduceEqDiff, if_true, if_false]
    simp only [c_go, hk, Int.reduceEq, if_true, if_false, or_true, true_or, or_self]
    exact e
  · have ht : pu_tag (κ 18 d) = 5 := by rw [hk]; rfl
    have e := k_mongo (σ := σ) (g := g) hn h (g2 (by omega)) hk
    simp only [ht, Nat.reduceEqDiff, if_true, if_false]
    simp only [c_go, hk, Int.reduceEq, if_true, if_false, or_true, true_or, or_self]
    exact e
set_option maxHeartbeats 4000000 in
theorem k_suf {y : jLay} {κ σ : aS} {g : jH} {n : Nat} {d : Int} (hn : 200 ≤ n) (h : LK y κ d) (hg : GK y κ d) : (if pu_tag (κ 18 d) = 1 then fX1_suffer n else fX2_suffer n) [.inr (some (y.2 3 d))] (pu_H y κ σ g) = some (none, (pu_H y (c_suf κ d) σ g)) := by
  obtain ⟨g0, g1, g2, g3⟩ := hg
  have hks : κ 18 d = 0 ∨ κ 18 d = 1 ∨ κ 18 d = 2 ∨ κ 18 d = 3 ∨ κ 18 d = 4 ∨ κ 18 d = 5 ∨ κ 18 d = 6 ∨ κ 18 d = 7 ∨ κ 18 d = 8 ∨ κ 18 d = 9 ∨ κ 18 d = 10 ∨ κ 18 d = 11 := by omega
  rcases hks with hk | hk | hk | hk | hk | hk | hk | hk | hk | hk | hk | hk
  · have ht : pu_tag (κ 18 d) = 6 := by rw [hk]; rfl
    simp only [ht, Nat.reduceEqDiff, if_true, if_false]
    simp only [c_suf, hk, Int.reduceEq, if_true, if_false, or_true, true_or, or_self]
    rfl
  · have ht : pu_tag (κ 18 d) = 6 := by rw [hk]; rfl
    simp only [ht, Nat.reduceEqDiff, if_true, if_false]
    simp only [c_suf, hk, Int.reduceEq, if_true, if_false, or_true, true_or, or_self]
    rfl
  · have ht : pu_tag (κ 18 d) = 8 := by rw [hk]; rfl
    simp only [ht, Nat.reduceEqDiff, if_true, if_false]
    simp only [c_suf, hk, Int.reduceEq, if_true, if_false, or_true, true_or, or_self]
    rfl
  · have ht : pu_tag (κ 18 d) = 1 := by rw [hk]; rfl
    have e := k_suffer (σ := σ) (g := g) hn h hk
    simp only [ht, Nat.reduceEqDiff, if_true, if_false]
    simp only [c_suf, hk, Int.reduceEq, if_true, if_false, or_true, true_or, or_self]
    exact e
  · have ht : pu_tag (κ 18 d) = 2 := by rw [hk]; rfl
    simp only [ht, Nat.reduceEqDiff, if_true, if_false]
    simp only [c_suf, hk, Int.reduceEq, if_true, if_false, or_true, true_or, or_self]
    rfl
  · have ht : pu_tag (κ 18 d) = 4 := by rw [hk]; rfl
    simp only [ht, Nat.reduceEqDiff, if_true, if_false]
    simp only [c_suf, hk, Int.reduceEq, if_true, if_false, or_true, true_or, or_self]
    rfl
  · have ht : pu_tag (κ 18 d) = 3 := by rw [hk]; rfl
    simp only [ht, Nat.reduceEqDiff, if_true, if_false]
    simp only [c_suf, hk, Int.reduceEq, if_true, if_false, or_true, true_or, or_self]
    rfl
  · have ht : pu_tag (κ 18 d) = 8 := by rw [hk]; rfl
    simp only [ht, Nat.reduceEqDiff, if_true, if_false]
    simp only [c_suf, hk, Int.reduceEq, if_true, if_false, or_true, true_or, or_self]
    rfl
  · have ht : pu_tag (κ 18 d) = 8 := by rw [hk]; rfl
    simp only [ht, Nat.reduceEqDiff, if_true, if_false]
    simp only [c_suf, hk, Int.reduceEq, if_true, if_false, or_true, true_or, or_self]
    rfl
  · have ht : pu_tag (κ 18 d) = 7 := by rw [hk]; rfl
    simp only [ht, Nat.reduceEqDiff, if_true, if_false]
    simp only [c_suf, hk, Int.reduceEq, if_true, if_false, or_true, true_or, or_self]
    rfl
  · have ht : pu_tag (κ 18 d) = 8 := by rw [hk]; rfl
    simp only [ht, Nat.reduceEqDiff, if_true, if_false]
    simp only [c_suf, hk, Int.reduceEq, if_true, if_false, or_true, true_or, or_self]
    rfl
  · have ht : pu_tag (κ 18 d) = 5 := by rw [hk]; rfl
    simp only [ht, Nat.reduceEqDiff, if_true, if_false]
    simp only [c_suf, hk, Int.reduceEq, if_true, if_false, or_true, true_or, or_self]
    rfl
def c_giveUp (κ : aS) (d s x b : Int) : aS := c_sweep (c_go (c_suf (pu_up κ 14 s x) d) d) d b
set_option maxHeartbeats 4000000 in
theorem k_giveUp {y : jLay} {κ σ : aS} {g : jH} {n : Nat} {d s x b : Int} (o8 : pu_on y 8 s) (hn : 200 ≤ n) (h : LK y κ d) (hg : GK y κ d) : fX2_giveUp n [.inr (some (y.2 3 d)), .inr (some (y.2 8 s)), .inl x, .inl b] (pu_H y κ σ g) = some (none, (pu_H y (c_giveUp κ d s x b) σ g)) := by
  have h1 : LK y (pu_up κ 14 s x) d := h.up _ _ (by decide)
  have g1 : GK y (pu_up κ 14 s x) d := hg.same (pu_up_ne _ _ _ _ (by decide))
  have e1 := k_suf (σ := σ) (g := g) (n := n) hn h1 g1
  have e2 := k_go (σ := σ) (g := g) (n := n) hn h1.suf (g1.same (c_suf_c _ _ _ _ (by decide)))
  have e3 := k_sweep (σ := σ) (g := g) (n := n) (b := b) h1.suf.go (by omega)
  rw [pu_up_ne _ _ _ _ (by decide)] at e1
  obtain ⟨hy, o3, o4, o5, l0, l1, p0, p1, lj⟩ := h
  unfold c_giveUp
  simp only [fX2_giveUp, jm_run, List.length_cons, List.length_nil, Nat.reduceAdd, if_true, jm_init, List.map_cons, List.map_nil, Nat.reduceSub, List.replicate, List.cons_append, List.nil_append, kX2_giveUp]
  simp (disch := first | omega | assumption | (simp only [List.length_cons, List.length_nil]; omega) | decide | (simp (disch := decide) only [pu_up_ne, pu_up_at]; first | omega | assumption)) only [↓ja_int, ↓ja_null, ↓ja_iload_0, ↓ja_aload_0, ↓ja_istore_0, ↓ja_astore_0, ↓ja_kill_0, ↓ja_iinc_0, ↓ja_iload_1, ↓ja_aload_1, ↓ja_istore_1, ↓ja_astore_1, ↓ja_kill_1, ↓ja_iinc_1, ↓ja_iload_2, ↓ja_aload_2, ↓ja_istore_2, ↓ja_astore_2, ↓ja_kill_2, ↓ja_iinc_2, ↓ja_iload_3, ↓ja_aload_3, ↓ja_istore_3, ↓ja_astore_3, ↓ja_kill_3, ↓ja_iinc_3, ↓ja_iload_4, ↓ja_aload_4, ↓ja_istore_4, ↓ja_astore_4, ↓ja_kill_4, ↓ja_iinc_4, ↓ja_iload_5, ↓ja_aload_5, ↓ja_istore_5, ↓ja_astore_5, ↓ja_kill_5, ↓ja_iinc_5, ↓ja_iload_6, ↓ja_aload_6, ↓ja_istore_6, ↓ja_astore_6, ↓ja_kill_6, ↓ja_iinc_6, ↓ja_iload_7, ↓ja_aload_7, ↓ja_istore_7, ↓ja_astore_7, ↓ja_kill_7, ↓ja_iinc_7, ↓ja_iload_8, ↓ja_aload_8, ↓ja_istore_8, ↓ja_astore_8, ↓ja_kill_8, ↓ja_iinc_8, ↓ja_iload_9, ↓ja_aload_9, ↓ja_istore_9, ↓ja_astore_9, ↓ja_kill_9, ↓ja_iinc_9, ↓ja_iload_10, ↓ja_aload_10, ↓ja_istore_10, ↓ja_astore_10, ↓ja_kill_10, ↓ja_iinc_10, ↓ja_iadd, ↓ja_isub, ↓ja_imul, ↓ja_dup, ↓ja_dup2, ↓ja_i2b, ↓ja_ifeq, ↓ja_ifne, ↓ja_iflt, ↓ja_ifge, ↓ja_ifgt, ↓ja_ifle, ↓ja_icmpeq, ↓ja_icmpne, ↓ja_icmplt, ↓ja_icmpge, ↓ja_icmpgt, ↓ja_icmple, ↓ja_ifnull_n, ↓ja_ifnull_s, ↓ja_ifnonnull_n, ↓ja_ifnonnull_s, ↓ja_iret, ↓ja_aret, ↓ja_vret, ↓ja_zret0, ↓ja_zret1, ↓ja_sw, ↓ja_pe, ↓ja_pn, ↓ja_pz, ↓reduceIte, ite_self, Int.reduceEq, Int.reduceLT, Int.reduceLE, Int.reduceNeg, ca_g0, ca_g1, ca_g2, ca_g3, ca_g5, ca_g6, ca_g4n, ca_g4s, ca_p3, ca_p5, ca_p6, ca_p4n, ca_p4s, cs_g0, cs_g1, cs_g2, cs_g3, cs_g4, cs_g5, cs_g6, cs_g7, cs_g8, cs_p5, cs_p6, cs_p7, cs_p8, cd_g0, cd_g1, cd_g2, cd_g3, cd_g4, cd_g5, cd_g6, cd_g7, cd1_g0, cd1_g1, cd1_g2, cd1_g3, cd1_g4, cd1_g5, cd1_g6, cd1_g7, cd1_g8, cd1_g9, cd2_g0, cd2_g1, cd2_g2, cd2_g3, cd2_g4, cd2_g5, cd2_g6, cd2_g7, cd3_g0, cd3_g1, cd3_g2, cd3_g3, cd3_g4, cd3_g5, cd3_g6, cd3_g7, cd3_g8, cd3_g9, cd3_g10, cd4_g0, cd4_g1, cd4_g2, cd4_g3, cd4_g4, cd4_g5, cd4_g6, cd4_g7, cd4_g8, cd4_g9, cd4_g10, cd5_g0, cd5_g1, cd5_g2, cd5_g3, cd5_g4, cd5_g5, cd5_g6, cd5_g7, cd5_g8, cd5_g9, cd6_g0, cd6_g1, cd6_g2, cd6_g3, cd6_g4, cd6_g5, cd6_g6, cd6_g7, cd6_g8, cd7_g0, cd7_g1, cd7_g2, cd7_g3, cd7_g4, cd7_g5, cd7_g6, cd7_g7, cd7_g8, cd7_g9, cd7_g10, cd8_g0, cd8_g1, cd8_g2, cd8_g3, cd8_g4, cd8_g5, cd8_g6, cd8_g7, cd8_g9, cd8_g8a, cd8_g8b, cd_p2, cd_p3, cd_p5, cd_p7, cd1_p9, cd3_p10, cd4_p9, cd4_p10, cd5_p9, cd6_p8, cd7_p10, cd8_p9, cd8_p8a, cd8_p8b, ck_g0, ck_g1, ck_g2, ck_g3, ck_g4, ck_g5, ck_g6, ck_g7, ck_g8, ck_p5, ck_p6, ck_p7, ck_p8, cr2, cr4, cr5, cr10, cr11, cr12, cr6_5, cr6_6, cr6_9, cr6_11, cr7, cw5, cw6_5, cw6_6, cw6_9, cw6_11, cw7, cw12, cw4, cl2, cl4, cl5, cl12, cc_a0, cc_s0, cc_k0, cc_1_0, cc_2_0, cc_3_0, cc_4_0, cc_5_0, cc_6_0, cc_7_0, cc_8_0, cc_d0, cc_a1, cc_s1, cc_k1, cc_1_1, cc_2_1, cc_3_1, cc_4_1, cc_5_1, cc_6_1, cc_7_1, cc_8_1, cc_d1, cc_k2, cc_1_2, cc_2_2, cc_3_2, cc_4_2, cc_5_2, cc_6_2, cc_7_2, cc_8_2, cc_d2, cc_k3, cc_1_3, cc_2_3, cc_3_3, cc_4_3, cc_5_3, cc_6_3, cc_7_3, cc_8_3, cc_d3, cc_k4, cc_k5, jm_wr_id, pb_none, pb_int, pb_ref, pu_up_ne, pu_up_at, e1, e2, e3, if_true, if_false, ↓reduceIte]
def c_shut (κ : aS) (d b : Int) : aS := c_sweep (c_endAll (pu_up κ 20 d 1) d 4) d b
set_option maxHeartbeats 4000000 in
theorem k_shut {y : jLay} {κ σ : aS} {g : jH} {n : Nat} {d b : Int} (hn : 200 ≤ n) (h : LK y κ d) : fX2_shut n [.inr (some (y.2 3 d)), .inl b] (pu_H y κ σ g) = some (none, (pu_H y (c_shut κ d b) σ g)) := by
  have h1 : LK y (pu_up κ 20 d 1) d := h.up _ _ (by decide)
  have e1 := k_endAll (σ := σ) (g := g) (n := n) (o := 4) h1 (by omega)
  have e3 := k_sweep (σ := σ) (g := g) (n := n) (b := b) (h1.endAll 4) (by omega)
  obtain ⟨hy, o3, o4, o5, l0, l1, p0, p1, lj⟩ := h
  unfold c_shut
  simp only [fX2_shut, jm_run, List.length_cons, List.length_nil, Nat.reduceAdd, if_true, jm_init, List.map_cons, List.map_nil, Nat.reduceSub, List.replicate, List.cons_append, List.nil_append, kX2_shut]
  simp (disch := first | omega | assumption | (simp only [List.length_cons, List.length_nil]; omega) | decide | (simp (disch := decide) only [pu_up_ne, pu_up_at]; first | omega | assumption)) only [↓ja_int, ↓ja_null, ↓ja_iload_0, ↓ja_aload_0, ↓ja_istore_0, ↓ja_astore_0, ↓ja_kill_0, ↓ja_iinc_0, ↓ja_iload_1, ↓ja_aload_1, ↓ja_istore_1, ↓ja_astore_1, ↓ja_kill_1, ↓ja_iinc_1, ↓ja_iload_2, ↓ja_aload_2, ↓ja_istore_2, ↓ja_astore_2, ↓ja_kill_2, ↓ja_iinc_2, ↓ja_iload_3, ↓ja_aload_3, ↓ja_istore_3, ↓ja_astore_3, ↓ja_kill_3, ↓ja_iinc_3, ↓ja_iload_4, ↓ja_aload_4, ↓ja_istore_4, ↓ja_astore_4, ↓ja_kill_4, ↓ja_iinc_4, ↓ja_iload_5, ↓ja_aload_5, ↓ja_istore_5, ↓ja_astore_5, ↓ja_kill_5, ↓ja_iinc_5, ↓ja_iload_6, ↓ja_aload_6, ↓ja_istore_6, ↓ja_astore_6, ↓ja_kill_6, ↓ja_iinc_6, ↓ja_iload_7, ↓ja_aload_7, ↓ja_istore_7, ↓ja_astore_7, ↓ja_kill_7, ↓ja_iinc_7, ↓ja_iload_8, ↓ja_aload_8, ↓ja_istore_8, ↓ja_astore_8, ↓ja_kill_8, ↓ja_iinc_8, ↓ja_iload_9, ↓ja_aload_9, ↓ja_istore_9, ↓ja_astore_9, ↓ja_kill_9, ↓ja_iinc_9, ↓ja_iload_10, ↓ja_aload_10, ↓ja_istore_10, ↓ja_astore_10, ↓ja_kill_10, ↓ja_iinc_10, ↓ja_iadd, ↓ja_isub, ↓ja_imul, ↓ja_dup, ↓ja_dup2, ↓ja_i2b, ↓ja_ifeq, ↓ja_ifne, ↓ja_iflt, ↓ja_ifge, ↓ja_ifgt, ↓ja_ifle, ↓ja_icmpeq, ↓ja_icmpne, ↓ja_icmplt, ↓ja_icmpge, ↓ja_icmpgt, ↓ja_icmple, ↓ja_ifnull_n, ↓ja_ifnull_s, ↓ja_ifnonnull_n, ↓ja_ifnonnull_s, ↓ja_iret, ↓ja_aret, ↓ja_vret, ↓ja_zret0, ↓ja_zret1, ↓ja_sw, ↓ja_pe, ↓ja_pn, ↓ja_pz, ↓reduceIte, ite_self, Int.reduceEq, Int.reduceLT, Int.reduceLE, Int.reduceNeg, ca_g0, ca_g1, ca_g2, ca_g3, ca_g5, ca_g6, ca_g4n, ca_g4s, ca_p3, ca_p5, ca_p6, ca_p4n, ca_p4s, cs_g0, cs_g1, cs_g2, cs_g3, cs_g4, cs_g5, cs_g6, cs_g7, cs_g8, cs_p5, cs_p6, cs_p7, cs_p8, cd_g0, cd_g1, cd_g2, cd_g3, cd_g4, cd_g5, cd_g6, cd_g7, cd1_g0, cd1_g1, cd1_g2, cd1_g3, cd1_g4, cd1_g5, cd1_g6, cd1_g7, cd1_g8, cd1_g9, cd2_g0, cd2_g1, cd2_g2, cd2_g3, cd2_g4, cd2_g5, cd2_g6, cd2_g7, cd3_g0, cd3_g1, cd3_g2, cd3_g3, cd3_g4, cd3_g5, cd3_g6, cd3_g7, cd3_g8, cd3_g9, cd3_g10, cd4_g0, cd4_g1, cd4_g2, cd4_g3, cd4_g4, cd4_g5, cd4_g6, cd4_g7, cd4_g8, cd4_g9, cd4_g10, cd5_g0, cd5_g1, cd5_g2, cd5_g3, cd5_g4, cd5_g5, cd5_g6, cd5_g7, cd5_g8, cd5_g9, cd6_g0, cd6_g1, cd6_g2, cd6_g3, cd6_g4, cd6_g5, cd6_g6, cd6_g7, cd6_g8, cd7_g0, cd7_g1, cd7_g2, cd7_g3, cd7_g4, cd7_g5, cd7_g6, cd7_g7, cd7_g8, cd7_g9, cd7_g10, cd8_g0, cd8_g1, cd8_g2, cd8_g3, cd8_g4, cd8_g5, cd8_g6, cd8_g7, cd8_g9, cd8_g8a, cd8_g8b, cd_p2, cd_p3, cd_p5, cd_p7, cd1_p9, cd3_p10, cd4_p9, cd4_p10, cd5_p9, cd6_p8, cd7_p10, cd8_p9, cd8_p8a, cd8_p8b, ck_g0, ck_g1, ck_g2, ck_g3, ck_g4, ck_g5, ck_g6, ck_g7, ck_g8, ck_p5, ck_p6, ck_p7, ck_p8, cr2, cr4, cr5, cr10, cr11, cr12, cr6_5, cr6_6, cr6_9, cr6_11, cr7, cw5, cw6_5, cw6_6, cw6_9, cw6_11, cw7, cw12, cw4, cl2, cl4, cl5, cl12, cc_a0, cc_s0, cc_k0, cc_1_0, cc_2_0, cc_3_0, cc_4_0, cc_5_0, cc_6_0, cc_7_0, cc_8_0, cc_d0, cc_a1, cc_s1, cc_k1, cc_1_1, cc_2_1, cc_3_1, cc_4_1, cc_5_1, cc_6_1, cc_7_1, cc_8_1, cc_d1, cc_k2, cc_1_2, cc_2_2, cc_3_2, cc_4_2, cc_5_2, cc_6_2, cc_7_2, cc_8_2, cc_d2, cc_k3, cc_1_3, cc_2_3, cc_3_3, cc_4_3, cc_5_3, cc_6_3, cc_7_3, cc_8_3, cc_d3, cc_k4, cc_k5, jm_wr_id, pb_none, pb_int, pb_ref, pu_up_ne, pu_up_at, e1, e3, if_true, if_false, ↓reduceIte]
def c_res (κ : aS) (d s b : Int) : Int × aS := if κ 20 d = 0 then c_perf (pu_up κ 16 s b) d s else (4, pu_up κ 16 s b)
def c_push (κ : aS) (d s : Int) : aS := pu_up (pu_up (pu_up κ 22 (16 * d + κ 23 d) s) 23 d (κ 23 d + 1)) 5 (s / 20) (κ 10 s)
def c_mid (κ : aS) (d s b : Int) : aS := if κ 14 s = 1 then (if κ 6 (s / 20) = 0 then c_push κ d s else c_giveUp (pu_up (c_push κ d s) 6 (s / 20) 0) d s 2 b) else c_fin κ d s b
def c_serve (κ : aS) (d s b : Int) : aS := c_sweep (c_go (c_mid (pu_up (c_res κ d s b).2 14 s (c_res κ d s b).1) d s b) d) d b
theorem LK.push {y : jLay} {κ : aS} {d s : Int} (h : LK y κ d) (o8 : pu_on y 8 s) (oa : pu_on y 1 (s / 20)) (s0 : 0 ≤ s) (s1 : s < 320) (hl : κ 23 d < 16) : LK y (c_push κ d s) d := by
  obtain ⟨a1, a2, a3, a4, a5, a6, a7, a8, a9⟩ := h
  unfold c_push
  refine ⟨a1, a2, a3, a4, ?_, ?_, ?_, ?_, fun j k0 k1 => ?_⟩
  · rw [pu_up_ne _ _ _ _ (by decide), pu_up_at]; omega
  · rw [pu_up_ne _ _ _ _ (by decide), pu_up_at]; omega
  · rw [pu_up_ne _ _ _ _ (by decide), pu_up_ne _ _ _ _ (by decide), pu_up_ne _ _ _ _ (by decide)]; exact a7
  · rw [pu_up_ne _ _ _ _ (by decide), pu_up_ne _ _ _ _ (by decide), pu_up_ne _ _ _ _ (by decide)]; exact a8
  · rw [pu_up_ne _ _ _ _ (by decide), pu_up_at] at k1
    rw [pu_up_ne _ _ _ _ (by decide), pu_up_ne _ _ _ _ (by decide), pu_up_c]
    split
    · exact ⟨s0, s1, o8, oa⟩
    · exact a9 j k0 (by omega)
theorem c_sw_c (d b : Int) (c : Nat) (i : Int) (h : c ≠ 22 ∧ c ≠ 23 ∧ c ≠ 17 ∧ c ≠ 5 ∧ c ≠ 7 ∧ c ≠ 33 ∧ c ≠ 34) : ∀ (k : Nat) (j p : Int) (κ : aS), c_sw d b k j p κ c i = κ c i := by
  intro k
  induction k with
  | zero => intro j p κ; exact pu_up_ne _ _ _ _ h.2.1
  | succ k ih =>
    intro j p κ
    rw [c_sw]
    split
    · rw [ih, pu_up_ne _ _ _ _ h.1]
    · rw [ih, c_fin_c _ _ _ _ _ _ h.2.2]
theorem LK.sw {y : jLay} {d b : Int} : ∀ (k : Nat) (i p : Int) (κ : aS), LK y κ d → i + k = κ 23 d → 0 ≤ p → p ≤ i → LK y (c_sw d b k i p κ) d := by
  intro k
  induction k with
  | zero =>
    intro i p κ h hk hp hi
    obtain ⟨a1, a2, a3, a4, a5, a6, a7, a8, a9⟩ := h
    rw [c_sw]
    refine ⟨a1, a2, a3, a4, ?_, ?_, ?_, ?_, fun j k0 k1 => ?_⟩
    · rw [pu_up_at]; omega
    · rw [pu_up_at]; omega
    · rw [pu_up_ne _ _ _ _ (by decide)]; exact a7
    · rw [pu_up_ne _ _ _ _ (by decide)]; exact a8
    · rw [pu_up_at] at k1
      rw [pu_up_ne _ _ _ _ (by decide)]
      exact a9 j k0 (by omega)
  | succ k ih =>
    intro i p κ h hk hp hi
    rw [c_sw]
    split
    · exact ih _ _ _ (h.keep (by omega) (by omega) hp) (by rw [pu_up_ne _ _ _ _ (by decide)]; omega) (by omega) (by omega)
    · exact ih _ _ _ (h.fin _ _) (by rw [c_fin_c _ _ _ _ _ _ (by decide)]; omega) (by omega) (by omega)
theorem LK.sweep {y : jLay} {κ : aS} {d : Int} (h : LK y κ d) (b : Int) : LK y (c_sweep κ d b) d :=
  LK.sw _ _ _ _ h (by have := h.2.2.2.2.1; omega) (by omega) (by omega)
theorem LK.giveUp {y : jLay} {κ : aS} {d : Int} (h : LK y κ d) (s x b : Int) : LK y (c_giveUp κ d s x b) d := ((h.up _ _ (by decide)).suf.go).sweep b
theorem c_giveUp_18 (κ : aS) (d s x b i : Int) : c_giveUp κ d s x b 18 i = κ 18 i := by
  unfold c_giveUp c_sweep
  rw [c_sw_c _ _ _ _ (by decide), c_go_c _ _ _ _ (by decide), c_suf_c _ _ _ _ (by decide), pu_up_ne _ _ _ _ (by decide)]
theorem c_push_c (κ : aS) (d s : Int) (c : Nat) (i : Int) (h : c ≠ 22 ∧ c ≠ 23 ∧ c ≠ 5) : c_push κ d s c i = κ c i := by
  unfold c_push
  rw [pu_up_ne _ _ _ _ h.2.2, pu_up_ne _ _ _ _ h.2.1, pu_up_ne _ _ _ _ h.1]
set_option maxHeartbeats 4000000 in
theorem k_serve_107 {y : jLay} {κ σ : aS} {g : jH} {n : Nat} {d b : Int} {x : Option jV} {f : Nat} (hf : 1 ≤ f) (hn : 200 ≤ n) (h : LK y κ d) (hg : GK y κ d)  : jk_fix (kX2_serve_b n) f 107 [some (.inr (some (y.2 3 d))), x, some (.inl b)] [] (pu_H y κ σ g) = some (none, (pu_H y (c_sweep (c_go κ d) d b) σ g)) := by
  have e2 := k_go (σ := σ) (g := g) (n := n) hn h hg
  have e3 := k_sweep (σ := σ) (g := g) (n := n) (b := b) h.go (by omega)
  obtain ⟨hy, o3, o4, o5, l0, l1, p0, p1, lj⟩ := h
  rw [jk_fix_pos (by omega)]
  simp only [kX2_serve_b, kX2_serve_107, Nat.reduceEqDiff, if_false, if_true]
  simp (disch := first | omega | assumption | (simp only [List.length_cons, List.length_nil]; omega) | decide | (simp (disch := decide) only [pu_up_ne, pu_up_at]; first | omega | assumption)) only [↓ja_int, ↓ja_null, ↓ja_iload_0, ↓ja_aload_0, ↓ja_istore_0, ↓ja_astore_0, ↓ja_kill_0, ↓ja_iinc_0, ↓ja_iload_1, ↓ja_aload_1, ↓ja_istore_1, ↓ja_astore_1, ↓ja_kill_1, ↓ja_iinc_1, ↓ja_iload_2, ↓ja_aload_2, ↓ja_istore_2, ↓ja_astore_2, ↓ja_kill_2, ↓ja_iinc_2, ↓ja_iload_3, ↓ja_aload_3, ↓ja_istore_3, ↓ja_astore_3, ↓ja_kill_3, ↓ja_iinc_3, ↓ja_iload_4, ↓ja_aload_4, ↓ja_istore_4, ↓ja_astore_4, ↓ja_kill_4, ↓ja_iinc_4, ↓ja_iload_5, ↓ja_aload_5, ↓ja_istore_5, ↓ja_astore_5, ↓ja_kill_5, ↓ja_iinc_5, ↓ja_iload_6, ↓ja_aload_6, ↓ja_istore_6, ↓ja_astore_6, ↓ja_kill_6, ↓ja_iinc_6, ↓ja_iload_7, ↓ja_aload_7, ↓ja_istore_7, ↓ja_astore_7, ↓ja_kill_7, ↓ja_iinc_7, ↓ja_iload_8, ↓ja_aload_8, ↓ja_istore_8, ↓ja_astore_8, ↓ja_kill_8, ↓ja_iinc_8, ↓ja_iload_9, ↓ja_aload_9, ↓ja_istore_9, ↓ja_astore_9, ↓ja_kill_9, ↓ja_iinc_9, ↓ja_iload_10, ↓ja_aload_10, ↓ja_istore_10, ↓ja_astore_10, ↓ja_kill_10, ↓ja_iinc_10, ↓ja_iadd, ↓ja_isub, ↓ja_imul, ↓ja_dup, ↓ja_dup2, ↓ja_i2b, ↓ja_ifeq, ↓ja_ifne, ↓ja_iflt, ↓ja_ifge, ↓ja_ifgt, ↓ja_ifle, ↓ja_icmpeq, ↓ja_icmpne, ↓ja_icmplt, ↓ja_icmpge, ↓ja_icmpgt, ↓ja_icmple, ↓ja_ifnull_n, ↓ja_ifnull_s, ↓ja_ifnonnull_n, ↓ja_ifnonnull_s, ↓ja_iret, ↓ja_aret, ↓ja_vret, ↓ja_zret0, ↓ja_zret1, ↓ja_sw, ↓ja_pe, ↓ja_pn, ↓ja_pz, ↓reduceIte, ite_self, Int.reduceEq, Int.reduceLT, Int.reduceLE, Int.reduceNeg, ca_g0, ca_g1, ca_g2, ca_g3, ca_g5, ca_g6, ca_g4n, ca_g4s, ca_p3, ca_p5, ca_p6, ca_p4n, ca_p4s, cs_g0, cs_g1, cs_g2, cs_g3, cs_g4, cs_g5, cs_g6, cs_g7, cs_g8, cs_p5, cs_p6, cs_p7, cs_p8, cd_g0, cd_g1, cd_g2, cd_g3, cd_g4, cd_g5, cd_g6, cd_g7, cd1_g0, cd1_g1, cd1_g2, cd1_g3, cd1_g4, cd1_g5, cd1_g6, cd1_g7, cd1_g8, cd1_g9, cd2_g0, cd2_g1, cd2_g2, cd2_g3, cd2_g4, cd2_g5, cd2_g6, cd2_g7, cd3_g0, cd3_g1, cd3_g2, cd3_g3, cd3_g4, cd3_g5, cd3_g6, cd3_g7, cd3_g8, cd3_g9, cd3_g10, cd4_g0, cd4_g1, cd4_g2, cd4_g3, cd4_g4, cd4_g5, cd4_g6, cd4_g7, cd4_g8, cd4_g9, cd4_g10, cd5_g0, cd5_g1, cd5_g2, cd5_g3, cd5_g4, cd5_g5, cd5_g6, cd5_g7, cd5_g8, cd5_g9, cd6_g0, cd6_g1, cd6_g2, cd6_g3, cd6_g4, cd6_g5, cd6_g6, cd6_g7, cd6_g8, cd7_g0, cd7_g1, cd7_g2, cd7_g3, cd7_g4, cd7_g5, cd7_g6, cd7_g7, cd7_g8, cd7_g9, cd7_g10, cd8_g0, cd8_g1, cd8_g2, cd8_g3, cd8_g4, cd8_g5, cd8_g6, cd8_g7, cd8_g9, cd8_g8a, cd8_g8b, cd_p2, cd_p3, cd_p5, cd_p7, cd1_p9, cd3_p10, cd4_p9, cd4_p10, cd5_p9, cd6_p8, cd7_p10, cd8_p9, cd8_p8a, cd8_p8b, ck_g0, ck_g1, ck_g2, ck_g3, ck_g4, ck_g5, ck_g6, ck_g7, ck_g8, ck_p5, ck_p6, ck_p7, ck_p8, cr2, cr4, cr5, cr10, cr11, cr12, cr6_5, cr6_6, cr6_9, cr6_11, cr7, cw5, cw6_5, cw6_6, cw6_9, cw6_11, cw7, cw12, cw4, cl2, cl4, cl5, cl12, cc_a0, cc_s0, cc_k0, cc_1_0, cc_2_0, cc_3_0, cc_4_0, cc_5_0, cc_6_0, cc_7_0, cc_8_0, cc_d0, cc_a1, cc_s1, cc_k1, cc_1_1, cc_2_1, cc_3_1, cc_4_1, cc_5_1, cc_6_1, cc_7_1, cc_8_1, cc_d1, cc_k2, cc_1_2, cc_2_2, cc_3_2, cc_4_2, cc_5_2, cc_6_2, cc_7_2, cc_8_2, cc_d2, cc_k3, cc_1_3, cc_2_3, cc_3_3, cc_4_3, cc_5_3, cc_6_3, cc_7_3, cc_8_3, cc_d3, cc_k4, cc_k5, jm_wr_id, pb_none, pb_int, pb_ref, pu_up_ne, pu_up_at, e2, e3]
set_option maxHeartbeats 4000000 in
theorem k_serve_22 {y : jLay} {κ σ : aS} {g : jH} {n : Nat} {d s b t : Int} (o8 : pu_on y 8 s) (oa : pu_on y 1 t) (et : s / 20 = t) (s0 : 0 ≤ s) (s1 : s < 320) {x0 : Int} (hs : s = 20 * t + κ 4 t - 1) (hv : ¬ κ 10 s < 0) (hl : κ 23 d < 16) {f : Nat} (hf : 3 ≤ f) (hn : 200 ≤ n) (h : LK y κ d) (hg : GK y κ d)  : jk_fix (kX2_serve_b n) f 22 [some (.inr (some (y.2 3 d))), some (.inr (some (y.2 8 s))), some (.inl b)] [.inl x0, .inr (some (y.2 8 s))] (pu_H y κ σ g) = some (none, (pu_H y (c_sweep (c_go (c_mid (pu_up κ 14 s x0) d s b) d) d b) σ g)) := by
  have hL := h
  have h1 : LK y (pu_up κ 14 s x0) d := h.up _ _ (by decide)
  have g1 : GK y (pu_up κ 14 s x0) d := hg.same (pu_up_ne _ _ _ _ (by decide))
  obtain ⟨hy, o3, o4, o5, l0, l1, p0, p1, lj⟩ := h
  unfold c_mid
  rw [pu_up_at, pu_up_ne _ _ _ _ (by decide), et]
  by_cases c1 : x0 = 1
  · rw [if_pos c1]
    subst c1
    have hP := h1.push o8 (by rw [et]; exact oa) s0 s1 (by rw [pu_up_ne _ _ _ _ (by decide)]; exact hl)
    have gP : GK y (c_push (pu_up κ 14 s 1) d s) d := g1.same (c_push_c _ _ _ _ _ (by decide))
    by_cases c2 : κ 6 t = 0
    · rw [if_pos c2]
      have e1 := k_serve_107 (σ := σ) (g := g) (n := n) (b := b) (x := some (.inr (some (y.2 8 s)))) (f := f - 1) (by omega) hn hP gP
      unfold c_push at e1 ⊢
      simp (disch := decide) only [pu_up_ne, et] at e1 ⊢
      rw [jk_fix_pos (by omega)]
      simp only [kX2_serve_b, kX2_serve_22, Nat.reduceEqDiff, if_false, if_true]
      simp (disch := first | omega | assumption | (simp only [List.length_cons, List.length_nil]; omega) | decide | (simp (disch := decide) only [pu_up_ne, pu_up_at]; first | omega | assumption)) only [↓ja_int, ↓ja_null, ↓ja_iload_0, ↓ja_aload_0, ↓ja_istore_0, ↓ja_astore_0, ↓ja_kill_0, ↓ja_iinc_0, ↓ja_iload_1, ↓ja_aload_1, ↓ja_istore_1, ↓ja_astore_1, ↓ja_kill_1, ↓ja_iinc_1, ↓ja_iload_2, ↓ja_aload_2, ↓ja_istore_2, ↓ja_astore_2, ↓ja_kill_2, ↓ja_iinc_2, ↓ja_iload_3, ↓ja_aload_3, ↓ja_istore_3, ↓ja_astore_3, ↓ja_kill_3, ↓ja_iinc_3, ↓ja_iload_4, ↓ja_aload_4, ↓ja_istore_4, ↓ja_astore_4, ↓ja_kill_4, ↓ja_iinc_4, ↓ja_iload_5, ↓ja_aload_5, ↓ja_istore_5, ↓ja_astore_5, ↓ja_kill_5, ↓ja_iinc_5, ↓ja_iload_6, ↓ja_aload_6, ↓ja_istore_6, ↓ja_astore_6, ↓ja_kill_6, ↓ja_iinc_6, ↓ja_iload_7, ↓ja_aload_7, ↓ja_istore_7, ↓ja_astore_7, ↓ja_kill_7, ↓ja_iinc_7, ↓ja_iload_8, ↓ja_aload_8, ↓ja_istore_8, ↓ja_astore_8, ↓ja_kill_8, ↓ja_iinc_8, ↓ja_iload_9, ↓ja_aload_9, ↓ja_istore_9, ↓ja_astore_9, ↓ja_kill_9, ↓ja_iinc_9, ↓ja_iload_10, ↓ja_aload_10, ↓ja_istore_10, ↓ja_astore_10, ↓ja_kill_10, ↓ja_iinc_10, ↓ja_iadd, ↓ja_isub, ↓ja_imul, ↓ja_dup, ↓ja_dup2, ↓ja_i2b, ↓ja_ifeq, ↓ja_ifne, ↓ja_iflt, ↓ja_ifge, ↓ja_ifgt, ↓ja_ifle, ↓ja_icmpeq, ↓ja_icmpne, ↓ja_icmplt, ↓ja_icmpge, ↓ja_icmpgt, ↓ja_icmple, ↓ja_ifnull_n, ↓ja_ifnull_s, ↓ja_ifnonnull_n, ↓ja_ifnonnull_s, ↓ja_iret, ↓ja_aret, ↓ja_vret, ↓ja_zret0, ↓ja_zret1, ↓ja_sw, ↓ja_pe, ↓ja_pn, ↓ja_pz, ↓reduceIte, ite_self, Int.reduceEq, Int.reduceLT, Int.reduceLE, Int.reduceNeg, ca_g0, ca_g1, ca_g2, ca_g3, ca_g5, ca_g6, ca_g4n, ca_g4s, ca_p3, ca_p5, ca_p6, ca_p4n, ca_p4s, cs_g0, cs_g1, cs_g2, cs_g3, cs_g4, cs_g5, cs_g6, cs_g7, cs_g8, cs_p5, cs_p6, cs_p7, cs_p8, cd_g0, cd_g1, cd_g2, cd_g3, cd_g4, cd_g5, cd_g6, cd_g7, cd1_g0, cd1_g1, cd1_g2, cd1_g3, cd1_g4, cd1_g5, cd1_g6, cd1_g7, cd1_g8, cd1_g9, cd2_g0, cd2_g1, cd2_g2, cd2_g3, cd2_g4, cd2_g5, cd2_g6, cd2_g7, cd3_g0, cd3_g1, cd3_g2, cd3_g3, cd3_g4, cd3_g5, cd3_g6, cd3_g7, cd3_g8, cd3_g9, cd3_g10, cd4_g0, cd4_g1, cd4_g2, cd4_g3, cd4_g4, cd4_g5, cd4_g6, cd4_g7, cd4_g8, cd4_g9, cd4_g10, cd5_g0, cd5_g1, cd5_g2, cd5_g3, cd5_g4, cd5_g5, cd5_g6, cd5_g7, cd5_g8, cd5_g9, cd6_g0, cd6_g1, cd6_g2, cd6_g3, cd6_g4, cd6_g5, cd6_g6, cd6_g7, cd6_g8, cd7_g0, cd7_g1, cd7_g2, cd7_g3, cd7_g4, cd7_g5, cd7_g6, cd7_g7, cd7_g8, cd7_g9, cd7_g10, cd8_g0, cd8_g1, cd8_g2, cd8_g3, cd8_g4, cd8_g5, cd8_g6, cd8_g7, cd8_g9, cd8_g8a, cd8_g8b, cd_p2, cd_p3, cd_p5, cd_p7, cd1_p9, cd3_p10, cd4_p9, cd4_p10, cd5_p9, cd6_p8, cd7_p10, cd8_p9, cd8_p8a, cd8_p8b, ck_g0, ck_g1, ck_g2, ck_g3, ck_g4, ck_g5, ck_g6, ck_g7, ck_g8, ck_p5, ck_p6, ck_p7, ck_p8, cr2, cr4, cr5, cr10, cr11, cr12, cr6_5, cr6_6, cr6_9, cr6_11, cr7, cw5, cw6_5, cw6_6, cw6_9, cw6_11, cw7, cw12, cw4, cl2, cl4, cl5, cl12, cc_a0, cc_s0, cc_k0, cc_1_0, cc_2_0, cc_3_0, cc_4_0, cc_5_0, cc_6_0, cc_7_0, cc_8_0, cc_d0, cc_a1, cc_s1, cc_k1, cc_1_1, cc_2_1, cc_3_1, cc_4_1, cc_5_1, cc_6_1, cc_7_1, cc_8_1, cc_d1, cc_k2, cc_1_2, cc_2_2, cc_3_2, cc_4_2, cc_5_2, cc_6_2, cc_7_2, cc_8_2, cc_d2, cc_k3, cc_1_3, cc_2_3, cc_3_3, cc_4_3, cc_5_3, cc_6_3, cc_7_3, cc_8_3, cc_d3, cc_k4, cc_k5, jm_wr_id, pb_none, pb_int, pb_ref, pu_up_ne, pu_up_at, c2, et, hl, ca_p4t]
      exact e1
    · rw [if_neg c2]
      have hQ : LK y (pu_up (c_push (pu_up κ 14 s 1) d s) 6 t 0) d := hP.up _ _ (by decide)
      have gQ : GK y (pu_up (c_push (pu_up κ 14 s 1) d s) 6 t 0) d := gP.same (pu_up_ne _ _ _ _ (by decide))
      have e0 := k_giveUp (σ := σ) (g := g) (n := n) (x := 2) (b := b) o8 hn hQ gQ
      have e1 := k_serve_107 (σ := σ) (g := g) (n := n) (b := b) (x := some (.inr (some (y.2 8 s)))) (f := f - 1) (by omega) hn (hQ.giveUp s 2 b) (gQ.same (c_giveUp_18 _ _ _ _ _ _))
      unfold c_push at e0 e1 ⊢
      simp (disch := decide) only [pu_up_ne, et] at e0 e1 ⊢
      rw [jk_fix_pos (by omega)]
      simp only [kX2_serve_b, kX2_serve_22, Nat.reduceEqDiff, if_false, if_true]
      simp (disch := first | omega | assumption | (simp only [List.length_cons, List.length_nil]; omega) | decide | (simp (disch := decide) only [pu_up_ne, pu_up_at]; first | omega | assumption)) only [↓ja_int, ↓ja_null, ↓ja_iload_0, ↓ja_aload_0, ↓ja_istore_0, ↓ja_astore_0, ↓ja_kill_0, ↓ja_iinc_0, ↓ja_iload_1, ↓ja_aload_1, ↓ja_istore_1, ↓ja_astore_1, ↓ja_kill_1, ↓ja_iinc_1, ↓ja_iload_2, ↓ja_aload_2, ↓ja_istore_2, ↓ja_astore_2, ↓ja_kill_2, ↓ja_iinc_2, ↓ja_iload_3, ↓ja_aload_3, ↓ja_istore_3, ↓ja_astore_3, ↓ja_kill_3, ↓ja_iinc_3, ↓ja_iload_4, ↓ja_aload_4, ↓ja_istore_4, ↓ja_astore_4, ↓ja_kill_4, ↓ja_iinc_4, ↓ja_iload_5, ↓ja_aload_5, ↓ja_istore_5, ↓ja_astore_5, ↓ja_kill_5, ↓ja_iinc_5, ↓ja_iload_6, ↓ja_aload_6, ↓ja_istore_6, ↓ja_astore_6, ↓ja_kill_6, ↓ja_iinc_6, ↓ja_iload_7, ↓ja_aload_7, ↓ja_istore_7, ↓ja_astore_7, ↓ja_kill_7, ↓ja_iinc_7, ↓ja_iload_8, ↓ja_aload_8, ↓ja_istore_8, ↓ja_astore_8, ↓ja_kill_8, ↓ja_iinc_8, ↓ja_iload_9, ↓ja_aload_9, ↓ja_istore_9, ↓ja_astore_9, ↓ja_kill_9, ↓ja_iinc_9, ↓ja_iload_10, ↓ja_aload_10, ↓ja_istore_10, ↓ja_astore_10, ↓ja_kill_10, ↓ja_iinc_10, ↓ja_iadd, ↓ja_isub, ↓ja_imul, ↓ja_dup, ↓ja_dup2, ↓ja_i2b, ↓ja_ifeq, ↓ja_ifne, ↓ja_iflt, ↓ja_ifge, ↓ja_ifgt, ↓ja_ifle, ↓ja_icmpeq, ↓ja_icmpne, ↓ja_icmplt, ↓ja_icmpge, ↓ja_icmpgt, ↓ja_icmple, ↓ja_ifnull_n, ↓ja_ifnull_s, ↓ja_ifnonnull_n, ↓ja_ifnonnull_s, ↓ja_iret, ↓ja_aret, ↓ja_vret, ↓ja_zret0, ↓ja_zret1, ↓ja_sw, ↓ja_pe, ↓ja_pn, ↓ja_pz, ↓reduceIte, ite_self, Int.reduceEq, Int.reduceLT, Int.reduceLE, Int.reduceNeg, ca_g0, ca_g1, ca_g2, ca_g3, ca_g5, ca_g6, ca_g4n, ca_g4s, ca_p3, ca_p5, ca_p6, ca_p4n, ca_p4s, cs_g0, cs_g1, cs_g2, cs_g3, cs_g4, cs_g5, cs_g6, cs_g7, cs_g8, cs_p5, cs_p6, cs_p7, cs_p8, cd_g0, cd_g1, cd_g2, cd_g3, cd_g4, cd_g5, cd_g6, cd_g7, cd1_g0, cd1_g1, cd1_g2, cd1_g3, cd1_g4, cd1_g5, cd1_g6, cd1_g7, cd1_g8, cd1_g9, cd2_g0, cd2_g1, cd2_g2, cd2_g3, cd2_g4, cd2_g5, cd2_g6, cd2_g7, cd3_g0, cd3_g1, cd3_g2, cd3_g3, cd3_g4, cd3_g5, cd3_g6, cd3_g7, cd3_g8, cd3_g9, cd3_g10, cd4_g0, cd4_g1, cd4_g2, cd4_g3, cd4_g4, cd4_g5, cd4_g6, cd4_g7, cd4_g8, cd4_g9, cd4_g10, cd5_g0, cd5_g1, cd5_g2, cd5_g3, cd5_g4, cd5_g5, cd5_g6, cd5_g7, cd5_g8, cd5_g9, cd6_g0, cd6_g1, cd6_g2, cd6_g3, cd6_g4, cd6_g5, cd6_g6, cd6_g7, cd6_g8, cd7_g0, cd7_g1, cd7_g2, cd7_g3, cd7_g4, cd7_g5, cd7_g6, cd7_g7, cd7_g8, cd7_g9, cd7_g10, cd8_g0, cd8_g1, cd8_g2, cd8_g3, cd8_g4, cd8_g5, cd8_g6, cd8_g7, cd8_g9, cd8_g8a, cd8_g8b, cd_p2, cd_p3, cd_p5, cd_p7, cd1_p9, cd3_p10, cd4_p9, cd4_p10, cd5_p9, cd6_p8, cd7_p10, cd8_p9, cd8_p8a, cd8_p8b, ck_g0, ck_g1, ck_g2, ck_g3, ck_g4, ck_g5, ck_g6, ck_g7, ck_g8, ck_p5, ck_p6, ck_p7, ck_p8, cr2, cr4, cr5, cr10, cr11, cr12, cr6_5, cr6_6, cr6_9, cr6_11, cr7, cw5, cw6_5, cw6_6, cw6_9, cw6_11, cw7, cw12, cw4, cl2, cl4, cl5, cl12, cc_a0, cc_s0, cc_k0, cc_1_0, cc_2_0, cc_3_0, cc_4_0, cc_5_0, cc_6_0, cc_7_0, cc_8_0, cc_d0, cc_a1, cc_s1, cc_k1, cc_1_1, cc_2_1, cc_3_1, cc_4_1, cc_5_1, cc_6_1, cc_7_1, cc_8_1, cc_d1, cc_k2, cc_1_2, cc_2_2, cc_3_2, cc_4_2, cc_5_2, cc_6_2, cc_7_2, cc_8_2, cc_d2, cc_k3, cc_1_3, cc_2_3, cc_3_3, cc_4_3, cc_5_3, cc_6_3, cc_7_3, cc_8_3, cc_d3, cc_k4, cc_k5, jm_wr_id, pb_none, pb_int, pb_ref, pu_up_ne, pu_up_at, c2, et, hl, ca_p4t, e0]
      exact e1
  · rw [if_neg c1]
    have p34 : pu_up κ 14 s x0 34 d = κ 34 d := pu_up_ne _ _ _ _ (by decide)
    have e0 := k_fin (κ := pu_up κ 14 s x0) (σ := σ) (g := g) (n := n) (b := b) (by omega) hy o3 o5 o8 (by rw [et]; exact oa) (by rw [p34]; exact p0) (by rw [p34]; exact p1)
    have e1 := k_serve_107 (σ := σ) (g := g) (n := n) (b := b) (x := some (.inr (some (y.2 8 s)))) (f := f - 1 - 1) (by omega) hn (h1.fin s b) (g1.same (c_fin_c _ _ _ _ _ _ (by decide)))
    rw [jk_fix_pos (by omega)]
    simp only [kX2_serve_b, kX2_serve_22, Nat.reduceEqDiff, if_false, if_true]
    simp (disch := first | omega | assumption | (simp only [List.length_cons, List.length_nil]; omega) | decide | (simp (disch := decide) only [pu_up_ne, pu_up_at]; first | omega | assumption)) only [↓ja_int, ↓ja_null, ↓ja_iload_0, ↓ja_aload_0, ↓ja_istore_0, ↓ja_astore_0, ↓ja_kill_0, ↓ja_iinc_0, ↓ja_iload_1, ↓ja_aload_1, ↓ja_istore_1, ↓ja_astore_1, ↓ja_kill_1, ↓ja_iinc_1, ↓ja_iload_2, ↓ja_aload_2, ↓ja_istore_2, ↓ja_astore_2, ↓ja_kill_2, ↓ja_iinc_2, ↓ja_iload_3, ↓ja_aload_3, ↓ja_istore_3, ↓ja_astore_3, ↓ja_kill_3, ↓ja_iinc_3, ↓ja_iload_4, ↓ja_aload_4, ↓ja_istore_4, ↓ja_astore_4, ↓ja_kill_4, ↓ja_iinc_4, ↓ja_iload_5, ↓ja_aload_5, ↓ja_istore_5, ↓ja_astore_5, ↓ja_kill_5, ↓ja_iinc_5, ↓ja_iload_6, ↓ja_aload_6, ↓ja_istore_6, ↓ja_astore_6, ↓ja_kill_6, ↓ja_iinc_6, ↓ja_iload_7, ↓ja_aload_7, ↓ja_istore_7, ↓ja_astore_7, ↓ja_kill_7, ↓ja_iinc_7, ↓ja_iload_8, ↓ja_aload_8, ↓ja_istore_8, ↓ja_astore_8, ↓ja_kill_8, ↓ja_iinc_8, ↓ja_iload_9, ↓ja_aload_9, ↓ja_istore_9, ↓ja_astore_9, ↓ja_kill_9, ↓ja_iinc_9, ↓ja_iload_10, ↓ja_aload_10, ↓ja_istore_10, ↓ja_astore_10, ↓ja_kill_10, ↓ja_iinc_10, ↓ja_iadd, ↓ja_isub, ↓ja_imul, ↓ja_dup, ↓ja_dup2, ↓ja_i2b, ↓ja_ifeq, ↓ja_ifne, ↓ja_iflt, ↓ja_ifge, ↓ja_ifgt, ↓ja_ifle, ↓ja_icmpeq, ↓ja_icmpne, ↓ja_icmplt, ↓ja_icmpge, ↓ja_icmpgt, ↓ja_icmple, ↓ja_ifnull_n, ↓ja_ifnull_s, ↓ja_ifnonnull_n, ↓ja_ifnonnull_s, ↓ja_iret, ↓ja_aret, ↓ja_vret, ↓ja_zret0, ↓ja_zret1, ↓ja_sw, ↓ja_pe, ↓ja_pn, ↓ja_pz, ↓reduceIte, ite_self, Int.reduceEq, Int.reduceLT, Int.reduceLE, Int.reduceNeg, ca_g0, ca_g1, ca_g2, ca_g3, ca_g5, ca_g6, ca_g4n, ca_g4s, ca_p3, ca_p5, ca_p6, ca_p4n, ca_p4s, cs_g0, cs_g1, cs_g2, cs_g3, cs_g4, cs_g5, cs_g6, cs_g7, cs_g8, cs_p5, cs_p6, cs_p7, cs_p8, cd_g0, cd_g1, cd_g2, cd_g3, cd_g4, cd_g5, cd_g6, cd_g7, cd1_g0, cd1_g1, cd1_g2, cd1_g3, cd1_g4, cd1_g5, cd1_g6, cd1_g7, cd1_g8, cd1_g9, cd2_g0, cd2_g1, cd2_g2, cd2_g3, cd2_g4, cd2_g5, cd2_g6, cd2_g7, cd3_g0, cd3_g1, cd3_g2, cd3_g3, cd3_g4, cd3_g5, cd3_g6, cd3_g7, cd3_g8, cd3_g9, cd3_g10, cd4_g0, cd4_g1, cd4_g2, cd4_g3, cd4_g4, cd4_g5, cd4_g6, cd4_g7, cd4_g8, cd4_g9, cd4_g10, cd5_g0, cd5_g1, cd5_g2, cd5_g3, cd5_g4, cd5_g5, cd5_g6, cd5_g7, cd5_g8, cd5_g9, cd6_g0, cd6_g1, cd6_g2, cd6_g3, cd6_g4, cd6_g5, cd6_g6, cd6_g7, cd6_g8, cd7_g0, cd7_g1, cd7_g2, cd7_g3, cd7_g4, cd7_g5, cd7_g6, cd7_g7, cd7_g8, cd7_g9, cd7_g10, cd8_g0, cd8_g1, cd8_g2, cd8_g3, cd8_g4, cd8_g5, cd8_g6, cd8_g7, cd8_g9, cd8_g8a, cd8_g8b, cd_p2, cd_p3, cd_p5, cd_p7, cd1_p9, cd3_p10, cd4_p9, cd4_p10, cd5_p9, cd6_p8, cd7_p10, cd8_p9, cd8_p8a, cd8_p8b, ck_g0, ck_g1, ck_g2, ck_g3, ck_g4, ck_g5, ck_g6, ck_g7, ck_g8, ck_p5, ck_p6, ck_p7, ck_p8, cr2, cr4, cr5, cr10, cr11, cr12, cr6_5, cr6_6, cr6_9, cr6_11, cr7, cw5, cw6_5, cw6_6, cw6_9, cw6_11, cw7, cw12, cw4, cl2, cl4, cl5, cl12, cc_a0, cc_s0, cc_k0, cc_1_0, cc_2_0, cc_3_0, cc_4_0, cc_5_0, cc_6_0, cc_7_0, cc_8_0, cc_d0, cc_a1, cc_s1, cc_k1, cc_1_1, cc_2_1, cc_3_1, cc_4_1, cc_5_1, cc_6_1, cc_7_1, cc_8_1, cc_d1, cc_k2, cc_1_2, cc_2_2, cc_3_2, cc_4_2, cc_5_2, cc_6_2, cc_7_2, cc_8_2, cc_d2, cc_k3, cc_1_3, cc_2_3, cc_3_3, cc_4_3, cc_5_3, cc_6_3, cc_7_3, cc_8_3, cc_d3, cc_k4, cc_k5, jm_wr_id, pb_none, pb_int, pb_ref, pu_up_ne, pu_up_at, c1]
    rw [jk_fix_pos (by omega)]
    simp only [kX2_serve_b, kX2_serve_101, Nat.reduceEqDiff, if_false, if_true]
    simp (disch := first | omega | assumption | (simp only [List.length_cons, List.length_nil]; omega) | decide | (simp (disch := decide) only [pu_up_ne, pu_up_at]; first | omega | assumption)) only [↓ja_int, ↓ja_null, ↓ja_iload_0, ↓ja_aload_0, ↓ja_istore_0, ↓ja_astore_0, ↓ja_kill_0, ↓ja_iinc_0, ↓ja_iload_1, ↓ja_aload_1, ↓ja_istore_1, ↓ja_astore_1, ↓ja_kill_1, ↓ja_iinc_1, ↓ja_iload_2, ↓ja_aload_2, ↓ja_istore_2, ↓ja_astore_2, ↓ja_kill_2, ↓ja_iinc_2, ↓ja_iload_3, ↓ja_aload_3, ↓ja_istore_3, ↓ja_astore_3, ↓ja_kill_3, ↓ja_iinc_3, ↓ja_iload_4, ↓ja_aload_4, ↓ja_istore_4, ↓ja_astore_4, ↓ja_kill_4, ↓ja_iinc_4, ↓ja_iload_5, ↓ja_aload_5, ↓ja_istore_5, ↓ja_astore_5, ↓ja_kill_5, ↓ja_iinc_5, ↓ja_iload_6, ↓ja_aload_6, ↓ja_istore_6, ↓ja_astore_6, ↓ja_kill_6, ↓ja_iinc_6, ↓ja_iload_7, ↓ja_aload_7, ↓ja_istore_7, ↓ja_astore_7, ↓ja_kill_7, ↓ja_iinc_7, ↓ja_iload_8, ↓ja_aload_8, ↓ja_istore_8, ↓ja_astore_8, ↓ja_kill_8, ↓ja_iinc_8, ↓ja_iload_9, ↓ja_aload_9, ↓ja_istore_9, ↓ja_astore_9, ↓ja_kill_9, ↓ja_iinc_9, ↓ja_iload_10, ↓ja_aload_10, ↓ja_istore_10, ↓ja_astore_10, ↓ja_kill_10, ↓ja_iinc_10, ↓ja_iadd, ↓ja_isub, ↓ja_imul, ↓ja_dup, ↓ja_dup2, ↓ja_i2b, ↓ja_ifeq, ↓ja_ifne, ↓ja_iflt, ↓ja_ifge, ↓ja_ifgt, ↓ja_ifle, ↓ja_icmpeq, ↓ja_icmpne, ↓ja_icmplt, ↓ja_icmpge, ↓ja_icmpgt, ↓ja_icmple, ↓ja_ifnull_n, ↓ja_ifnull_s, ↓ja_ifnonnull_n, ↓ja_ifnonnull_s, ↓ja_iret, ↓ja_aret, ↓ja_vret, ↓ja_zret0, ↓ja_zret1, ↓ja_sw, ↓ja_pe, ↓ja_pn, ↓ja_pz, ↓reduceIte, ite_self, Int.reduceEq, Int.reduceLT, Int.reduceLE, Int.reduceNeg, ca_g0, ca_g1, ca_g2, ca_g3, ca_g5, ca_g6, ca_g4n, ca_g4s, ca_p3, ca_p5, ca_p6, ca_p4n, ca_p4s, cs_g0, cs_g1, cs_g2, cs_g3, cs_g4, cs_g5, cs_g6, cs_g7, cs_g8, cs_p5, cs_p6, cs_p7, cs_p8, cd_g0, cd_g1, cd_g2, cd_g3, cd_g4, cd_g5, cd_g6, cd_g7, cd1_g0, cd1_g1, cd1_g2, cd1_g3, cd1_g4, cd1_g5, cd1_g6, cd1_g7, cd1_g8, cd1_g9, cd2_g0, cd2_g1, cd2_g2, cd2_g3, cd2_g4, cd2_g5, cd2_g6, cd2_g7, cd3_g0, cd3_g1, cd3_g2, cd3_g3, cd3_g4, cd3_g5, cd3_g6, cd3_g7, cd3_g8, cd3_g9, cd3_g10, cd4_g0, cd4_g1, cd4_g2, cd4_g3, cd4_g4, cd4_g5, cd4_g6, cd4_g7, cd4_g8, cd4_g9, cd4_g10, cd5_g0, cd5_g1, cd5_g2, cd5_g3, cd5_g4, cd5_g5, cd5_g6, cd5_g7, cd5_g8, cd5_g9, cd6_g0, cd6_g1, cd6_g2, cd6_g3, cd6_g4, cd6_g5, cd6_g6, cd6_g7, cd6_g8, cd7_g0, cd7_g1, cd7_g2, cd7_g3, cd7_g4, cd7_g5, cd7_g6, cd7_g7, cd7_g8, cd7_g9, cd7_g10, cd8_g0, cd8_g1, cd8_g2, cd8_g3, cd8_g4, cd8_g5, cd8_g6, cd8_g7, cd8_g9, cd8_g8a, cd8_g8b, cd_p2, cd_p3, cd_p5, cd_p7, cd1_p9, cd3_p10, cd4_p9, cd4_p10, cd5_p9, cd6_p8, cd7_p10, cd8_p9, cd8_p8a, cd8_p8b, ck_g0, ck_g1, ck_g2, ck_g3, ck_g4, ck_g5, ck_g6, ck_g7, ck_g8, ck_p5, ck_p6, ck_p7, ck_p8, cr2, cr4, cr5, cr10, cr11, cr12, cr6_5, cr6_6, cr6_9, cr6_11, cr7, cw5, cw6_5, cw6_6, cw6_9, cw6_11, cw7, cw12, cw4, cl2, cl4, cl5, cl12, cc_a0, cc_s0, cc_k0, cc_1_0, cc_2_0, cc_3_0, cc_4_0, cc_5_0, cc_6_0, cc_7_0, cc_8_0, cc_d0, cc_a1, cc_s1, cc_k1, cc_1_1, cc_2_1, cc_3_1, cc_4_1, cc_5_1, cc_6_1, cc_7_1, cc_8_1, cc_d1, cc_k2, cc_1_2, cc_2_2, cc_3_2, cc_4_2, cc_5_2, cc_6_2, cc_7_2, cc_8_2, cc_d2, cc_k3, cc_1_3, cc_2_3, cc_3_3, cc_4_3, cc_5_3, cc_6_3, cc_7_3, cc_8_3, cc_d3, cc_k4, cc_k5, jm_wr_id, pb_none, pb_int, pb_ref, pu_up_ne, pu_up_at, e0]
    exact e1
set_option maxHeartbeats 4000000 in
theorem k_serve {y : jLay} {κ σ : aS} {g : jH} {n : Nat} {d s b t : Int} (o8 : pu_on y 8 s) (oa : pu_on y 1 t) (et : s / 20 = t) (s0 : 0 ≤ s) (s1 : s < 320) (hs : s = 20 * t + κ 4 t - 1) (hv : ¬ κ 10 s < 0) (hl : κ 23 d < 16) (h6 : κ 18 d = 6 → 0 ≤ κ 24 d ∧ κ 24 d ≤ κ 19 d ∧ κ 19 d ≤ 8) (hn : 200 ≤ n) (h : LK y κ d) (hg : GK y κ d)  : fX2_serve n [.inr (some (y.2 3 d)), .inr (some (y.2 8 s)), .inl b] (pu_H y κ σ g) = some (none, (pu_H y (c_serve κ d s b) σ g)) := by
  have h1 : LK y (pu_up κ 16 s b) d := h.up _ _ (by decide)
  have g1 : GK y (pu_up κ 16 s b) d := hg.same (pu_up_ne _ _ _ _ (by decide))
  have e1 := k_perf (κ := pu_up κ 16 s b) (σ := σ) (g := g) (n := n) o8 (by rw [et]; exact oa) s0 s1 hn h1 g1 (by simpa (disch := decide) only [pu_up_ne] using h6)
  rw [pu_up_ne _ _ _ _ (by decide)] at e1
  have pc := fun c i (hc : pf_c c = false) => (c_perf_c (pu_up κ 16 s b) d s c i hc).1
  unfold c_serve c_res
  by_cases c1 : κ 20 d = 0
  · rw [if_pos c1]
    have e2 := k_serve_22 (κ := (c_perf (pu_up κ 16 s b) d s).2) (σ := σ) (g := g) (x0 := (c_perf (pu_up κ 16 s b) d s).1) (b := b) o8 oa et s0 s1 (by rw [pc 4 _ (by decide), pu_up_ne _ _ _ _ (by decide)]; exact hs) (by rw [pc 10 _ (by decide), pu_up_ne _ _ _ _ (by decide)]; exact hv) (by rw [pc 23 _ (by decide), pu_up_ne _ _ _ _ (by decide)]; exact hl) (f := n - 1) (by omega) hn (h1.perf s) (g1.same (pc 18 _ (by decide)))
    obtain ⟨hy, o3, o4, o5, l0, l1, p0, p1, lj⟩ := h
    simp only [fX2_serve, jm_run, List.length_cons, List.length_nil, Nat.reduceAdd, if_true, jm_init, List.map_cons, List.map_nil, Nat.reduceSub, List.replicate, List.cons_append, List.nil_append, kX2_serve]
    rw [jk_fix_pos (by omega)]
    simp only [kX2_serve_b, kX2_serve_0, Nat.reduceEqDiff, if_false, if_true]
    simp (disch := first | omega | assumption | (simp only [List.length_cons, List.length_nil]; omega) | decide | (simp (disch := decide) only [pu_up_ne, pu_up_at]; first | omega | assumption)) only [↓ja_int, ↓ja_null, ↓ja_iload_0, ↓ja_aload_0, ↓ja_istore_0, ↓ja_astore_0, ↓ja_kill_0, ↓ja_iinc_0, ↓ja_iload_1, ↓ja_aload_1, ↓ja_istore_1, ↓ja_astore_1, ↓ja_kill_1, ↓ja_iinc_1, ↓ja_iload_2, ↓ja_aload_2, ↓ja_istore_2, ↓ja_astore_2, ↓ja_kill_2, ↓ja_iinc_2, ↓ja_iload_3, ↓ja_aload_3, ↓ja_istore_3, ↓ja_astore_3, ↓ja_kill_3, ↓ja_iinc_3, ↓ja_iload_4, ↓ja_aload_4, ↓ja_istore_4, ↓ja_astore_4, ↓ja_kill_4, ↓ja_iinc_4, ↓ja_iload_5, ↓ja_aload_5, ↓ja_istore_5, ↓ja_astore_5, ↓ja_kill_5, ↓ja_iinc_5, ↓ja_iload_6, ↓ja_aload_6, ↓ja_istore_6, ↓ja_astore_6, ↓ja_kill_6, ↓ja_iinc_6, ↓ja_iload_7, ↓ja_aload_7, ↓ja_istore_7, ↓ja_astore_7, ↓ja_kill_7, ↓ja_iinc_7, ↓ja_iload_8, ↓ja_aload_8, ↓ja_istore_8, ↓ja_astore_8, ↓ja_kill_8, ↓ja_iinc_8, ↓ja_iload_9, ↓ja_aload_9, ↓ja_istore_9, ↓ja_astore_9, ↓ja_kill_9, ↓ja_iinc_9, ↓ja_iload_10, ↓ja_aload_10, ↓ja_istore_10, ↓ja_astore_10, ↓ja_kill_10, ↓ja_iinc_10, ↓ja_iadd, ↓ja_isub, ↓ja_imul, ↓ja_dup, ↓ja_dup2, ↓ja_i2b, ↓ja_ifeq, ↓ja_ifne, ↓ja_iflt, ↓ja_ifge, ↓ja_ifgt, ↓ja_ifle, ↓ja_icmpeq, ↓ja_icmpne, ↓ja_icmplt, ↓ja_icmpge, ↓ja_icmpgt, ↓ja_icmple, ↓ja_ifnull_n, ↓ja_ifnull_s, ↓ja_ifnonnull_n, ↓ja_ifnonnull_s, ↓ja_iret, ↓ja_aret, ↓ja_vret, ↓ja_zret0, ↓ja_zret1, ↓ja_sw, ↓ja_pe, ↓ja_pn, ↓ja_pz, ↓reduceIte, ite_self, Int.reduceEq, Int.reduceLT, Int.reduceLE, Int.reduceNeg, ca_g0, ca_g1, ca_g2, ca_g3, ca_g5, ca_g6, ca_g4n, ca_g4s, ca_p3, ca_p5, ca_p6, ca_p4n, ca_p4s, cs_g0, cs_g1, cs_g2, cs_g3, cs_g4, cs_g5, cs_g6, cs_g7, cs_g8, cs_p5, cs_p6, cs_p7, cs_p8, cd_g0, cd_g1, cd_g2, cd_g3, cd_g4, cd_g5, cd_g6, cd_g7, cd1_g0, cd1_g1, cd1_g2, cd1_g3, cd1_g4, cd1_g5, cd1_g6, cd1_g7, cd1_g8, cd1_g9, cd2_g0, cd2_g1, cd2_g2, cd2_g3, cd2_g4, cd2_g5, cd2_g6, cd2_g7, cd3_g0, cd3_g1, cd3_g2, cd3_g3, cd3_g4, cd3_g5, cd3_g6, cd3_g7, cd3_g8, cd3_g9, cd3_g10, cd4_g0, cd4_g1, cd4_g2, cd4_g3, cd4_g4, cd4_g5, cd4_g6, cd4_g7, cd4_g8, cd4_g9, cd4_g10, cd5_g0, cd5_g1, cd5_g2, cd5_g3, cd5_g4, cd5_g5, cd5_g6, cd5_g7, cd5_g8, cd5_g9, cd6_g0, cd6_g1, cd6_g2, cd6_g3, cd6_g4, cd6_g5, cd6_g6, cd6_g7, cd6_g8, cd7_g0, cd7_g1, cd7_g2, cd7_g3, cd7_g4, cd7_g5, cd7_g6, cd7_g7, cd7_g8, cd7_g9, cd7_g10, cd8_g0, cd8_g1, cd8_g2, cd8_g3, cd8_g4, cd8_g5, cd8_g6, cd8_g7, cd8_g9, cd8_g8a, cd8_g8b, cd_p2, cd_p3, cd_p5, cd_p7, cd1_p9, cd3_p10, cd4_p9, cd4_p10, cd5_p9, cd6_p8, cd7_p10, cd8_p9, cd8_p8a, cd8_p8b, ck_g0, ck_g1, ck_g2, ck_g3, ck_g4, ck_g5, ck_g6, ck_g7, ck_g8, ck_p5, ck_p6, ck_p7, ck_p8, cr2, cr4, cr5, cr10, cr11, cr12, cr6_5, cr6_6, cr6_9, cr6_11, cr7, cw5, cw6_5, cw6_6, cw6_9, cw6_11, cw7, cw12, cw4, cl2, cl4, cl5, cl12, cc_a0, cc_s0, cc_k0, cc_1_0, cc_2_0, cc_3_0, cc_4_0, cc_5_0, cc_6_0, cc_7_0, cc_8_0, cc_d0, cc_a1, cc_s1, cc_k1, cc_1_1, cc_2_1, cc_3_1, cc_4_1, cc_5_1, cc_6_1, cc_7_1, cc_8_1, cc_d1, cc_k2, cc_1_2, cc_2_2, cc_3_2, cc_4_2, cc_5_2, cc_6_2, cc_7_2, cc_8_2, cc_d2, cc_k3, cc_1_3, cc_2_3, cc_3_3, cc_4_3, cc_5_3, cc_6_3, cc_7_3, cc_8_3, cc_d3, cc_k4, cc_k5, jm_wr_id, pb_none, pb_int, pb_ref, pu_up_ne, pu_up_at, c1, e1]
    exact e2
  · rw [if_neg c1]
    have e2 := k_serve_22 (κ := pu_up κ 16 s b) (σ := σ) (g := g) (x0 := 4) (b := b) o8 oa et s0 s1 (by rw [pu_up_ne _ _ _ _ (by decide)]; exact hs) (by rw [pu_up_ne _ _ _ _ (by decide)]; exact hv) (by rw [pu_up_ne _ _ _ _ (by decide)]; exact hl) (f := n - 1) (by omega) hn h1 g1
    obtain ⟨hy, o3, o4, o5, l0, l1, p0, p1, lj⟩ := h
    simp only [fX2_serve, jm_run, List.length_cons, List.length_nil, Nat.reduceAdd, if_true, jm_init, List.map_cons, List.map_nil, Nat.reduceSub, List.replicate, List.cons_append, List.nil_append, kX2_serve]
    rw [jk_fix_pos (by omega)]
    simp only [kX2_serve_b, kX2_serve_0, Nat.reduceEqDiff, if_false, if_true]
    simp (disch := first | omega | assumption | (simp only [List.length_cons, List.length_nil]; omega) | decide | (simp (disch := decide) only [pu_up_ne, pu_up_at]; first | omega | assumption)) only [↓ja_int, ↓ja_null, ↓ja_iload_0, ↓ja_aload_0, ↓ja_istore_0, ↓ja_astore_0, ↓ja_kill_0, ↓ja_iinc_0, ↓ja_iload_1, ↓ja_aload_1, ↓ja_istore_1, ↓ja_astore_1, ↓ja_kill_1, ↓ja_iinc_1, ↓ja_iload_2, ↓ja_aload_2, ↓ja_istore_2, ↓ja_astore_2, ↓ja_kill_2, ↓ja_iinc_2, ↓ja_iload_3, ↓ja_aload_3, ↓ja_istore_3, ↓ja_astore_3, ↓ja_kill_3, ↓ja_iinc_3, ↓ja_iload_4, ↓ja_aload_4, ↓ja_istore_4, ↓ja_astore_4, ↓ja_kill_4, ↓ja_iinc_4, ↓ja_iload_5, ↓ja_aload_5, ↓ja_istore_5, ↓ja_astore_5, ↓ja_kill_5, ↓ja_iinc_5, ↓ja_iload_6, ↓ja_aload_6, ↓ja_istore_6, ↓ja_astore_6, ↓ja_kill_6, ↓ja_iinc_6, ↓ja_iload_7, ↓ja_aload_7, ↓ja_istore_7, ↓ja_astore_7, ↓ja_kill_7, ↓ja_iinc_7, ↓ja_iload_8, ↓ja_aload_8, ↓ja_istore_8, ↓ja_astore_8, ↓ja_kill_8, ↓ja_iinc_8, ↓ja_iload_9, ↓ja_aload_9, ↓ja_istore_9, ↓ja_astore_9, ↓ja_kill_9, ↓ja_iinc_9, ↓ja_iload_10, ↓ja_aload_10, ↓ja_istore_10, ↓ja_astore_10, ↓ja_kill_10, ↓ja_iinc_10, ↓ja_iadd, ↓ja_isub, ↓ja_imul, ↓ja_dup, ↓ja_dup2, ↓ja_i2b, ↓ja_ifeq, ↓ja_ifne, ↓ja_iflt, ↓ja_ifge, ↓ja_ifgt, ↓ja_ifle, ↓ja_icmpeq, ↓ja_icmpne, ↓ja_icmplt, ↓ja_icmpge, ↓ja_icmpgt, ↓ja_icmple, ↓ja_ifnull_n, ↓ja_ifnull_s, ↓ja_ifnonnull_n, ↓ja_ifnonnull_s, ↓ja_iret, ↓ja_aret, ↓ja_vret, ↓ja_zret0, ↓ja_zret1, ↓ja_sw, ↓ja_pe, ↓ja_pn, ↓ja_pz, ↓reduceIte, ite_self, Int.reduceEq, Int.reduceLT, Int.reduceLE, Int.reduceNeg, ca_g0, ca_g1, ca_g2, ca_g3, ca_g5, ca_g6, ca_g4n, ca_g4s, ca_p3, ca_p5, ca_p6, ca_p4n, ca_p4s, cs_g0, cs_g1, cs_g2, cs_g3, cs_g4, cs_g5, cs_g6, cs_g7, cs_g8, cs_p5, cs_p6, cs_p7, cs_p8, cd_g0, cd_g1, cd_g2, cd_g3, cd_g4, cd_g5, cd_g6, cd_g7, cd1_g0, cd1_g1, cd1_g2, cd1_g3, cd1_g4, cd1_g5, cd1_g6, cd1_g7, cd1_g8, cd1_g9, cd2_g0, cd2_g1, cd2_g2, cd2_g3, cd2_g4, cd2_g5, cd2_g6, cd2_g7, cd3_g0, cd3_g1, cd3_g2, cd3_g3, cd3_g4, cd3_g5, cd3_g6, cd3_g7, cd3_g8, cd3_g9, cd3_g10, cd4_g0, cd4_g1, cd4_g2, cd4_g3, cd4_g4, cd4_g5, cd4_g6, cd4_g7, cd4_g8, cd4_g9, cd4_g10, cd5_g0, cd5_g1, cd5_g2, cd5_g3, cd5_g4, cd5_g5, cd5_g6, cd5_g7, cd5_g8, cd5_g9, cd6_g0, cd6_g1, cd6_g2, cd6_g3, cd6_g4, cd6_g5, cd6_g6, cd6_g7, cd6_g8, cd7_g0, cd7_g1, cd7_g2, cd7_g3, cd7_g4, cd7_g5, cd7_g6, cd7_g7, cd7_g8, cd7_g9, cd7_g10, cd8_g0, cd8_g1, cd8_g2, cd8_g3, cd8_g4, cd8_g5, cd8_g6, cd8_g7, cd8_g9, cd8_g8a, cd8_g8b, cd_p2, cd_p3, cd_p5, cd_p7, cd1_p9, cd3_p10, cd4_p9, cd4_p10, cd5_p9, cd6_p8, cd7_p10, cd8_p9, cd8_p8a, cd8_p8b, ck_g0, ck_g1, ck_g2, ck_g3, ck_g4, ck_g5, ck_g6, ck_g7, ck_g8, ck_p5, ck_p6, ck_p7, ck_p8, cr2, cr4, cr5, cr10, cr11, cr12, cr6_5, cr6_6, cr6_9, cr6_11, cr7, cw5, cw6_5, cw6_6, cw6_9, cw6_11, cw7, cw12, cw4, cl2, cl4, cl5, cl12, cc_a0, cc_s0, cc_k0, cc_1_0, cc_2_0, cc_3_0, cc_4_0, cc_5_0, cc_6_0, cc_7_0, cc_8_0, cc_d0, cc_a1, cc_s1, cc_k1, cc_1_1, cc_2_1, cc_3_1, cc_4_1, cc_5_1, cc_6_1, cc_7_1, cc_8_1, cc_d1, cc_k2, cc_1_2, cc_2_2, cc_3_2, cc_4_2, cc_5_2, cc_6_2, cc_7_2, cc_8_2, cc_d2, cc_k3, cc_1_3, cc_2_3, cc_3_3, cc_4_3, cc_5_3, cc_6_3, cc_7_3, cc_8_3, cc_d3, cc_k4, cc_k5, jm_wr_id, pb_none, pb_int, pb_ref, pu_up_ne, pu_up_at, c1]
    exact e2
