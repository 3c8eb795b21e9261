/-! calls: both answer alike, and the worlds go on -/
def XW (h0 : jH) (y : jLay) (κ σ : aS) (g : jH) (τ : bS) (c : Nat) : Prop := WW y κ τ ∧ PL τ ∧ ZI τ ∧ RO σ τ ∧ pm_WF y ∧ LA y τ.1 h0.2.1 g.2.1 ∧ h0.2.1 ≤ g.2.1 ∧ g.1 = h0.1 ∧ g.2.1 ≤ h0.2.1 + 39 + 5 * c ∧ g.2.2 ≤ h0.2.2 + 140000 + 400 * c
theorem w_aux {a b k c : Nat} (h1 : a ≤ b + 400) (h2 : b ≤ k + 400 * c) : a ≤ k + 400 * (c + 1) := Nat.le_trans h1 (Nat.le_trans (Nat.add_le_add_right h2 400) (Nat.le_of_eq (by rw [Nat.mul_succ, Nat.add_assoc])))
section CALLS
variable {h0 : jH} {y : jLay} {κ σ : aS} {g : jH} {τ : bS} {c n : Nat}
theorem XW.wi (h : XW h0 y κ σ g τ c) : WI τ := h.1.1.2.1
theorem XW.up (h : XW h0 y κ σ g τ c) : XW h0 y κ σ g τ (c + 1) := by
  obtain ⟨a1, a2, a3, a4, a5, a6, a7, a8, a9, a10⟩ := h
  exact ⟨a1, a2, a3, a4, a5, a6, a7, a8, by omega, by omega⟩
theorem GR.rf : GR y y := ⟨rfl, rfl⟩
theorem XW.role {b : Nat} (h : XW h0 y κ σ g τ c) (hc : c ≤ 1000) (hb : b < h0.2.1 ∨ h0.2.1 + 1000000 ≤ b) : (y.1 b).1 = 0 := by
  obtain ⟨a1, a2, a3, a4, a5, a6, a7, a8, a9, a10⟩ := h
  by_cases z : (y.1 b).1 = 0
  · exact z
  · have := a6 b z
    omega
theorem XW.tb {b L aL aM : Nat} {xs : Nat → Int32} (h : XW h0 y κ σ g τ c) (hc : c ≤ 1000) (S : jp_Start h0 b L aL aM xs) : TB y g aL aM := by
  obtain ⟨s1, s2, s3, s4, ⟨a, q, s5, s6, s7⟩, s8, ⟨s9, s10, s11⟩, s12⟩ := S
  have e := h.2.2.2.2.2.2.2.1
  unfold TB
  rw [e]
  exact ⟨h.role hc (Or.inl s10), h.role hc (Or.inl s11), s3, s4, ⟨a, q, h.role hc (Or.inr s7), s5, s6⟩, s8⟩
theorem C_tell {t w : Int} (hn : 20000 ≤ n) (X : XW h0 y κ σ g τ c) : ∃ y' κ' σ' g' τ' v, fX11_tell n [.inr (some (y.2 9 0)), .inl t, .inl w] (pu_H y κ σ g) = some (some (.inl v), pu_H y' κ' σ g') ∧ fX12_tell n [.inr (some (y'.2 13 0)), .inl t, .inl w] (pu_H y' κ' σ g') = some (some (.inl v), pu_H y' κ' σ' g') ∧ XW h0 y' κ' σ' g' τ' (c + 1) ∧ GR y y' := ⟨y, κ, σ, g, τ, _, k_tell (by omega) X.1, R_tell X.2.2.2.2.1 (by omega) X.2.2.2.1 X.wi, X.up, GR.rf⟩
theorem C_outcome {t i w : Int} (hn : 20000 ≤ n) (X : XW h0 y κ σ g τ c) : ∃ y' κ' σ' g' τ' v, fX11_outcome n [.inr (some (y.2 9 0)), .inl t, .inl i, .inl w] (pu_H y κ σ g) = some (some (.inl v), pu_H y' κ' σ g') ∧ fX12_outcome n [.inr (some (y'.2 13 0)), .inl t, .inl i, .inl w] (pu_H y' κ' σ g') = some (some (.inl v), pu_H y' κ' σ' g') ∧ XW h0 y' κ' σ' g' τ' (c + 1) ∧ GR y y' := ⟨y, κ, σ, g, τ, _, k_outcome (by omega) X.1, R_outcome X.2.2.2.2.1 (by omega) X.2.2.2.1 X.wi, X.up, GR.rf⟩
theorem C_state {d w : Int} (hn : 20000 ≤ n) (X : XW h0 y κ σ g τ c) : ∃ y' κ' σ' g' τ' v, fX11_state n [.inr (some (y.2 9 0)), .inl d, .inl w] (pu_H y κ σ g) = some (some (.inl v), pu_H y' κ' σ g') ∧ fX12_state n [.inr (some (y'.2 13 0)), .inl d, .inl w] (pu_H y' κ' σ g') = some (some (.inl v), pu_H y' κ' σ' g') ∧ XW h0 y' κ' σ' g' τ' (c + 1) ∧ GR y y' := ⟨y, κ, σ, g, τ, _, k_state (by omega) X.1, R_state X.2.2.2.2.1 (by omega) X.2.2.2.1 X.wi, X.up, GR.rf⟩
theorem C_waiting {d i : Int} (hn : 20000 ≤ n) (X : XW h0 y κ σ g τ c) : ∃ y' κ' σ' g' τ' v, fX11_waiting n [.inr (some (y.2 9 0)), .inl d, .inl i] (pu_H y κ σ g) = some (some (.inl v), pu_H y' κ' σ g') ∧ fX12_waiting n [.inr (some (y'.2 13 0)), .inl d, .inl i] (pu_H y' κ' σ g') = some (some (.inl v), pu_H y' κ' σ' g') ∧ XW h0 y' κ' σ' g' τ' (c + 1) ∧ GR y y' := ⟨y, κ, σ, g, τ, _, k_waiting (by omega) X.1, R_waiting X.2.2.2.2.1 (by omega) X.2.2.2.1 X.wi, X.up, GR.rf⟩
theorem C_passed {d i : Int} (hn : 20000 ≤ n) (X : XW h0 y κ σ g τ c) : ∃ y' κ' σ' g' τ' v, fX11_passed n [.inr (some (y.2 9 0)), .inl d, .inl i] (pu_H y κ σ g) = some (some (.inl v), pu_H y' κ' σ g') ∧ fX12_passed n [.inr (some (y'.2 13 0)), .inl d, .inl i] (pu_H y' κ' σ g') = some (some (.inl v), pu_H y' κ' σ' g') ∧ XW h0 y' κ' σ' g' τ' (c + 1) ∧ GR y y' := ⟨y, κ, σ, g, τ, _, k_passed (by omega) X.1, R_passed X.2.2.2.2.1 (by omega) X.2.2.2.1 X.wi, X.up, GR.rf⟩
theorem C_stuck {i : Int} (hn : 20000 ≤ n) (hi : i ≤ 2147483647) (X : XW h0 y κ σ g τ c) : ∃ y' κ' σ' g' τ' v, fX11_stuck n [.inr (some (y.2 9 0)), .inl i] (pu_H y κ σ g) = some (some (.inl v), pu_H y' κ' σ g') ∧ fX12_stuck n [.inr (some (y'.2 13 0)), .inl i] (pu_H y' κ' σ g') = some (some (.inl v), pu_H y' κ' σ' g') ∧ XW h0 y' κ' σ' g' τ' (c + 1) ∧ GR y y' := ⟨y, κ, σ, g, τ, _, k_stuck (by omega) X.1, R_stuck X.2.2.2.2.1 (by omega) X.2.2.2.1 X.wi hi, X.up, GR.rf⟩
theorem C_interrupt {t b : Int} (hn : 20000 ≤ n) (X : XW h0 y κ σ g τ c) : ∃ y' κ' σ' g' τ' v, fX11_interrupt n [.inr (some (y.2 9 0)), .inl t, .inl b] (pu_H y κ σ g) = some (some (.inl v), pu_H y' κ' σ g') ∧ fX12_interrupt n [.inr (some (y'.2 13 0)), .inl t, .inl b] (pu_H y' κ' σ g') = some (some (.inl v), pu_H y' κ' σ' g') ∧ XW h0 y' κ' σ' g' τ' (c + 1) ∧ GR y y' := by
  have X0 := X
  obtain ⟨a1, a2, a3, a4, a5, a6, a7, a8, a9, a10⟩ := X
  have k := k_interrupt (σ := σ) (g := g) (n := n) (t := t) (b := b) (by omega) a1 a2
  by_cases ok : p_intok τ t b
  · rw [if_pos ok] at k
    obtain ⟨κ', e1, e2, e3⟩ := k
    have r := R_interrupt (κ := κ') (g := g) (n := n) a5 (by omega) a4 X0.wi (t := t) (b := b) ⟨by have := a2.1; have := a2.2.1; omega, a2.2.1⟩
    rw [if_pos ok] at r
    obtain ⟨σ', r1, r2⟩ := r
    have E : ∀ (c : Nat) (i : Int), c ≠ 35 → c ≠ 36 → c ≠ 38 → c ≠ 37 → (b_interrupt τ t b).1 c i = τ.1 c i := fun c i n1 n2 n3 n4 => by
      unfold b_interrupt
      rw [b_up_c _ _ _ _ _ _ n4, b_up_c _ _ _ _ _ _ n3, b_up_c _ _ _ _ _ _ n2, b_up_c _ _ _ _ _ _ n1]
    exact ⟨y, κ', σ', g, b_interrupt τ t b, 1, e1, r1, ⟨e2, e3, a3.interrupt t b, r2, a5, a6.same (E 0 0 (by decide) (by decide) (by decide) (by decide)) (E 1 0 (by decide) (by decide) (by decide) (by decide)) (fun i => E 3 i (by decide) (by decide) (by decide) (by decide)), a7, a8, by omega, by omega⟩, GR.rf⟩
  · rw [if_neg ok] at k
    have r := R_interrupt (κ := κ) (g := g) (n := n) a5 (by omega) a4 X0.wi (t := t) (b := b) ⟨by have := a2.1; have := a2.2.1; omega, a2.2.1⟩
    rw [if_neg ok] at r
    exact ⟨y, κ, σ, g, τ, 0, k, r, X0.up, GR.rf⟩
theorem C_close {d b : Int} (hn : 20000 ≤ n) (X : XW h0 y κ σ g τ c) : ∃ y' κ' σ' g' τ' v, fX11_close n [.inr (some (y.2 9 0)), .inl d, .inl b] (pu_H y κ σ g) = some (some (.inl v), pu_H y' κ' σ g') ∧ fX12_close n [.inr (some (y'.2 13 0)), .inl d, .inl b] (pu_H y' κ' σ g') = some (some (.inl v), pu_H y' κ' σ' g') ∧ XW h0 y' κ' σ' g' τ' (c + 1) ∧ GR y y' := by
  have X0 := X
  obtain ⟨a1, a2, a3, a4, a5, a6, a7, a8, a9, a10⟩ := X
  have k := k_closing (σ := σ) (g := g) (n := n) (d := d) (b := b) (by omega) a1 a2
  by_cases ok : p_closeok τ d b
  · rw [if_pos ok] at k
    obtain ⟨κ', e1, e2, e3⟩ := k
    have r := R_close (κ := κ') (g := g) (n := n) a5 (by omega) a4 X0.wi (d := d) (b := b) (by have := a2.1; have := a2.2.1; omega)
    rw [if_pos ok] at r
    obtain ⟨σ', r1, r2⟩ := r
    have E : ∀ (c : Nat) (i : Int), c ≠ 21 → c ≠ 37 → (b_close τ d b).1 c i = τ.1 c i := fun c i n1 n2 => by
      unfold b_close
      rw [b_up_c _ _ _ _ _ _ n2, b_up_c _ _ _ _ _ _ n1]
    exact ⟨y, κ', σ', g, b_close τ d b, 1, e1, r1, ⟨e2, e3, a3.close d b, r2, a5, a6.same (E 0 0 (by decide) (by decide)) (E 1 0 (by decide) (by decide)) (fun i => E 3 i (by decide) (by decide)), a7, a8, by omega, by omega⟩, GR.rf⟩
  · rw [if_neg ok] at k
    have r := R_close (κ := κ) (g := g) (n := n) a5 (by omega) a4 X0.wi (d := d) (b := b) (by have := a2.1; have := a2.2.1; omega)
    rw [if_neg ok] at r
    exact ⟨y, κ, σ, g, τ, 0, k, r, X0.up, GR.rf⟩
theorem C_run {u : Int} (hn : 20000 ≤ n) (X : XW h0 y κ σ g τ c) : ∃ y' κ' σ' g' τ' v, fX11_run n [.inr (some (y.2 9 0)), .inl u] (pu_H y κ σ g) = some (some (.inl v), pu_H y' κ' σ g') ∧ fX12_run n [.inr (some (y'.2 13 0)), .inl u] (pu_H y' κ' σ g') = some (some (.inl v), pu_H y' κ' σ' g') ∧ XW h0 y' κ' σ' g' τ' (c + 1) ∧ GR y y' := by
  have X0 := X
  obtain ⟨a1, a2, a3, a4, a5, a6, a7, a8, a9, a10⟩ := X
  obtain ⟨κ', e1, e2⟩ := k_run (σ := σ) (g := g) (n := n) (u := u) (by omega) a1
  obtain ⟨σ', r1, r2, r3⟩ := R_run (κ := κ') (g := g) (n := n) a5 (by omega) a4 X0.wi a1.1.2.2.2.1 a1.2.2.2.1 (by omega) (u := u)
  have h9 := X0.wi.2.2.2.2.2.2.2.2
  refine ⟨y, κ', σ', g, _, _, e1, r1, ⟨e2, ?_, ?_, r2, a5, ?_, a7, a8, by omega, by omega⟩, GR.rf⟩
  · split
    · exact a2
    · unfold PL
      rw [run_static (c := 38) rfl (by decide), run_static (c := 37) rfl (by decide)]
      exact a2
  · split
    · exact a3
    · exact ZI.run _ _ a3 h9.1
  · split
    · exact a6
    · exact a6.same (run_static (c := 0) rfl (by decide) 0 _ _) (run_static (c := 1) rfl (by decide) 0 _ _) (fun i => run_static (c := 3) rfl (by decide) i _ _)
theorem C_thread (hn : 20000 ≤ n) (X : XW h0 y κ σ g τ c) : ∃ y' κ' σ' g' τ' v, fX11_thread n [.inr (some (y.2 9 0))] (pu_H y κ σ g) = some (some (.inl v), pu_H y' κ' σ g') ∧ fX12_thread n [.inr (some (y'.2 13 0))] (pu_H y' κ' σ g') = some (some (.inl v), pu_H y' κ' σ' g') ∧ XW h0 y' κ' σ' g' τ' (c + 1) ∧ GR y y' := by
  have X0 := X
  obtain ⟨a1, a2, a3, a4, a5, a6, a7, a8, a9, a10⟩ := X
  have k := k_thread (σ := σ) (n := n) a1 a3 a6 a7 a5
  by_cases ok : τ.1 0 0 ≠ 16
  · rw [if_pos ok] at k
    obtain ⟨y', g', e1, e2, e3, e4, e5, e6, e7, e8, e9⟩ := k
    have r := R_thread (κ := c_thread κ) (g := g') (n := n) e4 (by omega) a4 X0.wi
    rw [if_pos ok] at r
    obtain ⟨σ', r1, r2⟩ := r
    have w9 : g'.2.1 ≤ h0.2.1 + 39 + 5 * (c + 1) := by omega
    have w10 : g'.2.2 ≤ h0.2.2 + 140000 + 400 * (c + 1) := w_aux e9 a10
    exact ⟨y', _, σ', g', b_thread τ, _, e1, r1, ⟨e2, a2.of (fun c hc => th_e _ _ _ (by omega) (by omega)), a3.thread ok, r2, e4, e3, Nat.le_trans a7 e7, e6.trans a8, w9, w10⟩, e5⟩
  · rw [if_neg ok] at k
    have r := R_thread (κ := κ) (g := g) (n := n) a5 (by omega) a4 X0.wi
    rw [if_neg ok] at r
    exact ⟨y, κ, σ, g, τ, -1, k, r, X0.up, GR.rf⟩
theorem C_step {t d act a w : Int} (hn : 20000 ≤ n) (X : XW h0 y κ σ g τ c) : ∃ y' κ' σ' g' τ' v, fX11_step n [.inr (some (y.2 9 0)), .inl t, .inl d, .inl act, .inl a, .inl w] (pu_H y κ σ g) = some (some (.inl v), pu_H y' κ' σ g') ∧ fX12_step n [.inr (some (y'.2 13 0)), .inl t, .inl d, .inl act, .inl a, .inl w] (pu_H y' κ' σ g') = some (some (.inl v), pu_H y' κ' σ' g') ∧ XW h0 y' κ' σ' g' τ' (c + 1) ∧ GR y y' := by
  have X0 := X
  obtain ⟨a1, a2, a3, a4, a5, a6, a7, a8, a9, a10⟩ := X
  by_cases ok : p_stepok τ t d act a w
  · obtain ⟨y', κ', g', e1, e2, e3, e4, e5, e6, e7, e8, e9⟩ := k_step (σ := σ) (n := n) (by omega) a1 a3 a6 a7 a5 ok
    have r := R_step (κ := κ') (g := g') (n := n) e4 (by omega) a4 X0.wi (t := t) (d := d) (act := act) (a := a) (w := w)
    rw [if_pos ok] at r
    obtain ⟨σ', r1, r2⟩ := r
    have w9 : g'.2.1 ≤ h0.2.1 + 39 + 5 * (c + 1) := by omega
    have w10 : g'.2.2 ≤ h0.2.2 + 140000 + 400 * (c + 1) := w_aux e9 a10
    exact ⟨y', κ', σ', g', b_step τ t d act a w, _, e1, r1, ⟨e2, a2.of (fun c hc => st0_e (t := t) (d := d) (act := act) (a := a) (w := w) τ.1 c 0 (by omega)), a3.step ok, r2, e4, e3, Nat.le_trans a7 e7, e6.trans a8, w9, w10⟩, e5⟩
  · have k := k_step_n (σ := σ) (g := g) (n := n) (by omega) a1 ok
    have r := R_step (κ := κ) (g := g) (n := n) a5 (by omega) a4 X0.wi (t := t) (d := d) (act := act) (a := a) (w := w)
    rw [if_neg ok] at r
    exact ⟨y, κ, σ, g, τ, -1, k, r, X0.up, GR.rf⟩
theorem C_device {b L aL aM : Nat} {xs : Nat → Int32} {k x : Int} (hn : 20000 ≤ n) (hc : c ≤ 1000) (S : jp_Start h0 b L aL aM xs) (X : XW h0 y κ σ g τ c) : ∃ y' κ' σ' g' τ' v, fX11_device n [.inr (some (y.2 9 0)), .inl k, .inl x] (pu_H y κ σ g) = some (some (.inl v), pu_H y' κ' σ g') ∧ fX12_device n [.inr (some (y'.2 13 0)), .inl k, .inl x] (pu_H y' κ' σ g') = some (some (.inl v), pu_H y' κ' σ' g') ∧ XW h0 y' κ' σ' g' τ' (c + 1) ∧ GR y y' := by
  have X0 := X
  have hb := X.tb hc S
  obtain ⟨a1, a2, a3, a4, a5, a6, a7, a8, a9, a10⟩ := X
  by_cases ok : p_devok τ k x
  · obtain ⟨y', κ', g', e1, e2, e3, e4, e5, e6, e7, e8, e9⟩ := k_device (σ := σ) (n := n) (by omega) a1 a3 a6 a7 a5 hb ok
    have r := R_device (κ := κ') (g := g') (n := n) e4 (by omega) a4 X0.wi (k := k) (x := x)
    rw [if_pos ok] at r
    obtain ⟨σ', r1, r2⟩ := r
    have w9 : g'.2.1 ≤ h0.2.1 + 39 + 5 * (c + 1) := by omega
    have w10 : g'.2.2 ≤ h0.2.2 + 140000 + 400 * (c + 1) := w_aux e9 a10
    exact ⟨y', κ', σ', g', b_device τ k x, _, e1, r1, ⟨e2, a2.of (fun c hc => dv_E _ _ _ (by omega) (by omega)), a3.device ok, r2, e4, e3, Nat.le_trans a7 e7, e6.trans a8, w9, w10⟩, e5⟩
  · have q := k_device_no (σ := σ) (n := n) (by omega) a1 hb ok
    have r := R_device (κ := κ) (g := g) (n := n) a5 (by omega) a4 X0.wi (k := k) (x := x)
    rw [if_neg ok] at r
    exact ⟨y, κ, σ, g, τ, -1, q, r, X0.up, GR.rf⟩
end CALLS
