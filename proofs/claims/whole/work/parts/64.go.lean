theorem jm_wr_le {p n : Int} (h : n ≤ p) (h0 : 0 ≤ n) : jm_wr (p - n) ≤ p := by
  unfold jm_wr
  rw [Int.bmod_def]
  split <;> omega
theorem l_find_mid {l1 l2 : List Int} {x : Int} {p : Int → Bool} (h1 : ∀ z ∈ l1, p z = false) (hx : p x = true) : (l1 ++ x :: l2).find? p = some x := by
  induction l1 with
  | nil => rw [List.nil_append, List.find?_cons, hx]
  | cons a l ih =>
    rw [List.cons_append, List.find?_cons, h1 a List.mem_cons_self]
    exact ih (fun z hz => h1 z (List.mem_cons_of_mem _ hz))
theorem l_find_no {l : List Int} {p : Int → Bool} (h : ∀ z ∈ l, p z = false) : l.find? p = none := List.find?_eq_none.mpr (fun z hz => by rw [h z hz]; decide)
theorem lets_nil {τ : bS} {d : Int} (hl : τ.2 d = []) : b_letsOne τ d = none := by
  unfold b_letsOne
  rw [hl]
theorem lets_0 {τ : bS} {d : Int} (hk : τ.1 18 d = 0) : b_letsOne τ d = b_perm τ d ((τ.2 d).find? (fun t => decide (b_num τ t ≤ τ.1 24 d))) := by
  cases hl : τ.2 d with
  | nil => rw [lets_nil hl]; rfl
  | cons f l =>
    unfold b_letsOne
    rw [hl]
    dsimp only
    rw [if_pos hk]
theorem lets_1 {τ : bS} {d : Int} (hk : τ.1 18 d = 1) {f : Int} {l : List Int} (hl : τ.2 d = f :: l) : b_letsOne τ d = b_perm τ d ([f].find? (fun t => decide (b_num τ t ≤ τ.1 24 d))) := by
  unfold b_letsOne
  rw [hl]
  dsimp only
  rw [if_neg (by omega), if_pos hk]
theorem lets_2 {τ : bS} {d : Int} (hk : τ.1 18 d = 2) {f : Int} {l : List Int} (hl : τ.2 d = f :: l) : b_letsOne τ d = if 0 < τ.1 24 d then none else some (b_goes τ f 0) := by
  unfold b_letsOne
  rw [hl]
  dsimp only
  rw [if_neg (by omega), if_neg (by omega), if_pos hk]
theorem lets_5 {τ : bS} {d : Int} (hk : τ.1 18 d = 5) {f : Int} {l : List Int} (hl : τ.2 d = f :: l) : b_letsOne τ d = b_letsLock τ d f := by
  unfold b_letsOne
  rw [hl]
  dsimp only
  rw [if_neg (by omega), if_neg (by omega), if_neg (by omega), if_pos hk]
theorem lets_7 {τ : bS} {d : Int} (hk : τ.1 18 d = 7) : b_letsOne τ d = b_tick τ ((τ.2 d).find? (fun t => decide (b_num τ t < τ.1 27 d))) := by
  cases hl : τ.2 d with
  | nil => rw [lets_nil hl]; rfl
  | cons f l =>
    unfold b_letsOne
    rw [hl]
    dsimp only
    rw [if_neg (by omega), if_neg (by omega), if_neg (by omega), if_neg (by omega), if_pos hk]
theorem lets_8 {τ : bS} {d : Int} (hk : τ.1 18 d = 8) {f : Int} {l : List Int} (hl : τ.2 d = f :: l) : b_letsOne τ d = if τ.1 25 d = 0 then none else some (b_goes τ f (τ.1 27 d)) := by
  unfold b_letsOne
  rw [hl]
  dsimp only
  rw [if_neg (by omega), if_neg (by omega), if_neg (by omega), if_neg (by omega), if_neg (by omega), if_pos hk]
theorem lets_10 {τ : bS} {d : Int} (hk : τ.1 18 d = 10) {f : Int} {l : List Int} (hl : τ.2 d = f :: l) : b_letsOne τ d = if τ.1 25 d = 1 then none else some (b_goes τ f 0) := by
  unfold b_letsOne
  rw [hl]
  dsimp only
  rw [if_neg (by omega), if_neg (by omega), if_neg (by omega), if_neg (by omega), if_neg (by omega), if_neg (by omega), if_pos hk]
theorem lets_11 {τ : bS} {d : Int} (hk : τ.1 18 d = 11) {f : Int} {l : List Int} (hl : τ.2 d = f :: l) : b_letsOne τ d = if 0 ≤ τ.1 26 d then none else if b_first τ d < 0 then none else some (b_goes (b_up τ 26 d (b_first τ d)) (b_first τ d) 0) := by
  unfold b_letsOne
  rw [hl]
  dsimp only
  rw [if_neg (by omega), if_neg (by omega), if_neg (by omega), if_neg (by omega), if_neg (by omega), if_neg (by omega), if_neg (by omega), if_pos hk]
theorem lets_no {τ : bS} {d : Int} (hk : τ.1 18 d = 3 ∨ τ.1 18 d = 4 ∨ τ.1 18 d = 6 ∨ τ.1 18 d = 9) : b_letsOne τ d = none := by
  unfold b_letsOne
  cases hl : τ.2 d with
  | nil => rfl
  | cons f l =>
    dsimp only
    rw [if_neg (by omega), if_neg (by omega), if_neg (by omega), if_neg (by omega), if_neg (by omega), if_neg (by omega), if_neg (by omega), if_neg (by omega)]
theorem b_letsGo_no {τ : bS} {d : Int} (h : b_letsOne τ d = none) (k : Nat) : b_letsGo τ d k = τ := by
  cases k with
  | zero => rfl
  | succ k => rw [b_letsGo, h]
theorem JK.c {τ : bS} {d : Int} (h : JK τ d) : (τ.1 20 d = 0 ∨ τ.1 20 d = 1) ∧ (τ.1 20 d = 1 → τ.2 d = []) := h.2.2.2.2.2.2.2.2.2
theorem JK.k01 {τ : bS} {d : Int} (hk : τ.1 18 d = 0 ∨ τ.1 18 d = 1) (h : J01 τ d) (hc : (τ.1 20 d = 0 ∨ τ.1 20 d = 1) ∧ (τ.1 20 d = 1 → τ.2 d = [])) : JK τ d := by
  refine ⟨fun _ => h, fun k => ?_, fun k => ?_, fun k => ?_, fun k => ?_, fun k => ?_, fun k => ?_, fun k => ?_, fun k => ?_, hc.1, hc.2⟩ <;> (exfalso; omega)
theorem JK.k2 {τ : bS} {d : Int} (hk : τ.1 18 d = 2) (h : J2 τ d) (hc : (τ.1 20 d = 0 ∨ τ.1 20 d = 1) ∧ (τ.1 20 d = 1 → τ.2 d = [])) : JK τ d := by
  refine ⟨fun k => ?_, fun _ => h, fun k => ?_, fun k => ?_, fun k => ?_, fun k => ?_, fun k => ?_, fun k => ?_, fun k => ?_, hc.1, hc.2⟩ <;> (exfalso; omega)
theorem JK.k3 {τ : bS} {d : Int} (hk : τ.1 18 d = 3) (h : J3 τ d) (hc : (τ.1 20 d = 0 ∨ τ.1 20 d = 1) ∧ (τ.1 20 d = 1 → τ.2 d = [])) : JK τ d := by
  refine ⟨fun k => ?_, fun k => ?_, fun _ => h, fun k => ?_, fun k => ?_, fun k => ?_, fun k => ?_, fun k => ?_, fun k => ?_, hc.1, hc.2⟩ <;> (exfalso; omega)
theorem JK.k5 {τ : bS} {d : Int} (hk : τ.1 18 d = 5) (h : J5 τ d) (hc : (τ.1 20 d = 0 ∨ τ.1 20 d = 1) ∧ (τ.1 20 d = 1 → τ.2 d = [])) : JK τ d := by
  refine ⟨fun k => ?_, fun k => ?_, fun k => ?_, fun _ => h, fun k => ?_, fun k => ?_, fun k => ?_, fun k => ?_, fun k => ?_, hc.1, hc.2⟩ <;> (exfalso; omega)
theorem JK.k6 {τ : bS} {d : Int} (hk : τ.1 18 d = 6) (h : J6 τ d) (hc : (τ.1 20 d = 0 ∨ τ.1 20 d = 1) ∧ (τ.1 20 d = 1 → τ.2 d = [])) : JK τ d := by
  refine ⟨fun k => ?_, fun k => ?_, fun k => ?_, fun k => ?_, fun _ => h, fun k => ?_, fun k => ?_, fun k => ?_, fun k => ?_, hc.1, hc.2⟩ <;> (exfalso; omega)
theorem JK.k7 {τ : bS} {d : Int} (hk : τ.1 18 d = 7) (h : J7 τ d) (hc : (τ.1 20 d = 0 ∨ τ.1 20 d = 1) ∧ (τ.1 20 d = 1 → τ.2 d = [])) : JK τ d := by
  refine ⟨fun k => ?_, fun k => ?_, fun k => ?_, fun k => ?_, fun k => ?_, fun _ => h, fun k => ?_, fun k => ?_, fun k => ?_, hc.1, hc.2⟩ <;> (exfalso; omega)
theorem JK.k8 {τ : bS} {d : Int} (hk : τ.1 18 d = 8) (h : J8 τ d) (hc : (τ.1 20 d = 0 ∨ τ.1 20 d = 1) ∧ (τ.1 20 d = 1 → τ.2 d = [])) : JK τ d := by
  refine ⟨fun k => ?_, fun k => ?_, fun k => ?_, fun k => ?_, fun k => ?_, fun k => ?_, fun _ => h, fun k => ?_, fun k => ?_, hc.1, hc.2⟩ <;> (exfalso; omega)
theorem JK.k10 {τ : bS} {d : Int} (hk : τ.1 18 d = 10) (h : J10 τ d) (hc : (τ.1 20 d = 0 ∨ τ.1 20 d = 1) ∧ (τ.1 20 d = 1 → τ.2 d = [])) : JK τ d := by
  refine ⟨fun k => ?_, fun k => ?_, fun k => ?_, fun k => ?_, fun k => ?_, fun k => ?_, fun k => ?_, fun _ => h, fun k => ?_, hc.1, hc.2⟩ <;> (exfalso; omega)
theorem JK.k11 {τ : bS} {d : Int} (hk : τ.1 18 d = 11) (h : J11 τ d) (hc : (τ.1 20 d = 0 ∨ τ.1 20 d = 1) ∧ (τ.1 20 d = 1 → τ.2 d = [])) : JK τ d := by
  refine ⟨fun k => ?_, fun k => ?_, fun k => ?_, fun k => ?_, fun k => ?_, fun k => ?_, fun k => ?_, fun k => ?_, fun _ => h, hc.1, hc.2⟩ <;> (exfalso; omega)
theorem JK.k49 {τ : bS} {d : Int} (hk : τ.1 18 d = 4 ∨ τ.1 18 d = 9) (hc : (τ.1 20 d = 0 ∨ τ.1 20 d = 1) ∧ (τ.1 20 d = 1 → τ.2 d = [])) : JK τ d := by
  refine ⟨fun k => ?_, fun k => ?_, fun k => ?_, fun k => ?_, fun k => ?_, fun k => ?_, fun k => ?_, fun k => ?_, fun k => ?_, hc.1, hc.2⟩ <;> (exfalso; omega)
theorem JA.up1 {τ : bS} (hJ : JA τ) (hI : WI τ) {c : Nat} (hc : c = 24 ∨ c = 25 ∨ c = 26 ∨ c = 27) {d v : Int} (hd : JK (b_up τ c d v) d) : JA (b_up τ c d v) := fun e e0 e1 => by
  by_cases he : e = d
  · rw [he]
    exact hd
  · exact (hJ e e0 e1).up (hI.rg e0 e1) e1 d v (Or.inl ⟨hc, fun z => he z.symm⟩)
theorem JA.out {τ : bS} (hJ : JA τ) (hI : WI τ) {d x : Int} (hd0 : 0 ≤ d) (hd1 : d < 12) (hx : x ∈ τ.2 d) (o v : Int) : JA (b_out τ x o v) := fun e e0 e1 => (hJ e e0 e1).out hI e0 e1 hd0 hd1 hx o v
theorem b_num_out (τ : bS) (x o v z : Int) : b_num (b_out τ x o v) z = b_num τ z := by
  unfold b_num
  rw [b_out_c _ _ _ _ _ _ (by decide), b_out_c _ _ _ _ _ _ (by decide)]
theorem b_num_up (τ : bS) {c : Nat} (i v z : Int) (hc : c ≠ 4 ∧ c ≠ 12) : b_num (b_up τ c i v) z = b_num τ z := by
  unfold b_num
  rw [b_up_c _ _ _ _ _ _ (Ne.symm hc.1), b_up_c _ _ _ _ _ _ (Ne.symm hc.2)]
theorem b_s_up (τ : bS) {c : Nat} (i v z : Int) (hc : c ≠ 4) : b_s (b_up τ c i v) z = b_s τ z := by
  unfold b_s
  rw [b_up_c _ _ _ _ _ _ (Ne.symm hc)]
theorem wt_up (τ : bS) {c : Nat} (i v z : Int) (hc : c ≠ 4 ∧ c ≠ 14) : wt (b_up τ c i v) z = wt τ z := by
  unfold wt
  rw [b_s_up _ _ _ _ hc.1, b_up_c _ _ _ _ _ _ (Ne.symm hc.2)]
theorem OKt_up {τ : bS} {c : Nat} {i v z : Int} (hc : c ≠ 4) (h : OKt τ z) : OKt (b_up τ c i v) z := by
  unfold OKt at h ⊢
  rw [b_up_c _ _ _ _ _ _ (Ne.symm hc)]
  exact h
theorem c_pass_c (κ : aS) (s v : Int) (c : Nat) (i : Int) (h1 : c ≠ 14) (h2 : c ≠ 15) : c_pass κ s v c i = κ c i := by
  unfold c_pass
  rw [pu_up_ne _ _ _ _ h2, pu_up_ne _ _ _ _ h1]
theorem c_pass_14 (κ : aS) (s v i : Int) : c_pass κ s v 14 i = if i = s then 0 else κ 14 i := by
  unfold c_pass
  rw [pu_up_ne _ _ _ _ (by decide), pu_up_c]
theorem c_pass_15 (κ : aS) (s v i : Int) : c_pass κ s v 15 i = if i = s then v else κ 15 i := by
  unfold c_pass
  rw [pu_up_c, pu_up_ne _ _ _ _ (by decide)]
theorem Mq.len {κ : aS} {τ : bS} {d : Int} {Λ : Int → List Int} {pre P : List Int} (h : Mq κ τ d Λ pre P) (hd0 : 0 ≤ d) (hd1 : d < 12) : (Λ d).length ≤ 16 := l_len 16 _ (h.2.1 d hd0 hd1).2.2.2.1 (fun x hx => by
  have := h.ok hd0 hd1 hx
  unfold OKt at this
  omega)
theorem b_out_0 (τ : bS) (x v : Int) : b_out τ x 0 v = b_goes τ x v := by
  unfold b_out
  rw [if_pos rfl]
theorem pm_sim {κ : aS} {τ : bS} {d : Int} {Λ : Int → List Int} {pre P : List Int} (hd0 : 0 ≤ d) (hd1 : d < 12) (hk : τ.1 18 d = 0 ∨ τ.1 18 d = 1) (h : Mq κ τ d Λ pre P) (hJ : JA τ) (hp : ∀ z ∈ Λ d, ps τ z = false) : ∃ P', Mq (c_permgo κ d) (b_letsGo τ d 17) d Λ pre P' ∧ JA (b_letsGo τ d 17) ∧ b_letsOne (b_letsGo τ d 17) d = none := by
  have l16 := h.len hd0 hd1
  have e23 : κ 23 d = ((Λ d).length : Nat) := (h.2.1 d hd0 hd1).1
  have g := lets_sim (Λ := Λ) (pre := pre) hd0 hd1 (f := c_pm d) (fun κ τ l1 => JA τ ∧ (τ.1 18 d = 0 ∨ τ.1 18 d = 1) ∧ (∀ z ∈ l1, wt τ z = true → ¬ b_num τ z ≤ τ.1 24 d) ∧ (τ.1 18 d = 1 → ∀ z ∈ l1, wt τ z = false)) ?_ ?_ ?_ (Λ d) [] κ τ P 17 rfl h ⟨hJ, hk, by simp, by simp⟩ hp (by omega)
  · obtain ⟨P', l', g1, g2⟩ := g
    refine ⟨P', ?_, g2.1.1, g2.2⟩
    unfold c_permgo
    rw [e23, Int.toNat_natCast]
    exact g1
  · intro κ τ P l1 l2 x hl hM hq hw
    obtain ⟨q1, q2, q3, q4⟩ := hq
    refine ⟨q1, q2, fun z hz hwz => ?_, fun k z hz => ?_⟩
    · rcases List.mem_append.mp hz with hz | hz
      · exact q3 z hz hwz
      · rw [List.mem_singleton.mp hz, hw] at hwz
        cases hwz
    · rcases List.mem_append.mp hz with hz | hz
      · exact q4 k z hz
      · rw [List.mem_singleton.mp hz]
        exact hw
  · intro κ τ P l1 l2 x hl hM hq hw
    obtain ⟨q1, q2, q3, q4⟩ := hq
    have hx := hM.mem hd0 hd1 (by rw [hl]; simp) hw
    have hI := hM.2.2.2.1
    have e12 : κ 12 (b_s τ x) = b_num τ x := hM.1.1 12 _ rfl
    have e24 : κ 24 d = τ.1 24 d := hM.1.1 24 d rfl
    have e18 : κ 18 d = τ.1 18 d := hM.1.1 18 d rfl
    have hn1 : 1 ≤ b_num τ x := (q1 d hd0 hd1).1 q2 x hx
    have hsp := hM.split hd0 hd1 hl hw
    have xO := hM.ok hd0 hd1 (x := x) (by rw [hl]; simp)
    have hnd := hM.nd hd0 hd1 hl
    by_cases hf : b_num τ x ≤ τ.1 24 d
    · have hI1 : WI (b_up τ 24 d (jm_wr (τ.1 24 d - b_num τ x))) := hI.up24 d _ (fun h6 => by omega)
      have hJ1 : JA (b_up τ 24 d (jm_wr (τ.1 24 d - b_num τ x))) := q1.up1 hI (by decide) (JK.k01 (by rw [b_up_c _ _ _ _ _ _ (by decide)]; exact q2) (fun z hz => by rw [b_num_up _ _ _ _ (by decide)]; exact (q1 d hd0 hd1).1 q2 z hz) (by rw [b_up_c _ _ _ _ _ _ (by decide)]; exact (q1 d hd0 hd1).c))
      refine Or.inr (Or.inr ⟨pu_up κ 24 d (jm_wr (τ.1 24 d - b_num τ x)), c_pass (pu_up κ 24 d (jm_wr (τ.1 24 d - b_num τ x))) (b_s τ x) (jm_wr (τ.1 24 d - b_num τ x)), b_up τ 24 d (jm_wr (τ.1 24 d - b_num τ x)), jm_wr (τ.1 24 d - b_num τ x), ?_, ?_, hM.up d _ (Or.inl rfl) hI1, fun i => b_up_c _ _ _ _ _ _ (by decide), fun i => b_up_c _ _ _ _ _ _ (by decide), fun c i h1 h2 => c_pass_c _ _ _ _ _ h1 h2, fun i => c_pass_14 _ _ _ _, fun i => c_pass_15 _ _ _ _, ?_⟩)
      · unfold c_pm
        rw [e12, e24, if_pos hf]
      · have e0 : b_letsOne τ d = b_perm τ d (some x) := by
          rcases q2 with q2 | q2
          · rw [lets_0 q2, hsp, l_find_mid (fun z hz => by
              have := List.mem_filter.mp hz
              simpa using q3 z this.1 this.2) (by simpa using hf)]
          · have hl0 : l1.filter (wt τ) = [] := List.filter_eq_nil_iff.mpr (fun z hz => by rw [q4 q2 z hz]; decide)
            rw [hl0, List.nil_append] at hsp
            rw [lets_1 q2 hsp]
            congr 1
            rw [List.find?_cons]
            simp [hf]
        rw [e0, b_out_0]
        rfl
      · refine ⟨hJ1.out hI1 hd0 hd1 hx 0 _, ?_, fun z hz hwz => ?_, fun k z hz => ?_⟩
        · rw [b_out_c _ _ _ _ _ _ (by decide), b_up_c _ _ _ _ _ _ (by decide)]
          exact q2
        · rcases List.mem_append.mp hz with hz | hz
          · rw [wt_out (OKt_up (by decide) xO) (OKt_up (by decide) (hM.ok hd0 hd1 (by rw [hl]; exact List.mem_append_left _ hz))) (fun e => hnd.1 (e ▸ hz)), wt_up _ _ _ _ (by decide)] at hwz
            rw [b_num_out, b_num_up _ _ _ _ (by decide), b_out_c _ _ _ _ _ _ (by decide)]
            have e1 : (b_up τ 24 d (jm_wr (τ.1 24 d - b_num τ x))).1 24 d = jm_wr (τ.1 24 d - b_num τ x) := pu_up_at _ _ _ _
            rw [e1]
            have := q3 z hz hwz
            have := jm_wr_le hf (by omega)
            omega
          · rw [List.mem_singleton.mp hz, wt_self (by decide)] at hwz
            cases hwz
        · rw [b_out_c _ _ _ _ _ _ (by decide), b_up_c _ _ _ _ _ _ (by decide)] at k
          rcases List.mem_append.mp hz with hz | hz
          · rw [wt_out (OKt_up (by decide) xO) (OKt_up (by decide) (hM.ok hd0 hd1 (by rw [hl]; exact List.mem_append_left _ hz))) (fun e => hnd.1 (e ▸ hz)), wt_up _ _ _ _ (by decide)]
            exact q4 k z hz
          · rw [List.mem_singleton.mp hz]
            exact wt_self (by decide)
    · rcases q2 with q2 | q2
      · refine Or.inr (Or.inl ⟨?_, q1, Or.inl q2, fun z hz hwz => ?_, fun k => by omega⟩)
        · unfold c_pm
          rw [e12, e24, if_neg hf, if_neg (by rw [e18]; omega)]
        · rcases List.mem_append.mp hz with hz | hz
          · exact q3 z hz hwz
          · rw [List.mem_singleton.mp hz]
            exact hf
      · refine Or.inl ⟨?_, ?_⟩
        · unfold c_pm
          rw [e12, e24, if_neg hf, if_pos (by rw [e18]; exact q2)]
        · have hl0 : l1.filter (wt τ) = [] := List.filter_eq_nil_iff.mpr (fun z hz => by rw [q4 q2 z hz]; decide)
          rw [hl0, List.nil_append] at hsp
          rw [lets_1 q2 hsp, List.find?_cons]
          simp [hf, b_perm]
  · intro κ τ P hM hq
    obtain ⟨q1, q2, q3, q4⟩ := hq
    have hl := (hM.2.1 d hd0 hd1).2.2.1
    rcases q2 with q2 | q2
    · rw [lets_0 q2, l_find_no (fun z hz => ?_)]
      · rfl
      · rw [hl] at hz
        have := List.mem_filter.mp hz
        simpa using q3 z this.1 this.2
    · refine lets_nil ?_
      rw [hl]
      exact List.filter_eq_nil_iff.mpr (fun z hz => by rw [q4 q2 z hz]; decide)
theorem c_has_eq {κ : aS} {τ : bS} (m : ∀ (c : Nat) (i : Int), mr_c c = true → κ c i = τ.1 c i) (d s : Int) : c_has κ d s = c_has τ.1 d s ∧ c_vb κ d = c_vb τ.1 d := by
  unfold c_has c_vb
  rw [m 18 d rfl, m 12 s rfl, m 27 d rfl, m 25 d rfl, m 24 d rfl]
  exact ⟨rfl, rfl⟩
theorem c_has_out (τ : bS) (x o v d z : Int) : c_has (b_out τ x o v).1 d (b_s (b_out τ x o v) z) = c_has τ.1 d (b_s τ z) := by
  unfold c_has
  rw [b_out_s, b_out_c _ _ _ _ _ _ (by decide), b_out_c _ _ _ _ _ _ (by decide), b_out_c _ _ _ _ _ _ (by decide), b_out_c _ _ _ _ _ _ (by decide), b_out_c _ _ _ _ _ _ (by decide)]
theorem sg_sim {κ : aS} {τ : bS} {d : Int} {Λ : Int → List Int} {pre P : List Int} (hd0 : 0 ≤ d) (hd1 : d < 12) (hk : τ.1 18 d = 2 ∨ τ.1 18 d = 7 ∨ τ.1 18 d = 8 ∨ τ.1 18 d = 10) (h : Mq κ τ d Λ pre P) (hJ : JA τ) (hp : ∀ z ∈ Λ d, ps τ z = false) : ∃ P', Mq (c_signgo κ d) (b_letsGo τ d 17) d Λ pre P' ∧ JA (b_letsGo τ d 17) ∧ b_letsOne (b_letsGo τ d 17) d = none := by
  have l16 := h.len hd0 hd1
  have e23 : κ 23 d = ((Λ d).length : Nat) := (h.2.1 d hd0 hd1).1
  have g := lets_sim (Λ := Λ) (pre := pre) hd0 hd1 (f := c_sg d) (fun κ τ l1 => JA τ ∧ (τ.1 18 d = 2 ∨ τ.1 18 d = 7 ∨ τ.1 18 d = 8 ∨ τ.1 18 d = 10) ∧ (∀ z ∈ l1, wt τ z = true → c_has τ.1 d (b_s τ z) = false)) ?_ ?_ ?_ (Λ d) [] κ τ P 17 rfl h ⟨hJ, hk, by simp⟩ hp (by omega)
  · obtain ⟨P', l', g1, g2⟩ := g
    refine ⟨P', ?_, g2.1.1, g2.2⟩
    unfold c_signgo
    rw [e23, Int.toNat_natCast]
    exact g1
  · intro κ τ P l1 l2 x hl hM hq hw
    obtain ⟨q1, q2, q3⟩ := hq
    refine ⟨q1, q2, fun z hz hwz => ?_⟩
    rcases List.mem_append.mp hz with hz | hz
    · exact q3 z hz hwz
    · rw [List.mem_singleton.mp hz, hw] at hwz
      cases hwz
  · intro κ τ P l1 l2 x hl hM hq hw
    obtain ⟨q1, q2, q3⟩ := hq
    have hx := hM.mem hd0 hd1 (by rw [hl]; simp) hw
    have hI := hM.2.2.2.1
    have eh := c_has_eq hM.1.1 d (b_s τ x)
    have hsp := hM.split hd0 hd1 hl hw
    have xO := hM.ok hd0 hd1 (x := x) (by rw [hl]; simp)
    have hnd := hM.nd hd0 hd1 hl
    cases hf : c_has τ.1 d (b_s τ x)
    · refine Or.inr (Or.inl ⟨?_, q1, q2, fun z hz hwz => ?_⟩)
      · unfold c_sg
        rw [eh.1, hf, if_neg (by decide)]
      · rcases List.mem_append.mp hz with hz | hz
        · exact q3 z hz hwz
        · rw [List.mem_singleton.mp hz]
          exact hf
    · refine Or.inr (Or.inr ⟨κ, c_pass κ (b_s τ x) (c_vb τ.1 d), τ, c_vb τ.1 d, ?_, ?_, hM, fun i => rfl, fun i => rfl, fun c i h1 h2 => c_pass_c _ _ _ _ _ h1 h2, fun i => c_pass_14 _ _ _ _, fun i => c_pass_15 _ _ _ _, q1.out hI hd0 hd1 hx 0 _, ?_, fun z hz hwz => ?_⟩)
      · unfold c_sg
        rw [eh.1, hf, if_pos rfl, eh.2]
      · rw [b_out_0]
        rcases q2 with q2 | q2 | q2 | q2
        · have h0 : τ.1 24 d = 0 := by simpa [c_has, q2] using hf
          have hl0 : l1.filter (wt τ) = [] := List.filter_eq_nil_iff.mpr (fun z hz hwz => by
            have := q3 z hz hwz
            simp [c_has, q2, h0] at this)
          rw [hl0, List.nil_append] at hsp
          rw [lets_2 q2 hsp, if_neg (by omega)]
          simp [c_vb, q2]
        · have eb : ∀ z, τ.1 12 (b_s τ z) = b_num τ z := fun z => rfl
          have f1 : ∀ z ∈ l1.filter (wt τ), decide (b_num τ z < τ.1 27 d) = false := fun z hz => by
            have := List.mem_filter.mp hz
            have := q3 z this.1 this.2
            simpa [c_has, q2, eb] using this
          have f2 : decide (b_num τ x < τ.1 27 d) = true := by simpa [c_has, q2, eb] using hf
          rw [lets_7 q2, hsp, l_find_mid f1 f2]
          simp [b_tick, c_vb, q2]
        · have h0 : τ.1 25 d = 1 := by simpa [c_has, q2] using hf
          have hl0 : l1.filter (wt τ) = [] := List.filter_eq_nil_iff.mpr (fun z hz hwz => by
            have := q3 z hz hwz
            simp [c_has, q2, h0] at this)
          rw [hl0, List.nil_append] at hsp
          rw [lets_8 q2 hsp, if_neg (by omega)]
          simp [c_vb, q2]
        · have h0 : τ.1 25 d = 0 := by simpa [c_has, q2] using hf
          have hl0 : l1.filter (wt τ) = [] := List.filter_eq_nil_iff.mpr (fun z hz hwz => by
            have := q3 z hz hwz
            simp [c_has, q2, h0] at this)
          rw [hl0, List.nil_append] at hsp
          rw [lets_10 q2 hsp, if_neg (by omega)]
          simp [c_vb, q2]
      · rw [b_out_c _ _ _ _ _ _ (by decide)]
        exact q2
      · rw [c_has_out]
        rcases List.mem_append.mp hz with hz | hz
        · rw [wt_out xO (hM.ok hd0 hd1 (by rw [hl]; exact List.mem_append_left _ hz)) (fun e => hnd.1 (e ▸ hz))] at hwz
          exact q3 z hz hwz
        · rw [List.mem_singleton.mp hz, wt_self (by decide)] at hwz
          cases hwz
  · intro κ τ P hM hq
    obtain ⟨q1, q2, q3⟩ := hq
    have hl := (hM.2.1 d hd0 hd1).2.2.1
    have q4 : ∀ z ∈ τ.2 d, c_has τ.1 d (b_s τ z) = false := fun z hz => by
      rw [hl] at hz
      have := List.mem_filter.mp hz
      exact q3 z this.1 this.2
    have hj := q1 d hd0 hd1
    cases hl2 : τ.2 d with
    | nil => exact lets_nil hl2
    | cons f l =>
      have hf := q4 f (by rw [hl2]; exact List.mem_cons_self)
      rcases q2 with q2 | q2 | q2 | q2
      · have h0 : ¬ τ.1 24 d = 0 := by simpa [c_has, q2] using hf
        have := (hj.2.1 q2).1
        rw [lets_2 q2 hl2, if_pos (by omega)]
      · rw [lets_7 q2, l_find_no (fun z hz => ?_)]
        · rfl
        · have := q4 z hz
          have eb : ∀ z, τ.1 12 (b_s τ z) = b_num τ z := fun z => rfl
          simpa [c_has, q2, eb] using this
      · have h0 : ¬ τ.1 25 d = 1 := by simpa [c_has, q2] using hf
        have := hj.2.2.2.2.2.2.1 q2
        unfold J8 at this
        rw [lets_8 q2 hl2, if_pos (by omega)]
      · have h0 : ¬ τ.1 25 d = 0 := by simpa [c_has, q2] using hf
        have := (hj.2.2.2.2.2.2.2.1 q2).1
        rw [lets_10 q2 hl2, if_pos (by omega)]
