/-- entries that nobody reads now may differ -/
theorem CR.loose {κ κ' : aS} {τ τ' : bS} (h : CR κ τ) (hτ : ∀ (c : Nat) (i : Int), c ≠ 28 → c ≠ 8 → c ≠ 9 → τ'.1 c i = τ.1 c i) (h2 : τ'.2 = τ.2) (h89 : ∀ e, 0 ≤ e → e < 12 → ∀ x ∈ τ.2 e, τ'.1 8 x = τ.1 8 x ∧ τ'.1 9 x = τ.1 9 x) (hκ : ∀ (c : Nat) (i : Int), c ≠ 42 → c ≠ 15 → κ' c i = κ c i) (h42 : ∀ e, 0 ≤ e → e < 12 → ∀ x ∈ τ.2 e, κ' 42 (16 * e + x) = κ 42 (16 * e + x) ∧ κ' 15 (b_s τ x) = κ 15 (b_s τ x)) (h15 : ∀ s, τ.1 14 s = 0 → κ' 15 s = κ 15 s) (hub : ∀ s, (∀ t, 0 ≤ t → t < 16 → 0 ≤ τ.1 4 t) → UB τ s → κ' 15 s = κ 15 s) : CR κ' τ' := by
  obtain ⟨⟨m1, m5, m7, m17, m17n, mlog, m15, msp, mP, mPr⟩, hL⟩ := h
  have ebs : ∀ z, b_s τ' z = b_s τ z := fun z => by unfold b_s; rw [hτ 4 z (by decide) (by decide) (by decide)]
  have ewt : wt τ' = wt τ := funext fun z => by unfold wt; rw [ebs, hτ 14 _ (by decide) (by decide) (by decide)]
  have e14 := fun i => hτ 14 i (by decide) (by decide) (by decide)
  refine ⟨⟨fun c i hc => ?_, fun z => ?_, fun z => ?_, (fun z hz => by cases hz), fun s _ => ?_, fun c i hc => ?_, fun s => ?_, fun e e0 e1 => ?_, List.nodup_nil, (fun z hz => by cases hz)⟩, fun e e0 e1 => ?_⟩
  · have hn := mr_ne hc
    have n42 : c ≠ 42 ∧ c ≠ 8 ∧ c ≠ 9 := by
      refine ⟨?_, ?_, ?_⟩ <;> (intro e; subst e; exact absurd hc (by decide))
    rw [hκ c i n42.1 hn.2.2.1, hτ c i hn.2.2.2.2.1 n42.2.1 n42.2.2]
    exact m1 c i hc
  · rw [hτ 5 z (by decide) (by decide) (by decide), hκ 5 z (by decide) (by decide)]
    exact m5 z
  · rw [hτ 7 z (by decide) (by decide) (by decide), hτ 2 0 (by decide) (by decide) (by decide), hκ 7 z (by decide) (by decide)]
    exact m7 z
  · rw [hτ 17 s (by decide) (by decide) (by decide), hκ 17 s (by decide) (by decide)]
    exact m17n s (fun z hz => by cases hz)
  · rw [hτ c i (by omega) (by omega) (by omega)]
    show _ = κ' c i
    rw [hκ c i (by omega) (by omega)]
    exact mlog c i hc
  · refine ⟨?_, UZ.tr s (fun i => hτ 4 i (by decide) (by decide) (by decide)) (fun i => hτ 3 i (by decide) (by decide) (by decide)) (m15 s).2 (hub s) (fun _ _ => e14 s)⟩
    rw [hτ 15 s (by decide) (by decide) (by decide), e14, (m15 s).1]
    by_cases h0 : τ.1 14 s = 0
    · rw [if_pos h0, if_pos h0, h15 s h0]
    · rw [if_neg h0, if_neg h0]
  · obtain ⟨s1, s2⟩ := msp e e0 e1
    unfold SP
    rw [hτ 18 e (by decide) (by decide) (by decide), h2]
    refine ⟨fun h5 => ?_, fun z hz => ⟨fun h => ?_, fun h => ?_⟩⟩
    · rw [hκ 43 e (by decide) (by decide), s1 h5]
      exact (b_lookers_congr e (fun i => hτ 29 i (by decide) (by decide) (by decide))).symm
    · rw [(h42 e e0 e1 z hz).1, (s2 z hz).1 h, (h89 e e0 e1 z hz).2]
      unfold b_num
      rw [hτ 4 z (by decide) (by decide) (by decide), hτ 12 _ (by decide) (by decide) (by decide)]
    · rw [ebs, (h42 e e0 e1 z hz).2, (s2 z hz).2 h, (h89 e e0 e1 z hz).1]
  · obtain ⟨a1, a2, a3, a4, a5⟩ := hL e e0 e1
    rw [h2]
    refine ⟨by rw [hκ 23 e (by decide) (by decide)]; exact a1, fun j x hx => by rw [hκ 22 _ (by decide) (by decide), ebs]; exact a2 j x hx, by rw [ewt]; exact a3, a4, fun x hx => ?_⟩
    unfold OKt
    rw [hτ 4 x (by decide) (by decide) (by decide)]
    exact a5 x hx
def b_wait (τ : bS) (d t : Int) : bS := b_ln (b_up (b_up τ 14 (b_s τ t) 1) 5 t d) d (τ.2 d ++ [t])
theorem b_waits_n {τ : bS} {t d : Int} (h6 : ¬ τ.1 6 t = 1) (h10 : τ.1 10 (b_s τ t) = d) : b_waits τ t = b_wait τ d t := by
  unfold b_waits b_wait
  rw [if_neg h6, show τ.1 10 (20 * t + τ.1 4 t - 1) = d from h10]
  rfl
theorem b_wait_c (τ : bS) (d t : Int) (c : Nat) (i : Int) (h : c ≠ 14 ∧ c ≠ 5) : (b_wait τ d t).1 c i = τ.1 c i := by
  show pu_up (pu_up τ.1 14 _ 1) 5 t d c i = _
  rw [pu_up_ne _ _ _ _ h.2, pu_up_ne _ _ _ _ h.1]
theorem b_wait_14 (τ : bS) (d t i : Int) : (b_wait τ d t).1 14 i = if i = b_s τ t then 1 else τ.1 14 i := by
  show pu_up (pu_up τ.1 14 _ 1) 5 t d 14 i = _
  rw [pu_up_ne _ _ _ _ (by decide), pu_up_c]
theorem b_wait_5 (τ : bS) (d t i : Int) : (b_wait τ d t).1 5 i = if i = t then d else τ.1 5 i := by
  show pu_up (pu_up τ.1 14 (b_s τ t) 1) 5 t d 5 i = _
  rw [pu_up_c, pu_up_ne _ _ _ _ (by decide)]
theorem b_wait_2 (τ : bS) (d t e : Int) : (b_wait τ d t).2 e = if e = d then τ.2 d ++ [t] else τ.2 e := rfl
theorem b_wait_s (τ : bS) (d t z : Int) : b_s (b_wait τ d t) z = b_s τ z := by
  unfold b_s
  rw [b_wait_c _ _ _ _ _ (by decide)]
theorem b_wait_num (τ : bS) (d t z : Int) : b_num (b_wait τ d t) z = b_num τ z := by
  unfold b_num
  rw [b_wait_c _ _ _ _ _ (by decide), b_wait_c _ _ _ _ _ (by decide)]
theorem b_wait_act (τ : bS) (d t z : Int) : b_act (b_wait τ d t) z = b_act τ z := by
  unfold b_act
  rw [b_wait_s, b_wait_c _ _ _ _ _ (by decide)]
theorem WI.wait {τ : bS} (h : WI τ) {t d : Int} (hd0 : 0 ≤ d) (hd1 : d < 12) (ha : ACT τ t d) : WI (b_wait τ d t) := by
  obtain ⟨⟨t0, t1, t4, t20⟩, t5, t10, t14, tl⟩ := ha
  have h1 : WI (b_up τ 14 (b_s τ t) 1) := h.upd _ _ rfl
  have eC : ∀ (c : Nat) (i : Int), c ≠ 14 → (b_up τ 14 (b_s τ t) 1).1 c i = τ.1 c i := fun c i hc => b_up_c _ _ _ _ _ _ hc
  exact h1.push t0 t1 hd0 hd1 (by rw [eC 5 t (by decide), t5]; decide) (by rw [eC 4 t (by decide)]; exact t4) (by rw [eC 4 t (by decide), eC 10 _ (by decide)]; exact t10)
/-- t comes behind d's line -/
theorem wait_sim {κ : aS} {τ : bS} {d t : Int} (hd0 : 0 ≤ d) (hd1 : d < 12) (hC : CR κ τ) (hI : WI τ) (ha : ACT τ t d) (hsp : (τ.1 18 d = 11 → κ 42 (16 * d + t) = if τ.1 9 t = 1 then -1 else b_num τ t) ∧ (τ.1 18 d = 3 → κ 15 (b_s τ t) = τ.1 8 t)) : CR (c_push (pu_up κ 14 (b_s τ t) 1) d (b_s τ t)) (b_wait τ d t) := by
  have hne := fun e z (e0 : 0 ≤ e) (e1 : e < 12) (hz : z ∈ τ.2 e) => ha.ne e0 e1 hz
  obtain ⟨tO, t5, t10, t14, tl⟩ := ha
  have hlen := hI.len
  obtain ⟨⟨m1, m5, m7, m17, m17n, mlog, m15, msp, mP, mPr⟩, hL⟩ := hC
  have c22 : ∀ i, c_push (pu_up κ 14 (b_s τ t) 1) d (b_s τ t) 22 i = if i = 16 * d + κ 23 d then b_s τ t else κ 22 i := fun i => by
    unfold c_push
    simp (disch := decide) only [pu_up_ne, pu_up_c]
  have c23 : ∀ i, c_push (pu_up κ 14 (b_s τ t) 1) d (b_s τ t) 23 i = if i = d then κ 23 d + 1 else κ 23 i := fun i => by
    unfold c_push
    simp (disch := decide) only [pu_up_ne, pu_up_c]
  have c5 : ∀ i, c_push (pu_up κ 14 (b_s τ t) 1) d (b_s τ t) 5 i = if i = t then d else κ 5 i := fun i => by
    unfold c_push
    simp (disch := decide) only [pu_up_ne, pu_up_c]
    rw [bs_div tO, m1 10 _ rfl, t10]
  have c14 : ∀ i, c_push (pu_up κ 14 (b_s τ t) 1) d (b_s τ t) 14 i = if i = b_s τ t then 1 else κ 14 i := fun i => by
    unfold c_push
    simp (disch := decide) only [pu_up_ne, pu_up_c]
  have cC : ∀ (c : Nat) (i : Int), c ≠ 14 → c ≠ 22 → c ≠ 23 → c ≠ 5 → c_push (pu_up κ 14 (b_s τ t) 1) d (b_s τ t) c i = κ c i := fun c i n14 n22 n23 n5 => by
    unfold c_push
    rw [pu_up_ne _ _ _ _ n5, pu_up_ne _ _ _ _ n23, pu_up_ne _ _ _ _ n22, pu_up_ne _ _ _ _ n14]
  have eC := b_wait_c τ d t
  have ebs := b_wait_s τ d t
  have zO : ∀ e z, 0 ≤ e → e < 12 → z ∈ τ.2 e → OKt τ z := fun e z e0 e1 hz => (hL e e0 e1).2.2.2.2 z hz
  have hw : ∀ e z, 0 ≤ e → e < 12 → z ∈ τ.2 e → wt (b_wait τ d t) z = true := fun e z e0 e1 hz => by
    unfold wt
    rw [ebs, b_wait_14, if_neg (fun e2 => hne e z e0 e1 hz (bs_inj (zO e z e0 e1 hz) tO e2))]
    have hz2 := hz
    rw [(hL e e0 e1).2.2.1] at hz2
    exact (List.mem_filter.mp hz2).2
  have hwt : wt (b_wait τ d t) t = true := by
    unfold wt
    rw [ebs, b_wait_14, if_pos rfl]
    decide
  refine ⟨⟨fun c i hc => ?_, fun z => ?_, fun z => ?_, (fun z hz => by cases hz), fun s _ => ?_, fun c i hc => ?_, fun s => ?_, fun e e0 e1 => ?_, List.nodup_nil, (fun z hz => by cases hz)⟩, fun e e0 e1 => ?_⟩
  · have hn := mr_ne hc
    by_cases n14 : c = 14
    · subst n14
      rw [c14, b_wait_14, m1 14 i rfl]
    · rw [cC c i n14 hn.2.2.2.2.2.2.2.1 hn.2.2.2.2.2.2.2.2 hn.1, eC c i ⟨n14, hn.1⟩]
      exact m1 c i hc
  · rw [c5, b_wait_5]
    have := m5 z
    simp only [List.not_mem_nil, if_false] at this ⊢
    rw [this]
  · rw [cC 7 z (by decide) (by decide) (by decide) (by decide), eC 7 z (by decide), eC 2 0 (by decide)]
    exact m7 z
  · rw [cC 17 s (by decide) (by decide) (by decide) (by decide), eC 17 s (by decide)]
    exact m17n s (fun z hz => by cases hz)
  · rw [eC c i (by omega)]
    show _ = c_push (pu_up κ 14 (b_s τ t) 1) d (b_s τ t) c i
    rw [cC c i (by omega) (by omega) (by omega) (by omega)]
    exact mlog c i hc
  · refine ⟨?_, UZ.tr s (fun i => eC 4 i (by decide)) (fun i => eC 3 i (by decide)) (m15 s).2 (fun _ _ => cC 15 s (by decide) (by decide) (by decide) (by decide)) (fun hp u => by rw [b_wait_14, if_neg (u.ne hp tO)])⟩
    rw [eC 15 s (by decide), b_wait_14, cC 15 s (by decide) (by decide) (by decide) (by decide), (m15 s).1]
    by_cases e : s = b_s τ t
    · rw [if_pos e, e, t14, if_neg (by decide), if_neg (by decide)]
    · rw [if_neg e]
  · obtain ⟨s1, s2⟩ := msp e e0 e1
    unfold SP
    rw [eC 18 e (by decide)]
    refine ⟨fun h5 => ?_, fun z hz => ?_⟩
    · rw [cC 43 e (by decide) (by decide) (by decide) (by decide), s1 h5]
      exact (b_lookers_congr e (fun i => eC 29 i (by decide))).symm
    · rw [cC 42 _ (by decide) (by decide) (by decide) (by decide), cC 15 _ (by decide) (by decide) (by decide) (by decide), ebs, eC 9 z (by decide), eC 8 z (by decide), b_wait_num]
      rw [b_wait_2] at hz
      by_cases ed : e = d
      · rw [if_pos ed] at hz
        rcases List.mem_append.mp hz with hz | hz
        · rw [← ed] at hz
          exact s2 z hz
        · rw [List.mem_singleton.mp hz, ed]
          exact hsp
      · rw [if_neg ed] at hz
        exact s2 z hz
  · obtain ⟨a1, a2, a3, a4, a5⟩ := hL e e0 e1
    have hO : ∀ z, OKt τ z → OKt (b_wait τ d t) z := fun z hz => by
      unfold OKt
      rw [eC 4 z (by decide)]
      exact hz
    rw [b_wait_2]
    by_cases ed : e = d
    · subst ed
      rw [if_pos rfl]
      refine ⟨by rw [c23, if_pos rfl, a1]; simp, fun j x hx => ?_, ?_, ?_, fun x hx => ?_⟩
      · rw [c22, ebs]
        by_cases hj : j < (τ.2 e).length
        · rw [List.getElem?_append_left hj] at hx
          rw [if_neg (by omega)]
          exact a2 j x hx
        · rw [List.getElem?_append_right (by omega)] at hx
          have hz1 : j - (τ.2 e).length < 1 := (List.getElem?_eq_some_iff.mp hx).1
          rw [show j - (τ.2 e).length = 0 by omega] at hx
          cases hx
          rw [if_pos (by omega)]
      · refine (List.filter_eq_self.mpr (fun z hz => ?_)).symm
        rcases List.mem_append.mp hz with hz | hz
        · exact hw e z e0 e1 hz
        · rw [List.mem_singleton.mp hz]
          exact hwt
      · rw [List.nodup_append]
        refine ⟨a4, by simp, fun x hx z hz => ?_⟩
        rw [List.mem_singleton.mp hz]
        exact hne e x e0 e1 hx
      · rcases List.mem_append.mp hx with hx | hx
        · exact hO x (a5 x hx)
        · rw [List.mem_singleton.mp hx]
          exact hO t tO
    · rw [if_neg ed]
      refine ⟨by rw [c23, if_neg ed]; exact a1, fun j x hx => ?_, (List.filter_eq_self.mpr (fun z hz => hw e z e0 e1 hz)).symm, a4, fun x hx => hO x (a5 x hx)⟩
      rw [c22, ebs, if_neg ?_]
      · exact a2 j x hx
      · have hj := (List.getElem?_eq_some_iff.mp hx).1
        have := hlen e e0 e1
        have := hI.len1 hd0 hd1 tO.1 tO.2.1 (by rw [t5]; omega)
        have := (hL d hd0 hd1).1
        omega
theorem ACT.up {τ : bS} {t d : Int} (h : ACT τ t d) {c : Nat} (i v : Int) (hc : c ≠ 4 ∧ c ≠ 5 ∧ c ≠ 10 ∧ c ≠ 14) : ACT (b_up τ c i v) t d := by
  obtain ⟨tO, t5, t10, t14, tl⟩ := h
  refine ⟨OKt_up hc.1 tO, ?_, ?_, ?_, tl⟩
  · rw [b_up_c _ _ _ _ _ _ (Ne.symm hc.2.1)]; exact t5
  · rw [b_s_up _ _ _ _ hc.1, b_up_c _ _ _ _ _ _ (Ne.symm hc.2.2.1)]; exact t10
  · rw [b_s_up _ _ _ _ hc.1, b_up_c _ _ _ _ _ _ (Ne.symm hc.2.2.2)]; exact t14
theorem pfd_end {κ : aS} {τ : bS} {d t o : Int} (hd0 : 0 ≤ d) (hd1 : d < 12) (hC : CR κ τ) (hI : WI τ) (hJ : JA τ) (ha : ACT τ t d) (ho : o ≠ 0) : PFD κ τ (b_ends τ t o 0) d t o := by
  obtain ⟨hM, _⟩ := hC.mq hI hd0 hd1
  have g := hM.done (κ' := pu_up κ 14 (b_s τ t) o) (o := o) (w := κ 15 (b_s τ t)) hd0 hd1 ha (fun c i h1 _ => pu_up_ne _ _ _ _ h1) (fun i => pu_up_c _ _ _ _ _) (fun i => by
    rw [pu_up_ne _ _ _ _ (by decide)]
    split
    · rename_i e
      rw [e]
    · rfl)
  have e : b_fin τ t o (κ 15 (b_s τ t)) = b_ends τ t o 0 := by
    unfold b_fin
    rw [if_neg ho]
  rw [e] at g
  refine ⟨_, [], g, ?_, Or.inl rfl, ?_, ?_⟩
  · rw [← e]
    exact hJ.fin hI t o _
  · rw [← e]
    exact b_fin_s _ _ _ _ _
  · rw [← e]
    exact b_fin_c _ _ _ _ _ _ (by decide)
theorem pfd_pass {κ1 κ' : aS} {τ τ1 : bS} {d t v : Int} (hd0 : 0 ≤ d) (hd1 : d < 12) (hM : Mq κ1 τ1 d τ1.2 [] []) (ha : ACT τ1 t d) (hJ : JA τ1) (hs : b_s τ1 t = b_s τ t) (e2 : τ1.1 2 0 = τ.1 2 0) (hκ : ∀ (c : Nat) (i : Int), c ≠ 15 → c ≠ 14 → κ' c i = κ1 c i) (h14 : ∀ i, i ≠ b_s τ t → κ' 14 i = κ1 14 i) (h15 : ∀ i, κ' 15 i = if i = b_s τ t then v else κ1 15 i) : PFD κ' τ (b_passes τ1 t v) d t 0 := by
  have g := hM.done (κ' := pu_up κ' 14 (b_s τ t) 0) (o := 0) (w := v) hd0 hd1 ha (fun c i h1 h2 => by rw [pu_up_ne _ _ _ _ h1, hκ c i h2 h1]) (fun i => by
    rw [pu_up_c, hs]
    by_cases e : i = b_s τ t
    · rw [if_pos e, if_pos e]
    · rw [if_neg e, if_neg e, h14 i e]) (fun i => by rw [pu_up_ne _ _ _ _ (by decide), hs]; exact h15 i)
  have e : b_fin τ1 t 0 v = b_passes τ1 t v := by
    unfold b_fin
    rw [if_pos rfl]
  have hI := hM.2.2.2.1
  rw [e] at g
  refine ⟨_, [], g, ?_, Or.inl rfl, ?_, ?_⟩
  · rw [← e]
    exact hJ.fin hI t 0 _
  · rw [← e, b_fin_s]
    exact hs
  · rw [← e, b_fin_c _ _ _ _ _ _ (by decide)]
    exact e2
/-- what an act that waits leaves -/
def PW (κ' : aS) (τ τ' : bS) (d t : Int) : Prop := ∃ τ1, CR κ' τ1 ∧ WI τ1 ∧ JA τ1 ∧ ACT τ1 t d ∧ τ1.2 = τ.2 ∧ τ1.1 6 t = τ.1 6 t ∧ τ1.1 2 0 = τ.1 2 0 ∧ b_s τ1 t = b_s τ t ∧ ((τ1.1 18 d = 11 → κ' 42 (16 * d + t) = if τ1.1 9 t = 1 then -1 else b_num τ1 t) ∧ (τ1.1 18 d = 3 → κ' 15 (b_s τ1 t) = τ1.1 8 t)) ∧ (τ.1 6 t = 1 → τ' = b_waits τ1 t) ∧ (τ.1 6 t ≠ 1 → (τ' = b_waits τ1 t ∨ (τ' = b_up (b_waits τ1 t) 28 d t ∧ τ.1 18 d = 5)) ∧ JK τ' d)
def PS (τ τ' : bS) (d t : Int) (r : Int × aS) : Prop := (r.1 ≠ 1 ∧ PFD r.2 τ τ' d t r.1) ∨ (r.1 = 1 ∧ PW r.2 τ τ' d t)
/-- an act, from perform's answer on -/
theorem mid_sim {κ : aS} {τ τ' : bS} {d t : Int} {r : Int × aS} (hd0 : 0 ≤ d) (hd1 : d < 12) (tO : OKt τ t) (t6 : τ.1 6 t = 0 ∨ τ.1 6 t = 1) (hI : WI τ) (h5 : τ.1 5 t = -1) (h : PS τ τ' d t r) : CR (c_sweep (c_go (c_mid (pu_up r.2 14 (b_s τ t) r.1) d (b_s τ t) (τ.1 2 0)) d) d (τ.1 2 0)) (b_letsGo τ' d 17) ∧ WI (b_letsGo τ' d 17) ∧ JA (b_letsGo τ' d 17) := by
  unfold c_mid
  rw [pu_up_at]
  rcases h with ⟨h1, h2⟩ | ⟨h1, τ1, hC, hI1, hJ1, ha, e2, e6, eb, es, hsp, hk, hn⟩
  · rw [if_neg h1]
    exact done_sim hd0 hd1 h2
  · rw [if_pos h1, h1, pu_up_ne _ _ _ _ (by decide), bs_div tO]
    have k6 : r.2 6 t = τ.1 6 t := by rw [hC.1.1 6 t rfl, e6]
    by_cases c6 : τ.1 6 t = 1
    · rw [if_neg (by omega), ← es, ← eb, hk c6]
      have hl : (τ1.2 d).length < 16 := by
        rw [e2]
        have := hI.len1 hd0 hd1 tO.1 tO.2.1 (by rw [h5]; omega)
        exact this
      exact keep_sim hd0 hd1 hC hI1 hJ1 ha (by rw [e6]; exact c6) hl
    · rw [if_pos (by omega)]
      obtain ⟨hτ', hJd⟩ := hn c6
      have hw := b_waits_n (τ := τ1) (t := t) (d := d) (by rw [e6]; exact c6) ha.2.2.1
      have hCw := wait_sim hd0 hd1 hC hI1 ha hsp
      have hIw := hI1.wait hd0 hd1 ha
      rw [es] at hCw
      have tO1 := ha.1
      -- devices elsewhere
      have hoth : ∀ e, 0 ≤ e → e < 12 → e ≠ d → JK (b_wait τ1 d t) e := fun e e0 e1 ne => by
        have eC := b_wait_c τ1 d t
        have el : (b_wait τ1 d t).2 e = τ1.2 e := by rw [b_wait_2, if_neg ne]
        refine (hJ1 e e0 e1).sub (hI1.rg e0 e1) (fun c hc => eC c e (by omega)) (Or.inl (eC 28 e (by decide))) (fun i _ _ => eC 29 _ (by decide)) (fun x hx => by rw [el] at hx; exact hx) (by rw [el]; exact Nat.le_refl _) (fun x _ => ⟨eC 4 x (by decide), eC 9 x (by decide)⟩) (fun s => eC 11 s (by decide)) (fun s => eC 12 s (by decide)) (Int.le_refl _)
      have main : ∀ τw : bS, CR (c_push (pu_up r.2 14 (b_s τ t) 1) d (b_s τ t)) τw → WI τw → JA τw → τw.1 2 0 = τ.1 2 0 → CR (c_sweep (c_go (c_push (pu_up r.2 14 (b_s τ t) 1) d (b_s τ t)) d) d (τ.1 2 0)) (b_letsGo τw d 17) ∧ WI (b_letsGo τw d 17) ∧ JA (b_letsGo τw d 17) := fun τw k1 k2 k3 k4 => by
        obtain ⟨hM, hps⟩ := k1.mq k2 hd0 hd1
        obtain ⟨P', g1, g2, _⟩ := go_sim hd0 hd1 hM k3 hps
        have g5 := g1.sweep hd0 hd1
        rw [SE.letsGo 17 (SE.refl τw) 2 0 rfl, k4] at g5
        exact ⟨g5, g1.2.2.2.1, g2⟩
      have ew2 : (b_wait τ1 d t).1 2 0 = τ.1 2 0 := by rw [b_wait_c _ _ _ _ _ (by decide), eb]
      rcases hτ' with hτ' | ⟨hτ', hk5⟩
      · rw [hw] at hτ'
        rw [hτ'] at hJd ⊢
        refine main _ hCw hIw (fun e e0 e1 => ?_) ew2
        by_cases ed : e = d
        · rw [ed]
          exact hJd
        · exact hoth e e0 e1 ed
      · rw [hw] at hτ'
        have hin : t ∈ (b_wait τ1 d t).2 d := by
          rw [b_wait_2, if_pos rfl]
          simp
        have hI28 : WI (b_up (b_wait τ1 d t) 28 d t) := hIw.up28 tO.2.1 hin
        have hC28 : CR (c_push (pu_up r.2 14 (b_s τ t) 1) d (b_s τ t)) (b_up (b_wait τ1 d t) 28 d t) := hCw.loose (fun c i n28 _ _ => b_up_c _ _ _ _ _ _ n28) rfl (fun e _ _ x _ => ⟨b_up_c _ _ _ _ _ _ (by decide), b_up_c _ _ _ _ _ _ (by decide)⟩) (fun _ _ _ _ => rfl) (fun _ _ _ _ _ => ⟨rfl, rfl⟩) (fun _ _ => rfl) (fun _ _ _ => rfl)
        rw [hτ'] at hJd ⊢
        refine main _ hC28 hI28 (fun e e0 e1 => ?_) (by rw [b_up_c _ _ _ _ _ _ (by decide)]; exact ew2)
        by_cases ed : e = d
        · rw [ed]
          exact hJd
        · have eC : ∀ (c : Nat) (i : Int), c ≠ 28 → (b_up (b_wait τ1 d t) 28 d t).1 c i = (b_wait τ1 d t).1 c i := fun c i hc => b_up_c _ _ _ _ _ _ hc
          refine (hoth e e0 e1 ed).sub (hIw.rg e0 e1) (fun c hc => eC c e (by omega)) (Or.inl ?_) (fun i _ _ => eC 29 _ (by decide)) (fun x hx => hx) (Nat.le_refl _) (fun x _ => ⟨eC 4 x (by decide), eC 9 x (by decide)⟩) (fun s => eC 11 s (by decide)) (fun s => eC 12 s (by decide)) (Int.le_refl _)
          show pu_up (b_wait τ1 d t).1 28 d t 28 e = _
          rw [pu_up_c, if_neg ed]
