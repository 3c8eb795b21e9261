theorem ACT.ne {τ : bS} {t d : Int} (ha : ACT τ t d) {e z : Int} (e0 : 0 ≤ e) (e1 : e < 12) (hz : z ∈ τ.2 e) : z ≠ t := fun h => ha.2.2.2.2 e e0 e1 (h ▸ hz)
theorem wt_fin {τ : bS} {t z o v : Int} (hx : OKt τ t) (hz : OKt τ z) (e : z ≠ t) : wt (b_fin τ t o v) z = wt τ z := by
  unfold wt
  rw [b_fin_s, b_fin_14, if_neg (fun e2 => e (bs_inj hz hx e2))]
theorem ps_fin {τ : bS} {t z o v : Int} (hx : OKt τ t) (hz : OKt τ z) (e : z ≠ t) : ps (b_fin τ t o v) z = ps τ z := by
  unfold ps
  rw [b_fin_s, b_fin_14, if_neg (fun e2 => e (bs_inj hz hx e2))]
/-- t ends at once, with outcome o -/
theorem Mq.done {κ κ' : aS} {τ : bS} {d t o w : Int} (h : Mq κ τ d τ.2 [] []) (hd0 : 0 ≤ d) (hd1 : d < 12) (ha : ACT τ t d) (hk : ∀ (c : Nat) (i : Int), c ≠ 14 → c ≠ 15 → κ' c i = κ c i) (hk14 : ∀ i, κ' 14 i = if i = b_s τ t then o else κ 14 i) (hk15 : ∀ i, κ' 15 i = if i = b_s τ t then w else κ 15 i) : Mq κ' (b_fin τ t o w) d τ.2 [t] [] := by
  have hL := h.2.1
  have tO := ha.1
  refine h.self hd0 hd1 ha (fun c i h1 h2 _ _ _ => hk c i h1 h2) hk14 hk15 (fun i _ => hk 5 i (by decide) (by decide)) ?_ [t] [] rfl ?_ (fun _ _ _ _ => rfl)
  · intro e e0 e1
    obtain ⟨a1, a2, a3, a4, a5⟩ := hL e e0 e1
    refine ⟨by rw [hk 23 e (by decide) (by decide)]; exact a1, fun j x hx => by rw [hk 22 _ (by decide) (by decide), b_fin_s]; exact a2 j x hx, ?_, a4, fun x hx => ?_⟩
    · rw [b_fin_2]
      have : (τ.2 e).filter (wt (b_fin τ t o w)) = (τ.2 e).filter (wt τ) := List.filter_congr (fun z hz => wt_fin tO (a5 z hz) (ha.ne e0 e1 hz))
      rw [this]
      exact a3
    · unfold OKt
      rw [b_fin_c _ _ _ _ _ _ (by decide)]
      exact a5 x hx
  · have hw : ∀ z ∈ τ.2 d, wt (b_fin τ t o w) z = true := fun z hz => by
      rw [wt_fin tO (h.ok hd0 hd1 hz) (ha.ne hd0 hd1 hz)]
      rw [(hL d hd0 hd1).2.2.1] at hz
      exact (List.mem_filter.mp hz).2
    refine ⟨fun x => ?_, ?_⟩
    · constructor
      · intro z
        cases z
      · rintro ⟨h1, h2⟩
        rw [hw x h1] at h2
        cases h2
    · exact (List.filter_eq_nil_iff.mpr (fun z hz => by rw [wt_ps (hw z hz)]; decide)).symm
/-- t's own end is written down -/
theorem Mq.fin1 {κ : aS} {τ : bS} {d t : Int} {Λ : Int → List Int} {P : List Int} (h : Mq κ τ d Λ [t] P) : Mq (c_fin κ d (b_s τ t) (τ.1 2 0)) τ d Λ [] P := by
  obtain ⟨hB, hL, hP, hI, he⟩ := h
  have hn := hB.2.2.2.2.2.2.2.2.1
  have g := hB.fin (x := t) (by simp) (by
    rw [show ([t] ++ P).erase t = P by simp]
    rw [List.filter_append, List.filter_cons]
    by_cases hp : ps τ t = true
    · rw [if_pos hp, if_pos hp]
      rfl
    · rw [if_neg hp, if_neg hp]
      rfl)
  rw [show ([t] ++ P).erase t = P by simp] at g
  refine ⟨g, fun e e0 e1 => ?_, hP, hI, he⟩
  obtain ⟨a1, a2, a3⟩ := hL e e0 e1
  exact ⟨by rw [c_fin_c _ _ _ _ _ _ (by decide)]; exact a1, fun j x hx => by rw [c_fin_c _ _ _ _ _ _ (by decide)]; exact a2 j x hx, a3⟩
/-- what an act that doesn't wait leaves -/
def PFD (κ' : aS) (τ τ' : bS) (d t o : Int) : Prop := ∃ (Λ : Int → List Int) (P : List Int), Mq (pu_up κ' 14 (b_s τ t) o) τ' d Λ [t] P ∧ JA τ' ∧ (P = [] ∨ τ'.1 18 d = 3 ∨ τ'.1 18 d = 4 ∨ τ'.1 18 d = 6 ∨ τ'.1 18 d = 9) ∧ b_s τ' t = b_s τ t ∧ τ'.1 2 0 = τ.1 2 0
theorem done_sim {κ' : aS} {τ τ' : bS} {d t o : Int} (hd0 : 0 ≤ d) (hd1 : d < 12) (h : PFD κ' τ τ' d t o) : CR (c_sweep (c_go (c_fin (pu_up κ' 14 (b_s τ t) o) d (b_s τ t) (τ.1 2 0)) d) d (τ.1 2 0)) (b_letsGo τ' d 17) ∧ WI (b_letsGo τ' d 17) ∧ JA (b_letsGo τ' d 17) := by
  obtain ⟨Λ, P, h1, hJ, hP, es, e2⟩ := h
  have h2 := h1.fin1
  rw [es, e2] at h2
  have eg : (b_letsGo τ' d 17).1 2 0 = τ.1 2 0 := by rw [SE.letsGo 17 (SE.refl τ') 2 0 rfl, e2]
  rcases hP with hP | hP
  · subst hP
    obtain ⟨P', g1, g2, _⟩ := go_sim hd0 hd1 h2 hJ h2.nops
    have g5 := g1.sweep hd0 hd1
    rw [eg] at g5
    exact ⟨g5, g1.2.2.2.1, g2⟩
  · obtain ⟨g1, g2⟩ := go_no hd0 hd1 h2 hJ hP
    have g5 := g1.sweep hd0 hd1
    rw [eg] at g5
    exact ⟨g5, g1.2.2.2.1, g2⟩
/-- t waits, and has a kept interrupt -/
theorem keep_sim {κ : aS} {τ : bS} {d t : Int} (hd0 : 0 ≤ d) (hd1 : d < 12) (hC : CR κ τ) (hI : WI τ) (hJ : JA τ) (ha : ACT τ t d) (h6 : τ.1 6 t = 1) (hl : (τ.2 d).length < 16) : CR (c_sweep (c_go (c_giveUp (pu_up (c_push (pu_up κ 14 (b_s τ t) 1) d (b_s τ t)) 6 t 0) d (b_s τ t) 2 (τ.1 2 0)) d) d (τ.1 2 0)) (b_letsGo (b_waits τ t) d 17) ∧ WI (b_letsGo (b_waits τ t) d 17) ∧ JA (b_letsGo (b_waits τ t) d 17) := by
  obtain ⟨tO, t5, t10, t14, tl⟩ := ha
  have hI6 : WI (b_up τ 6 t 0) := hI.upd _ _ rfl
  have hJ6 : JA (b_up τ 6 t 0) := fun e e0 e1 => (hJ e e0 e1).up (hI.rg e0 e1) e1 t 0 (by simp)
  have ebs : ∀ z, b_s (b_up τ 6 t 0) z = b_s τ z := fun z => b_s_up _ _ _ _ (by decide)
  have eC6 : ∀ (c : Nat) (i : Int), c ≠ 6 → (b_up τ 6 t 0).1 c i = τ.1 c i := fun c i hc => b_up_c _ _ _ _ _ _ hc
  have ha6 : ACT (b_up τ 6 t 0) t d := ⟨OKt_up (by decide) tO, by rw [eC6 _ _ (by decide)]; exact t5, by rw [ebs, eC6 _ _ (by decide)]; exact t10, by rw [ebs, eC6 _ _ (by decide)]; exact t14, tl⟩
  -- both sides without the kept interrupt
  have hC6 : CR (pu_up κ 6 t 0) (b_up τ 6 t 0) := by
    obtain ⟨⟨m1, m5, m7, m17, m17n, mlog, m15, msp, mP, mPr⟩, hL⟩ := hC
    have eK : ∀ (c : Nat) (i : Int), c ≠ 6 → pu_up κ 6 t 0 c i = κ c i := fun c i hc => pu_up_ne _ _ _ _ hc
    refine ⟨⟨fun c i hc => ?_, fun z => ?_, fun z => ?_, (fun z hz => by cases hz), fun s _ => ?_, fun c i hc => ?_, fun s => ?_, fun e e0 e1 => ?_, List.nodup_nil, (fun z hz => by cases hz)⟩, fun e e0 e1 => ?_⟩
    · show pu_up κ 6 t 0 c i = pu_up τ.1 6 t 0 c i
      unfold pu_up
      rw [m1 c i hc]
    · rw [eC6 _ _ (by decide), eK _ _ (by decide)]
      exact m5 z
    · rw [eC6 7 _ (by decide), eK _ _ (by decide), eC6 2 _ (by decide)]
      exact m7 z
    · rw [eC6 _ _ (by decide), eK _ _ (by decide)]
      exact m17n s (fun z hz => by cases hz)
    · rw [eC6 _ _ (by omega)]
      show _ = pu_up κ 6 t 0 c i
      rw [eK _ _ (by omega)]
      exact mlog c i hc
    · refine ⟨?_, UZ.tr s (fun i => eC6 4 i (by decide)) (fun i => eC6 3 i (by decide)) (m15 s).2 (fun _ _ => eK _ _ (by decide)) (fun _ _ => eC6 14 _ (by decide))⟩
      rw [eC6 15 _ (by decide), eC6 14 _ (by decide), eK _ _ (by decide)]
      exact (m15 s).1
    · obtain ⟨s1, s2⟩ := msp e e0 e1
      refine ⟨fun h5 => ?_, fun z hz => ⟨fun h => ?_, fun h => ?_⟩⟩
      · rw [eC6 _ _ (by decide)] at h5
        rw [eK _ _ (by decide), s1 h5]
        rfl
      · rw [eC6 _ _ (by decide)] at h
        rw [eK _ _ (by decide), (s2 z hz).1 h]
        rfl
      · rw [eC6 _ _ (by decide)] at h
        rw [ebs, eK _ _ (by decide), (s2 z hz).2 h]
        rfl
    · obtain ⟨a1, a2, a3, a4, a5⟩ := hL e e0 e1
      refine ⟨by rw [eK _ _ (by decide)]; exact a1, fun j x hx => by rw [eK _ _ (by decide), ebs]; exact a2 j x hx, ?_, a4, fun x hx => OKt_up (by decide) (a5 x hx)⟩
      rw [show wt (b_up τ 6 t 0) = wt τ from funext fun z => wt_up _ _ _ _ (by decide)]
      exact a3
  obtain ⟨hM, hps⟩ := hC6.mq hI6 hd0 hd1
  have hL := hM.2.1
  obtain ⟨a1, a2, a3, a4, a5⟩ := hL d hd0 hd1
  have e23 : κ 23 d = ((τ.2 d).length : Nat) := (hC.2 d hd0 hd1).1
  have e10 : κ 10 (b_s τ t) = τ.1 10 (b_s τ t) := hC.1.1 10 _ rfl
  -- the kit's state when t stands in the line with outcome 2
  obtain ⟨κ', eκ⟩ : ∃ κ', κ' = pu_up (pu_up (c_push (pu_up κ 14 (b_s τ t) 1) d (b_s τ t)) 6 t 0) 14 (b_s τ t) 2 := ⟨_, rfl⟩
  have c22 : ∀ i, κ' 22 i = if i = 16 * d + κ 23 d then b_s τ t else κ 22 i := fun i => by
    rw [eκ]
    unfold c_push
    simp (disch := decide) only [pu_up_ne, pu_up_c]
  have c23 : ∀ i, κ' 23 i = if i = d then κ 23 d + 1 else κ 23 i := fun i => by
    rw [eκ]
    unfold c_push
    simp (disch := decide) only [pu_up_ne, pu_up_c]
  have cC : ∀ (c : Nat) (i : Int), c ≠ 14 → c ≠ 22 → c ≠ 23 → c ≠ 5 → κ' c i = pu_up κ 6 t 0 c i := fun c i n14 n22 n23 n5 => by
    rw [eκ]
    unfold c_push
    rw [pu_up_ne _ _ _ _ n14]
    by_cases n6 : c = 6
    · subst n6
      rw [pu_up_c, pu_up_c, pu_up_ne _ _ _ _ n5, pu_up_ne _ _ _ _ n23, pu_up_ne _ _ _ _ n22, pu_up_ne _ _ _ _ n14]
    · rw [pu_up_ne _ _ _ _ n6, pu_up_ne _ _ _ _ n5, pu_up_ne _ _ _ _ n23, pu_up_ne _ _ _ _ n22, pu_up_ne _ _ _ _ n14, pu_up_ne _ _ _ _ n6]
  have tw : ∀ e z, 0 ≤ e → e < 12 → z ∈ τ.2 e → wt (b_fin (b_up τ 6 t 0) t 2 (κ 15 (b_s τ t))) z = true ∧ OKt (b_up τ 6 t 0) z := fun e z e0 e1 hz => by
    have zO : OKt (b_up τ 6 t 0) z := (hL e e0 e1).2.2.2.2 z hz
    refine ⟨?_, zO⟩
    rw [wt_fin ha6.1 zO (ha6.ne e0 e1 hz)]
    have hz2 : z ∈ (b_up τ 6 t 0).2 e := hz
    rw [(hL e e0 e1).2.2.1] at hz2
    exact (List.mem_filter.mp hz2).2
  have twt : wt (b_fin (b_up τ 6 t 0) t 2 (κ 15 (b_s τ t))) t = false := by
    unfold wt
    rw [b_fin_s, b_fin_14, if_pos rfl]
    decide
  have tps : ps (b_fin (b_up τ 6 t 0) t 2 (κ 15 (b_s τ t))) t = false := by
    unfold ps
    rw [b_fin_s, b_fin_14, if_pos rfl]
    decide
  obtain ⟨Λ, eΛ⟩ : ∃ Λ : Int → List Int, Λ = fun e => if e = d then τ.2 d ++ [t] else τ.2 e := ⟨_, rfl⟩
  have Λd : Λ d = τ.2 d ++ [t] := by rw [eΛ]; exact if_pos rfl
  have Λe : ∀ e, e ≠ d → Λ e = τ.2 e := fun e he => by rw [eΛ]; exact if_neg he
  have hM1 : Mq κ' (b_fin (b_up τ 6 t 0) t 2 (κ 15 (b_s τ t))) d Λ [] [t] := by
    refine hM.self hd0 hd1 ha6 (fun c i n14 n15 n5 n22 n23 => cC c i n14 n22 n23 n5) (fun i => ?_) (fun i => ?_) (fun i hi => ?_) ?_ [] [t] rfl ?_ (fun e _ _ he => Λe e he)
    · rw [ebs, eκ, pu_up_c]
      split
      · rfl
      · rename_i hne
        rw [pu_up_ne _ _ _ _ (by decide)]
        unfold c_push
        rw [pu_up_ne _ _ _ _ (by decide), pu_up_ne _ _ _ _ (by decide), pu_up_ne _ _ _ _ (by decide), pu_up_c, if_neg hne, pu_up_ne _ _ _ _ (by decide)]
    · rw [cC 15 i (by decide) (by decide) (by decide) (by decide), ebs, pu_up_ne _ _ _ _ (by decide)]
      split
      · rename_i e
        rw [e]
      · rfl
    · rw [eκ, pu_up_ne _ _ _ _ (by decide), pu_up_ne _ _ _ _ (by decide)]
      unfold c_push
      rw [pu_up_c, bs_div tO, if_neg hi, pu_up_ne _ _ _ _ (by decide), pu_up_ne _ _ _ _ (by decide), pu_up_ne _ _ _ _ (by decide), pu_up_ne _ _ _ _ (by decide)]
    · intro e e0 e1
      obtain ⟨b1, b2, b3, b4, b5⟩ := hL e e0 e1
      have f1 : (τ.2 e).filter (wt (b_fin (b_up τ 6 t 0) t 2 (κ 15 (b_s τ t)))) = τ.2 e := List.filter_eq_self.mpr (fun z hz => (tw e z e0 e1 hz).1)
      have hO : ∀ z, OKt (b_up τ 6 t 0) z → OKt (b_fin (b_up τ 6 t 0) t 2 (κ 15 (b_s τ t))) z := fun z hz => by
        unfold OKt
        rw [b_fin_c _ _ _ _ _ _ (by decide)]
        exact hz
      have b1' : κ 23 e = ((τ.2 e).length : Nat) := (hC.2 e e0 e1).1
      have b2' := (hC.2 e e0 e1).2.1
      by_cases ed : e = d
      · subst ed
        rw [Λd, b_fin_2]
        refine ⟨by rw [c23, if_pos rfl, e23]; simp, fun j x hx => ?_, ?_, ?_, fun x hx => ?_⟩
        · rw [c22, b_fin_s, ebs]
          by_cases hj : j < (τ.2 e).length
          · rw [List.getElem?_append_left hj] at hx
            rw [if_neg (by omega)]
            exact b2' j x hx
          · rw [List.getElem?_append_right (by omega)] at hx
            have hz1 : j - (τ.2 e).length < 1 := (List.getElem?_eq_some_iff.mp hx).1
            rw [show j - (τ.2 e).length = 0 by omega] at hx
            cases hx
            rw [if_pos (by omega)]
        · rw [List.filter_append, f1, List.filter_cons, if_neg (by rw [twt]; decide)]
          simp
          rfl
        · rw [List.nodup_append]
          refine ⟨b4, by simp, fun x hx z hz => ?_⟩
          rw [List.mem_singleton.mp hz]
          exact ha6.ne e0 e1 hx
        · rcases List.mem_append.mp hx with hx | hx
          · exact hO x (b5 x hx)
          · rw [List.mem_singleton.mp hx]
            exact hO t ha6.1
      · rw [Λe e ed, b_fin_2]
        refine ⟨by rw [c23, if_neg ed]; exact b1', fun j x hx => ?_, f1.symm, b4, fun x hx => hO x (b5 x hx)⟩
        rw [c22, b_fin_s, ebs, if_neg ?_]
        · exact b2' j x hx
        · have hj := (List.getElem?_eq_some_iff.mp hx).1
          have := hI.len e e0 e1
          omega
    · rw [Λd]
      refine ⟨fun x => ?_, ?_⟩
      · constructor
        · intro hx
          rw [List.mem_singleton.mp hx]
          exact ⟨by simp, twt⟩
        · rintro ⟨h1, h2⟩
          rcases List.mem_append.mp h1 with h1 | h1
          · rw [(tw d x hd0 hd1 h1).1] at h2
            cases h2
          · exact h1
      · have f0 : (τ.2 d).filter (ps (b_fin (b_up τ 6 t 0) t 2 (κ 15 (b_s τ t)))) = [] := List.filter_eq_nil_iff.mpr (fun z hz => by rw [wt_ps (tw d z hd0 hd1 hz).1]; decide)
        rw [List.filter_append, f0]
        rfl
  have hJ1 : JA (b_fin (b_up τ 6 t 0) t 2 (κ 15 (b_s τ t))) := hJ6.fin hI6 t 2 _
  have hp1 : ∀ z ∈ Λ d, ps (b_fin (b_up τ 6 t 0) t 2 (κ 15 (b_s τ t))) z = false := fun z hz => by
    rw [Λd] at hz
    rcases List.mem_append.mp hz with hz | hz
    · exact wt_ps (tw d z hd0 hd1 hz).1
    · rw [List.mem_singleton.mp hz]
      exact tps
  have e2 : (b_fin (b_up τ 6 t 0) t 2 (κ 15 (b_s τ t))).1 2 0 = τ.1 2 0 := by
    rw [b_fin_c _ _ _ _ _ _ (by decide), eC6 _ _ (by decide)]
  have e18 : (b_fin (b_up τ 6 t 0) t 2 (κ 15 (b_s τ t))).1 18 d = τ.1 18 d := by
    rw [b_fin_c _ _ _ _ _ _ (by decide), eC6 _ _ (by decide)]
  obtain ⟨g1, g2, g3, g4⟩ := after_sim hd0 hd1 hM1 hJ1 hp1
  rw [e2] at g1
  have efin : b_fin (b_up τ 6 t 0) t 2 (κ 15 (b_s τ t)) = b_ends (b_up τ 6 t 0) t 2 0 := by
    unfold b_fin
    rw [if_neg (by decide)]
  have ew : b_letsGo (b_waits τ t) d 17 = b_after (b_fin (b_up τ 6 t 0) t 2 (κ 15 (b_s τ t))) d := by
    unfold b_waits b_after
    rw [if_pos h6, show τ.1 10 (20 * t + τ.1 4 t - 1) = d from t10, e18, efin]
  rw [ew]
  have eA : b_after (b_fin (b_up τ 6 t 0) t 2 (κ 15 (b_s τ t))) d = b_letsGo (b_after (b_fin (b_up τ 6 t 0) t 2 (κ 15 (b_s τ t))) d) d 17 := (b_letsGo_no g4 17).symm
  have hb2 : (b_after (b_fin (b_up τ 6 t 0) t 2 (κ 15 (b_s τ t))) d).1 2 0 = τ.1 2 0 := by rw [SE.after _ d 2 0 rfl, e2]
  obtain ⟨hM5, hps5⟩ := g1.mq g2 hd0 hd1
  obtain ⟨P', k1, k2, k3⟩ := go_sim hd0 hd1 hM5 g3 hps5
  rw [← eA] at k1
  have k5 := k1.sweep hd0 hd1
  rw [hb2] at k5
  refine ⟨?_, g2, g3⟩
  unfold c_giveUp
  rw [← eκ]
  exact k5
