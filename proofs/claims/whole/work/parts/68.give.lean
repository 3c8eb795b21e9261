theorem CR.mq {κ : aS} {τ : bS} (h : CR κ τ) (hI : WI τ) {d : Int} (hd0 : 0 ≤ d) (hd1 : d < 12) : Mq κ τ d τ.2 [] [] ∧ ∀ z ∈ τ.2 d, ps τ z = false := by
  have hw : ∀ z ∈ τ.2 d, wt τ z = true := fun z hz => by
    rw [(h.2 d hd0 hd1).2.2.1] at hz
    exact (List.mem_filter.mp hz).2
  refine ⟨⟨h.1, h.2, ⟨fun x => ?_, ?_⟩, hI, fun _ _ _ _ => rfl⟩, fun z hz => wt_ps (hw z hz)⟩
  · constructor
    · intro z
      cases z
    · rintro ⟨h1, h2⟩
      rw [hw x h1] at h2
      cases h2
  · exact (List.filter_eq_nil_iff.mpr (fun z hz => by rw [wt_ps (hw z hz)]; decide)).symm
theorem Mq.sweep {κ : aS} {τ : bS} {d : Int} {Λ : Int → List Int} {P : List Int} (h : Mq κ τ d Λ [] P) (hd0 : 0 ≤ d) (hd1 : d < 12) : CR (c_sweep κ d (τ.1 2 0)) τ := sweep_sim h.1 h.2.1 hd0 hd1 h.2.2.1 h.2.2.2.2
theorem Mq.nops {κ : aS} {τ : bS} {d : Int} {Λ : Int → List Int} {pre : List Int} (h : Mq κ τ d Λ pre []) : ∀ z ∈ Λ d, ps τ z = false := fun z hz => by
  have h2 := h.2.2.1.2
  cases hp : ps τ z
  · rfl
  · have : z ∈ (Λ d).filter (ps τ) := List.mem_filter.mpr ⟨hz, hp⟩
    rw [← h2] at this
    cases this
/-- one that waited gave up: the others may break, then may go -/
def b_after (τ : bS) (d : Int) : bS := b_letsGo (if τ.1 18 d = 3 then b_allEnd (b_up τ 25 d 1) d 5 else τ) d 17
theorem SE.after (τ : bS) (d : Int) : SE τ (b_after τ d) := by
  unfold b_after
  refine SE.letsGo _ ?_
  split
  · exact ((SE.refl τ).up _ _ rfl).allEnd _ _
  · exact SE.refl τ
theorem after_sim {κ : aS} {τ : bS} {d : Int} {Λ : Int → List Int} {P : List Int} (hd0 : 0 ≤ d) (hd1 : d < 12) (h : Mq κ τ d Λ [] P) (hJ : JA τ) (hp : ∀ z ∈ Λ d, ps τ z = false) : CR (c_sweep (c_go (c_suf κ d) d) d (τ.1 2 0)) (b_after τ d) ∧ WI (b_after τ d) ∧ JA (b_after τ d) ∧ b_letsOne (b_after τ d) d = none := by
  have e18 : κ 18 d = τ.1 18 d := h.1.1 18 d rfl
  have hI := h.2.2.2.1
  have e2 := SE.after τ d 2 0 rfl
  rw [← e2]
  have hj := hJ d hd0 hd1
  by_cases hk : τ.1 18 d = 3
  · have h1 : Mq (pu_up κ 25 d 1) (b_up τ 25 d 1) d Λ [] P := h.up d 1 (by decide) (hI.upd _ _ rfl)
    have e25 : (b_up τ 25 d 1).1 25 d = 1 := pu_up_at _ _ _ _
    have hJ1 : JA (b_up τ 25 d 1) := hJ.up1 hI (by decide) (JK.k3 (by rw [b_up_c _ _ _ _ _ _ (by decide)]; exact hk) ⟨Or.inr e25, by rw [b_up_c _ _ _ _ _ _ (by decide)]; exact (hj.2.2.1 hk).2⟩ (by rw [b_up_c _ _ _ _ _ _ (by decide)]; exact hj.c))
    obtain ⟨P', h2⟩ := end_sim (o := 5) hd0 hd1 (by decide) (by decide) h1 (fun z hz => by
      unfold ps
      rw [b_s_up _ _ _ _ (by decide), b_up_c _ _ _ _ _ _ (by decide)]
      exact hp z hz)
    have hJ2 : JA (b_allEnd (b_up τ 25 d 1) d 5) := by
      rw [b_allEnd_out (by decide)]
      exact (JA.outs hd0 hd1 JA (fun τ x hI hJ hx => hJ.out hI hd0 hd1 hx _ _) _ _ rfl (hI.upd _ _ rfl) hJ1).1
    have hk2 : (b_allEnd (b_up τ 25 d 1) d 5).1 18 d = 3 := by
      have := SE.allEnd (SE.refl (b_up τ 25 d 1)) d 5 18 d rfl
      rw [this, b_up_c _ _ _ _ _ _ (by decide)]
      exact hk
    obtain ⟨g1, g2⟩ := go_no hd0 hd1 h2 hJ2 (Or.inl hk2)
    have ec : c_suf κ d = c_endAll (pu_up κ 25 d 1) d 5 := by
      unfold c_suf c_suffer
      rw [if_pos (by rw [e18]; exact hk)]
    have ea : b_after τ d = b_letsGo (b_allEnd (b_up τ 25 d 1) d 5) d 17 := by
      unfold b_after
      rw [if_pos hk]
    rw [ec, ea]
    refine ⟨g1.sweep hd0 hd1, g1.2.2.2.1, g2, ?_⟩
    rw [b_letsGo_no (lets_no (Or.inl hk2))]
    exact lets_no (Or.inl hk2)
  · have ec : c_suf κ d = κ := by
      unfold c_suf
      rw [if_neg (by rw [e18]; exact hk)]
    have ea : b_after τ d = b_letsGo τ d 17 := by
      unfold b_after
      rw [if_neg hk]
    obtain ⟨P', g1, g2, g3⟩ := go_sim hd0 hd1 h hJ hp
    rw [ec, ea]
    exact ⟨g1.sweep hd0 hd1, g1.2.2.2.1, g2, g3⟩
theorem give_sim {κ : aS} {τ : bS} {d x o : Int} (hd0 : 0 ≤ d) (hd1 : d < 12) (hC : CR κ τ) (hI : WI τ) (hJ : JA τ) (hx : x ∈ τ.2 d) (ho : o ≠ 0) (ho1 : o ≠ 1) : CR (c_giveUp κ d (b_s τ x) o (τ.1 2 0)) (b_gives τ x o) ∧ WI (b_gives τ x o) ∧ JA (b_gives τ x o) := by
  obtain ⟨hM, hps⟩ := hC.mq hI hd0 hd1
  have x5 := ((hI.2.2.1 d hd0 hd1).2 x hx).2.2.1
  obtain ⟨l1, l2, hl⟩ := List.append_of_mem hx
  have hw : wt τ x = true := by
    rw [(hC.2 d hd0 hd1).2.2.1] at hx
    exact (List.mem_filter.mp hx).2
  have xO := hM.ok hd0 hd1 hx
  have h1 := hM.out (κ' := pu_up κ 14 (b_s τ x) o) (o := o) (w := κ 15 (b_s τ x)) hd0 hd1 hl hw ho1 (fun e => absurd e ho) (fun c i h1 _ => pu_up_ne _ _ _ _ h1) (fun i => pu_up_c _ _ _ _ _) (fun i => by
    rw [pu_up_ne _ _ _ _ (by decide)]
    split
    · rename_i e
      rw [e]
    · rfl)
  have eo : b_out τ x o (κ 15 (b_s τ x)) = b_ends (b_leaves τ x) x o 0 := by
    unfold b_out
    rw [if_neg ho]
  have hJ1 : JA (b_out τ x o (κ 15 (b_s τ x))) := hJ.out hI hd0 hd1 hx _ _
  have hp1 : ∀ z ∈ τ.2 d, ps (b_out τ x o (κ 15 (b_s τ x))) z = false := fun z hz => by
    by_cases e : z = x
    · subst e
      unfold ps
      rw [b_out_s, b_out_14, if_pos rfl]
      simpa using ho
    · rw [ps_out xO (hM.ok hd0 hd1 hz) e]
      exact hps z hz
  have e2 : (b_out τ x o (κ 15 (b_s τ x))).1 2 0 = τ.1 2 0 := b_out_c _ _ _ _ _ _ (by decide)
  obtain ⟨g1, g2, g3, _⟩ := after_sim hd0 hd1 h1 hJ1 hp1
  rw [e2] at g1
  have e18 : (b_out τ x o (κ 15 (b_s τ x))).1 18 d = τ.1 18 d := b_out_c _ _ _ _ _ _ (by decide)
  have eg : b_gives τ x o = b_after (b_out τ x o (κ 15 (b_s τ x))) d := by
    unfold b_gives b_after
    rw [e18, eo, x5]
  rw [eg]
  exact ⟨g1, g2, g3⟩
theorem shut_sim {κ : aS} {τ : bS} {d : Int} (hd0 : 0 ≤ d) (hd1 : d < 12) (hC : CR κ τ) (hI : WI τ) (hJ : JA τ) : CR (c_shut κ d (τ.1 2 0)) (b_allEnd (b_up τ 20 d 1) d 4) ∧ WI (b_allEnd (b_up τ 20 d 1) d 4) ∧ JA (b_allEnd (b_up τ 20 d 1) d 4) := by
  obtain ⟨hM, hps⟩ := hC.mq hI hd0 hd1
  have h1 : Mq (pu_up κ 20 d 1) (b_up τ 20 d 1) d τ.2 [] [] := hM.up d 1 (by decide) (hI.upd _ _ rfl)
  obtain ⟨P', h2⟩ := end_sim (o := 4) hd0 hd1 (by decide) (by decide) h1 (fun z hz => by
    unfold ps
    rw [b_s_up _ _ _ _ (by decide), b_up_c _ _ _ _ _ _ (by decide)]
    exact hps z hz)
  have e2 : (b_allEnd (b_up τ 20 d 1) d 4).1 2 0 = τ.1 2 0 := by
    rw [SE.allEnd (SE.refl (b_up τ 20 d 1)) d 4 2 0 rfl, b_up_c _ _ _ _ _ _ (by decide)]
  have h3 := h2.sweep hd0 hd1
  rw [e2] at h3
  refine ⟨h3, h2.2.2.2.1, ?_⟩
  have eC : ∀ (c : Nat) (i : Int), c ≠ 20 → (b_up τ 20 d 1).1 c i = τ.1 c i := fun c i hc => b_up_c _ _ _ _ _ _ hc
  have hQ0 : ∀ e, 0 ≤ e → e < 12 → JK0 (b_up τ 20 d 1) e := fun e e0 e1 => (hJ e e0 e1).j0.sub (hI.rg e0 e1) (fun c hc => eC c e (by omega)) (Or.inl (eC 28 e (by decide))) (fun i _ _ => eC 29 _ (by decide)) (fun x hx => hx) (Nat.le_refl _) (fun x _ => ⟨eC 4 x (by decide), eC 9 x (by decide)⟩) (fun s => eC 11 s (by decide)) (fun s => eC 12 s (by decide)) (Int.le_refl _)
  have g := JA.outs (o := 4) (F := fun _ _ => 0) hd0 hd1 (fun τ' => (∀ e, 0 ≤ e → e < 12 → JK0 τ' e) ∧ τ'.1 20 d = 1 ∧ ∀ e, 0 ≤ e → e < 12 → e ≠ d → (τ'.1 20 e = 0 ∨ τ'.1 20 e = 1) ∧ (τ'.1 20 e = 1 → τ'.2 e = [])) (fun τ' x hI' hq hx => ⟨fun e e0 e1 => (hq.1 e e0 e1).out hI' e0 e1 hd0 hd1 hx _ _, by rw [b_out_c _ _ _ _ _ _ (by decide)]; exact hq.2.1, fun e e0 e1 ne => by
    rw [b_out_c _ _ _ _ _ _ (by decide), b_out_2]
    obtain ⟨q1, q2⟩ := hq.2.2 e e0 e1 ne
    refine ⟨q1, fun k => ?_⟩
    rw [q2 k]
    split <;> rfl⟩) _ (b_up τ 20 d 1) rfl (hI.upd _ _ rfl) ⟨hQ0, pu_up_at _ _ _ _, fun e e0 e1 ne => by
      have : (b_up τ 20 d 1).1 20 e = τ.1 20 e := by
        show pu_up τ.1 20 d 1 20 e = _
        rw [pu_up_c, if_neg ne]
      rw [this]
      exact (hJ e e0 e1).c⟩
  rw [← b_allEnd_out (by decide)] at g
  obtain ⟨⟨q1, q2, q3⟩, q4⟩ := g
  intro e e0 e1
  refine (q1 e e0 e1).of ?_
  by_cases ed : e = d
  · rw [ed]
    exact ⟨Or.inr q2, fun _ => q4⟩
  · exact q3 e e0 e1 ed
/-! who acts -/
def b_fin (τ : bS) (t o v : Int) : bS := if o = 0 then b_passes τ t v else b_ends τ t o 0
theorem b_fin_e (τ : bS) (t o v : Int) (c : Nat) (i : Int) (h : c ≠ 33 ∧ c ≠ 34) : (b_fin τ t o v).1 c i = q_ends τ.1 t o (if o = 0 then v else 0) c i := by
  unfold b_fin
  by_cases ho : o = 0
  · subst ho
    rw [if_pos rfl, if_pos rfl]
    exact q_passes_e _ _ _ _ _ h
  · rw [if_neg ho, if_neg ho]
    rfl
theorem b_fin_c (τ : bS) (t o v : Int) (c : Nat) (i : Int) (h : c ≠ 14 ∧ c ≠ 15 ∧ c ≠ 17 ∧ c ≠ 7 ∧ c ≠ 33 ∧ c ≠ 34) : (b_fin τ t o v).1 c i = τ.1 c i := by
  rw [b_fin_e _ _ _ _ _ _ h.2.2.2.2, q_ends_c _ _ _ _ _ _ ⟨h.1, h.2.1, h.2.2.1, h.2.2.2.1⟩]
theorem b_fin_14 (τ : bS) (t o v i : Int) : (b_fin τ t o v).1 14 i = if i = b_s τ t then o else τ.1 14 i := by
  rw [b_fin_e _ _ _ _ _ _ (by decide), q_ends_14]
  rfl
theorem b_fin_15 (τ : bS) (t o v i : Int) : (b_fin τ t o v).1 15 i = if i = b_s τ t then (if o = 0 then v else 0) else τ.1 15 i := by
  rw [b_fin_e _ _ _ _ _ _ (by decide), q_ends_15]
  rfl
theorem b_fin_17 (τ : bS) (t o v i : Int) : (b_fin τ t o v).1 17 i = if i = b_s τ t then τ.1 2 0 else τ.1 17 i := by
  rw [b_fin_e _ _ _ _ _ _ (by decide), q_ends_17]
  rfl
theorem b_fin_7 (τ : bS) (t o v i : Int) : (b_fin τ t o v).1 7 i = if i = t then τ.1 2 0 else τ.1 7 i := by
  rw [b_fin_e _ _ _ _ _ _ (by decide), q_ends_7]
theorem b_fin_log {τ : bS} {t o v d : Int} (h10 : τ.1 10 (b_s τ t) = d) (h34 : τ.1 34 d ≤ 300) (c : Nat) (i : Int) (hc : c = 33 ∨ c = 34) : (b_fin τ t o v).1 c i = if o = 0 then c_log d τ.1 t c i else τ.1 c i := by
  have hc14 : c ≠ 14 ∧ c ≠ 15 ∧ c ≠ 17 ∧ c ≠ 7 := by omega
  unfold b_fin
  by_cases ho : o = 0
  · rw [if_pos ho, if_pos ho]
    show q_passes τ.1 t v c i = _
    unfold q_passes
    have e10 : τ.1 10 (20 * t + τ.1 4 t - 1) = d := h10
    have eE : ∀ i, q_ends τ.1 t 0 v c i = τ.1 c i := fun i => q_ends_c _ _ _ _ _ _ hc14
    rw [e10]
    unfold c_log
    by_cases h3 : τ.1 34 d = 300
    · rw [if_pos h3, if_neg (by omega)]
      exact eE i
    · rw [if_neg h3, if_pos (by omega)]
      unfold pu_up
      rw [eE i]
  · rw [if_neg ho, if_neg ho]
    show q_ends τ.1 t o 0 c i = _
    rw [q_ends_c _ _ _ _ _ _ hc14]
theorem b_fin_s (τ : bS) (t o v z : Int) : b_s (b_fin τ t o v) z = b_s τ z := by
  unfold b_s
  rw [b_fin_c _ _ _ _ _ _ (by decide)]
theorem b_fin_2 (τ : bS) (t o v : Int) : (b_fin τ t o v).2 = τ.2 := by
  unfold b_fin
  split <;> rfl
theorem WI.fin {τ : bS} (h : WI τ) (t o v : Int) : WI (b_fin τ t o v) := by
  unfold b_fin
  split
  · exact h.passes t v
  · exact h.ends t o 0
theorem JK.fin {τ : bS} {e : Int} (h : JK τ e) (hp : ∀ x ∈ τ.2 e, 0 ≤ x ∧ x < 16) (t o v : Int) : JK (b_fin τ t o v) e := by
  have eC := b_fin_c τ t o v
  exact h.sub hp (fun c hc => eC c e (by omega)) (Or.inl (eC 28 e (by decide))) (fun i _ _ => eC 29 _ (by decide)) (fun x hx => by rw [b_fin_2] at hx; exact hx) (by rw [b_fin_2]; exact Nat.le_refl _) (fun x _ => ⟨eC 4 x (by decide), eC 9 x (by decide)⟩) (fun s => eC 11 s (by decide)) (fun s => eC 12 s (by decide)) (Int.le_of_eq (by
    congr 1
    funext t
    exact (eC 4 t (by decide)).symm))
theorem JA.fin {τ : bS} (h : JA τ) (hI : WI τ) (t o v : Int) : JA (b_fin τ t o v) := fun e e0 e1 => (h e e0 e1).fin (hI.rg e0 e1) t o v
/-- t, that acts at d and waits nowhere -/
def ACT (τ : bS) (t d : Int) : Prop := OKt τ t ∧ τ.1 5 t = -1 ∧ τ.1 10 (b_s τ t) = d ∧ τ.1 14 (b_s τ t) = 8 ∧ ∀ e, 0 ≤ e → e < 12 → t ∉ τ.2 e
theorem Mq.self {κ κ' : aS} {τ : bS} {d t o w : Int} {Λ : Int → List Int} (h : Mq κ τ d τ.2 [] []) (hd0 : 0 ≤ d) (hd1 : d < 12) (ha : ACT τ t d) (hk : ∀ (c : Nat) (i : Int), c ≠ 14 → c ≠ 15 → c ≠ 5 → c ≠ 22 → c ≠ 23 → κ' c i = κ c i) (hk14 : ∀ i, κ' 14 i = if i = b_s τ t then o else κ 14 i) (hk15 : ∀ i, κ' 15 i = if i = b_s τ t then w else κ 15 i) (hk5 : ∀ i, i ≠ t → κ' 5 i = κ 5 i) (hL : ML κ' (b_fin τ t o w) Λ) (pre P : List Int) (hpp : pre ++ P = [t]) (hP : PO (b_fin τ t o w) (Λ d) P) (hΛ : ∀ e, 0 ≤ e → e < 12 → e ≠ d → Λ e = τ.2 e) : Mq κ' (b_fin τ t o w) d Λ pre P := by
  obtain ⟨⟨m1, m5, m7, m17, m17n, mlog, m15, msp, mP, mPr⟩, hL0, hP0, hI, he⟩ := h
  obtain ⟨tO, t5, t10, t14, tl⟩ := ha
  have h34 := (hI.2.2.2.1 d hd0 hd1).2.1
  have eC := b_fin_c τ t o w
  have eS := b_fin_s τ t o w
  have e2 := eC 2 0 (by decide)
  have ne : ∀ z, OKt τ z → z ≠ t → b_s τ z ≠ b_s τ t := fun z hz e1 e2 => e1 (bs_inj hz tO e2)
  refine ⟨?_, hL, hP, hI.fin t o w, fun e e0 e1 hne => by rw [hΛ e e0 e1 hne, b_fin_2]⟩
  rw [hpp]
  refine ⟨fun c i hc => ?_, fun z => ?_, fun z => ?_, fun z hz => ?_, fun s hs => ?_, fun c i hc => ?_, fun s => ?_, fun e he0 he1 => ?_, by simp, fun z hz => ?_⟩
  · obtain ⟨n5, n7, n15, n17, n28, n33, n34, n22, n23⟩ := mr_ne hc
    by_cases e14 : c = 14
    · subst e14
      rw [hk14, b_fin_14, m1 14 i rfl]
    · rw [hk c i e14 n15 n5 n22 n23, eC c i ⟨e14, n15, n17, n7, n33, n34⟩]
      exact m1 c i hc
  · rw [eC 5 z (by decide)]
    by_cases e : z = t
    · rw [e, if_pos (by simp), t5]
    · rw [if_neg (by simpa using e), hk5 z e]
      have := m5 z
      simpa using this
  · rw [b_fin_7, e2, hk 7 z (by decide) (by decide) (by decide) (by decide) (by decide)]
    by_cases e : z = t
    · rw [if_pos e, if_pos (by simpa using e)]
    · rw [if_neg e, if_neg (by simpa using e)]
      have := m7 z
      simpa using this
  · rw [List.mem_singleton.mp hz, eS, b_fin_17, e2, if_pos rfl]
  · have hs2 := hs t (by simp)
    rw [eS] at hs2
    rw [b_fin_17, if_neg hs2, hk 17 s (by decide) (by decide) (by decide) (by decide) (by decide)]
    exact m17n s (fun z hz => by cases hz)
  · have g1 : ∀ (c : Nat) (i : Int), (c = 33 ∨ c = 34) → τ.1 c i = κ' c i := fun c i hc => by
      rw [hk c i (by omega) (by omega) (by omega) (by omega) (by omega)]
      exact mlog c i hc
    have hX : ps (b_fin τ t o w) t = decide (o = 0) := by
      unfold ps
      rw [eS, b_fin_14, if_pos rfl]
    rw [b_fin_log t10 h34 c i hc]
    by_cases ho : o = 0
    · have hX2 : ps (b_fin τ t o w) t = true := by rw [hX]; simpa using ho
      rw [if_pos ho, show List.filter (ps (b_fin τ t o w)) [t] = [t] by rw [List.filter_cons, if_pos hX2]; rfl]
      exact c_log_congr g1 c i hc
    · have hX2 : ¬ ps (b_fin τ t o w) t = true := by rw [hX]; simpa using ho
      rw [if_neg ho, show List.filter (ps (b_fin τ t o w)) [t] = [] by rw [List.filter_cons, if_neg hX2]; rfl]
      exact g1 c i hc
  · refine ⟨?_, UZ.tr s (fun i => eC 4 i (by decide)) (fun i => eC 3 i (by decide)) (m15 s).2 (fun hp u => by rw [hk15, if_neg (u.ne hp tO)]) (fun hp u => by rw [b_fin_14, if_neg (u.ne hp tO)])⟩
    rw [b_fin_15, b_fin_14, hk15]
    by_cases e : s = b_s τ t
    · rw [if_pos e, if_pos e, if_pos e]
    · rw [if_neg e, if_neg e, if_neg e]
      exact (m15 s).1
  · obtain ⟨s1, s2⟩ := msp e he0 he1
    have hkk : ∀ (c : Nat) (i : Int), c = 43 ∨ c = 42 → κ' c i = κ c i := fun c i hc => hk c i (by omega) (by omega) (by omega) (by omega) (by omega)
    refine ⟨fun h5 => ?_, fun z hz => ?_⟩
    · rw [eC 18 e (by decide)] at h5
      rw [hkk 43 e (by decide), s1 h5]
      exact (b_lookers_congr e (fun i => eC 29 i (by decide))).symm
    · rw [b_fin_2] at hz
      have zt : z ≠ t := fun e1 => tl e he0 he1 (e1 ▸ hz)
      obtain ⟨t1, t2⟩ := s2 z hz
      have z3 := (hI.2.2.1 e he0 he1).2 z hz
      have zO : OKt τ z := ⟨z3.1, z3.2.1, z3.2.2.2.1, (hI.1 z z3.1 z3.2.1).2.1⟩
      refine ⟨fun h11 => ?_, fun h3 => ?_⟩
      · rw [eC 18 e (by decide)] at h11
        rw [hkk 42 _ (by decide), t1 h11, eC 9 z (by decide)]
        unfold b_num
        rw [eC 4 z (by decide), eC 12 _ (by decide)]
      · rw [eC 18 e (by decide)] at h3
        rw [eS, hk15, if_neg (ne z zO zt), t2 h3, eC 8 z (by decide)]
  · rw [List.mem_singleton.mp hz]
    unfold OKt
    rw [eC 4 t (by decide)]
    exact tO
