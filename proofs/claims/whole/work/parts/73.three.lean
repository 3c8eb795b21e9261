/-- a mark elsewhere does not mind the loop -/
theorem c_lp_up {d s o : Int} {f : aS → Int → aS} (hf : ∀ (κ : aS) (s' : Int), s' ≠ s → f (pu_up κ 14 s o) s' = pu_up (f κ s') 14 s o) (hf22 : ∀ (κ : aS) (s' i : Int), f κ s' 22 i = κ 22 i) : ∀ (k : Nat) (j : Int) (κ : aS), 0 ≤ j → (∀ i, j ≤ i → i < j + k → κ 22 (16 * d + i) ≠ s) → c_lp d (fun κ s => some (f κ s)) k j (pu_up κ 14 s o) = pu_up (c_lp d (fun κ s => some (f κ s)) k j κ) 14 s o := by
  intro k
  induction k with
  | zero => intro j κ _ _; rfl
  | succ k ih =>
    intro j κ h0 hn
    have hs := hn j (by omega) (by omega)
    have e22 : pu_up κ 14 s o 22 (16 * d + j) = κ 22 (16 * d + j) := pu_up_ne _ _ _ _ (by decide)
    have e14 : pu_up κ 14 s o 14 (κ 22 (16 * d + j)) = κ 14 (κ 22 (16 * d + j)) := by rw [pu_up_c, if_neg hs]
    by_cases hw : κ 14 (κ 22 (16 * d + j)) = 1
    · rw [c_lp_s (κ := pu_up κ 14 s o) (by rw [e22, e14]; exact hw) rfl, c_lp_s hw rfl, e22, hf κ _ hs]
      exact ih (j + 1) _ (by omega) (fun i h1 h2 => by rw [hf22]; exact hn i (by omega) (by omega))
    · rw [c_lp_n (κ := pu_up κ 14 s o) (by rw [e22, e14]; exact hw), c_lp_n hw]
      exact ih (j + 1) _ (by omega) (fun i h1 h2 => hn i (by omega) (by omega))
theorem AH.nos {κ : aS} {τ : bS} {d t : Int} (h : AH κ τ d t) : ∀ i, 0 ≤ i → i < ((τ.2 d).length : Int) → κ 22 (16 * d + i) ≠ b_s τ t := fun i h0 h1 e => by
  obtain ⟨hC, hI, hJ, ha, h15, h20, hact, h7, hd0, hd1⟩ := h
  obtain ⟨a1, a2, a3, a4, a5⟩ := hC.2 d hd0 hd1
  have hl : i.toNat < (τ.2 d).length := by omega
  have g := a2 i.toNat _ (List.getElem?_eq_getElem hl)
  rw [Int.toNat_of_nonneg h0, e] at g
  have hm := List.getElem_mem hl
  exact ha.ne hd0 hd1 hm (bs_inj (a5 _ hm) ha.1 g.symm)
theorem pu_up_comm (κ : aS) {c c' : Nat} (i v i' v' : Int) (h : c ≠ c') : pu_up (pu_up κ c i v) c' i' v' = pu_up (pu_up κ c' i' v') c i v := by
  funext a b
  unfold pu_up
  by_cases h1 : a = c' ∧ b = i'
  · rw [if_pos h1]
    by_cases h2 : a = c ∧ b = i
    · exact absurd (h2.1.symm.trans h1.1) h
    · rw [if_neg h2, if_pos h1]
  · rw [if_neg h1]
    by_cases h2 : a = c ∧ b = i
    · rw [if_pos h2, if_pos h2]
    · rw [if_neg h2, if_neg h2, if_neg h1]
theorem endAll_comm {κ : aS} {τ : bS} {d t : Int} (h : AH κ τ d t) (v o o' : Int) : pu_up (c_endAll (pu_up κ 15 (b_s τ t) v) d o) 14 (b_s τ t) o' = c_endAll (pu_up (pu_up κ 15 (b_s τ t) v) 14 (b_s τ t) o') d o := by
  unfold c_endAll
  have e23 : pu_up (pu_up κ 15 (b_s τ t) v) 14 (b_s τ t) o' 23 d = κ 23 d := by rw [pu_up_ne _ _ _ _ (by decide), pu_up_ne _ _ _ _ (by decide)]
  have e23b : pu_up κ 15 (b_s τ t) v 23 d = κ 23 d := pu_up_ne _ _ _ _ (by decide)
  rw [e23, e23b]
  refine (c_lp_up (f := fun κ s => pu_up κ 14 s o) (fun κ s' hs => ?_) (fun κ s' i => pu_up_ne _ _ _ _ (by decide)) _ 0 _ (by omega) (fun i h0 h1 => ?_)).symm
  · funext a b
    unfold pu_up
    by_cases h1 : a = 14 ∧ b = s'
    · rw [if_pos h1]
      rw [if_neg (fun z => hs (h1.2.symm.trans z.2)), if_pos h1]
    · rw [if_neg h1]
      by_cases h2 : a = 14 ∧ b = b_s τ t
      · rw [if_pos h2, if_pos h2]
      · rw [if_neg h2, if_neg h2, if_neg h1]
  · rw [pu_up_ne _ _ _ _ (by decide)]
    have := h.len
    exact h.nos i h0 (by omega)
/-- t passes; the others' marks come behind -/
theorem AH.own {κ κ1 κ' : aS} {τ τ1 : bS} {d t v : Int} (h : AH κ τ d t) (hM : Mq κ1 τ1 d τ1.2 [] []) (h2 : τ1.2 = τ.2) (hC : ∀ (c : Nat) (i : Int), c = 4 ∨ c = 5 ∨ c = 10 ∨ c = 14 ∨ c = 2 → τ1.1 c i = τ.1 c i) (hκ : ∀ (c : Nat) (i : Int), c ≠ 15 → c ≠ 14 → κ' c i = κ1 c i) (h14 : ∀ i, κ' 14 i = if i = b_s τ t then 0 else κ1 14 i) (h15 : ∀ i, κ' 15 i = if i = b_s τ t then v else κ1 15 i) : Mq κ' (b_passes τ1 t v) d τ.2 [t] [] ∧ b_passes τ1 t v = b_fin τ1 t 0 v := by
  obtain ⟨_, hI, hJ, ⟨tO, t5, t10, t14, tl⟩, _, h20, hact, h7, hd0, hd1⟩ := h
  have es : b_s τ1 t = b_s τ t := by unfold b_s; rw [hC 4 t (by decide)]
  have e : b_fin τ1 t 0 v = b_passes τ1 t v := by
    unfold b_fin
    rw [if_pos rfl]
  have g := hM.done (κ' := κ') (o := 0) (w := v) (t := t) hd0 hd1 ⟨?_, ?_, ?_, ?_, ?_⟩ (fun c i h1 h2 => hκ c i h2 h1) (fun i => by rw [es]; exact h14 i) (fun i => by rw [es]; exact h15 i)
  · rw [h2, e] at g
    exact ⟨g, e.symm⟩
  · unfold OKt
    rw [hC 4 t (by decide)]
    exact tO
  · rw [hC 5 t (by decide)]; exact t5
  · rw [es, hC 10 _ (by decide)]; exact t10
  · rw [es, hC 14 _ (by decide)]; exact t14
  · rw [h2]; exact tl
theorem exchange_ps {κ : aS} {τ : bS} {d t : Int} (h : AH κ τ d t) (hk : τ.1 18 d = 4) : PS τ (b_exchange τ d t (b_act τ t) (b_num τ t)) d t (c_exchange κ d (b_s τ t)) := by
  have hI := h.2.1
  have hJ := h.2.2.1
  have ha := h.2.2.2.1
  have hd0 := h.2.2.2.2.2.2.2.2.1
  have hd1 := h.2.2.2.2.2.2.2.2.2
  obtain ⟨e11, e12⟩ := h.act
  have e23 := h.len
  unfold c_exchange b_exchange
  rw [e11, e12, e23]
  by_cases a0 : b_act τ t = 0
  · rw [if_pos a0, if_pos a0]
    cases hl : τ.2 d with
    | nil =>
      rw [if_pos (by simp)]
      exact pw_plain h ⟨by omega, by omega⟩ (JK.k49 (by rw [b_wait_c _ _ _ _ _ (by decide)]; exact Or.inl hk) h.cw)
    | cons u l =>
      dsimp only
      rw [if_neg (by simp; omega)]
      have hu : u ∈ τ.2 d := by rw [hl]; exact List.mem_cons_self
      obtain ⟨a1, a2, a3, a4, a5⟩ := h.1.2 d hd0 hd1
      have eu : κ 22 (16 * d + 0) = b_s τ u := a2 0 u (by rw [hl]; rfl)
      have uO := a5 u hu
      have eun : κ 12 (b_s τ u) = b_num τ u := h.e 12 _ rfl
      have une := ha.ne hd0 hd1 hu
      have sne : b_s τ u ≠ b_s τ t := fun e => une (bs_inj uO ha.1 e)
      rw [eu, eun]
      have g := h.own (κ1 := κ) (τ1 := τ) (κ' := pu_up (pu_up κ 15 (b_s τ t) (b_num τ u)) 14 (b_s τ t) 0) (v := b_num τ u) h.mq rfl (fun _ _ _ => rfl) (fun c i h1 h2 => by rw [pu_up_ne _ _ _ _ h2, pu_up_ne _ _ _ _ h1]) (fun i => by rw [pu_up_c, pu_up_ne _ _ _ _ (by decide)]) (fun i => by rw [pu_up_ne _ _ _ _ (by decide), pu_up_c])
      obtain ⟨g1, ef⟩ := g
      have hwu : wt τ u = true := by
        have hu2 := hu
        rw [a3] at hu2
        exact (List.mem_filter.mp hu2).2
      have es : b_s (b_passes τ t (b_num τ u)) u = b_s τ u := by rw [ef, b_fin_s]
      have g2 := g1.out (κ' := pu_up (c_pass (pu_up κ 15 (b_s τ t) (b_num τ u)) (b_s τ u) (b_num τ t)) 14 (b_s τ t) 0) (o := 0) (w := b_num τ t) hd0 hd1 (l1 := []) (l2 := l) (x := u) (by rw [hl]; rfl) (by rw [ef, wt_fin ha.1 uO une]; exact hwu) (by decide) (fun _ z hz => g1.nops z (by rw [hl]; exact List.mem_cons_of_mem _ hz)) (fun c i h1 h2 => by rw [pu_up_ne _ _ _ _ h1, c_pass_c _ _ _ _ _ h1 h2, pu_up_ne _ _ _ _ h1]) (fun i => ?_) (fun i => ?_)
      · have eo : b_out (b_passes τ t (b_num τ u)) u 0 (b_num τ t) = b_goes (b_passes τ t (b_num τ u)) u (b_num τ t) := b_out_0 _ _ _
        rw [eo] at g2
        refine Or.inl ⟨show (0 : Int) ≠ 1 by decide, τ.2, [] ++ [u], g2, ?_, Or.inr (Or.inr (Or.inl ?_)), ?_, ?_⟩
        · rw [← eo, ef]
          exact (hJ.fin hI t 0 _).out (hI.fin t 0 _) hd0 hd1 (by rw [b_fin_2]; exact hu) _ _
        · rw [← eo, b_out_c _ _ _ _ _ _ (by decide), ef, b_fin_c _ _ _ _ _ _ (by decide)]
          exact hk
        · rw [← eo, b_out_s, ef, b_fin_s]
        · rw [← eo, b_out_c _ _ _ _ _ _ (by decide), ef, b_fin_c _ _ _ _ _ _ (by decide)]
      · rw [es, pu_up_c, c_pass_14, pu_up_c, pu_up_ne _ _ _ _ (by decide)]
        by_cases h1 : i = b_s τ t
        · rw [if_pos h1, if_neg (fun e => sne (e.symm.trans h1)), if_pos h1]
        · rw [if_neg h1, if_neg h1]
      · simp (disch := decide) only [es, pu_up_ne, c_pass_15]
  · rw [if_neg a0, if_neg a0]
    exact ps_end h (by decide) (by decide)
theorem Mq.sp3 {κ : aS} {τ : bS} {d : Int} {Λ : Int → List Int} {pre P : List Int} (h : Mq κ τ d Λ pre P) (hd0 : 0 ≤ d) (hd1 : d < 12) (hk : τ.1 18 d = 3) {z : Int} (hz : z ∈ τ.2 d) : κ 15 (b_s τ z) = τ.1 8 z := ((h.1.2.2.2.2.2.2.2.1 d hd0 hd1).2 z hz).2 hk
theorem b_goAll_out {τ : bS} {d : Int} {f : bS → Int → Int} : b_goAll f τ d = (τ.2 d).foldl (fun τ u => b_out τ u 0 (f τ u)) τ := by
  unfold b_goAll
  congr 1
theorem barrier_ps {κ : aS} {τ : bS} {d t : Int} (h : AH κ τ d t) (hk : τ.1 18 d = 3) : PS τ (b_barrier τ d t (b_act τ t)) d t (c_barrier κ d (b_s τ t)) := by
  have hI := h.2.1
  have hJ := h.2.2.1
  have ha := h.2.2.2.1
  have hd0 := h.2.2.2.2.2.2.2.2.1
  have hd1 := h.2.2.2.2.2.2.2.2.2
  obtain ⟨e11, e12⟩ := h.act
  have e23 := h.len
  have e25 := h.e 25 d rfl
  have e19 := h.e 19 d rfl
  obtain ⟨j1, j2⟩ := h.jk.2.2.1 hk
  unfold c_barrier b_barrier c_come
  rw [e11, e25, e23, e19]
  by_cases a0 : b_act τ t = 0
  · simp only [if_pos a0, if_neg (show ¬ b_act τ t = 1 by omega), if_neg (show ¬ b_act τ t = 2 by omega)]
    by_cases c1 : τ.1 25 d = 0
    · rw [if_pos c1, if_neg (by omega)]
      by_cases c2 : ((τ.2 d).length : Int) + 1 < τ.1 19 d
      · rw [if_pos c2, if_neg (by omega)]
        have hne : ∀ e, 0 ≤ e → e < 12 → ∀ x ∈ τ.2 e, x ≠ t ∧ b_s τ x ≠ b_s τ t := fun e e0 e1 x hx => ⟨ha.ne e0 e1 hx, fun z => ha.ne e0 e1 hx (bs_inj ((h.1.2 e e0 e1).2.2.2.2 x hx) ha.1 z)⟩
        have hC1 : CR (pu_up κ 15 (b_s τ t) ((τ.2 d).length : Int)) (b_up τ 8 t ((τ.2 d).length : Int)) := h.1.loose (fun c i _ n8 _ => b_up_c _ _ _ _ _ _ n8) rfl (fun e e0 e1 x hx => ⟨by
          show pu_up τ.1 8 t _ 8 x = _
          rw [pu_up_c, if_neg (hne e e0 e1 x hx).1], b_up_c _ _ _ _ _ _ (by decide)⟩) (fun c i _ n15 => pu_up_ne _ _ _ _ n15) (fun e e0 e1 x hx => ⟨pu_up_ne _ _ _ _ (by decide), by rw [pu_up_c, if_neg (hne e e0 e1 x hx).2]⟩) (fun s hs => by
            rw [pu_up_c, if_neg]
            intro e
            rw [e, ha.2.2.2.1] at hs
            omega) (fun s hp u => by rw [pu_up_c, if_neg (u.ne hp ha.1)])
        have hI1 : WI (b_up τ 8 t ((τ.2 d).length : Int)) := hI.upd _ _ rfl
        have hJ1 : JA (b_up τ 8 t ((τ.2 d).length : Int)) := fun e e0 e1 => (hJ e e0 e1).up (hI.rg e0 e1) e1 t _ (by simp)
        have ha1 : ACT (b_up τ 8 t ((τ.2 d).length : Int)) t d := ha.up _ _ (by decide)
        refine Or.inr ⟨rfl, b_up τ 8 t ((τ.2 d).length : Int), hC1, hI1, hJ1, ha1, rfl, b_up_c _ _ _ _ _ _ (by decide), b_up_c _ _ _ _ _ _ (by decide), b_s_up _ _ _ _ (by decide), ⟨fun e => ?_, fun _ => ?_⟩, fun _ => rfl, fun h6 => ⟨Or.inl rfl, ?_⟩⟩
        · rw [b_up_c _ _ _ _ _ _ (by decide)] at e
          omega
        · rw [b_s_up _ _ _ _ (by decide)]
          show pu_up κ 15 (b_s τ t) _ 15 (b_s τ t) = pu_up τ.1 8 t _ 8 t
          rw [pu_up_at, pu_up_at]
        · rw [b_waits_n (by rw [b_up_c _ _ _ _ _ _ (by decide)]; exact h6) ha1.2.2.1]
          refine JK.k3 (by rw [b_wait_c _ _ _ _ _ (by decide), b_up_c _ _ _ _ _ _ (by decide)]; exact hk) ⟨by rw [b_wait_c _ _ _ _ _ (by decide), b_up_c _ _ _ _ _ _ (by decide)]; exact j1, ?_⟩ ?_
          · rw [b_wait_c _ _ _ _ _ (by decide), b_up_c _ _ _ _ _ _ (by decide), b_wait_2, if_pos rfl, List.length_append]
            show (((τ.2 d).length + 1 : Nat) : Int) < _
            omega
          · rw [b_wait_c _ _ _ _ _ (by decide), b_up_c _ _ _ _ _ _ (by decide), h.2.2.2.2.2.1]
            exact ⟨Or.inl rfl, fun e => absurd e (by decide)⟩
      · rw [if_neg c2, if_pos (by omega)]
        have g := h.own (κ1 := κ) (τ1 := τ) (κ' := pu_up (pu_up κ 15 (b_s τ t) ((τ.2 d).length : Int)) 14 (b_s τ t) 0) (v := ((τ.2 d).length : Int)) h.mq rfl (fun _ _ _ => rfl) (fun c i h1 h2 => by rw [pu_up_ne _ _ _ _ h2, pu_up_ne _ _ _ _ h1]) (fun i => by rw [pu_up_c, pu_up_ne _ _ _ _ (by decide)]) (fun i => by rw [pu_up_ne _ _ _ _ (by decide), pu_up_c])
        obtain ⟨g1, ef⟩ := g
        have hk1 : (b_passes τ t ((τ.2 d).length : Int)).1 18 d = 3 := by
          rw [ef, b_fin_c _ _ _ _ _ _ (by decide)]
          exact hk
        have l2 : (b_passes τ t ((τ.2 d).length : Int)).2 = τ.2 := by rw [ef, b_fin_2]
        have ga := all_sim (Λ := τ.2) (pre := [t]) (o := 0) (F := fun τ u => τ.1 8 u) (W := fun κ s => κ 15 s) (f := fun κ s => pu_up κ 14 s 0) hd0 hd1 (by decide) (fun κ s c i h1 _ => pu_up_ne _ _ _ _ h1) (fun κ s i => pu_up_c _ _ _ _ _) (fun κ s i => by
          rw [pu_up_ne _ _ _ _ (by decide)]
          split
          · rename_i e
            rw [e]
          · rfl) (fun τ => τ.1 18 d = 3) (fun τ x v hq => by rw [b_out_c _ _ _ _ _ _ (by decide)]; exact hq) (fun κ τ P x hq hM hx _ => hM.sp3 hd0 hd1 hq hx) (τ.2 d) [] _ _ [] rfl hk1 g1 (by simp) g1.nops
        obtain ⟨P', g2⟩ := ga
        have eg : b_goAll b_due (b_passes τ t ((τ.2 d).length : Int)) d = ((b_passes τ t ((τ.2 d).length : Int)).2 d).foldl (fun τ u => b_out τ u 0 (τ.1 8 u)) (b_passes τ t ((τ.2 d).length : Int)) := b_goAll_out
        have hJo := JA.outs (o := 0) (F := fun τ u => τ.1 8 u) hd0 hd1 (fun τ' => JA τ' ∧ τ'.1 18 d = 3 ∧ (∀ z, b_s τ' z = b_s τ z) ∧ τ'.1 2 0 = τ.1 2 0) (fun τ' x hI' hq hx => ⟨hq.1.out hI' hd0 hd1 hx _ _, by rw [b_out_c _ _ _ _ _ _ (by decide)]; exact hq.2.1, fun z => by rw [b_out_s]; exact hq.2.2.1 z, by rw [b_out_c _ _ _ _ _ _ (by decide)]; exact hq.2.2.2⟩) _ (b_passes τ t ((τ.2 d).length : Int)) rfl g1.2.2.2.1 ⟨by rw [ef]; exact hJ.fin hI t 0 _, hk1, fun z => by rw [ef, b_fin_s], by rw [ef, b_fin_c _ _ _ _ _ _ (by decide)]⟩
        rw [← eg] at g2 hJo
        refine Or.inl ⟨show (0 : Int) ≠ 1 by decide, τ.2, P', ?_, hJo.1.1, Or.inr (Or.inl hJo.1.2.1), hJo.1.2.2.1 t, hJo.1.2.2.2⟩
        rw [show (c_endAll (pu_up κ 15 (b_s τ t) ((τ.2 d).length : Int)) d 0) = (0, c_endAll (pu_up κ 15 (b_s τ t) ((τ.2 d).length : Int)) d 0).2 from rfl]
        show Mq (pu_up (c_endAll (pu_up κ 15 (b_s τ t) ((τ.2 d).length : Int)) d 0) 14 (b_s τ t) 0) _ d τ.2 [t] P'
        rw [endAll_comm h]
        unfold c_endAll
        rw [pu_up_ne _ _ _ _ (by decide), pu_up_ne _ _ _ _ (by decide), e23, Int.toNat_natCast]
        exact g2
    · rw [if_neg c1, if_pos (by omega)]
      exact ps_end h (by decide) (by decide)
  by_cases a1 : b_act τ t = 1
  · simp only [if_neg a0, if_pos a1]
    have g := h.own (κ1 := κ) (τ1 := τ) (κ' := pu_up (pu_up κ 15 (b_s τ t) 0) 14 (b_s τ t) 0) (v := 0) h.mq rfl (fun _ _ _ => rfl) (fun c i h1 h2 => by rw [pu_up_ne _ _ _ _ h2, pu_up_ne _ _ _ _ h1]) (fun i => by rw [pu_up_c, pu_up_ne _ _ _ _ (by decide)]) (fun i => by rw [pu_up_ne _ _ _ _ (by decide), pu_up_c])
    obtain ⟨g1, ef⟩ := g
    have e15 : pu_up κ 15 (b_s τ t) 0 = κ := by
      funext c i
      unfold pu_up
      split
      · rename_i hh
        rw [hh.1, hh.2]
        exact h.2.2.2.2.1.symm
      · rfl
    obtain ⟨P', g2⟩ := end_sim (o := 5) hd0 hd1 (by decide) (by decide) g1 g1.nops
    have hk1 : (b_passes τ t 0).1 18 d = 3 := by
      rw [ef, b_fin_c _ _ _ _ _ _ (by decide)]
      exact hk
    have hJo := JA.outs (o := 5) (F := fun _ _ => 0) hd0 hd1 (fun τ' => JA τ' ∧ τ'.1 18 d = 3 ∧ (∀ z, b_s τ' z = b_s τ z) ∧ τ'.1 2 0 = τ.1 2 0) (fun τ' x hI' hq hx => ⟨hq.1.out hI' hd0 hd1 hx _ _, by rw [b_out_c _ _ _ _ _ _ (by decide)]; exact hq.2.1, fun z => by rw [b_out_s]; exact hq.2.2.1 z, by rw [b_out_c _ _ _ _ _ _ (by decide)]; exact hq.2.2.2⟩) _ (b_passes τ t 0) rfl g1.2.2.2.1 ⟨by rw [ef]; exact hJ.fin hI t 0 _, hk1, fun z => by rw [ef, b_fin_s], by rw [ef, b_fin_c _ _ _ _ _ _ (by decide)]⟩
    rw [← b_allEnd_out (by decide)] at hJo
    obtain ⟨⟨o1, o2, o3, o4⟩, o5⟩ := hJo
    have hI2 := g2.2.2.2.1
    have hI3 : WI (b_up (b_allEnd (b_passes τ t 0) d 5) 25 d 0) := hI2.upd _ _ rfl
    have g3 := g2.up d 0 (c := 25) (by decide) hI3
    have e1 : (b_up (b_allEnd (b_passes τ t 0) d 5) 25 d 0).1 25 d = 0 := pu_up_at _ _ _ _
    have hj3 := (o1 d hd0 hd1).2.2.1 o2
    refine Or.inl ⟨show (0 : Int) ≠ 1 by decide, τ.2, P', ?_, o1.up1 hI2 (by decide) (JK.k3 (by rw [b_up_c _ _ _ _ _ _ (by decide)]; exact o2) ⟨Or.inl e1, by rw [b_up_c _ _ _ _ _ _ (by decide)]; exact hj3.2⟩ (by rw [b_up_c _ _ _ _ _ _ (by decide)]; exact (o1 d hd0 hd1).c)), Or.inr (Or.inl (by rw [b_up_c _ _ _ _ _ _ (by decide)]; exact o2)), by rw [b_s_up _ _ _ _ (by decide)]; exact o3 t, by rw [b_up_c _ _ _ _ _ _ (by decide)]; exact o4⟩
    show Mq (pu_up (pu_up (c_endAll κ d 5) 25 d 0) 14 (b_s τ t) 0) _ d τ.2 [t] P'
    rw [pu_up_comm _ _ _ _ _ (by decide)]
    have := endAll_comm h 0 5 0
    rw [e15] at this
    rw [this]
    rw [e15] at g3
    exact g3
  by_cases a2 : b_act τ t = 2
  · simp only [if_neg a0, if_neg a1, if_pos a2]
    have e : (if τ.1 25 d = 0 then 0 else 1) = τ.1 25 d := by split <;> omega
    rw [e]
    exact ps_pass0 h (fun c i h1 _ => pu_up_ne _ _ _ _ h1) (fun i _ => pu_up_ne _ _ _ _ (by decide)) (fun i => pu_up_c _ _ _ _ _)
  · simp only [if_neg a0, if_neg a1, if_neg a2]
    exact ps_end h (by decide) (by decide)
