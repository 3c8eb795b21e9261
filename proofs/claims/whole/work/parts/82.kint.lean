theorem CR.k4 {κ κ' : aS} {τ : bS} (h : CR κ τ) (hk : ∀ (c : Nat) (i : Int), c ≠ 40 → c ≠ 41 → κ' c i = κ c i) : CR κ' τ := by
  obtain ⟨⟨m1, m5, m7, m17, m17n, mlog, m15, msp, mP, mPr⟩, hL⟩ := h
  refine ⟨⟨fun c i hc => ?_, fun z => ?_, fun z => ?_, m17, fun s hs => ?_, fun c i hc => ?_, fun s => ⟨?_, UZ.tr s (fun _ => rfl) (fun _ => rfl) (m15 s).2 (fun _ _ => hk 15 s (by decide) (by decide)) (fun _ _ => rfl)⟩, fun e he0 he1 => ?_, mP, mPr⟩, fun e e0 e1 => ?_⟩
  · have n4 : c ≠ 40 ∧ c ≠ 41 := by
      refine ⟨?_, ?_⟩ <;> (intro e; subst e; exact absurd hc (by decide))
    rw [hk c i n4.1 n4.2]
    exact m1 c i hc
  · rw [hk 5 z (by decide) (by decide)]
    exact m5 z
  · rw [hk 7 z (by decide) (by decide)]
    exact m7 z
  · rw [hk 17 s (by decide) (by decide)]
    exact m17n s hs
  · show _ = κ' c i
    rw [hk c i (by omega) (by omega)]
    exact mlog c i hc
  · rw [hk 15 s (by decide) (by decide)]
    exact (m15 s).1
  · obtain ⟨s1, s2⟩ := msp e he0 he1
    refine ⟨fun h5 => ?_, fun z hz => ⟨fun h => ?_, fun h => ?_⟩⟩
    · rw [hk 43 _ (by decide) (by decide)]
      exact s1 h5
    · rw [hk 42 _ (by decide) (by decide)]
      exact (s2 z hz).1 h
    · rw [hk 15 _ (by decide) (by decide)]
      exact (s2 z hz).2 h
  · obtain ⟨a1, a2, a3, a4, a5⟩ := hL e e0 e1
    exact ⟨by rw [hk 23 _ (by decide) (by decide)]; exact a1, fun j x hx => by rw [hk 22 _ (by decide) (by decide)]; exact a2 j x hx, a3, a4, a5⟩
/-- an entry that both have and that no relation reads -/
theorem CR.upx {κ : aS} {τ : bS} (h : CR κ τ) {c : Nat} (i v : Int) (hc : c = 6 ∨ c = 2 ∨ c = 21 ∨ c = 37 ∨ c = 38) : CR (pu_up κ c i v) (b_up τ c i v) := by
  obtain ⟨⟨m1, m5, m7, m17, m17n, mlog, m15, msp, mP, mPr⟩, hL⟩ := h
  have eC : ∀ (c' : Nat) (j : Int), c' ≠ c → (b_up τ c i v).1 c' j = τ.1 c' j := fun c' j h' => b_up_c _ _ _ _ _ _ h'
  have eK : ∀ (c' : Nat) (j : Int), c' ≠ c → pu_up κ c i v c' j = κ c' j := fun c' j h' => pu_up_ne _ _ _ _ h'
  have ebs : ∀ z, b_s (b_up τ c i v) z = b_s τ z := fun z => b_s_up _ _ _ _ (by omega)
  refine ⟨⟨fun c' j hc' => ?_, fun z => ?_, fun z => ?_, (fun z hz => by cases hz), fun s _ => ?_, fun c' j hc' => ?_, fun s => ⟨?_, UZ.tr s (fun i => eC 4 i (by omega)) (fun i => eC 3 i (by omega)) (m15 s).2 (fun _ _ => eK 15 s (by omega)) (fun _ _ => eC 14 s (by omega))⟩, fun e e0 e1 => ?_, List.nodup_nil, (fun z hz => by cases hz)⟩, fun e e0 e1 => ?_⟩
  · show pu_up κ c i v c' j = pu_up τ.1 c i v c' j
    unfold pu_up
    rw [m1 c' j hc']
  · rw [eC 5 z (by omega), eK 5 z (by omega)]
    exact m5 z
  · rw [eC 7 z (by omega), eK 7 z (by omega)]
    have := m7 z
    simpa using this
  · rw [eC 17 s (by omega), eK 17 s (by omega)]
    exact m17n s (fun z hz => by cases hz)
  · rw [eC c' j (by omega)]
    show _ = pu_up κ c i v c' j
    rw [eK c' j (by omega)]
    exact mlog c' j hc'
  · rw [eC 15 s (by omega), eC 14 s (by omega), eK 15 s (by omega)]
    exact (m15 s).1
  · obtain ⟨s1, s2⟩ := msp e e0 e1
    unfold SP
    rw [eC 18 e (by omega)]
    refine ⟨fun h5 => ?_, fun z hz => ⟨fun h => ?_, fun h => ?_⟩⟩
    · rw [eK 43 e (by omega), s1 h5]
      exact (b_lookers_congr e (fun i => eC 29 i (by omega))).symm
    · rw [eK 42 _ (by omega), (s2 z hz).1 h, eC 9 z (by omega), b_num_up _ _ _ _ (by omega)]
    · rw [ebs, eK 15 _ (by omega), (s2 z hz).2 h, eC 8 z (by omega)]
  · obtain ⟨a1, a2, a3, a4, a5⟩ := hL e e0 e1
    refine ⟨by rw [eK 23 e (by omega)]; exact a1, fun j x hx => by rw [eK 22 _ (by omega), ebs]; exact a2 j x hx, ?_, a4, fun x hx => OKt_up (by omega) (a5 x hx)⟩
    rw [show wt (b_up τ c i v) = wt τ from funext fun z => wt_up _ _ _ _ (by omega)]
    exact a3
theorem JA.upx {τ : bS} (hJ : JA τ) (hI : WI τ) {c : Nat} (i v : Int) (hc : c = 6 ∨ c = 2 ∨ c = 21 ∨ c = 35 ∨ c = 36 ∨ c = 37 ∨ c = 38) : JA (b_up τ c i v) := fun e e0 e1 => by
  have eC : ∀ (c' : Nat) (j : Int), c' ≠ c → (b_up τ c i v).1 c' j = τ.1 c' j := fun c' j h' => b_up_c _ _ _ _ _ _ h'
  exact (hJ e e0 e1).sub (hI.rg e0 e1) (fun c' hc' => eC c' e (by omega)) (Or.inl (eC _ _ (by omega))) (fun i _ _ => eC _ _ (by omega)) (fun x hx => hx) (Nat.le_refl _) (fun x _ => ⟨eC _ _ (by omega), eC _ _ (by omega)⟩) (fun s => eC _ _ (by omega)) (fun s => eC _ _ (by omega)) (Int.le_of_eq (b_sum_ext 16 (fun i _ _ => (eC 4 i (by omega)).symm)))
theorem GW.keep {κ : aS} {τ : bS} (h : GW κ τ) (t : Int) : GW (pu_up κ 6 t 1) (b_up τ 6 t 1) := by
  obtain ⟨hC, hI, hJ, hA, hG, hD, h5⟩ := h
  have eC : ∀ (c' : Nat) (j : Int), c' ≠ 6 → (b_up τ 6 t 1).1 c' j = τ.1 c' j := fun c' j h' => b_up_c _ _ _ _ _ _ h'
  refine ⟨hC.upx _ _ (by decide), hI.upd _ _ rfl, hJ.upx hI _ _ (by decide), fun s a b => by rw [eC _ _ (by decide)]; exact hA s a b, fun x x0 x1 => ?_, fun x i x0 x1 i0 i1 => ?_, fun i => ?_⟩
  · rw [eC 4 _ (by decide), eC 3 _ (by decide), eC 0 _ (by decide)]
    refine ⟨(hG x x0 x1).1, (hG x x0 x1).2.1, ?_⟩
    show pu_up τ.1 6 t 1 6 x = 0 ∨ pu_up τ.1 6 t 1 6 x = 1
    rw [pu_up_c]
    split
    · exact Or.inr rfl
    · exact (hG x x0 x1).2.2
  · rw [eC 3 _ (by decide)] at i1
    rw [eC 10 _ (by decide), eC 1 _ (by decide)]
    exact hD x i x0 x1 i0 i1
  · rw [eC 5 _ (by decide), eC 7 _ (by decide), eC 2 _ (by decide)]
    exact h5 i
theorem GW.tick {κ : aS} {τ : bS} (h : GW κ τ) {b : Int} (hb : τ.1 2 0 ≤ b) : GW (pu_up κ 2 0 b) (b_up τ 2 0 b) := by
  obtain ⟨hC, hI, hJ, hA, hG, hD, h5⟩ := h
  have eC : ∀ (c' : Nat) (j : Int), c' ≠ 2 → (b_up τ 2 0 b).1 c' j = τ.1 c' j := fun c' j h' => b_up_c _ _ _ _ _ _ h'
  have e2 : (b_up τ 2 0 b).1 2 0 = b := pu_up_at τ.1 2 0 b
  refine ⟨hC.upx _ _ (by decide), hI.upd _ _ rfl, hJ.upx hI _ _ (by decide), fun s a b => by rw [eC _ _ (by decide)]; exact hA s a b, fun x x0 x1 => ?_, fun x i x0 x1 i0 i1 => ?_, fun i => ?_⟩
  · rw [eC 4 _ (by decide), eC 3 _ (by decide), eC 0 _ (by decide), eC 6 _ (by decide)]
    exact hG x x0 x1
  · rw [eC 3 _ (by decide)] at i1
    rw [eC 10 _ (by decide), eC 1 _ (by decide)]
    exact hD x i x0 x1 i0 i1
  · rw [eC 5 _ (by decide), eC 7 _ (by decide), e2]
    have := h5 i
    exact ⟨this.1, by omega⟩
theorem GW.k4 {κ κ' : aS} {τ : bS} (h : GW κ τ) (hk : ∀ (c : Nat) (i : Int), c ≠ 40 → c ≠ 41 → κ' c i = κ c i) : GW κ' τ := ⟨h.1.k4 hk, h.2⟩
/-- the interrupts that are planned, from thread j on in this beat -/
def IQ (κ : aS) (τ : bS) (j : Int) : Prop := 0 ≤ κ 41 0 ∧ κ 41 0 ≤ κ 38 0 ∧ κ 38 0 ≤ 200 ∧ (∀ i k, κ 41 0 ≤ i → i < k → k < κ 38 0 → κ 40 i < κ 40 k) ∧ (∀ i, κ 41 0 ≤ i → i < κ 38 0 → ∃ t b, κ 40 i = 16 * b + t ∧ 0 ≤ t ∧ t < τ.1 0 0 ∧ b ≤ 5000 ∧ τ.1 2 0 ≤ b ∧ 16 * τ.1 2 0 + j ≤ 16 * b + t ∧ b_planned τ t b = true) ∧ (∀ t b, 0 ≤ t → t < 16 → (τ.1 2 0 < b ∨ (b = τ.1 2 0 ∧ j ≤ t)) → b_planned τ t b = true → ∃ i, κ 41 0 ≤ i ∧ i < κ 38 0 ∧ κ 40 i = 16 * b + t)
theorem b_planned_se {τ τ' : bS} (h : SE τ τ') (t b : Int) : b_planned τ' t b = b_planned τ t b := by
  unfold b_planned
  rw [h 38 0 rfl]
  congr 1
  funext k
  unfold b_plf
  rw [h 35 k rfl, h 36 k rfl]
theorem IQ.se {κ κ' : aS} {τ τ' : bS} {j : Int} (h : IQ κ τ j) (hS : SE τ τ') (h40 : ∀ (c : Nat) (i : Int), c = 40 ∨ c = 41 → κ' c i = κ c i) (h38 : κ' 38 0 = κ 38 0) : IQ κ' τ' j := by
  obtain ⟨a1, a2, a3, a4, a5, a6⟩ := h
  have e41 := h40 41 0 (by decide)
  have e40 := fun i => h40 40 i (by decide)
  refine ⟨by rw [e41]; exact a1, by rw [e41, h38]; exact a2, by rw [h38]; exact a3, fun i k h1 h2 h3 => ?_, fun i h1 h2 => ?_, fun t b t0 t1 hb hp => ?_⟩
  · rw [e41] at h1
    rw [h38] at h3
    rw [e40, e40]
    exact a4 i k h1 h2 h3
  · rw [e41] at h1
    rw [h38] at h2
    obtain ⟨t, b, q1, q2, q3, q4, q5, q6, q7⟩ := a5 i h1 h2
    exact ⟨t, b, by rw [e40]; exact q1, q2, by rw [hS 0 0 rfl]; exact q3, q4, by rw [hS 2 0 rfl]; exact q5, by rw [hS 2 0 rfl]; exact q6, by rw [b_planned_se hS]; exact q7⟩
  · rw [hS 2 0 rfl] at hb
    rw [b_planned_se hS] at hp
    obtain ⟨i, q1, q2, q3⟩ := a6 t b t0 t1 hb hp
    exact ⟨i, by rw [e41]; exact q1, by rw [h38]; exact q2, by rw [e40]; exact q3⟩
/-- thread j has none in this beat -/
theorem IQ.skip {κ : aS} {τ : bS} {j : Int} (h : IQ κ τ j) (hN : τ.1 0 0 ≤ 16) (j0 : 0 ≤ j) (j1 : j < 16) (hp : b_planned τ j (τ.1 2 0) = false) : IQ κ τ (j + 1) := by
  obtain ⟨a1, a2, a3, a4, a5, a6⟩ := h
  refine ⟨a1, a2, a3, a4, fun i h1 h2 => ?_, fun t b t0 t1 hb hpp => a6 t b t0 t1 (by omega) hpp⟩
  obtain ⟨t, b, q1, q2, q3, q4, q5, q6, q7⟩ := a5 i h1 h2
  refine ⟨t, b, q1, q2, q3, q4, q5, ?_, q7⟩
  by_cases e : 16 * τ.1 2 0 + j = 16 * b + t
  · have e1 : t = j := by omega
    have e2 : b = τ.1 2 0 := by omega
    rw [e1, e2, hp] at q7
    cases q7
  · omega
/-- thread j has one -/
theorem IQ.take {κ : aS} {τ : bS} {j : Int} (h : IQ κ τ j) (j0 : 0 ≤ j) (j1 : j < 16) (hp : b_planned τ j (τ.1 2 0) = true) : κ 41 0 < κ 38 0 ∧ κ 40 (κ 41 0) = 16 * τ.1 2 0 + j ∧ IQ (pu_up κ 41 0 (κ 41 0 + 1)) τ (j + 1) := by
  obtain ⟨a1, a2, a3, a4, a5, a6⟩ := h
  obtain ⟨i, q1, q2, q3⟩ := a6 j (τ.1 2 0) j0 j1 (Or.inr ⟨rfl, Int.le_refl _⟩) hp
  have hi : i = κ 41 0 := by
    by_cases e : i = κ 41 0
    · exact e
    · have h1 := a4 (κ 41 0) i (Int.le_refl _) (by omega) q2
      obtain ⟨t, b, p1, p2, p3, p4, p5, p6, p7⟩ := a5 (κ 41 0) (Int.le_refl _) (by omega)
      omega
  rw [hi] at q2 q3
  have e41 : pu_up κ 41 0 (κ 41 0 + 1) 41 0 = κ 41 0 + 1 := pu_up_at _ _ _ _
  have e38 : pu_up κ 41 0 (κ 41 0 + 1) 38 0 = κ 38 0 := pu_up_ne _ _ _ _ (by decide)
  have e40 : ∀ i, pu_up κ 41 0 (κ 41 0 + 1) 40 i = κ 40 i := fun i => pu_up_ne _ _ _ _ (by decide)
  refine ⟨q2, q3, by rw [e41]; omega, by rw [e41, e38]; omega, by rw [e38]; exact a3, fun i k h1 h2 h3 => ?_, fun i h1 h2 => ?_, fun t b t0 t1 hb hpp => ?_⟩
  · rw [e41] at h1
    rw [e38] at h3
    rw [e40, e40]
    exact a4 i k (by omega) h2 h3
  · rw [e41] at h1
    rw [e38] at h2
    obtain ⟨t, b, p1, p2, p3, p4, p5, p6, p7⟩ := a5 i (by omega) h2
    have h3 := a4 (κ 41 0) i (Int.le_refl _) (by omega) h2
    exact ⟨t, b, by rw [e40]; exact p1, p2, p3, p4, p5, by omega, p7⟩
  · obtain ⟨i, p1, p2, p3⟩ := a6 t b t0 t1 (by omega) hpp
    refine ⟨i, ?_, by rw [e38]; exact p2, by rw [e40]; exact p3⟩
    rw [e41]
    by_cases e : i = κ 41 0
    · rw [e, q3] at p3
      omega
    · omega
theorem tdiv16 {x : Int} (h : 0 ≤ x) (h2 : x ≤ 100000) : jm_wr (x.tdiv 16) = x / 16 := by
  rw [Int.tdiv_eq_ediv_of_nonneg h]
  exact jm_wr_id (by omega) (by omega)
set_option maxHeartbeats 4000000 in
theorem k_int_5 {y : jLay} {σ : aS} {g : jH} {n : Nat} (hn : 400 ≤ n) : ∀ (k fuel : Nat) (j : Int) (κ : aS) (τ : bS) (x z : Option jV), GW κ τ → CW y κ → IQ κ τ j → 0 ≤ τ.1 2 0 → τ.1 2 0 ≤ 5000 → j + k = τ.1 0 0 → 0 ≤ j → 2 * k + 1 ≤ fuel → ∃ κ', jk_fix (kX11_interruptThreads_b n) fuel 5 [some (.inr (some (y.2 9 0))), some (.inl (κ 41 0)), x, z] [] (pu_H y κ σ g) = some (none, pu_H y κ' σ g) ∧ GW κ' (b_it b_g1 k j τ) ∧ CW y κ' ∧ IQ κ' (b_it b_g1 k j τ) (j + k) := by
  intro k
  induction k with
  | zero =>
    intro fuel j κ τ x z h hy hq hb0 hb1 hj h0 hf
    have hg := h
    have hy0 := hy
    have hq0 := hq
    obtain ⟨hC, hI, hJ, hA, hG, hD, h5m⟩ := h
    have h9 := hI.2.2.2.2.2.2.2.2
    have k0 : κ 0 0 = τ.1 0 0 := hC.1.1 0 0 rfl
    have k2 : κ 2 0 = τ.1 2 0 := hC.1.1 2 0 rfl
    obtain ⟨a1, a2, a3, a4, a5, a6⟩ := hq
    obtain ⟨iy, o9, o10, o11, o12, ya, yd, ys⟩ := hy
    rw [show (j + ((0 : Nat) : Int)) = j by omega]
    refine ⟨κ, ?_, hg, hy0, hq0⟩
    by_cases h1 : κ 41 0 < κ 38 0
    · obtain ⟨t, b, p1, p2, p3, p4, p5, p6, p7⟩ := a5 (κ 41 0) (Int.le_refl _) h1
      have ed := tdiv16 (x := κ 40 (κ 41 0)) (by omega) (by omega)
      have h2 : κ 2 0 < κ 40 (κ 41 0) / 16 := by omega
      rw [jk_fix_pos (by omega)]
      simp only [kX11_interruptThreads_b, kX11_interruptThreads_5, Nat.reduceEqDiff, if_false, if_true]
      simp (disch := first | omega | assumption | (simp only [List.length_cons, List.length_nil]; omega) | decide | (simp (disch := decide) only [pu_up_ne, pu_up_at]; first | omega | assumption)) only [↓ja_int, ↓ja_null, ↓ja_iload_0, ↓ja_aload_0, ↓ja_istore_0, ↓ja_astore_0, ↓ja_kill_0, ↓ja_iinc_0, ↓ja_iload_1, ↓ja_aload_1, ↓ja_istore_1, ↓ja_astore_1, ↓ja_kill_1, ↓ja_iinc_1, ↓ja_iload_2, ↓ja_aload_2, ↓ja_istore_2, ↓ja_astore_2, ↓ja_kill_2, ↓ja_iinc_2, ↓ja_iload_3, ↓ja_aload_3, ↓ja_istore_3, ↓ja_astore_3, ↓ja_kill_3, ↓ja_iinc_3, ↓ja_iload_4, ↓ja_aload_4, ↓ja_istore_4, ↓ja_astore_4, ↓ja_kill_4, ↓ja_iinc_4, ↓ja_iload_5, ↓ja_aload_5, ↓ja_istore_5, ↓ja_astore_5, ↓ja_kill_5, ↓ja_iinc_5, ↓ja_iload_6, ↓ja_aload_6, ↓ja_istore_6, ↓ja_astore_6, ↓ja_kill_6, ↓ja_iinc_6, ↓ja_iload_7, ↓ja_aload_7, ↓ja_istore_7, ↓ja_astore_7, ↓ja_kill_7, ↓ja_iinc_7, ↓ja_iload_8, ↓ja_aload_8, ↓ja_istore_8, ↓ja_astore_8, ↓ja_kill_8, ↓ja_iinc_8, ↓ja_iload_9, ↓ja_aload_9, ↓ja_istore_9, ↓ja_astore_9, ↓ja_kill_9, ↓ja_iinc_9, ↓ja_iload_10, ↓ja_aload_10, ↓ja_istore_10, ↓ja_astore_10, ↓ja_kill_10, ↓ja_iinc_10, ↓ja_iadd, ↓ja_isub, ↓ja_imul, ↓ja_dup, ↓ja_dup2, ↓ja_i2b, ↓ja_ifeq, ↓ja_ifne, ↓ja_iflt, ↓ja_ifge, ↓ja_ifgt, ↓ja_ifle, ↓ja_icmpeq, ↓ja_icmpne, ↓ja_icmplt, ↓ja_icmpge, ↓ja_icmpgt, ↓ja_icmple, ↓ja_ifnull_n, ↓ja_ifnull_s, ↓ja_ifnonnull_n, ↓ja_ifnonnull_s, ↓ja_iret, ↓ja_aret, ↓ja_vret, ↓ja_zret0, ↓ja_zret1, ↓ja_sw, ↓ja_pe, ↓ja_pn, ↓ja_pz, ↓reduceIte, ite_self, Int.reduceEq, Int.reduceLT, Int.reduceLE, Int.reduceNeg, ca_g0, ca_g1, ca_g2, ca_g3, ca_g5, ca_g6, ca_g4n, ca_g4s, ca_p3, ca_p5, ca_p6, ca_p4n, ca_p4s, cs_g0, cs_g1, cs_g2, cs_g3, cs_g4, cs_g5, cs_g6, cs_g7, cs_g8, cs_p5, cs_p6, cs_p7, cs_p8, cd_g0, cd_g1, cd_g2, cd_g3, cd_g4, cd_g5, cd_g6, cd_g7, cd1_g0, cd1_g1, cd1_g2, cd1_g3, cd1_g4, cd1_g5, cd1_g6, cd1_g7, cd1_g8, cd1_g9, cd2_g0, cd2_g1, cd2_g2, cd2_g3, cd2_g4, cd2_g5, cd2_g6, cd2_g7, cd3_g0, cd3_g1, cd3_g2, cd3_g3, cd3_g4, cd3_g5, cd3_g6, cd3_g7, cd3_g8, cd3_g9, cd3_g10, cd4_g0, cd4_g1, cd4_g2, cd4_g3, cd4_g4, cd4_g5, cd4_g6, cd4_g7, cd4_g8, cd4_g9, cd4_g10, cd5_g0, cd5_g1, cd5_g2, cd5_g3, cd5_g4, cd5_g5, cd5_g6, cd5_g7, cd5_g8, cd5_g9, cd6_g0, cd6_g1, cd6_g2, cd6_g3, cd6_g4, cd6_g5, cd6_g6, cd6_g7, cd6_g8, cd7_g0, cd7_g1, cd7_g2, cd7_g3, cd7_g4, cd7_g5, cd7_g6, cd7_g7, cd7_g8, cd7_g9, cd7_g10, cd8_g0, cd8_g1, cd8_g2, cd8_g3, cd8_g4, cd8_g5, cd8_g6, cd8_g7, cd8_g9, cd8_g8a, cd8_g8b, cd_p2, cd_p3, cd_p5, cd_p7, cd1_p9, cd3_p10, cd4_p9, cd4_p10, cd5_p9, cd6_p8, cd7_p10, cd8_p9, cd8_p8a, cd8_p8b, ck_g0, ck_g1, ck_g2, ck_g3, ck_g4, ck_g5, ck_g6, ck_g7, ck_g8, ck_p5, ck_p6, ck_p7, ck_p8, cr2, cr4, cr5, cr10, cr11, cr12, cr6_5, cr6_6, cr6_9, cr6_11, cr7, cw5, cw6_5, cw6_6, cw6_9, cw6_11, cw7, cw12, cw4, cl2, cl4, cl5, cl12, cc_a0, cc_s0, cc_k0, cc_1_0, cc_2_0, cc_3_0, cc_4_0, cc_5_0, cc_6_0, cc_7_0, cc_8_0, cc_d0, cc_a1, cc_s1, cc_k1, cc_1_1, cc_2_1, cc_3_1, cc_4_1, cc_5_1, cc_6_1, cc_7_1, cc_8_1, cc_d1, cc_k2, cc_1_2, cc_2_2, cc_3_2, cc_4_2, cc_5_2, cc_6_2, cc_7_2, cc_8_2, cc_d2, cc_k3, cc_1_3, cc_2_3, cc_3_3, cc_4_3, cc_5_3, cc_6_3, cc_7_3, cc_8_3, cc_d3, cc_k4, cc_k5, jm_wr_id, pb_none, pb_int, pb_ref, pu_up_ne, pu_up_at, h1, ja_idiv, ed, h2]
    ·
      rw [jk_fix_pos (by omega)]
      simp only [kX11_interruptThreads_b, kX11_interruptThreads_5, Nat.reduceEqDiff, if_false, if_true]
      simp (disch := first | omega | assumption | (simp only [List.length_cons, List.length_nil]; omega) | decide | (simp (disch := decide) only [pu_up_ne, pu_up_at]; first | omega | assumption)) only [↓ja_int, ↓ja_null, ↓ja_iload_0, ↓ja_aload_0, ↓ja_istore_0, ↓ja_astore_0, ↓ja_kill_0, ↓ja_iinc_0, ↓ja_iload_1, ↓ja_aload_1, ↓ja_istore_1, ↓ja_astore_1, ↓ja_kill_1, ↓ja_iinc_1, ↓ja_iload_2, ↓ja_aload_2, ↓ja_istore_2, ↓ja_astore_2, ↓ja_kill_2, ↓ja_iinc_2, ↓ja_iload_3, ↓ja_aload_3, ↓ja_istore_3, ↓ja_astore_3, ↓ja_kill_3, ↓ja_iinc_3, ↓ja_iload_4, ↓ja_aload_4, ↓ja_istore_4, ↓ja_astore_4, ↓ja_kill_4, ↓ja_iinc_4, ↓ja_iload_5, ↓ja_aload_5, ↓ja_istore_5, ↓ja_astore_5, ↓ja_kill_5, ↓ja_iinc_5, ↓ja_iload_6, ↓ja_aload_6, ↓ja_istore_6, ↓ja_astore_6, ↓ja_kill_6, ↓ja_iinc_6, ↓ja_iload_7, ↓ja_aload_7, ↓ja_istore_7, ↓ja_astore_7, ↓ja_kill_7, ↓ja_iinc_7, ↓ja_iload_8, ↓ja_aload_8, ↓ja_istore_8, ↓ja_astore_8, ↓ja_kill_8, ↓ja_iinc_8, ↓ja_iload_9, ↓ja_aload_9, ↓ja_istore_9, ↓ja_astore_9, ↓ja_kill_9, ↓ja_iinc_9, ↓ja_iload_10, ↓ja_aload_10, ↓ja_istore_10, ↓ja_astore_10, ↓ja_kill_10, ↓ja_iinc_10, ↓ja_iadd, ↓ja_isub, ↓ja_imul, ↓ja_dup, ↓ja_dup2, ↓ja_i2b, ↓ja_ifeq, ↓ja_ifne, ↓ja_iflt, ↓ja_ifge, ↓ja_ifgt, ↓ja_ifle, ↓ja_icmpeq, ↓ja_icmpne, ↓ja_icmplt, ↓ja_icmpge, ↓ja_icmpgt, ↓ja_icmple, ↓ja_ifnull_n, ↓ja_ifnull_s, ↓ja_ifnonnull_n, ↓ja_ifnonnull_s, ↓ja_iret, ↓ja_aret, ↓ja_vret, ↓ja_zret0, ↓ja_zret1, ↓ja_sw, ↓ja_pe, ↓ja_pn, ↓ja_pz, ↓reduceIte, ite_self, Int.reduceEq, Int.reduceLT, Int.reduceLE, Int.reduceNeg, ca_g0, ca_g1, ca_g2, ca_g3, ca_g5, ca_g6, ca_g4n, ca_g4s, ca_p3, ca_p5, ca_p6, ca_p4n, ca_p4s, cs_g0, cs_g1, cs_g2, cs_g3, cs_g4, cs_g5, cs_g6, cs_g7, cs_g8, cs_p5, cs_p6, cs_p7, cs_p8, cd_g0, cd_g1, cd_g2, cd_g3, cd_g4, cd_g5, cd_g6, cd_g7, cd1_g0, cd1_g1, cd1_g2, cd1_g3, cd1_g4, cd1_g5, cd1_g6, cd1_g7, cd1_g8, cd1_g9, cd2_g0, cd2_g1, cd2_g2, cd2_g3, cd2_g4, cd2_g5, cd2_g6, cd2_g7, cd3_g0, cd3_g1, cd3_g2, cd3_g3, cd3_g4, cd3_g5, cd3_g6, cd3_g7, cd3_g8, cd3_g9, cd3_g10, cd4_g0, cd4_g1, cd4_g2, cd4_g3, cd4_g4, cd4_g5, cd4_g6, cd4_g7, cd4_g8, cd4_g9, cd4_g10, cd5_g0, cd5_g1, cd5_g2, cd5_g3, cd5_g4, cd5_g5, cd5_g6, cd5_g7, cd5_g8, cd5_g9, cd6_g0, cd6_g1, cd6_g2, cd6_g3, cd6_g4, cd6_g5, cd6_g6, cd6_g7, cd6_g8, cd7_g0, cd7_g1, cd7_g2, cd7_g3, cd7_g4, cd7_g5, cd7_g6, cd7_g7, cd7_g8, cd7_g9, cd7_g10, cd8_g0, cd8_g1, cd8_g2, cd8_g3, cd8_g4, cd8_g5, cd8_g6, cd8_g7, cd8_g9, cd8_g8a, cd8_g8b, cd_p2, cd_p3, cd_p5, cd_p7, cd1_p9, cd3_p10, cd4_p9, cd4_p10, cd5_p9, cd6_p8, cd7_p10, cd8_p9, cd8_p8a, cd8_p8b, ck_g0, ck_g1, ck_g2, ck_g3, ck_g4, ck_g5, ck_g6, ck_g7, ck_g8, ck_p5, ck_p6, ck_p7, ck_p8, cr2, cr4, cr5, cr10, cr11, cr12, cr6_5, cr6_6, cr6_9, cr6_11, cr7, cw5, cw6_5, cw6_6, cw6_9, cw6_11, cw7, cw12, cw4, cl2, cl4, cl5, cl12, cc_a0, cc_s0, cc_k0, cc_1_0, cc_2_0, cc_3_0, cc_4_0, cc_5_0, cc_6_0, cc_7_0, cc_8_0, cc_d0, cc_a1, cc_s1, cc_k1, cc_1_1, cc_2_1, cc_3_1, cc_4_1, cc_5_1, cc_6_1, cc_7_1, cc_8_1, cc_d1, cc_k2, cc_1_2, cc_2_2, cc_3_2, cc_4_2, cc_5_2, cc_6_2, cc_7_2, cc_8_2, cc_d2, cc_k3, cc_1_3, cc_2_3, cc_3_3, cc_4_3, cc_5_3, cc_6_3, cc_7_3, cc_8_3, cc_d3, cc_k4, cc_k5, jm_wr_id, pb_none, pb_int, pb_ref, pu_up_ne, pu_up_at, h1]
  | succ k ih =>
    intro fuel j κ τ x z h hy hq hb0 hb1 hj h0 hf
    have hg := h
    have hy0 := hy
    have hq0 := hq
    obtain ⟨hC, hI, hJ, hA, hG, hD, h5m⟩ := h
    have h9 := hI.2.2.2.2.2.2.2.2
    have k0 : κ 0 0 = τ.1 0 0 := hC.1.1 0 0 rfl
    have k2 : κ 2 0 = τ.1 2 0 := hC.1.1 2 0 rfl
    obtain ⟨a1, a2, a3, a4, a5, a6⟩ := hq
    obtain ⟨iy, o9, o10, o11, o12, ya, yd, ys⟩ := hy
    have j16 : j < 16 := by omega
    have ejk : j + 1 + (k : Int) = j + ((k + 1 : Nat) : Int) := by omega
    cases hp : b_planned τ j (τ.1 2 0)
    · have eg : b_g1 τ j = τ := by
        unfold b_g1
        rw [if_neg (by rw [hp]; decide)]
      obtain ⟨κ2, e3, q1, q2, q3⟩ := ih fuel (j + 1) κ τ x z hg hy0 (hq0.skip (by omega) h0 j16 hp) hb0 hb1 (by omega) (by omega) (by omega)
      rw [ejk] at q3
      refine ⟨κ2, e3, ?_, q2, ?_⟩
      · show GW κ2 (b_it b_g1 k (j + 1) (b_g1 τ j))
        rw [eg]
        exact q1
      · show IQ κ2 (b_it b_g1 k (j + 1) (b_g1 τ j)) _
        rw [eg]
        exact q3
    · obtain ⟨h1, e40, hq1⟩ := hq0.take h0 j16 hp
      have jk : j < κ 0 0 := by omega
      obtain ⟨o1, o2⟩ := ya j h0 jk
      have ed := tdiv16 (x := 16 * τ.1 2 0 + j) (by omega) (by omega)
      have ed2 : (16 * τ.1 2 0 + j) / 16 = τ.1 2 0 := by omega
      rw [ed2] at ed
      have h2 : ¬ κ 2 0 < τ.1 2 0 := by omega
      have er : 16 * τ.1 2 0 + j - τ.1 2 0 * 16 = j := by omega
      have gA : GW (pu_up κ 41 0 (κ 41 0 + 1)) τ := hg.k4 (fun c i _ n41 => pu_up_ne _ _ _ _ n41)
      have yA : CW y (pu_up κ 41 0 (κ 41 0 + 1)) := hy0.same (pu_up_ne _ _ _ _ (by decide)) (pu_up_ne _ _ _ _ (by decide)) (fun i => pu_up_ne _ _ _ _ (by decide)) (fun i => pu_up_ne _ _ _ _ (by decide))
      have e1 := k_actor_s (κ := pu_up κ 41 0 (κ 41 0 + 1)) (σ := σ) (g := g) (n := n) (by omega) yA h0 (by rw [pu_up_ne _ _ _ _ (by decide)]; exact jk) j16
      have k5 := hC.c5 j
      by_cases b5 : τ.1 5 j < 0
      · have b5k : κ 5 j < 0 := by omega
        have eg : b_g1 τ j = b_up τ 6 j 1 := by
          unfold b_g1
          rw [if_pos hp, if_pos b5]
        have gB := gA.keep j
        have hS : SE τ (b_up τ 6 j 1) := (SE.refl τ).up _ _ rfl
        have qB : IQ (pu_up (pu_up κ 41 0 (κ 41 0 + 1)) 6 j 1) (b_up τ 6 j 1) (j + 1) := hq1.se hS (fun c i hc => pu_up_ne _ _ _ _ (by omega)) (pu_up_ne _ _ _ _ (by decide))
        obtain ⟨κ2, e3, q1, q2, q3⟩ := ih (fuel - 1 - 1) (j + 1) (pu_up (pu_up κ 41 0 (κ 41 0 + 1)) 6 j 1) (b_up τ 6 j 1) none none gB (yA.step gA.1 gB.1 hS) qB (by rw [hS 2 0 rfl]; exact hb0) (by rw [hS 2 0 rfl]; exact hb1) (by rw [hS 0 0 rfl]; omega) (by omega) (by omega)
        rw [ejk] at q3
        rw [pu_up_ne _ _ _ _ (by decide), pu_up_at] at e3
        refine ⟨κ2, ?_, ?_, q2, ?_⟩
        · rw [jk_fix_pos (by omega)]
          simp only [kX11_interruptThreads_b, kX11_interruptThreads_5, Nat.reduceEqDiff, if_false, if_true]
          simp (disch := first | omega | assumption | (simp only [List.length_cons, List.length_nil]; omega) | decide | (simp (disch := decide) only [pu_up_ne, pu_up_at]; first | omega | assumption)) only [↓ja_int, ↓ja_null, ↓ja_iload_0, ↓ja_aload_0, ↓ja_istore_0, ↓ja_astore_0, ↓ja_kill_0, ↓ja_iinc_0, ↓ja_iload_1, ↓ja_aload_1, ↓ja_istore_1, ↓ja_astore_1, ↓ja_kill_1, ↓ja_iinc_1, ↓ja_iload_2, ↓ja_aload_2, ↓ja_istore_2, ↓ja_astore_2, ↓ja_kill_2, ↓ja_iinc_2, ↓ja_iload_3, ↓ja_aload_3, ↓ja_istore_3, ↓ja_astore_3, ↓ja_kill_3, ↓ja_iinc_3, ↓ja_iload_4, ↓ja_aload_4, ↓ja_istore_4, ↓ja_astore_4, ↓ja_kill_4, ↓ja_iinc_4, ↓ja_iload_5, ↓ja_aload_5, ↓ja_istore_5, ↓ja_astore_5, ↓ja_kill_5, ↓ja_iinc_5, ↓ja_iload_6, ↓ja_aload_6, ↓ja_istore_6, ↓ja_astore_6, ↓ja_kill_6, ↓ja_iinc_6, ↓ja_iload_7, ↓ja_aload_7, ↓ja_istore_7, ↓ja_astore_7, ↓ja_kill_7, ↓ja_iinc_7, ↓ja_iload_8, ↓ja_aload_8, ↓ja_istore_8, ↓ja_astore_8, ↓ja_kill_8, ↓ja_iinc_8, ↓ja_iload_9, ↓ja_aload_9, ↓ja_istore_9, ↓ja_astore_9, ↓ja_kill_9, ↓ja_iinc_9, ↓ja_iload_10, ↓ja_aload_10, ↓ja_istore_10, ↓ja_astore_10, ↓ja_kill_10, ↓ja_iinc_10, ↓ja_iadd, ↓ja_isub, ↓ja_imul, ↓ja_dup, ↓ja_dup2, ↓ja_i2b, ↓ja_ifeq, ↓ja_ifne, ↓ja_iflt, ↓ja_ifge, ↓ja_ifgt, ↓ja_ifle, ↓ja_icmpeq, ↓ja_icmpne, ↓ja_icmplt, ↓ja_icmpge, ↓ja_icmpgt, ↓ja_icmple, ↓ja_ifnull_n, ↓ja_ifnull_s, ↓ja_ifnonnull_n, ↓ja_ifnonnull_s, ↓ja_iret, ↓ja_aret, ↓ja_vret, ↓ja_zret0, ↓ja_zret1, ↓ja_sw, ↓ja_pe, ↓ja_pn, ↓ja_pz, ↓reduceIte, ite_self, Int.reduceEq, Int.reduceLT, Int.reduceLE, Int.reduceNeg, ca_g0, ca_g1, ca_g2, ca_g3, ca_g5, ca_g6, ca_g4n, ca_g4s, ca_p3, ca_p5, ca_p6, ca_p4n, ca_p4s, cs_g0, cs_g1, cs_g2, cs_g3, cs_g4, cs_g5, cs_g6, cs_g7, cs_g8, cs_p5, cs_p6, cs_p7, cs_p8, cd_g0, cd_g1, cd_g2, cd_g3, cd_g4, cd_g5, cd_g6, cd_g7, cd1_g0, cd1_g1, cd1_g2, cd1_g3, cd1_g4, cd1_g5, cd1_g6, cd1_g7, cd1_g8, cd1_g9, cd2_g0, cd2_g1, cd2_g2, cd2_g3, cd2_g4, cd2_g5, cd2_g6, cd2_g7, cd3_g0, cd3_g1, cd3_g2, cd3_g3, cd3_g4, cd3_g5, cd3_g6, cd3_g7, cd3_g8, cd3_g9, cd3_g10, cd4_g0, cd4_g1, cd4_g2, cd4_g3, cd4_g4, cd4_g5, cd4_g6, cd4_g7, cd4_g8, cd4_g9, cd4_g10, cd5_g0, cd5_g1, cd5_g2, cd5_g3, cd5_g4, cd5_g5, cd5_g6, cd5_g7, cd5_g8, cd5_g9, cd6_g0, cd6_g1, cd6_g2, cd6_g3, cd6_g4, cd6_g5, cd6_g6, cd6_g7, cd6_g8, cd7_g0, cd7_g1, cd7_g2, cd7_g3, cd7_g4, cd7_g5, cd7_g6, cd7_g7, cd7_g8, cd7_g9, cd7_g10, cd8_g0, cd8_g1, cd8_g2, cd8_g3, cd8_g4, cd8_g5, cd8_g6, cd8_g7, cd8_g9, cd8_g8a, cd8_g8b, cd_p2, cd_p3, cd_p5, cd_p7, cd1_p9, cd3_p10, cd4_p9, cd4_p10, cd5_p9, cd6_p8, cd7_p10, cd8_p9, cd8_p8a, cd8_p8b, ck_g0, ck_g1, ck_g2, ck_g3, ck_g4, ck_g5, ck_g6, ck_g7, ck_g8, ck_p5, ck_p6, ck_p7, ck_p8, cr2, cr4, cr5, cr10, cr11, cr12, cr6_5, cr6_6, cr6_9, cr6_11, cr7, cw5, cw6_5, cw6_6, cw6_9, cw6_11, cw7, cw12, cw4, cl2, cl4, cl5, cl12, cc_a0, cc_s0, cc_k0, cc_1_0, cc_2_0, cc_3_0, cc_4_0, cc_5_0, cc_6_0, cc_7_0, cc_8_0, cc_d0, cc_a1, cc_s1, cc_k1, cc_1_1, cc_2_1, cc_3_1, cc_4_1, cc_5_1, cc_6_1, cc_7_1, cc_8_1, cc_d1, cc_k2, cc_1_2, cc_2_2, cc_3_2, cc_4_2, cc_5_2, cc_6_2, cc_7_2, cc_8_2, cc_d2, cc_k3, cc_1_3, cc_2_3, cc_3_3, cc_4_3, cc_5_3, cc_6_3, cc_7_3, cc_8_3, cc_d3, cc_k4, cc_k5, jm_wr_id, pb_none, pb_int, pb_ref, pu_up_ne, pu_up_at, h1, ja_idiv, ja_irem, e40, ed, h2, er, e1, b5k]
          rw [jk_fix_pos (by omega)]
          simp only [kX11_interruptThreads_b, kX11_interruptThreads_88, Nat.reduceEqDiff, if_false, if_true]
          simp (disch := first | omega | assumption | (simp only [List.length_cons, List.length_nil]; omega) | decide | (simp (disch := decide) only [pu_up_ne, pu_up_at]; first | omega | assumption)) only [↓ja_int, ↓ja_null, ↓ja_iload_0, ↓ja_aload_0, ↓ja_istore_0, ↓ja_astore_0, ↓ja_kill_0, ↓ja_iinc_0, ↓ja_iload_1, ↓ja_aload_1, ↓ja_istore_1, ↓ja_astore_1, ↓ja_kill_1, ↓ja_iinc_1, ↓ja_iload_2, ↓ja_aload_2, ↓ja_istore_2, ↓ja_astore_2, ↓ja_kill_2, ↓ja_iinc_2, ↓ja_iload_3, ↓ja_aload_3, ↓ja_istore_3, ↓ja_astore_3, ↓ja_kill_3, ↓ja_iinc_3, ↓ja_iload_4, ↓ja_aload_4, ↓ja_istore_4, ↓ja_astore_4, ↓ja_kill_4, ↓ja_iinc_4, ↓ja_iload_5, ↓ja_aload_5, ↓ja_istore_5, ↓ja_astore_5, ↓ja_kill_5, ↓ja_iinc_5, ↓ja_iload_6, ↓ja_aload_6, ↓ja_istore_6, ↓ja_astore_6, ↓ja_kill_6, ↓ja_iinc_6, ↓ja_iload_7, ↓ja_aload_7, ↓ja_istore_7, ↓ja_astore_7, ↓ja_kill_7, ↓ja_iinc_7, ↓ja_iload_8, ↓ja_aload_8, ↓ja_istore_8, ↓ja_astore_8, ↓ja_kill_8, ↓ja_iinc_8, ↓ja_iload_9, ↓ja_aload_9, ↓ja_istore_9, ↓ja_astore_9, ↓ja_kill_9, ↓ja_iinc_9, ↓ja_iload_10, ↓ja_aload_10, ↓ja_istore_10, ↓ja_astore_10, ↓ja_kill_10, ↓ja_iinc_10, ↓ja_iadd, ↓ja_isub, ↓ja_imul, ↓ja_dup, ↓ja_dup2, ↓ja_i2b, ↓ja_ifeq, ↓ja_ifne, ↓ja_iflt, ↓ja_ifge, ↓ja_ifgt, ↓ja_ifle, ↓ja_icmpeq, ↓ja_icmpne, ↓ja_icmplt, ↓ja_icmpge, ↓ja_icmpgt, ↓ja_icmple, ↓ja_ifnull_n, ↓ja_ifnull_s, ↓ja_ifnonnull_n, ↓ja_ifnonnull_s, ↓ja_iret, ↓ja_aret, ↓ja_vret, ↓ja_zret0, ↓ja_zret1, ↓ja_sw, ↓ja_pe, ↓ja_pn, ↓ja_pz, ↓reduceIte, ite_self, Int.reduceEq, Int.reduceLT, Int.reduceLE, Int.reduceNeg, ca_g0, ca_g1, ca_g2, ca_g3, ca_g5, ca_g6, ca_g4n, ca_g4s, ca_p3, ca_p5, ca_p6, ca_p4n, ca_p4s, cs_g0, cs_g1, cs_g2, cs_g3, cs_g4, cs_g5, cs_g6, cs_g7, cs_g8, cs_p5, cs_p6, cs_p7, cs_p8, cd_g0, cd_g1, cd_g2, cd_g3, cd_g4, cd_g5, cd_g6, cd_g7, cd1_g0, cd1_g1, cd1_g2, cd1_g3, cd1_g4, cd1_g5, cd1_g6, cd1_g7, cd1_g8, cd1_g9, cd2_g0, cd2_g1, cd2_g2, cd2_g3, cd2_g4, cd2_g5, cd2_g6, cd2_g7, cd3_g0, cd3_g1, cd3_g2, cd3_g3, cd3_g4, cd3_g5, cd3_g6, cd3_g7, cd3_g8, cd3_g9, cd3_g10, cd4_g0, cd4_g1, cd4_g2, cd4_g3, cd4_g4, cd4_g5, cd4_g6, cd4_g7, cd4_g8, cd4_g9, cd4_g10, cd5_g0, cd5_g1, cd5_g2, cd5_g3, cd5_g4, cd5_g5, cd5_g6, cd5_g7, cd5_g8, cd5_g9, cd6_g0, cd6_g1, cd6_g2, cd6_g3, cd6_g4, cd6_g5, cd6_g6, cd6_g7, cd6_g8, cd7_g0, cd7_g1, cd7_g2, cd7_g3, cd7_g4, cd7_g5, cd7_g6, cd7_g7, cd7_g8, cd7_g9, cd7_g10, cd8_g0, cd8_g1, cd8_g2, cd8_g3, cd8_g4, cd8_g5, cd8_g6, cd8_g7, cd8_g9, cd8_g8a, cd8_g8b, cd_p2, cd_p3, cd_p5, cd_p7, cd1_p9, cd3_p10, cd4_p9, cd4_p10, cd5_p9, cd6_p8, cd7_p10, cd8_p9, cd8_p8a, cd8_p8b, ck_g0, ck_g1, ck_g2, ck_g3, ck_g4, ck_g5, ck_g6, ck_g7, ck_g8, ck_p5, ck_p6, ck_p7, ck_p8, cr2, cr4, cr5, cr10, cr11, cr12, cr6_5, cr6_6, cr6_9, cr6_11, cr7, cw5, cw6_5, cw6_6, cw6_9, cw6_11, cw7, cw12, cw4, cl2, cl4, cl5, cl12, cc_a0, cc_s0, cc_k0, cc_1_0, cc_2_0, cc_3_0, cc_4_0, cc_5_0, cc_6_0, cc_7_0, cc_8_0, cc_d0, cc_a1, cc_s1, cc_k1, cc_1_1, cc_2_1, cc_3_1, cc_4_1, cc_5_1, cc_6_1, cc_7_1, cc_8_1, cc_d1, cc_k2, cc_1_2, cc_2_2, cc_3_2, cc_4_2, cc_5_2, cc_6_2, cc_7_2, cc_8_2, cc_d2, cc_k3, cc_1_3, cc_2_3, cc_3_3, cc_4_3, cc_5_3, cc_6_3, cc_7_3, cc_8_3, cc_d3, cc_k4, cc_k5, jm_wr_id, pb_none, pb_int, pb_ref, pu_up_ne, pu_up_at]
          exact e3
        · show GW κ2 (b_it b_g1 k (j + 1) (b_g1 τ j))
          rw [eg]
          exact q1
        · show IQ κ2 (b_it b_g1 k (j + 1) (b_g1 τ j)) _
          rw [eg]
          exact q3
      · have b5k : ¬ κ 5 j < 0 := by omega
        have eg : b_g1 τ j = b_gives τ j 2 := by
          unfold b_g1
          rw [if_pos hp, if_neg b5]
        obtain ⟨_, _, x10, xd, x4, x3, _⟩ := hg.wait h0 (by omega) (by omega)
        have k4 : κ 4 j = τ.1 4 j := hC.1.1 4 j rfl
        have k3 : κ 3 j = τ.1 3 j := hC.1.1 3 j rfl
        have k1 : κ 1 0 = τ.1 1 0 := hC.1.1 1 0 rfl
        have od : pu_on y 3 (κ 10 (20 * j + κ 4 j - 1)) := by
          have e10 : κ 10 (20 * j + κ 4 j - 1) = τ.1 5 j := by
            rw [k4, ← x10]
            exact hC.1.1 10 _ rfl
          rw [e10]
          exact (yd _ (by omega) (by omega)).1
        have o8 := ys j (κ 4 j - 1) h0 jk (by omega) (by omega)
        rw [show 20 * j + (κ 4 j - 1) = 20 * j + κ 4 j - 1 by omega] at o8
        obtain ⟨κ1, e2, g1, g2, g3⟩ := gA.giveM yA h0 (by omega) (by omega) (x := 2) (by decide) (by decide) (σ := σ) (g := g) hn
        simp (disch := decide) only [pu_up_ne] at e2
        have hS : SE τ (b_gives τ j 2) := (SE.refl τ).gives j 2
        have qB : IQ κ1 (b_gives τ j 2) (j + 1) := hq1.se hS g3 (by rw [g1.1.1.1 38 0 rfl, gA.1.1.1 38 0 rfl, hS 38 0 rfl])
        have e41 : κ1 41 0 = κ 41 0 + 1 := by rw [g3 41 0 (by decide), pu_up_at]
        obtain ⟨κ2, e3, q1, q2, q3⟩ := ih (fuel - 1 - 1) (j + 1) κ1 (b_gives τ j 2) none none g1 g2 qB (by rw [hS 2 0 rfl]; exact hb0) (by rw [hS 2 0 rfl]; exact hb1) (by rw [hS 0 0 rfl]; omega) (by omega) (by omega)
        rw [ejk] at q3
        rw [e41] at e3
        refine ⟨κ2, ?_, ?_, q2, ?_⟩
        · rw [jk_fix_pos (by omega)]
          simp only [kX11_interruptThreads_b, kX11_interruptThreads_5, Nat.reduceEqDiff, if_false, if_true]
          simp (disch := first | omega | assumption | (simp only [List.length_cons, List.length_nil]; omega) | decide | (simp (disch := decide) only [pu_up_ne, pu_up_at]; first | omega | assumption)) only [↓ja_int, ↓ja_null, ↓ja_iload_0, ↓ja_aload_0, ↓ja_istore_0, ↓ja_astore_0, ↓ja_kill_0, ↓ja_iinc_0, ↓ja_iload_1, ↓ja_aload_1, ↓ja_istore_1, ↓ja_astore_1, ↓ja_kill_1, ↓ja_iinc_1, ↓ja_iload_2, ↓ja_aload_2, ↓ja_istore_2, ↓ja_astore_2, ↓ja_kill_2, ↓ja_iinc_2, ↓ja_iload_3, ↓ja_aload_3, ↓ja_istore_3, ↓ja_astore_3, ↓ja_kill_3, ↓ja_iinc_3, ↓ja_iload_4, ↓ja_aload_4, ↓ja_istore_4, ↓ja_astore_4, ↓ja_kill_4, ↓ja_iinc_4, ↓ja_iload_5, ↓ja_aload_5, ↓ja_istore_5, ↓ja_astore_5, ↓ja_kill_5, ↓ja_iinc_5, ↓ja_iload_6, ↓ja_aload_6, ↓ja_istore_6, ↓ja_astore_6, ↓ja_kill_6, ↓ja_iinc_6, ↓ja_iload_7, ↓ja_aload_7, ↓ja_istore_7, ↓ja_astore_7, ↓ja_kill_7, ↓ja_iinc_7, ↓ja_iload_8, ↓ja_aload_8, ↓ja_istore_8, ↓ja_astore_8, ↓ja_kill_8, ↓ja_iinc_8, ↓ja_iload_9, ↓ja_aload_9, ↓ja_istore_9, ↓ja_astore_9, ↓ja_kill_9, ↓ja_iinc_9, ↓ja_iload_10, ↓ja_aload_10, ↓ja_istore_10, ↓ja_astore_10, ↓ja_kill_10, ↓ja_iinc_10, ↓ja_iadd, ↓ja_isub, ↓ja_imul, ↓ja_dup, ↓ja_dup2, ↓ja_i2b, ↓ja_ifeq, ↓ja_ifne, ↓ja_iflt, ↓ja_ifge, ↓ja_ifgt, ↓ja_ifle, ↓ja_icmpeq, ↓ja_icmpne, ↓ja_icmplt, ↓ja_icmpge, ↓ja_icmpgt, ↓ja_icmple, ↓ja_ifnull_n, ↓ja_ifnull_s, ↓ja_ifnonnull_n, ↓ja_ifnonnull_s, ↓ja_iret, ↓ja_aret, ↓ja_vret, ↓ja_zret0, ↓ja_zret1, ↓ja_sw, ↓ja_pe, ↓ja_pn, ↓ja_pz, ↓reduceIte, ite_self, Int.reduceEq, Int.reduceLT, Int.reduceLE, Int.reduceNeg, ca_g0, ca_g1, ca_g2, ca_g3, ca_g5, ca_g6, ca_g4n, ca_g4s, ca_p3, ca_p5, ca_p6, ca_p4n, ca_p4s, cs_g0, cs_g1, cs_g2, cs_g3, cs_g4, cs_g5, cs_g6, cs_g7, cs_g8, cs_p5, cs_p6, cs_p7, cs_p8, cd_g0, cd_g1, cd_g2, cd_g3, cd_g4, cd_g5, cd_g6, cd_g7, cd1_g0, cd1_g1, cd1_g2, cd1_g3, cd1_g4, cd1_g5, cd1_g6, cd1_g7, cd1_g8, cd1_g9, cd2_g0, cd2_g1, cd2_g2, cd2_g3, cd2_g4, cd2_g5, cd2_g6, cd2_g7, cd3_g0, cd3_g1, cd3_g2, cd3_g3, cd3_g4, cd3_g5, cd3_g6, cd3_g7, cd3_g8, cd3_g9, cd3_g10, cd4_g0, cd4_g1, cd4_g2, cd4_g3, cd4_g4, cd4_g5, cd4_g6, cd4_g7, cd4_g8, cd4_g9, cd4_g10, cd5_g0, cd5_g1, cd5_g2, cd5_g3, cd5_g4, cd5_g5, cd5_g6, cd5_g7, cd5_g8, cd5_g9, cd6_g0, cd6_g1, cd6_g2, cd6_g3, cd6_g4, cd6_g5, cd6_g6, cd6_g7, cd6_g8, cd7_g0, cd7_g1, cd7_g2, cd7_g3, cd7_g4, cd7_g5, cd7_g6, cd7_g7, cd7_g8, cd7_g9, cd7_g10, cd8_g0, cd8_g1, cd8_g2, cd8_g3, cd8_g4, cd8_g5, cd8_g6, cd8_g7, cd8_g9, cd8_g8a, cd8_g8b, cd_p2, cd_p3, cd_p5, cd_p7, cd1_p9, cd3_p10, cd4_p9, cd4_p10, cd5_p9, cd6_p8, cd7_p10, cd8_p9, cd8_p8a, cd8_p8b, ck_g0, ck_g1, ck_g2, ck_g3, ck_g4, ck_g5, ck_g6, ck_g7, ck_g8, ck_p5, ck_p6, ck_p7, ck_p8, cr2, cr4, cr5, cr10, cr11, cr12, cr6_5, cr6_6, cr6_9, cr6_11, cr7, cw5, cw6_5, cw6_6, cw6_9, cw6_11, cw7, cw12, cw4, cl2, cl4, cl5, cl12, cc_a0, cc_s0, cc_k0, cc_1_0, cc_2_0, cc_3_0, cc_4_0, cc_5_0, cc_6_0, cc_7_0, cc_8_0, cc_d0, cc_a1, cc_s1, cc_k1, cc_1_1, cc_2_1, cc_3_1, cc_4_1, cc_5_1, cc_6_1, cc_7_1, cc_8_1, cc_d1, cc_k2, cc_1_2, cc_2_2, cc_3_2, cc_4_2, cc_5_2, cc_6_2, cc_7_2, cc_8_2, cc_d2, cc_k3, cc_1_3, cc_2_3, cc_3_3, cc_4_3, cc_5_3, cc_6_3, cc_7_3, cc_8_3, cc_d3, cc_k4, cc_k5, jm_wr_id, pb_none, pb_int, pb_ref, pu_up_ne, pu_up_at, h1, ja_idiv, ja_irem, e40, ed, h2, er, e1, b5k, e2]
          rw [jk_fix_pos (by omega)]
          simp only [kX11_interruptThreads_b, kX11_interruptThreads_88, Nat.reduceEqDiff, if_false, if_true]
          simp (disch := first | omega | assumption | (simp only [List.length_cons, List.length_nil]; omega) | decide | (simp (disch := decide) only [pu_up_ne, pu_up_at]; first | omega | assumption)) only [↓ja_int, ↓ja_null, ↓ja_iload_0, ↓ja_aload_0, ↓ja_istore_0, ↓ja_astore_0, ↓ja_kill_0, ↓ja_iinc_0, ↓ja_iload_1, ↓ja_aload_1, ↓ja_istore_1, ↓ja_astore_1, ↓ja_kill_1, ↓ja_iinc_1, ↓ja_iload_2, ↓ja_aload_2, ↓ja_istore_2, ↓ja_astore_2, ↓ja_kill_2, ↓ja_iinc_2, ↓ja_iload_3, ↓ja_aload_3, ↓ja_istore_3, ↓ja_astore_3, ↓ja_kill_3, ↓ja_iinc_3, ↓ja_iload_4, ↓ja_aload_4, ↓ja_istore_4, ↓ja_astore_4, ↓ja_kill_4, ↓ja_iinc_4, ↓ja_iload_5, ↓ja_aload_5, ↓ja_istore_5, ↓ja_astore_5, ↓ja_kill_5, ↓ja_iinc_5, ↓ja_iload_6, ↓ja_aload_6, ↓ja_istore_6, ↓ja_astore_6, ↓ja_kill_6, ↓ja_iinc_6, ↓ja_iload_7, ↓ja_aload_7, ↓ja_istore_7, ↓ja_astore_7, ↓ja_kill_7, ↓ja_iinc_7, ↓ja_iload_8, ↓ja_aload_8, ↓ja_istore_8, ↓ja_astore_8, ↓ja_kill_8, ↓ja_iinc_8, ↓ja_iload_9, ↓ja_aload_9, ↓ja_istore_9, ↓ja_astore_9, ↓ja_kill_9, ↓ja_iinc_9, ↓ja_iload_10, ↓ja_aload_10, ↓ja_istore_10, ↓ja_astore_10, ↓ja_kill_10, ↓ja_iinc_10, ↓ja_iadd, ↓ja_isub, ↓ja_imul, ↓ja_dup, ↓ja_dup2, ↓ja_i2b, ↓ja_ifeq, ↓ja_ifne, ↓ja_iflt, ↓ja_ifge, ↓ja_ifgt, ↓ja_ifle, ↓ja_icmpeq, ↓ja_icmpne, ↓ja_icmplt, ↓ja_icmpge, ↓ja_icmpgt, ↓ja_icmple, ↓ja_ifnull_n, ↓ja_ifnull_s, ↓ja_ifnonnull_n, ↓ja_ifnonnull_s, ↓ja_iret, ↓ja_aret, ↓ja_vret, ↓ja_zret0, ↓ja_zret1, ↓ja_sw, ↓ja_pe, ↓ja_pn, ↓ja_pz, ↓reduceIte, ite_self, Int.reduceEq, Int.reduceLT, Int.reduceLE, Int.reduceNeg, ca_g0, ca_g1, ca_g2, ca_g3, ca_g5, ca_g6, ca_g4n, ca_g4s, ca_p3, ca_p5, ca_p6, ca_p4n, ca_p4s, cs_g0, cs_g1, cs_g2, cs_g3, cs_g4, cs_g5, cs_g6, cs_g7, cs_g8, cs_p5, cs_p6, cs_p7, cs_p8, cd_g0, cd_g1, cd_g2, cd_g3, cd_g4, cd_g5, cd_g6, cd_g7, cd1_g0, cd1_g1, cd1_g2, cd1_g3, cd1_g4, cd1_g5, cd1_g6, cd1_g7, cd1_g8, cd1_g9, cd2_g0, cd2_g1, cd2_g2, cd2_g3, cd2_g4, cd2_g5, cd2_g6, cd2_g7, cd3_g0, cd3_g1, cd3_g2, cd3_g3, cd3_g4, cd3_g5, cd3_g6, cd3_g7, cd3_g8, cd3_g9, cd3_g10, cd4_g0, cd4_g1, cd4_g2, cd4_g3, cd4_g4, cd4_g5, cd4_g6, cd4_g7, cd4_g8, cd4_g9, cd4_g10, cd5_g0, cd5_g1, cd5_g2, cd5_g3, cd5_g4, cd5_g5, cd5_g6, cd5_g7, cd5_g8, cd5_g9, cd6_g0, cd6_g1, cd6_g2, cd6_g3, cd6_g4, cd6_g5, cd6_g6, cd6_g7, cd6_g8, cd7_g0, cd7_g1, cd7_g2, cd7_g3, cd7_g4, cd7_g5, cd7_g6, cd7_g7, cd7_g8, cd7_g9, cd7_g10, cd8_g0, cd8_g1, cd8_g2, cd8_g3, cd8_g4, cd8_g5, cd8_g6, cd8_g7, cd8_g9, cd8_g8a, cd8_g8b, cd_p2, cd_p3, cd_p5, cd_p7, cd1_p9, cd3_p10, cd4_p9, cd4_p10, cd5_p9, cd6_p8, cd7_p10, cd8_p9, cd8_p8a, cd8_p8b, ck_g0, ck_g1, ck_g2, ck_g3, ck_g4, ck_g5, ck_g6, ck_g7, ck_g8, ck_p5, ck_p6, ck_p7, ck_p8, cr2, cr4, cr5, cr10, cr11, cr12, cr6_5, cr6_6, cr6_9, cr6_11, cr7, cw5, cw6_5, cw6_6, cw6_9, cw6_11, cw7, cw12, cw4, cl2, cl4, cl5, cl12, cc_a0, cc_s0, cc_k0, cc_1_0, cc_2_0, cc_3_0, cc_4_0, cc_5_0, cc_6_0, cc_7_0, cc_8_0, cc_d0, cc_a1, cc_s1, cc_k1, cc_1_1, cc_2_1, cc_3_1, cc_4_1, cc_5_1, cc_6_1, cc_7_1, cc_8_1, cc_d1, cc_k2, cc_1_2, cc_2_2, cc_3_2, cc_4_2, cc_5_2, cc_6_2, cc_7_2, cc_8_2, cc_d2, cc_k3, cc_1_3, cc_2_3, cc_3_3, cc_4_3, cc_5_3, cc_6_3, cc_7_3, cc_8_3, cc_d3, cc_k4, cc_k5, jm_wr_id, pb_none, pb_int, pb_ref, pu_up_ne, pu_up_at]
          exact e3
        · show GW κ2 (b_it b_g1 k (j + 1) (b_g1 τ j))
          rw [eg]
          exact q1
        · show IQ κ2 (b_it b_g1 k (j + 1) (b_g1 τ j)) _
          rw [eg]
          exact q3
set_option maxHeartbeats 4000000 in
theorem k_intM {y : jLay} {κ σ : aS} {g : jH} {n : Nat} {τ : bS} (hn : 400 ≤ n) (h : GW κ τ) (hy : CW y κ) (hq : IQ κ τ 0) (hb0 : 0 ≤ τ.1 2 0) (hb1 : τ.1 2 0 ≤ 5000) : ∃ κ', fX11_interruptThreads n [.inr (some (y.2 9 0))] (pu_H y κ σ g) = some (none, pu_H y κ' σ g) ∧ GW κ' (b_it b_g1 (τ.1 0 0).toNat 0 τ) ∧ CW y κ' ∧ IQ κ' (b_it b_g1 (τ.1 0 0).toNat 0 τ) (τ.1 0 0) := by
  have h9 := h.2.1.2.2.2.2.2.2.2.2
  obtain ⟨κ2, e, q1, q2, q3⟩ := k_int_5 (σ := σ) (g := g) hn (τ.1 0 0).toNat (n - 1) 0 κ τ none none h hy hq hb0 hb1 (by omega) (by omega) (by omega)
  rw [show (0 : Int) + ((τ.1 0 0).toNat : Int) = τ.1 0 0 by omega] at q3
  obtain ⟨iy, o9, o10, o11, o12, ya, yd, ys⟩ := hy
  refine ⟨κ2, ?_, q1, q2, q3⟩
  simp only [fX11_interruptThreads, jm_run, List.length_cons, List.length_nil, Nat.reduceAdd, if_true, jm_init, List.map_cons, List.map_nil, Nat.reduceSub, List.replicate, List.cons_append, List.nil_append, kX11_interruptThreads]
  rw [jk_fix_pos (by omega)]
  simp only [kX11_interruptThreads_b, kX11_interruptThreads_0, Nat.reduceEqDiff, if_false, if_true]
  simp (disch := first | omega | assumption | (simp only [List.length_cons, List.length_nil]; omega) | decide | (simp (disch := decide) only [pu_up_ne, pu_up_at]; first | omega | assumption)) only [↓ja_int, ↓ja_null, ↓ja_iload_0, ↓ja_aload_0, ↓ja_istore_0, ↓ja_astore_0, ↓ja_kill_0, ↓ja_iinc_0, ↓ja_iload_1, ↓ja_aload_1, ↓ja_istore_1, ↓ja_astore_1, ↓ja_kill_1, ↓ja_iinc_1, ↓ja_iload_2, ↓ja_aload_2, ↓ja_istore_2, ↓ja_astore_2, ↓ja_kill_2, ↓ja_iinc_2, ↓ja_iload_3, ↓ja_aload_3, ↓ja_istore_3, ↓ja_astore_3, ↓ja_kill_3, ↓ja_iinc_3, ↓ja_iload_4, ↓ja_aload_4, ↓ja_istore_4, ↓ja_astore_4, ↓ja_kill_4, ↓ja_iinc_4, ↓ja_iload_5, ↓ja_aload_5, ↓ja_istore_5, ↓ja_astore_5, ↓ja_kill_5, ↓ja_iinc_5, ↓ja_iload_6, ↓ja_aload_6, ↓ja_istore_6, ↓ja_astore_6, ↓ja_kill_6, ↓ja_iinc_6, ↓ja_iload_7, ↓ja_aload_7, ↓ja_istore_7, ↓ja_astore_7, ↓ja_kill_7, ↓ja_iinc_7, ↓ja_iload_8, ↓ja_aload_8, ↓ja_istore_8, ↓ja_astore_8, ↓ja_kill_8, ↓ja_iinc_8, ↓ja_iload_9, ↓ja_aload_9, ↓ja_istore_9, ↓ja_astore_9, ↓ja_kill_9, ↓ja_iinc_9, ↓ja_iload_10, ↓ja_aload_10, ↓ja_istore_10, ↓ja_astore_10, ↓ja_kill_10, ↓ja_iinc_10, ↓ja_iadd, ↓ja_isub, ↓ja_imul, ↓ja_dup, ↓ja_dup2, ↓ja_i2b, ↓ja_ifeq, ↓ja_ifne, ↓ja_iflt, ↓ja_ifge, ↓ja_ifgt, ↓ja_ifle, ↓ja_icmpeq, ↓ja_icmpne, ↓ja_icmplt, ↓ja_icmpge, ↓ja_icmpgt, ↓ja_icmple, ↓ja_ifnull_n, ↓ja_ifnull_s, ↓ja_ifnonnull_n, ↓ja_ifnonnull_s, ↓ja_iret, ↓ja_aret, ↓ja_vret, ↓ja_zret0, ↓ja_zret1, ↓ja_sw, ↓ja_pe, ↓ja_pn, ↓ja_pz, ↓reduceIte, ite_self, Int.reduceEq, Int.reduceLT, Int.reduceLE, Int.reduceNeg, ca_g0, ca_g1, ca_g2, ca_g3, ca_g5, ca_g6, ca_g4n, ca_g4s, ca_p3, ca_p5, ca_p6, ca_p4n, ca_p4s, cs_g0, cs_g1, cs_g2, cs_g3, cs_g4, cs_g5, cs_g6, cs_g7, cs_g8, cs_p5, cs_p6, cs_p7, cs_p8, cd_g0, cd_g1, cd_g2, cd_g3, cd_g4, cd_g5, cd_g6, cd_g7, cd1_g0, cd1_g1, cd1_g2, cd1_g3, cd1_g4, cd1_g5, cd1_g6, cd1_g7, cd1_g8, cd1_g9, cd2_g0, cd2_g1, cd2_g2, cd2_g3, cd2_g4, cd2_g5, cd2_g6, cd2_g7, cd3_g0, cd3_g1, cd3_g2, cd3_g3, cd3_g4, cd3_g5, cd3_g6, cd3_g7, cd3_g8, cd3_g9, cd3_g10, cd4_g0, cd4_g1, cd4_g2, cd4_g3, cd4_g4, cd4_g5, cd4_g6, cd4_g7, cd4_g8, cd4_g9, cd4_g10, cd5_g0, cd5_g1, cd5_g2, cd5_g3, cd5_g4, cd5_g5, cd5_g6, cd5_g7, cd5_g8, cd5_g9, cd6_g0, cd6_g1, cd6_g2, cd6_g3, cd6_g4, cd6_g5, cd6_g6, cd6_g7, cd6_g8, cd7_g0, cd7_g1, cd7_g2, cd7_g3, cd7_g4, cd7_g5, cd7_g6, cd7_g7, cd7_g8, cd7_g9, cd7_g10, cd8_g0, cd8_g1, cd8_g2, cd8_g3, cd8_g4, cd8_g5, cd8_g6, cd8_g7, cd8_g9, cd8_g8a, cd8_g8b, cd_p2, cd_p3, cd_p5, cd_p7, cd1_p9, cd3_p10, cd4_p9, cd4_p10, cd5_p9, cd6_p8, cd7_p10, cd8_p9, cd8_p8a, cd8_p8b, ck_g0, ck_g1, ck_g2, ck_g3, ck_g4, ck_g5, ck_g6, ck_g7, ck_g8, ck_p5, ck_p6, ck_p7, ck_p8, cr2, cr4, cr5, cr10, cr11, cr12, cr6_5, cr6_6, cr6_9, cr6_11, cr7, cw5, cw6_5, cw6_6, cw6_9, cw6_11, cw7, cw12, cw4, cl2, cl4, cl5, cl12, cc_a0, cc_s0, cc_k0, cc_1_0, cc_2_0, cc_3_0, cc_4_0, cc_5_0, cc_6_0, cc_7_0, cc_8_0, cc_d0, cc_a1, cc_s1, cc_k1, cc_1_1, cc_2_1, cc_3_1, cc_4_1, cc_5_1, cc_6_1, cc_7_1, cc_8_1, cc_d1, cc_k2, cc_1_2, cc_2_2, cc_3_2, cc_4_2, cc_5_2, cc_6_2, cc_7_2, cc_8_2, cc_d2, cc_k3, cc_1_3, cc_2_3, cc_3_3, cc_4_3, cc_5_3, cc_6_3, cc_7_3, cc_8_3, cc_d3, cc_k4, cc_k5, jm_wr_id, pb_none, pb_int, pb_ref, pu_up_ne, pu_up_at]
  exact e
