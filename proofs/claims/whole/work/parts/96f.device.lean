/-- the tables of the class -/
def TB (y : jLay) (g : jH) (aL aM : Nat) : Prop := (y.1 aL).1 = 0 ∧ (y.1 aM).1 = 0 ∧ (∃ q, g.1 aL = some q ∧ q.1 = 30 ∧ q.2.1 = 12 ∧ ∀ j, j < 12 → q.2.2 j = .inl (jp_least j).toInt) ∧ (∃ q, g.1 aM = some q ∧ q.1 = 30 ∧ q.2.1 = 12 ∧ ∀ j, j < 12 → q.2.2 j = .inl (jp_most j).toInt) ∧ (∃ a q, (y.1 a).1 = 0 ∧ g.1 a = some q ∧ q.1 = 31) ∧ ∀ a q, g.1 a = some q → q.1 = 31 → q.2.2 0 = .inr (some aL) ∧ q.2.2 1 = .inr (some aM)
theorem cell_31 {ad : Nat → Int → Nat} {κ σ : aS} {r : Nat} {i : Int} : (pu_cell ad κ σ r i).1 ≠ 31 := by
  have ht : pu_tag (κ 18 i) ≠ 31 := fun z => by
    have := pu_tag_mem (κ 18 i)
    rw [z] at this
    exact absurd this (by decide)
  have d0 : pu_junk.1 = 99 := rfl
  intro z
  unfold pu_cell at z
  by_cases c1 : r = 1
  · rw [if_pos c1] at z
    cases z
  rw [if_neg c1] at z
  by_cases c2 : r = 2
  · rw [if_pos c2] at z
    cases z
  rw [if_neg c2] at z
  by_cases c3 : r = 3
  · rw [if_pos c3] at z
    exact ht z
  rw [if_neg c3] at z
  by_cases c4 : r = 4
  · rw [if_pos c4] at z
    cases z
  rw [if_neg c4] at z
  by_cases c5 : r = 5
  · rw [if_pos c5] at z
    cases z
  rw [if_neg c5] at z
  by_cases c6 : r = 6
  · rw [if_pos c6] at z
    split at z
    · cases z
    split at z
    · cases z
    split at z
    · cases z
    cases z
  rw [if_neg c6] at z
  by_cases c7 : r = 7
  · rw [if_pos c7] at z
    cases z
  rw [if_neg c7] at z
  by_cases c8 : r = 8
  · rw [if_pos c8] at z
    cases z
  rw [if_neg c8] at z
  by_cases c9 : r = 9
  · rw [if_pos c9] at z
    split at z
    · cases z
    · rw [d0] at z
      cases z
  rw [if_neg c9] at z
  by_cases c10 : r = 10
  · rw [if_pos c10] at z
    split at z
    · cases z
    · rw [d0] at z
      cases z
  rw [if_neg c10] at z
  by_cases c11 : r = 11
  · rw [if_pos c11] at z
    split at z
    · cases z
    · rw [d0] at z
      cases z
  rw [if_neg c11] at z
  by_cases c12 : r = 12
  · rw [if_pos c12] at z
    split at z
    · cases z
    · rw [d0] at z
      cases z
  rw [if_neg c12] at z
  by_cases c13 : r = 13
  · rw [if_pos c13] at z
    split at z
    · cases z
    · rw [d0] at z
      cases z
  rw [if_neg c13] at z
  by_cases c14 : r = 14
  · rw [if_pos c14] at z
    split at z
    · have z : (if i = 33 then 22 else 20) = 31 := z
      split at z <;> cases z
    · rw [d0] at z
      cases z
  rw [if_neg c14, d0] at z
  cases z
theorem tb_stat {y : jLay} {κ σ : aS} {g : jH} {aL aM : Nat} (h : TB y g aL aM) : ∃ q, jm_stat (pu_H y κ σ g) = some q ∧ q.2.2 0 = .inr (some aL) ∧ q.2.2 1 = .inr (some aM) := by
  obtain ⟨_, _, _, _, ⟨a, q, h1, h2, h3⟩, h4⟩ := h
  have e : (pu_H y κ σ g).1 a = some q := by
    show (if (y.1 a).1 = 0 then _ else _) = _
    rw [if_pos h1]
    exact h2
  obtain ⟨q', b1, b2, a', b3⟩ := jm_stat_at e h3
  refine ⟨q', b1, ?_⟩
  have b3 : (if (y.1 a').1 = 0 then g.1 a' else some (pu_cell y.2 κ σ (y.1 a').1 (y.1 a').2)) = some q' := b3
  by_cases c : (y.1 a').1 = 0
  · rw [if_pos c] at b3
    exact h4 a' q' b3 b2
  · rw [if_neg c] at b3
    have := Option.some.inj b3
    rw [← this] at b2
    exact absurd b2 cell_31
theorem least_eq {k : Int} (k0 : 0 ≤ k) (k1 : k < 12) : (jp_least k.toNat).toInt = if k = 3 then 1 else 0 := by
  rcases (show k = 0 ∨ k = 1 ∨ k = 2 ∨ k = 3 ∨ k = 4 ∨ k = 5 ∨ k = 6 ∨ k = 7 ∨ k = 8 ∨ k = 9 ∨ k = 10 ∨ k = 11 by omega) with rfl | rfl | rfl | rfl | rfl | rfl | rfl | rfl | rfl | rfl | rfl | rfl <;> rfl
theorem most_eq {k : Int} (k0 : 0 ≤ k) (k1 : k < 12) : (jp_most k.toNat).toInt = p_most k := by
  rcases (show k = 0 ∨ k = 1 ∨ k = 2 ∨ k = 3 ∨ k = 4 ∨ k = 5 ∨ k = 6 ∨ k = 7 ∨ k = 8 ∨ k = 9 ∨ k = 10 ∨ k = 11 by omega) with rfl | rfl | rfl | rfl | rfl | rfl | rfl | rfl | rfl | rfl | rfl | rfl <;> rfl
theorem tb_row {y : jLay} {κ σ : aS} {g : jH} {aL aM : Nat} (h : TB y g aL aM) : (∀ {kk : jK} {LL : List (Option jV)} {SS : List jV}, jk_static 0 kk LL SS (pu_H y κ σ g) = kk LL (.inr (some aL) :: SS) (pu_H y κ σ g)) ∧ (∀ {kk : jK} {LL : List (Option jV)} {SS : List jV}, jk_static 1 kk LL SS (pu_H y κ σ g) = kk LL (.inr (some aM) :: SS) (pu_H y κ σ g)) ∧ (∀ {kk : jK} {LL : List (Option jV)} {SS : List jV} {k : Int}, 0 ≤ k → k < 12 → jk_iald kk LL (.inl k :: .inr (some aL) :: SS) (pu_H y κ σ g) = kk LL (.inl (if k = 3 then 1 else 0) :: SS) (pu_H y κ σ g)) ∧ ∀ {kk : jK} {LL : List (Option jV)} {SS : List jV} {k : Int}, 0 ≤ k → k < 12 → jk_iald kk LL (.inl k :: .inr (some aM) :: SS) (pu_H y κ σ g) = kk LL (.inl (p_most k) :: SS) (pu_H y κ σ g) := by
  obtain ⟨q, s1, s2, s3⟩ := tb_stat (κ := κ) (σ := σ) h
  obtain ⟨hL, hM, ⟨qL, l1, l2, l3, l4⟩, ⟨qM, m1, m2, m3, m4⟩, _, _⟩ := h
  have eL : (pu_H y κ σ g).1 aL = some qL := by
    show (if (y.1 aL).1 = 0 then _ else _) = _
    rw [if_pos hL]
    exact l1
  have eM : (pu_H y κ σ g).1 aM = some qM := by
    show (if (y.1 aM).1 = 0 then _ else _) = _
    rw [if_pos hM]
    exact m1
  refine ⟨fun {kk LL SS} => ?_, fun {kk LL SS} => ?_, fun {kk LL SS k} k0 k1 => ?_, fun {kk LL SS k} k0 k1 => ?_⟩
  · unfold jk_static
    simp only [s1, s2]
  · unfold jk_static
    simp only [s1, s3]
  · rw [rw_iald eL (Or.inr l2) k0 (by rw [l3]; exact k1), l4 _ (by omega), least_eq k0 k1]
  · rw [rw_iald eM (Or.inr m2) k0 (by rw [m3]; exact k1), m4 _ (by omega), most_eq k0 k1]
set_option maxHeartbeats 4000000 in
theorem k_device {y : jLay} {κ σ : aS} {g : jH} {n : Nat} {τ : bS} {B aL aM : Nat} {k x : Int} (hn : 1000 ≤ n) (h : WW y κ τ) (hz : ZI τ) (hl : LA y τ.1 B g.2.1) (hB : B ≤ g.2.1) (hw : pm_WF y) (hb : TB y g aL aM) (ok : p_devok τ k x) : ∃ y' κ' g', fX11_device n [.inr (some (y.2 9 0)), .inl k, .inl x] (pu_H y κ σ g) = some (some (.inl (τ.1 1 0)), pu_H y' κ' σ g') ∧ WW y' κ' (b_device τ k x) ∧ LA y' (b_device τ k x).1 B g'.2.1 ∧ pm_WF y' ∧ GR y y' ∧ g'.1 = g.1 ∧ g.2.1 ≤ g'.2.1 ∧ g'.2.1 ≤ g.2.1 + 5 ∧ g'.2.2 ≤ g.2.2 + 400 := by
  obtain ⟨hG, hy0, hq, hT⟩ := h
  have hC := hG.1
  have hI := hG.2.1
  have ok0 := ok
  obtain ⟨oD, ⟨k0, k1⟩, x0, x1⟩ := ok
  obtain ⟨m1, m5, m7, m17, mlog, m15, msp⟩ := hC.rows
  have kD : κ 1 0 = τ.1 1 0 := m1 1 0 rfl
  have h9 := hI.2.2.2.2.2.2.2.2
  have D0 : 0 ≤ κ 1 0 := by omega
  have D1 : κ 1 0 < 12 := by omega
  have xx : 0 ≤ x := by split at x0 <;> omega
  obtain ⟨t1, t2, t3, t4⟩ := tb_row (κ := κ) (σ := σ) hb
  obtain ⟨iy, o9, o10, o11, o12, ya, yd, ys⟩ := hy0
  have l9 := hl.on o9 (by decide)
  have l11 := hl.on o11 (by decide)
  have n911 := on_ne o9 o11 (Or.inl (by decide))
  have q9 : (pu_H y κ σ g).1 (y.2 9 0) = some (10, 9, pu_kit y.2 κ) := pu_get o9 (by decide)
  have q11 : (pu_H y κ σ g).1 (y.2 11 0) = some (24, 12, fn_11 y.2 κ) := pu_get o11 (by decide)
  have f0 : ∀ b, (y.1 b).1 = 0 → (pu_H y κ σ g).1 b = g.1 b := fun b hb => if_pos hb
  have f1 : ∀ b, (y.1 b).1 ≠ 0 → (pu_H y κ σ g).1 b = some (pu_cell y.2 κ σ (y.1 b).1 (y.1 b).2) := fun b hb => if_neg hb
  have l0 : τ.2 (τ.1 1 0) = [] := by
    cases hl : τ.2 (τ.1 1 0) with
    | nil => rfl
    | cons z l =>
      have := hG.cre (e := τ.1 1 0) (x := z) (by omega) (by omega) (by rw [hl]; exact List.mem_cons_self)
      omega
  obtain ⟨D, eD⟩ : ∃ D, D = κ 1 0 := ⟨_, rfl⟩
  obtain ⟨κ', ek⟩ : ∃ κ', κ' = c_device κ k x := ⟨_, rfl⟩
  have K : ∀ (c : Nat) (i : Int), c ≠ 1 ∧ c ≠ 18 ∧ c ≠ 19 ∧ c ≠ 24 ∧ c ≠ 26 → c ≠ 22 → c ≠ 42 → c ≠ 43 → κ' c i = κ c i := fun c i hc a b d => by
    rw [ek]
    unfold c_device
    rw [if_neg (fun z => a z.1), if_neg (fun z => b z.1), if_neg (fun z => d z.1), dv0_e κ c i hc]
  have KN : ∀ (c : Nat) (i : Int), i ≠ D → c ≠ 1 → c ≠ 22 → c ≠ 42 → κ' c i = κ c i := fun c i hi h1 a b => by
    rw [ek]
    unfold c_device
    rw [if_neg (fun z => a z.1), if_neg (fun z => b z.1), if_neg (fun z => by omega), dv0_n κ c i (by omega) h1]
  have K22 : ∀ i, (i < 16 * D ∨ 16 * D + 16 ≤ i) → κ' 22 i = κ 22 i ∧ κ' 42 i = κ 42 i := fun i hi => by
    rw [ek]
    unfold c_device
    refine ⟨?_, ?_⟩
    · rw [if_neg (fun z => by omega), if_neg (fun z => absurd z.1 (by decide)), if_neg (fun z => absurd z.1 (by decide)), dv0_e κ 22 i (by decide)]
    · rw [if_neg (fun z => absurd z.1 (by decide)), if_neg (fun z => by omega), if_neg (fun z => absurd z.1 (by decide)), dv0_e κ 42 i (by decide)]
  have N22 : ∀ i, 16 * D ≤ i → i < 16 * D + 16 → κ' 22 i = -1 ∧ κ' 42 i = 0 := fun i h1 h2 => by
    rw [ek]
    unfold c_device
    refine ⟨?_, ?_⟩
    · rw [if_pos ⟨rfl, by omega, by omega⟩]
    · rw [if_neg (fun z => absurd z.1 (by decide)), if_pos ⟨rfl, by omega, by omega⟩]
  have N43 : κ' 43 D = 0 := by
    rw [ek]
    unfold c_device
    rw [if_neg (fun z => absurd z.1 (by decide)), if_neg (fun z => absurd z.1 (by decide)), if_pos ⟨rfl, eD⟩]
  obtain ⟨x18, x19, x24, x26, x01⟩ : κ' 18 D = k ∧ κ' 19 D = x ∧ κ' 24 D = (if k < 3 then x else 0) ∧ κ' 26 D = -1 ∧ κ' 1 0 = D + 1 := by
    have q := dv0_s (k := k) (x := x) κ
    have qq : ∀ (c : Nat) (i : Int), c ≠ 22 → c ≠ 42 → c ≠ 43 → κ' c i = c_dv0 κ k x c i := fun c i n1 n2 n3 => by
      rw [ek]
      unfold c_device
      rw [if_neg (fun z => n1 z.1), if_neg (fun z => n2 z.1), if_neg (fun z => n3 z.1)]
    rw [qq 18 D (by decide) (by decide) (by decide), qq 19 D (by decide) (by decide) (by decide), qq 24 D (by decide) (by decide) (by decide), qq 26 D (by decide) (by decide) (by decide), qq 1 0 (by decide) (by decide) (by decide), eD]
    exact q
  have KD : D = τ.1 1 0 := by omega
  obtain ⟨zn1, zn2, zn3, zn4, zn5, zn6⟩ := hz.1.2.2.2.2.2.2
  have vd := hT.2.2.2.2.1 D (by omega) (by omega)
  have e21 : κ' 21 D = 0 := by
    rw [K 21 D (by decide) (by decide) (by decide) (by decide), m1 21 D rfl]
    exact vd.2.2.2.2.2 (by omega)
  have e20 : κ' 20 D = 0 := by
    rw [K 20 D (by decide) (by decide) (by decide) (by decide), m1 20 D rfl]
    have a := vd.2.2.2.2.2 (by omega)
    have b := vd.2.2.2.2.1
    have c := vd.2.2.1
    omega
  have e23 : κ' 23 D = 0 := by
    rw [K 23 D (by decide) (by decide) (by decide) (by decide), (hC.2 D (by omega) (by omega)).1, KD, l0]
    rfl
  have e25 : κ' 25 D = 0 := by rw [K 25 D (by decide) (by decide) (by decide) (by decide), m1 25 D rfl]; exact (zn3 D (by omega)).1
  have e27 : κ' 27 D = 0 := by rw [K 27 D (by decide) (by decide) (by decide) (by decide), m1 27 D rfl]; exact (zn3 D (by omega)).2.1
  have e34 : κ' 34 D = 0 := by rw [K 34 D (by decide) (by decide) (by decide) (by decide), ← mlog 34 D (Or.inr rfl)]; exact (zn3 D (by omega)).2.2
  have z33 : ∀ j : Nat, j < 300 → κ' 33 (300 * D + j) = 0 := fun j _ => by rw [K 33 _ (by decide) (by decide) (by decide) (by decide), ← mlog 33 _ (Or.inl rfl)]; exact zn6 _ (by omega)
  have z32 : ∀ j : Nat, j < 8 → κ' 32 (8 * D + j) = 0 := fun j _ => by rw [K 32 _ (by decide) (by decide) (by decide) (by decide), m1 32 _ rfl]; exact zn5 _ (by omega)
  have z16 : ∀ (c j : Nat), j < 16 → c = 29 ∨ c = 30 ∨ c = 31 ∨ c = 42 → κ' c (16 * D + j) = 0 := fun c j hj hc => by
    have q := zn4 (16 * D + j) (by omega)
    rcases hc with rfl | rfl | rfl | rfl
    · rw [K 29 _ (by decide) (by decide) (by decide) (by decide), m1 29 _ rfl]; exact q.1
    · rw [K 30 _ (by decide) (by decide) (by decide) (by decide), m1 30 _ rfl]; exact q.2.1
    · rw [K 31 _ (by decide) (by decide) (by decide) (by decide), m1 31 _ rfl]; exact q.2.2
    · exact (N22 _ (by omega) (by omega)).2
  obtain ⟨ad, ead⟩ : ∃ ad : Nat → Int → Nat, ad = (ly_blk y g.2.1 3 5 D).2 := ⟨_, rfl⟩
  obtain ⟨h2, m, c2, m3, m5', mo, mp, hr, u2, s21, s22⟩ := mk_dev (n := n) (h := pu_H y κ σ g) (ad := ad) (κ := κ') (σ := σ) (d := D) (x := x) (k := k) (by omega) k0 k1 xx x1 x18 x24 (by rw [ead]; exact lb_new (by decide) (by decide)) (by rw [ead]; exact lb_new (by decide) (by decide)) (by rw [ead]; exact lb_new (by decide) (by decide)) (by rw [ead]; exact lb_new (by decide) (by decide)) x19 e20 e21 e23 e25 x26 e27 e34 N43 (fun j _ => (N22 _ (by omega) (by omega)).1) z33 z16 z32
  have hH1 : (pu_H y κ σ g).2.1 = g.2.1 := rfl
  have hH2 : (pu_H y κ σ g).2.2 = g.2.2 := rfl
  rw [hH1] at c2 hr u2 s21
  rw [hH2] at s22
  rw [eD] at c2
  have q0 : h2.1 g.2.1 = some (pu_cell ad κ' σ 3 D) := hr 0 (by omega)
  have q29 : h2.1 (y.2 9 0) = some (10, 9, pu_kit y.2 κ) := by rw [u2 _ (by omega)]; exact q9
  have q211 : h2.1 (y.2 11 0) = some (24, 12, fn_11 y.2 κ) := by rw [u2 _ (by omega)]; exact q11
  obtain ⟨h3, e3⟩ : ∃ z : jH, z = jm_set h2 (y.2 11 0) (24, 12, fn_11 y.2 κ) (κ 1 0).toNat (.inr (some g.2.1)) := ⟨_, rfl⟩
  have q39 : h3.1 (y.2 9 0) = some (10, 9, pu_kit y.2 κ) := by rw [e3, st_ne n911]; exact q29
  obtain ⟨h4, e4⟩ : ∃ z : jH, z = jm_set h3 (y.2 9 0) (10, 9, pu_kit y.2 κ) 3 (.inl (κ 1 0 + 1)) := ⟨_, rfl⟩
  have q49 : h4.1 (y.2 9 0) = some (10, 9, jm_upd (pu_kit y.2 κ) 3 (.inl (κ 1 0 + 1))) := by rw [e4]; exact st_at
  have q411 : h4.1 (y.2 11 0) = some (24, 12, jm_upd (fn_11 y.2 κ) (κ 1 0).toNat (.inr (some g.2.1))) := by rw [e4, st_ne n911.symm, e3]; exact st_at
  have o4 : ∀ b, b ≠ y.2 9 0 → b ≠ y.2 11 0 → h4.1 b = h2.1 b := fun b b1 b2 => by rw [e4, st_ne b1, e3, st_ne b2]
  have s4 : h4.2 = h2.2 := by rw [e4, st_2, e3, st_2]
  have r3 : ∀ {f : Nat} {kk : jK} {LL : List (Option jV)} {SS : List jV}, jk_get [10] f kk LL (.inr (some (y.2 9 0)) :: SS) h3 = kk LL (pu_kit y.2 κ f :: SS) h3 := fun {f kk LL SS} => rw_get q39 (by simp)
  have r4 : ∀ {f : Nat} {kk : jK} {LL : List (Option jV)} {SS : List jV}, jk_get [10] f kk LL (.inr (some (y.2 9 0)) :: SS) h4 = kk LL (jm_upd (pu_kit y.2 κ) 3 (.inl (κ 1 0 + 1)) f :: SS) h4 := fun {f kk LL SS} => rw_get q49 (by simp)
  have aa : ∀ {kk : jK} {LL : List (Option jV)} {SS : List jV}, jk_aast 24 kk LL (.inr (some g.2.1) :: .inl (κ 1 0) :: .inr (some (y.2 11 0)) :: SS) h2 = kk LL SS h3 := fun {kk LL SS} => by rw [e3]; exact rw_aast q211 q0 rfl D0 D1 (by rw [cell_3 rfl]; exact pu_tag_mem _)
  have pp : ∀ {kk : jK} {LL : List (Option jV)} {SS : List jV}, jk_puti [10] 3 kk LL (.inl (κ 1 0 + 1) :: .inr (some (y.2 9 0)) :: SS) h3 = kk LL SS h4 := fun {kk LL SS} => by rw [e4]; exact rw_puti q39 (by simp)
  have v3 : pu_kit y.2 κ 3 = .inl (κ 1 0) := rfl
  have w3 : jm_upd (pu_kit y.2 κ) 3 (.inl (κ 1 0 + 1)) 3 = .inl (κ 1 0 + 1) := rfl
  have ev : fX11_device n [.inr (some (y.2 9 0)), .inl k, .inl x] (pu_H y κ σ g) = some (some (.inl (κ 1 0)), h4) := by
    have c1 : ¬ k < 0 := by omega
    have c2' : ¬ 11 < k := by omega
    have c3 : ¬ x < (if k = 3 then 1 else 0) := by omega
    have c4 : ¬ p_most k < x := by omega
    simp only [fX11_device, jm_run, List.length_cons, List.length_nil, Nat.reduceAdd, if_true, jm_init, List.map_cons, List.map_nil, Nat.reduceSub, List.replicate, List.cons_append, List.nil_append, kX11_device]
    simp (disch := first | omega | assumption | (simp only [List.length_cons, List.length_nil]; omega) | decide | (simp (disch := decide) only [pu_up_ne, pu_up_at]; first | omega | assumption)) only [↓ja_int, ↓ja_null, ↓ja_iload_0, ↓ja_aload_0, ↓ja_istore_0, ↓ja_astore_0, ↓ja_kill_0, ↓ja_iinc_0, ↓ja_iload_1, ↓ja_aload_1, ↓ja_istore_1, ↓ja_astore_1, ↓ja_kill_1, ↓ja_iinc_1, ↓ja_iload_2, ↓ja_aload_2, ↓ja_istore_2, ↓ja_astore_2, ↓ja_kill_2, ↓ja_iinc_2, ↓ja_iload_3, ↓ja_aload_3, ↓ja_istore_3, ↓ja_astore_3, ↓ja_kill_3, ↓ja_iinc_3, ↓ja_iload_4, ↓ja_aload_4, ↓ja_istore_4, ↓ja_astore_4, ↓ja_kill_4, ↓ja_iinc_4, ↓ja_iload_5, ↓ja_aload_5, ↓ja_istore_5, ↓ja_astore_5, ↓ja_kill_5, ↓ja_iinc_5, ↓ja_iload_6, ↓ja_aload_6, ↓ja_istore_6, ↓ja_astore_6, ↓ja_kill_6, ↓ja_iinc_6, ↓ja_iload_7, ↓ja_aload_7, ↓ja_istore_7, ↓ja_astore_7, ↓ja_kill_7, ↓ja_iinc_7, ↓ja_iload_8, ↓ja_aload_8, ↓ja_istore_8, ↓ja_astore_8, ↓ja_kill_8, ↓ja_iinc_8, ↓ja_iload_9, ↓ja_aload_9, ↓ja_istore_9, ↓ja_astore_9, ↓ja_kill_9, ↓ja_iinc_9, ↓ja_iload_10, ↓ja_aload_10, ↓ja_istore_10, ↓ja_astore_10, ↓ja_kill_10, ↓ja_iinc_10, ↓ja_iadd, ↓ja_isub, ↓ja_imul, ↓ja_dup, ↓ja_dup2, ↓ja_i2b, ↓ja_ifeq, ↓ja_ifne, ↓ja_iflt, ↓ja_ifge, ↓ja_ifgt, ↓ja_ifle, ↓ja_icmpeq, ↓ja_icmpne, ↓ja_icmplt, ↓ja_icmpge, ↓ja_icmpgt, ↓ja_icmple, ↓ja_ifnull_n, ↓ja_ifnull_s, ↓ja_ifnonnull_n, ↓ja_ifnonnull_s, ↓ja_iret, ↓ja_aret, ↓ja_vret, ↓ja_zret0, ↓ja_zret1, ↓ja_sw, ↓ja_pe, ↓ja_pn, ↓ja_pz, ↓reduceIte, ite_self, Int.reduceEq, Int.reduceLT, Int.reduceLE, Int.reduceNeg, Int.reduceToNat, jm_wr_id, pb_none, pb_int, pb_ref, ↓rw_obj, ca_g0, ca_g1, ca_g2, ca_g3, ca_g5, ca_g6, ca_g4n, ca_g4s, ca_p3, ca_p5, ca_p6, ca_p4n, ca_p4s, cs_g0, cs_g1, cs_g2, cs_g3, cs_g4, cs_g5, cs_g6, cs_g7, cs_g8, cs_p5, cs_p6, cs_p7, cs_p8, cd_g0, cd_g1, cd_g2, cd_g3, cd_g4, cd_g5, cd_g6, cd_g7, cd1_g0, cd1_g1, cd1_g2, cd1_g3, cd1_g4, cd1_g5, cd1_g6, cd1_g7, cd1_g8, cd1_g9, cd2_g0, cd2_g1, cd2_g2, cd2_g3, cd2_g4, cd2_g5, cd2_g6, cd2_g7, cd3_g0, cd3_g1, cd3_g2, cd3_g3, cd3_g4, cd3_g5, cd3_g6, cd3_g7, cd3_g8, cd3_g9, cd3_g10, cd4_g0, cd4_g1, cd4_g2, cd4_g3, cd4_g4, cd4_g5, cd4_g6, cd4_g7, cd4_g8, cd4_g9, cd4_g10, cd5_g0, cd5_g1, cd5_g2, cd5_g3, cd5_g4, cd5_g5, cd5_g6, cd5_g7, cd5_g8, cd5_g9, cd6_g0, cd6_g1, cd6_g2, cd6_g3, cd6_g4, cd6_g5, cd6_g6, cd6_g7, cd6_g8, cd7_g0, cd7_g1, cd7_g2, cd7_g3, cd7_g4, cd7_g5, cd7_g6, cd7_g7, cd7_g8, cd7_g9, cd7_g10, cd8_g0, cd8_g1, cd8_g2, cd8_g3, cd8_g4, cd8_g5, cd8_g6, cd8_g7, cd8_g9, cd8_g8a, cd8_g8b, cd_p2, cd_p3, cd_p5, cd_p7, cd1_p9, cd3_p10, cd4_p9, cd4_p10, cd5_p9, cd6_p8, cd7_p10, cd8_p9, cd8_p8a, cd8_p8b, ck_g0, ck_g1, ck_g2, ck_g3, ck_g4, ck_g5, ck_g6, ck_g7, ck_g8, ck_p5, ck_p6, ck_p7, ck_p8, cr2, cr4, cr5, cr10, cr11, cr12, cr6_5, cr6_6, cr6_9, cr6_11, cr7, cw5, cw6_5, cw6_6, cw6_9, cw6_11, cw7, cw12, cw4, cl2, cl4, cl5, cl12, cc_a0, cc_s0, cc_k0, cc_1_0, cc_2_0, cc_3_0, cc_4_0, cc_5_0, cc_6_0, cc_7_0, cc_8_0, cc_d0, cc_a1, cc_s1, cc_k1, cc_1_1, cc_2_1, cc_3_1, cc_4_1, cc_5_1, cc_6_1, cc_7_1, cc_8_1, cc_d1, cc_k2, cc_1_2, cc_2_2, cc_3_2, cc_4_2, cc_5_2, cc_6_2, cc_7_2, cc_8_2, cc_d2, cc_k3, cc_1_3, cc_2_3, cc_3_3, cc_4_3, cc_5_3, cc_6_3, cc_7_3, cc_8_3, cc_d3, cc_k4, cc_k5, pu_up_ne, pu_up_at, Int.add_sub_cancel, D1, c1, c2', c3, c4, ↓t1, ↓t2, ↓t3, ↓t4, ↓rw_c3, c2, ↓aa, ↓r3, ↓r4, ↓pp, v3, w3, if_true, if_false, ↓jk_fix_pos, kX11_device_b, kX11_device_0, kX11_device_19, kX11_device_39, Nat.reduceEqDiff]
  have hno : ∀ a, (y.1 a).1 ≠ 0 → ¬ (3 ≤ (y.1 a).1 ∧ (y.1 a).1 < 3 + m ∧ (y.1 a).2 = D) := by
    intro a ha z
    have q := (hl a ha).2.2
    unfold lv at q
    rcases q with q | q | ⟨q, _⟩ | q | q <;> omega
  have iy' : pu_inv (ly_blk y g.2.1 3 m D) := lb_inv iy hno
  have adr : ∀ {r : Nat}, r < 3 + m → (ly_blk y g.2.1 3 m D).2 r D = ad r D := fun {r} hr => by
    rw [ead]
    by_cases c : 3 ≤ r
    · rw [lb_new c hr, lb_new c (by omega)]
    · rw [lb_old (by omega), lb_old (by omega)]
  have hp : h4 = pu_H (ly_blk y g.2.1 3 m D) κ' σ (g.1, h4.2) := by
    refine lb_heap (by decide) (fun b b1 b2 => ?_) (fun b b1 b2 => ?_) (fun b b1 b2 => ?_)
    · obtain ⟨r, er⟩ : ∃ r, r = b - g.2.1 := ⟨_, rfl⟩
      have eb : b = g.2.1 + r := by omega
      rw [o4 _ (by omega) (by omega), ← er, eb, hr r (by omega)]
      congr 1
      by_cases c3 : r = 0
      · subst c3
        rw [cell_3 rfl, cell_3 rfl]
        congr 2
        funext j
        simp only [pu_dev, pu_own, x18]
        rw [adr (r := 4) (by omega), adr (r := 5) (by omega)]
        by_cases c6 : k = 5 ∨ k = 6 ∨ k = 9 ∨ k = 11
        · have := mo (by rw [x18]; exact c6)
          rw [adr (r := 6) (by omega)]
          by_cases c9 : k = 9
          · have := mp (by rw [x18]; exact c9)
            rw [adr (r := 7) (by omega)]
          · have g7 : pu_tag k ≠ 7 := fun z => by
              unfold pu_tag at z
              repeat' split at z
              all_goals omega
            simp only [if_neg g7]
        · have g3 : pu_tag k ≠ 3 := fun z => by
            unfold pu_tag at z
            repeat' split at z
            all_goals omega
          have g4 : pu_tag k ≠ 4 := fun z => by
            unfold pu_tag at z
            repeat' split at z
            all_goals omega
          have g5 : pu_tag k ≠ 5 := fun z => by
            unfold pu_tag at z
            repeat' split at z
            all_goals omega
          have g7 : pu_tag k ≠ 7 := fun z => by
            unfold pu_tag at z
            repeat' split at z
            all_goals omega
          simp only [if_neg g3, if_neg g4, if_neg g5, if_neg g7]
      · refine (pc_ad (fun z => by omega) (fun z => by omega) (fun z => by omega) (fun z j hj hn => ?_) (fun z => by omega) (fun z => by omega) (fun z => by omega) (fun z => by omega) (fun z => by omega)).symm
        exact absurd (show κ' 22 (16 * D + j) < 0 by rw [(N22 (16 * D + j) (by omega) (by omega)).1]; decide) hn
    · have n9 : b ≠ y.2 9 0 := fun z => by
        have a : y.1 (y.2 9 0) = (9, 0) := o9
        rw [z, a] at b2
        cases b2
      have n11 : b ≠ y.2 11 0 := fun z => by
        have a : y.1 (y.2 11 0) = (11, 0) := o11
        rw [z, a] at b2
        cases b2
      rw [o4 b n9 n11, u2 b (by omega)]
      exact f0 b b2
    · by_cases n9 : b = y.2 9 0
      · rw [n9, q49]
        have a : y.1 (y.2 9 0) = (9, 0) := o9
        rw [a]
        show _ = some (10, 9, pu_kit _ _)
        congr 3
        funext j
        have a10 : (ly_blk y g.2.1 3 m D).2 10 0 = y.2 10 0 := lb_old (by omega)
        have a11 : (ly_blk y g.2.1 3 m D).2 11 0 = y.2 11 0 := lb_old (by omega)
        have a12 : (ly_blk y g.2.1 3 m D).2 12 0 = y.2 12 0 := lb_old (by omega)
        simp only [jm_upd, pu_kit, a10, a11, a12, x01, K 0 0 (by decide) (by decide) (by decide) (by decide), K 38 0 (by decide) (by decide) (by decide) (by decide), K 41 0 (by decide) (by decide) (by decide) (by decide), K 37 0 (by decide) (by decide) (by decide) (by decide), K 2 0 (by decide) (by decide) (by decide) (by decide)]
        by_cases cj : j = 3
        · subst cj
          rw [eD]
          rfl
        · simp only [if_neg cj]
      · by_cases n11 : b = y.2 11 0
        · rw [n11, q411]
          have a : y.1 (y.2 11 0) = (11, 0) := o11
          rw [a]
          simp only [pu_cell, Nat.reduceEqDiff, if_false, if_true, x01]
          congr 3
          funext j
          simp only [jm_upd, fn_11]
          by_cases cj : j = (κ 1 0).toNat
          · have cj' : (j : Int) = D := by omega
            rw [if_pos cj, if_pos (by omega), cj']
            have a1 : (ly_blk y g.2.1 3 m D).2 3 D = g.2.1 + 0 := lb_new (by decide) (by omega)
            rw [a1]
            rfl
          · rw [if_neg cj]
            by_cases cj2 : (j : Int) < κ 1 0
            · rw [if_pos cj2, if_pos (by omega), lb_old (by omega)]
            · rw [if_neg cj2, if_neg (by omega)]
        · obtain ⟨p1, p2, p3⟩ := hl b b2
          rw [o4 b n9 n11, u2 b (by omega), f1 b b2]
          have hib := iy b b2
          obtain ⟨r, er⟩ : ∃ r, r = (y.1 b).1 := ⟨_, rfl⟩
          obtain ⟨i, ei⟩ : ∃ i, i = (y.1 b).2 := ⟨_, rfl⟩
          rw [← er, ← ei] at p3 hib ⊢
          have y9 : r = 9 ∨ r = 11 → i = 0 := fun z => by
            unfold lv at p3
            rcases p3 with q | q | ⟨q, _⟩ | q | q <;> omega
          have x9 : r ≠ 9 := fun z => n9 (by rw [hib, z, y9 (Or.inl z)])
          have x11 : r ≠ 11 := fun z => n11 (by rw [hib, z, y9 (Or.inr z)])
          have y3 : 3 ≤ r → r ≤ 7 → i < D := fun z1 z2 => by
            unfold lv at p3
            rcases p3 with q | q | ⟨q, _⟩ | q | q <;> omega
          have E1 : pu_cell (ly_blk y g.2.1 3 m D).2 κ' σ r i = pu_cell y.2 κ' σ r i := by
            refine pc_ad (fun z => ⟨lb_old (by omega), fun _ => lb_old (by omega)⟩) (fun z j _ => lb_old (by omega)) (fun z q q1 q2 => ?_) (fun z j _ _ => lb_old (by omega)) (fun z => ⟨lb_old (by omega), ?_⟩) (fun z => absurd z x9) (fun z j _ => lb_old (by omega)) (fun z => absurd z x11) (fun z kk => lb_old (by omega))
            · have := y3 (by omega) (by omega)
              exact lb_old (by omega)
            · obtain ⟨t, j, w1, w2, w3, w4, w5, w6, w7, w8⟩ := p3.s20 z hI
              have q := hG.2.2.2.2.2.1 t j w1 w3 w4 w5
              rw [K 10 i (by decide) (by decide) (by decide) (by decide), m1 10 i rfl, w7]
              exact lb_old (by omega)
          rw [E1]
          congr 1
          refine (pc_cong (fun cc j hu => ?_)).symm
          by_cases c1 : cc = 1
          · subst c1
            obtain ⟨u1, u2⟩ := pc_u1 hu
            omega
          by_cases c22 : cc = 22
          · subst c22
            obtain ⟨u1, u2, u3⟩ := pc_u22 hu
            have := y3 (by omega) (by omega)
            exact (K22 j (by omega)).1
          by_cases c42 : cc = 42
          · subst c42
            obtain ⟨u1, u2, u3⟩ := pc_u42 hu
            have := y3 (by omega) (by omega)
            exact (K22 j (by omega)).2
          by_cases c43 : cc = 43
          · subst c43
            obtain ⟨u1, u2⟩ := pc_u43 hu
            have := y3 (by omega) (by omega)
            exact KN 43 j (by omega) c1 c22 c42
          by_cases c18 : cc = 18
          · subst c18
            obtain ⟨u1, u2⟩ := pc_u18 hu
            have := y3 (by omega) (by omega)
            exact KN 18 j (by omega) c1 c22 c42
          by_cases c19 : cc = 19
          · subst c19
            obtain ⟨u1, u2⟩ := pc_u19 hu
            have := y3 (by omega) (by omega)
            exact KN 19 j (by omega) c1 c22 c42
          by_cases c24 : cc = 24
          · subst c24
            obtain ⟨u1, u2⟩ := pc_u24 hu
            have := y3 (by omega) (by omega)
            exact KN 24 j (by omega) c1 c22 c42
          by_cases c26 : cc = 26
          · subst c26
            obtain ⟨u1, u2⟩ := pc_u26 hu
            have := y3 (by omega) (by omega)
            exact KN 26 j (by omega) c1 c22 c42
          exact K cc j ⟨c1, c18, c19, c24, c26⟩ c22 c42 c43
  have E := fun c i h h28 => dv_E (k := k) (x := x) τ c i h h28
  have s1 := (dv_S (k := k) (x := x) τ).2.2.2.2.1
  refine ⟨ly_blk y g.2.1 3 m D, κ', (g.1, h4.2), ?_, ⟨by rw [ek]; exact hG.device hz ok0, ⟨iy', lb_keep o9 (by omega) l9.2.1, lb_keep o10 (by omega) (hl.on o10 (by decide)).2.1, lb_keep o11 (by omega) l11.2.1, lb_keep o12 (by omega) (hl.on o12 (by decide)).2.1, fun t a b => ?_, fun d a b => ?_, fun t i a b i0 i1 => ?_⟩, hq.more (fun cc i hc => K _ _ (by omega) (by omega) (by omega) (by omega)) (fun cc i hc => E _ _ (by omega) (by omega)) (by rw [E 0 0 (by decide) (by decide)]; exact Int.le_refl _), hT.device ok0⟩, ?_, hw.blk hl (by omega) iy', ⟨lb_old (by omega), lb_old (by omega)⟩, rfl, ?_, ?_, ?_⟩
  · rw [← hp, ev, kD]
  · rw [K 0 0 (by decide) (by decide) (by decide) (by decide)] at b
    obtain ⟨w1, w2⟩ := ya t a b
    exact ⟨lb_keep w1 (by omega) (hl.on w1 (by decide)).2.1, lb_keep w2 (by omega) (hl.on w2 (by decide)).2.1⟩
  · rw [x01] at b
    by_cases cd : d = D
    · subst cd
      refine ⟨lb_on (by omega) (by omega), lb_on (by omega) (by omega), lb_on (by omega) (by omega), ?_⟩
      unfold GK
      refine ⟨by omega, by omega, fun z => ?_, fun z => ?_⟩
      · have := mo z
        exact lb_on (by omega) (by omega)
      · have := mp z
        exact lb_on (by omega) (by omega)
    · obtain ⟨w1, w2, w3, w4, w5, w6, w7⟩ := yd d a (by omega)
      refine ⟨lb_keep w1 (by omega) (hl.on w1 (by decide)).2.1, lb_keep w2 (by omega) (hl.on w2 (by decide)).2.1, lb_keep w3 (by omega) (hl.on w3 (by decide)).2.1, ?_⟩
      unfold GK
      rw [KN 18 d cd (by decide) (by decide) (by decide)]
      exact ⟨w4, w5, fun z => lb_keep (w6 z) (by omega) (hl.on (w6 z) (by decide)).2.1, fun z => lb_keep (w7 z) (by omega) (hl.on (w7 z) (by decide)).2.1⟩
  · rw [K 0 0 (by decide) (by decide) (by decide) (by decide)] at b
    rw [K 3 t (by decide) (by decide) (by decide) (by decide)] at i1
    have w := ys t i a b i0 i1
    exact lb_keep w (by omega) (hl.on w (by decide)).2.1
  · show LA _ _ _ h4.2.1
    rw [s4, s21]
    refine hl.blk hB (by rw [E 0 0 (by decide) (by decide)]; exact Int.le_refl _) (by rw [s1]; omega) (fun i => by rw [E 3 i (by decide) (by decide)]; exact Int.le_refl _) (fun r r1 r2 => ?_)
    unfold lv
    rw [s1]
    exact Or.inr (Or.inl (by omega))
  · show g.2.1 ≤ h4.2.1
    rw [s4, s21]
    omega
  · show h4.2.1 ≤ g.2.1 + 5
    rw [s4, s21]
    omega
  · show h4.2.2 ≤ g.2.2 + 400
    rw [s4]
    exact s22
set_option maxHeartbeats 4000000 in
theorem k_device_no {y : jLay} {κ σ : aS} {g : jH} {n : Nat} {τ : bS} {aL aM : Nat} {k x : Int} (hn : 1000 ≤ n) (h : WW y κ τ) (hb : TB y g aL aM) (no : ¬ p_devok τ k x) : fX11_device n [.inr (some (y.2 9 0)), .inl k, .inl x] (pu_H y κ σ g) = some (some (.inl (-1)), pu_H y κ σ g) := by
  obtain ⟨hG, hy0, hq, hT⟩ := h
  have hC := hG.1
  have hI := hG.2.1
  have kD : κ 1 0 = τ.1 1 0 := hC.1.1 1 0 rfl
  have h9 := hI.2.2.2.2.2.2.2.2
  obtain ⟨t1, t2, t3, t4⟩ := tb_row (κ := κ) (σ := σ) hb
  obtain ⟨iy, o9, o10, o11, o12, ya, yd, ys⟩ := hy0
  by_cases cD : τ.1 1 0 = 12
  · have D1 : ¬ κ 1 0 < 12 := by omega
    simp only [fX11_device, jm_run, List.length_cons, List.length_nil, Nat.reduceAdd, if_true, jm_init, List.map_cons, List.map_nil, Nat.reduceSub, List.replicate, List.cons_append, List.nil_append, kX11_device]
    simp (disch := first | omega | assumption | (simp only [List.length_cons, List.length_nil]; omega) | decide | (simp (disch := decide) only [pu_up_ne, pu_up_at]; first | omega | assumption)) only [↓ja_int, ↓ja_null, ↓ja_iload_0, ↓ja_aload_0, ↓ja_istore_0, ↓ja_astore_0, ↓ja_kill_0, ↓ja_iinc_0, ↓ja_iload_1, ↓ja_aload_1, ↓ja_istore_1, ↓ja_astore_1, ↓ja_kill_1, ↓ja_iinc_1, ↓ja_iload_2, ↓ja_aload_2, ↓ja_istore_2, ↓ja_astore_2, ↓ja_kill_2, ↓ja_iinc_2, ↓ja_iload_3, ↓ja_aload_3, ↓ja_istore_3, ↓ja_astore_3, ↓ja_kill_3, ↓ja_iinc_3, ↓ja_iload_4, ↓ja_aload_4, ↓ja_istore_4, ↓ja_astore_4, ↓ja_kill_4, ↓ja_iinc_4, ↓ja_iload_5, ↓ja_aload_5, ↓ja_istore_5, ↓ja_astore_5, ↓ja_kill_5, ↓ja_iinc_5, ↓ja_iload_6, ↓ja_aload_6, ↓ja_istore_6, ↓ja_astore_6, ↓ja_kill_6, ↓ja_iinc_6, ↓ja_iload_7, ↓ja_aload_7, ↓ja_istore_7, ↓ja_astore_7, ↓ja_kill_7, ↓ja_iinc_7, ↓ja_iload_8, ↓ja_aload_8, ↓ja_istore_8, ↓ja_astore_8, ↓ja_kill_8, ↓ja_iinc_8, ↓ja_iload_9, ↓ja_aload_9, ↓ja_istore_9, ↓ja_astore_9, ↓ja_kill_9, ↓ja_iinc_9, ↓ja_iload_10, ↓ja_aload_10, ↓ja_istore_10, ↓ja_astore_10, ↓ja_kill_10, ↓ja_iinc_10, ↓ja_iadd, ↓ja_isub, ↓ja_imul, ↓ja_dup, ↓ja_dup2, ↓ja_i2b, ↓ja_ifeq, ↓ja_ifne, ↓ja_iflt, ↓ja_ifge, ↓ja_ifgt, ↓ja_ifle, ↓ja_icmpeq, ↓ja_icmpne, ↓ja_icmplt, ↓ja_icmpge, ↓ja_icmpgt, ↓ja_icmple, ↓ja_ifnull_n, ↓ja_ifnull_s, ↓ja_ifnonnull_n, ↓ja_ifnonnull_s, ↓ja_iret, ↓ja_aret, ↓ja_vret, ↓ja_zret0, ↓ja_zret1, ↓ja_sw, ↓ja_pe, ↓ja_pn, ↓ja_pz, ↓reduceIte, ite_self, Int.reduceEq, Int.reduceLT, Int.reduceLE, Int.reduceNeg, Int.reduceToNat, jm_wr_id, pb_none, pb_int, pb_ref, ↓rw_obj, ca_g0, ca_g1, ca_g2, ca_g3, ca_g5, ca_g6, ca_g4n, ca_g4s, ca_p3, ca_p5, ca_p6, ca_p4n, ca_p4s, cs_g0, cs_g1, cs_g2, cs_g3, cs_g4, cs_g5, cs_g6, cs_g7, cs_g8, cs_p5, cs_p6, cs_p7, cs_p8, cd_g0, cd_g1, cd_g2, cd_g3, cd_g4, cd_g5, cd_g6, cd_g7, cd1_g0, cd1_g1, cd1_g2, cd1_g3, cd1_g4, cd1_g5, cd1_g6, cd1_g7, cd1_g8, cd1_g9, cd2_g0, cd2_g1, cd2_g2, cd2_g3, cd2_g4, cd2_g5, cd2_g6, cd2_g7, cd3_g0, cd3_g1, cd3_g2, cd3_g3, cd3_g4, cd3_g5, cd3_g6, cd3_g7, cd3_g8, cd3_g9, cd3_g10, cd4_g0, cd4_g1, cd4_g2, cd4_g3, cd4_g4, cd4_g5, cd4_g6, cd4_g7, cd4_g8, cd4_g9, cd4_g10, cd5_g0, cd5_g1, cd5_g2, cd5_g3, cd5_g4, cd5_g5, cd5_g6, cd5_g7, cd5_g8, cd5_g9, cd6_g0, cd6_g1, cd6_g2, cd6_g3, cd6_g4, cd6_g5, cd6_g6, cd6_g7, cd6_g8, cd7_g0, cd7_g1, cd7_g2, cd7_g3, cd7_g4, cd7_g5, cd7_g6, cd7_g7, cd7_g8, cd7_g9, cd7_g10, cd8_g0, cd8_g1, cd8_g2, cd8_g3, cd8_g4, cd8_g5, cd8_g6, cd8_g7, cd8_g9, cd8_g8a, cd8_g8b, cd_p2, cd_p3, cd_p5, cd_p7, cd1_p9, cd3_p10, cd4_p9, cd4_p10, cd5_p9, cd6_p8, cd7_p10, cd8_p9, cd8_p8a, cd8_p8b, ck_g0, ck_g1, ck_g2, ck_g3, ck_g4, ck_g5, ck_g6, ck_g7, ck_g8, ck_p5, ck_p6, ck_p7, ck_p8, cr2, cr4, cr5, cr10, cr11, cr12, cr6_5, cr6_6, cr6_9, cr6_11, cr7, cw5, cw6_5, cw6_6, cw6_9, cw6_11, cw7, cw12, cw4, cl2, cl4, cl5, cl12, cc_a0, cc_s0, cc_k0, cc_1_0, cc_2_0, cc_3_0, cc_4_0, cc_5_0, cc_6_0, cc_7_0, cc_8_0, cc_d0, cc_a1, cc_s1, cc_k1, cc_1_1, cc_2_1, cc_3_1, cc_4_1, cc_5_1, cc_6_1, cc_7_1, cc_8_1, cc_d1, cc_k2, cc_1_2, cc_2_2, cc_3_2, cc_4_2, cc_5_2, cc_6_2, cc_7_2, cc_8_2, cc_d2, cc_k3, cc_1_3, cc_2_3, cc_3_3, cc_4_3, cc_5_3, cc_6_3, cc_7_3, cc_8_3, cc_d3, cc_k4, cc_k5, pu_up_ne, pu_up_at, D1, if_true, if_false, ↓jk_fix_pos, kX11_device_b, kX11_device_0, kX11_device_19, kX11_device_39, Nat.reduceEqDiff]
  · have D1 : κ 1 0 < 12 := by omega
    by_cases c1 : k < 0
    ·
      simp only [fX11_device, jm_run, List.length_cons, List.length_nil, Nat.reduceAdd, if_true, jm_init, List.map_cons, List.map_nil, Nat.reduceSub, List.replicate, List.cons_append, List.nil_append, kX11_device]
      simp (disch := first | omega | assumption | (simp only [List.length_cons, List.length_nil]; omega) | decide | (simp (disch := decide) only [pu_up_ne, pu_up_at]; first | omega | assumption)) only [↓ja_int, ↓ja_null, ↓ja_iload_0, ↓ja_aload_0, ↓ja_istore_0, ↓ja_astore_0, ↓ja_kill_0, ↓ja_iinc_0, ↓ja_iload_1, ↓ja_aload_1, ↓ja_istore_1, ↓ja_astore_1, ↓ja_kill_1, ↓ja_iinc_1, ↓ja_iload_2, ↓ja_aload_2, ↓ja_istore_2, ↓ja_astore_2, ↓ja_kill_2, ↓ja_iinc_2, ↓ja_iload_3, ↓ja_aload_3, ↓ja_istore_3, ↓ja_astore_3, ↓ja_kill_3, ↓ja_iinc_3, ↓ja_iload_4, ↓ja_aload_4, ↓ja_istore_4, ↓ja_astore_4, ↓ja_kill_4, ↓ja_iinc_4, ↓ja_iload_5, ↓ja_aload_5, ↓ja_istore_5, ↓ja_astore_5, ↓ja_kill_5, ↓ja_iinc_5, ↓ja_iload_6, ↓ja_aload_6, ↓ja_istore_6, ↓ja_astore_6, ↓ja_kill_6, ↓ja_iinc_6, ↓ja_iload_7, ↓ja_aload_7, ↓ja_istore_7, ↓ja_astore_7, ↓ja_kill_7, ↓ja_iinc_7, ↓ja_iload_8, ↓ja_aload_8, ↓ja_istore_8, ↓ja_astore_8, ↓ja_kill_8, ↓ja_iinc_8, ↓ja_iload_9, ↓ja_aload_9, ↓ja_istore_9, ↓ja_astore_9, ↓ja_kill_9, ↓ja_iinc_9, ↓ja_iload_10, ↓ja_aload_10, ↓ja_istore_10, ↓ja_astore_10, ↓ja_kill_10, ↓ja_iinc_10, ↓ja_iadd, ↓ja_isub, ↓ja_imul, ↓ja_dup, ↓ja_dup2, ↓ja_i2b, ↓ja_ifeq, ↓ja_ifne, ↓ja_iflt, ↓ja_ifge, ↓ja_ifgt, ↓ja_ifle, ↓ja_icmpeq, ↓ja_icmpne, ↓ja_icmplt, ↓ja_icmpge, ↓ja_icmpgt, ↓ja_icmple, ↓ja_ifnull_n, ↓ja_ifnull_s, ↓ja_ifnonnull_n, ↓ja_ifnonnull_s, ↓ja_iret, ↓ja_aret, ↓ja_vret, ↓ja_zret0, ↓ja_zret1, ↓ja_sw, ↓ja_pe, ↓ja_pn, ↓ja_pz, ↓reduceIte, ite_self, Int.reduceEq, Int.reduceLT, Int.reduceLE, Int.reduceNeg, Int.reduceToNat, jm_wr_id, pb_none, pb_int, pb_ref, ↓rw_obj, ca_g0, ca_g1, ca_g2, ca_g3, ca_g5, ca_g6, ca_g4n, ca_g4s, ca_p3, ca_p5, ca_p6, ca_p4n, ca_p4s, cs_g0, cs_g1, cs_g2, cs_g3, cs_g4, cs_g5, cs_g6, cs_g7, cs_g8, cs_p5, cs_p6, cs_p7, cs_p8, cd_g0, cd_g1, cd_g2, cd_g3, cd_g4, cd_g5, cd_g6, cd_g7, cd1_g0, cd1_g1, cd1_g2, cd1_g3, cd1_g4, cd1_g5, cd1_g6, cd1_g7, cd1_g8, cd1_g9, cd2_g0, cd2_g1, cd2_g2, cd2_g3, cd2_g4, cd2_g5, cd2_g6, cd2_g7, cd3_g0, cd3_g1, cd3_g2, cd3_g3, cd3_g4, cd3_g5, cd3_g6, cd3_g7, cd3_g8, cd3_g9, cd3_g10, cd4_g0, cd4_g1, cd4_g2, cd4_g3, cd4_g4, cd4_g5, cd4_g6, cd4_g7, cd4_g8, cd4_g9, cd4_g10, cd5_g0, cd5_g1, cd5_g2, cd5_g3, cd5_g4, cd5_g5, cd5_g6, cd5_g7, cd5_g8, cd5_g9, cd6_g0, cd6_g1, cd6_g2, cd6_g3, cd6_g4, cd6_g5, cd6_g6, cd6_g7, cd6_g8, cd7_g0, cd7_g1, cd7_g2, cd7_g3, cd7_g4, cd7_g5, cd7_g6, cd7_g7, cd7_g8, cd7_g9, cd7_g10, cd8_g0, cd8_g1, cd8_g2, cd8_g3, cd8_g4, cd8_g5, cd8_g6, cd8_g7, cd8_g9, cd8_g8a, cd8_g8b, cd_p2, cd_p3, cd_p5, cd_p7, cd1_p9, cd3_p10, cd4_p9, cd4_p10, cd5_p9, cd6_p8, cd7_p10, cd8_p9, cd8_p8a, cd8_p8b, ck_g0, ck_g1, ck_g2, ck_g3, ck_g4, ck_g5, ck_g6, ck_g7, ck_g8, ck_p5, ck_p6, ck_p7, ck_p8, cr2, cr4, cr5, cr10, cr11, cr12, cr6_5, cr6_6, cr6_9, cr6_11, cr7, cw5, cw6_5, cw6_6, cw6_9, cw6_11, cw7, cw12, cw4, cl2, cl4, cl5, cl12, cc_a0, cc_s0, cc_k0, cc_1_0, cc_2_0, cc_3_0, cc_4_0, cc_5_0, cc_6_0, cc_7_0, cc_8_0, cc_d0, cc_a1, cc_s1, cc_k1, cc_1_1, cc_2_1, cc_3_1, cc_4_1, cc_5_1, cc_6_1, cc_7_1, cc_8_1, cc_d1, cc_k2, cc_1_2, cc_2_2, cc_3_2, cc_4_2, cc_5_2, cc_6_2, cc_7_2, cc_8_2, cc_d2, cc_k3, cc_1_3, cc_2_3, cc_3_3, cc_4_3, cc_5_3, cc_6_3, cc_7_3, cc_8_3, cc_d3, cc_k4, cc_k5, pu_up_ne, pu_up_at, D1, c1, if_true, if_false, ↓jk_fix_pos, kX11_device_b, kX11_device_0, kX11_device_19, kX11_device_39, Nat.reduceEqDiff]
    · by_cases c2 : 11 < k
      ·
        simp only [fX11_device, jm_run, List.length_cons, List.length_nil, Nat.reduceAdd, if_true, jm_init, List.map_cons, List.map_nil, Nat.reduceSub, List.replicate, List.cons_append, List.nil_append, kX11_device]
        simp (disch := first | omega | assumption | (simp only [List.length_cons, List.length_nil]; omega) | decide | (simp (disch := decide) only [pu_up_ne, pu_up_at]; first | omega | assumption)) only [↓ja_int, ↓ja_null, ↓ja_iload_0, ↓ja_aload_0, ↓ja_istore_0, ↓ja_astore_0, ↓ja_kill_0, ↓ja_iinc_0, ↓ja_iload_1, ↓ja_aload_1, ↓ja_istore_1, ↓ja_astore_1, ↓ja_kill_1, ↓ja_iinc_1, ↓ja_iload_2, ↓ja_aload_2, ↓ja_istore_2, ↓ja_astore_2, ↓ja_kill_2, ↓ja_iinc_2, ↓ja_iload_3, ↓ja_aload_3, ↓ja_istore_3, ↓ja_astore_3, ↓ja_kill_3, ↓ja_iinc_3, ↓ja_iload_4, ↓ja_aload_4, ↓ja_istore_4, ↓ja_astore_4, ↓ja_kill_4, ↓ja_iinc_4, ↓ja_iload_5, ↓ja_aload_5, ↓ja_istore_5, ↓ja_astore_5, ↓ja_kill_5, ↓ja_iinc_5, ↓ja_iload_6, ↓ja_aload_6, ↓ja_istore_6, ↓ja_astore_6, ↓ja_kill_6, ↓ja_iinc_6, ↓ja_iload_7, ↓ja_aload_7, ↓ja_istore_7, ↓ja_astore_7, ↓ja_kill_7, ↓ja_iinc_7, ↓ja_iload_8, ↓ja_aload_8, ↓ja_istore_8, ↓ja_astore_8, ↓ja_kill_8, ↓ja_iinc_8, ↓ja_iload_9, ↓ja_aload_9, ↓ja_istore_9, ↓ja_astore_9, ↓ja_kill_9, ↓ja_iinc_9, ↓ja_iload_10, ↓ja_aload_10, ↓ja_istore_10, ↓ja_astore_10, ↓ja_kill_10, ↓ja_iinc_10, ↓ja_iadd, ↓ja_isub, ↓ja_imul, ↓ja_dup, ↓ja_dup2, ↓ja_i2b, ↓ja_ifeq, ↓ja_ifne, ↓ja_iflt, ↓ja_ifge, ↓ja_ifgt, ↓ja_ifle, ↓ja_icmpeq, ↓ja_icmpne, ↓ja_icmplt, ↓ja_icmpge, ↓ja_icmpgt, ↓ja_icmple, ↓ja_ifnull_n, ↓ja_ifnull_s, ↓ja_ifnonnull_n, ↓ja_ifnonnull_s, ↓ja_iret, ↓ja_aret, ↓ja_vret, ↓ja_zret0, ↓ja_zret1, ↓ja_sw, ↓ja_pe, ↓ja_pn, ↓ja_pz, ↓reduceIte, ite_self, Int.reduceEq, Int.reduceLT, Int.reduceLE, Int.reduceNeg, Int.reduceToNat, jm_wr_id, pb_none, pb_int, pb_ref, ↓rw_obj, ca_g0, ca_g1, ca_g2, ca_g3, ca_g5, ca_g6, ca_g4n, ca_g4s, ca_p3, ca_p5, ca_p6, ca_p4n, ca_p4s, cs_g0, cs_g1, cs_g2, cs_g3, cs_g4, cs_g5, cs_g6, cs_g7, cs_g8, cs_p5, cs_p6, cs_p7, cs_p8, cd_g0, cd_g1, cd_g2, cd_g3, cd_g4, cd_g5, cd_g6, cd_g7, cd1_g0, cd1_g1, cd1_g2, cd1_g3, cd1_g4, cd1_g5, cd1_g6, cd1_g7, cd1_g8, cd1_g9, cd2_g0, cd2_g1, cd2_g2, cd2_g3, cd2_g4, cd2_g5, cd2_g6, cd2_g7, cd3_g0, cd3_g1, cd3_g2, cd3_g3, cd3_g4, cd3_g5, cd3_g6, cd3_g7, cd3_g8, cd3_g9, cd3_g10, cd4_g0, cd4_g1, cd4_g2, cd4_g3, cd4_g4, cd4_g5, cd4_g6, cd4_g7, cd4_g8, cd4_g9, cd4_g10, cd5_g0, cd5_g1, cd5_g2, cd5_g3, cd5_g4, cd5_g5, cd5_g6, cd5_g7, cd5_g8, cd5_g9, cd6_g0, cd6_g1, cd6_g2, cd6_g3, cd6_g4, cd6_g5, cd6_g6, cd6_g7, cd6_g8, cd7_g0, cd7_g1, cd7_g2, cd7_g3, cd7_g4, cd7_g5, cd7_g6, cd7_g7, cd7_g8, cd7_g9, cd7_g10, cd8_g0, cd8_g1, cd8_g2, cd8_g3, cd8_g4, cd8_g5, cd8_g6, cd8_g7, cd8_g9, cd8_g8a, cd8_g8b, cd_p2, cd_p3, cd_p5, cd_p7, cd1_p9, cd3_p10, cd4_p9, cd4_p10, cd5_p9, cd6_p8, cd7_p10, cd8_p9, cd8_p8a, cd8_p8b, ck_g0, ck_g1, ck_g2, ck_g3, ck_g4, ck_g5, ck_g6, ck_g7, ck_g8, ck_p5, ck_p6, ck_p7, ck_p8, cr2, cr4, cr5, cr10, cr11, cr12, cr6_5, cr6_6, cr6_9, cr6_11, cr7, cw5, cw6_5, cw6_6, cw6_9, cw6_11, cw7, cw12, cw4, cl2, cl4, cl5, cl12, cc_a0, cc_s0, cc_k0, cc_1_0, cc_2_0, cc_3_0, cc_4_0, cc_5_0, cc_6_0, cc_7_0, cc_8_0, cc_d0, cc_a1, cc_s1, cc_k1, cc_1_1, cc_2_1, cc_3_1, cc_4_1, cc_5_1, cc_6_1, cc_7_1, cc_8_1, cc_d1, cc_k2, cc_1_2, cc_2_2, cc_3_2, cc_4_2, cc_5_2, cc_6_2, cc_7_2, cc_8_2, cc_d2, cc_k3, cc_1_3, cc_2_3, cc_3_3, cc_4_3, cc_5_3, cc_6_3, cc_7_3, cc_8_3, cc_d3, cc_k4, cc_k5, pu_up_ne, pu_up_at, D1, c1, c2, if_true, if_false, ↓jk_fix_pos, kX11_device_b, kX11_device_0, kX11_device_19, kX11_device_39, Nat.reduceEqDiff]
      · by_cases c3 : x < (if k = 3 then 1 else 0)
        ·
          simp only [fX11_device, jm_run, List.length_cons, List.length_nil, Nat.reduceAdd, if_true, jm_init, List.map_cons, List.map_nil, Nat.reduceSub, List.replicate, List.cons_append, List.nil_append, kX11_device]
          simp (disch := first | omega | assumption | (simp only [List.length_cons, List.length_nil]; omega) | decide | (simp (disch := decide) only [pu_up_ne, pu_up_at]; first | omega | assumption)) only [↓ja_int, ↓ja_null, ↓ja_iload_0, ↓ja_aload_0, ↓ja_istore_0, ↓ja_astore_0, ↓ja_kill_0, ↓ja_iinc_0, ↓ja_iload_1, ↓ja_aload_1, ↓ja_istore_1, ↓ja_astore_1, ↓ja_kill_1, ↓ja_iinc_1, ↓ja_iload_2, ↓ja_aload_2, ↓ja_istore_2, ↓ja_astore_2, ↓ja_kill_2, ↓ja_iinc_2, ↓ja_iload_3, ↓ja_aload_3, ↓ja_istore_3, ↓ja_astore_3, ↓ja_kill_3, ↓ja_iinc_3, ↓ja_iload_4, ↓ja_aload_4, ↓ja_istore_4, ↓ja_astore_4, ↓ja_kill_4, ↓ja_iinc_4, ↓ja_iload_5, ↓ja_aload_5, ↓ja_istore_5, ↓ja_astore_5, ↓ja_kill_5, ↓ja_iinc_5, ↓ja_iload_6, ↓ja_aload_6, ↓ja_istore_6, ↓ja_astore_6, ↓ja_kill_6, ↓ja_iinc_6, ↓ja_iload_7, ↓ja_aload_7, ↓ja_istore_7, ↓ja_astore_7, ↓ja_kill_7, ↓ja_iinc_7, ↓ja_iload_8, ↓ja_aload_8, ↓ja_istore_8, ↓ja_astore_8, ↓ja_kill_8, ↓ja_iinc_8, ↓ja_iload_9, ↓ja_aload_9, ↓ja_istore_9, ↓ja_astore_9, ↓ja_kill_9, ↓ja_iinc_9, ↓ja_iload_10, ↓ja_aload_10, ↓ja_istore_10, ↓ja_astore_10, ↓ja_kill_10, ↓ja_iinc_10, ↓ja_iadd, ↓ja_isub, ↓ja_imul, ↓ja_dup, ↓ja_dup2, ↓ja_i2b, ↓ja_ifeq, ↓ja_ifne, ↓ja_iflt, ↓ja_ifge, ↓ja_ifgt, ↓ja_ifle, ↓ja_icmpeq, ↓ja_icmpne, ↓ja_icmplt, ↓ja_icmpge, ↓ja_icmpgt, ↓ja_icmple, ↓ja_ifnull_n, ↓ja_ifnull_s, ↓ja_ifnonnull_n, ↓ja_ifnonnull_s, ↓ja_iret, ↓ja_aret, ↓ja_vret, ↓ja_zret0, ↓ja_zret1, ↓ja_sw, ↓ja_pe, ↓ja_pn, ↓ja_pz, ↓reduceIte, ite_self, Int.reduceEq, Int.reduceLT, Int.reduceLE, Int.reduceNeg, Int.reduceToNat, jm_wr_id, pb_none, pb_int, pb_ref, ↓rw_obj, ca_g0, ca_g1, ca_g2, ca_g3, ca_g5, ca_g6, ca_g4n, ca_g4s, ca_p3, ca_p5, ca_p6, ca_p4n, ca_p4s, cs_g0, cs_g1, cs_g2, cs_g3, cs_g4, cs_g5, cs_g6, cs_g7, cs_g8, cs_p5, cs_p6, cs_p7, cs_p8, cd_g0, cd_g1, cd_g2, cd_g3, cd_g4, cd_g5, cd_g6, cd_g7, cd1_g0, cd1_g1, cd1_g2, cd1_g3, cd1_g4, cd1_g5, cd1_g6, cd1_g7, cd1_g8, cd1_g9, cd2_g0, cd2_g1, cd2_g2, cd2_g3, cd2_g4, cd2_g5, cd2_g6, cd2_g7, cd3_g0, cd3_g1, cd3_g2, cd3_g3, cd3_g4, cd3_g5, cd3_g6, cd3_g7, cd3_g8, cd3_g9, cd3_g10, cd4_g0, cd4_g1, cd4_g2, cd4_g3, cd4_g4, cd4_g5, cd4_g6, cd4_g7, cd4_g8, cd4_g9, cd4_g10, cd5_g0, cd5_g1, cd5_g2, cd5_g3, cd5_g4, cd5_g5, cd5_g6, cd5_g7, cd5_g8, cd5_g9, cd6_g0, cd6_g1, cd6_g2, cd6_g3, cd6_g4, cd6_g5, cd6_g6, cd6_g7, cd6_g8, cd7_g0, cd7_g1, cd7_g2, cd7_g3, cd7_g4, cd7_g5, cd7_g6, cd7_g7, cd7_g8, cd7_g9, cd7_g10, cd8_g0, cd8_g1, cd8_g2, cd8_g3, cd8_g4, cd8_g5, cd8_g6, cd8_g7, cd8_g9, cd8_g8a, cd8_g8b, cd_p2, cd_p3, cd_p5, cd_p7, cd1_p9, cd3_p10, cd4_p9, cd4_p10, cd5_p9, cd6_p8, cd7_p10, cd8_p9, cd8_p8a, cd8_p8b, ck_g0, ck_g1, ck_g2, ck_g3, ck_g4, ck_g5, ck_g6, ck_g7, ck_g8, ck_p5, ck_p6, ck_p7, ck_p8, cr2, cr4, cr5, cr10, cr11, cr12, cr6_5, cr6_6, cr6_9, cr6_11, cr7, cw5, cw6_5, cw6_6, cw6_9, cw6_11, cw7, cw12, cw4, cl2, cl4, cl5, cl12, cc_a0, cc_s0, cc_k0, cc_1_0, cc_2_0, cc_3_0, cc_4_0, cc_5_0, cc_6_0, cc_7_0, cc_8_0, cc_d0, cc_a1, cc_s1, cc_k1, cc_1_1, cc_2_1, cc_3_1, cc_4_1, cc_5_1, cc_6_1, cc_7_1, cc_8_1, cc_d1, cc_k2, cc_1_2, cc_2_2, cc_3_2, cc_4_2, cc_5_2, cc_6_2, cc_7_2, cc_8_2, cc_d2, cc_k3, cc_1_3, cc_2_3, cc_3_3, cc_4_3, cc_5_3, cc_6_3, cc_7_3, cc_8_3, cc_d3, cc_k4, cc_k5, pu_up_ne, pu_up_at, D1, c1, c2, c3, ↓t1, ↓t2, ↓t3, ↓t4, if_true, if_false, ↓jk_fix_pos, kX11_device_b, kX11_device_0, kX11_device_19, kX11_device_39, Nat.reduceEqDiff]
        · by_cases c4 : p_most k < x
          ·
            simp only [fX11_device, jm_run, List.length_cons, List.length_nil, Nat.reduceAdd, if_true, jm_init, List.map_cons, List.map_nil, Nat.reduceSub, List.replicate, List.cons_append, List.nil_append, kX11_device]
            simp (disch := first | omega | assumption | (simp only [List.length_cons, List.length_nil]; omega) | decide | (simp (disch := decide) only [pu_up_ne, pu_up_at]; first | omega | assumption)) only [↓ja_int, ↓ja_null, ↓ja_iload_0, ↓ja_aload_0, ↓ja_istore_0, ↓ja_astore_0, ↓ja_kill_0, ↓ja_iinc_0, ↓ja_iload_1, ↓ja_aload_1, ↓ja_istore_1, ↓ja_astore_1, ↓ja_kill_1, ↓ja_iinc_1, ↓ja_iload_2, ↓ja_aload_2, ↓ja_istore_2, ↓ja_astore_2, ↓ja_kill_2, ↓ja_iinc_2, ↓ja_iload_3, ↓ja_aload_3, ↓ja_istore_3, ↓ja_astore_3, ↓ja_kill_3, ↓ja_iinc_3, ↓ja_iload_4, ↓ja_aload_4, ↓ja_istore_4, ↓ja_astore_4, ↓ja_kill_4, ↓ja_iinc_4, ↓ja_iload_5, ↓ja_aload_5, ↓ja_istore_5, ↓ja_astore_5, ↓ja_kill_5, ↓ja_iinc_5, ↓ja_iload_6, ↓ja_aload_6, ↓ja_istore_6, ↓ja_astore_6, ↓ja_kill_6, ↓ja_iinc_6, ↓ja_iload_7, ↓ja_aload_7, ↓ja_istore_7, ↓ja_astore_7, ↓ja_kill_7, ↓ja_iinc_7, ↓ja_iload_8, ↓ja_aload_8, ↓ja_istore_8, ↓ja_astore_8, ↓ja_kill_8, ↓ja_iinc_8, ↓ja_iload_9, ↓ja_aload_9, ↓ja_istore_9, ↓ja_astore_9, ↓ja_kill_9, ↓ja_iinc_9, ↓ja_iload_10, ↓ja_aload_10, ↓ja_istore_10, ↓ja_astore_10, ↓ja_kill_10, ↓ja_iinc_10, ↓ja_iadd, ↓ja_isub, ↓ja_imul, ↓ja_dup, ↓ja_dup2, ↓ja_i2b, ↓ja_ifeq, ↓ja_ifne, ↓ja_iflt, ↓ja_ifge, ↓ja_ifgt, ↓ja_ifle, ↓ja_icmpeq, ↓ja_icmpne, ↓ja_icmplt, ↓ja_icmpge, ↓ja_icmpgt, ↓ja_icmple, ↓ja_ifnull_n, ↓ja_ifnull_s, ↓ja_ifnonnull_n, ↓ja_ifnonnull_s, ↓ja_iret, ↓ja_aret, ↓ja_vret, ↓ja_zret0, ↓ja_zret1, ↓ja_sw, ↓ja_pe, ↓ja_pn, ↓ja_pz, ↓reduceIte, ite_self, Int.reduceEq, Int.reduceLT, Int.reduceLE, Int.reduceNeg, Int.reduceToNat, jm_wr_id, pb_none, pb_int, pb_ref, ↓rw_obj, ca_g0, ca_g1, ca_g2, ca_g3, ca_g5, ca_g6, ca_g4n, ca_g4s, ca_p3, ca_p5, ca_p6, ca_p4n, ca_p4s, cs_g0, cs_g1, cs_g2, cs_g3, cs_g4, cs_g5, cs_g6, cs_g7, cs_g8, cs_p5, cs_p6, cs_p7, cs_p8, cd_g0, cd_g1, cd_g2, cd_g3, cd_g4, cd_g5, cd_g6, cd_g7, cd1_g0, cd1_g1, cd1_g2, cd1_g3, cd1_g4, cd1_g5, cd1_g6, cd1_g7, cd1_g8, cd1_g9, cd2_g0, cd2_g1, cd2_g2, cd2_g3, cd2_g4, cd2_g5, cd2_g6, cd2_g7, cd3_g0, cd3_g1, cd3_g2, cd3_g3, cd3_g4, cd3_g5, cd3_g6, cd3_g7, cd3_g8, cd3_g9, cd3_g10, cd4_g0, cd4_g1, cd4_g2, cd4_g3, cd4_g4, cd4_g5, cd4_g6, cd4_g7, cd4_g8, cd4_g9, cd4_g10, cd5_g0, cd5_g1, cd5_g2, cd5_g3, cd5_g4, cd5_g5, cd5_g6, cd5_g7, cd5_g8, cd5_g9, cd6_g0, cd6_g1, cd6_g2, cd6_g3, cd6_g4, cd6_g5, cd6_g6, cd6_g7, cd6_g8, cd7_g0, cd7_g1, cd7_g2, cd7_g3, cd7_g4, cd7_g5, cd7_g6, cd7_g7, cd7_g8, cd7_g9, cd7_g10, cd8_g0, cd8_g1, cd8_g2, cd8_g3, cd8_g4, cd8_g5, cd8_g6, cd8_g7, cd8_g9, cd8_g8a, cd8_g8b, cd_p2, cd_p3, cd_p5, cd_p7, cd1_p9, cd3_p10, cd4_p9, cd4_p10, cd5_p9, cd6_p8, cd7_p10, cd8_p9, cd8_p8a, cd8_p8b, ck_g0, ck_g1, ck_g2, ck_g3, ck_g4, ck_g5, ck_g6, ck_g7, ck_g8, ck_p5, ck_p6, ck_p7, ck_p8, cr2, cr4, cr5, cr10, cr11, cr12, cr6_5, cr6_6, cr6_9, cr6_11, cr7, cw5, cw6_5, cw6_6, cw6_9, cw6_11, cw7, cw12, cw4, cl2, cl4, cl5, cl12, cc_a0, cc_s0, cc_k0, cc_1_0, cc_2_0, cc_3_0, cc_4_0, cc_5_0, cc_6_0, cc_7_0, cc_8_0, cc_d0, cc_a1, cc_s1, cc_k1, cc_1_1, cc_2_1, cc_3_1, cc_4_1, cc_5_1, cc_6_1, cc_7_1, cc_8_1, cc_d1, cc_k2, cc_1_2, cc_2_2, cc_3_2, cc_4_2, cc_5_2, cc_6_2, cc_7_2, cc_8_2, cc_d2, cc_k3, cc_1_3, cc_2_3, cc_3_3, cc_4_3, cc_5_3, cc_6_3, cc_7_3, cc_8_3, cc_d3, cc_k4, cc_k5, pu_up_ne, pu_up_at, D1, c1, c2, c3, c4, ↓t1, ↓t2, ↓t3, ↓t4, if_true, if_false, ↓jk_fix_pos, kX11_device_b, kX11_device_0, kX11_device_19, kX11_device_39, Nat.reduceEqDiff]
          · exact absurd ⟨cD, ⟨by omega, by omega⟩, by omega, by omega⟩ no
