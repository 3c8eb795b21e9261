/-! a device is born -/
theorem arr_z {n : Nat} {f : Int → jV} (h : ∀ j : Nat, j < n → f j = .inl 0) : pu_arr n f = fun _ => .inl 0 := by
  funext j
  unfold pu_arr
  split
  · rename_i hj
    exact h j hj
  · rfl
theorem cell_4 {ad : Nat → Int → Nat} {κ σ : aS} {d : Int} (z : ∀ j : Nat, j < 16 → κ 22 (16 * d + j) = -1) : pu_cell ad κ σ 4 d = (25, 16, fun _ => .inr none) := by
  simp only [pu_cell, Nat.reduceEqDiff, if_false, if_true]
  congr 2
  funext j
  by_cases c : j < 16
  · rw [if_pos c, z j c, if_pos (by decide)]
  · rw [if_neg c]
theorem cell_5 {ad : Nat → Int → Nat} {κ σ : aS} {d : Int} (z : ∀ j : Nat, j < 300 → κ 33 (300 * d + j) = 0) : pu_cell ad κ σ 5 d = (20, 300, fun _ => .inl 0) := by
  simp only [pu_cell, Nat.reduceEqDiff, if_false, if_true]
  rw [arr_z (fun j hj => by rw [z j hj])]
theorem cell_7 {ad : Nat → Int → Nat} {κ σ : aS} {d : Int} (z : ∀ j : Nat, j < 16 → κ 31 (16 * d + j) = 0) : pu_cell ad κ σ 7 d = (21, 16, fun _ => .inl 0) := by
  simp only [pu_cell, Nat.reduceEqDiff, if_false, if_true]
  rw [arr_z (fun j hj => by rw [z j hj])]
theorem cell_3 {ad : Nat → Int → Nat} {κ σ : aS} {d : Int} {tg : Nat} (ht : pu_tag (κ 18 d) = tg) : pu_cell ad κ σ 3 d = (tg, pu_nf tg, pu_dev ad κ d) := by
  simp only [pu_cell, Nat.reduceEqDiff, if_false, if_true]
  rw [ht]
set_option maxHeartbeats 4000000 in
theorem mk_dev0 {n : Nat} {h : jH} {ad : Nat → Int → Nat} {κ σ : aS} {d x : Int} (hn : 10 ≤ n) (e18 : κ 18 d = 0) (e24 : κ 24 d = x) (a4 : ad 4 d = h.2.1 + 1) (a5 : ad 5 d = h.2.1 + 2) (a6 : ad 6 d = h.2.1 + 3) (a7 : ad 7 d = h.2.1 + 4) (e19 : κ 19 d = x) (e20 : κ 20 d = 0) (e21 : κ 21 d = 0) (e23 : κ 23 d = 0) (e25 : κ 25 d = 0) (e26 : κ 26 d = -1) (e27 : κ 27 d = 0) (e34 : κ 34 d = 0) (e43 : κ 43 d = 0) (z22 : ∀ j : Nat, j < 16 → κ 22 (16 * d + j) = -1) (z33 : ∀ j : Nat, j < 300 → κ 33 (300 * d + j) = 0) (z16 : ∀ (c j : Nat), j < 16 → c = 29 ∨ c = 30 ∨ c = 31 ∨ c = 42 → κ c (16 * d + j) = 0) (z32 : ∀ j : Nat, j < 8 → κ 32 (8 * d + j) = 0) : ∃ (z : jH) (m : Nat), fX11_makeDevice n [.inl 0, .inl d, .inl x] h = some (some (.inr (some h.2.1)), z) ∧ 3 ≤ m ∧ m ≤ 5 ∧ (κ 18 d = 5 ∨ κ 18 d = 6 ∨ κ 18 d = 9 ∨ κ 18 d = 11 → 4 ≤ m) ∧ (κ 18 d = 9 → m = 5) ∧ (∀ r : Nat, r < m → z.1 (h.2.1 + r) = some (pu_cell ad κ σ (r + 3) d)) ∧ (∀ b, (b < h.2.1 ∨ h.2.1 + m ≤ b) → z.1 b = h.1 b) ∧ z.2.1 = h.2.1 + m ∧ z.2.2 ≤ h.2.2 + 400 := by
  have tg : pu_tag (κ 18 d) = 6 := by rw [e18]; rfl
  obtain ⟨h1, eh1⟩ : ∃ z : jH, z = jm_new h (6, 9, fun j => if j ∈ [4, 6] then .inr none else .inl 0) := ⟨_, rfl⟩
  have q1 : h1.1 h.2.1 = some (6, 9, fun j => if j ∈ [4, 6] then .inr none else .inl 0) := by rw [eh1]; exact nw_at
  have s11 : h1.2.1 = h.2.1 + 1 := by rw [eh1, nw_2]
  have s12 : h1.2.2 = h.2.2 + 9 := by rw [eh1, nw_2]
  have u1 : ∀ b, b ≠ h.2.1 → h1.1 b = h.1 b := fun b hb => by rw [eh1]; exact nw_ne hb
  have nn : ∀ {kk : jK} {LL : List (Option jV)} {SS : List jV}, jk_new 6 9 [4, 6] kk LL SS h = kk LL (.inr (some h.2.1) :: SS) h1 := fun {kk LL SS} => by rw [eh1]; exact rw_new
  obtain ⟨h2, c2, q2, l2, m2, o2, s2⟩ := k_init7 (n := n) (d := d) (x := x) (k := 0) q1 (by omega)
  rw [s11] at q2 l2 m2 o2 s2
  rw [s12] at s2
  refine ⟨h2, 3, ?_, by decide, by decide, fun z => ?_, fun z => ?_, fun r hr => ?_, fun b hb => ?_, by rw [s2], by rw [s2]; show h.2.2 + _ + _ ≤ _; omega⟩
  · simp only [fX11_makeDevice, jm_run, List.length_cons, List.length_nil, Nat.reduceAdd, if_true, jm_init, List.map_cons, List.map_nil, Nat.reduceSub, List.replicate, List.cons_append, List.nil_append, kX11_makeDevice]
    simp (disch := first | omega | assumption | (simp only [List.length_cons, List.length_nil]; omega) | decide | (simp (disch := decide) only [pu_up_ne, pu_up_at]; first | omega | assumption)) only [↓ja_int, ↓ja_null, ↓ja_iload_0, ↓ja_aload_0, ↓ja_istore_0, ↓ja_astore_0, ↓ja_kill_0, ↓ja_iinc_0, ↓ja_iload_1, ↓ja_aload_1, ↓ja_istore_1, ↓ja_astore_1, ↓ja_kill_1, ↓ja_iinc_1, ↓ja_iload_2, ↓ja_aload_2, ↓ja_istore_2, ↓ja_astore_2, ↓ja_kill_2, ↓ja_iinc_2, ↓ja_iload_3, ↓ja_aload_3, ↓ja_istore_3, ↓ja_astore_3, ↓ja_kill_3, ↓ja_iinc_3, ↓ja_iload_4, ↓ja_aload_4, ↓ja_istore_4, ↓ja_astore_4, ↓ja_kill_4, ↓ja_iinc_4, ↓ja_iload_5, ↓ja_aload_5, ↓ja_istore_5, ↓ja_astore_5, ↓ja_kill_5, ↓ja_iinc_5, ↓ja_iload_6, ↓ja_aload_6, ↓ja_istore_6, ↓ja_astore_6, ↓ja_kill_6, ↓ja_iinc_6, ↓ja_iload_7, ↓ja_aload_7, ↓ja_istore_7, ↓ja_astore_7, ↓ja_kill_7, ↓ja_iinc_7, ↓ja_iload_8, ↓ja_aload_8, ↓ja_istore_8, ↓ja_astore_8, ↓ja_kill_8, ↓ja_iinc_8, ↓ja_iload_9, ↓ja_aload_9, ↓ja_istore_9, ↓ja_astore_9, ↓ja_kill_9, ↓ja_iinc_9, ↓ja_iload_10, ↓ja_aload_10, ↓ja_istore_10, ↓ja_astore_10, ↓ja_kill_10, ↓ja_iinc_10, ↓ja_iadd, ↓ja_isub, ↓ja_imul, ↓ja_dup, ↓ja_dup2, ↓ja_i2b, ↓ja_ifeq, ↓ja_ifne, ↓ja_iflt, ↓ja_ifge, ↓ja_ifgt, ↓ja_ifle, ↓ja_icmpeq, ↓ja_icmpne, ↓ja_icmplt, ↓ja_icmpge, ↓ja_icmpgt, ↓ja_icmple, ↓ja_ifnull_n, ↓ja_ifnull_s, ↓ja_ifnonnull_n, ↓ja_ifnonnull_s, ↓ja_iret, ↓ja_aret, ↓ja_vret, ↓ja_zret0, ↓ja_zret1, ↓ja_sw, ↓ja_pe, ↓ja_pn, ↓ja_pz, ↓reduceIte, ite_self, Int.reduceEq, Int.reduceLT, Int.reduceLE, Int.reduceNeg, Int.reduceToNat, jm_wr_id, pb_none, pb_int, pb_ref, ↓rw_obj, ↓nn, ↓rw_ic3, c2, if_true, if_false, ↓jk_fix_pos, kX11_makeDevice_b, kX11_makeDevice_0, kX11_makeDevice_64, kX11_makeDevice_131, Nat.reduceEqDiff]
  · rw [e18] at z
    omega
  · rw [e18] at z
    omega
  · rcases (show r = 0 ∨ r = 1 ∨ r = 2 by omega) with rfl | rfl | rfl
    · rw [Nat.add_zero, q2, show 0 + 3 = 3 by rfl, cell_3 tg]
      show _ = some (6, 9, pu_dev ad κ d)
      congr 3
      funext j
      simp only [jm_upd, pu_dev, pu_own, tg, a4, a5, a6, a7, e18, e19, e20, e21, e23, e24, e25, e26, e27, e34, e43]
      rcases (show j = 0 ∨ j = 1 ∨ j = 2 ∨ j = 3 ∨ j = 4 ∨ j = 5 ∨ j = 6 ∨ j = 7 ∨ j = 8 ∨ j = 9 ∨ j = 10 ∨ 11 ≤ j by omega) with rfl | rfl | rfl | rfl | rfl | rfl | rfl | rfl | rfl | rfl | rfl | hj
      · rfl
      · rfl
      · rfl
      · rfl
      · rfl
      · rfl
      · rfl
      · rfl
      · rfl
      · rfl
      · rfl
      · simp [show j ≠ 0 by omega, show j ≠ 1 by omega, show j ≠ 2 by omega, show j ≠ 3 by omega, show j ≠ 4 by omega, show j ≠ 5 by omega, show j ≠ 6 by omega, show j ≠ 7 by omega, show j ≠ 8 by omega, show j ≠ 9 by omega, show j ≠ 10 by omega]
    · rw [l2, show 1 + 3 = 4 by rfl, cell_4 z22]
    · rw [show h.2.1 + 2 = h.2.1 + 1 + 1 by rfl, m2, show 2 + 3 = 5 by rfl, cell_5 z33]
  · rw [o2 b (by omega) (by omega), u1 b (by omega)]
set_option maxHeartbeats 4000000 in
theorem mk_dev1 {n : Nat} {h : jH} {ad : Nat → Int → Nat} {κ σ : aS} {d x : Int} (hn : 10 ≤ n) (e18 : κ 18 d = 1) (e24 : κ 24 d = x) (a4 : ad 4 d = h.2.1 + 1) (a5 : ad 5 d = h.2.1 + 2) (a6 : ad 6 d = h.2.1 + 3) (a7 : ad 7 d = h.2.1 + 4) (e19 : κ 19 d = x) (e20 : κ 20 d = 0) (e21 : κ 21 d = 0) (e23 : κ 23 d = 0) (e25 : κ 25 d = 0) (e26 : κ 26 d = -1) (e27 : κ 27 d = 0) (e34 : κ 34 d = 0) (e43 : κ 43 d = 0) (z22 : ∀ j : Nat, j < 16 → κ 22 (16 * d + j) = -1) (z33 : ∀ j : Nat, j < 300 → κ 33 (300 * d + j) = 0) (z16 : ∀ (c j : Nat), j < 16 → c = 29 ∨ c = 30 ∨ c = 31 ∨ c = 42 → κ c (16 * d + j) = 0) (z32 : ∀ j : Nat, j < 8 → κ 32 (8 * d + j) = 0) : ∃ (z : jH) (m : Nat), fX11_makeDevice n [.inl 1, .inl d, .inl x] h = some (some (.inr (some h.2.1)), z) ∧ 3 ≤ m ∧ m ≤ 5 ∧ (κ 18 d = 5 ∨ κ 18 d = 6 ∨ κ 18 d = 9 ∨ κ 18 d = 11 → 4 ≤ m) ∧ (κ 18 d = 9 → m = 5) ∧ (∀ r : Nat, r < m → z.1 (h.2.1 + r) = some (pu_cell ad κ σ (r + 3) d)) ∧ (∀ b, (b < h.2.1 ∨ h.2.1 + m ≤ b) → z.1 b = h.1 b) ∧ z.2.1 = h.2.1 + m ∧ z.2.2 ≤ h.2.2 + 400 := by
  have tg : pu_tag (κ 18 d) = 6 := by rw [e18]; rfl
  obtain ⟨h1, eh1⟩ : ∃ z : jH, z = jm_new h (6, 9, fun j => if j ∈ [4, 6] then .inr none else .inl 0) := ⟨_, rfl⟩
  have q1 : h1.1 h.2.1 = some (6, 9, fun j => if j ∈ [4, 6] then .inr none else .inl 0) := by rw [eh1]; exact nw_at
  have s11 : h1.2.1 = h.2.1 + 1 := by rw [eh1, nw_2]
  have s12 : h1.2.2 = h.2.2 + 9 := by rw [eh1, nw_2]
  have u1 : ∀ b, b ≠ h.2.1 → h1.1 b = h.1 b := fun b hb => by rw [eh1]; exact nw_ne hb
  have nn : ∀ {kk : jK} {LL : List (Option jV)} {SS : List jV}, jk_new 6 9 [4, 6] kk LL SS h = kk LL (.inr (some h.2.1) :: SS) h1 := fun {kk LL SS} => by rw [eh1]; exact rw_new
  obtain ⟨h2, c2, q2, l2, m2, o2, s2⟩ := k_init7 (n := n) (d := d) (x := x) (k := 1) q1 (by omega)
  rw [s11] at q2 l2 m2 o2 s2
  rw [s12] at s2
  refine ⟨h2, 3, ?_, by decide, by decide, fun z => ?_, fun z => ?_, fun r hr => ?_, fun b hb => ?_, by rw [s2], by rw [s2]; show h.2.2 + _ + _ ≤ _; omega⟩
  · simp only [fX11_makeDevice, jm_run, List.length_cons, List.length_nil, Nat.reduceAdd, if_true, jm_init, List.map_cons, List.map_nil, Nat.reduceSub, List.replicate, List.cons_append, List.nil_append, kX11_makeDevice]
    simp (disch := first | omega | assumption | (simp only [List.length_cons, List.length_nil]; omega) | decide | (simp (disch := decide) only [pu_up_ne, pu_up_at]; first | omega | assumption)) only [↓ja_int, ↓ja_null, ↓ja_iload_0, ↓ja_aload_0, ↓ja_istore_0, ↓ja_astore_0, ↓ja_kill_0, ↓ja_iinc_0, ↓ja_iload_1, ↓ja_aload_1, ↓ja_istore_1, ↓ja_astore_1, ↓ja_kill_1, ↓ja_iinc_1, ↓ja_iload_2, ↓ja_aload_2, ↓ja_istore_2, ↓ja_astore_2, ↓ja_kill_2, ↓ja_iinc_2, ↓ja_iload_3, ↓ja_aload_3, ↓ja_istore_3, ↓ja_astore_3, ↓ja_kill_3, ↓ja_iinc_3, ↓ja_iload_4, ↓ja_aload_4, ↓ja_istore_4, ↓ja_astore_4, ↓ja_kill_4, ↓ja_iinc_4, ↓ja_iload_5, ↓ja_aload_5, ↓ja_istore_5, ↓ja_astore_5, ↓ja_kill_5, ↓ja_iinc_5, ↓ja_iload_6, ↓ja_aload_6, ↓ja_istore_6, ↓ja_astore_6, ↓ja_kill_6, ↓ja_iinc_6, ↓ja_iload_7, ↓ja_aload_7, ↓ja_istore_7, ↓ja_astore_7, ↓ja_kill_7, ↓ja_iinc_7, ↓ja_iload_8, ↓ja_aload_8, ↓ja_istore_8, ↓ja_astore_8, ↓ja_kill_8, ↓ja_iinc_8, ↓ja_iload_9, ↓ja_aload_9, ↓ja_istore_9, ↓ja_astore_9, ↓ja_kill_9, ↓ja_iinc_9, ↓ja_iload_10, ↓ja_aload_10, ↓ja_istore_10, ↓ja_astore_10, ↓ja_kill_10, ↓ja_iinc_10, ↓ja_iadd, ↓ja_isub, ↓ja_imul, ↓ja_dup, ↓ja_dup2, ↓ja_i2b, ↓ja_ifeq, ↓ja_ifne, ↓ja_iflt, ↓ja_ifge, ↓ja_ifgt, ↓ja_ifle, ↓ja_icmpeq, ↓ja_icmpne, ↓ja_icmplt, ↓ja_icmpge, ↓ja_icmpgt, ↓ja_icmple, ↓ja_ifnull_n, ↓ja_ifnull_s, ↓ja_ifnonnull_n, ↓ja_ifnonnull_s, ↓ja_iret, ↓ja_aret, ↓ja_vret, ↓ja_zret0, ↓ja_zret1, ↓ja_sw, ↓ja_pe, ↓ja_pn, ↓ja_pz, ↓reduceIte, ite_self, Int.reduceEq, Int.reduceLT, Int.reduceLE, Int.reduceNeg, Int.reduceToNat, jm_wr_id, pb_none, pb_int, pb_ref, ↓rw_obj, ↓nn, ↓rw_ic3, c2, if_true, if_false, ↓jk_fix_pos, kX11_makeDevice_b, kX11_makeDevice_0, kX11_makeDevice_64, kX11_makeDevice_131, Nat.reduceEqDiff]
  · rw [e18] at z
    omega
  · rw [e18] at z
    omega
  · rcases (show r = 0 ∨ r = 1 ∨ r = 2 by omega) with rfl | rfl | rfl
    · rw [Nat.add_zero, q2, show 0 + 3 = 3 by rfl, cell_3 tg]
      show _ = some (6, 9, pu_dev ad κ d)
      congr 3
      funext j
      simp only [jm_upd, pu_dev, pu_own, tg, a4, a5, a6, a7, e18, e19, e20, e21, e23, e24, e25, e26, e27, e34, e43]
      rcases (show j = 0 ∨ j = 1 ∨ j = 2 ∨ j = 3 ∨ j = 4 ∨ j = 5 ∨ j = 6 ∨ j = 7 ∨ j = 8 ∨ j = 9 ∨ j = 10 ∨ 11 ≤ j by omega) with rfl | rfl | rfl | rfl | rfl | rfl | rfl | rfl | rfl | rfl | rfl | hj
      · rfl
      · rfl
      · rfl
      · rfl
      · rfl
      · rfl
      · rfl
      · rfl
      · rfl
      · rfl
      · rfl
      · simp [show j ≠ 0 by omega, show j ≠ 1 by omega, show j ≠ 2 by omega, show j ≠ 3 by omega, show j ≠ 4 by omega, show j ≠ 5 by omega, show j ≠ 6 by omega, show j ≠ 7 by omega, show j ≠ 8 by omega, show j ≠ 9 by omega, show j ≠ 10 by omega]
    · rw [l2, show 1 + 3 = 4 by rfl, cell_4 z22]
    · rw [show h.2.1 + 2 = h.2.1 + 1 + 1 by rfl, m2, show 2 + 3 = 5 by rfl, cell_5 z33]
  · rw [o2 b (by omega) (by omega), u1 b (by omega)]
set_option maxHeartbeats 4000000 in
theorem mk_dev2 {n : Nat} {h : jH} {ad : Nat → Int → Nat} {κ σ : aS} {d x : Int} (hn : 10 ≤ n) (e18 : κ 18 d = 2) (e24 : κ 24 d = x) (a4 : ad 4 d = h.2.1 + 1) (a5 : ad 5 d = h.2.1 + 2) (a6 : ad 6 d = h.2.1 + 3) (a7 : ad 7 d = h.2.1 + 4) (e19 : κ 19 d = x) (e20 : κ 20 d = 0) (e21 : κ 21 d = 0) (e23 : κ 23 d = 0) (e25 : κ 25 d = 0) (e26 : κ 26 d = -1) (e27 : κ 27 d = 0) (e34 : κ 34 d = 0) (e43 : κ 43 d = 0) (z22 : ∀ j : Nat, j < 16 → κ 22 (16 * d + j) = -1) (z33 : ∀ j : Nat, j < 300 → κ 33 (300 * d + j) = 0) (z16 : ∀ (c j : Nat), j < 16 → c = 29 ∨ c = 30 ∨ c = 31 ∨ c = 42 → κ c (16 * d + j) = 0) (z32 : ∀ j : Nat, j < 8 → κ 32 (8 * d + j) = 0) : ∃ (z : jH) (m : Nat), fX11_makeDevice n [.inl 2, .inl d, .inl x] h = some (some (.inr (some h.2.1)), z) ∧ 3 ≤ m ∧ m ≤ 5 ∧ (κ 18 d = 5 ∨ κ 18 d = 6 ∨ κ 18 d = 9 ∨ κ 18 d = 11 → 4 ≤ m) ∧ (κ 18 d = 9 → m = 5) ∧ (∀ r : Nat, r < m → z.1 (h.2.1 + r) = some (pu_cell ad κ σ (r + 3) d)) ∧ (∀ b, (b < h.2.1 ∨ h.2.1 + m ≤ b) → z.1 b = h.1 b) ∧ z.2.1 = h.2.1 + m ∧ z.2.2 ≤ h.2.2 + 400 := by
  have tg : pu_tag (κ 18 d) = 8 := by rw [e18]; rfl
  obtain ⟨h1, eh1⟩ : ∃ z : jH, z = jm_new h (8, 10, fun j => if j ∈ [4, 6] then .inr none else .inl 0) := ⟨_, rfl⟩
  have q1 : h1.1 h.2.1 = some (8, 10, fun j => if j ∈ [4, 6] then .inr none else .inl 0) := by rw [eh1]; exact nw_at
  have s11 : h1.2.1 = h.2.1 + 1 := by rw [eh1, nw_2]
  have s12 : h1.2.2 = h.2.2 + 10 := by rw [eh1, nw_2]
  have u1 : ∀ b, b ≠ h.2.1 → h1.1 b = h.1 b := fun b hb => by rw [eh1]; exact nw_ne hb
  have nn : ∀ {kk : jK} {LL : List (Option jV)} {SS : List jV}, jk_new 8 10 [4, 6] kk LL SS h = kk LL (.inr (some h.2.1) :: SS) h1 := fun {kk LL SS} => by rw [eh1]; exact rw_new
  obtain ⟨h2, c2, q2, l2, m2, o2, s2⟩ := k_init9 (n := n) (d := d) (x := x) (k := 2) q1 (by omega)
  rw [s11] at q2 l2 m2 o2 s2
  rw [s12] at s2
  refine ⟨h2, 3, ?_, by decide, by decide, fun z => ?_, fun z => ?_, fun r hr => ?_, fun b hb => ?_, by rw [s2], by rw [s2]; show h.2.2 + _ + _ ≤ _; omega⟩
  · simp only [fX11_makeDevice, jm_run, List.length_cons, List.length_nil, Nat.reduceAdd, if_true, jm_init, List.map_cons, List.map_nil, Nat.reduceSub, List.replicate, List.cons_append, List.nil_append, kX11_makeDevice]
    simp (disch := first | omega | assumption | (simp only [List.length_cons, List.length_nil]; omega) | decide | (simp (disch := decide) only [pu_up_ne, pu_up_at]; first | omega | assumption)) only [↓ja_int, ↓ja_null, ↓ja_iload_0, ↓ja_aload_0, ↓ja_istore_0, ↓ja_astore_0, ↓ja_kill_0, ↓ja_iinc_0, ↓ja_iload_1, ↓ja_aload_1, ↓ja_istore_1, ↓ja_astore_1, ↓ja_kill_1, ↓ja_iinc_1, ↓ja_iload_2, ↓ja_aload_2, ↓ja_istore_2, ↓ja_astore_2, ↓ja_kill_2, ↓ja_iinc_2, ↓ja_iload_3, ↓ja_aload_3, ↓ja_istore_3, ↓ja_astore_3, ↓ja_kill_3, ↓ja_iinc_3, ↓ja_iload_4, ↓ja_aload_4, ↓ja_istore_4, ↓ja_astore_4, ↓ja_kill_4, ↓ja_iinc_4, ↓ja_iload_5, ↓ja_aload_5, ↓ja_istore_5, ↓ja_astore_5, ↓ja_kill_5, ↓ja_iinc_5, ↓ja_iload_6, ↓ja_aload_6, ↓ja_istore_6, ↓ja_astore_6, ↓ja_kill_6, ↓ja_iinc_6, ↓ja_iload_7, ↓ja_aload_7, ↓ja_istore_7, ↓ja_astore_7, ↓ja_kill_7, ↓ja_iinc_7, ↓ja_iload_8, ↓ja_aload_8, ↓ja_istore_8, ↓ja_astore_8, ↓ja_kill_8, ↓ja_iinc_8, ↓ja_iload_9, ↓ja_aload_9, ↓ja_istore_9, ↓ja_astore_9, ↓ja_kill_9, ↓ja_iinc_9, ↓ja_iload_10, ↓ja_aload_10, ↓ja_istore_10, ↓ja_astore_10, ↓ja_kill_10, ↓ja_iinc_10, ↓ja_iadd, ↓ja_isub, ↓ja_imul, ↓ja_dup, ↓ja_dup2, ↓ja_i2b, ↓ja_ifeq, ↓ja_ifne, ↓ja_iflt, ↓ja_ifge, ↓ja_ifgt, ↓ja_ifle, ↓ja_icmpeq, ↓ja_icmpne, ↓ja_icmplt, ↓ja_icmpge, ↓ja_icmpgt, ↓ja_icmple, ↓ja_ifnull_n, ↓ja_ifnull_s, ↓ja_ifnonnull_n, ↓ja_ifnonnull_s, ↓ja_iret, ↓ja_aret, ↓ja_vret, ↓ja_zret0, ↓ja_zret1, ↓ja_sw, ↓ja_pe, ↓ja_pn, ↓ja_pz, ↓reduceIte, ite_self, Int.reduceEq, Int.reduceLT, Int.reduceLE, Int.reduceNeg, Int.reduceToNat, jm_wr_id, pb_none, pb_int, pb_ref, ↓rw_obj, ↓nn, ↓rw_ic3, c2, if_true, if_false, ↓jk_fix_pos, kX11_makeDevice_b, kX11_makeDevice_0, kX11_makeDevice_64, kX11_makeDevice_131, Nat.reduceEqDiff]
  · rw [e18] at z
    omega
  · rw [e18] at z
    omega
  · rcases (show r = 0 ∨ r = 1 ∨ r = 2 by omega) with rfl | rfl | rfl
    · rw [Nat.add_zero, q2, show 0 + 3 = 3 by rfl, cell_3 tg]
      show _ = some (8, 10, pu_dev ad κ d)
      congr 3
      funext j
      simp only [jm_upd, pu_dev, pu_own, tg, a4, a5, a6, a7, e18, e19, e20, e21, e23, e24, e25, e26, e27, e34, e43]
      rcases (show j = 0 ∨ j = 1 ∨ j = 2 ∨ j = 3 ∨ j = 4 ∨ j = 5 ∨ j = 6 ∨ j = 7 ∨ j = 8 ∨ j = 9 ∨ j = 10 ∨ 11 ≤ j by omega) with rfl | rfl | rfl | rfl | rfl | rfl | rfl | rfl | rfl | rfl | rfl | hj
      · rfl
      · rfl
      · rfl
      · rfl
      · rfl
      · rfl
      · rfl
      · rfl
      · rfl
      · rfl
      · rfl
      · simp [show j ≠ 0 by omega, show j ≠ 1 by omega, show j ≠ 2 by omega, show j ≠ 3 by omega, show j ≠ 4 by omega, show j ≠ 5 by omega, show j ≠ 6 by omega, show j ≠ 7 by omega, show j ≠ 8 by omega, show j ≠ 9 by omega, show j ≠ 10 by omega]
    · rw [l2, show 1 + 3 = 4 by rfl, cell_4 z22]
    · rw [show h.2.1 + 2 = h.2.1 + 1 + 1 by rfl, m2, show 2 + 3 = 5 by rfl, cell_5 z33]
  · rw [o2 b (by omega) (by omega), u1 b (by omega)]
set_option maxHeartbeats 4000000 in
theorem mk_dev3 {n : Nat} {h : jH} {ad : Nat → Int → Nat} {κ σ : aS} {d x : Int} (hn : 10 ≤ n) (e18 : κ 18 d = 3) (e24 : κ 24 d = 0) (a4 : ad 4 d = h.2.1 + 1) (a5 : ad 5 d = h.2.1 + 2) (a6 : ad 6 d = h.2.1 + 3) (a7 : ad 7 d = h.2.1 + 4) (e19 : κ 19 d = x) (e20 : κ 20 d = 0) (e21 : κ 21 d = 0) (e23 : κ 23 d = 0) (e25 : κ 25 d = 0) (e26 : κ 26 d = -1) (e27 : κ 27 d = 0) (e34 : κ 34 d = 0) (e43 : κ 43 d = 0) (z22 : ∀ j : Nat, j < 16 → κ 22 (16 * d + j) = -1) (z33 : ∀ j : Nat, j < 300 → κ 33 (300 * d + j) = 0) (z16 : ∀ (c j : Nat), j < 16 → c = 29 ∨ c = 30 ∨ c = 31 ∨ c = 42 → κ c (16 * d + j) = 0) (z32 : ∀ j : Nat, j < 8 → κ 32 (8 * d + j) = 0) : ∃ (z : jH) (m : Nat), fX11_makeDevice n [.inl 3, .inl d, .inl x] h = some (some (.inr (some h.2.1)), z) ∧ 3 ≤ m ∧ m ≤ 5 ∧ (κ 18 d = 5 ∨ κ 18 d = 6 ∨ κ 18 d = 9 ∨ κ 18 d = 11 → 4 ≤ m) ∧ (κ 18 d = 9 → m = 5) ∧ (∀ r : Nat, r < m → z.1 (h.2.1 + r) = some (pu_cell ad κ σ (r + 3) d)) ∧ (∀ b, (b < h.2.1 ∨ h.2.1 + m ≤ b) → z.1 b = h.1 b) ∧ z.2.1 = h.2.1 + m ∧ z.2.2 ≤ h.2.2 + 400 := by
  have tg : pu_tag (κ 18 d) = 1 := by rw [e18]; rfl
  obtain ⟨h1, eh1⟩ : ∃ z : jH, z = jm_new h (1, 10, fun j => if j ∈ [4, 6] then .inr none else .inl 0) := ⟨_, rfl⟩
  have q1 : h1.1 h.2.1 = some (1, 10, fun j => if j ∈ [4, 6] then .inr none else .inl 0) := by rw [eh1]; exact nw_at
  have s11 : h1.2.1 = h.2.1 + 1 := by rw [eh1, nw_2]
  have s12 : h1.2.2 = h.2.2 + 10 := by rw [eh1, nw_2]
  have u1 : ∀ b, b ≠ h.2.1 → h1.1 b = h.1 b := fun b hb => by rw [eh1]; exact nw_ne hb
  have nn : ∀ {kk : jK} {LL : List (Option jV)} {SS : List jV}, jk_new 1 10 [4, 6] kk LL SS h = kk LL (.inr (some h.2.1) :: SS) h1 := fun {kk LL SS} => by rw [eh1]; exact rw_new
  obtain ⟨h2, c2, q2, l2, m2, o2, s2⟩ := k_init1 (n := n) (d := d) (x := x) q1 (by omega)
  rw [s11] at q2 l2 m2 o2 s2
  rw [s12] at s2
  refine ⟨h2, 3, ?_, by decide, by decide, fun z => ?_, fun z => ?_, fun r hr => ?_, fun b hb => ?_, by rw [s2], by rw [s2]; show h.2.2 + _ + _ ≤ _; omega⟩
  · simp only [fX11_makeDevice, jm_run, List.length_cons, List.length_nil, Nat.reduceAdd, if_true, jm_init, List.map_cons, List.map_nil, Nat.reduceSub, List.replicate, List.cons_append, List.nil_append, kX11_makeDevice]
    simp (disch := first | omega | assumption | (simp only [List.length_cons, List.length_nil]; omega) | decide | (simp (disch := decide) only [pu_up_ne, pu_up_at]; first | omega | assumption)) only [↓ja_int, ↓ja_null, ↓ja_iload_0, ↓ja_aload_0, ↓ja_istore_0, ↓ja_astore_0, ↓ja_kill_0, ↓ja_iinc_0, ↓ja_iload_1, ↓ja_aload_1, ↓ja_istore_1, ↓ja_astore_1, ↓ja_kill_1, ↓ja_iinc_1, ↓ja_iload_2, ↓ja_aload_2, ↓ja_istore_2, ↓ja_astore_2, ↓ja_kill_2, ↓ja_iinc_2, ↓ja_iload_3, ↓ja_aload_3, ↓ja_istore_3, ↓ja_astore_3, ↓ja_kill_3, ↓ja_iinc_3, ↓ja_iload_4, ↓ja_aload_4, ↓ja_istore_4, ↓ja_astore_4, ↓ja_kill_4, ↓ja_iinc_4, ↓ja_iload_5, ↓ja_aload_5, ↓ja_istore_5, ↓ja_astore_5, ↓ja_kill_5, ↓ja_iinc_5, ↓ja_iload_6, ↓ja_aload_6, ↓ja_istore_6, ↓ja_astore_6, ↓ja_kill_6, ↓ja_iinc_6, ↓ja_iload_7, ↓ja_aload_7, ↓ja_istore_7, ↓ja_astore_7, ↓ja_kill_7, ↓ja_iinc_7, ↓ja_iload_8, ↓ja_aload_8, ↓ja_istore_8, ↓ja_astore_8, ↓ja_kill_8, ↓ja_iinc_8, ↓ja_iload_9, ↓ja_aload_9, ↓ja_istore_9, ↓ja_astore_9, ↓ja_kill_9, ↓ja_iinc_9, ↓ja_iload_10, ↓ja_aload_10, ↓ja_istore_10, ↓ja_astore_10, ↓ja_kill_10, ↓ja_iinc_10, ↓ja_iadd, ↓ja_isub, ↓ja_imul, ↓ja_dup, ↓ja_dup2, ↓ja_i2b, ↓ja_ifeq, ↓ja_ifne, ↓ja_iflt, ↓ja_ifge, ↓ja_ifgt, ↓ja_ifle, ↓ja_icmpeq, ↓ja_icmpne, ↓ja_icmplt, ↓ja_icmpge, ↓ja_icmpgt, ↓ja_icmple, ↓ja_ifnull_n, ↓ja_ifnull_s, ↓ja_ifnonnull_n, ↓ja_ifnonnull_s, ↓ja_iret, ↓ja_aret, ↓ja_vret, ↓ja_zret0, ↓ja_zret1, ↓ja_sw, ↓ja_pe, ↓ja_pn, ↓ja_pz, ↓reduceIte, ite_self, Int.reduceEq, Int.reduceLT, Int.reduceLE, Int.reduceNeg, Int.reduceToNat, jm_wr_id, pb_none, pb_int, pb_ref, ↓rw_obj, ↓nn, ↓rw_ic2, c2, if_true, if_false, ↓jk_fix_pos, kX11_makeDevice_b, kX11_makeDevice_0, kX11_makeDevice_64, kX11_makeDevice_131, Nat.reduceEqDiff]
  · rw [e18] at z
    omega
  · rw [e18] at z
    omega
  · rcases (show r = 0 ∨ r = 1 ∨ r = 2 by omega) with rfl | rfl | rfl
    · rw [Nat.add_zero, q2, show 0 + 3 = 3 by rfl, cell_3 tg]
      show _ = some (1, 10, pu_dev ad κ d)
      congr 3
      funext j
      simp only [jm_upd, pu_dev, pu_own, tg, a4, a5, a6, a7, e18, e19, e20, e21, e23, e24, e25, e26, e27, e34, e43]
      rcases (show j = 0 ∨ j = 1 ∨ j = 2 ∨ j = 3 ∨ j = 4 ∨ j = 5 ∨ j = 6 ∨ j = 7 ∨ j = 8 ∨ j = 9 ∨ j = 10 ∨ 11 ≤ j by omega) with rfl | rfl | rfl | rfl | rfl | rfl | rfl | rfl | rfl | rfl | rfl | hj
      · rfl
      · rfl
      · rfl
      · rfl
      · rfl
      · rfl
      · rfl
      · rfl
      · rfl
      · rfl
      · rfl
      · simp [show j ≠ 0 by omega, show j ≠ 1 by omega, show j ≠ 2 by omega, show j ≠ 3 by omega, show j ≠ 4 by omega, show j ≠ 5 by omega, show j ≠ 6 by omega, show j ≠ 7 by omega, show j ≠ 8 by omega, show j ≠ 9 by omega, show j ≠ 10 by omega]
    · rw [l2, show 1 + 3 = 4 by rfl, cell_4 z22]
    · rw [show h.2.1 + 2 = h.2.1 + 1 + 1 by rfl, m2, show 2 + 3 = 5 by rfl, cell_5 z33]
  · rw [o2 b (by omega) (by omega), u1 b (by omega)]
set_option maxHeartbeats 4000000 in
theorem mk_dev4 {n : Nat} {h : jH} {ad : Nat → Int → Nat} {κ σ : aS} {d x : Int} (hn : 10 ≤ n) (e18 : κ 18 d = 4) (e24 : κ 24 d = 0) (a4 : ad 4 d = h.2.1 + 1) (a5 : ad 5 d = h.2.1 + 2) (a6 : ad 6 d = h.2.1 + 3) (a7 : ad 7 d = h.2.1 + 4) (e19 : κ 19 d = x) (e20 : κ 20 d = 0) (e21 : κ 21 d = 0) (e23 : κ 23 d = 0) (e25 : κ 25 d = 0) (e26 : κ 26 d = -1) (e27 : κ 27 d = 0) (e34 : κ 34 d = 0) (e43 : κ 43 d = 0) (z22 : ∀ j : Nat, j < 16 → κ 22 (16 * d + j) = -1) (z33 : ∀ j : Nat, j < 300 → κ 33 (300 * d + j) = 0) (z16 : ∀ (c j : Nat), j < 16 → c = 29 ∨ c = 30 ∨ c = 31 ∨ c = 42 → κ c (16 * d + j) = 0) (z32 : ∀ j : Nat, j < 8 → κ 32 (8 * d + j) = 0) : ∃ (z : jH) (m : Nat), fX11_makeDevice n [.inl 4, .inl d, .inl x] h = some (some (.inr (some h.2.1)), z) ∧ 3 ≤ m ∧ m ≤ 5 ∧ (κ 18 d = 5 ∨ κ 18 d = 6 ∨ κ 18 d = 9 ∨ κ 18 d = 11 → 4 ≤ m) ∧ (κ 18 d = 9 → m = 5) ∧ (∀ r : Nat, r < m → z.1 (h.2.1 + r) = some (pu_cell ad κ σ (r + 3) d)) ∧ (∀ b, (b < h.2.1 ∨ h.2.1 + m ≤ b) → z.1 b = h.1 b) ∧ z.2.1 = h.2.1 + m ∧ z.2.2 ≤ h.2.2 + 400 := by
  have tg : pu_tag (κ 18 d) = 2 := by rw [e18]; rfl
  obtain ⟨h1, eh1⟩ : ∃ z : jH, z = jm_new h (2, 8, fun j => if j ∈ [4, 6] then .inr none else .inl 0) := ⟨_, rfl⟩
  have q1 : h1.1 h.2.1 = some (2, 8, fun j => if j ∈ [4, 6] then .inr none else .inl 0) := by rw [eh1]; exact nw_at
  have s11 : h1.2.1 = h.2.1 + 1 := by rw [eh1, nw_2]
  have s12 : h1.2.2 = h.2.2 + 8 := by rw [eh1, nw_2]
  have u1 : ∀ b, b ≠ h.2.1 → h1.1 b = h.1 b := fun b hb => by rw [eh1]; exact nw_ne hb
  have nn : ∀ {kk : jK} {LL : List (Option jV)} {SS : List jV}, jk_new 2 8 [4, 6] kk LL SS h = kk LL (.inr (some h.2.1) :: SS) h1 := fun {kk LL SS} => by rw [eh1]; exact rw_new
  obtain ⟨h2, c2, q2, l2, m2, o2, s2⟩ := k_init3 (n := n) (d := d) q1 (by omega)
  rw [s11] at q2 l2 m2 o2 s2
  rw [s12] at s2
  refine ⟨h2, 3, ?_, by decide, by decide, fun z => ?_, fun z => ?_, fun r hr => ?_, fun b hb => ?_, by rw [s2], by rw [s2]; show h.2.2 + _ + _ ≤ _; omega⟩
  · simp only [fX11_makeDevice, jm_run, List.length_cons, List.length_nil, Nat.reduceAdd, if_true, jm_init, List.map_cons, List.map_nil, Nat.reduceSub, List.replicate, List.cons_append, List.nil_append, kX11_makeDevice]
    simp (disch := first | omega | assumption | (simp only [List.length_cons, List.length_nil]; omega) | decide | (simp (disch := decide) only [pu_up_ne, pu_up_at]; first | omega | assumption)) only [↓ja_int, ↓ja_null, ↓ja_iload_0, ↓ja_aload_0, ↓ja_istore_0, ↓ja_astore_0, ↓ja_kill_0, ↓ja_iinc_0, ↓ja_iload_1, ↓ja_aload_1, ↓ja_istore_1, ↓ja_astore_1, ↓ja_kill_1, ↓ja_iinc_1, ↓ja_iload_2, ↓ja_aload_2, ↓ja_istore_2, ↓ja_astore_2, ↓ja_kill_2, ↓ja_iinc_2, ↓ja_iload_3, ↓ja_aload_3, ↓ja_istore_3, ↓ja_astore_3, ↓ja_kill_3, ↓ja_iinc_3, ↓ja_iload_4, ↓ja_aload_4, ↓ja_istore_4, ↓ja_astore_4, ↓ja_kill_4, ↓ja_iinc_4, ↓ja_iload_5, ↓ja_aload_5, ↓ja_istore_5, ↓ja_astore_5, ↓ja_kill_5, ↓ja_iinc_5, ↓ja_iload_6, ↓ja_aload_6, ↓ja_istore_6, ↓ja_astore_6, ↓ja_kill_6, ↓ja_iinc_6, ↓ja_iload_7, ↓ja_aload_7, ↓ja_istore_7, ↓ja_astore_7, ↓ja_kill_7, ↓ja_iinc_7, ↓ja_iload_8, ↓ja_aload_8, ↓ja_istore_8, ↓ja_astore_8, ↓ja_kill_8, ↓ja_iinc_8, ↓ja_iload_9, ↓ja_aload_9, ↓ja_istore_9, ↓ja_astore_9, ↓ja_kill_9, ↓ja_iinc_9, ↓ja_iload_10, ↓ja_aload_10, ↓ja_istore_10, ↓ja_astore_10, ↓ja_kill_10, ↓ja_iinc_10, ↓ja_iadd, ↓ja_isub, ↓ja_imul, ↓ja_dup, ↓ja_dup2, ↓ja_i2b, ↓ja_ifeq, ↓ja_ifne, ↓ja_iflt, ↓ja_ifge, ↓ja_ifgt, ↓ja_ifle, ↓ja_icmpeq, ↓ja_icmpne, ↓ja_icmplt, ↓ja_icmpge, ↓ja_icmpgt, ↓ja_icmple, ↓ja_ifnull_n, ↓ja_ifnull_s, ↓ja_ifnonnull_n, ↓ja_ifnonnull_s, ↓ja_iret, ↓ja_aret, ↓ja_vret, ↓ja_zret0, ↓ja_zret1, ↓ja_sw, ↓ja_pe, ↓ja_pn, ↓ja_pz, ↓reduceIte, ite_self, Int.reduceEq, Int.reduceLT, Int.reduceLE, Int.reduceNeg, Int.reduceToNat, jm_wr_id, pb_none, pb_int, pb_ref, ↓rw_obj, ↓nn, ↓rw_ic1, c2, if_true, if_false, ↓jk_fix_pos, kX11_makeDevice_b, kX11_makeDevice_0, kX11_makeDevice_64, kX11_makeDevice_131, Nat.reduceEqDiff]
  · rw [e18] at z
    omega
  · rw [e18] at z
    omega
  · rcases (show r = 0 ∨ r = 1 ∨ r = 2 by omega) with rfl | rfl | rfl
    · rw [Nat.add_zero, q2, show 0 + 3 = 3 by rfl, cell_3 tg]
      show _ = some (2, 8, pu_dev ad κ d)
      congr 3
      funext j
      simp only [jm_upd, pu_dev, pu_own, tg, a4, a5, a6, a7, e18, e19, e20, e21, e23, e24, e25, e26, e27, e34, e43]
      rcases (show j = 0 ∨ j = 1 ∨ j = 2 ∨ j = 3 ∨ j = 4 ∨ j = 5 ∨ j = 6 ∨ j = 7 ∨ j = 8 ∨ j = 9 ∨ j = 10 ∨ 11 ≤ j by omega) with rfl | rfl | rfl | rfl | rfl | rfl | rfl | rfl | rfl | rfl | rfl | hj
      · rfl
      · rfl
      · rfl
      · rfl
      · rfl
      · rfl
      · rfl
      · rfl
      · rfl
      · rfl
      · rfl
      · simp [show j ≠ 0 by omega, show j ≠ 1 by omega, show j ≠ 2 by omega, show j ≠ 3 by omega, show j ≠ 4 by omega, show j ≠ 5 by omega, show j ≠ 6 by omega, show j ≠ 7 by omega, show j ≠ 8 by omega, show j ≠ 9 by omega, show j ≠ 10 by omega]
    · rw [l2, show 1 + 3 = 4 by rfl, cell_4 z22]
    · rw [show h.2.1 + 2 = h.2.1 + 1 + 1 by rfl, m2, show 2 + 3 = 5 by rfl, cell_5 z33]
  · rw [o2 b (by omega) (by omega), u1 b (by omega)]
set_option maxHeartbeats 4000000 in
theorem mk_dev5 {n : Nat} {h : jH} {ad : Nat → Int → Nat} {κ σ : aS} {d x : Int} (hn : 10 ≤ n) (e18 : κ 18 d = 5) (e24 : κ 24 d = 0) (a4 : ad 4 d = h.2.1 + 1) (a5 : ad 5 d = h.2.1 + 2) (a6 : ad 6 d = h.2.1 + 3) (a7 : ad 7 d = h.2.1 + 4) (e19 : κ 19 d = x) (e20 : κ 20 d = 0) (e21 : κ 21 d = 0) (e23 : κ 23 d = 0) (e25 : κ 25 d = 0) (e26 : κ 26 d = -1) (e27 : κ 27 d = 0) (e34 : κ 34 d = 0) (e43 : κ 43 d = 0) (z22 : ∀ j : Nat, j < 16 → κ 22 (16 * d + j) = -1) (z33 : ∀ j : Nat, j < 300 → κ 33 (300 * d + j) = 0) (z16 : ∀ (c j : Nat), j < 16 → c = 29 ∨ c = 30 ∨ c = 31 ∨ c = 42 → κ c (16 * d + j) = 0) (z32 : ∀ j : Nat, j < 8 → κ 32 (8 * d + j) = 0) : ∃ (z : jH) (m : Nat), fX11_makeDevice n [.inl 5, .inl d, .inl x] h = some (some (.inr (some h.2.1)), z) ∧ 3 ≤ m ∧ m ≤ 5 ∧ (κ 18 d = 5 ∨ κ 18 d = 6 ∨ κ 18 d = 9 ∨ κ 18 d = 11 → 4 ≤ m) ∧ (κ 18 d = 9 → m = 5) ∧ (∀ r : Nat, r < m → z.1 (h.2.1 + r) = some (pu_cell ad κ σ (r + 3) d)) ∧ (∀ b, (b < h.2.1 ∨ h.2.1 + m ≤ b) → z.1 b = h.1 b) ∧ z.2.1 = h.2.1 + m ∧ z.2.2 ≤ h.2.2 + 400 := by
  have tg : pu_tag (κ 18 d) = 4 := by rw [e18]; rfl
  obtain ⟨h1, eh1⟩ : ∃ z : jH, z = jm_new h (4, 11, fun j => if j ∈ [4, 6, 8] then .inr none else .inl 0) := ⟨_, rfl⟩
  have q1 : h1.1 h.2.1 = some (4, 11, fun j => if j ∈ [4, 6, 8] then .inr none else .inl 0) := by rw [eh1]; exact nw_at
  have s11 : h1.2.1 = h.2.1 + 1 := by rw [eh1, nw_2]
  have s12 : h1.2.2 = h.2.2 + 11 := by rw [eh1, nw_2]
  have u1 : ∀ b, b ≠ h.2.1 → h1.1 b = h.1 b := fun b hb => by rw [eh1]; exact nw_ne hb
  have nn : ∀ {kk : jK} {LL : List (Option jV)} {SS : List jV}, jk_new 4 11 [4, 6, 8] kk LL SS h = kk LL (.inr (some h.2.1) :: SS) h1 := fun {kk LL SS} => by rw [eh1]; exact rw_new
  obtain ⟨h2, c2, q2, l2, m2, g0, o2, s2⟩ := k_init5 (n := n) (d := d) q1 (by omega)
  rw [s11] at q2 l2 m2 g0 o2 s2
  rw [s12] at s2
  refine ⟨h2, 4, ?_, by decide, by decide, fun z => ?_, fun z => ?_, fun r hr => ?_, fun b hb => ?_, by rw [s2], by rw [s2]; show h.2.2 + _ + _ ≤ _; omega⟩
  · simp only [fX11_makeDevice, jm_run, List.length_cons, List.length_nil, Nat.reduceAdd, if_true, jm_init, List.map_cons, List.map_nil, Nat.reduceSub, List.replicate, List.cons_append, List.nil_append, kX11_makeDevice]
    simp (disch := first | omega | assumption | (simp only [List.length_cons, List.length_nil]; omega) | decide | (simp (disch := decide) only [pu_up_ne, pu_up_at]; first | omega | assumption)) only [↓ja_int, ↓ja_null, ↓ja_iload_0, ↓ja_aload_0, ↓ja_istore_0, ↓ja_astore_0, ↓ja_kill_0, ↓ja_iinc_0, ↓ja_iload_1, ↓ja_aload_1, ↓ja_istore_1, ↓ja_astore_1, ↓ja_kill_1, ↓ja_iinc_1, ↓ja_iload_2, ↓ja_aload_2, ↓ja_istore_2, ↓ja_astore_2, ↓ja_kill_2, ↓ja_iinc_2, ↓ja_iload_3, ↓ja_aload_3, ↓ja_istore_3, ↓ja_astore_3, ↓ja_kill_3, ↓ja_iinc_3, ↓ja_iload_4, ↓ja_aload_4, ↓ja_istore_4, ↓ja_astore_4, ↓ja_kill_4, ↓ja_iinc_4, ↓ja_iload_5, ↓ja_aload_5, ↓ja_istore_5, ↓ja_astore_5, ↓ja_kill_5, ↓ja_iinc_5, ↓ja_iload_6, ↓ja_aload_6, ↓ja_istore_6, ↓ja_astore_6, ↓ja_kill_6, ↓ja_iinc_6, ↓ja_iload_7, ↓ja_aload_7, ↓ja_istore_7, ↓ja_astore_7, ↓ja_kill_7, ↓ja_iinc_7, ↓ja_iload_8, ↓ja_aload_8, ↓ja_istore_8, ↓ja_astore_8, ↓ja_kill_8, ↓ja_iinc_8, ↓ja_iload_9, ↓ja_aload_9, ↓ja_istore_9, ↓ja_astore_9, ↓ja_kill_9, ↓ja_iinc_9, ↓ja_iload_10, ↓ja_aload_10, ↓ja_istore_10, ↓ja_astore_10, ↓ja_kill_10, ↓ja_iinc_10, ↓ja_iadd, ↓ja_isub, ↓ja_imul, ↓ja_dup, ↓ja_dup2, ↓ja_i2b, ↓ja_ifeq, ↓ja_ifne, ↓ja_iflt, ↓ja_ifge, ↓ja_ifgt, ↓ja_ifle, ↓ja_icmpeq, ↓ja_icmpne, ↓ja_icmplt, ↓ja_icmpge, ↓ja_icmpgt, ↓ja_icmple, ↓ja_ifnull_n, ↓ja_ifnull_s, ↓ja_ifnonnull_n, ↓ja_ifnonnull_s, ↓ja_iret, ↓ja_aret, ↓ja_vret, ↓ja_zret0, ↓ja_zret1, ↓ja_sw, ↓ja_pe, ↓ja_pn, ↓ja_pz, ↓reduceIte, ite_self, Int.reduceEq, Int.reduceLT, Int.reduceLE, Int.reduceNeg, Int.reduceToNat, jm_wr_id, pb_none, pb_int, pb_ref, ↓rw_obj, ↓nn, ↓rw_ic1, c2, if_true, if_false, ↓jk_fix_pos, kX11_makeDevice_b, kX11_makeDevice_0, kX11_makeDevice_64, kX11_makeDevice_131, Nat.reduceEqDiff]
  · decide
  · rw [e18] at z
    omega
  · rcases (show r = 0 ∨ r = 1 ∨ r = 2 ∨ r = 3 by omega) with rfl | rfl | rfl | rfl
    · rw [Nat.add_zero, q2, show 0 + 3 = 3 by rfl, cell_3 tg]
      show _ = some (4, 11, pu_dev ad κ d)
      congr 3
      funext j
      simp only [jm_upd, pu_dev, pu_own, tg, a4, a5, a6, a7, e18, e19, e20, e21, e23, e24, e25, e26, e27, e34, e43]
      rcases (show j = 0 ∨ j = 1 ∨ j = 2 ∨ j = 3 ∨ j = 4 ∨ j = 5 ∨ j = 6 ∨ j = 7 ∨ j = 8 ∨ j = 9 ∨ j = 10 ∨ 11 ≤ j by omega) with rfl | rfl | rfl | rfl | rfl | rfl | rfl | rfl | rfl | rfl | rfl | hj
      · rfl
      · rfl
      · rfl
      · rfl
      · rfl
      · rfl
      · rfl
      · rfl
      · rfl
      · rfl
      · rfl
      · simp [show j ≠ 0 by omega, show j ≠ 1 by omega, show j ≠ 2 by omega, show j ≠ 3 by omega, show j ≠ 4 by omega, show j ≠ 5 by omega, show j ≠ 6 by omega, show j ≠ 7 by omega, show j ≠ 8 by omega, show j ≠ 9 by omega, show j ≠ 10 by omega]
    · rw [l2, show 1 + 3 = 4 by rfl, cell_4 z22]
    · rw [show h.2.1 + 2 = h.2.1 + 1 + 1 by rfl, m2, show 2 + 3 = 5 by rfl, cell_5 z33]
    · rw [show h.2.1 + 3 = h.2.1 + 1 + 2 by rfl, g0, show 3 + 3 = 6 by rfl]
      simp only [pu_cell, Nat.reduceEqDiff, if_false, if_true, e18, Int.reduceEq]
      rw [arr_z (fun j hj => by rw [z16 29 j hj (by decide)])]
  · rw [o2 b (by omega) (by omega), u1 b (by omega)]
set_option maxHeartbeats 4000000 in
theorem mk_dev6 {n : Nat} {h : jH} {ad : Nat → Int → Nat} {κ σ : aS} {d x : Int} (hn : 10 ≤ n) (hx : x ≤ 8) (e18 : κ 18 d = 6) (e24 : κ 24 d = 0) (a4 : ad 4 d = h.2.1 + 1) (a5 : ad 5 d = h.2.1 + 2) (a6 : ad 6 d = h.2.1 + 3) (a7 : ad 7 d = h.2.1 + 4) (e19 : κ 19 d = x) (e20 : κ 20 d = 0) (e21 : κ 21 d = 0) (e23 : κ 23 d = 0) (e25 : κ 25 d = 0) (e26 : κ 26 d = -1) (e27 : κ 27 d = 0) (e34 : κ 34 d = 0) (e43 : κ 43 d = 0) (z22 : ∀ j : Nat, j < 16 → κ 22 (16 * d + j) = -1) (z33 : ∀ j : Nat, j < 300 → κ 33 (300 * d + j) = 0) (z16 : ∀ (c j : Nat), j < 16 → c = 29 ∨ c = 30 ∨ c = 31 ∨ c = 42 → κ c (16 * d + j) = 0) (z32 : ∀ j : Nat, j < 8 → κ 32 (8 * d + j) = 0) : ∃ (z : jH) (m : Nat), fX11_makeDevice n [.inl 6, .inl d, .inl x] h = some (some (.inr (some h.2.1)), z) ∧ 3 ≤ m ∧ m ≤ 5 ∧ (κ 18 d = 5 ∨ κ 18 d = 6 ∨ κ 18 d = 9 ∨ κ 18 d = 11 → 4 ≤ m) ∧ (κ 18 d = 9 → m = 5) ∧ (∀ r : Nat, r < m → z.1 (h.2.1 + r) = some (pu_cell ad κ σ (r + 3) d)) ∧ (∀ b, (b < h.2.1 ∨ h.2.1 + m ≤ b) → z.1 b = h.1 b) ∧ z.2.1 = h.2.1 + m ∧ z.2.2 ≤ h.2.2 + 400 := by
  have tg : pu_tag (κ 18 d) = 3 := by rw [e18]; rfl
  obtain ⟨h1, eh1⟩ : ∃ z : jH, z = jm_new h (3, 11, fun j => if j ∈ [4, 6, 9] then .inr none else .inl 0) := ⟨_, rfl⟩
  have q1 : h1.1 h.2.1 = some (3, 11, fun j => if j ∈ [4, 6, 9] then .inr none else .inl 0) := by rw [eh1]; exact nw_at
  have s11 : h1.2.1 = h.2.1 + 1 := by rw [eh1, nw_2]
  have s12 : h1.2.2 = h.2.2 + 11 := by rw [eh1, nw_2]
  have u1 : ∀ b, b ≠ h.2.1 → h1.1 b = h.1 b := fun b hb => by rw [eh1]; exact nw_ne hb
  have nn : ∀ {kk : jK} {LL : List (Option jV)} {SS : List jV}, jk_new 3 11 [4, 6, 9] kk LL SS h = kk LL (.inr (some h.2.1) :: SS) h1 := fun {kk LL SS} => by rw [eh1]; exact rw_new
  obtain ⟨h2, c2, q2, l2, m2, g0, o2, s2⟩ := k_init4 (n := n) (d := d) (x := x) q1 (by omega)
  rw [s11] at q2 l2 m2 g0 o2 s2
  rw [s12] at s2
  rw [if_neg (show ¬ 8 < x by omega)] at q2
  refine ⟨h2, 4, ?_, by decide, by decide, fun z => ?_, fun z => ?_, fun r hr => ?_, fun b hb => ?_, by rw [s2], by rw [s2]; show h.2.2 + _ + _ ≤ _; omega⟩
  · simp only [fX11_makeDevice, jm_run, List.length_cons, List.length_nil, Nat.reduceAdd, if_true, jm_init, List.map_cons, List.map_nil, Nat.reduceSub, List.replicate, List.cons_append, List.nil_append, kX11_makeDevice]
    simp (disch := first | omega | assumption | (simp only [List.length_cons, List.length_nil]; omega) | decide | (simp (disch := decide) only [pu_up_ne, pu_up_at]; first | omega | assumption)) only [↓ja_int, ↓ja_null, ↓ja_iload_0, ↓ja_aload_0, ↓ja_istore_0, ↓ja_astore_0, ↓ja_kill_0, ↓ja_iinc_0, ↓ja_iload_1, ↓ja_aload_1, ↓ja_istore_1, ↓ja_astore_1, ↓ja_kill_1, ↓ja_iinc_1, ↓ja_iload_2, ↓ja_aload_2, ↓ja_istore_2, ↓ja_astore_2, ↓ja_kill_2, ↓ja_iinc_2, ↓ja_iload_3, ↓ja_aload_3, ↓ja_istore_3, ↓ja_astore_3, ↓ja_kill_3, ↓ja_iinc_3, ↓ja_iload_4, ↓ja_aload_4, ↓ja_istore_4, ↓ja_astore_4, ↓ja_kill_4, ↓ja_iinc_4, ↓ja_iload_5, ↓ja_aload_5, ↓ja_istore_5, ↓ja_astore_5, ↓ja_kill_5, ↓ja_iinc_5, ↓ja_iload_6, ↓ja_aload_6, ↓ja_istore_6, ↓ja_astore_6, ↓ja_kill_6, ↓ja_iinc_6, ↓ja_iload_7, ↓ja_aload_7, ↓ja_istore_7, ↓ja_astore_7, ↓ja_kill_7, ↓ja_iinc_7, ↓ja_iload_8, ↓ja_aload_8, ↓ja_istore_8, ↓ja_astore_8, ↓ja_kill_8, ↓ja_iinc_8, ↓ja_iload_9, ↓ja_aload_9, ↓ja_istore_9, ↓ja_astore_9, ↓ja_kill_9, ↓ja_iinc_9, ↓ja_iload_10, ↓ja_aload_10, ↓ja_istore_10, ↓ja_astore_10, ↓ja_kill_10, ↓ja_iinc_10, ↓ja_iadd, ↓ja_isub, ↓ja_imul, ↓ja_dup, ↓ja_dup2, ↓ja_i2b, ↓ja_ifeq, ↓ja_ifne, ↓ja_iflt, ↓ja_ifge, ↓ja_ifgt, ↓ja_ifle, ↓ja_icmpeq, ↓ja_icmpne, ↓ja_icmplt, ↓ja_icmpge, ↓ja_icmpgt, ↓ja_icmple, ↓ja_ifnull_n, ↓ja_ifnull_s, ↓ja_ifnonnull_n, ↓ja_ifnonnull_s, ↓ja_iret, ↓ja_aret, ↓ja_vret, ↓ja_zret0, ↓ja_zret1, ↓ja_sw, ↓ja_pe, ↓ja_pn, ↓ja_pz, ↓reduceIte, ite_self, Int.reduceEq, Int.reduceLT, Int.reduceLE, Int.reduceNeg, Int.reduceToNat, jm_wr_id, pb_none, pb_int, pb_ref, ↓rw_obj, ↓nn, ↓rw_ic2, c2, if_true, if_false, ↓jk_fix_pos, kX11_makeDevice_b, kX11_makeDevice_0, kX11_makeDevice_64, kX11_makeDevice_131, Nat.reduceEqDiff]
  · decide
  · rw [e18] at z
    omega
  · rcases (show r = 0 ∨ r = 1 ∨ r = 2 ∨ r = 3 by omega) with rfl | rfl | rfl | rfl
    · rw [Nat.add_zero, q2, show 0 + 3 = 3 by rfl, cell_3 tg]
      show _ = some (3, 11, pu_dev ad κ d)
      congr 3
      funext j
      simp only [jm_upd, pu_dev, pu_own, tg, a4, a5, a6, a7, e18, e19, e20, e21, e23, e24, e25, e26, e27, e34, e43]
      rcases (show j = 0 ∨ j = 1 ∨ j = 2 ∨ j = 3 ∨ j = 4 ∨ j = 5 ∨ j = 6 ∨ j = 7 ∨ j = 8 ∨ j = 9 ∨ j = 10 ∨ 11 ≤ j by omega) with rfl | rfl | rfl | rfl | rfl | rfl | rfl | rfl | rfl | rfl | rfl | hj
      · rfl
      · rfl
      · rfl
      · rfl
      · rfl
      · rfl
      · rfl
      · rfl
      · rfl
      · rfl
      · rfl
      · simp [show j ≠ 0 by omega, show j ≠ 1 by omega, show j ≠ 2 by omega, show j ≠ 3 by omega, show j ≠ 4 by omega, show j ≠ 5 by omega, show j ≠ 6 by omega, show j ≠ 7 by omega, show j ≠ 8 by omega, show j ≠ 9 by omega, show j ≠ 10 by omega]
    · rw [l2, show 1 + 3 = 4 by rfl, cell_4 z22]
    · rw [show h.2.1 + 2 = h.2.1 + 1 + 1 by rfl, m2, show 2 + 3 = 5 by rfl, cell_5 z33]
    · rw [show h.2.1 + 3 = h.2.1 + 1 + 2 by rfl, g0, show 3 + 3 = 6 by rfl]
      simp only [pu_cell, Nat.reduceEqDiff, if_false, if_true, e18, Int.reduceEq]
      rw [arr_z (fun j hj => by rw [z32 j hj])]
  · rw [o2 b (by omega) (by omega), u1 b (by omega)]
set_option maxHeartbeats 4000000 in
theorem mk_dev7 {n : Nat} {h : jH} {ad : Nat → Int → Nat} {κ σ : aS} {d x : Int} (hn : 10 ≤ n) (hx : x = 0) (e18 : κ 18 d = 7) (e24 : κ 24 d = 0) (a4 : ad 4 d = h.2.1 + 1) (a5 : ad 5 d = h.2.1 + 2) (a6 : ad 6 d = h.2.1 + 3) (a7 : ad 7 d = h.2.1 + 4) (e19 : κ 19 d = x) (e20 : κ 20 d = 0) (e21 : κ 21 d = 0) (e23 : κ 23 d = 0) (e25 : κ 25 d = 0) (e26 : κ 26 d = -1) (e27 : κ 27 d = 0) (e34 : κ 34 d = 0) (e43 : κ 43 d = 0) (z22 : ∀ j : Nat, j < 16 → κ 22 (16 * d + j) = -1) (z33 : ∀ j : Nat, j < 300 → κ 33 (300 * d + j) = 0) (z16 : ∀ (c j : Nat), j < 16 → c = 29 ∨ c = 30 ∨ c = 31 ∨ c = 42 → κ c (16 * d + j) = 0) (z32 : ∀ j : Nat, j < 8 → κ 32 (8 * d + j) = 0) : ∃ (z : jH) (m : Nat), fX11_makeDevice n [.inl 7, .inl d, .inl x] h = some (some (.inr (some h.2.1)), z) ∧ 3 ≤ m ∧ m ≤ 5 ∧ (κ 18 d = 5 ∨ κ 18 d = 6 ∨ κ 18 d = 9 ∨ κ 18 d = 11 → 4 ≤ m) ∧ (κ 18 d = 9 → m = 5) ∧ (∀ r : Nat, r < m → z.1 (h.2.1 + r) = some (pu_cell ad κ σ (r + 3) d)) ∧ (∀ b, (b < h.2.1 ∨ h.2.1 + m ≤ b) → z.1 b = h.1 b) ∧ z.2.1 = h.2.1 + m ∧ z.2.2 ≤ h.2.2 + 400 := by
  subst hx
  have tg : pu_tag (κ 18 d) = 8 := by rw [e18]; rfl
  obtain ⟨h1, eh1⟩ : ∃ z : jH, z = jm_new h (8, 10, fun j => if j ∈ [4, 6] then .inr none else .inl 0) := ⟨_, rfl⟩
  have q1 : h1.1 h.2.1 = some (8, 10, fun j => if j ∈ [4, 6] then .inr none else .inl 0) := by rw [eh1]; exact nw_at
  have s11 : h1.2.1 = h.2.1 + 1 := by rw [eh1, nw_2]
  have s12 : h1.2.2 = h.2.2 + 10 := by rw [eh1, nw_2]
  have u1 : ∀ b, b ≠ h.2.1 → h1.1 b = h.1 b := fun b hb => by rw [eh1]; exact nw_ne hb
  have nn : ∀ {kk : jK} {LL : List (Option jV)} {SS : List jV}, jk_new 8 10 [4, 6] kk LL SS h = kk LL (.inr (some h.2.1) :: SS) h1 := fun {kk LL SS} => by rw [eh1]; exact rw_new
  obtain ⟨h2, c2, q2, l2, m2, o2, s2⟩ := k_init9 (n := n) (d := d) (x := 0) (k := 7) q1 (by omega)
  rw [s11] at q2 l2 m2 o2 s2
  rw [s12] at s2
  refine ⟨h2, 3, ?_, by decide, by decide, fun z => ?_, fun z => ?_, fun r hr => ?_, fun b hb => ?_, by rw [s2], by rw [s2]; show h.2.2 + _ + _ ≤ _; omega⟩
  · simp only [fX11_makeDevice, jm_run, List.length_cons, List.length_nil, Nat.reduceAdd, if_true, jm_init, List.map_cons, List.map_nil, Nat.reduceSub, List.replicate, List.cons_append, List.nil_append, kX11_makeDevice]
    simp (disch := first | omega | assumption | (simp only [List.length_cons, List.length_nil]; omega) | decide | (simp (disch := decide) only [pu_up_ne, pu_up_at]; first | omega | assumption)) only [↓ja_int, ↓ja_null, ↓ja_iload_0, ↓ja_aload_0, ↓ja_istore_0, ↓ja_astore_0, ↓ja_kill_0, ↓ja_iinc_0, ↓ja_iload_1, ↓ja_aload_1, ↓ja_istore_1, ↓ja_astore_1, ↓ja_kill_1, ↓ja_iinc_1, ↓ja_iload_2, ↓ja_aload_2, ↓ja_istore_2, ↓ja_astore_2, ↓ja_kill_2, ↓ja_iinc_2, ↓ja_iload_3, ↓ja_aload_3, ↓ja_istore_3, ↓ja_astore_3, ↓ja_kill_3, ↓ja_iinc_3, ↓ja_iload_4, ↓ja_aload_4, ↓ja_istore_4, ↓ja_astore_4, ↓ja_kill_4, ↓ja_iinc_4, ↓ja_iload_5, ↓ja_aload_5, ↓ja_istore_5, ↓ja_astore_5, ↓ja_kill_5, ↓ja_iinc_5, ↓ja_iload_6, ↓ja_aload_6, ↓ja_istore_6, ↓ja_astore_6, ↓ja_kill_6, ↓ja_iinc_6, ↓ja_iload_7, ↓ja_aload_7, ↓ja_istore_7, ↓ja_astore_7, ↓ja_kill_7, ↓ja_iinc_7, ↓ja_iload_8, ↓ja_aload_8, ↓ja_istore_8, ↓ja_astore_8, ↓ja_kill_8, ↓ja_iinc_8, ↓ja_iload_9, ↓ja_aload_9, ↓ja_istore_9, ↓ja_astore_9, ↓ja_kill_9, ↓ja_iinc_9, ↓ja_iload_10, ↓ja_aload_10, ↓ja_istore_10, ↓ja_astore_10, ↓ja_kill_10, ↓ja_iinc_10, ↓ja_iadd, ↓ja_isub, ↓ja_imul, ↓ja_dup, ↓ja_dup2, ↓ja_i2b, ↓ja_ifeq, ↓ja_ifne, ↓ja_iflt, ↓ja_ifge, ↓ja_ifgt, ↓ja_ifle, ↓ja_icmpeq, ↓ja_icmpne, ↓ja_icmplt, ↓ja_icmpge, ↓ja_icmpgt, ↓ja_icmple, ↓ja_ifnull_n, ↓ja_ifnull_s, ↓ja_ifnonnull_n, ↓ja_ifnonnull_s, ↓ja_iret, ↓ja_aret, ↓ja_vret, ↓ja_zret0, ↓ja_zret1, ↓ja_sw, ↓ja_pe, ↓ja_pn, ↓ja_pz, ↓reduceIte, ite_self, Int.reduceEq, Int.reduceLT, Int.reduceLE, Int.reduceNeg, Int.reduceToNat, jm_wr_id, pb_none, pb_int, pb_ref, ↓rw_obj, ↓nn, ↓rw_ic3, c2, if_true, if_false, ↓jk_fix_pos, kX11_makeDevice_b, kX11_makeDevice_0, kX11_makeDevice_64, kX11_makeDevice_131, Nat.reduceEqDiff]
  · rw [e18] at z
    omega
  · rw [e18] at z
    omega
  · rcases (show r = 0 ∨ r = 1 ∨ r = 2 by omega) with rfl | rfl | rfl
    · rw [Nat.add_zero, q2, show 0 + 3 = 3 by rfl, cell_3 tg]
      show _ = some (8, 10, pu_dev ad κ d)
      congr 3
      funext j
      simp only [jm_upd, pu_dev, pu_own, tg, a4, a5, a6, a7, e18, e19, e20, e21, e23, e24, e25, e26, e27, e34, e43]
      rcases (show j = 0 ∨ j = 1 ∨ j = 2 ∨ j = 3 ∨ j = 4 ∨ j = 5 ∨ j = 6 ∨ j = 7 ∨ j = 8 ∨ j = 9 ∨ j = 10 ∨ 11 ≤ j by omega) with rfl | rfl | rfl | rfl | rfl | rfl | rfl | rfl | rfl | rfl | rfl | hj
      · rfl
      · rfl
      · rfl
      · rfl
      · rfl
      · rfl
      · rfl
      · rfl
      · rfl
      · rfl
      · rfl
      · simp [show j ≠ 0 by omega, show j ≠ 1 by omega, show j ≠ 2 by omega, show j ≠ 3 by omega, show j ≠ 4 by omega, show j ≠ 5 by omega, show j ≠ 6 by omega, show j ≠ 7 by omega, show j ≠ 8 by omega, show j ≠ 9 by omega, show j ≠ 10 by omega]
    · rw [l2, show 1 + 3 = 4 by rfl, cell_4 z22]
    · rw [show h.2.1 + 2 = h.2.1 + 1 + 1 by rfl, m2, show 2 + 3 = 5 by rfl, cell_5 z33]
  · rw [o2 b (by omega) (by omega), u1 b (by omega)]
set_option maxHeartbeats 4000000 in
theorem mk_dev8 {n : Nat} {h : jH} {ad : Nat → Int → Nat} {κ σ : aS} {d x : Int} (hn : 10 ≤ n) (hx : x = 0) (e18 : κ 18 d = 8) (e24 : κ 24 d = 0) (a4 : ad 4 d = h.2.1 + 1) (a5 : ad 5 d = h.2.1 + 2) (a6 : ad 6 d = h.2.1 + 3) (a7 : ad 7 d = h.2.1 + 4) (e19 : κ 19 d = x) (e20 : κ 20 d = 0) (e21 : κ 21 d = 0) (e23 : κ 23 d = 0) (e25 : κ 25 d = 0) (e26 : κ 26 d = -1) (e27 : κ 27 d = 0) (e34 : κ 34 d = 0) (e43 : κ 43 d = 0) (z22 : ∀ j : Nat, j < 16 → κ 22 (16 * d + j) = -1) (z33 : ∀ j : Nat, j < 300 → κ 33 (300 * d + j) = 0) (z16 : ∀ (c j : Nat), j < 16 → c = 29 ∨ c = 30 ∨ c = 31 ∨ c = 42 → κ c (16 * d + j) = 0) (z32 : ∀ j : Nat, j < 8 → κ 32 (8 * d + j) = 0) : ∃ (z : jH) (m : Nat), fX11_makeDevice n [.inl 8, .inl d, .inl x] h = some (some (.inr (some h.2.1)), z) ∧ 3 ≤ m ∧ m ≤ 5 ∧ (κ 18 d = 5 ∨ κ 18 d = 6 ∨ κ 18 d = 9 ∨ κ 18 d = 11 → 4 ≤ m) ∧ (κ 18 d = 9 → m = 5) ∧ (∀ r : Nat, r < m → z.1 (h.2.1 + r) = some (pu_cell ad κ σ (r + 3) d)) ∧ (∀ b, (b < h.2.1 ∨ h.2.1 + m ≤ b) → z.1 b = h.1 b) ∧ z.2.1 = h.2.1 + m ∧ z.2.2 ≤ h.2.2 + 400 := by
  subst hx
  have tg : pu_tag (κ 18 d) = 8 := by rw [e18]; rfl
  obtain ⟨h1, eh1⟩ : ∃ z : jH, z = jm_new h (8, 10, fun j => if j ∈ [4, 6] then .inr none else .inl 0) := ⟨_, rfl⟩
  have q1 : h1.1 h.2.1 = some (8, 10, fun j => if j ∈ [4, 6] then .inr none else .inl 0) := by rw [eh1]; exact nw_at
  have s11 : h1.2.1 = h.2.1 + 1 := by rw [eh1, nw_2]
  have s12 : h1.2.2 = h.2.2 + 10 := by rw [eh1, nw_2]
  have u1 : ∀ b, b ≠ h.2.1 → h1.1 b = h.1 b := fun b hb => by rw [eh1]; exact nw_ne hb
  have nn : ∀ {kk : jK} {LL : List (Option jV)} {SS : List jV}, jk_new 8 10 [4, 6] kk LL SS h = kk LL (.inr (some h.2.1) :: SS) h1 := fun {kk LL SS} => by rw [eh1]; exact rw_new
  obtain ⟨h2, c2, q2, l2, m2, o2, s2⟩ := k_init9 (n := n) (d := d) (x := 0) (k := 8) q1 (by omega)
  rw [s11] at q2 l2 m2 o2 s2
  rw [s12] at s2
  refine ⟨h2, 3, ?_, by decide, by decide, fun z => ?_, fun z => ?_, fun r hr => ?_, fun b hb => ?_, by rw [s2], by rw [s2]; show h.2.2 + _ + _ ≤ _; omega⟩
  · simp only [fX11_makeDevice, jm_run, List.length_cons, List.length_nil, Nat.reduceAdd, if_true, jm_init, List.map_cons, List.map_nil, Nat.reduceSub, List.replicate, List.cons_append, List.nil_append, kX11_makeDevice]
    simp (disch := first | omega | assumption | (simp only [List.length_cons, List.length_nil]; omega) | decide | (simp (disch := decide) only [pu_up_ne, pu_up_at]; first | omega | assumption)) only [↓ja_int, ↓ja_null, ↓ja_iload_0, ↓ja_aload_0, ↓ja_istore_0, ↓ja_astore_0, ↓ja_kill_0, ↓ja_iinc_0, ↓ja_iload_1, ↓ja_aload_1, ↓ja_istore_1, ↓ja_astore_1, ↓ja_kill_1, ↓ja_iinc_1, ↓ja_iload_2, ↓ja_aload_2, ↓ja_istore_2, ↓ja_astore_2, ↓ja_kill_2, ↓ja_iinc_2, ↓ja_iload_3, ↓ja_aload_3, ↓ja_istore_3, ↓ja_astore_3, ↓ja_kill_3, ↓ja_iinc_3, ↓ja_iload_4, ↓ja_aload_4, ↓ja_istore_4, ↓ja_astore_4, ↓ja_kill_4, ↓ja_iinc_4, ↓ja_iload_5, ↓ja_aload_5, ↓ja_istore_5, ↓ja_astore_5, ↓ja_kill_5, ↓ja_iinc_5, ↓ja_iload_6, ↓ja_aload_6, ↓ja_istore_6, ↓ja_astore_6, ↓ja_kill_6, ↓ja_iinc_6, ↓ja_iload_7, ↓ja_aload_7, ↓ja_istore_7, ↓ja_astore_7, ↓ja_kill_7, ↓ja_iinc_7, ↓ja_iload_8, ↓ja_aload_8, ↓ja_istore_8, ↓ja_astore_8, ↓ja_kill_8, ↓ja_iinc_8, ↓ja_iload_9, ↓ja_aload_9, ↓ja_istore_9, ↓ja_astore_9, ↓ja_kill_9, ↓ja_iinc_9, ↓ja_iload_10, ↓ja_aload_10, ↓ja_istore_10, ↓ja_astore_10, ↓ja_kill_10, ↓ja_iinc_10, ↓ja_iadd, ↓ja_isub, ↓ja_imul, ↓ja_dup, ↓ja_dup2, ↓ja_i2b, ↓ja_ifeq, ↓ja_ifne, ↓ja_iflt, ↓ja_ifge, ↓ja_ifgt, ↓ja_ifle, ↓ja_icmpeq, ↓ja_icmpne, ↓ja_icmplt, ↓ja_icmpge, ↓ja_icmpgt, ↓ja_icmple, ↓ja_ifnull_n, ↓ja_ifnull_s, ↓ja_ifnonnull_n, ↓ja_ifnonnull_s, ↓ja_iret, ↓ja_aret, ↓ja_vret, ↓ja_zret0, ↓ja_zret1, ↓ja_sw, ↓ja_pe, ↓ja_pn, ↓ja_pz, ↓reduceIte, ite_self, Int.reduceEq, Int.reduceLT, Int.reduceLE, Int.reduceNeg, Int.reduceToNat, jm_wr_id, pb_none, pb_int, pb_ref, ↓rw_obj, ↓nn, ↓rw_ic3, c2, if_true, if_false, ↓jk_fix_pos, kX11_makeDevice_b, kX11_makeDevice_0, kX11_makeDevice_64, kX11_makeDevice_131, Nat.reduceEqDiff]
  · rw [e18] at z
    omega
  · rw [e18] at z
    omega
  · rcases (show r = 0 ∨ r = 1 ∨ r = 2 by omega) with rfl | rfl | rfl
    · rw [Nat.add_zero, q2, show 0 + 3 = 3 by rfl, cell_3 tg]
      show _ = some (8, 10, pu_dev ad κ d)
      congr 3
      funext j
      simp only [jm_upd, pu_dev, pu_own, tg, a4, a5, a6, a7, e18, e19, e20, e21, e23, e24, e25, e26, e27, e34, e43]
      rcases (show j = 0 ∨ j = 1 ∨ j = 2 ∨ j = 3 ∨ j = 4 ∨ j = 5 ∨ j = 6 ∨ j = 7 ∨ j = 8 ∨ j = 9 ∨ j = 10 ∨ 11 ≤ j by omega) with rfl | rfl | rfl | rfl | rfl | rfl | rfl | rfl | rfl | rfl | rfl | hj
      · rfl
      · rfl
      · rfl
      · rfl
      · rfl
      · rfl
      · rfl
      · rfl
      · rfl
      · rfl
      · rfl
      · simp [show j ≠ 0 by omega, show j ≠ 1 by omega, show j ≠ 2 by omega, show j ≠ 3 by omega, show j ≠ 4 by omega, show j ≠ 5 by omega, show j ≠ 6 by omega, show j ≠ 7 by omega, show j ≠ 8 by omega, show j ≠ 9 by omega, show j ≠ 10 by omega]
    · rw [l2, show 1 + 3 = 4 by rfl, cell_4 z22]
    · rw [show h.2.1 + 2 = h.2.1 + 1 + 1 by rfl, m2, show 2 + 3 = 5 by rfl, cell_5 z33]
  · rw [o2 b (by omega) (by omega), u1 b (by omega)]
set_option maxHeartbeats 4000000 in
theorem mk_dev9 {n : Nat} {h : jH} {ad : Nat → Int → Nat} {κ σ : aS} {d x : Int} (hn : 10 ≤ n) (e18 : κ 18 d = 9) (e24 : κ 24 d = 0) (a4 : ad 4 d = h.2.1 + 1) (a5 : ad 5 d = h.2.1 + 2) (a6 : ad 6 d = h.2.1 + 3) (a7 : ad 7 d = h.2.1 + 4) (e19 : κ 19 d = x) (e20 : κ 20 d = 0) (e21 : κ 21 d = 0) (e23 : κ 23 d = 0) (e25 : κ 25 d = 0) (e26 : κ 26 d = -1) (e27 : κ 27 d = 0) (e34 : κ 34 d = 0) (e43 : κ 43 d = 0) (z22 : ∀ j : Nat, j < 16 → κ 22 (16 * d + j) = -1) (z33 : ∀ j : Nat, j < 300 → κ 33 (300 * d + j) = 0) (z16 : ∀ (c j : Nat), j < 16 → c = 29 ∨ c = 30 ∨ c = 31 ∨ c = 42 → κ c (16 * d + j) = 0) (z32 : ∀ j : Nat, j < 8 → κ 32 (8 * d + j) = 0) : ∃ (z : jH) (m : Nat), fX11_makeDevice n [.inl 9, .inl d, .inl x] h = some (some (.inr (some h.2.1)), z) ∧ 3 ≤ m ∧ m ≤ 5 ∧ (κ 18 d = 5 ∨ κ 18 d = 6 ∨ κ 18 d = 9 ∨ κ 18 d = 11 → 4 ≤ m) ∧ (κ 18 d = 9 → m = 5) ∧ (∀ r : Nat, r < m → z.1 (h.2.1 + r) = some (pu_cell ad κ σ (r + 3) d)) ∧ (∀ b, (b < h.2.1 ∨ h.2.1 + m ≤ b) → z.1 b = h.1 b) ∧ z.2.1 = h.2.1 + m ∧ z.2.2 ≤ h.2.2 + 400 := by
  have tg : pu_tag (κ 18 d) = 7 := by rw [e18]; rfl
  obtain ⟨h1, eh1⟩ : ∃ z : jH, z = jm_new h (7, 11, fun j => if j ∈ [4, 6, 8, 9] then .inr none else .inl 0) := ⟨_, rfl⟩
  have q1 : h1.1 h.2.1 = some (7, 11, fun j => if j ∈ [4, 6, 8, 9] then .inr none else .inl 0) := by rw [eh1]; exact nw_at
  have s11 : h1.2.1 = h.2.1 + 1 := by rw [eh1, nw_2]
  have s12 : h1.2.2 = h.2.2 + 11 := by rw [eh1, nw_2]
  have u1 : ∀ b, b ≠ h.2.1 → h1.1 b = h.1 b := fun b hb => by rw [eh1]; exact nw_ne hb
  have nn : ∀ {kk : jK} {LL : List (Option jV)} {SS : List jV}, jk_new 7 11 [4, 6, 8, 9] kk LL SS h = kk LL (.inr (some h.2.1) :: SS) h1 := fun {kk LL SS} => by rw [eh1]; exact rw_new
  obtain ⟨h2, c2, q2, l2, m2, g0, g1, o2, s2⟩ := k_init8 (n := n) (d := d) q1 (by omega)
  rw [s11] at q2 l2 m2 g0 g1 o2 s2
  rw [s12] at s2
  refine ⟨h2, 5, ?_, by decide, by decide, fun z => ?_, fun z => ?_, fun r hr => ?_, fun b hb => ?_, by rw [s2], by rw [s2]; show h.2.2 + _ + _ ≤ _; omega⟩
  · simp only [fX11_makeDevice, jm_run, List.length_cons, List.length_nil, Nat.reduceAdd, if_true, jm_init, List.map_cons, List.map_nil, Nat.reduceSub, List.replicate, List.cons_append, List.nil_append, kX11_makeDevice]
    simp (disch := first | omega | assumption | (simp only [List.length_cons, List.length_nil]; omega) | decide | (simp (disch := decide) only [pu_up_ne, pu_up_at]; first | omega | assumption)) only [↓ja_int, ↓ja_null, ↓ja_iload_0, ↓ja_aload_0, ↓ja_istore_0, ↓ja_astore_0, ↓ja_kill_0, ↓ja_iinc_0, ↓ja_iload_1, ↓ja_aload_1, ↓ja_istore_1, ↓ja_astore_1, ↓ja_kill_1, ↓ja_iinc_1, ↓ja_iload_2, ↓ja_aload_2, ↓ja_istore_2, ↓ja_astore_2, ↓ja_kill_2, ↓ja_iinc_2, ↓ja_iload_3, ↓ja_aload_3, ↓ja_istore_3, ↓ja_astore_3, ↓ja_kill_3, ↓ja_iinc_3, ↓ja_iload_4, ↓ja_aload_4, ↓ja_istore_4, ↓ja_astore_4, ↓ja_kill_4, ↓ja_iinc_4, ↓ja_iload_5, ↓ja_aload_5, ↓ja_istore_5, ↓ja_astore_5, ↓ja_kill_5, ↓ja_iinc_5, ↓ja_iload_6, ↓ja_aload_6, ↓ja_istore_6, ↓ja_astore_6, ↓ja_kill_6, ↓ja_iinc_6, ↓ja_iload_7, ↓ja_aload_7, ↓ja_istore_7, ↓ja_astore_7, ↓ja_kill_7, ↓ja_iinc_7, ↓ja_iload_8, ↓ja_aload_8, ↓ja_istore_8, ↓ja_astore_8, ↓ja_kill_8, ↓ja_iinc_8, ↓ja_iload_9, ↓ja_aload_9, ↓ja_istore_9, ↓ja_astore_9, ↓ja_kill_9, ↓ja_iinc_9, ↓ja_iload_10, ↓ja_aload_10, ↓ja_istore_10, ↓ja_astore_10, ↓ja_kill_10, ↓ja_iinc_10, ↓ja_iadd, ↓ja_isub, ↓ja_imul, ↓ja_dup, ↓ja_dup2, ↓ja_i2b, ↓ja_ifeq, ↓ja_ifne, ↓ja_iflt, ↓ja_ifge, ↓ja_ifgt, ↓ja_ifle, ↓ja_icmpeq, ↓ja_icmpne, ↓ja_icmplt, ↓ja_icmpge, ↓ja_icmpgt, ↓ja_icmple, ↓ja_ifnull_n, ↓ja_ifnull_s, ↓ja_ifnonnull_n, ↓ja_ifnonnull_s, ↓ja_iret, ↓ja_aret, ↓ja_vret, ↓ja_zret0, ↓ja_zret1, ↓ja_sw, ↓ja_pe, ↓ja_pn, ↓ja_pz, ↓reduceIte, ite_self, Int.reduceEq, Int.reduceLT, Int.reduceLE, Int.reduceNeg, Int.reduceToNat, jm_wr_id, pb_none, pb_int, pb_ref, ↓rw_obj, ↓nn, ↓rw_ic1, c2, if_true, if_false, ↓jk_fix_pos, kX11_makeDevice_b, kX11_makeDevice_0, kX11_makeDevice_64, kX11_makeDevice_131, Nat.reduceEqDiff]
  · decide
  · rfl
  · rcases (show r = 0 ∨ r = 1 ∨ r = 2 ∨ r = 3 ∨ r = 4 by omega) with rfl | rfl | rfl | rfl | rfl
    · rw [Nat.add_zero, q2, show 0 + 3 = 3 by rfl, cell_3 tg]
      show _ = some (7, 11, pu_dev ad κ d)
      congr 3
      funext j
      simp only [jm_upd, pu_dev, pu_own, tg, a4, a5, a6, a7, e18, e19, e20, e21, e23, e24, e25, e26, e27, e34, e43]
      rcases (show j = 0 ∨ j = 1 ∨ j = 2 ∨ j = 3 ∨ j = 4 ∨ j = 5 ∨ j = 6 ∨ j = 7 ∨ j = 8 ∨ j = 9 ∨ j = 10 ∨ 11 ≤ j by omega) with rfl | rfl | rfl | rfl | rfl | rfl | rfl | rfl | rfl | rfl | rfl | hj
      · rfl
      · rfl
      · rfl
      · rfl
      · rfl
      · rfl
      · rfl
      · rfl
      · rfl
      · rfl
      · rfl
      · simp [show j ≠ 0 by omega, show j ≠ 1 by omega, show j ≠ 2 by omega, show j ≠ 3 by omega, show j ≠ 4 by omega, show j ≠ 5 by omega, show j ≠ 6 by omega, show j ≠ 7 by omega, show j ≠ 8 by omega, show j ≠ 9 by omega, show j ≠ 10 by omega]
    · rw [l2, show 1 + 3 = 4 by rfl, cell_4 z22]
    · rw [show h.2.1 + 2 = h.2.1 + 1 + 1 by rfl, m2, show 2 + 3 = 5 by rfl, cell_5 z33]
    · rw [show h.2.1 + 3 = h.2.1 + 1 + 2 by rfl, g0, show 3 + 3 = 6 by rfl]
      simp only [pu_cell, Nat.reduceEqDiff, if_false, if_true, e18, Int.reduceEq]
      rw [arr_z (fun j hj => by rw [z16 30 j hj (by decide)])]
    · rw [show h.2.1 + 4 = h.2.1 + 1 + 3 by rfl, g1, show 4 + 3 = 7 by rfl, cell_7 (fun j hj => z16 31 j hj (by decide))]
  · rw [o2 b (by omega) (by omega), u1 b (by omega)]
set_option maxHeartbeats 4000000 in
theorem mk_dev10 {n : Nat} {h : jH} {ad : Nat → Int → Nat} {κ σ : aS} {d x : Int} (hn : 10 ≤ n) (hx : x = 0) (e18 : κ 18 d = 10) (e24 : κ 24 d = 0) (a4 : ad 4 d = h.2.1 + 1) (a5 : ad 5 d = h.2.1 + 2) (a6 : ad 6 d = h.2.1 + 3) (a7 : ad 7 d = h.2.1 + 4) (e19 : κ 19 d = x) (e20 : κ 20 d = 0) (e21 : κ 21 d = 0) (e23 : κ 23 d = 0) (e25 : κ 25 d = 0) (e26 : κ 26 d = -1) (e27 : κ 27 d = 0) (e34 : κ 34 d = 0) (e43 : κ 43 d = 0) (z22 : ∀ j : Nat, j < 16 → κ 22 (16 * d + j) = -1) (z33 : ∀ j : Nat, j < 300 → κ 33 (300 * d + j) = 0) (z16 : ∀ (c j : Nat), j < 16 → c = 29 ∨ c = 30 ∨ c = 31 ∨ c = 42 → κ c (16 * d + j) = 0) (z32 : ∀ j : Nat, j < 8 → κ 32 (8 * d + j) = 0) : ∃ (z : jH) (m : Nat), fX11_makeDevice n [.inl 10, .inl d, .inl x] h = some (some (.inr (some h.2.1)), z) ∧ 3 ≤ m ∧ m ≤ 5 ∧ (κ 18 d = 5 ∨ κ 18 d = 6 ∨ κ 18 d = 9 ∨ κ 18 d = 11 → 4 ≤ m) ∧ (κ 18 d = 9 → m = 5) ∧ (∀ r : Nat, r < m → z.1 (h.2.1 + r) = some (pu_cell ad κ σ (r + 3) d)) ∧ (∀ b, (b < h.2.1 ∨ h.2.1 + m ≤ b) → z.1 b = h.1 b) ∧ z.2.1 = h.2.1 + m ∧ z.2.2 ≤ h.2.2 + 400 := by
  subst hx
  have tg : pu_tag (κ 18 d) = 8 := by rw [e18]; rfl
  obtain ⟨h1, eh1⟩ : ∃ z : jH, z = jm_new h (8, 10, fun j => if j ∈ [4, 6] then .inr none else .inl 0) := ⟨_, rfl⟩
  have q1 : h1.1 h.2.1 = some (8, 10, fun j => if j ∈ [4, 6] then .inr none else .inl 0) := by rw [eh1]; exact nw_at
  have s11 : h1.2.1 = h.2.1 + 1 := by rw [eh1, nw_2]
  have s12 : h1.2.2 = h.2.2 + 10 := by rw [eh1, nw_2]
  have u1 : ∀ b, b ≠ h.2.1 → h1.1 b = h.1 b := fun b hb => by rw [eh1]; exact nw_ne hb
  have nn : ∀ {kk : jK} {LL : List (Option jV)} {SS : List jV}, jk_new 8 10 [4, 6] kk LL SS h = kk LL (.inr (some h.2.1) :: SS) h1 := fun {kk LL SS} => by rw [eh1]; exact rw_new
  obtain ⟨h2, c2, q2, l2, m2, o2, s2⟩ := k_init9 (n := n) (d := d) (x := 0) (k := 10) q1 (by omega)
  rw [s11] at q2 l2 m2 o2 s2
  rw [s12] at s2
  refine ⟨h2, 3, ?_, by decide, by decide, fun z => ?_, fun z => ?_, fun r hr => ?_, fun b hb => ?_, by rw [s2], by rw [s2]; show h.2.2 + _ + _ ≤ _; omega⟩
  · simp only [fX11_makeDevice, jm_run, List.length_cons, List.length_nil, Nat.reduceAdd, if_true, jm_init, List.map_cons, List.map_nil, Nat.reduceSub, List.replicate, List.cons_append, List.nil_append, kX11_makeDevice]
    simp (disch := first | omega | assumption | (simp only [List.length_cons, List.length_nil]; omega) | decide | (simp (disch := decide) only [pu_up_ne, pu_up_at]; first | omega | assumption)) only [↓ja_int, ↓ja_null, ↓ja_iload_0, ↓ja_aload_0, ↓ja_istore_0, ↓ja_astore_0, ↓ja_kill_0, ↓ja_iinc_0, ↓ja_iload_1, ↓ja_aload_1, ↓ja_istore_1, ↓ja_astore_1, ↓ja_kill_1, ↓ja_iinc_1, ↓ja_iload_2, ↓ja_aload_2, ↓ja_istore_2, ↓ja_astore_2, ↓ja_kill_2, ↓ja_iinc_2, ↓ja_iload_3, ↓ja_aload_3, ↓ja_istore_3, ↓ja_astore_3, ↓ja_kill_3, ↓ja_iinc_3, ↓ja_iload_4, ↓ja_aload_4, ↓ja_istore_4, ↓ja_astore_4, ↓ja_kill_4, ↓ja_iinc_4, ↓ja_iload_5, ↓ja_aload_5, ↓ja_istore_5, ↓ja_astore_5, ↓ja_kill_5, ↓ja_iinc_5, ↓ja_iload_6, ↓ja_aload_6, ↓ja_istore_6, ↓ja_astore_6, ↓ja_kill_6, ↓ja_iinc_6, ↓ja_iload_7, ↓ja_aload_7, ↓ja_istore_7, ↓ja_astore_7, ↓ja_kill_7, ↓ja_iinc_7, ↓ja_iload_8, ↓ja_aload_8, ↓ja_istore_8, ↓ja_astore_8, ↓ja_kill_8, ↓ja_iinc_8, ↓ja_iload_9, ↓ja_aload_9, ↓ja_istore_9, ↓ja_astore_9, ↓ja_kill_9, ↓ja_iinc_9, ↓ja_iload_10, ↓ja_aload_10, ↓ja_istore_10, ↓ja_astore_10, ↓ja_kill_10, ↓ja_iinc_10, ↓ja_iadd, ↓ja_isub, ↓ja_imul, ↓ja_dup, ↓ja_dup2, ↓ja_i2b, ↓ja_ifeq, ↓ja_ifne, ↓ja_iflt, ↓ja_ifge, ↓ja_ifgt, ↓ja_ifle, ↓ja_icmpeq, ↓ja_icmpne, ↓ja_icmplt, ↓ja_icmpge, ↓ja_icmpgt, ↓ja_icmple, ↓ja_ifnull_n, ↓ja_ifnull_s, ↓ja_ifnonnull_n, ↓ja_ifnonnull_s, ↓ja_iret, ↓ja_aret, ↓ja_vret, ↓ja_zret0, ↓ja_zret1, ↓ja_sw, ↓ja_pe, ↓ja_pn, ↓ja_pz, ↓reduceIte, ite_self, Int.reduceEq, Int.reduceLT, Int.reduceLE, Int.reduceNeg, Int.reduceToNat, jm_wr_id, pb_none, pb_int, pb_ref, ↓rw_obj, ↓nn, ↓rw_ic3, c2, if_true, if_false, ↓jk_fix_pos, kX11_makeDevice_b, kX11_makeDevice_0, kX11_makeDevice_64, kX11_makeDevice_131, Nat.reduceEqDiff]
  · rw [e18] at z
    omega
  · rw [e18] at z
    omega
  · rcases (show r = 0 ∨ r = 1 ∨ r = 2 by omega) with rfl | rfl | rfl
    · rw [Nat.add_zero, q2, show 0 + 3 = 3 by rfl, cell_3 tg]
      show _ = some (8, 10, pu_dev ad κ d)
      congr 3
      funext j
      simp only [jm_upd, pu_dev, pu_own, tg, a4, a5, a6, a7, e18, e19, e20, e21, e23, e24, e25, e26, e27, e34, e43]
      rcases (show j = 0 ∨ j = 1 ∨ j = 2 ∨ j = 3 ∨ j = 4 ∨ j = 5 ∨ j = 6 ∨ j = 7 ∨ j = 8 ∨ j = 9 ∨ j = 10 ∨ 11 ≤ j by omega) with rfl | rfl | rfl | rfl | rfl | rfl | rfl | rfl | rfl | rfl | rfl | hj
      · rfl
      · rfl
      · rfl
      · rfl
      · rfl
      · rfl
      · rfl
      · rfl
      · rfl
      · rfl
      · rfl
      · simp [show j ≠ 0 by omega, show j ≠ 1 by omega, show j ≠ 2 by omega, show j ≠ 3 by omega, show j ≠ 4 by omega, show j ≠ 5 by omega, show j ≠ 6 by omega, show j ≠ 7 by omega, show j ≠ 8 by omega, show j ≠ 9 by omega, show j ≠ 10 by omega]
    · rw [l2, show 1 + 3 = 4 by rfl, cell_4 z22]
    · rw [show h.2.1 + 2 = h.2.1 + 1 + 1 by rfl, m2, show 2 + 3 = 5 by rfl, cell_5 z33]
  · rw [o2 b (by omega) (by omega), u1 b (by omega)]
set_option maxHeartbeats 4000000 in
theorem mk_dev11 {n : Nat} {h : jH} {ad : Nat → Int → Nat} {κ σ : aS} {d x : Int} (hn : 10 ≤ n) (e18 : κ 18 d = 11) (e24 : κ 24 d = 0) (a4 : ad 4 d = h.2.1 + 1) (a5 : ad 5 d = h.2.1 + 2) (a6 : ad 6 d = h.2.1 + 3) (a7 : ad 7 d = h.2.1 + 4) (e19 : κ 19 d = x) (e20 : κ 20 d = 0) (e21 : κ 21 d = 0) (e23 : κ 23 d = 0) (e25 : κ 25 d = 0) (e26 : κ 26 d = -1) (e27 : κ 27 d = 0) (e34 : κ 34 d = 0) (e43 : κ 43 d = 0) (z22 : ∀ j : Nat, j < 16 → κ 22 (16 * d + j) = -1) (z33 : ∀ j : Nat, j < 300 → κ 33 (300 * d + j) = 0) (z16 : ∀ (c j : Nat), j < 16 → c = 29 ∨ c = 30 ∨ c = 31 ∨ c = 42 → κ c (16 * d + j) = 0) (z32 : ∀ j : Nat, j < 8 → κ 32 (8 * d + j) = 0) : ∃ (z : jH) (m : Nat), fX11_makeDevice n [.inl 11, .inl d, .inl x] h = some (some (.inr (some h.2.1)), z) ∧ 3 ≤ m ∧ m ≤ 5 ∧ (κ 18 d = 5 ∨ κ 18 d = 6 ∨ κ 18 d = 9 ∨ κ 18 d = 11 → 4 ≤ m) ∧ (κ 18 d = 9 → m = 5) ∧ (∀ r : Nat, r < m → z.1 (h.2.1 + r) = some (pu_cell ad κ σ (r + 3) d)) ∧ (∀ b, (b < h.2.1 ∨ h.2.1 + m ≤ b) → z.1 b = h.1 b) ∧ z.2.1 = h.2.1 + m ∧ z.2.2 ≤ h.2.2 + 400 := by
  have tg : pu_tag (κ 18 d) = 5 := by rw [e18]; rfl
  obtain ⟨h1, eh1⟩ : ∃ z : jH, z = jm_new h (5, 10, fun j => if j ∈ [4, 6, 8] then .inr none else .inl 0) := ⟨_, rfl⟩
  have q1 : h1.1 h.2.1 = some (5, 10, fun j => if j ∈ [4, 6, 8] then .inr none else .inl 0) := by rw [eh1]; exact nw_at
  have s11 : h1.2.1 = h.2.1 + 1 := by rw [eh1, nw_2]
  have s12 : h1.2.2 = h.2.2 + 10 := by rw [eh1, nw_2]
  have u1 : ∀ b, b ≠ h.2.1 → h1.1 b = h.1 b := fun b hb => by rw [eh1]; exact nw_ne hb
  have nn : ∀ {kk : jK} {LL : List (Option jV)} {SS : List jV}, jk_new 5 10 [4, 6, 8] kk LL SS h = kk LL (.inr (some h.2.1) :: SS) h1 := fun {kk LL SS} => by rw [eh1]; exact rw_new
  obtain ⟨h2, c2, q2, l2, m2, g0, o2, s2⟩ := k_init6 (n := n) (d := d) q1 (by omega)
  rw [s11] at q2 l2 m2 g0 o2 s2
  rw [s12] at s2
  refine ⟨h2, 4, ?_, by decide, by decide, fun z => ?_, fun z => ?_, fun r hr => ?_, fun b hb => ?_, by rw [s2], by rw [s2]; show h.2.2 + _ + _ ≤ _; omega⟩
  · simp only [fX11_makeDevice, jm_run, List.length_cons, List.length_nil, Nat.reduceAdd, if_true, jm_init, List.map_cons, List.map_nil, Nat.reduceSub, List.replicate, List.cons_append, List.nil_append, kX11_makeDevice]
    simp (disch := first | omega | assumption | (simp only [List.length_cons, List.length_nil]; omega) | decide | (simp (disch := decide) only [pu_up_ne, pu_up_at]; first | omega | assumption)) only [↓ja_int, ↓ja_null, ↓ja_iload_0, ↓ja_aload_0, ↓ja_istore_0, ↓ja_astore_0, ↓ja_kill_0, ↓ja_iinc_0, ↓ja_iload_1, ↓ja_aload_1, ↓ja_istore_1, ↓ja_astore_1, ↓ja_kill_1, ↓ja_iinc_1, ↓ja_iload_2, ↓ja_aload_2, ↓ja_istore_2, ↓ja_astore_2, ↓ja_kill_2, ↓ja_iinc_2, ↓ja_iload_3, ↓ja_aload_3, ↓ja_istore_3, ↓ja_astore_3, ↓ja_kill_3, ↓ja_iinc_3, ↓ja_iload_4, ↓ja_aload_4, ↓ja_istore_4, ↓ja_astore_4, ↓ja_kill_4, ↓ja_iinc_4, ↓ja_iload_5, ↓ja_aload_5, ↓ja_istore_5, ↓ja_astore_5, ↓ja_kill_5, ↓ja_iinc_5, ↓ja_iload_6, ↓ja_aload_6, ↓ja_istore_6, ↓ja_astore_6, ↓ja_kill_6, ↓ja_iinc_6, ↓ja_iload_7, ↓ja_aload_7, ↓ja_istore_7, ↓ja_astore_7, ↓ja_kill_7, ↓ja_iinc_7, ↓ja_iload_8, ↓ja_aload_8, ↓ja_istore_8, ↓ja_astore_8, ↓ja_kill_8, ↓ja_iinc_8, ↓ja_iload_9, ↓ja_aload_9, ↓ja_istore_9, ↓ja_astore_9, ↓ja_kill_9, ↓ja_iinc_9, ↓ja_iload_10, ↓ja_aload_10, ↓ja_istore_10, ↓ja_astore_10, ↓ja_kill_10, ↓ja_iinc_10, ↓ja_iadd, ↓ja_isub, ↓ja_imul, ↓ja_dup, ↓ja_dup2, ↓ja_i2b, ↓ja_ifeq, ↓ja_ifne, ↓ja_iflt, ↓ja_ifge, ↓ja_ifgt, ↓ja_ifle, ↓ja_icmpeq, ↓ja_icmpne, ↓ja_icmplt, ↓ja_icmpge, ↓ja_icmpgt, ↓ja_icmple, ↓ja_ifnull_n, ↓ja_ifnull_s, ↓ja_ifnonnull_n, ↓ja_ifnonnull_s, ↓ja_iret, ↓ja_aret, ↓ja_vret, ↓ja_zret0, ↓ja_zret1, ↓ja_sw, ↓ja_pe, ↓ja_pn, ↓ja_pz, ↓reduceIte, ite_self, Int.reduceEq, Int.reduceLT, Int.reduceLE, Int.reduceNeg, Int.reduceToNat, jm_wr_id, pb_none, pb_int, pb_ref, ↓rw_obj, ↓nn, ↓rw_ic1, c2, if_true, if_false, ↓jk_fix_pos, kX11_makeDevice_b, kX11_makeDevice_0, kX11_makeDevice_64, kX11_makeDevice_131, Nat.reduceEqDiff]
  · decide
  · rw [e18] at z
    omega
  · rcases (show r = 0 ∨ r = 1 ∨ r = 2 ∨ r = 3 by omega) with rfl | rfl | rfl | rfl
    · rw [Nat.add_zero, q2, show 0 + 3 = 3 by rfl, cell_3 tg]
      show _ = some (5, 10, pu_dev ad κ d)
      congr 3
      funext j
      simp only [jm_upd, pu_dev, pu_own, tg, a4, a5, a6, a7, e18, e19, e20, e21, e23, e24, e25, e26, e27, e34, e43]
      rcases (show j = 0 ∨ j = 1 ∨ j = 2 ∨ j = 3 ∨ j = 4 ∨ j = 5 ∨ j = 6 ∨ j = 7 ∨ j = 8 ∨ j = 9 ∨ j = 10 ∨ 11 ≤ j by omega) with rfl | rfl | rfl | rfl | rfl | rfl | rfl | rfl | rfl | rfl | rfl | hj
      · rfl
      · rfl
      · rfl
      · rfl
      · rfl
      · rfl
      · rfl
      · rfl
      · rfl
      · rfl
      · rfl
      · simp [show j ≠ 0 by omega, show j ≠ 1 by omega, show j ≠ 2 by omega, show j ≠ 3 by omega, show j ≠ 4 by omega, show j ≠ 5 by omega, show j ≠ 6 by omega, show j ≠ 7 by omega, show j ≠ 8 by omega, show j ≠ 9 by omega, show j ≠ 10 by omega]
    · rw [l2, show 1 + 3 = 4 by rfl, cell_4 z22]
    · rw [show h.2.1 + 2 = h.2.1 + 1 + 1 by rfl, m2, show 2 + 3 = 5 by rfl, cell_5 z33]
    · rw [show h.2.1 + 3 = h.2.1 + 1 + 2 by rfl, g0, show 3 + 3 = 6 by rfl]
      simp only [pu_cell, Nat.reduceEqDiff, if_false, if_true, e18, Int.reduceEq]
      rw [arr_z (fun j hj => by rw [z16 42 j hj (by decide)])]
  · rw [o2 b (by omega) (by omega), u1 b (by omega)]
set_option maxHeartbeats 4000000 in
theorem mk_dev {n : Nat} {h : jH} {ad : Nat → Int → Nat} {κ σ : aS} {d x k : Int} (hn : 10 ≤ n) (k0 : 0 ≤ k) (k1 : k < 12) (hx0 : 0 ≤ x) (hx1 : x ≤ p_most k) (e18 : κ 18 d = k) (e24 : κ 24 d = if k < 3 then x else 0) (a4 : ad 4 d = h.2.1 + 1) (a5 : ad 5 d = h.2.1 + 2) (a6 : ad 6 d = h.2.1 + 3) (a7 : ad 7 d = h.2.1 + 4) (e19 : κ 19 d = x) (e20 : κ 20 d = 0) (e21 : κ 21 d = 0) (e23 : κ 23 d = 0) (e25 : κ 25 d = 0) (e26 : κ 26 d = -1) (e27 : κ 27 d = 0) (e34 : κ 34 d = 0) (e43 : κ 43 d = 0) (z22 : ∀ j : Nat, j < 16 → κ 22 (16 * d + j) = -1) (z33 : ∀ j : Nat, j < 300 → κ 33 (300 * d + j) = 0) (z16 : ∀ (c j : Nat), j < 16 → c = 29 ∨ c = 30 ∨ c = 31 ∨ c = 42 → κ c (16 * d + j) = 0) (z32 : ∀ j : Nat, j < 8 → κ 32 (8 * d + j) = 0) : ∃ (z : jH) (m : Nat), fX11_makeDevice n [.inl k, .inl d, .inl x] h = some (some (.inr (some h.2.1)), z) ∧ 3 ≤ m ∧ m ≤ 5 ∧ (κ 18 d = 5 ∨ κ 18 d = 6 ∨ κ 18 d = 9 ∨ κ 18 d = 11 → 4 ≤ m) ∧ (κ 18 d = 9 → m = 5) ∧ (∀ r : Nat, r < m → z.1 (h.2.1 + r) = some (pu_cell ad κ σ (r + 3) d)) ∧ (∀ b, (b < h.2.1 ∨ h.2.1 + m ≤ b) → z.1 b = h.1 b) ∧ z.2.1 = h.2.1 + m ∧ z.2.2 ≤ h.2.2 + 400 := by
  rcases (show k = 0 ∨ k = 1 ∨ k = 2 ∨ k = 3 ∨ k = 4 ∨ k = 5 ∨ k = 6 ∨ k = 7 ∨ k = 8 ∨ k = 9 ∨ k = 10 ∨ k = 11 by omega) with rfl | rfl | rfl | rfl | rfl | rfl | rfl | rfl | rfl | rfl | rfl | rfl
  · exact mk_dev0 hn e18 (by rw [e24]; rfl) a4 a5 a6 a7 e19 e20 e21 e23 e25 e26 e27 e34 e43 z22 z33 z16 z32
  · exact mk_dev1 hn e18 (by rw [e24]; rfl) a4 a5 a6 a7 e19 e20 e21 e23 e25 e26 e27 e34 e43 z22 z33 z16 z32
  · exact mk_dev2 hn e18 (by rw [e24]; rfl) a4 a5 a6 a7 e19 e20 e21 e23 e25 e26 e27 e34 e43 z22 z33 z16 z32
  · exact mk_dev3 hn e18 (by rw [e24]; rfl) a4 a5 a6 a7 e19 e20 e21 e23 e25 e26 e27 e34 e43 z22 z33 z16 z32
  · exact mk_dev4 hn e18 (by rw [e24]; rfl) a4 a5 a6 a7 e19 e20 e21 e23 e25 e26 e27 e34 e43 z22 z33 z16 z32
  · exact mk_dev5 hn e18 (by rw [e24]; rfl) a4 a5 a6 a7 e19 e20 e21 e23 e25 e26 e27 e34 e43 z22 z33 z16 z32
  · exact mk_dev6 hn (by have : x ≤ 8 := hx1; exact this) e18 (by rw [e24]; rfl) a4 a5 a6 a7 e19 e20 e21 e23 e25 e26 e27 e34 e43 z22 z33 z16 z32
  · exact mk_dev7 hn (by have : x ≤ 0 := hx1; omega) e18 (by rw [e24]; rfl) a4 a5 a6 a7 e19 e20 e21 e23 e25 e26 e27 e34 e43 z22 z33 z16 z32
  · exact mk_dev8 hn (by have : x ≤ 0 := hx1; omega) e18 (by rw [e24]; rfl) a4 a5 a6 a7 e19 e20 e21 e23 e25 e26 e27 e34 e43 z22 z33 z16 z32
  · exact mk_dev9 hn e18 (by rw [e24]; rfl) a4 a5 a6 a7 e19 e20 e21 e23 e25 e26 e27 e34 e43 z22 z33 z16 z32
  · exact mk_dev10 hn (by have : x ≤ 0 := hx1; omega) e18 (by rw [e24]; rfl) a4 a5 a6 a7 e19 e20 e21 e23 e25 e26 e27 e34 e43 z22 z33 z16 z32
  · exact mk_dev11 hn e18 (by rw [e24]; rfl) a4 a5 a6 a7 e19 e20 e21 e23 e25 e26 e27 e34 e43 z22 z33 z16 z32
