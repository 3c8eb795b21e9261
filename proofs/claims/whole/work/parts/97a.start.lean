set_option maxHeartbeats 4000000 in
theorem k_init11 {n : Nat} {h : jH} {a : Nat} {f : Nat → jV} (hq : h.1 a = some (10, 9, f)) (hlt : a < h.2.1) : ∃ z : jH, fX11_init n [.inr (some a)] h = some (none, z) ∧ z.1 a = some (10, 9, jm_upd (jm_upd (jm_upd f 0 (.inr (some h.2.1))) 2 (.inr (some (h.2.1 + 1)))) 4 (.inr (some (h.2.1 + 2)))) ∧ z.1 h.2.1 = some (23, 16, fun _ => .inr none) ∧ z.1 (h.2.1 + 1) = some (24, 12, fun _ => .inr none) ∧ z.1 (h.2.1 + 2) = some (20, 200, fun _ => .inl 0) ∧ (∀ b, b ≠ a → (b < h.2.1 ∨ h.2.1 + 3 ≤ b) → z.1 b = h.1 b) ∧ z.2 = (h.2.1 + 3, h.2.2 + 228) := by
  obtain ⟨h1, eh1⟩ : ∃ z : jH, z = jm_new h (23, 16, fun _ => .inr none) := ⟨_, rfl⟩
  have nh1 : ∀ {kk : jK} {LL : List (Option jV)} {SS : List jV}, jk_newarr 23 (.inr none) kk LL (.inl 16 :: SS) h = kk LL (.inr (some h.2.1) :: SS) h1 := fun {kk LL SS} => by rw [eh1]; exact rw_newarr (by decide) (by decide)
  have zh1 : h1.2 = (h.2.1 + 1, h.2.2 + 16) := by rw [eh1]; exact nw_2
  have qh1 : h1.1 a = some (10, 9, f) := by rw [eh1, nw_ne (by omega)]; exact hq
  obtain ⟨h2, eh2⟩ : ∃ z : jH, z = jm_set h1 a (10, 9, f) 0 (.inr (some h.2.1)) := ⟨_, rfl⟩
  have ph2 : ∀ {kk : jK} {LL : List (Option jV)} {SS : List jV}, jk_puta [10] 0 kk LL (.inr (some h.2.1) :: .inr (some a) :: SS) h1 = kk LL SS h2 := fun {kk LL SS} => by rw [eh2]; exact rw_puta qh1 (by simp)
  have qh2 : h2.1 a = some (10, 9, jm_upd f 0 (.inr (some h.2.1))) := by rw [eh2]; exact st_at
  have zh2 : h2.2 = (h.2.1 + 1, h.2.2 + 16) := by rw [eh2, st_2]; exact zh1
  obtain ⟨h3, eh3⟩ : ∃ z : jH, z = jm_new h2 (24, 12, fun _ => .inr none) := ⟨_, rfl⟩
  have nh3 : ∀ {kk : jK} {LL : List (Option jV)} {SS : List jV}, jk_newarr 24 (.inr none) kk LL (.inl 12 :: SS) h2 = kk LL (.inr (some h2.2.1) :: SS) h3 := fun {kk LL SS} => by rw [eh3]; exact rw_newarr (by decide) (by decide)
  have zh3 : h3.2 = (h.2.1 + 2, h.2.2 + 28) := by rw [eh3, nw_2, zh2]; exact Prod.ext (show h.2.1 + 1 + 1 = h.2.1 + 2 by omega) (show h.2.2 + 16 + 12 = h.2.2 + 28 by omega)
  have yh3 : h2.2.1 = h.2.1 + 1 := by rw [zh2]
  rw [yh3] at nh3
  have qh3 : h3.1 a = some (10, 9, jm_upd f 0 (.inr (some h.2.1))) := by rw [eh3, nw_ne (by omega)]; exact qh2
  obtain ⟨h4, eh4⟩ : ∃ z : jH, z = jm_set h3 a (10, 9, jm_upd f 0 (.inr (some h.2.1))) 2 (.inr (some (h.2.1 + 1))) := ⟨_, rfl⟩
  have ph4 : ∀ {kk : jK} {LL : List (Option jV)} {SS : List jV}, jk_puta [10] 2 kk LL (.inr (some (h.2.1 + 1)) :: .inr (some a) :: SS) h3 = kk LL SS h4 := fun {kk LL SS} => by rw [eh4]; exact rw_puta qh3 (by simp)
  have qh4 : h4.1 a = some (10, 9, jm_upd (jm_upd f 0 (.inr (some h.2.1))) 2 (.inr (some (h.2.1 + 1)))) := by rw [eh4]; exact st_at
  have zh4 : h4.2 = (h.2.1 + 2, h.2.2 + 28) := by rw [eh4, st_2]; exact zh3
  obtain ⟨h5, eh5⟩ : ∃ z : jH, z = jm_new h4 (20, 200, fun _ => .inl 0) := ⟨_, rfl⟩
  have nh5 : ∀ {kk : jK} {LL : List (Option jV)} {SS : List jV}, jk_newarr 20 (.inl 0) kk LL (.inl 200 :: SS) h4 = kk LL (.inr (some h4.2.1) :: SS) h5 := fun {kk LL SS} => by rw [eh5]; exact rw_newarr (by decide) (by decide)
  have zh5 : h5.2 = (h.2.1 + 3, h.2.2 + 228) := by rw [eh5, nw_2, zh4]; exact Prod.ext (show h.2.1 + 2 + 1 = h.2.1 + 3 by omega) (show h.2.2 + 28 + 200 = h.2.2 + 228 by omega)
  have yh5 : h4.2.1 = h.2.1 + 2 := by rw [zh4]
  rw [yh5] at nh5
  have qh5 : h5.1 a = some (10, 9, jm_upd (jm_upd f 0 (.inr (some h.2.1))) 2 (.inr (some (h.2.1 + 1)))) := by rw [eh5, nw_ne (by omega)]; exact qh4
  obtain ⟨h6, eh6⟩ : ∃ z : jH, z = jm_set h5 a (10, 9, jm_upd (jm_upd f 0 (.inr (some h.2.1))) 2 (.inr (some (h.2.1 + 1)))) 4 (.inr (some (h.2.1 + 2))) := ⟨_, rfl⟩
  have ph6 : ∀ {kk : jK} {LL : List (Option jV)} {SS : List jV}, jk_puta [10] 4 kk LL (.inr (some (h.2.1 + 2)) :: .inr (some a) :: SS) h5 = kk LL SS h6 := fun {kk LL SS} => by rw [eh6]; exact rw_puta qh5 (by simp)
  have qh6 : h6.1 a = some (10, 9, jm_upd (jm_upd (jm_upd f 0 (.inr (some h.2.1))) 2 (.inr (some (h.2.1 + 1)))) 4 (.inr (some (h.2.1 + 2)))) := by rw [eh6]; exact st_at
  have zh6 : h6.2 = (h.2.1 + 3, h.2.2 + 228) := by rw [eh6, st_2]; exact zh5
  refine ⟨h6, ?_, qh6, ?_, ?_, ?_, fun b b1 b2 => ?_, zh6⟩
  · simp only [fX11_init, jm_run, List.length_cons, List.length_nil, Nat.reduceAdd, if_true, jm_init, List.map_cons, List.map_nil, Nat.reduceSub, List.replicate, List.cons_append, List.nil_append, kX11_init]
    simp (disch := first | omega | assumption | (simp only [List.length_cons, List.length_nil]; omega) | decide | (simp (disch := decide) only [pu_up_ne, pu_up_at]; first | omega | assumption)) only [↓ja_int, ↓ja_null, ↓ja_iload_0, ↓ja_aload_0, ↓ja_istore_0, ↓ja_astore_0, ↓ja_kill_0, ↓ja_iinc_0, ↓ja_iload_1, ↓ja_aload_1, ↓ja_istore_1, ↓ja_astore_1, ↓ja_kill_1, ↓ja_iinc_1, ↓ja_iload_2, ↓ja_aload_2, ↓ja_istore_2, ↓ja_astore_2, ↓ja_kill_2, ↓ja_iinc_2, ↓ja_iload_3, ↓ja_aload_3, ↓ja_istore_3, ↓ja_astore_3, ↓ja_kill_3, ↓ja_iinc_3, ↓ja_iload_4, ↓ja_aload_4, ↓ja_istore_4, ↓ja_astore_4, ↓ja_kill_4, ↓ja_iinc_4, ↓ja_iload_5, ↓ja_aload_5, ↓ja_istore_5, ↓ja_astore_5, ↓ja_kill_5, ↓ja_iinc_5, ↓ja_iload_6, ↓ja_aload_6, ↓ja_istore_6, ↓ja_astore_6, ↓ja_kill_6, ↓ja_iinc_6, ↓ja_iload_7, ↓ja_aload_7, ↓ja_istore_7, ↓ja_astore_7, ↓ja_kill_7, ↓ja_iinc_7, ↓ja_iload_8, ↓ja_aload_8, ↓ja_istore_8, ↓ja_astore_8, ↓ja_kill_8, ↓ja_iinc_8, ↓ja_iload_9, ↓ja_aload_9, ↓ja_istore_9, ↓ja_astore_9, ↓ja_kill_9, ↓ja_iinc_9, ↓ja_iload_10, ↓ja_aload_10, ↓ja_istore_10, ↓ja_astore_10, ↓ja_kill_10, ↓ja_iinc_10, ↓ja_iadd, ↓ja_isub, ↓ja_imul, ↓ja_dup, ↓ja_dup2, ↓ja_i2b, ↓ja_ifeq, ↓ja_ifne, ↓ja_iflt, ↓ja_ifge, ↓ja_ifgt, ↓ja_ifle, ↓ja_icmpeq, ↓ja_icmpne, ↓ja_icmplt, ↓ja_icmpge, ↓ja_icmpgt, ↓ja_icmple, ↓ja_ifnull_n, ↓ja_ifnull_s, ↓ja_ifnonnull_n, ↓ja_ifnonnull_s, ↓ja_iret, ↓ja_aret, ↓ja_vret, ↓ja_zret0, ↓ja_zret1, ↓ja_sw, ↓ja_pe, ↓ja_pn, ↓ja_pz, ↓reduceIte, ite_self, Int.reduceEq, Int.reduceLT, Int.reduceLE, Int.reduceNeg, Int.reduceToNat, jm_wr_id, pb_none, pb_int, pb_ref, ↓rw_obj, ↓nh1, ↓ph2, ↓nh3, ↓ph4, ↓nh5, ↓ph6]
  · rw [eh6, st_ne (by omega), eh5, nw_ne (by omega), eh4, st_ne (by omega), eh3, nw_ne (by omega), eh2, st_ne (by omega), eh1]
    exact nw_at
  · rw [eh6, st_ne (by omega), eh5, nw_ne (by omega), eh4, st_ne (by omega), eh3, ← yh3]
    exact nw_at
  · rw [eh6, st_ne (by omega), eh5, ← yh5]
    exact nw_at
  · rw [eh6, st_ne b1, eh5, nw_ne (by omega), eh4, st_ne b1, eh3, nw_ne (by omega), eh2, st_ne b1, eh1, nw_ne (by omega)]
/-! the reference's constructor -/
def fn_13 (N j : Nat) : Nat → jV := fun k => if 3 ≤ k ∧ k < j then .inr (some (N + k - 3)) else if 3 ≤ k ∧ k ≤ 36 then .inr none else .inl 0
def MI (hb : jH) (a N j : Nat) (h : jH) : Prop := h.1 a = some (11, 39, fn_13 N j) ∧ h.2.1 = N + j - 3 ∧ (∀ k : Nat, 3 ≤ k → k < j → h.1 (N + k - 3) = some (if k = 33 then 22 else 20, pu_len k, fun _ => .inl 0)) ∧ (∀ b, b ≠ a → (b < N ∨ N + j - 3 ≤ b) → h.1 b = hb.1 b) ∧ h.2.2 ≤ hb.2.2 + 4000 * (j - 3)
theorem pu_len_le (c : Int) : pu_len c ≤ 3600 := by
  unfold pu_len
  repeat' split
  all_goals omega
theorem mi_step {hb h : jH} {a N j : Nat} {tg : Nat} {c : Int} (ha : a < N) (h3 : 3 ≤ j) (h36 : j ≤ 36) (htg : tg = if j = 33 then 22 else 20) (hc : c = ((pu_len j : Nat) : Int)) (m : MI hb a N j h) : ∃ z : jH, (∀ k : jK, jk_aload 0 (jk_int c (jk_newarr tg (.inl 0) (jk_puta [11] j k))) [some (.inr (some a))] [] h = k [some (.inr (some a))] [] z) ∧ MI hb a N (j + 1) z := by
  obtain ⟨m1, m2, m3, m4, m5⟩ := m
  have hp := pu_len_le j
  obtain ⟨h1, e1⟩ : ∃ z : jH, z = jm_new h (tg, c.toNat, fun _ => .inl 0) := ⟨_, rfl⟩
  have q1 : h1.1 a = some (11, 39, fn_13 N j) := by rw [e1, nw_ne (by omega)]; exact m1
  obtain ⟨h2, e2⟩ : ∃ z : jH, z = jm_set h1 a (11, 39, fn_13 N j) j (.inr (some h.2.1)) := ⟨_, rfl⟩
  have z1 : h1.2 = (h.2.1 + 1, h.2.2 + c.toNat) := by rw [e1]; exact nw_2
  have z2 : h2.2 = (h.2.1 + 1, h.2.2 + c.toNat) := by rw [e2, st_2]; exact z1
  refine ⟨h2, fun k => ?_, ?_, ?_, fun k k3 kj => ?_, fun b b1 b2 => ?_, ?_⟩
  · rw [ja_aload_0, ja_int, rw_newarr (by omega) (by omega), ← e1, rw_puta q1 (by simp), ← e2]
  · rw [e2, st_at]
    congr 3
    funext k
    simp only [jm_upd, fn_13]
    by_cases ck : k = j
    · rw [if_pos ck, if_pos (by omega), m2, ck]
    · rw [if_neg ck]
      by_cases c1 : 3 ≤ k ∧ k < j
      · rw [if_pos c1, if_pos (by omega)]
      · rw [if_neg c1, if_neg (show ¬ (3 ≤ k ∧ k < j + 1) by omega)]
  · rw [z2, m2]
    show N + j - 3 + 1 = N + (j + 1) - 3
    omega
  · by_cases ck : k = j
    · subst ck
      rw [e2, st_ne (by omega), e1, ← m2, nw_at, htg]
      congr 3
      omega
    · rw [e2, st_ne (by omega), e1, nw_ne (by omega)]
      exact m3 k k3 (by omega)
  · rw [e2, st_ne b1, e1, nw_ne (by omega)]
    exact m4 b b1 (by omega)
  · rw [z2]
    show h.2.2 + c.toNat ≤ _
    omega
set_option maxHeartbeats 4000000 in
theorem R_init {n : Nat} {h : jH} {a N : Nat} (hq : h.1 a = some (11, 39, fun j => if j ∈ [3, 4, 5, 6, 7, 8, 9, 10, 11, 12, 13, 14, 15, 16, 17, 18, 19, 20, 21, 22, 23, 24, 25, 26, 27, 28, 29, 30, 31, 32, 33, 34, 35, 36] then .inr none else .inl 0)) (hlt : a < N) (hN : h.2.1 = N) : ∃ z : jH, fX12_init n [.inr (some a)] h = some (none, z) ∧ MI h a N 37 z := by
  have m3 : MI h a N 3 h := by
    refine ⟨?_, by omega, fun k a b => by omega, fun b _ _ => rfl, by omega⟩
    rw [hq]
    congr 3
    funext k
    simp only [fn_13]
    rw [if_neg (show ¬ (3 ≤ k ∧ k < 3) by omega)]
    by_cases c : 3 ≤ k ∧ k ≤ 36
    · rw [if_pos c, if_pos (by simp only [List.mem_cons, List.not_mem_nil, or_false]; omega)]
    · rw [if_neg c, if_neg (by simp only [List.mem_cons, List.not_mem_nil, or_false]; omega)]
  obtain ⟨z3, e3, m4⟩ := mi_step (tg := 20) (c := 16) hlt (by decide) (by decide) (by decide) (by decide) m3
  obtain ⟨z4, e4, m5⟩ := mi_step (tg := 20) (c := 16) hlt (by decide) (by decide) (by decide) (by decide) m4
  obtain ⟨z5, e5, m6⟩ := mi_step (tg := 20) (c := 16) hlt (by decide) (by decide) (by decide) (by decide) m5
  obtain ⟨z6, e6, m7⟩ := mi_step (tg := 20) (c := 16) hlt (by decide) (by decide) (by decide) (by decide) m6
  obtain ⟨z7, e7, m8⟩ := mi_step (tg := 20) (c := 16) hlt (by decide) (by decide) (by decide) (by decide) m7
  obtain ⟨z8, e8, m9⟩ := mi_step (tg := 20) (c := 16) hlt (by decide) (by decide) (by decide) (by decide) m8
  obtain ⟨z9, e9, m10⟩ := mi_step (tg := 20) (c := 16) hlt (by decide) (by decide) (by decide) (by decide) m9
  obtain ⟨z10, e10, m11⟩ := mi_step (tg := 20) (c := 320) hlt (by decide) (by decide) (by decide) (by decide) m10
  obtain ⟨z11, e11, m12⟩ := mi_step (tg := 20) (c := 320) hlt (by decide) (by decide) (by decide) (by decide) m11
  obtain ⟨z12, e12, m13⟩ := mi_step (tg := 20) (c := 320) hlt (by decide) (by decide) (by decide) (by decide) m12
  obtain ⟨z13, e13, m14⟩ := mi_step (tg := 20) (c := 320) hlt (by decide) (by decide) (by decide) (by decide) m13
  obtain ⟨z14, e14, m15⟩ := mi_step (tg := 20) (c := 320) hlt (by decide) (by decide) (by decide) (by decide) m14
  obtain ⟨z15, e15, m16⟩ := mi_step (tg := 20) (c := 320) hlt (by decide) (by decide) (by decide) (by decide) m15
  obtain ⟨z16, e16, m17⟩ := mi_step (tg := 20) (c := 320) hlt (by decide) (by decide) (by decide) (by decide) m16
  obtain ⟨z17, e17, m18⟩ := mi_step (tg := 20) (c := 320) hlt (by decide) (by decide) (by decide) (by decide) m17
  obtain ⟨z18, e18, m19⟩ := mi_step (tg := 20) (c := 12) hlt (by decide) (by decide) (by decide) (by decide) m18
  obtain ⟨z19, e19, m20⟩ := mi_step (tg := 20) (c := 12) hlt (by decide) (by decide) (by decide) (by decide) m19
  obtain ⟨z20, e20, m21⟩ := mi_step (tg := 20) (c := 12) hlt (by decide) (by decide) (by decide) (by decide) m20
  obtain ⟨z21, e21, m22⟩ := mi_step (tg := 20) (c := 12) hlt (by decide) (by decide) (by decide) (by decide) m21
  obtain ⟨z22, e22, m23⟩ := mi_step (tg := 20) (c := 192) hlt (by decide) (by decide) (by decide) (by decide) m22
  obtain ⟨z23, e23, m24⟩ := mi_step (tg := 20) (c := 12) hlt (by decide) (by decide) (by decide) (by decide) m23
  obtain ⟨z24, e24, m25⟩ := mi_step (tg := 20) (c := 12) hlt (by decide) (by decide) (by decide) (by decide) m24
  obtain ⟨z25, e25, m26⟩ := mi_step (tg := 20) (c := 12) hlt (by decide) (by decide) (by decide) (by decide) m25
  obtain ⟨z26, e26, m27⟩ := mi_step (tg := 20) (c := 12) hlt (by decide) (by decide) (by decide) (by decide) m26
  obtain ⟨z27, e27, m28⟩ := mi_step (tg := 20) (c := 12) hlt (by decide) (by decide) (by decide) (by decide) m27
  obtain ⟨z28, e28, m29⟩ := mi_step (tg := 20) (c := 12) hlt (by decide) (by decide) (by decide) (by decide) m28
  obtain ⟨z29, e29, m30⟩ := mi_step (tg := 20) (c := 192) hlt (by decide) (by decide) (by decide) (by decide) m29
  obtain ⟨z30, e30, m31⟩ := mi_step (tg := 20) (c := 192) hlt (by decide) (by decide) (by decide) (by decide) m30
  obtain ⟨z31, e31, m32⟩ := mi_step (tg := 20) (c := 192) hlt (by decide) (by decide) (by decide) (by decide) m31
  obtain ⟨z32, e32, m33⟩ := mi_step (tg := 20) (c := 96) hlt (by decide) (by decide) (by decide) (by decide) m32
  obtain ⟨z33, e33, m34⟩ := mi_step (tg := 22) (c := 3600) hlt (by decide) (by decide) (by decide) (by decide) m33
  obtain ⟨z34, e34, m35⟩ := mi_step (tg := 20) (c := 12) hlt (by decide) (by decide) (by decide) (by decide) m34
  obtain ⟨z35, e35, m36⟩ := mi_step (tg := 20) (c := 200) hlt (by decide) (by decide) (by decide) (by decide) m35
  obtain ⟨z36, e36, m37⟩ := mi_step (tg := 20) (c := 200) hlt (by decide) (by decide) (by decide) (by decide) m36
  refine ⟨z36, ?_, m37⟩
  simp only [fX12_init, jm_run, List.length_cons, List.length_nil, Nat.reduceAdd, if_true, jm_init, List.map_cons, List.map_nil, Nat.reduceSub, List.replicate, List.cons_append, List.nil_append, kX12_init]
  rw [ja_aload_0, rw_obj (by decide), e3, e4, e5, e6, e7, e8, e9, e10, e11, e12, e13, e14, e15, e16, e17, e18, e19, e20, e21, e22, e23, e24, e25, e26, e27, e28, e29, e30, e31, e32, e33, e34, e35, e36]
  rfl
/-! the first state -/
def ly_0 (N : Nat) : jLay := (fun b => if N ≤ b ∧ b < N + 5 then (b - N + 9, 0) else if N + 5 ≤ b ∧ b < N + 39 then (14, ((b - N - 2 : Nat) : Int)) else (0, 0), fun r i => if r = 14 then N + 2 + i.toNat else N + (r - 9))
def b_0 : bS := (fun _ _ => 0, fun _ => [])
def a_0 : aS := fun _ _ => 0
theorem l0_1 {N b : Nat} (h1 : N ≤ b) (h2 : b < N + 5) : (ly_0 N).1 b = (b - N + 9, 0) := if_pos ⟨h1, h2⟩
theorem l0_2 {N b : Nat} (h1 : N + 5 ≤ b) (h2 : b < N + 39) : (ly_0 N).1 b = (14, ((b - N - 2 : Nat) : Int)) := (if_neg (by omega)).trans (if_pos ⟨h1, h2⟩)
theorem l0_3 {N b : Nat} (h1 : b < N ∨ N + 39 ≤ b) : (ly_0 N).1 b = (0, 0) := (if_neg (by omega)).trans (if_neg (by omega))
theorem l0_a {N r : Nat} {i : Int} (h : r ≠ 14) : (ly_0 N).2 r i = N + (r - 9) := if_neg h
theorem l0_b {N : Nat} {i : Int} : (ly_0 N).2 14 i = N + 2 + i.toNat := by
  show (if (14 : Nat) = 14 then N + 2 + i.toNat else N + (14 - 9)) = N + 2 + i.toNat
  rw [if_pos rfl]
theorem l0_on {N r : Nat} (h1 : 9 ≤ r) (h2 : r ≤ 13) : pu_on (ly_0 N) r 0 := by
  unfold pu_on
  rw [l0_a (by omega), l0_1 (by omega) (by omega)]
  congr 1
  omega
theorem l0_on14 {N : Nat} {c : Int} (h1 : 3 ≤ c) (h2 : c ≤ 36) : pu_on (ly_0 N) 14 c := by
  unfold pu_on
  rw [l0_b, l0_2 (by omega) (by omega)]
  congr 1
  omega
theorem l0_inv {N : Nat} : pu_inv (ly_0 N) := by
  intro b hb
  by_cases c1 : N ≤ b ∧ b < N + 5
  · rw [l0_1 c1.1 c1.2]
    show b = (ly_0 N).2 (b - N + 9) 0
    rw [l0_a (by omega)]
    omega
  · by_cases c2 : N + 5 ≤ b ∧ b < N + 39
    · rw [l0_2 c2.1 c2.2]
      show b = (ly_0 N).2 14 _
      rw [l0_b]
      omega
    · rw [l0_3 (by omega)] at hb
      exact absurd rfl hb
theorem l0_la {N : Nat} {ρ : aS} : LA (ly_0 N) ρ N (N + 39) := by
  intro b hb
  by_cases c1 : N ≤ b ∧ b < N + 5
  · rw [l0_1 c1.1 c1.2]
    refine ⟨c1.1, by omega, Or.inr (Or.inr (Or.inr (Or.inl ⟨?_, ?_, rfl⟩)))⟩
    · show 9 ≤ b - N + 9
      omega
    · show b - N + 9 ≤ 13
      omega
  · by_cases c2 : N + 5 ≤ b ∧ b < N + 39
    · rw [l0_2 c2.1 c2.2]
      refine ⟨by omega, by omega, Or.inr (Or.inr (Or.inr (Or.inr ⟨rfl, ?_, ?_⟩)))⟩
      · show 3 ≤ ((b - N - 2 : Nat) : Int)
        omega
      · show ((b - N - 2 : Nat) : Int) ≤ 36
        omega
    · rw [l0_3 (by omega)] at hb
      exact absurd rfl hb
theorem g_0 : GW a_0 b_0 := by
  refine ⟨⟨⟨fun c i _ => rfl, fun x => rfl, fun x => rfl, (fun x hx => by cases hx), fun s _ => rfl, fun c i _ => rfl, fun s => ⟨rfl, fun _ => ⟨fun _ => rfl, fun hu => ?_⟩⟩, fun e _ _ => ⟨fun _ => rfl, (fun x hx => by cases hx)⟩, List.nodup_nil, (fun x hx => by cases hx)⟩, fun e _ _ => ⟨rfl, (fun j x hx => by cases hx), rfl, List.nodup_nil, (fun x hx => by cases hx)⟩⟩, ?_, ?_, ?_⟩
  · obtain ⟨t, i, r1, r2, r3, r4, r5, r6⟩ := hu
    have r3 : (0 : Int) ≤ i := r3
    have r5 : i < (0 : Int) := r5
    omega
  · have z : ∀ (c : Nat) (i : Int), b_0.1 c i = 0 := fun _ _ => rfl
    unfold WI
    simp only [z]
    refine ⟨fun t _ _ => by omega, fun t a b => by omega, fun d _ _ => ⟨List.nodup_nil, (fun x hx => by cases hx)⟩, fun d _ _ => by omega, fun d _ _ => by omega, fun i _ _ => by omega, fun d _ _ h => by omega, fun d _ _ h => by omega, by omega⟩
  · intro e _ _
    have z : ∀ (c : Nat) (i : Int), b_0.1 c i = 0 := fun _ _ => rfl
    unfold JK
    simp only [z]
    exact ⟨fun _ x hx => (by cases hx), fun h => by omega, fun h => by omega, fun h => by omega, fun h => by omega, fun h => by omega, fun h => by omega, fun h => by omega, fun h => by omega, Or.inl (by trivial), fun h => by omega⟩
  · have z : ∀ (c : Nat) (i : Int), b_0.1 c i = 0 := fun _ _ => rfl
    unfold GT WA P5
    simp only [z]
    exact ⟨fun s _ _ => by omega, fun t _ _ => ⟨by omega, fun _ => by trivial, Or.inl (by trivial)⟩, fun t i _ _ a b => by omega, fun i => by omega⟩
theorem t_0 : TV b_0 := by
  have z : ∀ (c : Nat) (i : Int), b_0.1 c i = 0 := fun _ _ => rfl
  unfold TV V3
  simp only [z]
  exact ⟨by omega, by omega, by omega, fun s _ _ => by omega, fun d _ _ => ⟨by omega, by omega, Or.inl (by trivial), fun _ => Or.inl (by trivial), fun h => by omega, fun _ => by trivial⟩, ⟨fun x _ _ => by omega, fun x a b => by omega⟩, fun k a b => by omega⟩
theorem i_0 : IQ a_0 b_0 16 := by
  have z : ∀ (c : Nat) (i : Int), b_0.1 c i = 0 := fun _ _ => rfl
  have z' : ∀ (c : Nat) (i : Int), a_0 c i = 0 := fun _ _ => rfl
  unfold IQ
  simp only [z, z']
  refine ⟨by omega, by omega, by omega, fun i k _ _ _ => by omega, fun i a b => by omega, fun t b _ _ _ h => ?_⟩
  unfold b_planned at h
  rw [z] at h
  cases h
theorem zi_0 : ZI b_0 := by
  have z : ∀ (c : Nat) (i : Int), b_0.1 c i = 0 := fun _ _ => rfl
  unfold ZI ZQ HS ZN zk
  simp only [z]
  refine ⟨⟨fun _ _ _ => trivial, (fun e x hx => by cases hx), fun e a b => by omega, fun e => by omega, ⟨fun x hx => by omega, fun x a b => by omega⟩, fun e h => by omega, fun _ _ => ⟨trivial, trivial⟩, fun _ _ _ _ _ _ => ⟨trivial, trivial⟩, fun _ _ => ⟨trivial, trivial, trivial⟩, fun _ _ => ⟨trivial, trivial, trivial⟩, fun _ _ => trivial, fun _ _ => trivial⟩, fun t _ _ => by omega, fun t i _ _ a b => by omega, by omega, by omega⟩
theorem ro_0 : RO a_0 b_0 := ⟨fun _ _ _ _ => rfl, fun d _ _ => ⟨rfl, (fun j x hx => by cases hx)⟩⟩
theorem pl_0 : PL b_0 := by
  have z : ∀ (c : Nat) (i : Int), b_0.1 c i = 0 := fun _ _ => rfl
  unfold PL
  simp only [z]
  omega
theorem cw_0 {N : Nat} : CW (ly_0 N) a_0 := by
  have z' : ∀ (c : Nat) (i : Int), a_0 c i = 0 := fun _ _ => rfl
  refine ⟨l0_inv, l0_on (by decide) (by decide), l0_on (by decide) (by decide), l0_on (by decide) (by decide), l0_on (by decide) (by decide), fun t a b => ?_, fun d a b => ?_, fun t i a b => ?_⟩
  all_goals (rw [z'] at b; omega)
theorem pw_0 {N : Nat} : pm_WF (ly_0 N) := ⟨l0_inv, l0_on (by decide) (by decide), fun c a b => l0_on14 a b⟩
