set_option maxHeartbeats 4000000 in
theorem k_init0 {n : Nat} {h : jH} {a : Nat} {f : Nat → jV} {t : Int} (hq : h.1 a = some (0, 7, f)) (hlt : a < h.2.1) : ∃ z : jH, fX0_init n [.inr (some a), .inl t] h = some (none, z) ∧ z.1 a = some (0, 7, jm_upd (jm_upd f 1 (.inr (some h.2.1))) 0 (.inl t)) ∧ z.1 h.2.1 = some (25, 20, fun _ => .inr none) ∧ (∀ b, b ≠ a → b ≠ h.2.1 → z.1 b = h.1 b) ∧ z.2 = (h.2.1 + 1, h.2.2 + 20) := by
  obtain ⟨h1, eh1⟩ : ∃ z : jH, z = jm_new h (25, 20, fun _ => .inr none) := ⟨_, rfl⟩
  have nh1 : ∀ {kk : jK} {LL : List (Option jV)} {SS : List jV}, jk_newarr 25 (.inr none) kk LL (.inl 20 :: SS) h = kk LL (.inr (some h.2.1) :: SS) h1 := fun {kk LL SS} => by rw [eh1]; exact rw_newarr (by decide) (by decide)
  have qh1 : h1.1 a = some (0, 7, f) := by rw [eh1, nw_ne (by omega)]; exact hq
  obtain ⟨h2, eh2⟩ : ∃ z : jH, z = jm_set h1 a (0, 7, f) 1 (.inr (some h.2.1)) := ⟨_, rfl⟩
  have ph2 : ∀ {kk : jK} {LL : List (Option jV)} {SS : List jV}, jk_puta [0] 1 kk LL (.inr (some h.2.1) :: .inr (some a) :: SS) h1 = kk LL SS h2 := fun {kk LL SS} => by rw [eh2]; exact rw_puta qh1 (by simp)
  have qh2 : h2.1 a = some (0, 7, jm_upd f 1 (.inr (some h.2.1))) := by rw [eh2]; exact st_at
  obtain ⟨h3, eh3⟩ : ∃ z : jH, z = jm_set h2 a (0, 7, jm_upd f 1 (.inr (some h.2.1))) 0 (.inl t) := ⟨_, rfl⟩
  have ph3 : ∀ {kk : jK} {LL : List (Option jV)} {SS : List jV}, jk_puti [0] 0 kk LL (.inl t :: .inr (some a) :: SS) h2 = kk LL SS h3 := fun {kk LL SS} => by rw [eh3]; exact rw_puti qh2 (by simp)
  refine ⟨h3, ?_, by rw [eh3]; exact st_at, by rw [eh3, st_ne (by omega), eh2, st_ne (by omega), eh1]; exact nw_at, fun b b1 b2 => by rw [eh3, st_ne b1, eh2, st_ne b1, eh1, nw_ne b2], by rw [eh3, st_2, eh2, st_2, eh1, nw_2]⟩
  simp only [fX0_init, jm_run, List.length_cons, List.length_nil, Nat.reduceAdd, if_true, jm_init, List.map_cons, List.map_nil, Nat.reduceSub, List.replicate, List.cons_append, List.nil_append, kX0_init]
  simp (disch := first | omega | assumption | (simp only [List.length_cons, List.length_nil]; omega) | decide | (simp (disch := decide) only [pu_up_ne, pu_up_at]; first | omega | assumption)) only [↓ja_int, ↓ja_null, ↓ja_iload_0, ↓ja_aload_0, ↓ja_istore_0, ↓ja_astore_0, ↓ja_kill_0, ↓ja_iinc_0, ↓ja_iload_1, ↓ja_aload_1, ↓ja_istore_1, ↓ja_astore_1, ↓ja_kill_1, ↓ja_iinc_1, ↓ja_iload_2, ↓ja_aload_2, ↓ja_istore_2, ↓ja_astore_2, ↓ja_kill_2, ↓ja_iinc_2, ↓ja_iload_3, ↓ja_aload_3, ↓ja_istore_3, ↓ja_astore_3, ↓ja_kill_3, ↓ja_iinc_3, ↓ja_iload_4, ↓ja_aload_4, ↓ja_istore_4, ↓ja_astore_4, ↓ja_kill_4, ↓ja_iinc_4, ↓ja_iload_5, ↓ja_aload_5, ↓ja_istore_5, ↓ja_astore_5, ↓ja_kill_5, ↓ja_iinc_5, ↓ja_iload_6, ↓ja_aload_6, ↓ja_istore_6, ↓ja_astore_6, ↓ja_kill_6, ↓ja_iinc_6, ↓ja_iload_7, ↓ja_aload_7, ↓ja_istore_7, ↓ja_astore_7, ↓ja_kill_7, ↓ja_iinc_7, ↓ja_iload_8, ↓ja_aload_8, ↓ja_istore_8, ↓ja_astore_8, ↓ja_kill_8, ↓ja_iinc_8, ↓ja_iload_9, ↓ja_aload_9, ↓ja_istore_9, ↓ja_astore_9, ↓ja_kill_9, ↓ja_iinc_9, ↓ja_iload_10, ↓ja_aload_10, ↓ja_istore_10, ↓ja_astore_10, ↓ja_kill_10, ↓ja_iinc_10, ↓ja_iadd, ↓ja_isub, ↓ja_imul, ↓ja_dup, ↓ja_dup2, ↓ja_i2b, ↓ja_ifeq, ↓ja_ifne, ↓ja_iflt, ↓ja_ifge, ↓ja_ifgt, ↓ja_ifle, ↓ja_icmpeq, ↓ja_icmpne, ↓ja_icmplt, ↓ja_icmpge, ↓ja_icmpgt, ↓ja_icmple, ↓ja_ifnull_n, ↓ja_ifnull_s, ↓ja_ifnonnull_n, ↓ja_ifnonnull_s, ↓ja_iret, ↓ja_aret, ↓ja_vret, ↓ja_zret0, ↓ja_zret1, ↓ja_sw, ↓ja_pe, ↓ja_pn, ↓ja_pz, ↓reduceIte, ite_self, Int.reduceEq, Int.reduceLT, Int.reduceLE, Int.reduceNeg, Int.reduceToNat, jm_wr_id, pb_none, pb_int, pb_ref, ↓rw_obj, ↓nh1, ↓ph2, ↓ph3]
set_option maxHeartbeats 4000000 in
theorem k_init10 {n : Nat} {h : jH} {a : Nat} {f : Nat → jV} {r1 r2 : Option Nat} {x1 x2 x3 : Int} (hq : h.1 a = some (9, 9, f)) : ∃ z : jH, fX10_init n [.inr (some a), .inr r1, .inr r2, .inl x1, .inl x2, .inl x3] h = some (none, z) ∧ z.1 a = some (9, 9, jm_upd (jm_upd (jm_upd (jm_upd (jm_upd (jm_upd f 5 (.inl 8)) 0 (.inr r1)) 1 (.inr r2)) 2 (.inl x1)) 3 (.inl x2)) 4 (.inl x3)) ∧ (∀ b, b ≠ a → z.1 b = h.1 b) ∧ z.2 = h.2 := by
  obtain ⟨h1, eh1⟩ : ∃ z : jH, z = jm_set h a (9, 9, f) 5 (.inl 8) := ⟨_, rfl⟩
  have ph1 : ∀ {kk : jK} {LL : List (Option jV)} {SS : List jV}, jk_puti [9] 5 kk LL (.inl 8 :: .inr (some a) :: SS) h = kk LL SS h1 := fun {kk LL SS} => by rw [eh1]; exact rw_puti hq (by simp)
  have qh1 : h1.1 a = some (9, 9, jm_upd f 5 (.inl 8)) := by rw [eh1]; exact st_at
  obtain ⟨h2, eh2⟩ : ∃ z : jH, z = jm_set h1 a (9, 9, jm_upd f 5 (.inl 8)) 0 (.inr r1) := ⟨_, rfl⟩
  have ph2 : ∀ {kk : jK} {LL : List (Option jV)} {SS : List jV}, jk_puta [9] 0 kk LL (.inr r1 :: .inr (some a) :: SS) h1 = kk LL SS h2 := fun {kk LL SS} => by rw [eh2]; exact rw_puta qh1 (by simp)
  have qh2 : h2.1 a = some (9, 9, jm_upd (jm_upd f 5 (.inl 8)) 0 (.inr r1)) := by rw [eh2]; exact st_at
  obtain ⟨h3, eh3⟩ : ∃ z : jH, z = jm_set h2 a (9, 9, jm_upd (jm_upd f 5 (.inl 8)) 0 (.inr r1)) 1 (.inr r2) := ⟨_, rfl⟩
  have ph3 : ∀ {kk : jK} {LL : List (Option jV)} {SS : List jV}, jk_puta [9] 1 kk LL (.inr r2 :: .inr (some a) :: SS) h2 = kk LL SS h3 := fun {kk LL SS} => by rw [eh3]; exact rw_puta qh2 (by simp)
  have qh3 : h3.1 a = some (9, 9, jm_upd (jm_upd (jm_upd f 5 (.inl 8)) 0 (.inr r1)) 1 (.inr r2)) := by rw [eh3]; exact st_at
  obtain ⟨h4, eh4⟩ : ∃ z : jH, z = jm_set h3 a (9, 9, jm_upd (jm_upd (jm_upd f 5 (.inl 8)) 0 (.inr r1)) 1 (.inr r2)) 2 (.inl x1) := ⟨_, rfl⟩
  have ph4 : ∀ {kk : jK} {LL : List (Option jV)} {SS : List jV}, jk_puti [9] 2 kk LL (.inl x1 :: .inr (some a) :: SS) h3 = kk LL SS h4 := fun {kk LL SS} => by rw [eh4]; exact rw_puti qh3 (by simp)
  have qh4 : h4.1 a = some (9, 9, jm_upd (jm_upd (jm_upd (jm_upd f 5 (.inl 8)) 0 (.inr r1)) 1 (.inr r2)) 2 (.inl x1)) := by rw [eh4]; exact st_at
  obtain ⟨h5, eh5⟩ : ∃ z : jH, z = jm_set h4 a (9, 9, jm_upd (jm_upd (jm_upd (jm_upd f 5 (.inl 8)) 0 (.inr r1)) 1 (.inr r2)) 2 (.inl x1)) 3 (.inl x2) := ⟨_, rfl⟩
  have ph5 : ∀ {kk : jK} {LL : List (Option jV)} {SS : List jV}, jk_puti [9] 3 kk LL (.inl x2 :: .inr (some a) :: SS) h4 = kk LL SS h5 := fun {kk LL SS} => by rw [eh5]; exact rw_puti qh4 (by simp)
  have qh5 : h5.1 a = some (9, 9, jm_upd (jm_upd (jm_upd (jm_upd (jm_upd f 5 (.inl 8)) 0 (.inr r1)) 1 (.inr r2)) 2 (.inl x1)) 3 (.inl x2)) := by rw [eh5]; exact st_at
  obtain ⟨h6, eh6⟩ : ∃ z : jH, z = jm_set h5 a (9, 9, jm_upd (jm_upd (jm_upd (jm_upd (jm_upd f 5 (.inl 8)) 0 (.inr r1)) 1 (.inr r2)) 2 (.inl x1)) 3 (.inl x2)) 4 (.inl x3) := ⟨_, rfl⟩
  have ph6 : ∀ {kk : jK} {LL : List (Option jV)} {SS : List jV}, jk_puti [9] 4 kk LL (.inl x3 :: .inr (some a) :: SS) h5 = kk LL SS h6 := fun {kk LL SS} => by rw [eh6]; exact rw_puti qh5 (by simp)
  have qh6 : h6.1 a = some (9, 9, jm_upd (jm_upd (jm_upd (jm_upd (jm_upd (jm_upd f 5 (.inl 8)) 0 (.inr r1)) 1 (.inr r2)) 2 (.inl x1)) 3 (.inl x2)) 4 (.inl x3)) := by rw [eh6]; exact st_at
  refine ⟨h6, ?_, qh6, fun b b1 => by rw [eh6, st_ne b1, eh5, st_ne b1, eh4, st_ne b1, eh3, st_ne b1, eh2, st_ne b1, eh1, st_ne b1], by rw [eh6, st_2, eh5, st_2, eh4, st_2, eh3, st_2, eh2, st_2, eh1, st_2]⟩
  simp only [fX10_init, jm_run, List.length_cons, List.length_nil, Nat.reduceAdd, if_true, jm_init, List.map_cons, List.map_nil, Nat.reduceSub, List.replicate, List.cons_append, List.nil_append, kX10_init]
  simp (disch := first | omega | assumption | (simp only [List.length_cons, List.length_nil]; omega) | decide | (simp (disch := decide) only [pu_up_ne, pu_up_at]; first | omega | assumption)) only [↓ja_int, ↓ja_null, ↓ja_iload_0, ↓ja_aload_0, ↓ja_istore_0, ↓ja_astore_0, ↓ja_kill_0, ↓ja_iinc_0, ↓ja_iload_1, ↓ja_aload_1, ↓ja_istore_1, ↓ja_astore_1, ↓ja_kill_1, ↓ja_iinc_1, ↓ja_iload_2, ↓ja_aload_2, ↓ja_istore_2, ↓ja_astore_2, ↓ja_kill_2, ↓ja_iinc_2, ↓ja_iload_3, ↓ja_aload_3, ↓ja_istore_3, ↓ja_astore_3, ↓ja_kill_3, ↓ja_iinc_3, ↓ja_iload_4, ↓ja_aload_4, ↓ja_istore_4, ↓ja_astore_4, ↓ja_kill_4, ↓ja_iinc_4, ↓ja_iload_5, ↓ja_aload_5, ↓ja_istore_5, ↓ja_astore_5, ↓ja_kill_5, ↓ja_iinc_5, ↓ja_iload_6, ↓ja_aload_6, ↓ja_istore_6, ↓ja_astore_6, ↓ja_kill_6, ↓ja_iinc_6, ↓ja_iload_7, ↓ja_aload_7, ↓ja_istore_7, ↓ja_astore_7, ↓ja_kill_7, ↓ja_iinc_7, ↓ja_iload_8, ↓ja_aload_8, ↓ja_istore_8, ↓ja_astore_8, ↓ja_kill_8, ↓ja_iinc_8, ↓ja_iload_9, ↓ja_aload_9, ↓ja_istore_9, ↓ja_astore_9, ↓ja_kill_9, ↓ja_iinc_9, ↓ja_iload_10, ↓ja_aload_10, ↓ja_istore_10, ↓ja_astore_10, ↓ja_kill_10, ↓ja_iinc_10, ↓ja_iadd, ↓ja_isub, ↓ja_imul, ↓ja_dup, ↓ja_dup2, ↓ja_i2b, ↓ja_ifeq, ↓ja_ifne, ↓ja_iflt, ↓ja_ifge, ↓ja_ifgt, ↓ja_ifle, ↓ja_icmpeq, ↓ja_icmpne, ↓ja_icmplt, ↓ja_icmpge, ↓ja_icmpgt, ↓ja_icmple, ↓ja_ifnull_n, ↓ja_ifnull_s, ↓ja_ifnonnull_n, ↓ja_ifnonnull_s, ↓ja_iret, ↓ja_aret, ↓ja_vret, ↓ja_zret0, ↓ja_zret1, ↓ja_sw, ↓ja_pe, ↓ja_pn, ↓ja_pz, ↓reduceIte, ite_self, Int.reduceEq, Int.reduceLT, Int.reduceLE, Int.reduceNeg, Int.reduceToNat, jm_wr_id, pb_none, pb_int, pb_ref, ↓rw_obj, ↓ph1, ↓ph2, ↓ph3, ↓ph4, ↓ph5, ↓ph6]
set_option maxHeartbeats 4000000 in
theorem k_init2 {n : Nat} {h : jH} {a tg nf : Nat} {f : Nat → jV} {k d : Int} (hq : h.1 a = some (tg, nf, f)) (ht : tg ∈ [1, 2, 3, 4, 5, 6, 7, 8]) (hlt : a < h.2.1) : ∃ z : jH, fX2_init n [.inr (some a), .inl k, .inl d] h = some (none, z) ∧ z.1 a = some (tg, nf, jm_upd (jm_upd (jm_upd (jm_upd f 4 (.inr (some h.2.1))) 6 (.inr (some (h.2.1 + 1)))) 0 (.inl k)) 1 (.inl d)) ∧ z.1 h.2.1 = some (25, 16, fun _ => .inr none) ∧ z.1 (h.2.1 + 1) = some (20, 300, fun _ => .inl 0) ∧ (∀ b, b ≠ a → b ≠ h.2.1 → b ≠ h.2.1 + 1 → z.1 b = h.1 b) ∧ z.2 = (h.2.1 + 2, h.2.2 + 316) := by
  obtain ⟨h1, eh1⟩ : ∃ z : jH, z = jm_new h (25, 16, fun _ => .inr none) := ⟨_, rfl⟩
  have nh1 : ∀ {kk : jK} {LL : List (Option jV)} {SS : List jV}, jk_newarr 25 (.inr none) kk LL (.inl 16 :: SS) h = kk LL (.inr (some h.2.1) :: SS) h1 := fun {kk LL SS} => by rw [eh1]; exact rw_newarr (by decide) (by decide)
  have s1 : h1.2 = (h.2.1 + 1, h.2.2 + 16) := by rw [eh1]; exact nw_2
  have qh1 : h1.1 a = some (tg, nf, f) := by rw [eh1, nw_ne (by omega)]; exact hq
  obtain ⟨h2, eh2⟩ : ∃ z : jH, z = jm_set h1 a (tg, nf, f) 4 (.inr (some h.2.1)) := ⟨_, rfl⟩
  have ph2 : ∀ {kk : jK} {LL : List (Option jV)} {SS : List jV}, jk_puta [1, 2, 3, 4, 5, 6, 7, 8] 4 kk LL (.inr (some h.2.1) :: .inr (some a) :: SS) h1 = kk LL SS h2 := fun {kk LL SS} => by rw [eh2]; exact rw_puta qh1 ht
  have s2 : h2.2 = (h.2.1 + 1, h.2.2 + 16) := by rw [eh2, st_2]; exact s1
  have s21 : h2.2.1 = h.2.1 + 1 := by rw [s2]
  have qh2 : h2.1 a = some (tg, nf, jm_upd f 4 (.inr (some h.2.1))) := by rw [eh2]; exact st_at
  obtain ⟨h3, eh3⟩ : ∃ z : jH, z = jm_new h2 (20, 300, fun _ => .inl 0) := ⟨_, rfl⟩
  have nh3 : ∀ {kk : jK} {LL : List (Option jV)} {SS : List jV}, jk_newarr 20 (.inl 0) kk LL (.inl 300 :: SS) h2 = kk LL (.inr (some h2.2.1) :: SS) h3 := fun {kk LL SS} => by rw [eh3]; exact rw_newarr (by decide) (by decide)
  have s3 : h3.2 = (h.2.1 + 2, h.2.2 + 316) := by rw [eh3, nw_2, s2]; exact Prod.ext (show h.2.1 + 1 + 1 = h.2.1 + 2 by omega) (show h.2.2 + 16 + 300 = h.2.2 + 316 by omega)
  have qh3 : h3.1 a = some (tg, nf, jm_upd f 4 (.inr (some h.2.1))) := by rw [eh3, nw_ne (by omega)]; exact qh2
  rw [s21] at nh3
  obtain ⟨h4, eh4⟩ : ∃ z : jH, z = jm_set h3 a (tg, nf, jm_upd f 4 (.inr (some h.2.1))) 6 (.inr (some (h.2.1 + 1))) := ⟨_, rfl⟩
  have ph4 : ∀ {kk : jK} {LL : List (Option jV)} {SS : List jV}, jk_puta [1, 2, 3, 4, 5, 6, 7, 8] 6 kk LL (.inr (some (h.2.1 + 1)) :: .inr (some a) :: SS) h3 = kk LL SS h4 := fun {kk LL SS} => by rw [eh4]; exact rw_puta qh3 ht
  have qh4 : h4.1 a = some (tg, nf, jm_upd (jm_upd f 4 (.inr (some h.2.1))) 6 (.inr (some (h.2.1 + 1)))) := by rw [eh4]; exact st_at
  obtain ⟨h5, eh5⟩ : ∃ z : jH, z = jm_set h4 a (tg, nf, jm_upd (jm_upd f 4 (.inr (some h.2.1))) 6 (.inr (some (h.2.1 + 1)))) 0 (.inl k) := ⟨_, rfl⟩
  have ph5 : ∀ {kk : jK} {LL : List (Option jV)} {SS : List jV}, jk_puti [1, 2, 3, 4, 5, 6, 7, 8] 0 kk LL (.inl k :: .inr (some a) :: SS) h4 = kk LL SS h5 := fun {kk LL SS} => by rw [eh5]; exact rw_puti qh4 ht
  have qh5 : h5.1 a = some (tg, nf, jm_upd (jm_upd (jm_upd f 4 (.inr (some h.2.1))) 6 (.inr (some (h.2.1 + 1)))) 0 (.inl k)) := by rw [eh5]; exact st_at
  obtain ⟨h6, eh6⟩ : ∃ z : jH, z = jm_set h5 a (tg, nf, jm_upd (jm_upd (jm_upd f 4 (.inr (some h.2.1))) 6 (.inr (some (h.2.1 + 1)))) 0 (.inl k)) 1 (.inl d) := ⟨_, rfl⟩
  have ph6 : ∀ {kk : jK} {LL : List (Option jV)} {SS : List jV}, jk_puti [1, 2, 3, 4, 5, 6, 7, 8] 1 kk LL (.inl d :: .inr (some a) :: SS) h5 = kk LL SS h6 := fun {kk LL SS} => by rw [eh6]; exact rw_puti qh5 ht
  refine ⟨h6, ?_, by rw [eh6]; exact st_at, ?_, ?_, fun b b1 b2 b3 => ?_, by rw [eh6, st_2, eh5, st_2, eh4, st_2]; exact s3⟩
  · simp only [fX2_init, jm_run, List.length_cons, List.length_nil, Nat.reduceAdd, if_true, jm_init, List.map_cons, List.map_nil, Nat.reduceSub, List.replicate, List.cons_append, List.nil_append, kX2_init]
    simp (disch := first | omega | assumption | (simp only [List.length_cons, List.length_nil]; omega) | decide | (simp (disch := decide) only [pu_up_ne, pu_up_at]; first | omega | assumption)) only [↓ja_int, ↓ja_null, ↓ja_iload_0, ↓ja_aload_0, ↓ja_istore_0, ↓ja_astore_0, ↓ja_kill_0, ↓ja_iinc_0, ↓ja_iload_1, ↓ja_aload_1, ↓ja_istore_1, ↓ja_astore_1, ↓ja_kill_1, ↓ja_iinc_1, ↓ja_iload_2, ↓ja_aload_2, ↓ja_istore_2, ↓ja_astore_2, ↓ja_kill_2, ↓ja_iinc_2, ↓ja_iload_3, ↓ja_aload_3, ↓ja_istore_3, ↓ja_astore_3, ↓ja_kill_3, ↓ja_iinc_3, ↓ja_iload_4, ↓ja_aload_4, ↓ja_istore_4, ↓ja_astore_4, ↓ja_kill_4, ↓ja_iinc_4, ↓ja_iload_5, ↓ja_aload_5, ↓ja_istore_5, ↓ja_astore_5, ↓ja_kill_5, ↓ja_iinc_5, ↓ja_iload_6, ↓ja_aload_6, ↓ja_istore_6, ↓ja_astore_6, ↓ja_kill_6, ↓ja_iinc_6, ↓ja_iload_7, ↓ja_aload_7, ↓ja_istore_7, ↓ja_astore_7, ↓ja_kill_7, ↓ja_iinc_7, ↓ja_iload_8, ↓ja_aload_8, ↓ja_istore_8, ↓ja_astore_8, ↓ja_kill_8, ↓ja_iinc_8, ↓ja_iload_9, ↓ja_aload_9, ↓ja_istore_9, ↓ja_astore_9, ↓ja_kill_9, ↓ja_iinc_9, ↓ja_iload_10, ↓ja_aload_10, ↓ja_istore_10, ↓ja_astore_10, ↓ja_kill_10, ↓ja_iinc_10, ↓ja_iadd, ↓ja_isub, ↓ja_imul, ↓ja_dup, ↓ja_dup2, ↓ja_i2b, ↓ja_ifeq, ↓ja_ifne, ↓ja_iflt, ↓ja_ifge, ↓ja_ifgt, ↓ja_ifle, ↓ja_icmpeq, ↓ja_icmpne, ↓ja_icmplt, ↓ja_icmpge, ↓ja_icmpgt, ↓ja_icmple, ↓ja_ifnull_n, ↓ja_ifnull_s, ↓ja_ifnonnull_n, ↓ja_ifnonnull_s, ↓ja_iret, ↓ja_aret, ↓ja_vret, ↓ja_zret0, ↓ja_zret1, ↓ja_sw, ↓ja_pe, ↓ja_pn, ↓ja_pz, ↓reduceIte, ite_self, Int.reduceEq, Int.reduceLT, Int.reduceLE, Int.reduceNeg, Int.reduceToNat, jm_wr_id, pb_none, pb_int, pb_ref, ↓rw_obj, ↓nh1, ↓ph2, ↓nh3, ↓ph4, ↓ph5, ↓ph6]
  · rw [eh6, st_ne (by omega), eh5, st_ne (by omega), eh4, st_ne (by omega), eh3, nw_ne (by omega), eh2, st_ne (by omega), eh1]
    exact nw_at
  · rw [eh6, st_ne (by omega), eh5, st_ne (by omega), eh4, st_ne (by omega), eh3, ← s21]
    exact nw_at
  · rw [eh6, st_ne b1, eh5, st_ne b1, eh4, st_ne b1, eh3, nw_ne (by omega), eh2, st_ne b1, eh1, nw_ne b2]
set_option maxHeartbeats 4000000 in
theorem k_init1 {n : Nat} {h : jH} {a : Nat} {f : Nat → jV} {d x : Int} (hq : h.1 a = some (1, 10, f)) (hlt : a < h.2.1) : ∃ z : jH, fX1_init n [.inr (some a), .inl d, .inl x] h = some (none, z) ∧ z.1 a = some (1, 10, jm_upd (jm_upd (jm_upd (jm_upd (jm_upd f 4 (.inr (some h.2.1))) 6 (.inr (some (h.2.1 + 1)))) 0 (.inl 3)) 1 (.inl d)) 8 (.inl x)) ∧ z.1 h.2.1 = some (25, 16, fun _ => .inr none) ∧ z.1 (h.2.1 + 1) = some (20, 300, fun _ => .inl 0) ∧ (∀ b, b ≠ a → (b < h.2.1 ∨ h.2.1 + 2 ≤ b) → z.1 b = h.1 b) ∧ z.2 = (h.2.1 + 2, h.2.2 + 316) := by
  obtain ⟨h1, c1, q1, l1, m1, o1, z1⟩ := k_init2 (n := n) (h := h) (a := a) (k := 3) (d := d) hq (by decide) hlt
  have z11 : h1.2.1 = h.2.1 + 2 := by rw [z1]
  obtain ⟨h2, eh2⟩ : ∃ z : jH, z = jm_set h1 a (1, 10, jm_upd (jm_upd (jm_upd (jm_upd f 4 (.inr (some h.2.1))) 6 (.inr (some (h.2.1 + 1)))) 0 (.inl 3)) 1 (.inl d)) 8 (.inl x) := ⟨_, rfl⟩
  have ph2 : ∀ {kk : jK} {LL : List (Option jV)} {SS : List jV}, jk_puti [1] 8 kk LL (.inl x :: .inr (some a) :: SS) h1 = kk LL SS h2 := fun {kk LL SS} => by rw [eh2]; exact rw_puti q1 (by simp)
  have qh2 : h2.1 a = some (1, 10, jm_upd (jm_upd (jm_upd (jm_upd (jm_upd f 4 (.inr (some h.2.1))) 6 (.inr (some (h.2.1 + 1)))) 0 (.inl 3)) 1 (.inl d)) 8 (.inl x)) := by rw [eh2]; exact st_at
  have zh2 : h2.2 = (h.2.1 + 2, h.2.2 + 316) := by rw [eh2, st_2, z1]
  refine ⟨h2, ?_, qh2, ?_, ?_, fun b b1 b2 => ?_, zh2⟩
  · simp only [fX1_init, jm_run, List.length_cons, List.length_nil, Nat.reduceAdd, if_true, jm_init, List.map_cons, List.map_nil, Nat.reduceSub, List.replicate, List.cons_append, List.nil_append, kX1_init]
    simp (disch := first | omega | assumption | (simp only [List.length_cons, List.length_nil]; omega) | decide | (simp (disch := decide) only [pu_up_ne, pu_up_at]; first | omega | assumption)) only [↓ja_int, ↓ja_null, ↓ja_iload_0, ↓ja_aload_0, ↓ja_istore_0, ↓ja_astore_0, ↓ja_kill_0, ↓ja_iinc_0, ↓ja_iload_1, ↓ja_aload_1, ↓ja_istore_1, ↓ja_astore_1, ↓ja_kill_1, ↓ja_iinc_1, ↓ja_iload_2, ↓ja_aload_2, ↓ja_istore_2, ↓ja_astore_2, ↓ja_kill_2, ↓ja_iinc_2, ↓ja_iload_3, ↓ja_aload_3, ↓ja_istore_3, ↓ja_astore_3, ↓ja_kill_3, ↓ja_iinc_3, ↓ja_iload_4, ↓ja_aload_4, ↓ja_istore_4, ↓ja_astore_4, ↓ja_kill_4, ↓ja_iinc_4, ↓ja_iload_5, ↓ja_aload_5, ↓ja_istore_5, ↓ja_astore_5, ↓ja_kill_5, ↓ja_iinc_5, ↓ja_iload_6, ↓ja_aload_6, ↓ja_istore_6, ↓ja_astore_6, ↓ja_kill_6, ↓ja_iinc_6, ↓ja_iload_7, ↓ja_aload_7, ↓ja_istore_7, ↓ja_astore_7, ↓ja_kill_7, ↓ja_iinc_7, ↓ja_iload_8, ↓ja_aload_8, ↓ja_istore_8, ↓ja_astore_8, ↓ja_kill_8, ↓ja_iinc_8, ↓ja_iload_9, ↓ja_aload_9, ↓ja_istore_9, ↓ja_astore_9, ↓ja_kill_9, ↓ja_iinc_9, ↓ja_iload_10, ↓ja_aload_10, ↓ja_istore_10, ↓ja_astore_10, ↓ja_kill_10, ↓ja_iinc_10, ↓ja_iadd, ↓ja_isub, ↓ja_imul, ↓ja_dup, ↓ja_dup2, ↓ja_i2b, ↓ja_ifeq, ↓ja_ifne, ↓ja_iflt, ↓ja_ifge, ↓ja_ifgt, ↓ja_ifle, ↓ja_icmpeq, ↓ja_icmpne, ↓ja_icmplt, ↓ja_icmpge, ↓ja_icmpgt, ↓ja_icmple, ↓ja_ifnull_n, ↓ja_ifnull_s, ↓ja_ifnonnull_n, ↓ja_ifnonnull_s, ↓ja_iret, ↓ja_aret, ↓ja_vret, ↓ja_zret0, ↓ja_zret1, ↓ja_sw, ↓ja_pe, ↓ja_pn, ↓ja_pz, ↓reduceIte, ite_self, Int.reduceEq, Int.reduceLT, Int.reduceLE, Int.reduceNeg, Int.reduceToNat, jm_wr_id, pb_none, pb_int, pb_ref, ↓rw_obj, c1, ↓rw_ic2, ja_min, ↓ph2]
  · rw [eh2, st_ne (by omega)]
    exact l1
  · rw [eh2, st_ne (by omega)]
    exact m1
  · rw [eh2, st_ne (by omega)]
    exact o1 b b1 (by omega) (by omega)
set_option maxHeartbeats 4000000 in
theorem k_init3 {n : Nat} {h : jH} {a : Nat} {f : Nat → jV} {d : Int} (hq : h.1 a = some (2, 8, f)) (hlt : a < h.2.1) : ∃ z : jH, fX3_init n [.inr (some a), .inl d] h = some (none, z) ∧ z.1 a = some (2, 8, jm_upd (jm_upd (jm_upd (jm_upd f 4 (.inr (some h.2.1))) 6 (.inr (some (h.2.1 + 1)))) 0 (.inl 4)) 1 (.inl d)) ∧ z.1 h.2.1 = some (25, 16, fun _ => .inr none) ∧ z.1 (h.2.1 + 1) = some (20, 300, fun _ => .inl 0) ∧ (∀ b, b ≠ a → (b < h.2.1 ∨ h.2.1 + 2 ≤ b) → z.1 b = h.1 b) ∧ z.2 = (h.2.1 + 2, h.2.2 + 316) := by
  obtain ⟨h1, c1, q1, l1, m1, o1, z1⟩ := k_init2 (n := n) (h := h) (a := a) (k := 4) (d := d) hq (by decide) hlt
  have z11 : h1.2.1 = h.2.1 + 2 := by rw [z1]
  refine ⟨h1, ?_, q1, ?_, ?_, fun b b1 b2 => ?_, z1⟩
  · simp only [fX3_init, jm_run, List.length_cons, List.length_nil, Nat.reduceAdd, if_true, jm_init, List.map_cons, List.map_nil, Nat.reduceSub, List.replicate, List.cons_append, List.nil_append, kX3_init]
    simp (disch := first | omega | assumption | (simp only [List.length_cons, List.length_nil]; omega) | decide | (simp (disch := decide) only [pu_up_ne, pu_up_at]; first | omega | assumption)) only [↓ja_int, ↓ja_null, ↓ja_iload_0, ↓ja_aload_0, ↓ja_istore_0, ↓ja_astore_0, ↓ja_kill_0, ↓ja_iinc_0, ↓ja_iload_1, ↓ja_aload_1, ↓ja_istore_1, ↓ja_astore_1, ↓ja_kill_1, ↓ja_iinc_1, ↓ja_iload_2, ↓ja_aload_2, ↓ja_istore_2, ↓ja_astore_2, ↓ja_kill_2, ↓ja_iinc_2, ↓ja_iload_3, ↓ja_aload_3, ↓ja_istore_3, ↓ja_astore_3, ↓ja_kill_3, ↓ja_iinc_3, ↓ja_iload_4, ↓ja_aload_4, ↓ja_istore_4, ↓ja_astore_4, ↓ja_kill_4, ↓ja_iinc_4, ↓ja_iload_5, ↓ja_aload_5, ↓ja_istore_5, ↓ja_astore_5, ↓ja_kill_5, ↓ja_iinc_5, ↓ja_iload_6, ↓ja_aload_6, ↓ja_istore_6, ↓ja_astore_6, ↓ja_kill_6, ↓ja_iinc_6, ↓ja_iload_7, ↓ja_aload_7, ↓ja_istore_7, ↓ja_astore_7, ↓ja_kill_7, ↓ja_iinc_7, ↓ja_iload_8, ↓ja_aload_8, ↓ja_istore_8, ↓ja_astore_8, ↓ja_kill_8, ↓ja_iinc_8, ↓ja_iload_9, ↓ja_aload_9, ↓ja_istore_9, ↓ja_astore_9, ↓ja_kill_9, ↓ja_iinc_9, ↓ja_iload_10, ↓ja_aload_10, ↓ja_istore_10, ↓ja_astore_10, ↓ja_kill_10, ↓ja_iinc_10, ↓ja_iadd, ↓ja_isub, ↓ja_imul, ↓ja_dup, ↓ja_dup2, ↓ja_i2b, ↓ja_ifeq, ↓ja_ifne, ↓ja_iflt, ↓ja_ifge, ↓ja_ifgt, ↓ja_ifle, ↓ja_icmpeq, ↓ja_icmpne, ↓ja_icmplt, ↓ja_icmpge, ↓ja_icmpgt, ↓ja_icmple, ↓ja_ifnull_n, ↓ja_ifnull_s, ↓ja_ifnonnull_n, ↓ja_ifnonnull_s, ↓ja_iret, ↓ja_aret, ↓ja_vret, ↓ja_zret0, ↓ja_zret1, ↓ja_sw, ↓ja_pe, ↓ja_pn, ↓ja_pz, ↓reduceIte, ite_self, Int.reduceEq, Int.reduceLT, Int.reduceLE, Int.reduceNeg, Int.reduceToNat, jm_wr_id, pb_none, pb_int, pb_ref, ↓rw_obj, c1, ↓rw_ic2, ja_min]
  · exact l1
  · exact m1
  · exact o1 b b1 (by omega) (by omega)
set_option maxHeartbeats 4000000 in
theorem k_init4 {n : Nat} {h : jH} {a : Nat} {f : Nat → jV} {d x : Int} (hq : h.1 a = some (3, 11, f)) (hlt : a < h.2.1) : ∃ z : jH, fX4_init n [.inr (some a), .inl d, .inl x] h = some (none, z) ∧ z.1 a = some (3, 11, jm_upd (jm_upd (jm_upd (jm_upd (jm_upd (jm_upd f 4 (.inr (some h.2.1))) 6 (.inr (some (h.2.1 + 1)))) 0 (.inl 6)) 1 (.inl d)) 9 (.inr (some (h.2.1 + 2)))) 8 (.inl (if 8 < x then 8 else x))) ∧ z.1 h.2.1 = some (25, 16, fun _ => .inr none) ∧ z.1 (h.2.1 + 1) = some (20, 300, fun _ => .inl 0) ∧ z.1 (h.2.1 + 2) = some (20, 8, fun _ => .inl 0) ∧ (∀ b, b ≠ a → (b < h.2.1 ∨ h.2.1 + 3 ≤ b) → z.1 b = h.1 b) ∧ z.2 = (h.2.1 + 3, h.2.2 + 324) := by
  obtain ⟨h1, c1, q1, l1, m1, o1, z1⟩ := k_init2 (n := n) (h := h) (a := a) (k := 6) (d := d) hq (by decide) hlt
  have z11 : h1.2.1 = h.2.1 + 2 := by rw [z1]
  obtain ⟨h2, eh2⟩ : ∃ z : jH, z = jm_new h1 (20, 8, fun _ => .inl 0) := ⟨_, rfl⟩
  have nh2 : ∀ {kk : jK} {LL : List (Option jV)} {SS : List jV}, jk_newarr 20 (.inl 0) kk LL (.inl 8 :: SS) h1 = kk LL (.inr (some h1.2.1) :: SS) h2 := fun {kk LL SS} => by rw [eh2]; exact rw_newarr (by decide) (by decide)
  have zh2 : h2.2 = (h.2.1 + 3, h.2.2 + 324) := by rw [eh2, nw_2, z1]; exact Prod.ext (show h.2.1 + 2 + 1 = h.2.1 + 3 by omega) (show h.2.2 + 316 + 8 = h.2.2 + 324 by omega)
  have yh2 : h1.2.1 = h.2.1 + 2 := by rw [z1]
  rw [yh2] at nh2
  have qh2 : h2.1 a = some (3, 11, jm_upd (jm_upd (jm_upd (jm_upd f 4 (.inr (some h.2.1))) 6 (.inr (some (h.2.1 + 1)))) 0 (.inl 6)) 1 (.inl d)) := by rw [eh2, nw_ne (by omega)]; exact q1
  obtain ⟨h3, eh3⟩ : ∃ z : jH, z = jm_set h2 a (3, 11, jm_upd (jm_upd (jm_upd (jm_upd f 4 (.inr (some h.2.1))) 6 (.inr (some (h.2.1 + 1)))) 0 (.inl 6)) 1 (.inl d)) 9 (.inr (some (h.2.1 + 2))) := ⟨_, rfl⟩
  have ph3 : ∀ {kk : jK} {LL : List (Option jV)} {SS : List jV}, jk_puta [3] 9 kk LL (.inr (some (h.2.1 + 2)) :: .inr (some a) :: SS) h2 = kk LL SS h3 := fun {kk LL SS} => by rw [eh3]; exact rw_puta qh2 (by simp)
  have qh3 : h3.1 a = some (3, 11, jm_upd (jm_upd (jm_upd (jm_upd (jm_upd f 4 (.inr (some h.2.1))) 6 (.inr (some (h.2.1 + 1)))) 0 (.inl 6)) 1 (.inl d)) 9 (.inr (some (h.2.1 + 2)))) := by rw [eh3]; exact st_at
  have zh3 : h3.2 = (h.2.1 + 3, h.2.2 + 324) := by rw [eh3, st_2, zh2]
  obtain ⟨h4, eh4⟩ : ∃ z : jH, z = jm_set h3 a (3, 11, jm_upd (jm_upd (jm_upd (jm_upd (jm_upd f 4 (.inr (some h.2.1))) 6 (.inr (some (h.2.1 + 1)))) 0 (.inl 6)) 1 (.inl d)) 9 (.inr (some (h.2.1 + 2)))) 8 (.inl (if 8 < x then 8 else x)) := ⟨_, rfl⟩
  have ph4 : ∀ {kk : jK} {LL : List (Option jV)} {SS : List jV}, jk_puti [3] 8 kk LL (.inl (if 8 < x then 8 else x) :: .inr (some a) :: SS) h3 = kk LL SS h4 := fun {kk LL SS} => by rw [eh4]; exact rw_puti qh3 (by simp)
  have qh4 : h4.1 a = some (3, 11, jm_upd (jm_upd (jm_upd (jm_upd (jm_upd (jm_upd f 4 (.inr (some h.2.1))) 6 (.inr (some (h.2.1 + 1)))) 0 (.inl 6)) 1 (.inl d)) 9 (.inr (some (h.2.1 + 2)))) 8 (.inl (if 8 < x then 8 else x))) := by rw [eh4]; exact st_at
  have zh4 : h4.2 = (h.2.1 + 3, h.2.2 + 324) := by rw [eh4, st_2, zh3]
  refine ⟨h4, ?_, qh4, ?_, ?_, ?_, fun b b1 b2 => ?_, zh4⟩
  · simp only [fX4_init, jm_run, List.length_cons, List.length_nil, Nat.reduceAdd, if_true, jm_init, List.map_cons, List.map_nil, Nat.reduceSub, List.replicate, List.cons_append, List.nil_append, kX4_init]
    simp (disch := first | omega | assumption | (simp only [List.length_cons, List.length_nil]; omega) | decide | (simp (disch := decide) only [pu_up_ne, pu_up_at]; first | omega | assumption)) only [↓ja_int, ↓ja_null, ↓ja_iload_0, ↓ja_aload_0, ↓ja_istore_0, ↓ja_astore_0, ↓ja_kill_0, ↓ja_iinc_0, ↓ja_iload_1, ↓ja_aload_1, ↓ja_istore_1, ↓ja_astore_1, ↓ja_kill_1, ↓ja_iinc_1, ↓ja_iload_2, ↓ja_aload_2, ↓ja_istore_2, ↓ja_astore_2, ↓ja_kill_2, ↓ja_iinc_2, ↓ja_iload_3, ↓ja_aload_3, ↓ja_istore_3, ↓ja_astore_3, ↓ja_kill_3, ↓ja_iinc_3, ↓ja_iload_4, ↓ja_aload_4, ↓ja_istore_4, ↓ja_astore_4, ↓ja_kill_4, ↓ja_iinc_4, ↓ja_iload_5, ↓ja_aload_5, ↓ja_istore_5, ↓ja_astore_5, ↓ja_kill_5, ↓ja_iinc_5, ↓ja_iload_6, ↓ja_aload_6, ↓ja_istore_6, ↓ja_astore_6, ↓ja_kill_6, ↓ja_iinc_6, ↓ja_iload_7, ↓ja_aload_7, ↓ja_istore_7, ↓ja_astore_7, ↓ja_kill_7, ↓ja_iinc_7, ↓ja_iload_8, ↓ja_aload_8, ↓ja_istore_8, ↓ja_astore_8, ↓ja_kill_8, ↓ja_iinc_8, ↓ja_iload_9, ↓ja_aload_9, ↓ja_istore_9, ↓ja_astore_9, ↓ja_kill_9, ↓ja_iinc_9, ↓ja_iload_10, ↓ja_aload_10, ↓ja_istore_10, ↓ja_astore_10, ↓ja_kill_10, ↓ja_iinc_10, ↓ja_iadd, ↓ja_isub, ↓ja_imul, ↓ja_dup, ↓ja_dup2, ↓ja_i2b, ↓ja_ifeq, ↓ja_ifne, ↓ja_iflt, ↓ja_ifge, ↓ja_ifgt, ↓ja_ifle, ↓ja_icmpeq, ↓ja_icmpne, ↓ja_icmplt, ↓ja_icmpge, ↓ja_icmpgt, ↓ja_icmple, ↓ja_ifnull_n, ↓ja_ifnull_s, ↓ja_ifnonnull_n, ↓ja_ifnonnull_s, ↓ja_iret, ↓ja_aret, ↓ja_vret, ↓ja_zret0, ↓ja_zret1, ↓ja_sw, ↓ja_pe, ↓ja_pn, ↓ja_pz, ↓reduceIte, ite_self, Int.reduceEq, Int.reduceLT, Int.reduceLE, Int.reduceNeg, Int.reduceToNat, jm_wr_id, pb_none, pb_int, pb_ref, ↓rw_obj, c1, ↓rw_ic2, ja_min, ↓nh2, ↓ph3, ↓ph4]
  · rw [eh4, st_ne (by omega), eh3, st_ne (by omega), eh2, nw_ne (by omega)]
    exact l1
  · rw [eh4, st_ne (by omega), eh3, st_ne (by omega), eh2, nw_ne (by omega)]
    exact m1
  · rw [eh4, st_ne (by omega), eh3, st_ne (by omega), eh2, ← yh2]
    exact nw_at
  · rw [eh4, st_ne (by omega), eh3, st_ne (by omega), eh2, nw_ne (by omega)]
    exact o1 b b1 (by omega) (by omega)
set_option maxHeartbeats 4000000 in
theorem k_init5 {n : Nat} {h : jH} {a : Nat} {f : Nat → jV} {d : Int} (hq : h.1 a = some (4, 11, f)) (hlt : a < h.2.1) : ∃ z : jH, fX5_init n [.inr (some a), .inl d] h = some (none, z) ∧ z.1 a = some (4, 11, jm_upd (jm_upd (jm_upd (jm_upd (jm_upd (jm_upd f 4 (.inr (some h.2.1))) 6 (.inr (some (h.2.1 + 1)))) 0 (.inl 5)) 1 (.inl d)) 8 (.inr (some (h.2.1 + 2)))) 10 (.inl (-1))) ∧ z.1 h.2.1 = some (25, 16, fun _ => .inr none) ∧ z.1 (h.2.1 + 1) = some (20, 300, fun _ => .inl 0) ∧ z.1 (h.2.1 + 2) = some (21, 16, fun _ => .inl 0) ∧ (∀ b, b ≠ a → (b < h.2.1 ∨ h.2.1 + 3 ≤ b) → z.1 b = h.1 b) ∧ z.2 = (h.2.1 + 3, h.2.2 + 332) := by
  obtain ⟨h1, c1, q1, l1, m1, o1, z1⟩ := k_init2 (n := n) (h := h) (a := a) (k := 5) (d := d) hq (by decide) hlt
  have z11 : h1.2.1 = h.2.1 + 2 := by rw [z1]
  obtain ⟨h2, eh2⟩ : ∃ z : jH, z = jm_new h1 (21, 16, fun _ => .inl 0) := ⟨_, rfl⟩
  have nh2 : ∀ {kk : jK} {LL : List (Option jV)} {SS : List jV}, jk_newarr 21 (.inl 0) kk LL (.inl 16 :: SS) h1 = kk LL (.inr (some h1.2.1) :: SS) h2 := fun {kk LL SS} => by rw [eh2]; exact rw_newarr (by decide) (by decide)
  have zh2 : h2.2 = (h.2.1 + 3, h.2.2 + 332) := by rw [eh2, nw_2, z1]; exact Prod.ext (show h.2.1 + 2 + 1 = h.2.1 + 3 by omega) (show h.2.2 + 316 + 16 = h.2.2 + 332 by omega)
  have yh2 : h1.2.1 = h.2.1 + 2 := by rw [z1]
  rw [yh2] at nh2
  have qh2 : h2.1 a = some (4, 11, jm_upd (jm_upd (jm_upd (jm_upd f 4 (.inr (some h.2.1))) 6 (.inr (some (h.2.1 + 1)))) 0 (.inl 5)) 1 (.inl d)) := by rw [eh2, nw_ne (by omega)]; exact q1
  obtain ⟨h3, eh3⟩ : ∃ z : jH, z = jm_set h2 a (4, 11, jm_upd (jm_upd (jm_upd (jm_upd f 4 (.inr (some h.2.1))) 6 (.inr (some (h.2.1 + 1)))) 0 (.inl 5)) 1 (.inl d)) 8 (.inr (some (h.2.1 + 2))) := ⟨_, rfl⟩
  have ph3 : ∀ {kk : jK} {LL : List (Option jV)} {SS : List jV}, jk_puta [4] 8 kk LL (.inr (some (h.2.1 + 2)) :: .inr (some a) :: SS) h2 = kk LL SS h3 := fun {kk LL SS} => by rw [eh3]; exact rw_puta qh2 (by simp)
  have qh3 : h3.1 a = some (4, 11, jm_upd (jm_upd (jm_upd (jm_upd (jm_upd f 4 (.inr (some h.2.1))) 6 (.inr (some (h.2.1 + 1)))) 0 (.inl 5)) 1 (.inl d)) 8 (.inr (some (h.2.1 + 2)))) := by rw [eh3]; exact st_at
  have zh3 : h3.2 = (h.2.1 + 3, h.2.2 + 332) := by rw [eh3, st_2, zh2]
  obtain ⟨h4, eh4⟩ : ∃ z : jH, z = jm_set h3 a (4, 11, jm_upd (jm_upd (jm_upd (jm_upd (jm_upd f 4 (.inr (some h.2.1))) 6 (.inr (some (h.2.1 + 1)))) 0 (.inl 5)) 1 (.inl d)) 8 (.inr (some (h.2.1 + 2)))) 10 (.inl (-1)) := ⟨_, rfl⟩
  have ph4 : ∀ {kk : jK} {LL : List (Option jV)} {SS : List jV}, jk_puti [4] 10 kk LL (.inl (-1) :: .inr (some a) :: SS) h3 = kk LL SS h4 := fun {kk LL SS} => by rw [eh4]; exact rw_puti qh3 (by simp)
  have qh4 : h4.1 a = some (4, 11, jm_upd (jm_upd (jm_upd (jm_upd (jm_upd (jm_upd f 4 (.inr (some h.2.1))) 6 (.inr (some (h.2.1 + 1)))) 0 (.inl 5)) 1 (.inl d)) 8 (.inr (some (h.2.1 + 2)))) 10 (.inl (-1))) := by rw [eh4]; exact st_at
  have zh4 : h4.2 = (h.2.1 + 3, h.2.2 + 332) := by rw [eh4, st_2, zh3]
  refine ⟨h4, ?_, qh4, ?_, ?_, ?_, fun b b1 b2 => ?_, zh4⟩
  · simp only [fX5_init, jm_run, List.length_cons, List.length_nil, Nat.reduceAdd, if_true, jm_init, List.map_cons, List.map_nil, Nat.reduceSub, List.replicate, List.cons_append, List.nil_append, kX5_init]
    simp (disch := first | omega | assumption | (simp only [List.length_cons, List.length_nil]; omega) | decide | (simp (disch := decide) only [pu_up_ne, pu_up_at]; first | omega | assumption)) only [↓ja_int, ↓ja_null, ↓ja_iload_0, ↓ja_aload_0, ↓ja_istore_0, ↓ja_astore_0, ↓ja_kill_0, ↓ja_iinc_0, ↓ja_iload_1, ↓ja_aload_1, ↓ja_istore_1, ↓ja_astore_1, ↓ja_kill_1, ↓ja_iinc_1, ↓ja_iload_2, ↓ja_aload_2, ↓ja_istore_2, ↓ja_astore_2, ↓ja_kill_2, ↓ja_iinc_2, ↓ja_iload_3, ↓ja_aload_3, ↓ja_istore_3, ↓ja_astore_3, ↓ja_kill_3, ↓ja_iinc_3, ↓ja_iload_4, ↓ja_aload_4, ↓ja_istore_4, ↓ja_astore_4, ↓ja_kill_4, ↓ja_iinc_4, ↓ja_iload_5, ↓ja_aload_5, ↓ja_istore_5, ↓ja_astore_5, ↓ja_kill_5, ↓ja_iinc_5, ↓ja_iload_6, ↓ja_aload_6, ↓ja_istore_6, ↓ja_astore_6, ↓ja_kill_6, ↓ja_iinc_6, ↓ja_iload_7, ↓ja_aload_7, ↓ja_istore_7, ↓ja_astore_7, ↓ja_kill_7, ↓ja_iinc_7, ↓ja_iload_8, ↓ja_aload_8, ↓ja_istore_8, ↓ja_astore_8, ↓ja_kill_8, ↓ja_iinc_8, ↓ja_iload_9, ↓ja_aload_9, ↓ja_istore_9, ↓ja_astore_9, ↓ja_kill_9, ↓ja_iinc_9, ↓ja_iload_10, ↓ja_aload_10, ↓ja_istore_10, ↓ja_astore_10, ↓ja_kill_10, ↓ja_iinc_10, ↓ja_iadd, ↓ja_isub, ↓ja_imul, ↓ja_dup, ↓ja_dup2, ↓ja_i2b, ↓ja_ifeq, ↓ja_ifne, ↓ja_iflt, ↓ja_ifge, ↓ja_ifgt, ↓ja_ifle, ↓ja_icmpeq, ↓ja_icmpne, ↓ja_icmplt, ↓ja_icmpge, ↓ja_icmpgt, ↓ja_icmple, ↓ja_ifnull_n, ↓ja_ifnull_s, ↓ja_ifnonnull_n, ↓ja_ifnonnull_s, ↓ja_iret, ↓ja_aret, ↓ja_vret, ↓ja_zret0, ↓ja_zret1, ↓ja_sw, ↓ja_pe, ↓ja_pn, ↓ja_pz, ↓reduceIte, ite_self, Int.reduceEq, Int.reduceLT, Int.reduceLE, Int.reduceNeg, Int.reduceToNat, jm_wr_id, pb_none, pb_int, pb_ref, ↓rw_obj, c1, ↓rw_ic2, ja_min, ↓nh2, ↓ph3, ↓ph4]
  · rw [eh4, st_ne (by omega), eh3, st_ne (by omega), eh2, nw_ne (by omega)]
    exact l1
  · rw [eh4, st_ne (by omega), eh3, st_ne (by omega), eh2, nw_ne (by omega)]
    exact m1
  · rw [eh4, st_ne (by omega), eh3, st_ne (by omega), eh2, ← yh2]
    exact nw_at
  · rw [eh4, st_ne (by omega), eh3, st_ne (by omega), eh2, nw_ne (by omega)]
    exact o1 b b1 (by omega) (by omega)
set_option maxHeartbeats 4000000 in
theorem k_init6 {n : Nat} {h : jH} {a : Nat} {f : Nat → jV} {d : Int} (hq : h.1 a = some (5, 10, f)) (hlt : a < h.2.1) : ∃ z : jH, fX6_init n [.inr (some a), .inl d] h = some (none, z) ∧ z.1 a = some (5, 10, jm_upd (jm_upd (jm_upd (jm_upd (jm_upd (jm_upd f 4 (.inr (some h.2.1))) 6 (.inr (some (h.2.1 + 1)))) 0 (.inl 11)) 1 (.inl d)) 8 (.inr (some (h.2.1 + 2)))) 9 (.inl (-1))) ∧ z.1 h.2.1 = some (25, 16, fun _ => .inr none) ∧ z.1 (h.2.1 + 1) = some (20, 300, fun _ => .inl 0) ∧ z.1 (h.2.1 + 2) = some (20, 16, fun _ => .inl 0) ∧ (∀ b, b ≠ a → (b < h.2.1 ∨ h.2.1 + 3 ≤ b) → z.1 b = h.1 b) ∧ z.2 = (h.2.1 + 3, h.2.2 + 332) := by
  obtain ⟨h1, c1, q1, l1, m1, o1, z1⟩ := k_init2 (n := n) (h := h) (a := a) (k := 11) (d := d) hq (by decide) hlt
  have z11 : h1.2.1 = h.2.1 + 2 := by rw [z1]
  obtain ⟨h2, eh2⟩ : ∃ z : jH, z = jm_new h1 (20, 16, fun _ => .inl 0) := ⟨_, rfl⟩
  have nh2 : ∀ {kk : jK} {LL : List (Option jV)} {SS : List jV}, jk_newarr 20 (.inl 0) kk LL (.inl 16 :: SS) h1 = kk LL (.inr (some h1.2.1) :: SS) h2 := fun {kk LL SS} => by rw [eh2]; exact rw_newarr (by decide) (by decide)
  have zh2 : h2.2 = (h.2.1 + 3, h.2.2 + 332) := by rw [eh2, nw_2, z1]; exact Prod.ext (show h.2.1 + 2 + 1 = h.2.1 + 3 by omega) (show h.2.2 + 316 + 16 = h.2.2 + 332 by omega)
  have yh2 : h1.2.1 = h.2.1 + 2 := by rw [z1]
  rw [yh2] at nh2
  have qh2 : h2.1 a = some (5, 10, jm_upd (jm_upd (jm_upd (jm_upd f 4 (.inr (some h.2.1))) 6 (.inr (some (h.2.1 + 1)))) 0 (.inl 11)) 1 (.inl d)) := by rw [eh2, nw_ne (by omega)]; exact q1
  obtain ⟨h3, eh3⟩ : ∃ z : jH, z = jm_set h2 a (5, 10, jm_upd (jm_upd (jm_upd (jm_upd f 4 (.inr (some h.2.1))) 6 (.inr (some (h.2.1 + 1)))) 0 (.inl 11)) 1 (.inl d)) 8 (.inr (some (h.2.1 + 2))) := ⟨_, rfl⟩
  have ph3 : ∀ {kk : jK} {LL : List (Option jV)} {SS : List jV}, jk_puta [5] 8 kk LL (.inr (some (h.2.1 + 2)) :: .inr (some a) :: SS) h2 = kk LL SS h3 := fun {kk LL SS} => by rw [eh3]; exact rw_puta qh2 (by simp)
  have qh3 : h3.1 a = some (5, 10, jm_upd (jm_upd (jm_upd (jm_upd (jm_upd f 4 (.inr (some h.2.1))) 6 (.inr (some (h.2.1 + 1)))) 0 (.inl 11)) 1 (.inl d)) 8 (.inr (some (h.2.1 + 2)))) := by rw [eh3]; exact st_at
  have zh3 : h3.2 = (h.2.1 + 3, h.2.2 + 332) := by rw [eh3, st_2, zh2]
  obtain ⟨h4, eh4⟩ : ∃ z : jH, z = jm_set h3 a (5, 10, jm_upd (jm_upd (jm_upd (jm_upd (jm_upd f 4 (.inr (some h.2.1))) 6 (.inr (some (h.2.1 + 1)))) 0 (.inl 11)) 1 (.inl d)) 8 (.inr (some (h.2.1 + 2)))) 9 (.inl (-1)) := ⟨_, rfl⟩
  have ph4 : ∀ {kk : jK} {LL : List (Option jV)} {SS : List jV}, jk_puti [5] 9 kk LL (.inl (-1) :: .inr (some a) :: SS) h3 = kk LL SS h4 := fun {kk LL SS} => by rw [eh4]; exact rw_puti qh3 (by simp)
  have qh4 : h4.1 a = some (5, 10, jm_upd (jm_upd (jm_upd (jm_upd (jm_upd (jm_upd f 4 (.inr (some h.2.1))) 6 (.inr (some (h.2.1 + 1)))) 0 (.inl 11)) 1 (.inl d)) 8 (.inr (some (h.2.1 + 2)))) 9 (.inl (-1))) := by rw [eh4]; exact st_at
  have zh4 : h4.2 = (h.2.1 + 3, h.2.2 + 332) := by rw [eh4, st_2, zh3]
  refine ⟨h4, ?_, qh4, ?_, ?_, ?_, fun b b1 b2 => ?_, zh4⟩
  · simp only [fX6_init, jm_run, List.length_cons, List.length_nil, Nat.reduceAdd, if_true, jm_init, List.map_cons, List.map_nil, Nat.reduceSub, List.replicate, List.cons_append, List.nil_append, kX6_init]
    simp (disch := first | omega | assumption | (simp only [List.length_cons, List.length_nil]; omega) | decide | (simp (disch := decide) only [pu_up_ne, pu_up_at]; first | omega | assumption)) only [↓ja_int, ↓ja_null, ↓ja_iload_0, ↓ja_aload_0, ↓ja_istore_0, ↓ja_astore_0, ↓ja_kill_0, ↓ja_iinc_0, ↓ja_iload_1, ↓ja_aload_1, ↓ja_istore_1, ↓ja_astore_1, ↓ja_kill_1, ↓ja_iinc_1, ↓ja_iload_2, ↓ja_aload_2, ↓ja_istore_2, ↓ja_astore_2, ↓ja_kill_2, ↓ja_iinc_2, ↓ja_iload_3, ↓ja_aload_3, ↓ja_istore_3, ↓ja_astore_3, ↓ja_kill_3, ↓ja_iinc_3, ↓ja_iload_4, ↓ja_aload_4, ↓ja_istore_4, ↓ja_astore_4, ↓ja_kill_4, ↓ja_iinc_4, ↓ja_iload_5, ↓ja_aload_5, ↓ja_istore_5, ↓ja_astore_5, ↓ja_kill_5, ↓ja_iinc_5, ↓ja_iload_6, ↓ja_aload_6, ↓ja_istore_6, ↓ja_astore_6, ↓ja_kill_6, ↓ja_iinc_6, ↓ja_iload_7, ↓ja_aload_7, ↓ja_istore_7, ↓ja_astore_7, ↓ja_kill_7, ↓ja_iinc_7, ↓ja_iload_8, ↓ja_aload_8, ↓ja_istore_8, ↓ja_astore_8, ↓ja_kill_8, ↓ja_iinc_8, ↓ja_iload_9, ↓ja_aload_9, ↓ja_istore_9, ↓ja_astore_9, ↓ja_kill_9, ↓ja_iinc_9, ↓ja_iload_10, ↓ja_aload_10, ↓ja_istore_10, ↓ja_astore_10, ↓ja_kill_10, ↓ja_iinc_10, ↓ja_iadd, ↓ja_isub, ↓ja_imul, ↓ja_dup, ↓ja_dup2, ↓ja_i2b, ↓ja_ifeq, ↓ja_ifne, ↓ja_iflt, ↓ja_ifge, ↓ja_ifgt, ↓ja_ifle, ↓ja_icmpeq, ↓ja_icmpne, ↓ja_icmplt, ↓ja_icmpge, ↓ja_icmpgt, ↓ja_icmple, ↓ja_ifnull_n, ↓ja_ifnull_s, ↓ja_ifnonnull_n, ↓ja_ifnonnull_s, ↓ja_iret, ↓ja_aret, ↓ja_vret, ↓ja_zret0, ↓ja_zret1, ↓ja_sw, ↓ja_pe, ↓ja_pn, ↓ja_pz, ↓reduceIte, ite_self, Int.reduceEq, Int.reduceLT, Int.reduceLE, Int.reduceNeg, Int.reduceToNat, jm_wr_id, pb_none, pb_int, pb_ref, ↓rw_obj, c1, ↓rw_ic2, ja_min, ↓nh2, ↓ph3, ↓ph4]
  · rw [eh4, st_ne (by omega), eh3, st_ne (by omega), eh2, nw_ne (by omega)]
    exact l1
  · rw [eh4, st_ne (by omega), eh3, st_ne (by omega), eh2, nw_ne (by omega)]
    exact m1
  · rw [eh4, st_ne (by omega), eh3, st_ne (by omega), eh2, ← yh2]
    exact nw_at
  · rw [eh4, st_ne (by omega), eh3, st_ne (by omega), eh2, nw_ne (by omega)]
    exact o1 b b1 (by omega) (by omega)
set_option maxHeartbeats 4000000 in
theorem k_init7 {n : Nat} {h : jH} {a : Nat} {f : Nat → jV} {d x k : Int} (hq : h.1 a = some (6, 9, f)) (hlt : a < h.2.1) : ∃ z : jH, fX7_init n [.inr (some a), .inl k, .inl d, .inl x] h = some (none, z) ∧ z.1 a = some (6, 9, jm_upd (jm_upd (jm_upd (jm_upd (jm_upd f 4 (.inr (some h.2.1))) 6 (.inr (some (h.2.1 + 1)))) 0 (.inl k)) 1 (.inl d)) 8 (.inl x)) ∧ z.1 h.2.1 = some (25, 16, fun _ => .inr none) ∧ z.1 (h.2.1 + 1) = some (20, 300, fun _ => .inl 0) ∧ (∀ b, b ≠ a → (b < h.2.1 ∨ h.2.1 + 2 ≤ b) → z.1 b = h.1 b) ∧ z.2 = (h.2.1 + 2, h.2.2 + 316) := by
  obtain ⟨h1, c1, q1, l1, m1, o1, z1⟩ := k_init2 (n := n) (h := h) (a := a) (k := k) (d := d) hq (by decide) hlt
  have z11 : h1.2.1 = h.2.1 + 2 := by rw [z1]
  obtain ⟨h2, eh2⟩ : ∃ z : jH, z = jm_set h1 a (6, 9, jm_upd (jm_upd (jm_upd (jm_upd f 4 (.inr (some h.2.1))) 6 (.inr (some (h.2.1 + 1)))) 0 (.inl k)) 1 (.inl d)) 8 (.inl x) := ⟨_, rfl⟩
  have ph2 : ∀ {kk : jK} {LL : List (Option jV)} {SS : List jV}, jk_puti [6] 8 kk LL (.inl x :: .inr (some a) :: SS) h1 = kk LL SS h2 := fun {kk LL SS} => by rw [eh2]; exact rw_puti q1 (by simp)
  have qh2 : h2.1 a = some (6, 9, jm_upd (jm_upd (jm_upd (jm_upd (jm_upd f 4 (.inr (some h.2.1))) 6 (.inr (some (h.2.1 + 1)))) 0 (.inl k)) 1 (.inl d)) 8 (.inl x)) := by rw [eh2]; exact st_at
  have zh2 : h2.2 = (h.2.1 + 2, h.2.2 + 316) := by rw [eh2, st_2, z1]
  refine ⟨h2, ?_, qh2, ?_, ?_, fun b b1 b2 => ?_, zh2⟩
  · simp only [fX7_init, jm_run, List.length_cons, List.length_nil, Nat.reduceAdd, if_true, jm_init, List.map_cons, List.map_nil, Nat.reduceSub, List.replicate, List.cons_append, List.nil_append, kX7_init]
    simp (disch := first | omega | assumption | (simp only [List.length_cons, List.length_nil]; omega) | decide | (simp (disch := decide) only [pu_up_ne, pu_up_at]; first | omega | assumption)) only [↓ja_int, ↓ja_null, ↓ja_iload_0, ↓ja_aload_0, ↓ja_istore_0, ↓ja_astore_0, ↓ja_kill_0, ↓ja_iinc_0, ↓ja_iload_1, ↓ja_aload_1, ↓ja_istore_1, ↓ja_astore_1, ↓ja_kill_1, ↓ja_iinc_1, ↓ja_iload_2, ↓ja_aload_2, ↓ja_istore_2, ↓ja_astore_2, ↓ja_kill_2, ↓ja_iinc_2, ↓ja_iload_3, ↓ja_aload_3, ↓ja_istore_3, ↓ja_astore_3, ↓ja_kill_3, ↓ja_iinc_3, ↓ja_iload_4, ↓ja_aload_4, ↓ja_istore_4, ↓ja_astore_4, ↓ja_kill_4, ↓ja_iinc_4, ↓ja_iload_5, ↓ja_aload_5, ↓ja_istore_5, ↓ja_astore_5, ↓ja_kill_5, ↓ja_iinc_5, ↓ja_iload_6, ↓ja_aload_6, ↓ja_istore_6, ↓ja_astore_6, ↓ja_kill_6, ↓ja_iinc_6, ↓ja_iload_7, ↓ja_aload_7, ↓ja_istore_7, ↓ja_astore_7, ↓ja_kill_7, ↓ja_iinc_7, ↓ja_iload_8, ↓ja_aload_8, ↓ja_istore_8, ↓ja_astore_8, ↓ja_kill_8, ↓ja_iinc_8, ↓ja_iload_9, ↓ja_aload_9, ↓ja_istore_9, ↓ja_astore_9, ↓ja_kill_9, ↓ja_iinc_9, ↓ja_iload_10, ↓ja_aload_10, ↓ja_istore_10, ↓ja_astore_10, ↓ja_kill_10, ↓ja_iinc_10, ↓ja_iadd, ↓ja_isub, ↓ja_imul, ↓ja_dup, ↓ja_dup2, ↓ja_i2b, ↓ja_ifeq, ↓ja_ifne, ↓ja_iflt, ↓ja_ifge, ↓ja_ifgt, ↓ja_ifle, ↓ja_icmpeq, ↓ja_icmpne, ↓ja_icmplt, ↓ja_icmpge, ↓ja_icmpgt, ↓ja_icmple, ↓ja_ifnull_n, ↓ja_ifnull_s, ↓ja_ifnonnull_n, ↓ja_ifnonnull_s, ↓ja_iret, ↓ja_aret, ↓ja_vret, ↓ja_zret0, ↓ja_zret1, ↓ja_sw, ↓ja_pe, ↓ja_pn, ↓ja_pz, ↓reduceIte, ite_self, Int.reduceEq, Int.reduceLT, Int.reduceLE, Int.reduceNeg, Int.reduceToNat, jm_wr_id, pb_none, pb_int, pb_ref, ↓rw_obj, c1, ↓rw_ic2, ja_min, ↓ph2]
  · rw [eh2, st_ne (by omega)]
    exact l1
  · rw [eh2, st_ne (by omega)]
    exact m1
  · rw [eh2, st_ne (by omega)]
    exact o1 b b1 (by omega) (by omega)
set_option maxHeartbeats 4000000 in
theorem k_init8 {n : Nat} {h : jH} {a : Nat} {f : Nat → jV} {d : Int} (hq : h.1 a = some (7, 11, f)) (hlt : a < h.2.1) : ∃ z : jH, fX8_init n [.inr (some a), .inl d] h = some (none, z) ∧ z.1 a = some (7, 11, jm_upd (jm_upd (jm_upd (jm_upd (jm_upd (jm_upd f 4 (.inr (some h.2.1))) 6 (.inr (some (h.2.1 + 1)))) 0 (.inl 9)) 1 (.inl d)) 8 (.inr (some (h.2.1 + 2)))) 9 (.inr (some (h.2.1 + 3)))) ∧ z.1 h.2.1 = some (25, 16, fun _ => .inr none) ∧ z.1 (h.2.1 + 1) = some (20, 300, fun _ => .inl 0) ∧ z.1 (h.2.1 + 2) = some (20, 16, fun _ => .inl 0) ∧ z.1 (h.2.1 + 3) = some (21, 16, fun _ => .inl 0) ∧ (∀ b, b ≠ a → (b < h.2.1 ∨ h.2.1 + 4 ≤ b) → z.1 b = h.1 b) ∧ z.2 = (h.2.1 + 4, h.2.2 + 348) := by
  obtain ⟨h1, c1, q1, l1, m1, o1, z1⟩ := k_init2 (n := n) (h := h) (a := a) (k := 9) (d := d) hq (by decide) hlt
  have z11 : h1.2.1 = h.2.1 + 2 := by rw [z1]
  obtain ⟨h2, eh2⟩ : ∃ z : jH, z = jm_new h1 (20, 16, fun _ => .inl 0) := ⟨_, rfl⟩
  have nh2 : ∀ {kk : jK} {LL : List (Option jV)} {SS : List jV}, jk_newarr 20 (.inl 0) kk LL (.inl 16 :: SS) h1 = kk LL (.inr (some h1.2.1) :: SS) h2 := fun {kk LL SS} => by rw [eh2]; exact rw_newarr (by decide) (by decide)
  have zh2 : h2.2 = (h.2.1 + 3, h.2.2 + 332) := by rw [eh2, nw_2, z1]; exact Prod.ext (show h.2.1 + 2 + 1 = h.2.1 + 3 by omega) (show h.2.2 + 316 + 16 = h.2.2 + 332 by omega)
  have yh2 : h1.2.1 = h.2.1 + 2 := by rw [z1]
  rw [yh2] at nh2
  have qh2 : h2.1 a = some (7, 11, jm_upd (jm_upd (jm_upd (jm_upd f 4 (.inr (some h.2.1))) 6 (.inr (some (h.2.1 + 1)))) 0 (.inl 9)) 1 (.inl d)) := by rw [eh2, nw_ne (by omega)]; exact q1
  obtain ⟨h3, eh3⟩ : ∃ z : jH, z = jm_set h2 a (7, 11, jm_upd (jm_upd (jm_upd (jm_upd f 4 (.inr (some h.2.1))) 6 (.inr (some (h.2.1 + 1)))) 0 (.inl 9)) 1 (.inl d)) 8 (.inr (some (h.2.1 + 2))) := ⟨_, rfl⟩
  have ph3 : ∀ {kk : jK} {LL : List (Option jV)} {SS : List jV}, jk_puta [7] 8 kk LL (.inr (some (h.2.1 + 2)) :: .inr (some a) :: SS) h2 = kk LL SS h3 := fun {kk LL SS} => by rw [eh3]; exact rw_puta qh2 (by simp)
  have qh3 : h3.1 a = some (7, 11, jm_upd (jm_upd (jm_upd (jm_upd (jm_upd f 4 (.inr (some h.2.1))) 6 (.inr (some (h.2.1 + 1)))) 0 (.inl 9)) 1 (.inl d)) 8 (.inr (some (h.2.1 + 2)))) := by rw [eh3]; exact st_at
  have zh3 : h3.2 = (h.2.1 + 3, h.2.2 + 332) := by rw [eh3, st_2, zh2]
  obtain ⟨h4, eh4⟩ : ∃ z : jH, z = jm_new h3 (21, 16, fun _ => .inl 0) := ⟨_, rfl⟩
  have nh4 : ∀ {kk : jK} {LL : List (Option jV)} {SS : List jV}, jk_newarr 21 (.inl 0) kk LL (.inl 16 :: SS) h3 = kk LL (.inr (some h3.2.1) :: SS) h4 := fun {kk LL SS} => by rw [eh4]; exact rw_newarr (by decide) (by decide)
  have zh4 : h4.2 = (h.2.1 + 4, h.2.2 + 348) := by rw [eh4, nw_2, zh3]; exact Prod.ext (show h.2.1 + 3 + 1 = h.2.1 + 4 by omega) (show h.2.2 + 332 + 16 = h.2.2 + 348 by omega)
  have yh4 : h3.2.1 = h.2.1 + 3 := by rw [zh3]
  rw [yh4] at nh4
  have qh4 : h4.1 a = some (7, 11, jm_upd (jm_upd (jm_upd (jm_upd (jm_upd f 4 (.inr (some h.2.1))) 6 (.inr (some (h.2.1 + 1)))) 0 (.inl 9)) 1 (.inl d)) 8 (.inr (some (h.2.1 + 2)))) := by rw [eh4, nw_ne (by omega)]; exact qh3
  obtain ⟨h5, eh5⟩ : ∃ z : jH, z = jm_set h4 a (7, 11, jm_upd (jm_upd (jm_upd (jm_upd (jm_upd f 4 (.inr (some h.2.1))) 6 (.inr (some (h.2.1 + 1)))) 0 (.inl 9)) 1 (.inl d)) 8 (.inr (some (h.2.1 + 2)))) 9 (.inr (some (h.2.1 + 3))) := ⟨_, rfl⟩
  have ph5 : ∀ {kk : jK} {LL : List (Option jV)} {SS : List jV}, jk_puta [7] 9 kk LL (.inr (some (h.2.1 + 3)) :: .inr (some a) :: SS) h4 = kk LL SS h5 := fun {kk LL SS} => by rw [eh5]; exact rw_puta qh4 (by simp)
  have qh5 : h5.1 a = some (7, 11, jm_upd (jm_upd (jm_upd (jm_upd (jm_upd (jm_upd f 4 (.inr (some h.2.1))) 6 (.inr (some (h.2.1 + 1)))) 0 (.inl 9)) 1 (.inl d)) 8 (.inr (some (h.2.1 + 2)))) 9 (.inr (some (h.2.1 + 3)))) := by rw [eh5]; exact st_at
  have zh5 : h5.2 = (h.2.1 + 4, h.2.2 + 348) := by rw [eh5, st_2, zh4]
  refine ⟨h5, ?_, qh5, ?_, ?_, ?_, ?_, fun b b1 b2 => ?_, zh5⟩
  · simp only [fX8_init, jm_run, List.length_cons, List.length_nil, Nat.reduceAdd, if_true, jm_init, List.map_cons, List.map_nil, Nat.reduceSub, List.replicate, List.cons_append, List.nil_append, kX8_init]
    simp (disch := first | omega | assumption | (simp only [List.length_cons, List.length_nil]; omega) | decide | (simp (disch := decide) only [pu_up_ne, pu_up_at]; first | omega | assumption)) only [↓ja_int, ↓ja_null, ↓ja_iload_0, ↓ja_aload_0, ↓ja_istore_0, ↓ja_astore_0, ↓ja_kill_0, ↓ja_iinc_0, ↓ja_iload_1, ↓ja_aload_1, ↓ja_istore_1, ↓ja_astore_1, ↓ja_kill_1, ↓ja_iinc_1, ↓ja_iload_2, ↓ja_aload_2, ↓ja_istore_2, ↓ja_astore_2, ↓ja_kill_2, ↓ja_iinc_2, ↓ja_iload_3, ↓ja_aload_3, ↓ja_istore_3, ↓ja_astore_3, ↓ja_kill_3, ↓ja_iinc_3, ↓ja_iload_4, ↓ja_aload_4, ↓ja_istore_4, ↓ja_astore_4, ↓ja_kill_4, ↓ja_iinc_4, ↓ja_iload_5, ↓ja_aload_5, ↓ja_istore_5, ↓ja_astore_5, ↓ja_kill_5, ↓ja_iinc_5, ↓ja_iload_6, ↓ja_aload_6, ↓ja_istore_6, ↓ja_astore_6, ↓ja_kill_6, ↓ja_iinc_6, ↓ja_iload_7, ↓ja_aload_7, ↓ja_istore_7, ↓ja_astore_7, ↓ja_kill_7, ↓ja_iinc_7, ↓ja_iload_8, ↓ja_aload_8, ↓ja_istore_8, ↓ja_astore_8, ↓ja_kill_8, ↓ja_iinc_8, ↓ja_iload_9, ↓ja_aload_9, ↓ja_istore_9, ↓ja_astore_9, ↓ja_kill_9, ↓ja_iinc_9, ↓ja_iload_10, ↓ja_aload_10, ↓ja_istore_10, ↓ja_astore_10, ↓ja_kill_10, ↓ja_iinc_10, ↓ja_iadd, ↓ja_isub, ↓ja_imul, ↓ja_dup, ↓ja_dup2, ↓ja_i2b, ↓ja_ifeq, ↓ja_ifne, ↓ja_iflt, ↓ja_ifge, ↓ja_ifgt, ↓ja_ifle, ↓ja_icmpeq, ↓ja_icmpne, ↓ja_icmplt, ↓ja_icmpge, ↓ja_icmpgt, ↓ja_icmple, ↓ja_ifnull_n, ↓ja_ifnull_s, ↓ja_ifnonnull_n, ↓ja_ifnonnull_s, ↓ja_iret, ↓ja_aret, ↓ja_vret, ↓ja_zret0, ↓ja_zret1, ↓ja_sw, ↓ja_pe, ↓ja_pn, ↓ja_pz, ↓reduceIte, ite_self, Int.reduceEq, Int.reduceLT, Int.reduceLE, Int.reduceNeg, Int.reduceToNat, jm_wr_id, pb_none, pb_int, pb_ref, ↓rw_obj, c1, ↓rw_ic2, ja_min, ↓nh2, ↓ph3, ↓nh4, ↓ph5]
  · rw [eh5, st_ne (by omega), eh4, nw_ne (by omega), eh3, st_ne (by omega), eh2, nw_ne (by omega)]
    exact l1
  · rw [eh5, st_ne (by omega), eh4, nw_ne (by omega), eh3, st_ne (by omega), eh2, nw_ne (by omega)]
    exact m1
  · rw [eh5, st_ne (by omega), eh4, nw_ne (by omega), eh3, st_ne (by omega), eh2, ← yh2]
    exact nw_at
  · rw [eh5, st_ne (by omega), eh4, ← yh4]
    exact nw_at
  · rw [eh5, st_ne (by omega), eh4, nw_ne (by omega), eh3, st_ne (by omega), eh2, nw_ne (by omega)]
    exact o1 b b1 (by omega) (by omega)
set_option maxHeartbeats 4000000 in
theorem k_init9 {n : Nat} {h : jH} {a : Nat} {f : Nat → jV} {d x k : Int} (hq : h.1 a = some (8, 10, f)) (hlt : a < h.2.1) : ∃ z : jH, fX9_init n [.inr (some a), .inl k, .inl d, .inl x] h = some (none, z) ∧ z.1 a = some (8, 10, jm_upd (jm_upd (jm_upd (jm_upd (jm_upd f 4 (.inr (some h.2.1))) 6 (.inr (some (h.2.1 + 1)))) 0 (.inl k)) 1 (.inl d)) 8 (.inl x)) ∧ z.1 h.2.1 = some (25, 16, fun _ => .inr none) ∧ z.1 (h.2.1 + 1) = some (20, 300, fun _ => .inl 0) ∧ (∀ b, b ≠ a → (b < h.2.1 ∨ h.2.1 + 2 ≤ b) → z.1 b = h.1 b) ∧ z.2 = (h.2.1 + 2, h.2.2 + 316) := by
  obtain ⟨h1, c1, q1, l1, m1, o1, z1⟩ := k_init2 (n := n) (h := h) (a := a) (k := k) (d := d) hq (by decide) hlt
  have z11 : h1.2.1 = h.2.1 + 2 := by rw [z1]
  obtain ⟨h2, eh2⟩ : ∃ z : jH, z = jm_set h1 a (8, 10, jm_upd (jm_upd (jm_upd (jm_upd f 4 (.inr (some h.2.1))) 6 (.inr (some (h.2.1 + 1)))) 0 (.inl k)) 1 (.inl d)) 8 (.inl x) := ⟨_, rfl⟩
  have ph2 : ∀ {kk : jK} {LL : List (Option jV)} {SS : List jV}, jk_puti [8] 8 kk LL (.inl x :: .inr (some a) :: SS) h1 = kk LL SS h2 := fun {kk LL SS} => by rw [eh2]; exact rw_puti q1 (by simp)
  have qh2 : h2.1 a = some (8, 10, jm_upd (jm_upd (jm_upd (jm_upd (jm_upd f 4 (.inr (some h.2.1))) 6 (.inr (some (h.2.1 + 1)))) 0 (.inl k)) 1 (.inl d)) 8 (.inl x)) := by rw [eh2]; exact st_at
  have zh2 : h2.2 = (h.2.1 + 2, h.2.2 + 316) := by rw [eh2, st_2, z1]
  refine ⟨h2, ?_, qh2, ?_, ?_, fun b b1 b2 => ?_, zh2⟩
  · simp only [fX9_init, jm_run, List.length_cons, List.length_nil, Nat.reduceAdd, if_true, jm_init, List.map_cons, List.map_nil, Nat.reduceSub, List.replicate, List.cons_append, List.nil_append, kX9_init]
    simp (disch := first | omega | assumption | (simp only [List.length_cons, List.length_nil]; omega) | decide | (simp (disch := decide) only [pu_up_ne, pu_up_at]; first | omega | assumption)) only [↓ja_int, ↓ja_null, ↓ja_iload_0, ↓ja_aload_0, ↓ja_istore_0, ↓ja_astore_0, ↓ja_kill_0, ↓ja_iinc_0, ↓ja_iload_1, ↓ja_aload_1, ↓ja_istore_1, ↓ja_astore_1, ↓ja_kill_1, ↓ja_iinc_1, ↓ja_iload_2, ↓ja_aload_2, ↓ja_istore_2, ↓ja_astore_2, ↓ja_kill_2, ↓ja_iinc_2, ↓ja_iload_3, ↓ja_aload_3, ↓ja_istore_3, ↓ja_astore_3, ↓ja_kill_3, ↓ja_iinc_3, ↓ja_iload_4, ↓ja_aload_4, ↓ja_istore_4, ↓ja_astore_4, ↓ja_kill_4, ↓ja_iinc_4, ↓ja_iload_5, ↓ja_aload_5, ↓ja_istore_5, ↓ja_astore_5, ↓ja_kill_5, ↓ja_iinc_5, ↓ja_iload_6, ↓ja_aload_6, ↓ja_istore_6, ↓ja_astore_6, ↓ja_kill_6, ↓ja_iinc_6, ↓ja_iload_7, ↓ja_aload_7, ↓ja_istore_7, ↓ja_astore_7, ↓ja_kill_7, ↓ja_iinc_7, ↓ja_iload_8, ↓ja_aload_8, ↓ja_istore_8, ↓ja_astore_8, ↓ja_kill_8, ↓ja_iinc_8, ↓ja_iload_9, ↓ja_aload_9, ↓ja_istore_9, ↓ja_astore_9, ↓ja_kill_9, ↓ja_iinc_9, ↓ja_iload_10, ↓ja_aload_10, ↓ja_istore_10, ↓ja_astore_10, ↓ja_kill_10, ↓ja_iinc_10, ↓ja_iadd, ↓ja_isub, ↓ja_imul, ↓ja_dup, ↓ja_dup2, ↓ja_i2b, ↓ja_ifeq, ↓ja_ifne, ↓ja_iflt, ↓ja_ifge, ↓ja_ifgt, ↓ja_ifle, ↓ja_icmpeq, ↓ja_icmpne, ↓ja_icmplt, ↓ja_icmpge, ↓ja_icmpgt, ↓ja_icmple, ↓ja_ifnull_n, ↓ja_ifnull_s, ↓ja_ifnonnull_n, ↓ja_ifnonnull_s, ↓ja_iret, ↓ja_aret, ↓ja_vret, ↓ja_zret0, ↓ja_zret1, ↓ja_sw, ↓ja_pe, ↓ja_pn, ↓ja_pz, ↓reduceIte, ite_self, Int.reduceEq, Int.reduceLT, Int.reduceLE, Int.reduceNeg, Int.reduceToNat, jm_wr_id, pb_none, pb_int, pb_ref, ↓rw_obj, c1, ↓rw_ic2, ja_min, ↓ph2]
  · rw [eh2, st_ne (by omega)]
    exact l1
  · rw [eh2, st_ne (by omega)]
    exact m1
  · rw [eh2, st_ne (by omega)]
    exact o1 b b1 (by omega) (by omega)
