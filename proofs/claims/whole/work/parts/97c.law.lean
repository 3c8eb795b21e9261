/-! the law: a call, then the next -/
theorem ja_and15 {k : jK} {L : List (Option jV)} {S : List jV} {h : jH} {x : Int} : jk_and15 k L (.inl 15 :: .inl x :: S) h = k L (.inl (x % 16) :: S) h := by
  show (if (15 : Int) = 15 then k L (.inl (x % 16) :: S) h else none) = _
  rw [if_pos rfl]
section LAW
variable {h0 : jH} {y : jLay} {κ σ : aS} {g : jH} {τ : bS} {c n b L aL aM : Nat} {xs : Nat → Int32}
theorem XW.scr (X : XW h0 y κ σ g τ c) (hc : c ≤ 1000) (S : jp_Start h0 b L aL aM xs) (κ' σ' : aS) : (∀ {kk : jK} {LL : List (Option jV)} {SS : List jV}, jk_alen kk LL (.inr (some b) :: SS) (pu_H y κ' σ' g) = kk LL (.inl L :: SS) (pu_H y κ' σ' g)) ∧ ∀ {kk : jK} {LL : List (Option jV)} {SS : List jV} {i : Int}, 0 ≤ i → i < L → jk_iald kk LL (.inl i :: .inr (some b) :: SS) (pu_H y κ' σ' g) = kk LL (.inl (xs i.toNat).toInt :: SS) (pu_H y κ' σ' g) := by
  obtain ⟨s1, ⟨q, q1, q2, q3, q4⟩, s3, s4, s5, s8, ⟨s9, s10, s11⟩, s12⟩ := S
  have r := X.role hc (Or.inl s9)
  have e : (pu_H y κ' σ' g).1 b = some q := by
    show (if (y.1 b).1 = 0 then g.1 b else _) = _
    rw [if_pos r, X.2.2.2.2.2.2.2.1]
    exact q1
  refine ⟨fun {kk LL SS} => ?_, fun {kk LL SS i} i0 i1 => ?_⟩
  · rw [rw_alen e (by omega) (by omega), q3]
  · rw [rw_iald e (Or.inr q2) i0 (by omega), q4 _ (by omega)]

set_option maxHeartbeats 4000000 in
theorem L_device {i : Int} {fuel : Nat} (hn : 20000 ≤ n) (S : jp_Start h0 b L aL aM xs) (hc : c ≤ 600) (X : XW h0 y κ σ g τ c) (hi : i = 6 * (c : Int)) (hL : i + 6 ≤ L) (hf : 2 ≤ fuel) (ho : (xs i.toNat).toInt % 16 = 0) : ∃ y' κ' σ' g' τ', jk_fix (kL_law_b n) fuel 18 [some (.inr (some b)), some (.inr (some (y.2 9 0))), some (.inr (some (y.2 13 0))), some (.inl i)] [] (pu_H y κ σ g) = jk_fix (kL_law_b n) (fuel - 2) 18 [some (.inr (some b)), some (.inr (some (y'.2 9 0))), some (.inr (some (y'.2 13 0))), some (.inl (i + 6))] [] (pu_H y' κ' σ' g') ∧ XW h0 y' κ' σ' g' τ' (c + 1) ∧ GR y y' := by
  obtain ⟨rl, rs⟩ := X.scr (by omega) S κ σ
  have r0 : ∀ {kk : jK} {LL : List (Option jV)} {SS : List jV}, jk_iald kk LL (.inl i :: .inr (some b) :: SS) (pu_H y κ σ g) = kk LL (.inl (xs i.toNat).toInt :: SS) (pu_H y κ σ g) := fun {kk LL SS} => rs (by omega) (by omega)
  have c0 : ¬ ((L : Int) - 6 < i) := by omega
  have hLL := S.1
  have f1 : 0 < fuel := by omega
  have f2 : 0 < fuel - 1 := by omega
  have f3 : fuel - 1 - 1 = fuel - 2 := by omega
  have o9 := X.1.2.1.2.1
  obtain ⟨a1, ea1⟩ : ∃ a, a = (xs (i + 1).toNat).toInt := ⟨_, rfl⟩
  have r1 : ∀ {kk : jK} {LL : List (Option jV)} {SS : List jV}, jk_iald kk LL (.inl (i + 1) :: .inr (some b) :: SS) (pu_H y κ σ g) = kk LL (.inl a1 :: SS) (pu_H y κ σ g) := fun {kk LL SS} => by rw [ea1]; exact rs (by omega) (by omega)
  obtain ⟨a2, ea2⟩ : ∃ a, a = (xs (i + 2).toNat).toInt := ⟨_, rfl⟩
  have r2 : ∀ {kk : jK} {LL : List (Option jV)} {SS : List jV}, jk_iald kk LL (.inl (i + 2) :: .inr (some b) :: SS) (pu_H y κ σ g) = kk LL (.inl a2 :: SS) (pu_H y κ σ g) := fun {kk LL SS} => by rw [ea2]; exact rs (by omega) (by omega)
  obtain ⟨y', κ', σ', g', τ', v, e1, e2, X', G⟩ := C_device (k := a1) (x := a2) hn (by omega) S X
  obtain ⟨rl', rs'⟩ := X'.scr (by omega) S κ' σ
  have s1 : ∀ {kk : jK} {LL : List (Option jV)} {SS : List jV}, jk_iald kk LL (.inl (i + 1) :: .inr (some b) :: SS) (pu_H y' κ' σ g') = kk LL (.inl a1 :: SS) (pu_H y' κ' σ g') := fun {kk LL SS} => by rw [ea1]; exact rs' (by omega) (by omega)
  have s2 : ∀ {kk : jK} {LL : List (Option jV)} {SS : List jV}, jk_iald kk LL (.inl (i + 2) :: .inr (some b) :: SS) (pu_H y' κ' σ g') = kk LL (.inl a2 :: SS) (pu_H y' κ' σ g') := fun {kk LL SS} => by rw [ea2]; exact rs' (by omega) (by omega)
  have vk : ∀ {F : jF} {kk : jK} {LL : List (Option jV)} {SS : List jV} {b1 b2 : Int}, SS.length ≤ 8 → jk_vcall [(10, F)] 2 kk LL (.inl b2 :: .inl b1 :: .inr (some (y.2 9 0)) :: SS) (pu_H y κ σ g) = jm_back kk LL SS (F [.inr (some (y.2 9 0)), .inl b1, .inl b2] (pu_H y κ σ g)) := fun {F kk LL SS b1 b2} hS => cc_k2 o9 hS
  have vm : ∀ {F : jF} {kk : jK} {LL : List (Option jV)} {SS : List jV} {b1 b2 : Int}, SS.length ≤ 8 → jk_vcall [(11, F)] 2 kk LL (.inl b2 :: .inl b1 :: .inr (some (y.2 13 0)) :: SS) (pu_H y' κ' σ g') = jm_back kk LL SS (F [.inr (some (y.2 13 0)), .inl b1, .inl b2] (pu_H y' κ' σ g')) := fun {F kk LL SS b1 b2} hS => by rw [← G.2]; exact pc_2 X'.2.2.2.2.1 hS
  rw [G.2] at e2
  refine ⟨y', κ', σ', g', τ', ?_, X', G⟩
  rw [G.1, G.2]
  rw [jk_fix_pos f1]
  simp only [kL_law_b, kL_law_18, Nat.reduceEqDiff, if_false, if_true]
  simp (disch := first | omega | assumption | (simp only [List.length_cons, List.length_nil]; omega) | decide | (simp (disch := decide) only [pu_up_ne, pu_up_at]; first | omega | assumption)) only [↓ja_int, ↓ja_null, ↓ja_iload_0, ↓ja_aload_0, ↓ja_istore_0, ↓ja_astore_0, ↓ja_kill_0, ↓ja_iinc_0, ↓ja_iload_1, ↓ja_aload_1, ↓ja_istore_1, ↓ja_astore_1, ↓ja_kill_1, ↓ja_iinc_1, ↓ja_iload_2, ↓ja_aload_2, ↓ja_istore_2, ↓ja_astore_2, ↓ja_kill_2, ↓ja_iinc_2, ↓ja_iload_3, ↓ja_aload_3, ↓ja_istore_3, ↓ja_astore_3, ↓ja_kill_3, ↓ja_iinc_3, ↓ja_iload_4, ↓ja_aload_4, ↓ja_istore_4, ↓ja_astore_4, ↓ja_kill_4, ↓ja_iinc_4, ↓ja_iload_5, ↓ja_aload_5, ↓ja_istore_5, ↓ja_astore_5, ↓ja_kill_5, ↓ja_iinc_5, ↓ja_iload_6, ↓ja_aload_6, ↓ja_istore_6, ↓ja_astore_6, ↓ja_kill_6, ↓ja_iinc_6, ↓ja_iload_7, ↓ja_aload_7, ↓ja_istore_7, ↓ja_astore_7, ↓ja_kill_7, ↓ja_iinc_7, ↓ja_iload_8, ↓ja_aload_8, ↓ja_istore_8, ↓ja_astore_8, ↓ja_kill_8, ↓ja_iinc_8, ↓ja_iload_9, ↓ja_aload_9, ↓ja_istore_9, ↓ja_astore_9, ↓ja_kill_9, ↓ja_iinc_9, ↓ja_iload_10, ↓ja_aload_10, ↓ja_istore_10, ↓ja_astore_10, ↓ja_kill_10, ↓ja_iinc_10, ↓ja_iadd, ↓ja_isub, ↓ja_imul, ↓ja_dup, ↓ja_dup2, ↓ja_i2b, ↓ja_ifeq, ↓ja_ifne, ↓ja_iflt, ↓ja_ifge, ↓ja_ifgt, ↓ja_ifle, ↓ja_icmpeq, ↓ja_icmpne, ↓ja_icmplt, ↓ja_icmpge, ↓ja_icmpgt, ↓ja_icmple, ↓ja_ifnull_n, ↓ja_ifnull_s, ↓ja_ifnonnull_n, ↓ja_ifnonnull_s, ↓ja_iret, ↓ja_aret, ↓ja_vret, ↓ja_zret0, ↓ja_zret1, ↓ja_sw, ↓ja_pe, ↓ja_pn, ↓ja_pz, ↓reduceIte, ite_self, Int.reduceEq, Int.reduceLT, Int.reduceLE, Int.reduceNeg, Int.reduceToNat, jm_wr_id, pb_none, pb_int, pb_ref, ↓rw_obj, ↓rl, ↓r0, ↓r1, ↓s1, ↓r2, ↓s2, ↓ja_and15, ho, c0, ↓vk, ↓vm, e1, e2, if_true, if_false]
  rw [jk_fix_pos f2]
  simp only [kL_law_b, kL_law_492, Nat.reduceEqDiff, if_false, if_true]
  simp (disch := first | omega | assumption | (simp only [List.length_cons, List.length_nil]; omega) | decide | (simp (disch := decide) only [pu_up_ne, pu_up_at]; first | omega | assumption)) only [↓ja_int, ↓ja_null, ↓ja_iload_0, ↓ja_aload_0, ↓ja_istore_0, ↓ja_astore_0, ↓ja_kill_0, ↓ja_iinc_0, ↓ja_iload_1, ↓ja_aload_1, ↓ja_istore_1, ↓ja_astore_1, ↓ja_kill_1, ↓ja_iinc_1, ↓ja_iload_2, ↓ja_aload_2, ↓ja_istore_2, ↓ja_astore_2, ↓ja_kill_2, ↓ja_iinc_2, ↓ja_iload_3, ↓ja_aload_3, ↓ja_istore_3, ↓ja_astore_3, ↓ja_kill_3, ↓ja_iinc_3, ↓ja_iload_4, ↓ja_aload_4, ↓ja_istore_4, ↓ja_astore_4, ↓ja_kill_4, ↓ja_iinc_4, ↓ja_iload_5, ↓ja_aload_5, ↓ja_istore_5, ↓ja_astore_5, ↓ja_kill_5, ↓ja_iinc_5, ↓ja_iload_6, ↓ja_aload_6, ↓ja_istore_6, ↓ja_astore_6, ↓ja_kill_6, ↓ja_iinc_6, ↓ja_iload_7, ↓ja_aload_7, ↓ja_istore_7, ↓ja_astore_7, ↓ja_kill_7, ↓ja_iinc_7, ↓ja_iload_8, ↓ja_aload_8, ↓ja_istore_8, ↓ja_astore_8, ↓ja_kill_8, ↓ja_iinc_8, ↓ja_iload_9, ↓ja_aload_9, ↓ja_istore_9, ↓ja_astore_9, ↓ja_kill_9, ↓ja_iinc_9, ↓ja_iload_10, ↓ja_aload_10, ↓ja_istore_10, ↓ja_astore_10, ↓ja_kill_10, ↓ja_iinc_10, ↓ja_iadd, ↓ja_isub, ↓ja_imul, ↓ja_dup, ↓ja_dup2, ↓ja_i2b, ↓ja_ifeq, ↓ja_ifne, ↓ja_iflt, ↓ja_ifge, ↓ja_ifgt, ↓ja_ifle, ↓ja_icmpeq, ↓ja_icmpne, ↓ja_icmplt, ↓ja_icmpge, ↓ja_icmpgt, ↓ja_icmple, ↓ja_ifnull_n, ↓ja_ifnull_s, ↓ja_ifnonnull_n, ↓ja_ifnonnull_s, ↓ja_iret, ↓ja_aret, ↓ja_vret, ↓ja_zret0, ↓ja_zret1, ↓ja_sw, ↓ja_pe, ↓ja_pn, ↓ja_pz, ↓reduceIte, ite_self, Int.reduceEq, Int.reduceLT, Int.reduceLE, Int.reduceNeg, Int.reduceToNat, jm_wr_id, pb_none, pb_int, pb_ref, ↓rw_obj, f3]
set_option maxHeartbeats 4000000 in
theorem L_thread {i : Int} {fuel : Nat} (hn : 20000 ≤ n) (S : jp_Start h0 b L aL aM xs) (hc : c ≤ 600) (X : XW h0 y κ σ g τ c) (hi : i = 6 * (c : Int)) (hL : i + 6 ≤ L) (hf : 2 ≤ fuel) (ho : (xs i.toNat).toInt % 16 = 1) : ∃ y' κ' σ' g' τ', jk_fix (kL_law_b n) fuel 18 [some (.inr (some b)), some (.inr (some (y.2 9 0))), some (.inr (some (y.2 13 0))), some (.inl i)] [] (pu_H y κ σ g) = jk_fix (kL_law_b n) (fuel - 2) 18 [some (.inr (some b)), some (.inr (some (y'.2 9 0))), some (.inr (some (y'.2 13 0))), some (.inl (i + 6))] [] (pu_H y' κ' σ' g') ∧ XW h0 y' κ' σ' g' τ' (c + 1) ∧ GR y y' := by
  obtain ⟨rl, rs⟩ := X.scr (by omega) S κ σ
  have r0 : ∀ {kk : jK} {LL : List (Option jV)} {SS : List jV}, jk_iald kk LL (.inl i :: .inr (some b) :: SS) (pu_H y κ σ g) = kk LL (.inl (xs i.toNat).toInt :: SS) (pu_H y κ σ g) := fun {kk LL SS} => rs (by omega) (by omega)
  have c0 : ¬ ((L : Int) - 6 < i) := by omega
  have hLL := S.1
  have f1 : 0 < fuel := by omega
  have f2 : 0 < fuel - 1 := by omega
  have f3 : fuel - 1 - 1 = fuel - 2 := by omega
  have o9 := X.1.2.1.2.1
  obtain ⟨y', κ', σ', g', τ', v, e1, e2, X', G⟩ := C_thread  hn X
  obtain ⟨rl', rs'⟩ := X'.scr (by omega) S κ' σ
  have vk : ∀ {F : jF} {kk : jK} {LL : List (Option jV)} {SS : List jV}, SS.length ≤ 8 → jk_vcall [(10, F)] 0 kk LL (.inr (some (y.2 9 0)) :: SS) (pu_H y κ σ g) = jm_back kk LL SS (F [.inr (some (y.2 9 0))] (pu_H y κ σ g)) := fun {F kk LL SS } hS => cc_k0 o9 hS
  have vm : ∀ {F : jF} {kk : jK} {LL : List (Option jV)} {SS : List jV}, SS.length ≤ 8 → jk_vcall [(11, F)] 0 kk LL (.inr (some (y.2 13 0)) :: SS) (pu_H y' κ' σ g') = jm_back kk LL SS (F [.inr (some (y.2 13 0))] (pu_H y' κ' σ g')) := fun {F kk LL SS } hS => by rw [← G.2]; exact pc_0 X'.2.2.2.2.1 hS
  rw [G.2] at e2
  refine ⟨y', κ', σ', g', τ', ?_, X', G⟩
  rw [G.1, G.2]
  rw [jk_fix_pos f1]
  simp only [kL_law_b, kL_law_18, Nat.reduceEqDiff, if_false, if_true]
  simp (disch := first | omega | assumption | (simp only [List.length_cons, List.length_nil]; omega) | decide | (simp (disch := decide) only [pu_up_ne, pu_up_at]; first | omega | assumption)) only [↓ja_int, ↓ja_null, ↓ja_iload_0, ↓ja_aload_0, ↓ja_istore_0, ↓ja_astore_0, ↓ja_kill_0, ↓ja_iinc_0, ↓ja_iload_1, ↓ja_aload_1, ↓ja_istore_1, ↓ja_astore_1, ↓ja_kill_1, ↓ja_iinc_1, ↓ja_iload_2, ↓ja_aload_2, ↓ja_istore_2, ↓ja_astore_2, ↓ja_kill_2, ↓ja_iinc_2, ↓ja_iload_3, ↓ja_aload_3, ↓ja_istore_3, ↓ja_astore_3, ↓ja_kill_3, ↓ja_iinc_3, ↓ja_iload_4, ↓ja_aload_4, ↓ja_istore_4, ↓ja_astore_4, ↓ja_kill_4, ↓ja_iinc_4, ↓ja_iload_5, ↓ja_aload_5, ↓ja_istore_5, ↓ja_astore_5, ↓ja_kill_5, ↓ja_iinc_5, ↓ja_iload_6, ↓ja_aload_6, ↓ja_istore_6, ↓ja_astore_6, ↓ja_kill_6, ↓ja_iinc_6, ↓ja_iload_7, ↓ja_aload_7, ↓ja_istore_7, ↓ja_astore_7, ↓ja_kill_7, ↓ja_iinc_7, ↓ja_iload_8, ↓ja_aload_8, ↓ja_istore_8, ↓ja_astore_8, ↓ja_kill_8, ↓ja_iinc_8, ↓ja_iload_9, ↓ja_aload_9, ↓ja_istore_9, ↓ja_astore_9, ↓ja_kill_9, ↓ja_iinc_9, ↓ja_iload_10, ↓ja_aload_10, ↓ja_istore_10, ↓ja_astore_10, ↓ja_kill_10, ↓ja_iinc_10, ↓ja_iadd, ↓ja_isub, ↓ja_imul, ↓ja_dup, ↓ja_dup2, ↓ja_i2b, ↓ja_ifeq, ↓ja_ifne, ↓ja_iflt, ↓ja_ifge, ↓ja_ifgt, ↓ja_ifle, ↓ja_icmpeq, ↓ja_icmpne, ↓ja_icmplt, ↓ja_icmpge, ↓ja_icmpgt, ↓ja_icmple, ↓ja_ifnull_n, ↓ja_ifnull_s, ↓ja_ifnonnull_n, ↓ja_ifnonnull_s, ↓ja_iret, ↓ja_aret, ↓ja_vret, ↓ja_zret0, ↓ja_zret1, ↓ja_sw, ↓ja_pe, ↓ja_pn, ↓ja_pz, ↓reduceIte, ite_self, Int.reduceEq, Int.reduceLT, Int.reduceLE, Int.reduceNeg, Int.reduceToNat, jm_wr_id, pb_none, pb_int, pb_ref, ↓rw_obj, ↓rl, ↓r0, ↓ja_and15, ho, c0, ↓vk, ↓vm, e1, e2, if_true, if_false]
  rw [jk_fix_pos f2]
  simp only [kL_law_b, kL_law_492, Nat.reduceEqDiff, if_false, if_true]
  simp (disch := first | omega | assumption | (simp only [List.length_cons, List.length_nil]; omega) | decide | (simp (disch := decide) only [pu_up_ne, pu_up_at]; first | omega | assumption)) only [↓ja_int, ↓ja_null, ↓ja_iload_0, ↓ja_aload_0, ↓ja_istore_0, ↓ja_astore_0, ↓ja_kill_0, ↓ja_iinc_0, ↓ja_iload_1, ↓ja_aload_1, ↓ja_istore_1, ↓ja_astore_1, ↓ja_kill_1, ↓ja_iinc_1, ↓ja_iload_2, ↓ja_aload_2, ↓ja_istore_2, ↓ja_astore_2, ↓ja_kill_2, ↓ja_iinc_2, ↓ja_iload_3, ↓ja_aload_3, ↓ja_istore_3, ↓ja_astore_3, ↓ja_kill_3, ↓ja_iinc_3, ↓ja_iload_4, ↓ja_aload_4, ↓ja_istore_4, ↓ja_astore_4, ↓ja_kill_4, ↓ja_iinc_4, ↓ja_iload_5, ↓ja_aload_5, ↓ja_istore_5, ↓ja_astore_5, ↓ja_kill_5, ↓ja_iinc_5, ↓ja_iload_6, ↓ja_aload_6, ↓ja_istore_6, ↓ja_astore_6, ↓ja_kill_6, ↓ja_iinc_6, ↓ja_iload_7, ↓ja_aload_7, ↓ja_istore_7, ↓ja_astore_7, ↓ja_kill_7, ↓ja_iinc_7, ↓ja_iload_8, ↓ja_aload_8, ↓ja_istore_8, ↓ja_astore_8, ↓ja_kill_8, ↓ja_iinc_8, ↓ja_iload_9, ↓ja_aload_9, ↓ja_istore_9, ↓ja_astore_9, ↓ja_kill_9, ↓ja_iinc_9, ↓ja_iload_10, ↓ja_aload_10, ↓ja_istore_10, ↓ja_astore_10, ↓ja_kill_10, ↓ja_iinc_10, ↓ja_iadd, ↓ja_isub, ↓ja_imul, ↓ja_dup, ↓ja_dup2, ↓ja_i2b, ↓ja_ifeq, ↓ja_ifne, ↓ja_iflt, ↓ja_ifge, ↓ja_ifgt, ↓ja_ifle, ↓ja_icmpeq, ↓ja_icmpne, ↓ja_icmplt, ↓ja_icmpge, ↓ja_icmpgt, ↓ja_icmple, ↓ja_ifnull_n, ↓ja_ifnull_s, ↓ja_ifnonnull_n, ↓ja_ifnonnull_s, ↓ja_iret, ↓ja_aret, ↓ja_vret, ↓ja_zret0, ↓ja_zret1, ↓ja_sw, ↓ja_pe, ↓ja_pn, ↓ja_pz, ↓reduceIte, ite_self, Int.reduceEq, Int.reduceLT, Int.reduceLE, Int.reduceNeg, Int.reduceToNat, jm_wr_id, pb_none, pb_int, pb_ref, ↓rw_obj, f3]
set_option maxHeartbeats 4000000 in
theorem L_step {i : Int} {fuel : Nat} (hn : 20000 ≤ n) (S : jp_Start h0 b L aL aM xs) (hc : c ≤ 600) (X : XW h0 y κ σ g τ c) (hi : i = 6 * (c : Int)) (hL : i + 6 ≤ L) (hf : 2 ≤ fuel) (ho : (xs i.toNat).toInt % 16 = 2) : ∃ y' κ' σ' g' τ', jk_fix (kL_law_b n) fuel 18 [some (.inr (some b)), some (.inr (some (y.2 9 0))), some (.inr (some (y.2 13 0))), some (.inl i)] [] (pu_H y κ σ g) = jk_fix (kL_law_b n) (fuel - 2) 18 [some (.inr (some b)), some (.inr (some (y'.2 9 0))), some (.inr (some (y'.2 13 0))), some (.inl (i + 6))] [] (pu_H y' κ' σ' g') ∧ XW h0 y' κ' σ' g' τ' (c + 1) ∧ GR y y' := by
  obtain ⟨rl, rs⟩ := X.scr (by omega) S κ σ
  have r0 : ∀ {kk : jK} {LL : List (Option jV)} {SS : List jV}, jk_iald kk LL (.inl i :: .inr (some b) :: SS) (pu_H y κ σ g) = kk LL (.inl (xs i.toNat).toInt :: SS) (pu_H y κ σ g) := fun {kk LL SS} => rs (by omega) (by omega)
  have c0 : ¬ ((L : Int) - 6 < i) := by omega
  have hLL := S.1
  have f1 : 0 < fuel := by omega
  have f2 : 0 < fuel - 1 := by omega
  have f3 : fuel - 1 - 1 = fuel - 2 := by omega
  have o9 := X.1.2.1.2.1
  obtain ⟨a1, ea1⟩ : ∃ a, a = (xs (i + 1).toNat).toInt := ⟨_, rfl⟩
  have r1 : ∀ {kk : jK} {LL : List (Option jV)} {SS : List jV}, jk_iald kk LL (.inl (i + 1) :: .inr (some b) :: SS) (pu_H y κ σ g) = kk LL (.inl a1 :: SS) (pu_H y κ σ g) := fun {kk LL SS} => by rw [ea1]; exact rs (by omega) (by omega)
  obtain ⟨a2, ea2⟩ : ∃ a, a = (xs (i + 2).toNat).toInt := ⟨_, rfl⟩
  have r2 : ∀ {kk : jK} {LL : List (Option jV)} {SS : List jV}, jk_iald kk LL (.inl (i + 2) :: .inr (some b) :: SS) (pu_H y κ σ g) = kk LL (.inl a2 :: SS) (pu_H y κ σ g) := fun {kk LL SS} => by rw [ea2]; exact rs (by omega) (by omega)
  obtain ⟨a3, ea3⟩ : ∃ a, a = (xs (i + 3).toNat).toInt := ⟨_, rfl⟩
  have r3 : ∀ {kk : jK} {LL : List (Option jV)} {SS : List jV}, jk_iald kk LL (.inl (i + 3) :: .inr (some b) :: SS) (pu_H y κ σ g) = kk LL (.inl a3 :: SS) (pu_H y κ σ g) := fun {kk LL SS} => by rw [ea3]; exact rs (by omega) (by omega)
  obtain ⟨a4, ea4⟩ : ∃ a, a = (xs (i + 4).toNat).toInt := ⟨_, rfl⟩
  have r4 : ∀ {kk : jK} {LL : List (Option jV)} {SS : List jV}, jk_iald kk LL (.inl (i + 4) :: .inr (some b) :: SS) (pu_H y κ σ g) = kk LL (.inl a4 :: SS) (pu_H y κ σ g) := fun {kk LL SS} => by rw [ea4]; exact rs (by omega) (by omega)
  obtain ⟨a5, ea5⟩ : ∃ a, a = (xs (i + 5).toNat).toInt := ⟨_, rfl⟩
  have r5 : ∀ {kk : jK} {LL : List (Option jV)} {SS : List jV}, jk_iald kk LL (.inl (i + 5) :: .inr (some b) :: SS) (pu_H y κ σ g) = kk LL (.inl a5 :: SS) (pu_H y κ σ g) := fun {kk LL SS} => by rw [ea5]; exact rs (by omega) (by omega)
  obtain ⟨y', κ', σ', g', τ', v, e1, e2, X', G⟩ := C_step (t := a1) (d := a2) (act := a3) (a := a4) (w := a5) hn X
  obtain ⟨rl', rs'⟩ := X'.scr (by omega) S κ' σ
  have s1 : ∀ {kk : jK} {LL : List (Option jV)} {SS : List jV}, jk_iald kk LL (.inl (i + 1) :: .inr (some b) :: SS) (pu_H y' κ' σ g') = kk LL (.inl a1 :: SS) (pu_H y' κ' σ g') := fun {kk LL SS} => by rw [ea1]; exact rs' (by omega) (by omega)
  have s2 : ∀ {kk : jK} {LL : List (Option jV)} {SS : List jV}, jk_iald kk LL (.inl (i + 2) :: .inr (some b) :: SS) (pu_H y' κ' σ g') = kk LL (.inl a2 :: SS) (pu_H y' κ' σ g') := fun {kk LL SS} => by rw [ea2]; exact rs' (by omega) (by omega)
  have s3 : ∀ {kk : jK} {LL : List (Option jV)} {SS : List jV}, jk_iald kk LL (.inl (i + 3) :: .inr (some b) :: SS) (pu_H y' κ' σ g') = kk LL (.inl a3 :: SS) (pu_H y' κ' σ g') := fun {kk LL SS} => by rw [ea3]; exact rs' (by omega) (by omega)
  have s4 : ∀ {kk : jK} {LL : List (Option jV)} {SS : List jV}, jk_iald kk LL (.inl (i + 4) :: .inr (some b) :: SS) (pu_H y' κ' σ g') = kk LL (.inl a4 :: SS) (pu_H y' κ' σ g') := fun {kk LL SS} => by rw [ea4]; exact rs' (by omega) (by omega)
  have s5 : ∀ {kk : jK} {LL : List (Option jV)} {SS : List jV}, jk_iald kk LL (.inl (i + 5) :: .inr (some b) :: SS) (pu_H y' κ' σ g') = kk LL (.inl a5 :: SS) (pu_H y' κ' σ g') := fun {kk LL SS} => by rw [ea5]; exact rs' (by omega) (by omega)
  have vk : ∀ {F : jF} {kk : jK} {LL : List (Option jV)} {SS : List jV} {b1 b2 b3 b4 b5 : Int}, SS.length ≤ 8 → jk_vcall [(10, F)] 5 kk LL (.inl b5 :: .inl b4 :: .inl b3 :: .inl b2 :: .inl b1 :: .inr (some (y.2 9 0)) :: SS) (pu_H y κ σ g) = jm_back kk LL SS (F [.inr (some (y.2 9 0)), .inl b1, .inl b2, .inl b3, .inl b4, .inl b5] (pu_H y κ σ g)) := fun {F kk LL SS b1 b2 b3 b4 b5} hS => cc_k5 o9 hS
  have vm : ∀ {F : jF} {kk : jK} {LL : List (Option jV)} {SS : List jV} {b1 b2 b3 b4 b5 : Int}, SS.length ≤ 8 → jk_vcall [(11, F)] 5 kk LL (.inl b5 :: .inl b4 :: .inl b3 :: .inl b2 :: .inl b1 :: .inr (some (y.2 13 0)) :: SS) (pu_H y' κ' σ g') = jm_back kk LL SS (F [.inr (some (y.2 13 0)), .inl b1, .inl b2, .inl b3, .inl b4, .inl b5] (pu_H y' κ' σ g')) := fun {F kk LL SS b1 b2 b3 b4 b5} hS => by rw [← G.2]; exact pc_5 X'.2.2.2.2.1 hS
  rw [G.2] at e2
  refine ⟨y', κ', σ', g', τ', ?_, X', G⟩
  rw [G.1, G.2]
  rw [jk_fix_pos f1]
  simp only [kL_law_b, kL_law_18, Nat.reduceEqDiff, if_false, if_true]
  simp (disch := first | omega | assumption | (simp only [List.length_cons, List.length_nil]; omega) | decide | (simp (disch := decide) only [pu_up_ne, pu_up_at]; first | omega | assumption)) only [↓ja_int, ↓ja_null, ↓ja_iload_0, ↓ja_aload_0, ↓ja_istore_0, ↓ja_astore_0, ↓ja_kill_0, ↓ja_iinc_0, ↓ja_iload_1, ↓ja_aload_1, ↓ja_istore_1, ↓ja_astore_1, ↓ja_kill_1, ↓ja_iinc_1, ↓ja_iload_2, ↓ja_aload_2, ↓ja_istore_2, ↓ja_astore_2, ↓ja_kill_2, ↓ja_iinc_2, ↓ja_iload_3, ↓ja_aload_3, ↓ja_istore_3, ↓ja_astore_3, ↓ja_kill_3, ↓ja_iinc_3, ↓ja_iload_4, ↓ja_aload_4, ↓ja_istore_4, ↓ja_astore_4, ↓ja_kill_4, ↓ja_iinc_4, ↓ja_iload_5, ↓ja_aload_5, ↓ja_istore_5, ↓ja_astore_5, ↓ja_kill_5, ↓ja_iinc_5, ↓ja_iload_6, ↓ja_aload_6, ↓ja_istore_6, ↓ja_astore_6, ↓ja_kill_6, ↓ja_iinc_6, ↓ja_iload_7, ↓ja_aload_7, ↓ja_istore_7, ↓ja_astore_7, ↓ja_kill_7, ↓ja_iinc_7, ↓ja_iload_8, ↓ja_aload_8, ↓ja_istore_8, ↓ja_astore_8, ↓ja_kill_8, ↓ja_iinc_8, ↓ja_iload_9, ↓ja_aload_9, ↓ja_istore_9, ↓ja_astore_9, ↓ja_kill_9, ↓ja_iinc_9, ↓ja_iload_10, ↓ja_aload_10, ↓ja_istore_10, ↓ja_astore_10, ↓ja_kill_10, ↓ja_iinc_10, ↓ja_iadd, ↓ja_isub, ↓ja_imul, ↓ja_dup, ↓ja_dup2, ↓ja_i2b, ↓ja_ifeq, ↓ja_ifne, ↓ja_iflt, ↓ja_ifge, ↓ja_ifgt, ↓ja_ifle, ↓ja_icmpeq, ↓ja_icmpne, ↓ja_icmplt, ↓ja_icmpge, ↓ja_icmpgt, ↓ja_icmple, ↓ja_ifnull_n, ↓ja_ifnull_s, ↓ja_ifnonnull_n, ↓ja_ifnonnull_s, ↓ja_iret, ↓ja_aret, ↓ja_vret, ↓ja_zret0, ↓ja_zret1, ↓ja_sw, ↓ja_pe, ↓ja_pn, ↓ja_pz, ↓reduceIte, ite_self, Int.reduceEq, Int.reduceLT, Int.reduceLE, Int.reduceNeg, Int.reduceToNat, jm_wr_id, pb_none, pb_int, pb_ref, ↓rw_obj, ↓rl, ↓r0, ↓r1, ↓s1, ↓r2, ↓s2, ↓r3, ↓s3, ↓r4, ↓s4, ↓r5, ↓s5, ↓ja_and15, ho, c0, ↓vk, ↓vm, e1, e2, if_true, if_false]
  rw [jk_fix_pos f2]
  simp only [kL_law_b, kL_law_492, Nat.reduceEqDiff, if_false, if_true]
  simp (disch := first | omega | assumption | (simp only [List.length_cons, List.length_nil]; omega) | decide | (simp (disch := decide) only [pu_up_ne, pu_up_at]; first | omega | assumption)) only [↓ja_int, ↓ja_null, ↓ja_iload_0, ↓ja_aload_0, ↓ja_istore_0, ↓ja_astore_0, ↓ja_kill_0, ↓ja_iinc_0, ↓ja_iload_1, ↓ja_aload_1, ↓ja_istore_1, ↓ja_astore_1, ↓ja_kill_1, ↓ja_iinc_1, ↓ja_iload_2, ↓ja_aload_2, ↓ja_istore_2, ↓ja_astore_2, ↓ja_kill_2, ↓ja_iinc_2, ↓ja_iload_3, ↓ja_aload_3, ↓ja_istore_3, ↓ja_astore_3, ↓ja_kill_3, ↓ja_iinc_3, ↓ja_iload_4, ↓ja_aload_4, ↓ja_istore_4, ↓ja_astore_4, ↓ja_kill_4, ↓ja_iinc_4, ↓ja_iload_5, ↓ja_aload_5, ↓ja_istore_5, ↓ja_astore_5, ↓ja_kill_5, ↓ja_iinc_5, ↓ja_iload_6, ↓ja_aload_6, ↓ja_istore_6, ↓ja_astore_6, ↓ja_kill_6, ↓ja_iinc_6, ↓ja_iload_7, ↓ja_aload_7, ↓ja_istore_7, ↓ja_astore_7, ↓ja_kill_7, ↓ja_iinc_7, ↓ja_iload_8, ↓ja_aload_8, ↓ja_istore_8, ↓ja_astore_8, ↓ja_kill_8, ↓ja_iinc_8, ↓ja_iload_9, ↓ja_aload_9, ↓ja_istore_9, ↓ja_astore_9, ↓ja_kill_9, ↓ja_iinc_9, ↓ja_iload_10, ↓ja_aload_10, ↓ja_istore_10, ↓ja_astore_10, ↓ja_kill_10, ↓ja_iinc_10, ↓ja_iadd, ↓ja_isub, ↓ja_imul, ↓ja_dup, ↓ja_dup2, ↓ja_i2b, ↓ja_ifeq, ↓ja_ifne, ↓ja_iflt, ↓ja_ifge, ↓ja_ifgt, ↓ja_ifle, ↓ja_icmpeq, ↓ja_icmpne, ↓ja_icmplt, ↓ja_icmpge, ↓ja_icmpgt, ↓ja_icmple, ↓ja_ifnull_n, ↓ja_ifnull_s, ↓ja_ifnonnull_n, ↓ja_ifnonnull_s, ↓ja_iret, ↓ja_aret, ↓ja_vret, ↓ja_zret0, ↓ja_zret1, ↓ja_sw, ↓ja_pe, ↓ja_pn, ↓ja_pz, ↓reduceIte, ite_self, Int.reduceEq, Int.reduceLT, Int.reduceLE, Int.reduceNeg, Int.reduceToNat, jm_wr_id, pb_none, pb_int, pb_ref, ↓rw_obj, f3]
set_option maxHeartbeats 4000000 in
theorem L_interrupt {i : Int} {fuel : Nat} (hn : 20000 ≤ n) (S : jp_Start h0 b L aL aM xs) (hc : c ≤ 600) (X : XW h0 y κ σ g τ c) (hi : i = 6 * (c : Int)) (hL : i + 6 ≤ L) (hf : 2 ≤ fuel) (ho : (xs i.toNat).toInt % 16 = 3) : ∃ y' κ' σ' g' τ', jk_fix (kL_law_b n) fuel 18 [some (.inr (some b)), some (.inr (some (y.2 9 0))), some (.inr (some (y.2 13 0))), some (.inl i)] [] (pu_H y κ σ g) = jk_fix (kL_law_b n) (fuel - 2) 18 [some (.inr (some b)), some (.inr (some (y'.2 9 0))), some (.inr (some (y'.2 13 0))), some (.inl (i + 6))] [] (pu_H y' κ' σ' g') ∧ XW h0 y' κ' σ' g' τ' (c + 1) ∧ GR y y' := by
  obtain ⟨rl, rs⟩ := X.scr (by omega) S κ σ
  have r0 : ∀ {kk : jK} {LL : List (Option jV)} {SS : List jV}, jk_iald kk LL (.inl i :: .inr (some b) :: SS) (pu_H y κ σ g) = kk LL (.inl (xs i.toNat).toInt :: SS) (pu_H y κ σ g) := fun {kk LL SS} => rs (by omega) (by omega)
  have c0 : ¬ ((L : Int) - 6 < i) := by omega
  have hLL := S.1
  have f1 : 0 < fuel := by omega
  have f2 : 0 < fuel - 1 := by omega
  have f3 : fuel - 1 - 1 = fuel - 2 := by omega
  have o9 := X.1.2.1.2.1
  obtain ⟨a1, ea1⟩ : ∃ a, a = (xs (i + 1).toNat).toInt := ⟨_, rfl⟩
  have r1 : ∀ {kk : jK} {LL : List (Option jV)} {SS : List jV}, jk_iald kk LL (.inl (i + 1) :: .inr (some b) :: SS) (pu_H y κ σ g) = kk LL (.inl a1 :: SS) (pu_H y κ σ g) := fun {kk LL SS} => by rw [ea1]; exact rs (by omega) (by omega)
  obtain ⟨a2, ea2⟩ : ∃ a, a = (xs (i + 2).toNat).toInt := ⟨_, rfl⟩
  have r2 : ∀ {kk : jK} {LL : List (Option jV)} {SS : List jV}, jk_iald kk LL (.inl (i + 2) :: .inr (some b) :: SS) (pu_H y κ σ g) = kk LL (.inl a2 :: SS) (pu_H y κ σ g) := fun {kk LL SS} => by rw [ea2]; exact rs (by omega) (by omega)
  obtain ⟨y', κ', σ', g', τ', v, e1, e2, X', G⟩ := C_interrupt (t := a1) (b := a2) hn X
  obtain ⟨rl', rs'⟩ := X'.scr (by omega) S κ' σ
  have s1 : ∀ {kk : jK} {LL : List (Option jV)} {SS : List jV}, jk_iald kk LL (.inl (i + 1) :: .inr (some b) :: SS) (pu_H y' κ' σ g') = kk LL (.inl a1 :: SS) (pu_H y' κ' σ g') := fun {kk LL SS} => by rw [ea1]; exact rs' (by omega) (by omega)
  have s2 : ∀ {kk : jK} {LL : List (Option jV)} {SS : List jV}, jk_iald kk LL (.inl (i + 2) :: .inr (some b) :: SS) (pu_H y' κ' σ g') = kk LL (.inl a2 :: SS) (pu_H y' κ' σ g') := fun {kk LL SS} => by rw [ea2]; exact rs' (by omega) (by omega)
  have vk : ∀ {F : jF} {kk : jK} {LL : List (Option jV)} {SS : List jV} {b1 b2 : Int}, SS.length ≤ 8 → jk_vcall [(10, F)] 2 kk LL (.inl b2 :: .inl b1 :: .inr (some (y.2 9 0)) :: SS) (pu_H y κ σ g) = jm_back kk LL SS (F [.inr (some (y.2 9 0)), .inl b1, .inl b2] (pu_H y κ σ g)) := fun {F kk LL SS b1 b2} hS => cc_k2 o9 hS
  have vm : ∀ {F : jF} {kk : jK} {LL : List (Option jV)} {SS : List jV} {b1 b2 : Int}, SS.length ≤ 8 → jk_vcall [(11, F)] 2 kk LL (.inl b2 :: .inl b1 :: .inr (some (y.2 13 0)) :: SS) (pu_H y' κ' σ g') = jm_back kk LL SS (F [.inr (some (y.2 13 0)), .inl b1, .inl b2] (pu_H y' κ' σ g')) := fun {F kk LL SS b1 b2} hS => by rw [← G.2]; exact pc_2 X'.2.2.2.2.1 hS
  rw [G.2] at e2
  refine ⟨y', κ', σ', g', τ', ?_, X', G⟩
  rw [G.1, G.2]
  rw [jk_fix_pos f1]
  simp only [kL_law_b, kL_law_18, Nat.reduceEqDiff, if_false, if_true]
  simp (disch := first | omega | assumption | (simp only [List.length_cons, List.length_nil]; omega) | decide | (simp (disch := decide) only [pu_up_ne, pu_up_at]; first | omega | assumption)) only [↓ja_int, ↓ja_null, ↓ja_iload_0, ↓ja_aload_0, ↓ja_istore_0, ↓ja_astore_0, ↓ja_kill_0, ↓ja_iinc_0, ↓ja_iload_1, ↓ja_aload_1, ↓ja_istore_1, ↓ja_astore_1, ↓ja_kill_1, ↓ja_iinc_1, ↓ja_iload_2, ↓ja_aload_2, ↓ja_istore_2, ↓ja_astore_2, ↓ja_kill_2, ↓ja_iinc_2, ↓ja_iload_3, ↓ja_aload_3, ↓ja_istore_3, ↓ja_astore_3, ↓ja_kill_3, ↓ja_iinc_3, ↓ja_iload_4, ↓ja_aload_4, ↓ja_istore_4, ↓ja_astore_4, ↓ja_kill_4, ↓ja_iinc_4, ↓ja_iload_5, ↓ja_aload_5, ↓ja_istore_5, ↓ja_astore_5, ↓ja_kill_5, ↓ja_iinc_5, ↓ja_iload_6, ↓ja_aload_6, ↓ja_istore_6, ↓ja_astore_6, ↓ja_kill_6, ↓ja_iinc_6, ↓ja_iload_7, ↓ja_aload_7, ↓ja_istore_7, ↓ja_astore_7, ↓ja_kill_7, ↓ja_iinc_7, ↓ja_iload_8, ↓ja_aload_8, ↓ja_istore_8, ↓ja_astore_8, ↓ja_kill_8, ↓ja_iinc_8, ↓ja_iload_9, ↓ja_aload_9, ↓ja_istore_9, ↓ja_astore_9, ↓ja_kill_9, ↓ja_iinc_9, ↓ja_iload_10, ↓ja_aload_10, ↓ja_istore_10, ↓ja_astore_10, ↓ja_kill_10, ↓ja_iinc_10, ↓ja_iadd, ↓ja_isub, ↓ja_imul, ↓ja_dup, ↓ja_dup2, ↓ja_i2b, ↓ja_ifeq, ↓ja_ifne, ↓ja_iflt, ↓ja_ifge, ↓ja_ifgt, ↓ja_ifle, ↓ja_icmpeq, ↓ja_icmpne, ↓ja_icmplt, ↓ja_icmpge, ↓ja_icmpgt, ↓ja_icmple, ↓ja_ifnull_n, ↓ja_ifnull_s, ↓ja_ifnonnull_n, ↓ja_ifnonnull_s, ↓ja_iret, ↓ja_aret, ↓ja_vret, ↓ja_zret0, ↓ja_zret1, ↓ja_sw, ↓ja_pe, ↓ja_pn, ↓ja_pz, ↓reduceIte, ite_self, Int.reduceEq, Int.reduceLT, Int.reduceLE, Int.reduceNeg, Int.reduceToNat, jm_wr_id, pb_none, pb_int, pb_ref, ↓rw_obj, ↓rl, ↓r0, ↓r1, ↓s1, ↓r2, ↓s2, ↓ja_and15, ho, c0, ↓vk, ↓vm, e1, e2, if_true, if_false]
  rw [jk_fix_pos f2]
  simp only [kL_law_b, kL_law_492, Nat.reduceEqDiff, if_false, if_true]
  simp (disch := first | omega | assumption | (simp only [List.length_cons, List.length_nil]; omega) | decide | (simp (disch := decide) only [pu_up_ne, pu_up_at]; first | omega | assumption)) only [↓ja_int, ↓ja_null, ↓ja_iload_0, ↓ja_aload_0, ↓ja_istore_0, ↓ja_astore_0, ↓ja_kill_0, ↓ja_iinc_0, ↓ja_iload_1, ↓ja_aload_1, ↓ja_istore_1, ↓ja_astore_1, ↓ja_kill_1, ↓ja_iinc_1, ↓ja_iload_2, ↓ja_aload_2, ↓ja_istore_2, ↓ja_astore_2, ↓ja_kill_2, ↓ja_iinc_2, ↓ja_iload_3, ↓ja_aload_3, ↓ja_istore_3, ↓ja_astore_3, ↓ja_kill_3, ↓ja_iinc_3, ↓ja_iload_4, ↓ja_aload_4, ↓ja_istore_4, ↓ja_astore_4, ↓ja_kill_4, ↓ja_iinc_4, ↓ja_iload_5, ↓ja_aload_5, ↓ja_istore_5, ↓ja_astore_5, ↓ja_kill_5, ↓ja_iinc_5, ↓ja_iload_6, ↓ja_aload_6, ↓ja_istore_6, ↓ja_astore_6, ↓ja_kill_6, ↓ja_iinc_6, ↓ja_iload_7, ↓ja_aload_7, ↓ja_istore_7, ↓ja_astore_7, ↓ja_kill_7, ↓ja_iinc_7, ↓ja_iload_8, ↓ja_aload_8, ↓ja_istore_8, ↓ja_astore_8, ↓ja_kill_8, ↓ja_iinc_8, ↓ja_iload_9, ↓ja_aload_9, ↓ja_istore_9, ↓ja_astore_9, ↓ja_kill_9, ↓ja_iinc_9, ↓ja_iload_10, ↓ja_aload_10, ↓ja_istore_10, ↓ja_astore_10, ↓ja_kill_10, ↓ja_iinc_10, ↓ja_iadd, ↓ja_isub, ↓ja_imul, ↓ja_dup, ↓ja_dup2, ↓ja_i2b, ↓ja_ifeq, ↓ja_ifne, ↓ja_iflt, ↓ja_ifge, ↓ja_ifgt, ↓ja_ifle, ↓ja_icmpeq, ↓ja_icmpne, ↓ja_icmplt, ↓ja_icmpge, ↓ja_icmpgt, ↓ja_icmple, ↓ja_ifnull_n, ↓ja_ifnull_s, ↓ja_ifnonnull_n, ↓ja_ifnonnull_s, ↓ja_iret, ↓ja_aret, ↓ja_vret, ↓ja_zret0, ↓ja_zret1, ↓ja_sw, ↓ja_pe, ↓ja_pn, ↓ja_pz, ↓reduceIte, ite_self, Int.reduceEq, Int.reduceLT, Int.reduceLE, Int.reduceNeg, Int.reduceToNat, jm_wr_id, pb_none, pb_int, pb_ref, ↓rw_obj, f3]
set_option maxHeartbeats 4000000 in
theorem L_close {i : Int} {fuel : Nat} (hn : 20000 ≤ n) (S : jp_Start h0 b L aL aM xs) (hc : c ≤ 600) (X : XW h0 y κ σ g τ c) (hi : i = 6 * (c : Int)) (hL : i + 6 ≤ L) (hf : 2 ≤ fuel) (ho : (xs i.toNat).toInt % 16 = 4) : ∃ y' κ' σ' g' τ', jk_fix (kL_law_b n) fuel 18 [some (.inr (some b)), some (.inr (some (y.2 9 0))), some (.inr (some (y.2 13 0))), some (.inl i)] [] (pu_H y κ σ g) = jk_fix (kL_law_b n) (fuel - 2) 18 [some (.inr (some b)), some (.inr (some (y'.2 9 0))), some (.inr (some (y'.2 13 0))), some (.inl (i + 6))] [] (pu_H y' κ' σ' g') ∧ XW h0 y' κ' σ' g' τ' (c + 1) ∧ GR y y' := by
  obtain ⟨rl, rs⟩ := X.scr (by omega) S κ σ
  have r0 : ∀ {kk : jK} {LL : List (Option jV)} {SS : List jV}, jk_iald kk LL (.inl i :: .inr (some b) :: SS) (pu_H y κ σ g) = kk LL (.inl (xs i.toNat).toInt :: SS) (pu_H y κ σ g) := fun {kk LL SS} => rs (by omega) (by omega)
  have c0 : ¬ ((L : Int) - 6 < i) := by omega
  have hLL := S.1
  have f1 : 0 < fuel := by omega
  have f2 : 0 < fuel - 1 := by omega
  have f3 : fuel - 1 - 1 = fuel - 2 := by omega
  have o9 := X.1.2.1.2.1
  obtain ⟨a1, ea1⟩ : ∃ a, a = (xs (i + 1).toNat).toInt := ⟨_, rfl⟩
  have r1 : ∀ {kk : jK} {LL : List (Option jV)} {SS : List jV}, jk_iald kk LL (.inl (i + 1) :: .inr (some b) :: SS) (pu_H y κ σ g) = kk LL (.inl a1 :: SS) (pu_H y κ σ g) := fun {kk LL SS} => by rw [ea1]; exact rs (by omega) (by omega)
  obtain ⟨a2, ea2⟩ : ∃ a, a = (xs (i + 2).toNat).toInt := ⟨_, rfl⟩
  have r2 : ∀ {kk : jK} {LL : List (Option jV)} {SS : List jV}, jk_iald kk LL (.inl (i + 2) :: .inr (some b) :: SS) (pu_H y κ σ g) = kk LL (.inl a2 :: SS) (pu_H y κ σ g) := fun {kk LL SS} => by rw [ea2]; exact rs (by omega) (by omega)
  obtain ⟨y', κ', σ', g', τ', v, e1, e2, X', G⟩ := C_close (d := a1) (b := a2) hn X
  obtain ⟨rl', rs'⟩ := X'.scr (by omega) S κ' σ
  have s1 : ∀ {kk : jK} {LL : List (Option jV)} {SS : List jV}, jk_iald kk LL (.inl (i + 1) :: .inr (some b) :: SS) (pu_H y' κ' σ g') = kk LL (.inl a1 :: SS) (pu_H y' κ' σ g') := fun {kk LL SS} => by rw [ea1]; exact rs' (by omega) (by omega)
  have s2 : ∀ {kk : jK} {LL : List (Option jV)} {SS : List jV}, jk_iald kk LL (.inl (i + 2) :: .inr (some b) :: SS) (pu_H y' κ' σ g') = kk LL (.inl a2 :: SS) (pu_H y' κ' σ g') := fun {kk LL SS} => by rw [ea2]; exact rs' (by omega) (by omega)
  have vk : ∀ {F : jF} {kk : jK} {LL : List (Option jV)} {SS : List jV} {b1 b2 : Int}, SS.length ≤ 8 → jk_vcall [(10, F)] 2 kk LL (.inl b2 :: .inl b1 :: .inr (some (y.2 9 0)) :: SS) (pu_H y κ σ g) = jm_back kk LL SS (F [.inr (some (y.2 9 0)), .inl b1, .inl b2] (pu_H y κ σ g)) := fun {F kk LL SS b1 b2} hS => cc_k2 o9 hS
  have vm : ∀ {F : jF} {kk : jK} {LL : List (Option jV)} {SS : List jV} {b1 b2 : Int}, SS.length ≤ 8 → jk_vcall [(11, F)] 2 kk LL (.inl b2 :: .inl b1 :: .inr (some (y.2 13 0)) :: SS) (pu_H y' κ' σ g') = jm_back kk LL SS (F [.inr (some (y.2 13 0)), .inl b1, .inl b2] (pu_H y' κ' σ g')) := fun {F kk LL SS b1 b2} hS => by rw [← G.2]; exact pc_2 X'.2.2.2.2.1 hS
  rw [G.2] at e2
  refine ⟨y', κ', σ', g', τ', ?_, X', G⟩
  rw [G.1, G.2]
  rw [jk_fix_pos f1]
  simp only [kL_law_b, kL_law_18, Nat.reduceEqDiff, if_false, if_true]
  simp (disch := first | omega | assumption | (simp only [List.length_cons, List.length_nil]; omega) | decide | (simp (disch := decide) only [pu_up_ne, pu_up_at]; first | omega | assumption)) only [↓ja_int, ↓ja_null, ↓ja_iload_0, ↓ja_aload_0, ↓ja_istore_0, ↓ja_astore_0, ↓ja_kill_0, ↓ja_iinc_0, ↓ja_iload_1, ↓ja_aload_1, ↓ja_istore_1, ↓ja_astore_1, ↓ja_kill_1, ↓ja_iinc_1, ↓ja_iload_2, ↓ja_aload_2, ↓ja_istore_2, ↓ja_astore_2, ↓ja_kill_2, ↓ja_iinc_2, ↓ja_iload_3, ↓ja_aload_3, ↓ja_istore_3, ↓ja_astore_3, ↓ja_kill_3, ↓ja_iinc_3, ↓ja_iload_4, ↓ja_aload_4, ↓ja_istore_4, ↓ja_astore_4, ↓ja_kill_4, ↓ja_iinc_4, ↓ja_iload_5, ↓ja_aload_5, ↓ja_istore_5, ↓ja_astore_5, ↓ja_kill_5, ↓ja_iinc_5, ↓ja_iload_6, ↓ja_aload_6, ↓ja_istore_6, ↓ja_astore_6, ↓ja_kill_6, ↓ja_iinc_6, ↓ja_iload_7, ↓ja_aload_7, ↓ja_istore_7, ↓ja_astore_7, ↓ja_kill_7, ↓ja_iinc_7, ↓ja_iload_8, ↓ja_aload_8, ↓ja_istore_8, ↓ja_astore_8, ↓ja_kill_8, ↓ja_iinc_8, ↓ja_iload_9, ↓ja_aload_9, ↓ja_istore_9, ↓ja_astore_9, ↓ja_kill_9, ↓ja_iinc_9, ↓ja_iload_10, ↓ja_aload_10, ↓ja_istore_10, ↓ja_astore_10, ↓ja_kill_10, ↓ja_iinc_10, ↓ja_iadd, ↓ja_isub, ↓ja_imul, ↓ja_dup, ↓ja_dup2, ↓ja_i2b, ↓ja_ifeq, ↓ja_ifne, ↓ja_iflt, ↓ja_ifge, ↓ja_ifgt, ↓ja_ifle, ↓ja_icmpeq, ↓ja_icmpne, ↓ja_icmplt, ↓ja_icmpge, ↓ja_icmpgt, ↓ja_icmple, ↓ja_ifnull_n, ↓ja_ifnull_s, ↓ja_ifnonnull_n, ↓ja_ifnonnull_s, ↓ja_iret, ↓ja_aret, ↓ja_vret, ↓ja_zret0, ↓ja_zret1, ↓ja_sw, ↓ja_pe, ↓ja_pn, ↓ja_pz, ↓reduceIte, ite_self, Int.reduceEq, Int.reduceLT, Int.reduceLE, Int.reduceNeg, Int.reduceToNat, jm_wr_id, pb_none, pb_int, pb_ref, ↓rw_obj, ↓rl, ↓r0, ↓r1, ↓s1, ↓r2, ↓s2, ↓ja_and15, ho, c0, ↓vk, ↓vm, e1, e2, if_true, if_false]
  rw [jk_fix_pos f2]
  simp only [kL_law_b, kL_law_492, Nat.reduceEqDiff, if_false, if_true]
  simp (disch := first | omega | assumption | (simp only [List.length_cons, List.length_nil]; omega) | decide | (simp (disch := decide) only [pu_up_ne, pu_up_at]; first | omega | assumption)) only [↓ja_int, ↓ja_null, ↓ja_iload_0, ↓ja_aload_0, ↓ja_istore_0, ↓ja_astore_0, ↓ja_kill_0, ↓ja_iinc_0, ↓ja_iload_1, ↓ja_aload_1, ↓ja_istore_1, ↓ja_astore_1, ↓ja_kill_1, ↓ja_iinc_1, ↓ja_iload_2, ↓ja_aload_2, ↓ja_istore_2, ↓ja_astore_2, ↓ja_kill_2, ↓ja_iinc_2, ↓ja_iload_3, ↓ja_aload_3, ↓ja_istore_3, ↓ja_astore_3, ↓ja_kill_3, ↓ja_iinc_3, ↓ja_iload_4, ↓ja_aload_4, ↓ja_istore_4, ↓ja_astore_4, ↓ja_kill_4, ↓ja_iinc_4, ↓ja_iload_5, ↓ja_aload_5, ↓ja_istore_5, ↓ja_astore_5, ↓ja_kill_5, ↓ja_iinc_5, ↓ja_iload_6, ↓ja_aload_6, ↓ja_istore_6, ↓ja_astore_6, ↓ja_kill_6, ↓ja_iinc_6, ↓ja_iload_7, ↓ja_aload_7, ↓ja_istore_7, ↓ja_astore_7, ↓ja_kill_7, ↓ja_iinc_7, ↓ja_iload_8, ↓ja_aload_8, ↓ja_istore_8, ↓ja_astore_8, ↓ja_kill_8, ↓ja_iinc_8, ↓ja_iload_9, ↓ja_aload_9, ↓ja_istore_9, ↓ja_astore_9, ↓ja_kill_9, ↓ja_iinc_9, ↓ja_iload_10, ↓ja_aload_10, ↓ja_istore_10, ↓ja_astore_10, ↓ja_kill_10, ↓ja_iinc_10, ↓ja_iadd, ↓ja_isub, ↓ja_imul, ↓ja_dup, ↓ja_dup2, ↓ja_i2b, ↓ja_ifeq, ↓ja_ifne, ↓ja_iflt, ↓ja_ifge, ↓ja_ifgt, ↓ja_ifle, ↓ja_icmpeq, ↓ja_icmpne, ↓ja_icmplt, ↓ja_icmpge, ↓ja_icmpgt, ↓ja_icmple, ↓ja_ifnull_n, ↓ja_ifnull_s, ↓ja_ifnonnull_n, ↓ja_ifnonnull_s, ↓ja_iret, ↓ja_aret, ↓ja_vret, ↓ja_zret0, ↓ja_zret1, ↓ja_sw, ↓ja_pe, ↓ja_pn, ↓ja_pz, ↓reduceIte, ite_self, Int.reduceEq, Int.reduceLT, Int.reduceLE, Int.reduceNeg, Int.reduceToNat, jm_wr_id, pb_none, pb_int, pb_ref, ↓rw_obj, f3]
set_option maxHeartbeats 4000000 in
theorem L_run {i : Int} {fuel : Nat} (hn : 20000 ≤ n) (S : jp_Start h0 b L aL aM xs) (hc : c ≤ 600) (X : XW h0 y κ σ g τ c) (hi : i = 6 * (c : Int)) (hL : i + 6 ≤ L) (hf : 2 ≤ fuel) (ho : (xs i.toNat).toInt % 16 = 5) : ∃ y' κ' σ' g' τ', jk_fix (kL_law_b n) fuel 18 [some (.inr (some b)), some (.inr (some (y.2 9 0))), some (.inr (some (y.2 13 0))), some (.inl i)] [] (pu_H y κ σ g) = jk_fix (kL_law_b n) (fuel - 2) 18 [some (.inr (some b)), some (.inr (some (y'.2 9 0))), some (.inr (some (y'.2 13 0))), some (.inl (i + 6))] [] (pu_H y' κ' σ' g') ∧ XW h0 y' κ' σ' g' τ' (c + 1) ∧ GR y y' := by
  obtain ⟨rl, rs⟩ := X.scr (by omega) S κ σ
  have r0 : ∀ {kk : jK} {LL : List (Option jV)} {SS : List jV}, jk_iald kk LL (.inl i :: .inr (some b) :: SS) (pu_H y κ σ g) = kk LL (.inl (xs i.toNat).toInt :: SS) (pu_H y κ σ g) := fun {kk LL SS} => rs (by omega) (by omega)
  have c0 : ¬ ((L : Int) - 6 < i) := by omega
  have hLL := S.1
  have f1 : 0 < fuel := by omega
  have f2 : 0 < fuel - 1 := by omega
  have f3 : fuel - 1 - 1 = fuel - 2 := by omega
  have o9 := X.1.2.1.2.1
  obtain ⟨a1, ea1⟩ : ∃ a, a = (xs (i + 1).toNat).toInt := ⟨_, rfl⟩
  have r1 : ∀ {kk : jK} {LL : List (Option jV)} {SS : List jV}, jk_iald kk LL (.inl (i + 1) :: .inr (some b) :: SS) (pu_H y κ σ g) = kk LL (.inl a1 :: SS) (pu_H y κ σ g) := fun {kk LL SS} => by rw [ea1]; exact rs (by omega) (by omega)
  obtain ⟨y', κ', σ', g', τ', v, e1, e2, X', G⟩ := C_run (u := a1) hn X
  obtain ⟨rl', rs'⟩ := X'.scr (by omega) S κ' σ
  have s1 : ∀ {kk : jK} {LL : List (Option jV)} {SS : List jV}, jk_iald kk LL (.inl (i + 1) :: .inr (some b) :: SS) (pu_H y' κ' σ g') = kk LL (.inl a1 :: SS) (pu_H y' κ' σ g') := fun {kk LL SS} => by rw [ea1]; exact rs' (by omega) (by omega)
  have vk : ∀ {F : jF} {kk : jK} {LL : List (Option jV)} {SS : List jV} {b1 : Int}, SS.length ≤ 8 → jk_vcall [(10, F)] 1 kk LL (.inl b1 :: .inr (some (y.2 9 0)) :: SS) (pu_H y κ σ g) = jm_back kk LL SS (F [.inr (some (y.2 9 0)), .inl b1] (pu_H y κ σ g)) := fun {F kk LL SS b1} hS => cc_k1 o9 hS
  have vm : ∀ {F : jF} {kk : jK} {LL : List (Option jV)} {SS : List jV} {b1 : Int}, SS.length ≤ 8 → jk_vcall [(11, F)] 1 kk LL (.inl b1 :: .inr (some (y.2 13 0)) :: SS) (pu_H y' κ' σ g') = jm_back kk LL SS (F [.inr (some (y.2 13 0)), .inl b1] (pu_H y' κ' σ g')) := fun {F kk LL SS b1} hS => by rw [← G.2]; exact pc_1 X'.2.2.2.2.1 hS
  rw [G.2] at e2
  refine ⟨y', κ', σ', g', τ', ?_, X', G⟩
  rw [G.1, G.2]
  rw [jk_fix_pos f1]
  simp only [kL_law_b, kL_law_18, Nat.reduceEqDiff, if_false, if_true]
  simp (disch := first | omega | assumption | (simp only [List.length_cons, List.length_nil]; omega) | decide | (simp (disch := decide) only [pu_up_ne, pu_up_at]; first | omega | assumption)) only [↓ja_int, ↓ja_null, ↓ja_iload_0, ↓ja_aload_0, ↓ja_istore_0, ↓ja_astore_0, ↓ja_kill_0, ↓ja_iinc_0, ↓ja_iload_1, ↓ja_aload_1, ↓ja_istore_1, ↓ja_astore_1, ↓ja_kill_1, ↓ja_iinc_1, ↓ja_iload_2, ↓ja_aload_2, ↓ja_istore_2, ↓ja_astore_2, ↓ja_kill_2, ↓ja_iinc_2, ↓ja_iload_3, ↓ja_aload_3, ↓ja_istore_3, ↓ja_astore_3, ↓ja_kill_3, ↓ja_iinc_3, ↓ja_iload_4, ↓ja_aload_4, ↓ja_istore_4, ↓ja_astore_4, ↓ja_kill_4, ↓ja_iinc_4, ↓ja_iload_5, ↓ja_aload_5, ↓ja_istore_5, ↓ja_astore_5, ↓ja_kill_5, ↓ja_iinc_5, ↓ja_iload_6, ↓ja_aload_6, ↓ja_istore_6, ↓ja_astore_6, ↓ja_kill_6, ↓ja_iinc_6, ↓ja_iload_7, ↓ja_aload_7, ↓ja_istore_7, ↓ja_astore_7, ↓ja_kill_7, ↓ja_iinc_7, ↓ja_iload_8, ↓ja_aload_8, ↓ja_istore_8, ↓ja_astore_8, ↓ja_kill_8, ↓ja_iinc_8, ↓ja_iload_9, ↓ja_aload_9, ↓ja_istore_9, ↓ja_astore_9, ↓ja_kill_9, ↓ja_iinc_9, ↓ja_iload_10, ↓ja_aload_10, ↓ja_istore_10, ↓ja_astore_10, ↓ja_kill_10, ↓ja_iinc_10, ↓ja_iadd, ↓ja_isub, ↓ja_imul, ↓ja_dup, ↓ja_dup2, ↓ja_i2b, ↓ja_ifeq, ↓ja_ifne, ↓ja_iflt, ↓ja_ifge, ↓ja_ifgt, ↓ja_ifle, ↓ja_icmpeq, ↓ja_icmpne, ↓ja_icmplt, ↓ja_icmpge, ↓ja_icmpgt, ↓ja_icmple, ↓ja_ifnull_n, ↓ja_ifnull_s, ↓ja_ifnonnull_n, ↓ja_ifnonnull_s, ↓ja_iret, ↓ja_aret, ↓ja_vret, ↓ja_zret0, ↓ja_zret1, ↓ja_sw, ↓ja_pe, ↓ja_pn, ↓ja_pz, ↓reduceIte, ite_self, Int.reduceEq, Int.reduceLT, Int.reduceLE, Int.reduceNeg, Int.reduceToNat, jm_wr_id, pb_none, pb_int, pb_ref, ↓rw_obj, ↓rl, ↓r0, ↓r1, ↓s1, ↓ja_and15, ho, c0, ↓vk, ↓vm, e1, e2, if_true, if_false]
  rw [jk_fix_pos f2]
  simp only [kL_law_b, kL_law_492, Nat.reduceEqDiff, if_false, if_true]
  simp (disch := first | omega | assumption | (simp only [List.length_cons, List.length_nil]; omega) | decide | (simp (disch := decide) only [pu_up_ne, pu_up_at]; first | omega | assumption)) only [↓ja_int, ↓ja_null, ↓ja_iload_0, ↓ja_aload_0, ↓ja_istore_0, ↓ja_astore_0, ↓ja_kill_0, ↓ja_iinc_0, ↓ja_iload_1, ↓ja_aload_1, ↓ja_istore_1, ↓ja_astore_1, ↓ja_kill_1, ↓ja_iinc_1, ↓ja_iload_2, ↓ja_aload_2, ↓ja_istore_2, ↓ja_astore_2, ↓ja_kill_2, ↓ja_iinc_2, ↓ja_iload_3, ↓ja_aload_3, ↓ja_istore_3, ↓ja_astore_3, ↓ja_kill_3, ↓ja_iinc_3, ↓ja_iload_4, ↓ja_aload_4, ↓ja_istore_4, ↓ja_astore_4, ↓ja_kill_4, ↓ja_iinc_4, ↓ja_iload_5, ↓ja_aload_5, ↓ja_istore_5, ↓ja_astore_5, ↓ja_kill_5, ↓ja_iinc_5, ↓ja_iload_6, ↓ja_aload_6, ↓ja_istore_6, ↓ja_astore_6, ↓ja_kill_6, ↓ja_iinc_6, ↓ja_iload_7, ↓ja_aload_7, ↓ja_istore_7, ↓ja_astore_7, ↓ja_kill_7, ↓ja_iinc_7, ↓ja_iload_8, ↓ja_aload_8, ↓ja_istore_8, ↓ja_astore_8, ↓ja_kill_8, ↓ja_iinc_8, ↓ja_iload_9, ↓ja_aload_9, ↓ja_istore_9, ↓ja_astore_9, ↓ja_kill_9, ↓ja_iinc_9, ↓ja_iload_10, ↓ja_aload_10, ↓ja_istore_10, ↓ja_astore_10, ↓ja_kill_10, ↓ja_iinc_10, ↓ja_iadd, ↓ja_isub, ↓ja_imul, ↓ja_dup, ↓ja_dup2, ↓ja_i2b, ↓ja_ifeq, ↓ja_ifne, ↓ja_iflt, ↓ja_ifge, ↓ja_ifgt, ↓ja_ifle, ↓ja_icmpeq, ↓ja_icmpne, ↓ja_icmplt, ↓ja_icmpge, ↓ja_icmpgt, ↓ja_icmple, ↓ja_ifnull_n, ↓ja_ifnull_s, ↓ja_ifnonnull_n, ↓ja_ifnonnull_s, ↓ja_iret, ↓ja_aret, ↓ja_vret, ↓ja_zret0, ↓ja_zret1, ↓ja_sw, ↓ja_pe, ↓ja_pn, ↓ja_pz, ↓reduceIte, ite_self, Int.reduceEq, Int.reduceLT, Int.reduceLE, Int.reduceNeg, Int.reduceToNat, jm_wr_id, pb_none, pb_int, pb_ref, ↓rw_obj, f3]
set_option maxHeartbeats 4000000 in
theorem L_tell {i : Int} {fuel : Nat} (hn : 20000 ≤ n) (S : jp_Start h0 b L aL aM xs) (hc : c ≤ 600) (X : XW h0 y κ σ g τ c) (hi : i = 6 * (c : Int)) (hL : i + 6 ≤ L) (hf : 2 ≤ fuel) (ho : (xs i.toNat).toInt % 16 = 6) : ∃ y' κ' σ' g' τ', jk_fix (kL_law_b n) fuel 18 [some (.inr (some b)), some (.inr (some (y.2 9 0))), some (.inr (some (y.2 13 0))), some (.inl i)] [] (pu_H y κ σ g) = jk_fix (kL_law_b n) (fuel - 2) 18 [some (.inr (some b)), some (.inr (some (y'.2 9 0))), some (.inr (some (y'.2 13 0))), some (.inl (i + 6))] [] (pu_H y' κ' σ' g') ∧ XW h0 y' κ' σ' g' τ' (c + 1) ∧ GR y y' := by
  obtain ⟨rl, rs⟩ := X.scr (by omega) S κ σ
  have r0 : ∀ {kk : jK} {LL : List (Option jV)} {SS : List jV}, jk_iald kk LL (.inl i :: .inr (some b) :: SS) (pu_H y κ σ g) = kk LL (.inl (xs i.toNat).toInt :: SS) (pu_H y κ σ g) := fun {kk LL SS} => rs (by omega) (by omega)
  have c0 : ¬ ((L : Int) - 6 < i) := by omega
  have hLL := S.1
  have f1 : 0 < fuel := by omega
  have f2 : 0 < fuel - 1 := by omega
  have f3 : fuel - 1 - 1 = fuel - 2 := by omega
  have o9 := X.1.2.1.2.1
  obtain ⟨a1, ea1⟩ : ∃ a, a = (xs (i + 1).toNat).toInt := ⟨_, rfl⟩
  have r1 : ∀ {kk : jK} {LL : List (Option jV)} {SS : List jV}, jk_iald kk LL (.inl (i + 1) :: .inr (some b) :: SS) (pu_H y κ σ g) = kk LL (.inl a1 :: SS) (pu_H y κ σ g) := fun {kk LL SS} => by rw [ea1]; exact rs (by omega) (by omega)
  obtain ⟨a2, ea2⟩ : ∃ a, a = (xs (i + 2).toNat).toInt := ⟨_, rfl⟩
  have r2 : ∀ {kk : jK} {LL : List (Option jV)} {SS : List jV}, jk_iald kk LL (.inl (i + 2) :: .inr (some b) :: SS) (pu_H y κ σ g) = kk LL (.inl a2 :: SS) (pu_H y κ σ g) := fun {kk LL SS} => by rw [ea2]; exact rs (by omega) (by omega)
  obtain ⟨y', κ', σ', g', τ', v, e1, e2, X', G⟩ := C_tell (t := a1) (w := a2) hn X
  obtain ⟨rl', rs'⟩ := X'.scr (by omega) S κ' σ
  have s1 : ∀ {kk : jK} {LL : List (Option jV)} {SS : List jV}, jk_iald kk LL (.inl (i + 1) :: .inr (some b) :: SS) (pu_H y' κ' σ g') = kk LL (.inl a1 :: SS) (pu_H y' κ' σ g') := fun {kk LL SS} => by rw [ea1]; exact rs' (by omega) (by omega)
  have s2 : ∀ {kk : jK} {LL : List (Option jV)} {SS : List jV}, jk_iald kk LL (.inl (i + 2) :: .inr (some b) :: SS) (pu_H y' κ' σ g') = kk LL (.inl a2 :: SS) (pu_H y' κ' σ g') := fun {kk LL SS} => by rw [ea2]; exact rs' (by omega) (by omega)
  have vk : ∀ {F : jF} {kk : jK} {LL : List (Option jV)} {SS : List jV} {b1 b2 : Int}, SS.length ≤ 8 → jk_vcall [(10, F)] 2 kk LL (.inl b2 :: .inl b1 :: .inr (some (y.2 9 0)) :: SS) (pu_H y κ σ g) = jm_back kk LL SS (F [.inr (some (y.2 9 0)), .inl b1, .inl b2] (pu_H y κ σ g)) := fun {F kk LL SS b1 b2} hS => cc_k2 o9 hS
  have vm : ∀ {F : jF} {kk : jK} {LL : List (Option jV)} {SS : List jV} {b1 b2 : Int}, SS.length ≤ 8 → jk_vcall [(11, F)] 2 kk LL (.inl b2 :: .inl b1 :: .inr (some (y.2 13 0)) :: SS) (pu_H y' κ' σ g') = jm_back kk LL SS (F [.inr (some (y.2 13 0)), .inl b1, .inl b2] (pu_H y' κ' σ g')) := fun {F kk LL SS b1 b2} hS => by rw [← G.2]; exact pc_2 X'.2.2.2.2.1 hS
  rw [G.2] at e2
  refine ⟨y', κ', σ', g', τ', ?_, X', G⟩
  rw [G.1, G.2]
  rw [jk_fix_pos f1]
  simp only [kL_law_b, kL_law_18, Nat.reduceEqDiff, if_false, if_true]
  simp (disch := first | omega | assumption | (simp only [List.length_cons, List.length_nil]; omega) | decide | (simp (disch := decide) only [pu_up_ne, pu_up_at]; first | omega | assumption)) only [↓ja_int, ↓ja_null, ↓ja_iload_0, ↓ja_aload_0, ↓ja_istore_0, ↓ja_astore_0, ↓ja_kill_0, ↓ja_iinc_0, ↓ja_iload_1, ↓ja_aload_1, ↓ja_istore_1, ↓ja_astore_1, ↓ja_kill_1, ↓ja_iinc_1, ↓ja_iload_2, ↓ja_aload_2, ↓ja_istore_2, ↓ja_astore_2, ↓ja_kill_2, ↓ja_iinc_2, ↓ja_iload_3, ↓ja_aload_3, ↓ja_istore_3, ↓ja_astore_3, ↓ja_kill_3, ↓ja_iinc_3, ↓ja_iload_4, ↓ja_aload_4, ↓ja_istore_4, ↓ja_astore_4, ↓ja_kill_4, ↓ja_iinc_4, ↓ja_iload_5, ↓ja_aload_5, ↓ja_istore_5, ↓ja_astore_5, ↓ja_kill_5, ↓ja_iinc_5, ↓ja_iload_6, ↓ja_aload_6, ↓ja_istore_6, ↓ja_astore_6, ↓ja_kill_6, ↓ja_iinc_6, ↓ja_iload_7, ↓ja_aload_7, ↓ja_istore_7, ↓ja_astore_7, ↓ja_kill_7, ↓ja_iinc_7, ↓ja_iload_8, ↓ja_aload_8, ↓ja_istore_8, ↓ja_astore_8, ↓ja_kill_8, ↓ja_iinc_8, ↓ja_iload_9, ↓ja_aload_9, ↓ja_istore_9, ↓ja_astore_9, ↓ja_kill_9, ↓ja_iinc_9, ↓ja_iload_10, ↓ja_aload_10, ↓ja_istore_10, ↓ja_astore_10, ↓ja_kill_10, ↓ja_iinc_10, ↓ja_iadd, ↓ja_isub, ↓ja_imul, ↓ja_dup, ↓ja_dup2, ↓ja_i2b, ↓ja_ifeq, ↓ja_ifne, ↓ja_iflt, ↓ja_ifge, ↓ja_ifgt, ↓ja_ifle, ↓ja_icmpeq, ↓ja_icmpne, ↓ja_icmplt, ↓ja_icmpge, ↓ja_icmpgt, ↓ja_icmple, ↓ja_ifnull_n, ↓ja_ifnull_s, ↓ja_ifnonnull_n, ↓ja_ifnonnull_s, ↓ja_iret, ↓ja_aret, ↓ja_vret, ↓ja_zret0, ↓ja_zret1, ↓ja_sw, ↓ja_pe, ↓ja_pn, ↓ja_pz, ↓reduceIte, ite_self, Int.reduceEq, Int.reduceLT, Int.reduceLE, Int.reduceNeg, Int.reduceToNat, jm_wr_id, pb_none, pb_int, pb_ref, ↓rw_obj, ↓rl, ↓r0, ↓r1, ↓s1, ↓r2, ↓s2, ↓ja_and15, ho, c0, ↓vk, ↓vm, e1, e2, if_true, if_false]
  rw [jk_fix_pos f2]
  simp only [kL_law_b, kL_law_492, Nat.reduceEqDiff, if_false, if_true]
  simp (disch := first | omega | assumption | (simp only [List.length_cons, List.length_nil]; omega) | decide | (simp (disch := decide) only [pu_up_ne, pu_up_at]; first | omega | assumption)) only [↓ja_int, ↓ja_null, ↓ja_iload_0, ↓ja_aload_0, ↓ja_istore_0, ↓ja_astore_0, ↓ja_kill_0, ↓ja_iinc_0, ↓ja_iload_1, ↓ja_aload_1, ↓ja_istore_1, ↓ja_astore_1, ↓ja_kill_1, ↓ja_iinc_1, ↓ja_iload_2, ↓ja_aload_2, ↓ja_istore_2, ↓ja_astore_2, ↓ja_kill_2, ↓ja_iinc_2, ↓ja_iload_3, ↓ja_aload_3, ↓ja_istore_3, ↓ja_astore_3, ↓ja_kill_3, ↓ja_iinc_3, ↓ja_iload_4, ↓ja_aload_4, ↓ja_istore_4, ↓ja_astore_4, ↓ja_kill_4, ↓ja_iinc_4, ↓ja_iload_5, ↓ja_aload_5, ↓ja_istore_5, ↓ja_astore_5, ↓ja_kill_5, ↓ja_iinc_5, ↓ja_iload_6, ↓ja_aload_6, ↓ja_istore_6, ↓ja_astore_6, ↓ja_kill_6, ↓ja_iinc_6, ↓ja_iload_7, ↓ja_aload_7, ↓ja_istore_7, ↓ja_astore_7, ↓ja_kill_7, ↓ja_iinc_7, ↓ja_iload_8, ↓ja_aload_8, ↓ja_istore_8, ↓ja_astore_8, ↓ja_kill_8, ↓ja_iinc_8, ↓ja_iload_9, ↓ja_aload_9, ↓ja_istore_9, ↓ja_astore_9, ↓ja_kill_9, ↓ja_iinc_9, ↓ja_iload_10, ↓ja_aload_10, ↓ja_istore_10, ↓ja_astore_10, ↓ja_kill_10, ↓ja_iinc_10, ↓ja_iadd, ↓ja_isub, ↓ja_imul, ↓ja_dup, ↓ja_dup2, ↓ja_i2b, ↓ja_ifeq, ↓ja_ifne, ↓ja_iflt, ↓ja_ifge, ↓ja_ifgt, ↓ja_ifle, ↓ja_icmpeq, ↓ja_icmpne, ↓ja_icmplt, ↓ja_icmpge, ↓ja_icmpgt, ↓ja_icmple, ↓ja_ifnull_n, ↓ja_ifnull_s, ↓ja_ifnonnull_n, ↓ja_ifnonnull_s, ↓ja_iret, ↓ja_aret, ↓ja_vret, ↓ja_zret0, ↓ja_zret1, ↓ja_sw, ↓ja_pe, ↓ja_pn, ↓ja_pz, ↓reduceIte, ite_self, Int.reduceEq, Int.reduceLT, Int.reduceLE, Int.reduceNeg, Int.reduceToNat, jm_wr_id, pb_none, pb_int, pb_ref, ↓rw_obj, f3]
set_option maxHeartbeats 4000000 in
theorem L_outcome {i : Int} {fuel : Nat} (hn : 20000 ≤ n) (S : jp_Start h0 b L aL aM xs) (hc : c ≤ 600) (X : XW h0 y κ σ g τ c) (hi : i = 6 * (c : Int)) (hL : i + 6 ≤ L) (hf : 2 ≤ fuel) (ho : (xs i.toNat).toInt % 16 = 7) : ∃ y' κ' σ' g' τ', jk_fix (kL_law_b n) fuel 18 [some (.inr (some b)), some (.inr (some (y.2 9 0))), some (.inr (some (y.2 13 0))), some (.inl i)] [] (pu_H y κ σ g) = jk_fix (kL_law_b n) (fuel - 2) 18 [some (.inr (some b)), some (.inr (some (y'.2 9 0))), some (.inr (some (y'.2 13 0))), some (.inl (i + 6))] [] (pu_H y' κ' σ' g') ∧ XW h0 y' κ' σ' g' τ' (c + 1) ∧ GR y y' := by
  obtain ⟨rl, rs⟩ := X.scr (by omega) S κ σ
  have r0 : ∀ {kk : jK} {LL : List (Option jV)} {SS : List jV}, jk_iald kk LL (.inl i :: .inr (some b) :: SS) (pu_H y κ σ g) = kk LL (.inl (xs i.toNat).toInt :: SS) (pu_H y κ σ g) := fun {kk LL SS} => rs (by omega) (by omega)
  have c0 : ¬ ((L : Int) - 6 < i) := by omega
  have hLL := S.1
  have f1 : 0 < fuel := by omega
  have f2 : 0 < fuel - 1 := by omega
  have f3 : fuel - 1 - 1 = fuel - 2 := by omega
  have o9 := X.1.2.1.2.1
  obtain ⟨a1, ea1⟩ : ∃ a, a = (xs (i + 1).toNat).toInt := ⟨_, rfl⟩
  have r1 : ∀ {kk : jK} {LL : List (Option jV)} {SS : List jV}, jk_iald kk LL (.inl (i + 1) :: .inr (some b) :: SS) (pu_H y κ σ g) = kk LL (.inl a1 :: SS) (pu_H y κ σ g) := fun {kk LL SS} => by rw [ea1]; exact rs (by omega) (by omega)
  obtain ⟨a2, ea2⟩ : ∃ a, a = (xs (i + 2).toNat).toInt := ⟨_, rfl⟩
  have r2 : ∀ {kk : jK} {LL : List (Option jV)} {SS : List jV}, jk_iald kk LL (.inl (i + 2) :: .inr (some b) :: SS) (pu_H y κ σ g) = kk LL (.inl a2 :: SS) (pu_H y κ σ g) := fun {kk LL SS} => by rw [ea2]; exact rs (by omega) (by omega)
  obtain ⟨a3, ea3⟩ : ∃ a, a = (xs (i + 3).toNat).toInt := ⟨_, rfl⟩
  have r3 : ∀ {kk : jK} {LL : List (Option jV)} {SS : List jV}, jk_iald kk LL (.inl (i + 3) :: .inr (some b) :: SS) (pu_H y κ σ g) = kk LL (.inl a3 :: SS) (pu_H y κ σ g) := fun {kk LL SS} => by rw [ea3]; exact rs (by omega) (by omega)
  obtain ⟨y', κ', σ', g', τ', v, e1, e2, X', G⟩ := C_outcome (t := a1) (i := a2) (w := a3) hn X
  obtain ⟨rl', rs'⟩ := X'.scr (by omega) S κ' σ
  have s1 : ∀ {kk : jK} {LL : List (Option jV)} {SS : List jV}, jk_iald kk LL (.inl (i + 1) :: .inr (some b) :: SS) (pu_H y' κ' σ g') = kk LL (.inl a1 :: SS) (pu_H y' κ' σ g') := fun {kk LL SS} => by rw [ea1]; exact rs' (by omega) (by omega)
  have s2 : ∀ {kk : jK} {LL : List (Option jV)} {SS : List jV}, jk_iald kk LL (.inl (i + 2) :: .inr (some b) :: SS) (pu_H y' κ' σ g') = kk LL (.inl a2 :: SS) (pu_H y' κ' σ g') := fun {kk LL SS} => by rw [ea2]; exact rs' (by omega) (by omega)
  have s3 : ∀ {kk : jK} {LL : List (Option jV)} {SS : List jV}, jk_iald kk LL (.inl (i + 3) :: .inr (some b) :: SS) (pu_H y' κ' σ g') = kk LL (.inl a3 :: SS) (pu_H y' κ' σ g') := fun {kk LL SS} => by rw [ea3]; exact rs' (by omega) (by omega)
  have vk : ∀ {F : jF} {kk : jK} {LL : List (Option jV)} {SS : List jV} {b1 b2 b3 : Int}, SS.length ≤ 8 → jk_vcall [(10, F)] 3 kk LL (.inl b3 :: .inl b2 :: .inl b1 :: .inr (some (y.2 9 0)) :: SS) (pu_H y κ σ g) = jm_back kk LL SS (F [.inr (some (y.2 9 0)), .inl b1, .inl b2, .inl b3] (pu_H y κ σ g)) := fun {F kk LL SS b1 b2 b3} hS => cc_k3 o9 hS
  have vm : ∀ {F : jF} {kk : jK} {LL : List (Option jV)} {SS : List jV} {b1 b2 b3 : Int}, SS.length ≤ 8 → jk_vcall [(11, F)] 3 kk LL (.inl b3 :: .inl b2 :: .inl b1 :: .inr (some (y.2 13 0)) :: SS) (pu_H y' κ' σ g') = jm_back kk LL SS (F [.inr (some (y.2 13 0)), .inl b1, .inl b2, .inl b3] (pu_H y' κ' σ g')) := fun {F kk LL SS b1 b2 b3} hS => by rw [← G.2]; exact pc_3 X'.2.2.2.2.1 hS
  rw [G.2] at e2
  refine ⟨y', κ', σ', g', τ', ?_, X', G⟩
  rw [G.1, G.2]
  rw [jk_fix_pos f1]
  simp only [kL_law_b, kL_law_18, Nat.reduceEqDiff, if_false, if_true]
  simp (disch := first | omega | assumption | (simp only [List.length_cons, List.length_nil]; omega) | decide | (simp (disch := decide) only [pu_up_ne, pu_up_at]; first | omega | assumption)) only [↓ja_int, ↓ja_null, ↓ja_iload_0, ↓ja_aload_0, ↓ja_istore_0, ↓ja_astore_0, ↓ja_kill_0, ↓ja_iinc_0, ↓ja_iload_1, ↓ja_aload_1, ↓ja_istore_1, ↓ja_astore_1, ↓ja_kill_1, ↓ja_iinc_1, ↓ja_iload_2, ↓ja_aload_2, ↓ja_istore_2, ↓ja_astore_2, ↓ja_kill_2, ↓ja_iinc_2, ↓ja_iload_3, ↓ja_aload_3, ↓ja_istore_3, ↓ja_astore_3, ↓ja_kill_3, ↓ja_iinc_3, ↓ja_iload_4, ↓ja_aload_4, ↓ja_istore_4, ↓ja_astore_4, ↓ja_kill_4, ↓ja_iinc_4, ↓ja_iload_5, ↓ja_aload_5, ↓ja_istore_5, ↓ja_astore_5, ↓ja_kill_5, ↓ja_iinc_5, ↓ja_iload_6, ↓ja_aload_6, ↓ja_istore_6, ↓ja_astore_6, ↓ja_kill_6, ↓ja_iinc_6, ↓ja_iload_7, ↓ja_aload_7, ↓ja_istore_7, ↓ja_astore_7, ↓ja_kill_7, ↓ja_iinc_7, ↓ja_iload_8, ↓ja_aload_8, ↓ja_istore_8, ↓ja_astore_8, ↓ja_kill_8, ↓ja_iinc_8, ↓ja_iload_9, ↓ja_aload_9, ↓ja_istore_9, ↓ja_astore_9, ↓ja_kill_9, ↓ja_iinc_9, ↓ja_iload_10, ↓ja_aload_10, ↓ja_istore_10, ↓ja_astore_10, ↓ja_kill_10, ↓ja_iinc_10, ↓ja_iadd, ↓ja_isub, ↓ja_imul, ↓ja_dup, ↓ja_dup2, ↓ja_i2b, ↓ja_ifeq, ↓ja_ifne, ↓ja_iflt, ↓ja_ifge, ↓ja_ifgt, ↓ja_ifle, ↓ja_icmpeq, ↓ja_icmpne, ↓ja_icmplt, ↓ja_icmpge, ↓ja_icmpgt, ↓ja_icmple, ↓ja_ifnull_n, ↓ja_ifnull_s, ↓ja_ifnonnull_n, ↓ja_ifnonnull_s, ↓ja_iret, ↓ja_aret, ↓ja_vret, ↓ja_zret0, ↓ja_zret1, ↓ja_sw, ↓ja_pe, ↓ja_pn, ↓ja_pz, ↓reduceIte, ite_self, Int.reduceEq, Int.reduceLT, Int.reduceLE, Int.reduceNeg, Int.reduceToNat, jm_wr_id, pb_none, pb_int, pb_ref, ↓rw_obj, ↓rl, ↓r0, ↓r1, ↓s1, ↓r2, ↓s2, ↓r3, ↓s3, ↓ja_and15, ho, c0, ↓vk, ↓vm, e1, e2, if_true, if_false]
  rw [jk_fix_pos f2]
  simp only [kL_law_b, kL_law_492, Nat.reduceEqDiff, if_false, if_true]
  simp (disch := first | omega | assumption | (simp only [List.length_cons, List.length_nil]; omega) | decide | (simp (disch := decide) only [pu_up_ne, pu_up_at]; first | omega | assumption)) only [↓ja_int, ↓ja_null, ↓ja_iload_0, ↓ja_aload_0, ↓ja_istore_0, ↓ja_astore_0, ↓ja_kill_0, ↓ja_iinc_0, ↓ja_iload_1, ↓ja_aload_1, ↓ja_istore_1, ↓ja_astore_1, ↓ja_kill_1, ↓ja_iinc_1, ↓ja_iload_2, ↓ja_aload_2, ↓ja_istore_2, ↓ja_astore_2, ↓ja_kill_2, ↓ja_iinc_2, ↓ja_iload_3, ↓ja_aload_3, ↓ja_istore_3, ↓ja_astore_3, ↓ja_kill_3, ↓ja_iinc_3, ↓ja_iload_4, ↓ja_aload_4, ↓ja_istore_4, ↓ja_astore_4, ↓ja_kill_4, ↓ja_iinc_4, ↓ja_iload_5, ↓ja_aload_5, ↓ja_istore_5, ↓ja_astore_5, ↓ja_kill_5, ↓ja_iinc_5, ↓ja_iload_6, ↓ja_aload_6, ↓ja_istore_6, ↓ja_astore_6, ↓ja_kill_6, ↓ja_iinc_6, ↓ja_iload_7, ↓ja_aload_7, ↓ja_istore_7, ↓ja_astore_7, ↓ja_kill_7, ↓ja_iinc_7, ↓ja_iload_8, ↓ja_aload_8, ↓ja_istore_8, ↓ja_astore_8, ↓ja_kill_8, ↓ja_iinc_8, ↓ja_iload_9, ↓ja_aload_9, ↓ja_istore_9, ↓ja_astore_9, ↓ja_kill_9, ↓ja_iinc_9, ↓ja_iload_10, ↓ja_aload_10, ↓ja_istore_10, ↓ja_astore_10, ↓ja_kill_10, ↓ja_iinc_10, ↓ja_iadd, ↓ja_isub, ↓ja_imul, ↓ja_dup, ↓ja_dup2, ↓ja_i2b, ↓ja_ifeq, ↓ja_ifne, ↓ja_iflt, ↓ja_ifge, ↓ja_ifgt, ↓ja_ifle, ↓ja_icmpeq, ↓ja_icmpne, ↓ja_icmplt, ↓ja_icmpge, ↓ja_icmpgt, ↓ja_icmple, ↓ja_ifnull_n, ↓ja_ifnull_s, ↓ja_ifnonnull_n, ↓ja_ifnonnull_s, ↓ja_iret, ↓ja_aret, ↓ja_vret, ↓ja_zret0, ↓ja_zret1, ↓ja_sw, ↓ja_pe, ↓ja_pn, ↓ja_pz, ↓reduceIte, ite_self, Int.reduceEq, Int.reduceLT, Int.reduceLE, Int.reduceNeg, Int.reduceToNat, jm_wr_id, pb_none, pb_int, pb_ref, ↓rw_obj, f3]
set_option maxHeartbeats 4000000 in
theorem L_state {i : Int} {fuel : Nat} (hn : 20000 ≤ n) (S : jp_Start h0 b L aL aM xs) (hc : c ≤ 600) (X : XW h0 y κ σ g τ c) (hi : i = 6 * (c : Int)) (hL : i + 6 ≤ L) (hf : 2 ≤ fuel) (ho : (xs i.toNat).toInt % 16 = 8) : ∃ y' κ' σ' g' τ', jk_fix (kL_law_b n) fuel 18 [some (.inr (some b)), some (.inr (some (y.2 9 0))), some (.inr (some (y.2 13 0))), some (.inl i)] [] (pu_H y κ σ g) = jk_fix (kL_law_b n) (fuel - 2) 18 [some (.inr (some b)), some (.inr (some (y'.2 9 0))), some (.inr (some (y'.2 13 0))), some (.inl (i + 6))] [] (pu_H y' κ' σ' g') ∧ XW h0 y' κ' σ' g' τ' (c + 1) ∧ GR y y' := by
  obtain ⟨rl, rs⟩ := X.scr (by omega) S κ σ
  have r0 : ∀ {kk : jK} {LL : List (Option jV)} {SS : List jV}, jk_iald kk LL (.inl i :: .inr (some b) :: SS) (pu_H y κ σ g) = kk LL (.inl (xs i.toNat).toInt :: SS) (pu_H y κ σ g) := fun {kk LL SS} => rs (by omega) (by omega)
  have c0 : ¬ ((L : Int) - 6 < i) := by omega
  have hLL := S.1
  have f1 : 0 < fuel := by omega
  have f2 : 0 < fuel - 1 := by omega
  have f3 : fuel - 1 - 1 = fuel - 2 := by omega
  have o9 := X.1.2.1.2.1
  obtain ⟨a1, ea1⟩ : ∃ a, a = (xs (i + 1).toNat).toInt := ⟨_, rfl⟩
  have r1 : ∀ {kk : jK} {LL : List (Option jV)} {SS : List jV}, jk_iald kk LL (.inl (i + 1) :: .inr (some b) :: SS) (pu_H y κ σ g) = kk LL (.inl a1 :: SS) (pu_H y κ σ g) := fun {kk LL SS} => by rw [ea1]; exact rs (by omega) (by omega)
  obtain ⟨a2, ea2⟩ : ∃ a, a = (xs (i + 2).toNat).toInt := ⟨_, rfl⟩
  have r2 : ∀ {kk : jK} {LL : List (Option jV)} {SS : List jV}, jk_iald kk LL (.inl (i + 2) :: .inr (some b) :: SS) (pu_H y κ σ g) = kk LL (.inl a2 :: SS) (pu_H y κ σ g) := fun {kk LL SS} => by rw [ea2]; exact rs (by omega) (by omega)
  obtain ⟨y', κ', σ', g', τ', v, e1, e2, X', G⟩ := C_state (d := a1) (w := a2) hn X
  obtain ⟨rl', rs'⟩ := X'.scr (by omega) S κ' σ
  have s1 : ∀ {kk : jK} {LL : List (Option jV)} {SS : List jV}, jk_iald kk LL (.inl (i + 1) :: .inr (some b) :: SS) (pu_H y' κ' σ g') = kk LL (.inl a1 :: SS) (pu_H y' κ' σ g') := fun {kk LL SS} => by rw [ea1]; exact rs' (by omega) (by omega)
  have s2 : ∀ {kk : jK} {LL : List (Option jV)} {SS : List jV}, jk_iald kk LL (.inl (i + 2) :: .inr (some b) :: SS) (pu_H y' κ' σ g') = kk LL (.inl a2 :: SS) (pu_H y' κ' σ g') := fun {kk LL SS} => by rw [ea2]; exact rs' (by omega) (by omega)
  have vk : ∀ {F : jF} {kk : jK} {LL : List (Option jV)} {SS : List jV} {b1 b2 : Int}, SS.length ≤ 8 → jk_vcall [(10, F)] 2 kk LL (.inl b2 :: .inl b1 :: .inr (some (y.2 9 0)) :: SS) (pu_H y κ σ g) = jm_back kk LL SS (F [.inr (some (y.2 9 0)), .inl b1, .inl b2] (pu_H y κ σ g)) := fun {F kk LL SS b1 b2} hS => cc_k2 o9 hS
  have vm : ∀ {F : jF} {kk : jK} {LL : List (Option jV)} {SS : List jV} {b1 b2 : Int}, SS.length ≤ 8 → jk_vcall [(11, F)] 2 kk LL (.inl b2 :: .inl b1 :: .inr (some (y.2 13 0)) :: SS) (pu_H y' κ' σ g') = jm_back kk LL SS (F [.inr (some (y.2 13 0)), .inl b1, .inl b2] (pu_H y' κ' σ g')) := fun {F kk LL SS b1 b2} hS => by rw [← G.2]; exact pc_2 X'.2.2.2.2.1 hS
  rw [G.2] at e2
  refine ⟨y', κ', σ', g', τ', ?_, X', G⟩
  rw [G.1, G.2]
  rw [jk_fix_pos f1]
  simp only [kL_law_b, kL_law_18, Nat.reduceEqDiff, if_false, if_true]
  simp (disch := first | omega | assumption | (simp only [List.length_cons, List.length_nil]; omega) | decide | (simp (disch := decide) only [pu_up_ne, pu_up_at]; first | omega | assumption)) only [↓ja_int, ↓ja_null, ↓ja_iload_0, ↓ja_aload_0, ↓ja_istore_0, ↓ja_astore_0, ↓ja_kill_0, ↓ja_iinc_0, ↓ja_iload_1, ↓ja_aload_1, ↓ja_istore_1, ↓ja_astore_1, ↓ja_kill_1, ↓ja_iinc_1, ↓ja_iload_2, ↓ja_aload_2, ↓ja_istore_2, ↓ja_astore_2, ↓ja_kill_2, ↓ja_iinc_2, ↓ja_iload_3, ↓ja_aload_3, ↓ja_istore_3, ↓ja_astore_3, ↓ja_kill_3, ↓ja_iinc_3, ↓ja_iload_4, ↓ja_aload_4, ↓ja_istore_4, ↓ja_astore_4, ↓ja_kill_4, ↓ja_iinc_4, ↓ja_iload_5, ↓ja_aload_5, ↓ja_istore_5, ↓ja_astore_5, ↓ja_kill_5, ↓ja_iinc_5, ↓ja_iload_6, ↓ja_aload_6, ↓ja_istore_6, ↓ja_astore_6, ↓ja_kill_6, ↓ja_iinc_6, ↓ja_iload_7, ↓ja_aload_7, ↓ja_istore_7, ↓ja_astore_7, ↓ja_kill_7, ↓ja_iinc_7, ↓ja_iload_8, ↓ja_aload_8, ↓ja_istore_8, ↓ja_astore_8, ↓ja_kill_8, ↓ja_iinc_8, ↓ja_iload_9, ↓ja_aload_9, ↓ja_istore_9, ↓ja_astore_9, ↓ja_kill_9, ↓ja_iinc_9, ↓ja_iload_10, ↓ja_aload_10, ↓ja_istore_10, ↓ja_astore_10, ↓ja_kill_10, ↓ja_iinc_10, ↓ja_iadd, ↓ja_isub, ↓ja_imul, ↓ja_dup, ↓ja_dup2, ↓ja_i2b, ↓ja_ifeq, ↓ja_ifne, ↓ja_iflt, ↓ja_ifge, ↓ja_ifgt, ↓ja_ifle, ↓ja_icmpeq, ↓ja_icmpne, ↓ja_icmplt, ↓ja_icmpge, ↓ja_icmpgt, ↓ja_icmple, ↓ja_ifnull_n, ↓ja_ifnull_s, ↓ja_ifnonnull_n, ↓ja_ifnonnull_s, ↓ja_iret, ↓ja_aret, ↓ja_vret, ↓ja_zret0, ↓ja_zret1, ↓ja_sw, ↓ja_pe, ↓ja_pn, ↓ja_pz, ↓reduceIte, ite_self, Int.reduceEq, Int.reduceLT, Int.reduceLE, Int.reduceNeg, Int.reduceToNat, jm_wr_id, pb_none, pb_int, pb_ref, ↓rw_obj, ↓rl, ↓r0, ↓r1, ↓s1, ↓r2, ↓s2, ↓ja_and15, ho, c0, ↓vk, ↓vm, e1, e2, if_true, if_false]
  rw [jk_fix_pos f2]
  simp only [kL_law_b, kL_law_492, Nat.reduceEqDiff, if_false, if_true]
  simp (disch := first | omega | assumption | (simp only [List.length_cons, List.length_nil]; omega) | decide | (simp (disch := decide) only [pu_up_ne, pu_up_at]; first | omega | assumption)) only [↓ja_int, ↓ja_null, ↓ja_iload_0, ↓ja_aload_0, ↓ja_istore_0, ↓ja_astore_0, ↓ja_kill_0, ↓ja_iinc_0, ↓ja_iload_1, ↓ja_aload_1, ↓ja_istore_1, ↓ja_astore_1, ↓ja_kill_1, ↓ja_iinc_1, ↓ja_iload_2, ↓ja_aload_2, ↓ja_istore_2, ↓ja_astore_2, ↓ja_kill_2, ↓ja_iinc_2, ↓ja_iload_3, ↓ja_aload_3, ↓ja_istore_3, ↓ja_astore_3, ↓ja_kill_3, ↓ja_iinc_3, ↓ja_iload_4, ↓ja_aload_4, ↓ja_istore_4, ↓ja_astore_4, ↓ja_kill_4, ↓ja_iinc_4, ↓ja_iload_5, ↓ja_aload_5, ↓ja_istore_5, ↓ja_astore_5, ↓ja_kill_5, ↓ja_iinc_5, ↓ja_iload_6, ↓ja_aload_6, ↓ja_istore_6, ↓ja_astore_6, ↓ja_kill_6, ↓ja_iinc_6, ↓ja_iload_7, ↓ja_aload_7, ↓ja_istore_7, ↓ja_astore_7, ↓ja_kill_7, ↓ja_iinc_7, ↓ja_iload_8, ↓ja_aload_8, ↓ja_istore_8, ↓ja_astore_8, ↓ja_kill_8, ↓ja_iinc_8, ↓ja_iload_9, ↓ja_aload_9, ↓ja_istore_9, ↓ja_astore_9, ↓ja_kill_9, ↓ja_iinc_9, ↓ja_iload_10, ↓ja_aload_10, ↓ja_istore_10, ↓ja_astore_10, ↓ja_kill_10, ↓ja_iinc_10, ↓ja_iadd, ↓ja_isub, ↓ja_imul, ↓ja_dup, ↓ja_dup2, ↓ja_i2b, ↓ja_ifeq, ↓ja_ifne, ↓ja_iflt, ↓ja_ifge, ↓ja_ifgt, ↓ja_ifle, ↓ja_icmpeq, ↓ja_icmpne, ↓ja_icmplt, ↓ja_icmpge, ↓ja_icmpgt, ↓ja_icmple, ↓ja_ifnull_n, ↓ja_ifnull_s, ↓ja_ifnonnull_n, ↓ja_ifnonnull_s, ↓ja_iret, ↓ja_aret, ↓ja_vret, ↓ja_zret0, ↓ja_zret1, ↓ja_sw, ↓ja_pe, ↓ja_pn, ↓ja_pz, ↓reduceIte, ite_self, Int.reduceEq, Int.reduceLT, Int.reduceLE, Int.reduceNeg, Int.reduceToNat, jm_wr_id, pb_none, pb_int, pb_ref, ↓rw_obj, f3]
set_option maxHeartbeats 4000000 in
theorem L_waiting {i : Int} {fuel : Nat} (hn : 20000 ≤ n) (S : jp_Start h0 b L aL aM xs) (hc : c ≤ 600) (X : XW h0 y κ σ g τ c) (hi : i = 6 * (c : Int)) (hL : i + 6 ≤ L) (hf : 2 ≤ fuel) (ho : (xs i.toNat).toInt % 16 = 9) : ∃ y' κ' σ' g' τ', jk_fix (kL_law_b n) fuel 18 [some (.inr (some b)), some (.inr (some (y.2 9 0))), some (.inr (some (y.2 13 0))), some (.inl i)] [] (pu_H y κ σ g) = jk_fix (kL_law_b n) (fuel - 2) 18 [some (.inr (some b)), some (.inr (some (y'.2 9 0))), some (.inr (some (y'.2 13 0))), some (.inl (i + 6))] [] (pu_H y' κ' σ' g') ∧ XW h0 y' κ' σ' g' τ' (c + 1) ∧ GR y y' := by
  obtain ⟨rl, rs⟩ := X.scr (by omega) S κ σ
  have r0 : ∀ {kk : jK} {LL : List (Option jV)} {SS : List jV}, jk_iald kk LL (.inl i :: .inr (some b) :: SS) (pu_H y κ σ g) = kk LL (.inl (xs i.toNat).toInt :: SS) (pu_H y κ σ g) := fun {kk LL SS} => rs (by omega) (by omega)
  have c0 : ¬ ((L : Int) - 6 < i) := by omega
  have hLL := S.1
  have f1 : 0 < fuel := by omega
  have f2 : 0 < fuel - 1 := by omega
  have f3 : fuel - 1 - 1 = fuel - 2 := by omega
  have o9 := X.1.2.1.2.1
  obtain ⟨a1, ea1⟩ : ∃ a, a = (xs (i + 1).toNat).toInt := ⟨_, rfl⟩
  have r1 : ∀ {kk : jK} {LL : List (Option jV)} {SS : List jV}, jk_iald kk LL (.inl (i + 1) :: .inr (some b) :: SS) (pu_H y κ σ g) = kk LL (.inl a1 :: SS) (pu_H y κ σ g) := fun {kk LL SS} => by rw [ea1]; exact rs (by omega) (by omega)
  obtain ⟨a2, ea2⟩ : ∃ a, a = (xs (i + 2).toNat).toInt := ⟨_, rfl⟩
  have r2 : ∀ {kk : jK} {LL : List (Option jV)} {SS : List jV}, jk_iald kk LL (.inl (i + 2) :: .inr (some b) :: SS) (pu_H y κ σ g) = kk LL (.inl a2 :: SS) (pu_H y κ σ g) := fun {kk LL SS} => by rw [ea2]; exact rs (by omega) (by omega)
  obtain ⟨y', κ', σ', g', τ', v, e1, e2, X', G⟩ := C_waiting (d := a1) (i := a2) hn X
  obtain ⟨rl', rs'⟩ := X'.scr (by omega) S κ' σ
  have s1 : ∀ {kk : jK} {LL : List (Option jV)} {SS : List jV}, jk_iald kk LL (.inl (i + 1) :: .inr (some b) :: SS) (pu_H y' κ' σ g') = kk LL (.inl a1 :: SS) (pu_H y' κ' σ g') := fun {kk LL SS} => by rw [ea1]; exact rs' (by omega) (by omega)
  have s2 : ∀ {kk : jK} {LL : List (Option jV)} {SS : List jV}, jk_iald kk LL (.inl (i + 2) :: .inr (some b) :: SS) (pu_H y' κ' σ g') = kk LL (.inl a2 :: SS) (pu_H y' κ' σ g') := fun {kk LL SS} => by rw [ea2]; exact rs' (by omega) (by omega)
  have vk : ∀ {F : jF} {kk : jK} {LL : List (Option jV)} {SS : List jV} {b1 b2 : Int}, SS.length ≤ 8 → jk_vcall [(10, F)] 2 kk LL (.inl b2 :: .inl b1 :: .inr (some (y.2 9 0)) :: SS) (pu_H y κ σ g) = jm_back kk LL SS (F [.inr (some (y.2 9 0)), .inl b1, .inl b2] (pu_H y κ σ g)) := fun {F kk LL SS b1 b2} hS => cc_k2 o9 hS
  have vm : ∀ {F : jF} {kk : jK} {LL : List (Option jV)} {SS : List jV} {b1 b2 : Int}, SS.length ≤ 8 → jk_vcall [(11, F)] 2 kk LL (.inl b2 :: .inl b1 :: .inr (some (y.2 13 0)) :: SS) (pu_H y' κ' σ g') = jm_back kk LL SS (F [.inr (some (y.2 13 0)), .inl b1, .inl b2] (pu_H y' κ' σ g')) := fun {F kk LL SS b1 b2} hS => by rw [← G.2]; exact pc_2 X'.2.2.2.2.1 hS
  rw [G.2] at e2
  refine ⟨y', κ', σ', g', τ', ?_, X', G⟩
  rw [G.1, G.2]
  rw [jk_fix_pos f1]
  simp only [kL_law_b, kL_law_18, Nat.reduceEqDiff, if_false, if_true]
  simp (disch := first | omega | assumption | (simp only [List.length_cons, List.length_nil]; omega) | decide | (simp (disch := decide) only [pu_up_ne, pu_up_at]; first | omega | assumption)) only [↓ja_int, ↓ja_null, ↓ja_iload_0, ↓ja_aload_0, ↓ja_istore_0, ↓ja_astore_0, ↓ja_kill_0, ↓ja_iinc_0, ↓ja_iload_1, ↓ja_aload_1, ↓ja_istore_1, ↓ja_astore_1, ↓ja_kill_1, ↓ja_iinc_1, ↓ja_iload_2, ↓ja_aload_2, ↓ja_istore_2, ↓ja_astore_2, ↓ja_kill_2, ↓ja_iinc_2, ↓ja_iload_3, ↓ja_aload_3, ↓ja_istore_3, ↓ja_astore_3, ↓ja_kill_3, ↓ja_iinc_3, ↓ja_iload_4, ↓ja_aload_4, ↓ja_istore_4, ↓ja_astore_4, ↓ja_kill_4, ↓ja_iinc_4, ↓ja_iload_5, ↓ja_aload_5, ↓ja_istore_5, ↓ja_astore_5, ↓ja_kill_5, ↓ja_iinc_5, ↓ja_iload_6, ↓ja_aload_6, ↓ja_istore_6, ↓ja_astore_6, ↓ja_kill_6, ↓ja_iinc_6, ↓ja_iload_7, ↓ja_aload_7, ↓ja_istore_7, ↓ja_astore_7, ↓ja_kill_7, ↓ja_iinc_7, ↓ja_iload_8, ↓ja_aload_8, ↓ja_istore_8, ↓ja_astore_8, ↓ja_kill_8, ↓ja_iinc_8, ↓ja_iload_9, ↓ja_aload_9, ↓ja_istore_9, ↓ja_astore_9, ↓ja_kill_9, ↓ja_iinc_9, ↓ja_iload_10, ↓ja_aload_10, ↓ja_istore_10, ↓ja_astore_10, ↓ja_kill_10, ↓ja_iinc_10, ↓ja_iadd, ↓ja_isub, ↓ja_imul, ↓ja_dup, ↓ja_dup2, ↓ja_i2b, ↓ja_ifeq, ↓ja_ifne, ↓ja_iflt, ↓ja_ifge, ↓ja_ifgt, ↓ja_ifle, ↓ja_icmpeq, ↓ja_icmpne, ↓ja_icmplt, ↓ja_icmpge, ↓ja_icmpgt, ↓ja_icmple, ↓ja_ifnull_n, ↓ja_ifnull_s, ↓ja_ifnonnull_n, ↓ja_ifnonnull_s, ↓ja_iret, ↓ja_aret, ↓ja_vret, ↓ja_zret0, ↓ja_zret1, ↓ja_sw, ↓ja_pe, ↓ja_pn, ↓ja_pz, ↓reduceIte, ite_self, Int.reduceEq, Int.reduceLT, Int.reduceLE, Int.reduceNeg, Int.reduceToNat, jm_wr_id, pb_none, pb_int, pb_ref, ↓rw_obj, ↓rl, ↓r0, ↓r1, ↓s1, ↓r2, ↓s2, ↓ja_and15, ho, c0, ↓vk, ↓vm, e1, e2, if_true, if_false]
  rw [jk_fix_pos f2]
  simp only [kL_law_b, kL_law_492, Nat.reduceEqDiff, if_false, if_true]
  simp (disch := first | omega | assumption | (simp only [List.length_cons, List.length_nil]; omega) | decide | (simp (disch := decide) only [pu_up_ne, pu_up_at]; first | omega | assumption)) only [↓ja_int, ↓ja_null, ↓ja_iload_0, ↓ja_aload_0, ↓ja_istore_0, ↓ja_astore_0, ↓ja_kill_0, ↓ja_iinc_0, ↓ja_iload_1, ↓ja_aload_1, ↓ja_istore_1, ↓ja_astore_1, ↓ja_kill_1, ↓ja_iinc_1, ↓ja_iload_2, ↓ja_aload_2, ↓ja_istore_2, ↓ja_astore_2, ↓ja_kill_2, ↓ja_iinc_2, ↓ja_iload_3, ↓ja_aload_3, ↓ja_istore_3, ↓ja_astore_3, ↓ja_kill_3, ↓ja_iinc_3, ↓ja_iload_4, ↓ja_aload_4, ↓ja_istore_4, ↓ja_astore_4, ↓ja_kill_4, ↓ja_iinc_4, ↓ja_iload_5, ↓ja_aload_5, ↓ja_istore_5, ↓ja_astore_5, ↓ja_kill_5, ↓ja_iinc_5, ↓ja_iload_6, ↓ja_aload_6, ↓ja_istore_6, ↓ja_astore_6, ↓ja_kill_6, ↓ja_iinc_6, ↓ja_iload_7, ↓ja_aload_7, ↓ja_istore_7, ↓ja_astore_7, ↓ja_kill_7, ↓ja_iinc_7, ↓ja_iload_8, ↓ja_aload_8, ↓ja_istore_8, ↓ja_astore_8, ↓ja_kill_8, ↓ja_iinc_8, ↓ja_iload_9, ↓ja_aload_9, ↓ja_istore_9, ↓ja_astore_9, ↓ja_kill_9, ↓ja_iinc_9, ↓ja_iload_10, ↓ja_aload_10, ↓ja_istore_10, ↓ja_astore_10, ↓ja_kill_10, ↓ja_iinc_10, ↓ja_iadd, ↓ja_isub, ↓ja_imul, ↓ja_dup, ↓ja_dup2, ↓ja_i2b, ↓ja_ifeq, ↓ja_ifne, ↓ja_iflt, ↓ja_ifge, ↓ja_ifgt, ↓ja_ifle, ↓ja_icmpeq, ↓ja_icmpne, ↓ja_icmplt, ↓ja_icmpge, ↓ja_icmpgt, ↓ja_icmple, ↓ja_ifnull_n, ↓ja_ifnull_s, ↓ja_ifnonnull_n, ↓ja_ifnonnull_s, ↓ja_iret, ↓ja_aret, ↓ja_vret, ↓ja_zret0, ↓ja_zret1, ↓ja_sw, ↓ja_pe, ↓ja_pn, ↓ja_pz, ↓reduceIte, ite_self, Int.reduceEq, Int.reduceLT, Int.reduceLE, Int.reduceNeg, Int.reduceToNat, jm_wr_id, pb_none, pb_int, pb_ref, ↓rw_obj, f3]
set_option maxHeartbeats 4000000 in
theorem L_passed {i : Int} {fuel : Nat} (hn : 20000 ≤ n) (S : jp_Start h0 b L aL aM xs) (hc : c ≤ 600) (X : XW h0 y κ σ g τ c) (hi : i = 6 * (c : Int)) (hL : i + 6 ≤ L) (hf : 2 ≤ fuel) (ho : (xs i.toNat).toInt % 16 = 10) : ∃ y' κ' σ' g' τ', jk_fix (kL_law_b n) fuel 18 [some (.inr (some b)), some (.inr (some (y.2 9 0))), some (.inr (some (y.2 13 0))), some (.inl i)] [] (pu_H y κ σ g) = jk_fix (kL_law_b n) (fuel - 2) 18 [some (.inr (some b)), some (.inr (some (y'.2 9 0))), some (.inr (some (y'.2 13 0))), some (.inl (i + 6))] [] (pu_H y' κ' σ' g') ∧ XW h0 y' κ' σ' g' τ' (c + 1) ∧ GR y y' := by
  obtain ⟨rl, rs⟩ := X.scr (by omega) S κ σ
  have r0 : ∀ {kk : jK} {LL : List (Option jV)} {SS : List jV}, jk_iald kk LL (.inl i :: .inr (some b) :: SS) (pu_H y κ σ g) = kk LL (.inl (xs i.toNat).toInt :: SS) (pu_H y κ σ g) := fun {kk LL SS} => rs (by omega) (by omega)
  have c0 : ¬ ((L : Int) - 6 < i) := by omega
  have hLL := S.1
  have f1 : 0 < fuel := by omega
  have f2 : 0 < fuel - 1 := by omega
  have f3 : fuel - 1 - 1 = fuel - 2 := by omega
  have o9 := X.1.2.1.2.1
  obtain ⟨a1, ea1⟩ : ∃ a, a = (xs (i + 1).toNat).toInt := ⟨_, rfl⟩
  have r1 : ∀ {kk : jK} {LL : List (Option jV)} {SS : List jV}, jk_iald kk LL (.inl (i + 1) :: .inr (some b) :: SS) (pu_H y κ σ g) = kk LL (.inl a1 :: SS) (pu_H y κ σ g) := fun {kk LL SS} => by rw [ea1]; exact rs (by omega) (by omega)
  obtain ⟨a2, ea2⟩ : ∃ a, a = (xs (i + 2).toNat).toInt := ⟨_, rfl⟩
  have r2 : ∀ {kk : jK} {LL : List (Option jV)} {SS : List jV}, jk_iald kk LL (.inl (i + 2) :: .inr (some b) :: SS) (pu_H y κ σ g) = kk LL (.inl a2 :: SS) (pu_H y κ σ g) := fun {kk LL SS} => by rw [ea2]; exact rs (by omega) (by omega)
  obtain ⟨y', κ', σ', g', τ', v, e1, e2, X', G⟩ := C_passed (d := a1) (i := a2) hn X
  obtain ⟨rl', rs'⟩ := X'.scr (by omega) S κ' σ
  have s1 : ∀ {kk : jK} {LL : List (Option jV)} {SS : List jV}, jk_iald kk LL (.inl (i + 1) :: .inr (some b) :: SS) (pu_H y' κ' σ g') = kk LL (.inl a1 :: SS) (pu_H y' κ' σ g') := fun {kk LL SS} => by rw [ea1]; exact rs' (by omega) (by omega)
  have s2 : ∀ {kk : jK} {LL : List (Option jV)} {SS : List jV}, jk_iald kk LL (.inl (i + 2) :: .inr (some b) :: SS) (pu_H y' κ' σ g') = kk LL (.inl a2 :: SS) (pu_H y' κ' σ g') := fun {kk LL SS} => by rw [ea2]; exact rs' (by omega) (by omega)
  have vk : ∀ {F : jF} {kk : jK} {LL : List (Option jV)} {SS : List jV} {b1 b2 : Int}, SS.length ≤ 8 → jk_vcall [(10, F)] 2 kk LL (.inl b2 :: .inl b1 :: .inr (some (y.2 9 0)) :: SS) (pu_H y κ σ g) = jm_back kk LL SS (F [.inr (some (y.2 9 0)), .inl b1, .inl b2] (pu_H y κ σ g)) := fun {F kk LL SS b1 b2} hS => cc_k2 o9 hS
  have vm : ∀ {F : jF} {kk : jK} {LL : List (Option jV)} {SS : List jV} {b1 b2 : Int}, SS.length ≤ 8 → jk_vcall [(11, F)] 2 kk LL (.inl b2 :: .inl b1 :: .inr (some (y.2 13 0)) :: SS) (pu_H y' κ' σ g') = jm_back kk LL SS (F [.inr (some (y.2 13 0)), .inl b1, .inl b2] (pu_H y' κ' σ g')) := fun {F kk LL SS b1 b2} hS => by rw [← G.2]; exact pc_2 X'.2.2.2.2.1 hS
  rw [G.2] at e2
  refine ⟨y', κ', σ', g', τ', ?_, X', G⟩
  rw [G.1, G.2]
  rw [jk_fix_pos f1]
  simp only [kL_law_b, kL_law_18, Nat.reduceEqDiff, if_false, if_true]
  simp (disch := first | omega | assumption | (simp only [List.length_cons, List.length_nil]; omega) | decide | (simp (disch := decide) only [pu_up_ne, pu_up_at]; first | omega | assumption)) only [↓ja_int, ↓ja_null, ↓ja_iload_0, ↓ja_aload_0, ↓ja_istore_0, ↓ja_astore_0, ↓ja_kill_0, ↓ja_iinc_0, ↓ja_iload_1, ↓ja_aload_1, ↓ja_istore_1, ↓ja_astore_1, ↓ja_kill_1, ↓ja_iinc_1, ↓ja_iload_2, ↓ja_aload_2, ↓ja_istore_2, ↓ja_astore_2, ↓ja_kill_2, ↓ja_iinc_2, ↓ja_iload_3, ↓ja_aload_3, ↓ja_istore_3, ↓ja_astore_3, ↓ja_kill_3, ↓ja_iinc_3, ↓ja_iload_4, ↓ja_aload_4, ↓ja_istore_4, ↓ja_astore_4, ↓ja_kill_4, ↓ja_iinc_4, ↓ja_iload_5, ↓ja_aload_5, ↓ja_istore_5, ↓ja_astore_5, ↓ja_kill_5, ↓ja_iinc_5, ↓ja_iload_6, ↓ja_aload_6, ↓ja_istore_6, ↓ja_astore_6, ↓ja_kill_6, ↓ja_iinc_6, ↓ja_iload_7, ↓ja_aload_7, ↓ja_istore_7, ↓ja_astore_7, ↓ja_kill_7, ↓ja_iinc_7, ↓ja_iload_8, ↓ja_aload_8, ↓ja_istore_8, ↓ja_astore_8, ↓ja_kill_8, ↓ja_iinc_8, ↓ja_iload_9, ↓ja_aload_9, ↓ja_istore_9, ↓ja_astore_9, ↓ja_kill_9, ↓ja_iinc_9, ↓ja_iload_10, ↓ja_aload_10, ↓ja_istore_10, ↓ja_astore_10, ↓ja_kill_10, ↓ja_iinc_10, ↓ja_iadd, ↓ja_isub, ↓ja_imul, ↓ja_dup, ↓ja_dup2, ↓ja_i2b, ↓ja_ifeq, ↓ja_ifne, ↓ja_iflt, ↓ja_ifge, ↓ja_ifgt, ↓ja_ifle, ↓ja_icmpeq, ↓ja_icmpne, ↓ja_icmplt, ↓ja_icmpge, ↓ja_icmpgt, ↓ja_icmple, ↓ja_ifnull_n, ↓ja_ifnull_s, ↓ja_ifnonnull_n, ↓ja_ifnonnull_s, ↓ja_iret, ↓ja_aret, ↓ja_vret, ↓ja_zret0, ↓ja_zret1, ↓ja_sw, ↓ja_pe, ↓ja_pn, ↓ja_pz, ↓reduceIte, ite_self, Int.reduceEq, Int.reduceLT, Int.reduceLE, Int.reduceNeg, Int.reduceToNat, jm_wr_id, pb_none, pb_int, pb_ref, ↓rw_obj, ↓rl, ↓r0, ↓r1, ↓s1, ↓r2, ↓s2, ↓ja_and15, ho, c0, ↓vk, ↓vm, e1, e2, if_true, if_false]
  rw [jk_fix_pos f2]
  simp only [kL_law_b, kL_law_492, Nat.reduceEqDiff, if_false, if_true]
  simp (disch := first | omega | assumption | (simp only [List.length_cons, List.length_nil]; omega) | decide | (simp (disch := decide) only [pu_up_ne, pu_up_at]; first | omega | assumption)) only [↓ja_int, ↓ja_null, ↓ja_iload_0, ↓ja_aload_0, ↓ja_istore_0, ↓ja_astore_0, ↓ja_kill_0, ↓ja_iinc_0, ↓ja_iload_1, ↓ja_aload_1, ↓ja_istore_1, ↓ja_astore_1, ↓ja_kill_1, ↓ja_iinc_1, ↓ja_iload_2, ↓ja_aload_2, ↓ja_istore_2, ↓ja_astore_2, ↓ja_kill_2, ↓ja_iinc_2, ↓ja_iload_3, ↓ja_aload_3, ↓ja_istore_3, ↓ja_astore_3, ↓ja_kill_3, ↓ja_iinc_3, ↓ja_iload_4, ↓ja_aload_4, ↓ja_istore_4, ↓ja_astore_4, ↓ja_kill_4, ↓ja_iinc_4, ↓ja_iload_5, ↓ja_aload_5, ↓ja_istore_5, ↓ja_astore_5, ↓ja_kill_5, ↓ja_iinc_5, ↓ja_iload_6, ↓ja_aload_6, ↓ja_istore_6, ↓ja_astore_6, ↓ja_kill_6, ↓ja_iinc_6, ↓ja_iload_7, ↓ja_aload_7, ↓ja_istore_7, ↓ja_astore_7, ↓ja_kill_7, ↓ja_iinc_7, ↓ja_iload_8, ↓ja_aload_8, ↓ja_istore_8, ↓ja_astore_8, ↓ja_kill_8, ↓ja_iinc_8, ↓ja_iload_9, ↓ja_aload_9, ↓ja_istore_9, ↓ja_astore_9, ↓ja_kill_9, ↓ja_iinc_9, ↓ja_iload_10, ↓ja_aload_10, ↓ja_istore_10, ↓ja_astore_10, ↓ja_kill_10, ↓ja_iinc_10, ↓ja_iadd, ↓ja_isub, ↓ja_imul, ↓ja_dup, ↓ja_dup2, ↓ja_i2b, ↓ja_ifeq, ↓ja_ifne, ↓ja_iflt, ↓ja_ifge, ↓ja_ifgt, ↓ja_ifle, ↓ja_icmpeq, ↓ja_icmpne, ↓ja_icmplt, ↓ja_icmpge, ↓ja_icmpgt, ↓ja_icmple, ↓ja_ifnull_n, ↓ja_ifnull_s, ↓ja_ifnonnull_n, ↓ja_ifnonnull_s, ↓ja_iret, ↓ja_aret, ↓ja_vret, ↓ja_zret0, ↓ja_zret1, ↓ja_sw, ↓ja_pe, ↓ja_pn, ↓ja_pz, ↓reduceIte, ite_self, Int.reduceEq, Int.reduceLT, Int.reduceLE, Int.reduceNeg, Int.reduceToNat, jm_wr_id, pb_none, pb_int, pb_ref, ↓rw_obj, f3]
set_option maxHeartbeats 4000000 in
theorem L_stuck {i : Int} {fuel : Nat} (hn : 20000 ≤ n) (S : jp_Start h0 b L aL aM xs) (hc : c ≤ 600) (X : XW h0 y κ σ g τ c) (hi : i = 6 * (c : Int)) (hL : i + 6 ≤ L) (hf : 2 ≤ fuel) (ho : (xs i.toNat).toInt % 16 = 11) : ∃ y' κ' σ' g' τ', jk_fix (kL_law_b n) fuel 18 [some (.inr (some b)), some (.inr (some (y.2 9 0))), some (.inr (some (y.2 13 0))), some (.inl i)] [] (pu_H y κ σ g) = jk_fix (kL_law_b n) (fuel - 2) 18 [some (.inr (some b)), some (.inr (some (y'.2 9 0))), some (.inr (some (y'.2 13 0))), some (.inl (i + 6))] [] (pu_H y' κ' σ' g') ∧ XW h0 y' κ' σ' g' τ' (c + 1) ∧ GR y y' := by
  obtain ⟨rl, rs⟩ := X.scr (by omega) S κ σ
  have r0 : ∀ {kk : jK} {LL : List (Option jV)} {SS : List jV}, jk_iald kk LL (.inl i :: .inr (some b) :: SS) (pu_H y κ σ g) = kk LL (.inl (xs i.toNat).toInt :: SS) (pu_H y κ σ g) := fun {kk LL SS} => rs (by omega) (by omega)
  have c0 : ¬ ((L : Int) - 6 < i) := by omega
  have hLL := S.1
  have f1 : 0 < fuel := by omega
  have f2 : 0 < fuel - 1 := by omega
  have f3 : fuel - 1 - 1 = fuel - 2 := by omega
  have o9 := X.1.2.1.2.1
  obtain ⟨a1, ea1⟩ : ∃ a, a = (xs (i + 1).toNat).toInt := ⟨_, rfl⟩
  have r1 : ∀ {kk : jK} {LL : List (Option jV)} {SS : List jV}, jk_iald kk LL (.inl (i + 1) :: .inr (some b) :: SS) (pu_H y κ σ g) = kk LL (.inl a1 :: SS) (pu_H y κ σ g) := fun {kk LL SS} => by rw [ea1]; exact rs (by omega) (by omega)
  obtain ⟨y', κ', σ', g', τ', v, e1, e2, X', G⟩ := C_stuck (i := a1) hn (by rw [ea1]; have := Int32.toInt_lt (xs (i + 1).toNat); omega) X
  obtain ⟨rl', rs'⟩ := X'.scr (by omega) S κ' σ
  have s1 : ∀ {kk : jK} {LL : List (Option jV)} {SS : List jV}, jk_iald kk LL (.inl (i + 1) :: .inr (some b) :: SS) (pu_H y' κ' σ g') = kk LL (.inl a1 :: SS) (pu_H y' κ' σ g') := fun {kk LL SS} => by rw [ea1]; exact rs' (by omega) (by omega)
  have vk : ∀ {F : jF} {kk : jK} {LL : List (Option jV)} {SS : List jV} {b1 : Int}, SS.length ≤ 8 → jk_vcall [(10, F)] 1 kk LL (.inl b1 :: .inr (some (y.2 9 0)) :: SS) (pu_H y κ σ g) = jm_back kk LL SS (F [.inr (some (y.2 9 0)), .inl b1] (pu_H y κ σ g)) := fun {F kk LL SS b1} hS => cc_k1 o9 hS
  have vm : ∀ {F : jF} {kk : jK} {LL : List (Option jV)} {SS : List jV} {b1 : Int}, SS.length ≤ 8 → jk_vcall [(11, F)] 1 kk LL (.inl b1 :: .inr (some (y.2 13 0)) :: SS) (pu_H y' κ' σ g') = jm_back kk LL SS (F [.inr (some (y.2 13 0)), .inl b1] (pu_H y' κ' σ g')) := fun {F kk LL SS b1} hS => by rw [← G.2]; exact pc_1 X'.2.2.2.2.1 hS
  rw [G.2] at e2
  refine ⟨y', κ', σ', g', τ', ?_, X', G⟩
  rw [G.1, G.2]
  rw [jk_fix_pos f1]
  simp only [kL_law_b, kL_law_18, Nat.reduceEqDiff, if_false, if_true]
  simp (disch := first | omega | assumption | (simp only [List.length_cons, List.length_nil]; omega) | decide | (simp (disch := decide) only [pu_up_ne, pu_up_at]; first | omega | assumption)) only [↓ja_int, ↓ja_null, ↓ja_iload_0, ↓ja_aload_0, ↓ja_istore_0, ↓ja_astore_0, ↓ja_kill_0, ↓ja_iinc_0, ↓ja_iload_1, ↓ja_aload_1, ↓ja_istore_1, ↓ja_astore_1, ↓ja_kill_1, ↓ja_iinc_1, ↓ja_iload_2, ↓ja_aload_2, ↓ja_istore_2, ↓ja_astore_2, ↓ja_kill_2, ↓ja_iinc_2, ↓ja_iload_3, ↓ja_aload_3, ↓ja_istore_3, ↓ja_astore_3, ↓ja_kill_3, ↓ja_iinc_3, ↓ja_iload_4, ↓ja_aload_4, ↓ja_istore_4, ↓ja_astore_4, ↓ja_kill_4, ↓ja_iinc_4, ↓ja_iload_5, ↓ja_aload_5, ↓ja_istore_5, ↓ja_astore_5, ↓ja_kill_5, ↓ja_iinc_5, ↓ja_iload_6, ↓ja_aload_6, ↓ja_istore_6, ↓ja_astore_6, ↓ja_kill_6, ↓ja_iinc_6, ↓ja_iload_7, ↓ja_aload_7, ↓ja_istore_7, ↓ja_astore_7, ↓ja_kill_7, ↓ja_iinc_7, ↓ja_iload_8, ↓ja_aload_8, ↓ja_istore_8, ↓ja_astore_8, ↓ja_kill_8, ↓ja_iinc_8, ↓ja_iload_9, ↓ja_aload_9, ↓ja_istore_9, ↓ja_astore_9, ↓ja_kill_9, ↓ja_iinc_9, ↓ja_iload_10, ↓ja_aload_10, ↓ja_istore_10, ↓ja_astore_10, ↓ja_kill_10, ↓ja_iinc_10, ↓ja_iadd, ↓ja_isub, ↓ja_imul, ↓ja_dup, ↓ja_dup2, ↓ja_i2b, ↓ja_ifeq, ↓ja_ifne, ↓ja_iflt, ↓ja_ifge, ↓ja_ifgt, ↓ja_ifle, ↓ja_icmpeq, ↓ja_icmpne, ↓ja_icmplt, ↓ja_icmpge, ↓ja_icmpgt, ↓ja_icmple, ↓ja_ifnull_n, ↓ja_ifnull_s, ↓ja_ifnonnull_n, ↓ja_ifnonnull_s, ↓ja_iret, ↓ja_aret, ↓ja_vret, ↓ja_zret0, ↓ja_zret1, ↓ja_sw, ↓ja_pe, ↓ja_pn, ↓ja_pz, ↓reduceIte, ite_self, Int.reduceEq, Int.reduceLT, Int.reduceLE, Int.reduceNeg, Int.reduceToNat, jm_wr_id, pb_none, pb_int, pb_ref, ↓rw_obj, ↓rl, ↓r0, ↓r1, ↓s1, ↓ja_and15, ho, c0, ↓vk, ↓vm, e1, e2, if_true, if_false]
  rw [jk_fix_pos f2]
  simp only [kL_law_b, kL_law_492, Nat.reduceEqDiff, if_false, if_true]
  simp (disch := first | omega | assumption | (simp only [List.length_cons, List.length_nil]; omega) | decide | (simp (disch := decide) only [pu_up_ne, pu_up_at]; first | omega | assumption)) only [↓ja_int, ↓ja_null, ↓ja_iload_0, ↓ja_aload_0, ↓ja_istore_0, ↓ja_astore_0, ↓ja_kill_0, ↓ja_iinc_0, ↓ja_iload_1, ↓ja_aload_1, ↓ja_istore_1, ↓ja_astore_1, ↓ja_kill_1, ↓ja_iinc_1, ↓ja_iload_2, ↓ja_aload_2, ↓ja_istore_2, ↓ja_astore_2, ↓ja_kill_2, ↓ja_iinc_2, ↓ja_iload_3, ↓ja_aload_3, ↓ja_istore_3, ↓ja_astore_3, ↓ja_kill_3, ↓ja_iinc_3, ↓ja_iload_4, ↓ja_aload_4, ↓ja_istore_4, ↓ja_astore_4, ↓ja_kill_4, ↓ja_iinc_4, ↓ja_iload_5, ↓ja_aload_5, ↓ja_istore_5, ↓ja_astore_5, ↓ja_kill_5, ↓ja_iinc_5, ↓ja_iload_6, ↓ja_aload_6, ↓ja_istore_6, ↓ja_astore_6, ↓ja_kill_6, ↓ja_iinc_6, ↓ja_iload_7, ↓ja_aload_7, ↓ja_istore_7, ↓ja_astore_7, ↓ja_kill_7, ↓ja_iinc_7, ↓ja_iload_8, ↓ja_aload_8, ↓ja_istore_8, ↓ja_astore_8, ↓ja_kill_8, ↓ja_iinc_8, ↓ja_iload_9, ↓ja_aload_9, ↓ja_istore_9, ↓ja_astore_9, ↓ja_kill_9, ↓ja_iinc_9, ↓ja_iload_10, ↓ja_aload_10, ↓ja_istore_10, ↓ja_astore_10, ↓ja_kill_10, ↓ja_iinc_10, ↓ja_iadd, ↓ja_isub, ↓ja_imul, ↓ja_dup, ↓ja_dup2, ↓ja_i2b, ↓ja_ifeq, ↓ja_ifne, ↓ja_iflt, ↓ja_ifge, ↓ja_ifgt, ↓ja_ifle, ↓ja_icmpeq, ↓ja_icmpne, ↓ja_icmplt, ↓ja_icmpge, ↓ja_icmpgt, ↓ja_icmple, ↓ja_ifnull_n, ↓ja_ifnull_s, ↓ja_ifnonnull_n, ↓ja_ifnonnull_s, ↓ja_iret, ↓ja_aret, ↓ja_vret, ↓ja_zret0, ↓ja_zret1, ↓ja_sw, ↓ja_pe, ↓ja_pn, ↓ja_pz, ↓reduceIte, ite_self, Int.reduceEq, Int.reduceLT, Int.reduceLE, Int.reduceNeg, Int.reduceToNat, jm_wr_id, pb_none, pb_int, pb_ref, ↓rw_obj, f3]
set_option maxHeartbeats 4000000 in
theorem L_none {i : Int} {fuel : Nat} (hn : 20000 ≤ n) (S : jp_Start h0 b L aL aM xs) (hc : c ≤ 600) (X : XW h0 y κ σ g τ c) (hi : i = 6 * (c : Int)) (hL : i + 6 ≤ L) (hf : 2 ≤ fuel) (ho : 12 ≤ (xs i.toNat).toInt % 16) : ∃ y' κ' σ' g' τ', jk_fix (kL_law_b n) fuel 18 [some (.inr (some b)), some (.inr (some (y.2 9 0))), some (.inr (some (y.2 13 0))), some (.inl i)] [] (pu_H y κ σ g) = jk_fix (kL_law_b n) (fuel - 2) 18 [some (.inr (some b)), some (.inr (some (y'.2 9 0))), some (.inr (some (y'.2 13 0))), some (.inl (i + 6))] [] (pu_H y' κ' σ' g') ∧ XW h0 y' κ' σ' g' τ' (c + 1) ∧ GR y y' := by
  obtain ⟨rl, rs⟩ := X.scr (by omega) S κ σ
  have r0 : ∀ {kk : jK} {LL : List (Option jV)} {SS : List jV}, jk_iald kk LL (.inl i :: .inr (some b) :: SS) (pu_H y κ σ g) = kk LL (.inl (xs i.toNat).toInt :: SS) (pu_H y κ σ g) := fun {kk LL SS} => rs (by omega) (by omega)
  have c0 : ¬ ((L : Int) - 6 < i) := by omega
  have hLL := S.1
  have f1 : 0 < fuel := by omega
  have f2 : 0 < fuel - 1 := by omega
  have f3 : fuel - 1 - 1 = fuel - 2 := by omega
  refine ⟨y, κ, σ, g, τ, ?_, X.up, GR.rf⟩
  obtain ⟨x, ex⟩ : ∃ x, x = (xs i.toNat).toInt % 16 := ⟨_, rfl⟩
  rw [← ex] at ho
  have n0 : x ≠ 0 := by omega
  have n1 : x ≠ 1 := by omega
  have n2 : x ≠ 2 := by omega
  have n3 : x ≠ 3 := by omega
  have n4 : x ≠ 4 := by omega
  have n5 : x ≠ 5 := by omega
  have n6 : x ≠ 6 := by omega
  have n7 : x ≠ 7 := by omega
  have n8 : x ≠ 8 := by omega
  have n9 : x ≠ 9 := by omega
  have n10 : x ≠ 10 := by omega
  have n11 : x ≠ 11 := by omega
  rw [jk_fix_pos f1]
  simp only [kL_law_b, kL_law_18, Nat.reduceEqDiff, if_false, if_true]
  simp (disch := first | omega | assumption | (simp only [List.length_cons, List.length_nil]; omega) | decide | (simp (disch := decide) only [pu_up_ne, pu_up_at]; first | omega | assumption)) only [↓ja_int, ↓ja_null, ↓ja_iload_0, ↓ja_aload_0, ↓ja_istore_0, ↓ja_astore_0, ↓ja_kill_0, ↓ja_iinc_0, ↓ja_iload_1, ↓ja_aload_1, ↓ja_istore_1, ↓ja_astore_1, ↓ja_kill_1, ↓ja_iinc_1, ↓ja_iload_2, ↓ja_aload_2, ↓ja_istore_2, ↓ja_astore_2, ↓ja_kill_2, ↓ja_iinc_2, ↓ja_iload_3, ↓ja_aload_3, ↓ja_istore_3, ↓ja_astore_3, ↓ja_kill_3, ↓ja_iinc_3, ↓ja_iload_4, ↓ja_aload_4, ↓ja_istore_4, ↓ja_astore_4, ↓ja_kill_4, ↓ja_iinc_4, ↓ja_iload_5, ↓ja_aload_5, ↓ja_istore_5, ↓ja_astore_5, ↓ja_kill_5, ↓ja_iinc_5, ↓ja_iload_6, ↓ja_aload_6, ↓ja_istore_6, ↓ja_astore_6, ↓ja_kill_6, ↓ja_iinc_6, ↓ja_iload_7, ↓ja_aload_7, ↓ja_istore_7, ↓ja_astore_7, ↓ja_kill_7, ↓ja_iinc_7, ↓ja_iload_8, ↓ja_aload_8, ↓ja_istore_8, ↓ja_astore_8, ↓ja_kill_8, ↓ja_iinc_8, ↓ja_iload_9, ↓ja_aload_9, ↓ja_istore_9, ↓ja_astore_9, ↓ja_kill_9, ↓ja_iinc_9, ↓ja_iload_10, ↓ja_aload_10, ↓ja_istore_10, ↓ja_astore_10, ↓ja_kill_10, ↓ja_iinc_10, ↓ja_iadd, ↓ja_isub, ↓ja_imul, ↓ja_dup, ↓ja_dup2, ↓ja_i2b, ↓ja_ifeq, ↓ja_ifne, ↓ja_iflt, ↓ja_ifge, ↓ja_ifgt, ↓ja_ifle, ↓ja_icmpeq, ↓ja_icmpne, ↓ja_icmplt, ↓ja_icmpge, ↓ja_icmpgt, ↓ja_icmple, ↓ja_ifnull_n, ↓ja_ifnull_s, ↓ja_ifnonnull_n, ↓ja_ifnonnull_s, ↓ja_iret, ↓ja_aret, ↓ja_vret, ↓ja_zret0, ↓ja_zret1, ↓ja_sw, ↓ja_pe, ↓ja_pn, ↓ja_pz, ↓reduceIte, ite_self, Int.reduceEq, Int.reduceLT, Int.reduceLE, Int.reduceNeg, Int.reduceToNat, jm_wr_id, pb_none, pb_int, pb_ref, ↓rw_obj, ↓rl, ↓r0, ↓ja_and15, ← ex, c0, if_true, if_false]
  rw [jk_fix_pos f2]
  simp only [kL_law_b, kL_law_492, Nat.reduceEqDiff, if_false, if_true]
  simp (disch := first | omega | assumption | (simp only [List.length_cons, List.length_nil]; omega) | decide | (simp (disch := decide) only [pu_up_ne, pu_up_at]; first | omega | assumption)) only [↓ja_int, ↓ja_null, ↓ja_iload_0, ↓ja_aload_0, ↓ja_istore_0, ↓ja_astore_0, ↓ja_kill_0, ↓ja_iinc_0, ↓ja_iload_1, ↓ja_aload_1, ↓ja_istore_1, ↓ja_astore_1, ↓ja_kill_1, ↓ja_iinc_1, ↓ja_iload_2, ↓ja_aload_2, ↓ja_istore_2, ↓ja_astore_2, ↓ja_kill_2, ↓ja_iinc_2, ↓ja_iload_3, ↓ja_aload_3, ↓ja_istore_3, ↓ja_astore_3, ↓ja_kill_3, ↓ja_iinc_3, ↓ja_iload_4, ↓ja_aload_4, ↓ja_istore_4, ↓ja_astore_4, ↓ja_kill_4, ↓ja_iinc_4, ↓ja_iload_5, ↓ja_aload_5, ↓ja_istore_5, ↓ja_astore_5, ↓ja_kill_5, ↓ja_iinc_5, ↓ja_iload_6, ↓ja_aload_6, ↓ja_istore_6, ↓ja_astore_6, ↓ja_kill_6, ↓ja_iinc_6, ↓ja_iload_7, ↓ja_aload_7, ↓ja_istore_7, ↓ja_astore_7, ↓ja_kill_7, ↓ja_iinc_7, ↓ja_iload_8, ↓ja_aload_8, ↓ja_istore_8, ↓ja_astore_8, ↓ja_kill_8, ↓ja_iinc_8, ↓ja_iload_9, ↓ja_aload_9, ↓ja_istore_9, ↓ja_astore_9, ↓ja_kill_9, ↓ja_iinc_9, ↓ja_iload_10, ↓ja_aload_10, ↓ja_istore_10, ↓ja_astore_10, ↓ja_kill_10, ↓ja_iinc_10, ↓ja_iadd, ↓ja_isub, ↓ja_imul, ↓ja_dup, ↓ja_dup2, ↓ja_i2b, ↓ja_ifeq, ↓ja_ifne, ↓ja_iflt, ↓ja_ifge, ↓ja_ifgt, ↓ja_ifle, ↓ja_icmpeq, ↓ja_icmpne, ↓ja_icmplt, ↓ja_icmpge, ↓ja_icmpgt, ↓ja_icmple, ↓ja_ifnull_n, ↓ja_ifnull_s, ↓ja_ifnonnull_n, ↓ja_ifnonnull_s, ↓ja_iret, ↓ja_aret, ↓ja_vret, ↓ja_zret0, ↓ja_zret1, ↓ja_sw, ↓ja_pe, ↓ja_pn, ↓ja_pz, ↓reduceIte, ite_self, Int.reduceEq, Int.reduceLT, Int.reduceLE, Int.reduceNeg, Int.reduceToNat, jm_wr_id, pb_none, pb_int, pb_ref, ↓rw_obj, f3]
theorem L_any {i : Int} {fuel : Nat} (hn : 20000 ≤ n) (S : jp_Start h0 b L aL aM xs) (hc : c ≤ 600) (X : XW h0 y κ σ g τ c) (hi : i = 6 * (c : Int)) (hL : i + 6 ≤ L) (hf : 2 ≤ fuel) : ∃ y' κ' σ' g' τ', jk_fix (kL_law_b n) fuel 18 [some (.inr (some b)), some (.inr (some (y.2 9 0))), some (.inr (some (y.2 13 0))), some (.inl i)] [] (pu_H y κ σ g) = jk_fix (kL_law_b n) (fuel - 2) 18 [some (.inr (some b)), some (.inr (some (y'.2 9 0))), some (.inr (some (y'.2 13 0))), some (.inl (i + 6))] [] (pu_H y' κ' σ' g') ∧ XW h0 y' κ' σ' g' τ' (c + 1) ∧ GR y y' := by
  have h16 : 0 ≤ (xs i.toNat).toInt % 16 ∧ (xs i.toNat).toInt % 16 < 16 := ⟨Int.emod_nonneg _ (by decide), Int.emod_lt_of_pos _ (by decide)⟩
  by_cases o0 : (xs i.toNat).toInt % 16 = 0
  · exact L_device hn S hc X hi hL hf o0
  by_cases o1 : (xs i.toNat).toInt % 16 = 1
  · exact L_thread hn S hc X hi hL hf o1
  by_cases o2 : (xs i.toNat).toInt % 16 = 2
  · exact L_step hn S hc X hi hL hf o2
  by_cases o3 : (xs i.toNat).toInt % 16 = 3
  · exact L_interrupt hn S hc X hi hL hf o3
  by_cases o4 : (xs i.toNat).toInt % 16 = 4
  · exact L_close hn S hc X hi hL hf o4
  by_cases o5 : (xs i.toNat).toInt % 16 = 5
  · exact L_run hn S hc X hi hL hf o5
  by_cases o6 : (xs i.toNat).toInt % 16 = 6
  · exact L_tell hn S hc X hi hL hf o6
  by_cases o7 : (xs i.toNat).toInt % 16 = 7
  · exact L_outcome hn S hc X hi hL hf o7
  by_cases o8 : (xs i.toNat).toInt % 16 = 8
  · exact L_state hn S hc X hi hL hf o8
  by_cases o9 : (xs i.toNat).toInt % 16 = 9
  · exact L_waiting hn S hc X hi hL hf o9
  by_cases o10 : (xs i.toNat).toInt % 16 = 10
  · exact L_passed hn S hc X hi hL hf o10
  by_cases o11 : (xs i.toNat).toInt % 16 = 11
  · exact L_stuck hn S hc X hi hL hf o11
  exact L_none hn S hc X hi hL hf (by omega)
set_option maxHeartbeats 4000000 in
theorem L_loop (hn : 20000 ≤ n) (S : jp_Start h0 b L aL aM xs) : ∀ (k fuel c : Nat) (i : Int) (y : jLay) (κ σ : aS) (g : jH) (τ : bS), XW h0 y κ σ g τ c → i = 6 * (c : Int) → c + k = L / 6 → 2 * k + 1 ≤ fuel → ∃ h' : jH, jk_fix (kL_law_b n) fuel 18 [some (.inr (some b)), some (.inr (some (y.2 9 0))), some (.inr (some (y.2 13 0))), some (.inl i)] [] (pu_H y κ σ g) = some (some (.inl 1), h') ∧ h'.2.1 ≤ h0.2.1 + 600000 ∧ h'.2.2 ≤ h0.2.2 + 7302250 := by
  have hLL := S.1
  intro k
  induction k with
  | zero =>
    intro fuel c i y κ σ g τ X hi hk hf
    obtain ⟨rl, rs⟩ := X.scr (by omega) S κ σ
    have c0 : (L : Int) - 6 < i := by omega
    obtain ⟨a1, a2, a3, a4, a5, a6, a7, a8, a9, a10⟩ := X
    refine ⟨pu_H y κ σ g, ?_, ?_, ?_⟩
    · rw [jk_fix_pos (by omega)]
      simp only [kL_law_b, kL_law_18, Nat.reduceEqDiff, if_false, if_true]
      simp (disch := first | omega | assumption | (simp only [List.length_cons, List.length_nil]; omega) | decide | (simp (disch := decide) only [pu_up_ne, pu_up_at]; first | omega | assumption)) only [↓ja_int, ↓ja_null, ↓ja_iload_0, ↓ja_aload_0, ↓ja_istore_0, ↓ja_astore_0, ↓ja_kill_0, ↓ja_iinc_0, ↓ja_iload_1, ↓ja_aload_1, ↓ja_istore_1, ↓ja_astore_1, ↓ja_kill_1, ↓ja_iinc_1, ↓ja_iload_2, ↓ja_aload_2, ↓ja_istore_2, ↓ja_astore_2, ↓ja_kill_2, ↓ja_iinc_2, ↓ja_iload_3, ↓ja_aload_3, ↓ja_istore_3, ↓ja_astore_3, ↓ja_kill_3, ↓ja_iinc_3, ↓ja_iload_4, ↓ja_aload_4, ↓ja_istore_4, ↓ja_astore_4, ↓ja_kill_4, ↓ja_iinc_4, ↓ja_iload_5, ↓ja_aload_5, ↓ja_istore_5, ↓ja_astore_5, ↓ja_kill_5, ↓ja_iinc_5, ↓ja_iload_6, ↓ja_aload_6, ↓ja_istore_6, ↓ja_astore_6, ↓ja_kill_6, ↓ja_iinc_6, ↓ja_iload_7, ↓ja_aload_7, ↓ja_istore_7, ↓ja_astore_7, ↓ja_kill_7, ↓ja_iinc_7, ↓ja_iload_8, ↓ja_aload_8, ↓ja_istore_8, ↓ja_astore_8, ↓ja_kill_8, ↓ja_iinc_8, ↓ja_iload_9, ↓ja_aload_9, ↓ja_istore_9, ↓ja_astore_9, ↓ja_kill_9, ↓ja_iinc_9, ↓ja_iload_10, ↓ja_aload_10, ↓ja_istore_10, ↓ja_astore_10, ↓ja_kill_10, ↓ja_iinc_10, ↓ja_iadd, ↓ja_isub, ↓ja_imul, ↓ja_dup, ↓ja_dup2, ↓ja_i2b, ↓ja_ifeq, ↓ja_ifne, ↓ja_iflt, ↓ja_ifge, ↓ja_ifgt, ↓ja_ifle, ↓ja_icmpeq, ↓ja_icmpne, ↓ja_icmplt, ↓ja_icmpge, ↓ja_icmpgt, ↓ja_icmple, ↓ja_ifnull_n, ↓ja_ifnull_s, ↓ja_ifnonnull_n, ↓ja_ifnonnull_s, ↓ja_iret, ↓ja_aret, ↓ja_vret, ↓ja_zret0, ↓ja_zret1, ↓ja_sw, ↓ja_pe, ↓ja_pn, ↓ja_pz, ↓reduceIte, ite_self, Int.reduceEq, Int.reduceLT, Int.reduceLE, Int.reduceNeg, Int.reduceToNat, jm_wr_id, pb_none, pb_int, pb_ref, ↓rw_obj, ↓rl, c0, if_true, if_false]
    · show g.2.1 ≤ _
      have : c ≤ 512 := by omega
      exact Nat.le_trans a9 (by omega)
    · show g.2.2 ≤ _
      have c5 : c ≤ 512 := by omega
      have : 400 * c ≤ 400 * 512 := Nat.mul_le_mul_left 400 c5
      exact Nat.le_trans a10 (Nat.le_trans (Nat.add_le_add_left this _) (by rw [Nat.add_assoc]; exact Nat.add_le_add_left (by decide) _))
  | succ k ih =>
    intro fuel c i y κ σ g τ X hi hk hf
    obtain ⟨y', κ', σ', g', τ', e, X', G⟩ := L_any (fuel := fuel) hn S (by omega) X hi (by omega) (by omega)
    rw [e]
    exact ih (fuel - 2) (c + 1) (i + 6) y' κ' σ' g' τ' X' (by omega) (by omega) (by omega)
end LAW
