section JA2
variable {k kt kf : jK} {L : List (Option jV)} {S : List jV} {h : jH} {v x y z n : Int} {u w : jV} {r : Option Nat} {a : Nat} {l0 : Option jV} {l1 : Option jV} {l2 : Option jV} {l3 : Option jV} {l4 : Option jV} {l5 : Option jV} {l6 : Option jV} {l7 : Option jV} {l8 : Option jV} {l9 : Option jV} {l10 : Option jV}
theorem ja_int : jk_int n k L S h = k L (.inl n :: S) h := rfl
theorem ja_null : jk_null k L S h = k L (.inr none :: S) h := rfl
theorem ja_iload_0 : jk_iload 0 k (some (.inl v) :: L) S h = k (some (.inl v) :: L) (.inl v :: S) h := rfl
theorem ja_aload_0 : jk_aload 0 k (some (.inr r) :: L) S h = k (some (.inr r) :: L) (.inr r :: S) h := rfl
theorem ja_istore_0 : jk_istore 0 k (l0 :: L) (.inl v :: S) h = k (some (.inl v) :: L) S h := rfl
theorem ja_astore_0 : jk_astore 0 k (l0 :: L) (.inr r :: S) h = k (some (.inr r) :: L) S h := rfl
theorem ja_kill_0 : jk_kill 0 k (l0 :: L) S h = k (none :: L) S h := rfl
theorem ja_iinc_0 : jk_iinc 0 n k (some (.inl v) :: L) S h = k (some (.inl (jm_wr (v + n))) :: L) S h := rfl
theorem ja_iload_1 : jk_iload 1 k (l0 :: some (.inl v) :: L) S h = k (l0 :: some (.inl v) :: L) (.inl v :: S) h := rfl
theorem ja_aload_1 : jk_aload 1 k (l0 :: some (.inr r) :: L) S h = k (l0 :: some (.inr r) :: L) (.inr r :: S) h := rfl
theorem ja_istore_1 : jk_istore 1 k (l0 :: l1 :: L) (.inl v :: S) h = k (l0 :: some (.inl v) :: L) S h := rfl
theorem ja_astore_1 : jk_astore 1 k (l0 :: l1 :: L) (.inr r :: S) h = k (l0 :: some (.inr r) :: L) S h := rfl
theorem ja_kill_1 : jk_kill 1 k (l0 :: l1 :: L) S h = k (l0 :: none :: L) S h := rfl
theorem ja_iinc_1 : jk_iinc 1 n k (l0 :: some (.inl v) :: L) S h = k (l0 :: some (.inl (jm_wr (v + n))) :: L) S h := rfl
theorem ja_iload_2 : jk_iload 2 k (l0 :: l1 :: some (.inl v) :: L) S h = k (l0 :: l1 :: some (.inl v) :: L) (.inl v :: S) h := rfl
theorem ja_aload_2 : jk_aload 2 k (l0 :: l1 :: some (.inr r) :: L) S h = k (l0 :: l1 :: some (.inr r) :: L) (.inr r :: S) h := rfl
theorem ja_istore_2 : jk_istore 2 k (l0 :: l1 :: l2 :: L) (.inl v :: S) h = k (l0 :: l1 :: some (.inl v) :: L) S h := rfl
theorem ja_astore_2 : jk_astore 2 k (l0 :: l1 :: l2 :: L) (.inr r :: S) h = k (l0 :: l1 :: some (.inr r) :: L) S h := rfl
theorem ja_kill_2 : jk_kill 2 k (l0 :: l1 :: l2 :: L) S h = k (l0 :: l1 :: none :: L) S h := rfl
theorem ja_iinc_2 : jk_iinc 2 n k (l0 :: l1 :: some (.inl v) :: L) S h = k (l0 :: l1 :: some (.inl (jm_wr (v + n))) :: L) S h := rfl
theorem ja_iload_3 : jk_iload 3 k (l0 :: l1 :: l2 :: some (.inl v) :: L) S h = k (l0 :: l1 :: l2 :: some (.inl v) :: L) (.inl v :: S) h := rfl
theorem ja_aload_3 : jk_aload 3 k (l0 :: l1 :: l2 :: some (.inr r) :: L) S h = k (l0 :: l1 :: l2 :: some (.inr r) :: L) (.inr r :: S) h := rfl
theorem ja_istore_3 : jk_istore 3 k (l0 :: l1 :: l2 :: l3 :: L) (.inl v :: S) h = k (l0 :: l1 :: l2 :: some (.inl v) :: L) S h := rfl
theorem ja_astore_3 : jk_astore 3 k (l0 :: l1 :: l2 :: l3 :: L) (.inr r :: S) h = k (l0 :: l1 :: l2 :: some (.inr r) :: L) S h := rfl
theorem ja_kill_3 : jk_kill 3 k (l0 :: l1 :: l2 :: l3 :: L) S h = k (l0 :: l1 :: l2 :: none :: L) S h := rfl
theorem ja_iinc_3 : jk_iinc 3 n k (l0 :: l1 :: l2 :: some (.inl v) :: L) S h = k (l0 :: l1 :: l2 :: some (.inl (jm_wr (v + n))) :: L) S h := rfl
theorem ja_iload_4 : jk_iload 4 k (l0 :: l1 :: l2 :: l3 :: some (.inl v) :: L) S h = k (l0 :: l1 :: l2 :: l3 :: some (.inl v) :: L) (.inl v :: S) h := rfl
theorem ja_aload_4 : jk_aload 4 k (l0 :: l1 :: l2 :: l3 :: some (.inr r) :: L) S h = k (l0 :: l1 :: l2 :: l3 :: some (.inr r) :: L) (.inr r :: S) h := rfl
theorem ja_istore_4 : jk_istore 4 k (l0 :: l1 :: l2 :: l3 :: l4 :: L) (.inl v :: S) h = k (l0 :: l1 :: l2 :: l3 :: some (.inl v) :: L) S h := rfl
theorem ja_astore_4 : jk_astore 4 k (l0 :: l1 :: l2 :: l3 :: l4 :: L) (.inr r :: S) h = k (l0 :: l1 :: l2 :: l3 :: some (.inr r) :: L) S h := rfl
theorem ja_kill_4 : jk_kill 4 k (l0 :: l1 :: l2 :: l3 :: l4 :: L) S h = k (l0 :: l1 :: l2 :: l3 :: none :: L) S h := rfl
theorem ja_iinc_4 : jk_iinc 4 n k (l0 :: l1 :: l2 :: l3 :: some (.inl v) :: L) S h = k (l0 :: l1 :: l2 :: l3 :: some (.inl (jm_wr (v + n))) :: L) S h := rfl
theorem ja_iload_5 : jk_iload 5 k (l0 :: l1 :: l2 :: l3 :: l4 :: some (.inl v) :: L) S h = k (l0 :: l1 :: l2 :: l3 :: l4 :: some (.inl v) :: L) (.inl v :: S) h := rfl
theorem ja_aload_5 : jk_aload 5 k (l0 :: l1 :: l2 :: l3 :: l4 :: some (.inr r) :: L) S h = k (l0 :: l1 :: l2 :: l3 :: l4 :: some (.inr r) :: L) (.inr r :: S) h := rfl
theorem ja_istore_5 : jk_istore 5 k (l0 :: l1 :: l2 :: l3 :: l4 :: l5 :: L) (.inl v :: S) h = k (l0 :: l1 :: l2 :: l3 :: l4 :: some (.inl v) :: L) S h := rfl
theorem ja_astore_5 : jk_astore 5 k (l0 :: l1 :: l2 :: l3 :: l4 :: l5 :: L) (.inr r :: S) h = k (l0 :: l1 :: l2 :: l3 :: l4 :: some (.inr r) :: L) S h := rfl
theorem ja_kill_5 : jk_kill 5 k (l0 :: l1 :: l2 :: l3 :: l4 :: l5 :: L) S h = k (l0 :: l1 :: l2 :: l3 :: l4 :: none :: L) S h := rfl
theorem ja_iinc_5 : jk_iinc 5 n k (l0 :: l1 :: l2 :: l3 :: l4 :: some (.inl v) :: L) S h = k (l0 :: l1 :: l2 :: l3 :: l4 :: some (.inl (jm_wr (v + n))) :: L) S h := rfl
theorem ja_iload_6 : jk_iload 6 k (l0 :: l1 :: l2 :: l3 :: l4 :: l5 :: some (.inl v) :: L) S h = k (l0 :: l1 :: l2 :: l3 :: l4 :: l5 :: some (.inl v) :: L) (.inl v :: S) h := rfl
theorem ja_aload_6 : jk_aload 6 k (l0 :: l1 :: l2 :: l3 :: l4 :: l5 :: some (.inr r) :: L) S h = k (l0 :: l1 :: l2 :: l3 :: l4 :: l5 :: some (.inr r) :: L) (.inr r :: S) h := rfl
theorem ja_istore_6 : jk_istore 6 k (l0 :: l1 :: l2 :: l3 :: l4 :: l5 :: l6 :: L) (.inl v :: S) h = k (l0 :: l1 :: l2 :: l3 :: l4 :: l5 :: some (.inl v) :: L) S h := rfl
theorem ja_astore_6 : jk_astore 6 k (l0 :: l1 :: l2 :: l3 :: l4 :: l5 :: l6 :: L) (.inr r :: S) h = k (l0 :: l1 :: l2 :: l3 :: l4 :: l5 :: some (.inr r) :: L) S h := rfl
theorem ja_kill_6 : jk_kill 6 k (l0 :: l1 :: l2 :: l3 :: l4 :: l5 :: l6 :: L) S h = k (l0 :: l1 :: l2 :: l3 :: l4 :: l5 :: none :: L) S h := rfl
theorem ja_iinc_6 : jk_iinc 6 n k (l0 :: l1 :: l2 :: l3 :: l4 :: l5 :: some (.inl v) :: L) S h = k (l0 :: l1 :: l2 :: l3 :: l4 :: l5 :: some (.inl (jm_wr (v + n))) :: L) S h := rfl
theorem ja_iload_7 : jk_iload 7 k (l0 :: l1 :: l2 :: l3 :: l4 :: l5 :: l6 :: some (.inl v) :: L) S h = k (l0 :: l1 :: l2 :: l3 :: l4 :: l5 :: l6 :: some (.inl v) :: L) (.inl v :: S) h := rfl
theorem ja_aload_7 : jk_aload 7 k (l0 :: l1 :: l2 :: l3 :: l4 :: l5 :: l6 :: some (.inr r) :: L) S h = k (l0 :: l1 :: l2 :: l3 :: l4 :: l5 :: l6 :: some (.inr r) :: L) (.inr r :: S) h := rfl
theorem ja_istore_7 : jk_istore 7 k (l0 :: l1 :: l2 :: l3 :: l4 :: l5 :: l6 :: l7 :: L) (.inl v :: S) h = k (l0 :: l1 :: l2 :: l3 :: l4 :: l5 :: l6 :: some (.inl v) :: L) S h := rfl
theorem ja_astore_7 : jk_astore 7 k (l0 :: l1 :: l2 :: l3 :: l4 :: l5 :: l6 :: l7 :: L) (.inr r :: S) h = k (l0 :: l1 :: l2 :: l3 :: l4 :: l5 :: l6 :: some (.inr r) :: L) S h := rfl
theorem ja_kill_7 : jk_kill 7 k (l0 :: l1 :: l2 :: l3 :: l4 :: l5 :: l6 :: l7 :: L) S h = k (l0 :: l1 :: l2 :: l3 :: l4 :: l5 :: l6 :: none :: L) S h := rfl
theorem ja_iinc_7 : jk_iinc 7 n k (l0 :: l1 :: l2 :: l3 :: l4 :: l5 :: l6 :: some (.inl v) :: L) S h = k (l0 :: l1 :: l2 :: l3 :: l4 :: l5 :: l6 :: some (.inl (jm_wr (v + n))) :: L) S h := rfl
theorem ja_iload_8 : jk_iload 8 k (l0 :: l1 :: l2 :: l3 :: l4 :: l5 :: l6 :: l7 :: some (.inl v) :: L) S h = k (l0 :: l1 :: l2 :: l3 :: l4 :: l5 :: l6 :: l7 :: some (.inl v) :: L) (.inl v :: S) h := rfl
theorem ja_aload_8 : jk_aload 8 k (l0 :: l1 :: l2 :: l3 :: l4 :: l5 :: l6 :: l7 :: some (.inr r) :: L) S h = k (l0 :: l1 :: l2 :: l3 :: l4 :: l5 :: l6 :: l7 :: some (.inr r) :: L) (.inr r :: S) h := rfl
theorem ja_istore_8 : jk_istore 8 k (l0 :: l1 :: l2 :: l3 :: l4 :: l5 :: l6 :: l7 :: l8 :: L) (.inl v :: S) h = k (l0 :: l1 :: l2 :: l3 :: l4 :: l5 :: l6 :: l7 :: some (.inl v) :: L) S h := rfl
theorem ja_astore_8 : jk_astore 8 k (l0 :: l1 :: l2 :: l3 :: l4 :: l5 :: l6 :: l7 :: l8 :: L) (.inr r :: S) h = k (l0 :: l1 :: l2 :: l3 :: l4 :: l5 :: l6 :: l7 :: some (.inr r) :: L) S h := rfl
theorem ja_kill_8 : jk_kill 8 k (l0 :: l1 :: l2 :: l3 :: l4 :: l5 :: l6 :: l7 :: l8 :: L) S h = k (l0 :: l1 :: l2 :: l3 :: l4 :: l5 :: l6 :: l7 :: none :: L) S h := rfl
theorem ja_iinc_8 : jk_iinc 8 n k (l0 :: l1 :: l2 :: l3 :: l4 :: l5 :: l6 :: l7 :: some (.inl v) :: L) S h = k (l0 :: l1 :: l2 :: l3 :: l4 :: l5 :: l6 :: l7 :: some (.inl (jm_wr (v + n))) :: L) S h := rfl
theorem ja_iload_9 : jk_iload 9 k (l0 :: l1 :: l2 :: l3 :: l4 :: l5 :: l6 :: l7 :: l8 :: some (.inl v) :: L) S h = k (l0 :: l1 :: l2 :: l3 :: l4 :: l5 :: l6 :: l7 :: l8 :: some (.inl v) :: L) (.inl v :: S) h := rfl
theorem ja_aload_9 : jk_aload 9 k (l0 :: l1 :: l2 :: l3 :: l4 :: l5 :: l6 :: l7 :: l8 :: some (.inr r) :: L) S h = k (l0 :: l1 :: l2 :: l3 :: l4 :: l5 :: l6 :: l7 :: l8 :: some (.inr r) :: L) (.inr r :: S) h := rfl
theorem ja_istore_9 : jk_istore 9 k (l0 :: l1 :: l2 :: l3 :: l4 :: l5 :: l6 :: l7 :: l8 :: l9 :: L) (.inl v :: S) h = k (l0 :: l1 :: l2 :: l3 :: l4 :: l5 :: l6 :: l7 :: l8 :: some (.inl v) :: L) S h := rfl
theorem ja_astore_9 : jk_astore 9 k (l0 :: l1 :: l2 :: l3 :: l4 :: l5 :: l6 :: l7 :: l8 :: l9 :: L) (.inr r :: S) h = k (l0 :: l1 :: l2 :: l3 :: l4 :: l5 :: l6 :: l7 :: l8 :: some (.inr r) :: L) S h := rfl
theorem ja_kill_9 : jk_kill 9 k (l0 :: l1 :: l2 :: l3 :: l4 :: l5 :: l6 :: l7 :: l8 :: l9 :: L) S h = k (l0 :: l1 :: l2 :: l3 :: l4 :: l5 :: l6 :: l7 :: l8 :: none :: L) S h := rfl
theorem ja_iinc_9 : jk_iinc 9 n k (l0 :: l1 :: l2 :: l3 :: l4 :: l5 :: l6 :: l7 :: l8 :: some (.inl v) :: L) S h = k (l0 :: l1 :: l2 :: l3 :: l4 :: l5 :: l6 :: l7 :: l8 :: some (.inl (jm_wr (v + n))) :: L) S h := rfl
theorem ja_iload_10 : jk_iload 10 k (l0 :: l1 :: l2 :: l3 :: l4 :: l5 :: l6 :: l7 :: l8 :: l9 :: some (.inl v) :: L) S h = k (l0 :: l1 :: l2 :: l3 :: l4 :: l5 :: l6 :: l7 :: l8 :: l9 :: some (.inl v) :: L) (.inl v :: S) h := rfl
theorem ja_aload_10 : jk_aload 10 k (l0 :: l1 :: l2 :: l3 :: l4 :: l5 :: l6 :: l7 :: l8 :: l9 :: some (.inr r) :: L) S h = k (l0 :: l1 :: l2 :: l3 :: l4 :: l5 :: l6 :: l7 :: l8 :: l9 :: some (.inr r) :: L) (.inr r :: S) h := rfl
theorem ja_istore_10 : jk_istore 10 k (l0 :: l1 :: l2 :: l3 :: l4 :: l5 :: l6 :: l7 :: l8 :: l9 :: l10 :: L) (.inl v :: S) h = k (l0 :: l1 :: l2 :: l3 :: l4 :: l5 :: l6 :: l7 :: l8 :: l9 :: some (.inl v) :: L) S h := rfl
theorem ja_astore_10 : jk_astore 10 k (l0 :: l1 :: l2 :: l3 :: l4 :: l5 :: l6 :: l7 :: l8 :: l9 :: l10 :: L) (.inr r :: S) h = k (l0 :: l1 :: l2 :: l3 :: l4 :: l5 :: l6 :: l7 :: l8 :: l9 :: some (.inr r) :: L) S h := rfl
theorem ja_kill_10 : jk_kill 10 k (l0 :: l1 :: l2 :: l3 :: l4 :: l5 :: l6 :: l7 :: l8 :: l9 :: l10 :: L) S h = k (l0 :: l1 :: l2 :: l3 :: l4 :: l5 :: l6 :: l7 :: l8 :: l9 :: none :: L) S h := rfl
theorem ja_iinc_10 : jk_iinc 10 n k (l0 :: l1 :: l2 :: l3 :: l4 :: l5 :: l6 :: l7 :: l8 :: l9 :: some (.inl v) :: L) S h = k (l0 :: l1 :: l2 :: l3 :: l4 :: l5 :: l6 :: l7 :: l8 :: l9 :: some (.inl (jm_wr (v + n))) :: L) S h := rfl
theorem ja_iadd : jk_iadd k L (.inl y :: .inl x :: S) h = k L (.inl (jm_wr (x + y)) :: S) h := rfl
theorem ja_isub : jk_isub k L (.inl y :: .inl x :: S) h = k L (.inl (jm_wr (x - y)) :: S) h := rfl
theorem ja_imul : jk_imul k L (.inl y :: .inl x :: S) h = k L (.inl (jm_wr (x * y)) :: S) h := rfl
theorem ja_dup : jk_dup k L (u :: S) h = k L (u :: u :: S) h := rfl
theorem ja_dup2 : jk_dup2 k L (u :: w :: S) h = k L (u :: w :: u :: w :: S) h := rfl
theorem ja_i2b : jk_i2b k L (.inl x :: S) h = k L (.inl (Int.bmod x 256) :: S) h := rfl
theorem ja_ifeq : jk_ifeq kt kf L (.inl x :: S) h = if x = 0 then kt L S h else kf L S h := rfl
theorem ja_ifne : jk_ifne kt kf L (.inl x :: S) h = if x = 0 then kf L S h else kt L S h := rfl
theorem ja_iflt : jk_iflt kt kf L (.inl x :: S) h = if x < 0 then kt L S h else kf L S h := rfl
theorem ja_ifge : jk_ifge kt kf L (.inl x :: S) h = if x < 0 then kf L S h else kt L S h := rfl
theorem ja_ifgt : jk_ifgt kt kf L (.inl x :: S) h = if 0 < x then kt L S h else kf L S h := rfl
theorem ja_ifle : jk_ifle kt kf L (.inl x :: S) h = if 0 < x then kf L S h else kt L S h := rfl
theorem ja_icmpeq : jk_icmpeq kt kf L (.inl y :: .inl x :: S) h = if x = y then kt L S h else kf L S h := rfl
theorem ja_icmpne : jk_icmpne kt kf L (.inl y :: .inl x :: S) h = if x = y then kf L S h else kt L S h := rfl
theorem ja_icmplt : jk_icmplt kt kf L (.inl y :: .inl x :: S) h = if x < y then kt L S h else kf L S h := rfl
theorem ja_icmpge : jk_icmpge kt kf L (.inl y :: .inl x :: S) h = if x < y then kf L S h else kt L S h := rfl
theorem ja_icmpgt : jk_icmpgt kt kf L (.inl y :: .inl x :: S) h = if y < x then kt L S h else kf L S h := rfl
theorem ja_icmple : jk_icmple kt kf L (.inl y :: .inl x :: S) h = if y < x then kf L S h else kt L S h := rfl
theorem ja_ifnull_n : jk_ifnull kt kf L (.inr none :: S) h = kt L S h := rfl
theorem ja_ifnull_s : jk_ifnull kt kf L (.inr (some a) :: S) h = kf L S h := rfl
theorem ja_ifnonnull_n : jk_ifnonnull kt kf L (.inr none :: S) h = kf L S h := rfl
theorem ja_ifnonnull_s : jk_ifnonnull kt kf L (.inr (some a) :: S) h = kt L S h := rfl
theorem ja_iret : jk_iret L [.inl x] h = some (some (.inl x), h) := rfl
theorem ja_aret : jk_aret L [.inr r] h = some (some (.inr r), h) := rfl
theorem ja_vret : jk_vret L [] h = some (none, h) := rfl
theorem ja_zret0 : jk_zret L [.inl 0] h = some (some (.inl 0), h) := rfl
theorem ja_zret1 : jk_zret L [.inl 1] h = some (some (.inl 1), h) := rfl
theorem ja_sw {cs : List (Int × jK)} {d : jK} : jk_sw cs d L (.inl x :: S) h = jm_pick x cs d L S h := rfl
theorem ja_pe {v : Int} {d : jK} {cs : List (Int × jK)} : jm_pick v ((v, k) :: cs) d L S h = k L S h := by rw [jm_pick_eq]
theorem ja_pn {x v : Int} {d : jK} {cs : List (Int × jK)} (hx : x ≠ v) : jm_pick x ((v, k) :: cs) d L S h = jm_pick x cs d L S h := by rw [jm_pick_ne hx]
theorem ja_pz {x : Int} {d : jK} : jm_pick x [] d L S h = d L S h := rfl
end JA2
