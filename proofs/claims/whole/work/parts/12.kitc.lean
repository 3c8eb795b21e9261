theorem dX2_sweep_0 : decode cX2_sweep 0 = .ok (.iconst 0, 1) := by decide +kernel
theorem dX2_sweep_1 : decode cX2_sweep 1 = .ok (.istore_n 2, 1) := by decide +kernel
theorem dX2_sweep_2 : decode cX2_sweep 2 = .ok (.iconst 0, 1) := by decide +kernel
theorem dX2_sweep_3 : decode cX2_sweep 3 = .ok (.istore_n 3, 1) := by decide +kernel
theorem dX2_sweep_4 : decode cX2_sweep 4 = .ok (.iload_n 3, 1) := by decide +kernel
theorem dX2_sweep_5 : decode cX2_sweep 5 = .ok (.aload_n 0, 1) := by decide +kernel
theorem dX2_sweep_6 : decode cX2_sweep 6 = .ok (.getfield 42, 3) := by decide +kernel
theorem dX2_sweep_9 : decode cX2_sweep 9 = .ok (.if_icmp .ge 54, 3) := by decide +kernel
theorem dX2_sweep_12 : decode cX2_sweep 12 = .ok (.aload_n 0, 1) := by decide +kernel
theorem dX2_sweep_13 : decode cX2_sweep 13 = .ok (.iload_n 3, 1) := by decide +kernel
theorem dX2_sweep_14 : decode cX2_sweep 14 = .ok (.invokevirtual 86, 3) := by decide +kernel
theorem dX2_sweep_17 : decode cX2_sweep 17 = .ok (.astore 4, 2) := by decide +kernel
theorem dX2_sweep_19 : decode cX2_sweep 19 = .ok (.aload 4, 2) := by decide +kernel
theorem dX2_sweep_21 : decode cX2_sweep 21 = .ok (.ifnonnull 6, 3) := by decide +kernel
theorem dX2_sweep_24 : decode cX2_sweep 24 = .ok (.goto 33, 3) := by decide +kernel
theorem dX2_sweep_27 : decode cX2_sweep 27 = .ok (.aload 4, 2) := by decide +kernel
theorem dX2_sweep_29 : decode cX2_sweep 29 = .ok (.getfield 39, 3) := by decide +kernel
theorem dX2_sweep_32 : decode cX2_sweep 32 = .ok (.iconst 1, 1) := by decide +kernel
theorem dX2_sweep_33 : decode cX2_sweep 33 = .ok (.if_icmp .ne 17, 3) := by decide +kernel
theorem dX2_sweep_36 : decode cX2_sweep 36 = .ok (.aload_n 0, 1) := by decide +kernel
theorem dX2_sweep_37 : decode cX2_sweep 37 = .ok (.getfield 11, 3) := by decide +kernel
theorem dX2_sweep_40 : decode cX2_sweep 40 = .ok (.iload_n 2, 1) := by decide +kernel
theorem dX2_sweep_41 : decode cX2_sweep 41 = .ok (.aload 4, 2) := by decide +kernel
theorem dX2_sweep_43 : decode cX2_sweep 43 = .ok (.aastore, 1) := by decide +kernel
theorem dX2_sweep_44 : decode cX2_sweep 44 = .ok (.iinc 2 1, 3) := by decide +kernel
theorem dX2_sweep_47 : decode cX2_sweep 47 = .ok (.goto 10, 3) := by decide +kernel
theorem dX2_sweep_50 : decode cX2_sweep 50 = .ok (.aload_n 0, 1) := by decide +kernel
theorem dX2_sweep_51 : decode cX2_sweep 51 = .ok (.aload 4, 2) := by decide +kernel
theorem dX2_sweep_53 : decode cX2_sweep 53 = .ok (.iload_n 1, 1) := by decide +kernel
theorem dX2_sweep_54 : decode cX2_sweep 54 = .ok (.invokevirtual 62, 3) := by decide +kernel
theorem dX2_sweep_57 : decode cX2_sweep 57 = .ok (.iinc 3 1, 3) := by decide +kernel
theorem dX2_sweep_60 : decode cX2_sweep 60 = .ok (.goto (-56), 3) := by decide +kernel
theorem dX2_sweep_63 : decode cX2_sweep 63 = .ok (.aload_n 0, 1) := by decide +kernel
theorem dX2_sweep_64 : decode cX2_sweep 64 = .ok (.iload_n 2, 1) := by decide +kernel
theorem dX2_sweep_65 : decode cX2_sweep 65 = .ok (.putfield 42, 3) := by decide +kernel
theorem dX2_sweep_68 : decode cX2_sweep 68 = .ok (.return_, 1) := by decide +kernel
def kX2_sweep_0 (n : Nat) (K : Nat → jK) : jK := jk_int 0 <| jk_istore 2 <| jk_int 0 <| jk_istore 3 <| K 4
set_option maxRecDepth 100000 in
set_option maxHeartbeats 4000000 in
theorem tX2_sweep_0 (l : Launch) (n : Nat) {K : Nat → jK} (hK : ∀ b, jr_D l cX2_sweep 5 "MeetingKit$Device" (Option.none : Option Jvm.ClassFile.FieldType) "sweep" 1 22 (K b) b) : jr_D l cX2_sweep 5 "MeetingKit$Device" (Option.none : Option Jvm.ClassFile.FieldType) "sweep" 1 22 (kX2_sweep_0 n K) 0 := by
  unfold kX2_sweep_0
  refine js_iconst dX2_sweep_0 ?_
  refine js_istore_n dX2_sweep_1 (by decide) ?_
  refine js_iconst dX2_sweep_2 ?_
  refine js_istore_n dX2_sweep_3 (by decide) ?_
  exact hK 4
def kX2_sweep_4 (n : Nat) (K : Nat → jK) : jK := jk_kill 4 <| jk_iload 3 <| jk_aload 0 <| jk_get [1, 2, 3, 4, 5, 6, 7, 8] 5 <| jk_icmpge (jk_aload 0 <| jk_iload 2 <| jk_puti [1, 2, 3, 4, 5, 6, 7, 8] 5 <| jk_vret) <| jk_aload 0 <| jk_iload 3 <| jk_vcall [(1, fX2_waiter n), (2, fX2_waiter n), (3, fX2_waiter n), (4, fX2_waiter n), (5, fX2_waiter n), (6, fX2_waiter n), (7, fX2_waiter n), (8, fX2_waiter n)] 1 <| jk_astore 4 <| jk_aload 4 <| jk_ifnonnull (jk_aload 4 <| jk_get [9] 5 <| jk_int 1 <| jk_icmpne (jk_aload 0 <| jk_aload 4 <| jk_iload 1 <| jk_vcall [(1, fX2_finish n), (2, fX2_finish n), (3, fX2_finish n), (4, fX2_finish n), (5, fX2_finish n), (6, fX2_finish n), (7, fX2_finish n), (8, fX2_finish n)] 2 <| K 57) <| jk_aload 0 <| jk_get [1, 2, 3, 4, 5, 6, 7, 8] 4 <| jk_iload 2 <| jk_aload 4 <| jk_aast 25 <| jk_iinc 2 1 <| K 57) <| K 57
set_option maxRecDepth 100000 in
set_option maxHeartbeats 4000000 in
theorem tX2_sweep_4 (l : Launch) (n : Nat) {K : Nat → jK} (hK : ∀ b, jr_D l cX2_sweep 5 "MeetingKit$Device" (Option.none : Option Jvm.ClassFile.FieldType) "sweep" 1 22 (K b) b) : jr_D l cX2_sweep 5 "MeetingKit$Device" (Option.none : Option Jvm.ClassFile.FieldType) "sweep" 1 22 (kX2_sweep_4 n K) 4 := by
  unfold kX2_sweep_4
  refine js_kill ?_
  refine js_iload_n dX2_sweep_4 ?_
  refine js_aload_n dX2_sweep_5 ?_
  refine js_get dX2_sweep_6 jf_5_1_2_3_4_5_6_7_8 tw_202 (Or.inl rfl) ?_
  refine js_icmpge (tgt := 63) dX2_sweep_9 (by decide) ?_ ?_
  · refine js_aload_n dX2_sweep_63 ?_
    refine js_iload_n dX2_sweep_64 ?_
    refine js_puti dX2_sweep_65 jf_5_1_2_3_4_5_6_7_8 rfl tw_202 (Or.inl rfl) ?_
    exact js_vret dX2_sweep_68 rfl
  · refine js_aload_n dX2_sweep_12 ?_
    refine js_iload_n dX2_sweep_13 ?_
    refine js_callv dX2_sweep_14 (⟨⟨_, _, _, _, _, _, _, ⟨rfl, (show (1 : Nat) < 20 by decide), sX2_waiter l n, by decide, by decide, tw_655, tw_104, tw_654⟩, Or.inr ⟨⟨"MeetingKit$Device", "waiter", "(I)LMeetingKit$Step;"⟩, "MeetingKit$Device", by decide +kernel, by decide +kernel, by decide +kernel, tw_689, tw_1302, tw_1303, Or.inl ⟨_, _, _, tw_654, tw_655⟩⟩⟩, ⟨⟨_, _, _, _, _, _, _, ⟨rfl, (show (2 : Nat) < 20 by decide), sX2_waiter l n, by decide, by decide, tw_655, tw_104, tw_654⟩, Or.inr ⟨⟨"MeetingKit$Device", "waiter", "(I)LMeetingKit$Step;"⟩, "MeetingKit$Device", by decide +kernel, by decide +kernel, by decide +kernel, tw_689, tw_1302, tw_1304, Or.inl ⟨_, _, _, tw_654, tw_655⟩⟩⟩, ⟨⟨_, _, _, _, _, _, _, ⟨rfl, (show (3 : Nat) < 20 by decide), sX2_waiter l n, by decide, by decide, tw_655, tw_104, tw_654⟩, Or.inr ⟨⟨"MeetingKit$Device", "waiter", "(I)LMeetingKit$Step;"⟩, "MeetingKit$Device", by decide +kernel, by decide +kernel, by decide +kernel, tw_689, tw_1302, tw_1305, Or.inl ⟨_, _, _, tw_654, tw_655⟩⟩⟩, ⟨⟨_, _, _, _, _, _, _, ⟨rfl, (show (4 : Nat) < 20 by decide), sX2_waiter l n, by decide, by decide, tw_655, tw_104, tw_654⟩, Or.inr ⟨⟨"MeetingKit$Device", "waiter", "(I)LMeetingKit$Step;"⟩, "MeetingKit$Device", by decide +kernel, by decide +kernel, by decide +kernel, tw_689, tw_1302, tw_1306, Or.inl ⟨_, _, _, tw_654, tw_655⟩⟩⟩, ⟨⟨_, _, _, _, _, _, _, ⟨rfl, (show (5 : Nat) < 20 by decide), sX2_waiter l n, by decide, by decide, tw_655, tw_104, tw_654⟩, Or.inr ⟨⟨"MeetingKit$Device", "waiter", "(I)LMeetingKit$Step;"⟩, "MeetingKit$Device", by decide +kernel, by decide +kernel, by decide +kernel, tw_689, tw_1302, tw_1307, Or.inl ⟨_, _, _, tw_654, tw_655⟩⟩⟩, ⟨⟨_, _, _, _, _, _, _, ⟨rfl, (show (6 : Nat) < 20 by decide), sX2_waiter l n, by decide, by decide, tw_655, tw_104, tw_654⟩, Or.inr ⟨⟨"MeetingKit$Device", "waiter", "(I)LMeetingKit$Step;"⟩, "MeetingKit$Device", by decide +kernel, by decide +kernel, by decide +kernel, tw_689, tw_1302, tw_1308, Or.inl ⟨_, _, _, tw_654, tw_655⟩⟩⟩, ⟨⟨_, _, _, _, _, _, _, ⟨rfl, (show (7 : Nat) < 20 by decide), sX2_waiter l n, by decide, by decide, tw_655, tw_104, tw_654⟩, Or.inr ⟨⟨"MeetingKit$Device", "waiter", "(I)LMeetingKit$Step;"⟩, "MeetingKit$Device", by decide +kernel, by decide +kernel, by decide +kernel, tw_689, tw_1302, tw_1309, Or.inl ⟨_, _, _, tw_654, tw_655⟩⟩⟩, ⟨⟨_, _, _, _, _, _, _, ⟨rfl, (show (8 : Nat) < 20 by decide), sX2_waiter l n, by decide, by decide, tw_655, tw_104, tw_654⟩, Or.inr ⟨⟨"MeetingKit$Device", "waiter", "(I)LMeetingKit$Step;"⟩, "MeetingKit$Device", by decide +kernel, by decide +kernel, by decide +kernel, tw_689, tw_1302, tw_1310, Or.inl ⟨_, _, _, tw_654, tw_655⟩⟩⟩, trivial⟩⟩⟩⟩⟩⟩⟩⟩) ?_
    refine js_astore dX2_sweep_17 (by decide) ?_
    refine js_aload dX2_sweep_19 ?_
    refine js_ifnonnull (tgt := 27) dX2_sweep_21 (by decide) ?_ ?_
    · refine js_aload dX2_sweep_27 ?_
      refine js_get dX2_sweep_29 jf_5_9 tw_476 (Or.inl rfl) ?_
      refine js_iconst dX2_sweep_32 ?_
      refine js_icmpne (tgt := 50) dX2_sweep_33 (by decide) ?_ ?_
      · refine js_aload_n dX2_sweep_50 ?_
        refine js_aload dX2_sweep_51 ?_
        refine js_iload_n dX2_sweep_53 ?_
        refine js_callv dX2_sweep_54 (⟨⟨_, _, _, _, _, _, _, ⟨rfl, (show (1 : Nat) < 20 by decide), sX2_finish l n, by decide, by decide, tw_693, tw_104, tw_692⟩, Or.inr ⟨⟨"MeetingKit$Device", "finish", "(LMeetingKit$Step;I)V"⟩, "MeetingKit$Device", by decide +kernel, by decide +kernel, by decide +kernel, tw_690, tw_1311, tw_3, Or.inl ⟨_, _, _, tw_692, tw_693⟩⟩⟩, ⟨⟨_, _, _, _, _, _, _, ⟨rfl, (show (2 : Nat) < 20 by decide), sX2_finish l n, by decide, by decide, tw_693, tw_104, tw_692⟩, Or.inr ⟨⟨"MeetingKit$Device", "finish", "(LMeetingKit$Step;I)V"⟩, "MeetingKit$Device", by decide +kernel, by decide +kernel, by decide +kernel, tw_690, tw_1311, tw_5, Or.inl ⟨_, _, _, tw_692, tw_693⟩⟩⟩, ⟨⟨_, _, _, _, _, _, _, ⟨rfl, (show (3 : Nat) < 20 by decide), sX2_finish l n, by decide, by decide, tw_693, tw_104, tw_692⟩, Or.inr ⟨⟨"MeetingKit$Device", "finish", "(LMeetingKit$Step;I)V"⟩, "MeetingKit$Device", by decide +kernel, by decide +kernel, by decide +kernel, tw_690, tw_1311, tw_9, Or.inl ⟨_, _, _, tw_692, tw_693⟩⟩⟩, ⟨⟨_, _, _, _, _, _, _, ⟨rfl, (show (4 : Nat) < 20 by decide), sX2_finish l n, by decide, by decide, tw_693, tw_104, tw_692⟩, Or.inr ⟨⟨"MeetingKit$Device", "finish", "(LMeetingKit$Step;I)V"⟩, "MeetingKit$Device", by decide +kernel, by decide +kernel, by decide +kernel, tw_690, tw_1311, tw_7, Or.inl ⟨_, _, _, tw_692, tw_693⟩⟩⟩, ⟨⟨_, _, _, _, _, _, _, ⟨rfl, (show (5 : Nat) < 20 by decide), sX2_finish l n, by decide, by decide, tw_693, tw_104, tw_692⟩, Or.inr ⟨⟨"MeetingKit$Device", "finish", "(LMeetingKit$Step;I)V"⟩, "MeetingKit$Device", by decide +kernel, by decide +kernel, by decide +kernel, tw_690, tw_1311, tw_13, Or.inl ⟨_, _, _, tw_692, tw_693⟩⟩⟩, ⟨⟨_, _, _, _, _, _, _, ⟨rfl, (show (6 : Nat) < 20 by decide), sX2_finish l n, by decide, by decide, tw_693, tw_104, tw_692⟩, Or.inr ⟨⟨"MeetingKit$Device", "finish", "(LMeetingKit$Step;I)V"⟩, "MeetingKit$Device", by decide +kernel, by decide +kernel, by decide +kernel, tw_690, tw_1311, tw_1, Or.inl ⟨_, _, _, tw_692, tw_693⟩⟩⟩, ⟨⟨_, _, _, _, _, _, _, ⟨rfl, (show (7 : Nat) < 20 by decide), sX2_finish l n, by decide, by decide, tw_693, tw_104, tw_692⟩, Or.inr ⟨⟨"MeetingKit$Device", "finish", "(LMeetingKit$Step;I)V"⟩, "MeetingKit$Device", by decide +kernel, by decide +kernel, by decide +kernel, tw_690, tw_1311, tw_11, Or.inl ⟨_, _, _, tw_692, tw_693⟩⟩⟩, ⟨⟨_, _, _, _, _, _, _, ⟨rfl, (show (8 : Nat) < 20 by decide), sX2_finish l n, by decide, by decide, tw_693, tw_104, tw_692⟩, Or.inr ⟨⟨"MeetingKit$Device", "finish", "(LMeetingKit$Step;I)V"⟩, "MeetingKit$Device", by decide +kernel, by decide +kernel, by decide +kernel, tw_690, tw_1311, tw_15, Or.inl ⟨_, _, _, tw_692, tw_693⟩⟩⟩, trivial⟩⟩⟩⟩⟩⟩⟩⟩) ?_
        exact hK 57
      · refine js_aload_n dX2_sweep_36 ?_
        refine js_get dX2_sweep_37 jf_4_1_2_3_4_5_6_7_8 tw_191 (Or.inl rfl) ?_
        refine js_iload_n dX2_sweep_40 ?_
        refine js_aload dX2_sweep_41 ?_
        refine js_aast rfl (by decide) may_25 dX2_sweep_43 ?_
        refine js_iinc dX2_sweep_44 (by decide) ?_
        refine js_goto (tgt := 57) dX2_sweep_47 (by decide) ?_
        exact hK 57
    · refine js_goto (tgt := 57) dX2_sweep_24 (by decide) ?_
      exact hK 57
def kX2_sweep_57 (n : Nat) (K : Nat → jK) : jK := jk_kill 4 <| jk_iinc 3 1 <| K 4
set_option maxRecDepth 100000 in
set_option maxHeartbeats 4000000 in
theorem tX2_sweep_57 (l : Launch) (n : Nat) {K : Nat → jK} (hK : ∀ b, jr_D l cX2_sweep 5 "MeetingKit$Device" (Option.none : Option Jvm.ClassFile.FieldType) "sweep" 1 22 (K b) b) : jr_D l cX2_sweep 5 "MeetingKit$Device" (Option.none : Option Jvm.ClassFile.FieldType) "sweep" 1 22 (kX2_sweep_57 n K) 57 := by
  unfold kX2_sweep_57
  refine js_kill ?_
  refine js_iinc dX2_sweep_57 (by decide) ?_
  refine js_goto (tgt := 4) dX2_sweep_60 (by decide) ?_
  exact hK 4
def kX2_sweep_b (n : Nat) (K : Nat → jK) (b : Nat) : jK := if b = 0 then kX2_sweep_0 n K else if b = 4 then kX2_sweep_4 n K else if b = 57 then kX2_sweep_57 n K else jk_none
def kX2_sweep (n : Nat) : jK := jk_fix (kX2_sweep_b n) n 0
theorem tX2_sweep (l : Launch) (n : Nat) : jr_D l cX2_sweep 5 "MeetingKit$Device" (Option.none : Option Jvm.ClassFile.FieldType) "sweep" 1 22 (kX2_sweep n) 0 := js_fix (F := kX2_sweep_b n) (fun K hK b => js_blk (tX2_sweep_0 l n hK) (js_blk (tX2_sweep_4 l n hK) (js_blk (tX2_sweep_57 l n hK) (js_none)))) n 0
def fX2_sweep (n : Nat) : jF := jm_run 2 5 (kX2_sweep n)
theorem sX2_sweep (l : Launch) (n : Nat) : jr_F l (⟨"MeetingKit$Device", "sweep", "(I)V"⟩ : MethodName) cX2_sweep 5 (Option.none : Option Jvm.ClassFile.FieldType) 1 22 (fX2_sweep n) := js_met (by decide +kernel) (by decide) (tX2_sweep l n)
theorem dX2_giveUp_0 : decode cX2_giveUp 0 = .ok (.aload_n 1, 1) := by decide +kernel
theorem dX2_giveUp_1 : decode cX2_giveUp 1 = .ok (.iload_n 2, 1) := by decide +kernel
theorem dX2_giveUp_2 : decode cX2_giveUp 2 = .ok (.putfield 39, 3) := by decide +kernel
theorem dX2_giveUp_5 : decode cX2_giveUp 5 = .ok (.aload_n 0, 1) := by decide +kernel
theorem dX2_giveUp_6 : decode cX2_giveUp 6 = .ok (.invokevirtual 73, 3) := by decide +kernel
theorem dX2_giveUp_9 : decode cX2_giveUp 9 = .ok (.aload_n 0, 1) := by decide +kernel
theorem dX2_giveUp_10 : decode cX2_giveUp 10 = .ok (.invokevirtual 66, 3) := by decide +kernel
theorem dX2_giveUp_13 : decode cX2_giveUp 13 = .ok (.aload_n 0, 1) := by decide +kernel
theorem dX2_giveUp_14 : decode cX2_giveUp 14 = .ok (.iload_n 3, 1) := by decide +kernel
theorem dX2_giveUp_15 : decode cX2_giveUp 15 = .ok (.invokevirtual 69, 3) := by decide +kernel
theorem dX2_giveUp_18 : decode cX2_giveUp 18 = .ok (.return_, 1) := by decide +kernel
def kX2_giveUp (n : Nat) : jK := jk_aload 1 <| jk_iload 2 <| jk_puti [9] 5 <| jk_aload 0 <| jk_vcall [(1, fX1_suffer n), (2, fX2_suffer n), (3, fX2_suffer n), (4, fX2_suffer n), (5, fX2_suffer n), (6, fX2_suffer n), (7, fX2_suffer n), (8, fX2_suffer n)] 0 <| jk_aload 0 <| jk_vcall [(1, fX2_letOthersGo n), (2, fX2_letOthersGo n), (3, fX2_letOthersGo n), (4, fX5_letOthersGo n), (5, fX6_letOthersGo n), (6, fX7_letOthersGo n), (7, fX2_letOthersGo n), (8, fX9_letOthersGo n)] 0 <| jk_aload 0 <| jk_iload 3 <| jk_vcall [(1, fX2_sweep n), (2, fX2_sweep n), (3, fX2_sweep n), (4, fX2_sweep n), (5, fX2_sweep n), (6, fX2_sweep n), (7, fX2_sweep n), (8, fX2_sweep n)] 1 <| jk_vret
set_option maxRecDepth 100000 in
set_option maxHeartbeats 4000000 in
theorem tX2_giveUp (l : Launch) (n : Nat) : jr_D l cX2_giveUp 4 "MeetingKit$Device" (Option.none : Option Jvm.ClassFile.FieldType) "giveUp" 4 85 (kX2_giveUp n) 0 := by
  unfold kX2_giveUp
  refine js_aload_n dX2_giveUp_0 ?_
  refine js_iload_n dX2_giveUp_1 ?_
  refine js_puti dX2_giveUp_2 jf_5_9 rfl tw_476 (Or.inl rfl) ?_
  refine js_aload_n dX2_giveUp_5 ?_
  refine js_callv dX2_giveUp_6 (⟨⟨_, _, _, _, _, _, _, ⟨rfl, (show (1 : Nat) < 20 by decide), sX1_suffer l n, by decide, by decide, tw_566, tw_106, tw_565⟩, Or.inr ⟨⟨"MeetingKit$Device", "suffer", "()V"⟩, "MeetingKit$Device", by decide +kernel, by decide +kernel, by decide +kernel, tw_561, tw_563, tw_564, Or.inl ⟨_, _, _, tw_562, tw_592⟩⟩⟩, ⟨⟨_, _, _, _, _, _, _, ⟨rfl, (show (2 : Nat) < 20 by decide), sX2_suffer l n, by decide, by decide, tw_592, tw_104, tw_562⟩, Or.inr ⟨⟨"MeetingKit$Device", "suffer", "()V"⟩, "MeetingKit$Device", by decide +kernel, by decide +kernel, by decide +kernel, tw_561, tw_563, tw_585, Or.inl ⟨_, _, _, tw_562, tw_592⟩⟩⟩, ⟨⟨_, _, _, _, _, _, _, ⟨rfl, (show (3 : Nat) < 20 by decide), sX2_suffer l n, by decide, by decide, tw_592, tw_104, tw_562⟩, Or.inr ⟨⟨"MeetingKit$Device", "suffer", "()V"⟩, "MeetingKit$Device", by decide +kernel, by decide +kernel, by decide +kernel, tw_561, tw_563, tw_586, Or.inl ⟨_, _, _, tw_562, tw_592⟩⟩⟩, ⟨⟨_, _, _, _, _, _, _, ⟨rfl, (show (4 : Nat) < 20 by decide), sX2_suffer l n, by decide, by decide, tw_592, tw_104, tw_562⟩, Or.inr ⟨⟨"MeetingKit$Device", "suffer", "()V"⟩, "MeetingKit$Device", by decide +kernel, by decide +kernel, by decide +kernel, tw_561, tw_563, tw_587, Or.inl ⟨_, _, _, tw_562, tw_592⟩⟩⟩, ⟨⟨_, _, _, _, _, _, _, ⟨rfl, (show (5 : Nat) < 20 by decide), sX2_suffer l n, by decide, by decide, tw_592, tw_104, tw_562⟩, Or.inr ⟨⟨"MeetingKit$Device", "suffer", "()V"⟩, "MeetingKit$Device", by decide +kernel, by decide +kernel, by decide +kernel, tw_561, tw_563, tw_588, Or.inl ⟨_, _, _, tw_562, tw_592⟩⟩⟩, ⟨⟨_, _, _, _, _, _, _, ⟨rfl, (show (6 : Nat) < 20 by decide), sX2_suffer l n, by decide, by decide, tw_592, tw_104, tw_562⟩, Or.inr ⟨⟨"MeetingKit$Device", "suffer", "()V"⟩, "MeetingKit$Device", by decide +kernel, by decide +kernel, by decide +kernel, tw_561, tw_563, tw_589, Or.inl ⟨_, _, _, tw_562, tw_592⟩⟩⟩, ⟨⟨_, _, _, _, _, _, _, ⟨rfl, (show (7 : Nat) < 20 by decide), sX2_suffer l n, by decide, by decide, tw_592, tw_104, tw_562⟩, Or.inr ⟨⟨"MeetingKit$Device", "suffer", "()V"⟩, "MeetingKit$Device", by decide +kernel, by decide +kernel, by decide +kernel, tw_561, tw_563, tw_590, Or.inl ⟨_, _, _, tw_562, tw_592⟩⟩⟩, ⟨⟨_, _, _, _, _, _, _, ⟨rfl, (show (8 : Nat) < 20 by decide), sX2_suffer l n, by decide, by decide, tw_592, tw_104, tw_562⟩, Or.inr ⟨⟨"MeetingKit$Device", "suffer", "()V"⟩, "MeetingKit$Device", by decide +kernel, by decide +kernel, by decide +kernel, tw_561, tw_563, tw_591, Or.inl ⟨_, _, _, tw_562, tw_592⟩⟩⟩, trivial⟩⟩⟩⟩⟩⟩⟩⟩) ?_
  refine js_aload_n dX2_giveUp_9 ?_
  refine js_callv dX2_giveUp_10 (⟨⟨_, _, _, _, _, _, _, ⟨rfl, (show (1 : Nat) < 20 by decide), sX2_letOthersGo l n, by decide, by decide, tw_684, tw_104, tw_594⟩, Or.inr ⟨⟨"MeetingKit$Device", "letOthersGo", "()V"⟩, "MeetingKit$Device", by decide +kernel, by decide +kernel, by decide +kernel, tw_593, tw_595, tw_596, Or.inl ⟨_, _, _, tw_594, tw_684⟩⟩⟩, ⟨⟨_, _, _, _, _, _, _, ⟨rfl, (show (2 : Nat) < 20 by decide), sX2_letOthersGo l n, by decide, by decide, tw_684, tw_104, tw_594⟩, Or.inr ⟨⟨"MeetingKit$Device", "letOthersGo", "()V"⟩, "MeetingKit$Device", by decide +kernel, by decide +kernel, by decide +kernel, tw_593, tw_595, tw_597, Or.inl ⟨_, _, _, tw_594, tw_684⟩⟩⟩, ⟨⟨_, _, _, _, _, _, _, ⟨rfl, (show (3 : Nat) < 20 by decide), sX2_letOthersGo l n, by decide, by decide, tw_684, tw_104, tw_594⟩, Or.inr ⟨⟨"MeetingKit$Device", "letOthersGo", "()V"⟩, "MeetingKit$Device", by decide +kernel, by decide +kernel, by decide +kernel, tw_593, tw_595, tw_598, Or.inl ⟨_, _, _, tw_594, tw_684⟩⟩⟩, ⟨⟨_, _, _, _, _, _, _, ⟨rfl, (show (4 : Nat) < 20 by decide), sX5_letOthersGo l n, by decide, by decide, tw_601, tw_108, tw_600⟩, Or.inr ⟨⟨"MeetingKit$Device", "letOthersGo", "()V"⟩, "MeetingKit$Device", by decide +kernel, by decide +kernel, by decide +kernel, tw_593, tw_595, tw_599, Or.inl ⟨_, _, _, tw_594, tw_684⟩⟩⟩, ⟨⟨_, _, _, _, _, _, _, ⟨rfl, (show (5 : Nat) < 20 by decide), sX6_letOthersGo l n, by decide, by decide, tw_642, tw_112, tw_641⟩, Or.inr ⟨⟨"MeetingKit$Device", "letOthersGo", "()V"⟩, "MeetingKit$Device", by decide +kernel, by decide +kernel, by decide +kernel, tw_593, tw_595, tw_640, Or.inl ⟨_, _, _, tw_594, tw_684⟩⟩⟩, ⟨⟨_, _, _, _, _, _, _, ⟨rfl, (show (6 : Nat) < 20 by decide), sX7_letOthersGo l n, by decide, by decide, tw_659, tw_105, tw_658⟩, Or.inr ⟨⟨"MeetingKit$Device", "letOthersGo", "()V"⟩, "MeetingKit$Device", by decide +kernel, by decide +kernel, by decide +kernel, tw_593, tw_595, tw_657, Or.inl ⟨_, _, _, tw_594, tw_684⟩⟩⟩, ⟨⟨_, _, _, _, _, _, _, ⟨rfl, (show (7 : Nat) < 20 by decide), sX2_letOthersGo l n, by decide, by decide, tw_684, tw_104, tw_594⟩, Or.inr ⟨⟨"MeetingKit$Device", "letOthersGo", "()V"⟩, "MeetingKit$Device", by decide +kernel, by decide +kernel, by decide +kernel, tw_593, tw_595, tw_668, Or.inl ⟨_, _, _, tw_594, tw_684⟩⟩⟩, ⟨⟨_, _, _, _, _, _, _, ⟨rfl, (show (8 : Nat) < 20 by decide), sX9_letOthersGo l n, by decide, by decide, tw_671, tw_113, tw_670⟩, Or.inr ⟨⟨"MeetingKit$Device", "letOthersGo", "()V"⟩, "MeetingKit$Device", by decide +kernel, by decide +kernel, by decide +kernel, tw_593, tw_595, tw_669, Or.inl ⟨_, _, _, tw_594, tw_684⟩⟩⟩, trivial⟩⟩⟩⟩⟩⟩⟩⟩) ?_
  refine js_aload_n dX2_giveUp_13 ?_
  refine js_iload_n dX2_giveUp_14 ?_
  refine js_callv dX2_giveUp_15 (⟨⟨_, _, _, _, _, _, _, ⟨rfl, (show (1 : Nat) < 20 by decide), sX2_sweep l n, by decide, by decide, tw_688, tw_104, tw_687⟩, Or.inr ⟨⟨"MeetingKit$Device", "sweep", "(I)V"⟩, "MeetingKit$Device", by decide +kernel, by decide +kernel, by decide +kernel, tw_685, tw_1301, tw_2, Or.inl ⟨_, _, _, tw_687, tw_688⟩⟩⟩, ⟨⟨_, _, _, _, _, _, _, ⟨rfl, (show (2 : Nat) < 20 by decide), sX2_sweep l n, by decide, by decide, tw_688, tw_104, tw_687⟩, Or.inr ⟨⟨"MeetingKit$Device", "sweep", "(I)V"⟩, "MeetingKit$Device", by decide +kernel, by decide +kernel, by decide +kernel, tw_685, tw_1301, tw_4, Or.inl ⟨_, _, _, tw_687, tw_688⟩⟩⟩, ⟨⟨_, _, _, _, _, _, _, ⟨rfl, (show (3 : Nat) < 20 by decide), sX2_sweep l n, by decide, by decide, tw_688, tw_104, tw_687⟩, Or.inr ⟨⟨"MeetingKit$Device", "sweep", "(I)V"⟩, "MeetingKit$Device", by decide +kernel, by decide +kernel, by decide +kernel, tw_685, tw_1301, tw_8, Or.inl ⟨_, _, _, tw_687, tw_688⟩⟩⟩, ⟨⟨_, _, _, _, _, _, _, ⟨rfl, (show (4 : Nat) < 20 by decide), sX2_sweep l n, by decide, by decide, tw_688, tw_104, tw_687⟩, Or.inr ⟨⟨"MeetingKit$Device", "sweep", "(I)V"⟩, "MeetingKit$Device", by decide +kernel, by decide +kernel, by decide +kernel, tw_685, tw_1301, tw_6, Or.inl ⟨_, _, _, tw_687, tw_688⟩⟩⟩, ⟨⟨_, _, _, _, _, _, _, ⟨rfl, (show (5 : Nat) < 20 by decide), sX2_sweep l n, by decide, by decide, tw_688, tw_104, tw_687⟩, Or.inr ⟨⟨"MeetingKit$Device", "sweep", "(I)V"⟩, "MeetingKit$Device", by decide +kernel, by decide +kernel, by decide +kernel, tw_685, tw_1301, tw_12, Or.inl ⟨_, _, _, tw_687, tw_688⟩⟩⟩, ⟨⟨_, _, _, _, _, _, _, ⟨rfl, (show (6 : Nat) < 20 by decide), sX2_sweep l n, by decide, by decide, tw_688, tw_104, tw_687⟩, Or.inr ⟨⟨"MeetingKit$Device", "sweep", "(I)V"⟩, "MeetingKit$Device", by decide +kernel, by decide +kernel, by decide +kernel, tw_685, tw_1301, tw_0, Or.inl ⟨_, _, _, tw_687, tw_688⟩⟩⟩, ⟨⟨_, _, _, _, _, _, _, ⟨rfl, (show (7 : Nat) < 20 by decide), sX2_sweep l n, by decide, by decide, tw_688, tw_104, tw_687⟩, Or.inr ⟨⟨"MeetingKit$Device", "sweep", "(I)V"⟩, "MeetingKit$Device", by decide +kernel, by decide +kernel, by decide +kernel, tw_685, tw_1301, tw_10, Or.inl ⟨_, _, _, tw_687, tw_688⟩⟩⟩, ⟨⟨_, _, _, _, _, _, _, ⟨rfl, (show (8 : Nat) < 20 by decide), sX2_sweep l n, by decide, by decide, tw_688, tw_104, tw_687⟩, Or.inr ⟨⟨"MeetingKit$Device", "sweep", "(I)V"⟩, "MeetingKit$Device", by decide +kernel, by decide +kernel, by decide +kernel, tw_685, tw_1301, tw_14, Or.inl ⟨_, _, _, tw_687, tw_688⟩⟩⟩, trivial⟩⟩⟩⟩⟩⟩⟩⟩) ?_
  exact js_vret dX2_giveUp_18 rfl
def fX2_giveUp (n : Nat) : jF := jm_run 4 4 (kX2_giveUp n)
theorem sX2_giveUp (l : Launch) (n : Nat) : jr_F l (⟨"MeetingKit$Device", "giveUp", "(LMeetingKit$Step;II)V"⟩ : MethodName) cX2_giveUp 4 (Option.none : Option Jvm.ClassFile.FieldType) 4 85 (fX2_giveUp n) := js_met (by decide +kernel) (by decide) (tX2_giveUp l n)
theorem dX2_serve_0 : decode cX2_serve 0 = .ok (.aload_n 1, 1) := by decide +kernel
theorem dX2_serve_1 : decode cX2_serve 1 = .ok (.iload_n 2, 1) := by decide +kernel
theorem dX2_serve_2 : decode cX2_serve 2 = .ok (.putfield 28, 3) := by decide +kernel
theorem dX2_serve_5 : decode cX2_serve 5 = .ok (.aload_n 1, 1) := by decide +kernel
theorem dX2_serve_6 : decode cX2_serve 6 = .ok (.aload_n 0, 1) := by decide +kernel
theorem dX2_serve_7 : decode cX2_serve 7 = .ok (.getfield 31, 3) := by decide +kernel
theorem dX2_serve_10 : decode cX2_serve 10 = .ok (.ifCond .eq 7, 3) := by decide +kernel
theorem dX2_serve_13 : decode cX2_serve 13 = .ok (.iconst 4, 1) := by decide +kernel
theorem dX2_serve_14 : decode cX2_serve 14 = .ok (.goto 8, 3) := by decide +kernel
theorem dX2_serve_17 : decode cX2_serve 17 = .ok (.aload_n 0, 1) := by decide +kernel
theorem dX2_serve_18 : decode cX2_serve 18 = .ok (.aload_n 1, 1) := by decide +kernel
theorem dX2_serve_19 : decode cX2_serve 19 = .ok (.invokevirtual 35, 3) := by decide +kernel
theorem dX2_serve_22 : decode cX2_serve 22 = .ok (.putfield 39, 3) := by decide +kernel
theorem dX2_serve_25 : decode cX2_serve 25 = .ok (.aload_n 1, 1) := by decide +kernel
theorem dX2_serve_26 : decode cX2_serve 26 = .ok (.getfield 39, 3) := by decide +kernel
theorem dX2_serve_29 : decode cX2_serve 29 = .ok (.iconst 1, 1) := by decide +kernel
theorem dX2_serve_30 : decode cX2_serve 30 = .ok (.if_icmp .ne 71, 3) := by decide +kernel
theorem dX2_serve_33 : decode cX2_serve 33 = .ok (.aload_n 0, 1) := by decide +kernel
theorem dX2_serve_34 : decode cX2_serve 34 = .ok (.getfield 42, 3) := by decide +kernel
theorem dX2_serve_37 : decode cX2_serve 37 = .ok (.aload_n 0, 1) := by decide +kernel
theorem dX2_serve_38 : decode cX2_serve 38 = .ok (.getfield 11, 3) := by decide +kernel
theorem dX2_serve_41 : decode cX2_serve 41 = .ok (.arraylength, 1) := by decide +kernel
theorem dX2_serve_42 : decode cX2_serve 42 = .ok (.if_icmp .ge 59, 3) := by decide +kernel
theorem dX2_serve_45 : decode cX2_serve 45 = .ok (.aload_n 0, 1) := by decide +kernel
theorem dX2_serve_46 : decode cX2_serve 46 = .ok (.getfield 11, 3) := by decide +kernel
theorem dX2_serve_49 : decode cX2_serve 49 = .ok (.aload_n 0, 1) := by decide +kernel
theorem dX2_serve_50 : decode cX2_serve 50 = .ok (.getfield 42, 3) := by decide +kernel
theorem dX2_serve_53 : decode cX2_serve 53 = .ok (.aload_n 1, 1) := by decide +kernel
theorem dX2_serve_54 : decode cX2_serve 54 = .ok (.aastore, 1) := by decide +kernel
theorem dX2_serve_55 : decode cX2_serve 55 = .ok (.aload_n 0, 1) := by decide +kernel
theorem dX2_serve_56 : decode cX2_serve 56 = .ok (.dup, 1) := by decide +kernel
theorem dX2_serve_57 : decode cX2_serve 57 = .ok (.getfield 42, 3) := by decide +kernel
theorem dX2_serve_60 : decode cX2_serve 60 = .ok (.iconst 1, 1) := by decide +kernel
theorem dX2_serve_61 : decode cX2_serve 61 = .ok (.iadd, 1) := by decide +kernel
theorem dX2_serve_62 : decode cX2_serve 62 = .ok (.putfield 42, 3) := by decide +kernel
theorem dX2_serve_65 : decode cX2_serve 65 = .ok (.aload_n 1, 1) := by decide +kernel
theorem dX2_serve_66 : decode cX2_serve 66 = .ok (.getfield 45, 3) := by decide +kernel
theorem dX2_serve_69 : decode cX2_serve 69 = .ok (.aload_n 1, 1) := by decide +kernel
theorem dX2_serve_70 : decode cX2_serve 70 = .ok (.putfield 49, 3) := by decide +kernel
theorem dX2_serve_73 : decode cX2_serve 73 = .ok (.aload_n 1, 1) := by decide +kernel
theorem dX2_serve_74 : decode cX2_serve 74 = .ok (.getfield 45, 3) := by decide +kernel
theorem dX2_serve_77 : decode cX2_serve 77 = .ok (.getfield 55, 3) := by decide +kernel
theorem dX2_serve_80 : decode cX2_serve 80 = .ok (.ifCond .eq 27, 3) := by decide +kernel
theorem dX2_serve_83 : decode cX2_serve 83 = .ok (.aload_n 1, 1) := by decide +kernel
theorem dX2_serve_84 : decode cX2_serve 84 = .ok (.getfield 45, 3) := by decide +kernel
theorem dX2_serve_87 : decode cX2_serve 87 = .ok (.iconst 0, 1) := by decide +kernel
theorem dX2_serve_88 : decode cX2_serve 88 = .ok (.putfield 55, 3) := by decide +kernel
theorem dX2_serve_91 : decode cX2_serve 91 = .ok (.aload_n 0, 1) := by decide +kernel
theorem dX2_serve_92 : decode cX2_serve 92 = .ok (.aload_n 1, 1) := by decide +kernel
theorem dX2_serve_93 : decode cX2_serve 93 = .ok (.iconst 2, 1) := by decide +kernel
theorem dX2_serve_94 : decode cX2_serve 94 = .ok (.iload_n 2, 1) := by decide +kernel
theorem dX2_serve_95 : decode cX2_serve 95 = .ok (.invokevirtual 58, 3) := by decide +kernel
theorem dX2_serve_98 : decode cX2_serve 98 = .ok (.goto 9, 3) := by decide +kernel
theorem dX2_serve_101 : decode cX2_serve 101 = .ok (.aload_n 0, 1) := by decide +kernel
theorem dX2_serve_102 : decode cX2_serve 102 = .ok (.aload_n 1, 1) := by decide +kernel
theorem dX2_serve_103 : decode cX2_serve 103 = .ok (.iload_n 2, 1) := by decide +kernel
theorem dX2_serve_104 : decode cX2_serve 104 = .ok (.invokevirtual 62, 3) := by decide +kernel
theorem dX2_serve_107 : decode cX2_serve 107 = .ok (.aload_n 0, 1) := by decide +kernel
theorem dX2_serve_108 : decode cX2_serve 108 = .ok (.invokevirtual 66, 3) := by decide +kernel
theorem dX2_serve_111 : decode cX2_serve 111 = .ok (.aload_n 0, 1) := by decide +kernel
theorem dX2_serve_112 : decode cX2_serve 112 = .ok (.iload_n 2, 1) := by decide +kernel
theorem dX2_serve_113 : decode cX2_serve 113 = .ok (.invokevirtual 69, 3) := by decide +kernel
theorem dX2_serve_116 : decode cX2_serve 116 = .ok (.return_, 1) := by decide +kernel
def kX2_serve_0 (n : Nat) (K : Nat → jK) : jK := jk_aload 1 <| jk_iload 2 <| jk_puti [9] 7 <| jk_aload 1 <| jk_aload 0 <| jk_get [1, 2, 3, 4, 5, 6, 7, 8] 3 <| jk_ifeq (jk_aload 0 <| jk_aload 1 <| jk_vcall [(1, fX1_perform n), (2, fX3_perform n), (3, fX4_perform n), (4, fX5_perform n), (5, fX6_perform n), (6, fX7_perform n), (7, fX8_perform n), (8, fX9_perform n)] 1 <| K 22) <| jk_int 4 <| K 22
set_option maxRecDepth 100000 in
set_option maxHeartbeats 4000000 in
theorem tX2_serve_0 (l : Launch) (n : Nat) {K : Nat → jK} (hK : ∀ b, jr_D l cX2_serve 3 "MeetingKit$Device" (Option.none : Option Jvm.ClassFile.FieldType) "serve" 5 113 (K b) b) : jr_D l cX2_serve 3 "MeetingKit$Device" (Option.none : Option Jvm.ClassFile.FieldType) "serve" 5 113 (kX2_serve_0 n K) 0 := by
  unfold kX2_serve_0
  refine js_aload_n dX2_serve_0 ?_
  refine js_iload_n dX2_serve_1 ?_
  refine js_puti dX2_serve_2 jf_7_9 rfl tw_488 (Or.inl rfl) ?_
  refine js_aload_n dX2_serve_5 ?_
  refine js_aload_n dX2_serve_6 ?_
  refine js_get dX2_serve_7 jf_3_1_2_3_4_5_6_7_8 tw_189 (Or.inl rfl) ?_
  refine js_ifeq (tgt := 17) dX2_serve_10 (by decide) ?_ ?_
  · refine js_aload_n dX2_serve_17 ?_
    refine js_aload_n dX2_serve_18 ?_
    refine js_callv dX2_serve_19 (⟨⟨_, _, _, _, _, _, _, ⟨rfl, (show (1 : Nat) < 20 by decide), sX1_perform l n, by decide, by decide, tw_744, tw_106, tw_743⟩, Or.inr ⟨⟨"MeetingKit$Device", "perform", "(LMeetingKit$Step;)I"⟩, "MeetingKit$Device", by decide +kernel, by decide +kernel, by decide +kernel, tw_739, tw_741, tw_742, Or.inr tw_740⟩⟩, ⟨⟨_, _, _, _, _, _, _, ⟨rfl, (show (2 : Nat) < 20 by decide), sX3_perform l n, by decide, by decide, tw_751, tw_107, tw_750⟩, Or.inr ⟨⟨"MeetingKit$Device", "perform", "(LMeetingKit$Step;)I"⟩, "MeetingKit$Device", by decide +kernel, by decide +kernel, by decide +kernel, tw_739, tw_741, tw_749, Or.inr tw_740⟩⟩, ⟨⟨_, _, _, _, _, _, _, ⟨rfl, (show (3 : Nat) < 20 by decide), sX4_perform l n, by decide, by decide, tw_758, tw_109, tw_757⟩, Or.inr ⟨⟨"MeetingKit$Device", "perform", "(LMeetingKit$Step;)I"⟩, "MeetingKit$Device", by decide +kernel, by decide +kernel, by decide +kernel, tw_739, tw_741, tw_756, Or.inr tw_740⟩⟩, ⟨⟨_, _, _, _, _, _, _, ⟨rfl, (show (4 : Nat) < 20 by decide), sX5_perform l n, by decide, by decide, tw_781, tw_108, tw_780⟩, Or.inr ⟨⟨"MeetingKit$Device", "perform", "(LMeetingKit$Step;)I"⟩, "MeetingKit$Device", by decide +kernel, by decide +kernel, by decide +kernel, tw_739, tw_741, tw_779, Or.inr tw_740⟩⟩, ⟨⟨_, _, _, _, _, _, _, ⟨rfl, (show (5 : Nat) < 20 by decide), sX6_perform l n, by decide, by decide, tw_800, tw_112, tw_799⟩, Or.inr ⟨⟨"MeetingKit$Device", "perform", "(LMeetingKit$Step;)I"⟩, "MeetingKit$Device", by decide +kernel, by decide +kernel, by decide +kernel, tw_739, tw_741, tw_798, Or.inr tw_740⟩⟩, ⟨⟨_, _, _, _, _, _, _, ⟨rfl, (show (6 : Nat) < 20 by decide), sX7_perform l n, by decide, by decide, tw_819, tw_105, tw_818⟩, Or.inr ⟨⟨"MeetingKit$Device", "perform", "(LMeetingKit$Step;)I"⟩, "MeetingKit$Device", by decide +kernel, by decide +kernel, by decide +kernel, tw_739, tw_741, tw_817, Or.inr tw_740⟩⟩, ⟨⟨_, _, _, _, _, _, _, ⟨rfl, (show (7 : Nat) < 20 by decide), sX8_perform l n, by decide, by decide, tw_826, tw_111, tw_825⟩, Or.inr ⟨⟨"MeetingKit$Device", "perform", "(LMeetingKit$Step;)I"⟩, "MeetingKit$Device", by decide +kernel, by decide +kernel, by decide +kernel, tw_739, tw_741, tw_824, Or.inr tw_740⟩⟩, ⟨⟨_, _, _, _, _, _, _, ⟨rfl, (show (8 : Nat) < 20 by decide), sX9_perform l n, by decide, by decide, tw_857, tw_113, tw_856⟩, Or.inr ⟨⟨"MeetingKit$Device", "perform", "(LMeetingKit$Step;)I"⟩, "MeetingKit$Device", by decide +kernel, by decide +kernel, by decide +kernel, tw_739, tw_741, tw_855, Or.inr tw_740⟩⟩, trivial⟩⟩⟩⟩⟩⟩⟩⟩) ?_
    exact hK 22
  · refine js_iconst dX2_serve_13 ?_
    refine js_goto (tgt := 22) dX2_serve_14 (by decide) ?_
    exact hK 22
def kX2_serve_22 (n : Nat) (K : Nat → jK) : jK := jk_puti [9] 5 <| jk_aload 1 <| jk_get [9] 5 <| jk_int 1 <| jk_icmpne (K 101) <| jk_aload 0 <| jk_get [1, 2, 3, 4, 5, 6, 7, 8] 5 <| jk_aload 0 <| jk_get [1, 2, 3, 4, 5, 6, 7, 8] 4 <| jk_alen <| jk_icmpge (K 101) <| jk_aload 0 <| jk_get [1, 2, 3, 4, 5, 6, 7, 8] 4 <| jk_aload 0 <| jk_get [1, 2, 3, 4, 5, 6, 7, 8] 5 <| jk_aload 1 <| jk_aast 25 <| jk_aload 0 <| jk_dup <| jk_get [1, 2, 3, 4, 5, 6, 7, 8] 5 <| jk_int 1 <| jk_iadd <| jk_puti [1, 2, 3, 4, 5, 6, 7, 8] 5 <| jk_aload 1 <| jk_get [9] 0 <| jk_aload 1 <| jk_puta [0] 4 <| jk_aload 1 <| jk_get [9] 0 <| jk_get [0] 5 <| jk_ifeq (K 107) <| jk_aload 1 <| jk_get [9] 0 <| jk_int 0 <| jk_putz [0] 5 <| jk_aload 0 <| jk_aload 1 <| jk_int 2 <| jk_iload 2 <| jk_vcall [(1, fX2_giveUp n), (2, fX2_giveUp n), (3, fX2_giveUp n), (4, fX2_giveUp n), (5, fX2_giveUp n), (6, fX2_giveUp n), (7, fX2_giveUp n), (8, fX2_giveUp n)] 3 <| K 107
set_option maxRecDepth 100000 in
set_option maxHeartbeats 4000000 in
theorem tX2_serve_22 (l : Launch) (n : Nat) {K : Nat → jK} (hK : ∀ b, jr_D l cX2_serve 3 "MeetingKit$Device" (Option.none : Option Jvm.ClassFile.FieldType) "serve" 5 113 (K b) b) : jr_D l cX2_serve 3 "MeetingKit$Device" (Option.none : Option Jvm.ClassFile.FieldType) "serve" 5 113 (kX2_serve_22 n K) 22 := by
  unfold kX2_serve_22
  refine js_puti dX2_serve_22 jf_5_9 rfl tw_476 (Or.inl rfl) ?_
  refine js_aload_n dX2_serve_25 ?_
  refine js_get dX2_serve_26 jf_5_9 tw_476 (Or.inl rfl) ?_
  refine js_iconst dX2_serve_29 ?_
  refine js_icmpne (tgt := 101) dX2_serve_30 (by decide) ?_ ?_
  · exact hK 101
  · refine js_aload_n dX2_serve_33 ?_
    refine js_get dX2_serve_34 jf_5_1_2_3_4_5_6_7_8 tw_202 (Or.inl rfl) ?_
    refine js_aload_n dX2_serve_37 ?_
    refine js_get dX2_serve_38 jf_4_1_2_3_4_5_6_7_8 tw_191 (Or.inl rfl) ?_
    refine js_alen dX2_serve_41 ?_
    refine js_icmpge (tgt := 101) dX2_serve_42 (by decide) ?_ ?_
    · exact hK 101
    · refine js_aload_n dX2_serve_45 ?_
      refine js_get dX2_serve_46 jf_4_1_2_3_4_5_6_7_8 tw_191 (Or.inl rfl) ?_
      refine js_aload_n dX2_serve_49 ?_
      refine js_get dX2_serve_50 jf_5_1_2_3_4_5_6_7_8 tw_202 (Or.inl rfl) ?_
      refine js_aload_n dX2_serve_53 ?_
      refine js_aast rfl (by decide) may_25 dX2_serve_54 ?_
      refine js_aload_n dX2_serve_55 ?_
      refine js_dup dX2_serve_56 ?_
      refine js_get dX2_serve_57 jf_5_1_2_3_4_5_6_7_8 tw_202 (Or.inl rfl) ?_
      refine js_iconst dX2_serve_60 ?_
      refine js_iadd dX2_serve_61 ?_
      refine js_puti dX2_serve_62 jf_5_1_2_3_4_5_6_7_8 rfl tw_202 (Or.inl rfl) ?_
      refine js_aload_n dX2_serve_65 ?_
      refine js_get dX2_serve_66 jf_0_9 tw_452 (Or.inl rfl) ?_
      refine js_aload_n dX2_serve_69 ?_
      refine js_puta dX2_serve_70 jf_4_0 (Or.inl ⟨_, rfl⟩) tw_407 (Or.inl rfl) ?_
      refine js_aload_n dX2_serve_73 ?_
      refine js_get dX2_serve_74 jf_0_9 tw_452 (Or.inl rfl) ?_
      refine js_get dX2_serve_77 jf_5_0 tw_409 (Or.inl rfl) ?_
      refine js_ifeq (tgt := 107) dX2_serve_80 (by decide) ?_ ?_
      · exact hK 107
      · refine js_aload_n dX2_serve_83 ?_
        refine js_get dX2_serve_84 jf_0_9 tw_452 (Or.inl rfl) ?_
        refine js_iconst dX2_serve_87 ?_
        refine js_putz dX2_serve_88 jf_5_0 rfl tw_409 (Or.inl rfl) ?_
        refine js_aload_n dX2_serve_91 ?_
        refine js_aload_n dX2_serve_92 ?_
        refine js_iconst dX2_serve_93 ?_
        refine js_iload_n dX2_serve_94 ?_
        refine js_callv dX2_serve_95 (⟨⟨_, _, _, _, _, _, _, ⟨rfl, (show (1 : Nat) < 20 by decide), sX2_giveUp l n, by decide, by decide, tw_560, tw_104, tw_550⟩, Or.inr ⟨⟨"MeetingKit$Device", "giveUp", "(LMeetingKit$Step;II)V"⟩, "MeetingKit$Device", by decide +kernel, by decide +kernel, by decide +kernel, tw_881, tw_551, tw_552, Or.inl ⟨_, _, _, tw_550, tw_560⟩⟩⟩, ⟨⟨_, _, _, _, _, _, _, ⟨rfl, (show (2 : Nat) < 20 by decide), sX2_giveUp l n, by decide, by decide, tw_560, tw_104, tw_550⟩, Or.inr ⟨⟨"MeetingKit$Device", "giveUp", "(LMeetingKit$Step;II)V"⟩, "MeetingKit$Device", by decide +kernel, by decide +kernel, by decide +kernel, tw_881, tw_551, tw_553, Or.inl ⟨_, _, _, tw_550, tw_560⟩⟩⟩, ⟨⟨_, _, _, _, _, _, _, ⟨rfl, (show (3 : Nat) < 20 by decide), sX2_giveUp l n, by decide, by decide, tw_560, tw_104, tw_550⟩, Or.inr ⟨⟨"MeetingKit$Device", "giveUp", "(LMeetingKit$Step;II)V"⟩, "MeetingKit$Device", by decide +kernel, by decide +kernel, by decide +kernel, tw_881, tw_551, tw_554, Or.inl ⟨_, _, _, tw_550, tw_560⟩⟩⟩, ⟨⟨_, _, _, _, _, _, _, ⟨rfl, (show (4 : Nat) < 20 by decide), sX2_giveUp l n, by decide, by decide, tw_560, tw_104, tw_550⟩, Or.inr ⟨⟨"MeetingKit$Device", "giveUp", "(LMeetingKit$Step;II)V"⟩, "MeetingKit$Device", by decide +kernel, by decide +kernel, by decide +kernel, tw_881, tw_551, tw_555, Or.inl ⟨_, _, _, tw_550, tw_560⟩⟩⟩, ⟨⟨_, _, _, _, _, _, _, ⟨rfl, (show (5 : Nat) < 20 by decide), sX2_giveUp l n, by decide, by decide, tw_560, tw_104, tw_550⟩, Or.inr ⟨⟨"MeetingKit$Device", "giveUp", "(LMeetingKit$Step;II)V"⟩, "MeetingKit$Device", by decide +kernel, by decide +kernel, by decide +kernel, tw_881, tw_551, tw_556, Or.inl ⟨_, _, _, tw_550, tw_560⟩⟩⟩, ⟨⟨_, _, _, _, _, _, _, ⟨rfl, (show (6 : Nat) < 20 by decide), sX2_giveUp l n, by decide, by decide, tw_560, tw_104, tw_550⟩, Or.inr ⟨⟨"MeetingKit$Device", "giveUp", "(LMeetingKit$Step;II)V"⟩, "MeetingKit$Device", by decide +kernel, by decide +kernel, by decide +kernel, tw_881, tw_551, tw_557, Or.inl ⟨_, _, _, tw_550, tw_560⟩⟩⟩, ⟨⟨_, _, _, _, _, _, _, ⟨rfl, (show (7 : Nat) < 20 by decide), sX2_giveUp l n, by decide, by decide, tw_560, tw_104, tw_550⟩, Or.inr ⟨⟨"MeetingKit$Device", "giveUp", "(LMeetingKit$Step;II)V"⟩, "MeetingKit$Device", by decide +kernel, by decide +kernel, by decide +kernel, tw_881, tw_551, tw_558, Or.inl ⟨_, _, _, tw_550, tw_560⟩⟩⟩, ⟨⟨_, _, _, _, _, _, _, ⟨rfl, (show (8 : Nat) < 20 by decide), sX2_giveUp l n, by decide, by decide, tw_560, tw_104, tw_550⟩, Or.inr ⟨⟨"MeetingKit$Device", "giveUp", "(LMeetingKit$Step;II)V"⟩, "MeetingKit$Device", by decide +kernel, by decide +kernel, by decide +kernel, tw_881, tw_551, tw_559, Or.inl ⟨_, _, _, tw_550, tw_560⟩⟩⟩, trivial⟩⟩⟩⟩⟩⟩⟩⟩) ?_
        refine js_goto (tgt := 107) dX2_serve_98 (by decide) ?_
        exact hK 107
def kX2_serve_101 (n : Nat) (K : Nat → jK) : jK := jk_aload 0 <| jk_aload 1 <| jk_iload 2 <| jk_vcall [(1, fX2_finish n), (2, fX2_finish n), (3, fX2_finish n), (4, fX2_finish n), (5, fX2_finish n), (6, fX2_finish n), (7, fX2_finish n), (8, fX2_finish n)] 2 <| K 107
set_option maxRecDepth 100000 in
set_option maxHeartbeats 4000000 in
theorem tX2_serve_101 (l : Launch) (n : Nat) {K : Nat → jK} (hK : ∀ b, jr_D l cX2_serve 3 "MeetingKit$Device" (Option.none : Option Jvm.ClassFile.FieldType) "serve" 5 113 (K b) b) : jr_D l cX2_serve 3 "MeetingKit$Device" (Option.none : Option Jvm.ClassFile.FieldType) "serve" 5 113 (kX2_serve_101 n K) 101 := by
  unfold kX2_serve_101
  refine js_aload_n dX2_serve_101 ?_
  refine js_aload_n dX2_serve_102 ?_
  refine js_iload_n dX2_serve_103 ?_
  refine js_callv dX2_serve_104 (⟨⟨_, _, _, _, _, _, _, ⟨rfl, (show (1 : Nat) < 20 by decide), sX2_finish l n, by decide, by decide, tw_693, tw_104, tw_692⟩, Or.inr ⟨⟨"MeetingKit$Device", "finish", "(LMeetingKit$Step;I)V"⟩, "MeetingKit$Device", by decide +kernel, by decide +kernel, by decide +kernel, tw_690, tw_1311, tw_3, Or.inl ⟨_, _, _, tw_692, tw_693⟩⟩⟩, ⟨⟨_, _, _, _, _, _, _, ⟨rfl, (show (2 : Nat) < 20 by decide), sX2_finish l n, by decide, by decide, tw_693, tw_104, tw_692⟩, Or.inr ⟨⟨"MeetingKit$Device", "finish", "(LMeetingKit$Step;I)V"⟩, "MeetingKit$Device", by decide +kernel, by decide +kernel, by decide +kernel, tw_690, tw_1311, tw_5, Or.inl ⟨_, _, _, tw_692, tw_693⟩⟩⟩, ⟨⟨_, _, _, _, _, _, _, ⟨rfl, (show (3 : Nat) < 20 by decide), sX2_finish l n, by decide, by decide, tw_693, tw_104, tw_692⟩, Or.inr ⟨⟨"MeetingKit$Device", "finish", "(LMeetingKit$Step;I)V"⟩, "MeetingKit$Device", by decide +kernel, by decide +kernel, by decide +kernel, tw_690, tw_1311, tw_9, Or.inl ⟨_, _, _, tw_692, tw_693⟩⟩⟩, ⟨⟨_, _, _, _, _, _, _, ⟨rfl, (show (4 : Nat) < 20 by decide), sX2_finish l n, by decide, by decide, tw_693, tw_104, tw_692⟩, Or.inr ⟨⟨"MeetingKit$Device", "finish", "(LMeetingKit$Step;I)V"⟩, "MeetingKit$Device", by decide +kernel, by decide +kernel, by decide +kernel, tw_690, tw_1311, tw_7, Or.inl ⟨_, _, _, tw_692, tw_693⟩⟩⟩, ⟨⟨_, _, _, _, _, _, _, ⟨rfl, (show (5 : Nat) < 20 by decide), sX2_finish l n, by decide, by decide, tw_693, tw_104, tw_692⟩, Or.inr ⟨⟨"MeetingKit$Device", "finish", "(LMeetingKit$Step;I)V"⟩, "MeetingKit$Device", by decide +kernel, by decide +kernel, by decide +kernel, tw_690, tw_1311, tw_13, Or.inl ⟨_, _, _, tw_692, tw_693⟩⟩⟩, ⟨⟨_, _, _, _, _, _, _, ⟨rfl, (show (6 : Nat) < 20 by decide), sX2_finish l n, by decide, by decide, tw_693, tw_104, tw_692⟩, Or.inr ⟨⟨"MeetingKit$Device", "finish", "(LMeetingKit$Step;I)V"⟩, "MeetingKit$Device", by decide +kernel, by decide +kernel, by decide +kernel, tw_690, tw_1311, tw_1, Or.inl ⟨_, _, _, tw_692, tw_693⟩⟩⟩, ⟨⟨_, _, _, _, _, _, _, ⟨rfl, (show (7 : Nat) < 20 by decide), sX2_finish l n, by decide, by decide, tw_693, tw_104, tw_692⟩, Or.inr ⟨⟨"MeetingKit$Device", "finish", "(LMeetingKit$Step;I)V"⟩, "MeetingKit$Device", by decide +kernel, by decide +kernel, by decide +kernel, tw_690, tw_1311, tw_11, Or.inl ⟨_, _, _, tw_692, tw_693⟩⟩⟩, ⟨⟨_, _, _, _, _, _, _, ⟨rfl, (show (8 : Nat) < 20 by decide), sX2_finish l n, by decide, by decide, tw_693, tw_104, tw_692⟩, Or.inr ⟨⟨"MeetingKit$Device", "finish", "(LMeetingKit$Step;I)V"⟩, "MeetingKit$Device", by decide +kernel, by decide +kernel, by decide +kernel, tw_690, tw_1311, tw_15, Or.inl ⟨_, _, _, tw_692, tw_693⟩⟩⟩, trivial⟩⟩⟩⟩⟩⟩⟩⟩) ?_
  exact hK 107
def kX2_serve_107 (n : Nat) (K : Nat → jK) : jK := jk_kill 1 <| jk_aload 0 <| jk_vcall [(1, fX2_letOthersGo n), (2, fX2_letOthersGo n), (3, fX2_letOthersGo n), (4, fX5_letOthersGo n), (5, fX6_letOthersGo n), (6, fX7_letOthersGo n), (7, fX2_letOthersGo n), (8, fX9_letOthersGo n)] 0 <| jk_aload 0 <| jk_iload 2 <| jk_vcall [(1, fX2_sweep n), (2, fX2_sweep n), (3, fX2_sweep n), (4, fX2_sweep n), (5, fX2_sweep n), (6, fX2_sweep n), (7, fX2_sweep n), (8, fX2_sweep n)] 1 <| jk_vret
set_option maxRecDepth 100000 in
set_option maxHeartbeats 4000000 in
theorem tX2_serve_107 (l : Launch) (n : Nat) {K : Nat → jK} (hK : ∀ b, jr_D l cX2_serve 3 "MeetingKit$Device" (Option.none : Option Jvm.ClassFile.FieldType) "serve" 5 113 (K b) b) : jr_D l cX2_serve 3 "MeetingKit$Device" (Option.none : Option Jvm.ClassFile.FieldType) "serve" 5 113 (kX2_serve_107 n K) 107 := by
  unfold kX2_serve_107
  refine js_kill ?_
  refine js_aload_n dX2_serve_107 ?_
  refine js_callv dX2_serve_108 (⟨⟨_, _, _, _, _, _, _, ⟨rfl, (show (1 : Nat) < 20 by decide), sX2_letOthersGo l n, by decide, by decide, tw_684, tw_104, tw_594⟩, Or.inr ⟨⟨"MeetingKit$Device", "letOthersGo", "()V"⟩, "MeetingKit$Device", by decide +kernel, by decide +kernel, by decide +kernel, tw_593, tw_595, tw_596, Or.inl ⟨_, _, _, tw_594, tw_684⟩⟩⟩, ⟨⟨_, _, _, _, _, _, _, ⟨rfl, (show (2 : Nat) < 20 by decide), sX2_letOthersGo l n, by decide, by decide, tw_684, tw_104, tw_594⟩, Or.inr ⟨⟨"MeetingKit$Device", "letOthersGo", "()V"⟩, "MeetingKit$Device", by decide +kernel, by decide +kernel, by decide +kernel, tw_593, tw_595, tw_597, Or.inl ⟨_, _, _, tw_594, tw_684⟩⟩⟩, ⟨⟨_, _, _, _, _, _, _, ⟨rfl, (show (3 : Nat) < 20 by decide), sX2_letOthersGo l n, by decide, by decide, tw_684, tw_104, tw_594⟩, Or.inr ⟨⟨"MeetingKit$Device", "letOthersGo", "()V"⟩, "MeetingKit$Device", by decide +kernel, by decide +kernel, by decide +kernel, tw_593, tw_595, tw_598, Or.inl ⟨_, _, _, tw_594, tw_684⟩⟩⟩, ⟨⟨_, _, _, _, _, _, _, ⟨rfl, (show (4 : Nat) < 20 by decide), sX5_letOthersGo l n, by decide, by decide, tw_601, tw_108, tw_600⟩, Or.inr ⟨⟨"MeetingKit$Device", "letOthersGo", "()V"⟩, "MeetingKit$Device", by decide +kernel, by decide +kernel, by decide +kernel, tw_593, tw_595, tw_599, Or.inl ⟨_, _, _, tw_594, tw_684⟩⟩⟩, ⟨⟨_, _, _, _, _, _, _, ⟨rfl, (show (5 : Nat) < 20 by decide), sX6_letOthersGo l n, by decide, by decide, tw_642, tw_112, tw_641⟩, Or.inr ⟨⟨"MeetingKit$Device", "letOthersGo", "()V"⟩, "MeetingKit$Device", by decide +kernel, by decide +kernel, by decide +kernel, tw_593, tw_595, tw_640, Or.inl ⟨_, _, _, tw_594, tw_684⟩⟩⟩, ⟨⟨_, _, _, _, _, _, _, ⟨rfl, (show (6 : Nat) < 20 by decide), sX7_letOthersGo l n, by decide, by decide, tw_659, tw_105, tw_658⟩, Or.inr ⟨⟨"MeetingKit$Device", "letOthersGo", "()V"⟩, "MeetingKit$Device", by decide +kernel, by decide +kernel, by decide +kernel, tw_593, tw_595, tw_657, Or.inl ⟨_, _, _, tw_594, tw_684⟩⟩⟩, ⟨⟨_, _, _, _, _, _, _, ⟨rfl, (show (7 : Nat) < 20 by decide), sX2_letOthersGo l n, by decide, by decide, tw_684, tw_104, tw_594⟩, Or.inr ⟨⟨"MeetingKit$Device", "letOthersGo", "()V"⟩, "MeetingKit$Device", by decide +kernel, by decide +kernel, by decide +kernel, tw_593, tw_595, tw_668, Or.inl ⟨_, _, _, tw_594, tw_684⟩⟩⟩, ⟨⟨_, _, _, _, _, _, _, ⟨rfl, (show (8 : Nat) < 20 by decide), sX9_letOthersGo l n, by decide, by decide, tw_671, tw_113, tw_670⟩, Or.inr ⟨⟨"MeetingKit$Device", "letOthersGo", "()V"⟩, "MeetingKit$Device", by decide +kernel, by decide +kernel, by decide +kernel, tw_593, tw_595, tw_669, Or.inl ⟨_, _, _, tw_594, tw_684⟩⟩⟩, trivial⟩⟩⟩⟩⟩⟩⟩⟩) ?_
  refine js_aload_n dX2_serve_111 ?_
  refine js_iload_n dX2_serve_112 ?_
  refine js_callv dX2_serve_113 (⟨⟨_, _, _, _, _, _, _, ⟨rfl, (show (1 : Nat) < 20 by decide), sX2_sweep l n, by decide, by decide, tw_688, tw_104, tw_687⟩, Or.inr ⟨⟨"MeetingKit$Device", "sweep", "(I)V"⟩, "MeetingKit$Device", by decide +kernel, by decide +kernel, by decide +kernel, tw_685, tw_1301, tw_2, Or.inl ⟨_, _, _, tw_687, tw_688⟩⟩⟩, ⟨⟨_, _, _, _, _, _, _, ⟨rfl, (show (2 : Nat) < 20 by decide), sX2_sweep l n, by decide, by decide, tw_688, tw_104, tw_687⟩, Or.inr ⟨⟨"MeetingKit$Device", "sweep", "(I)V"⟩, "MeetingKit$Device", by decide +kernel, by decide +kernel, by decide +kernel, tw_685, tw_1301, tw_4, Or.inl ⟨_, _, _, tw_687, tw_688⟩⟩⟩, ⟨⟨_, _, _, _, _, _, _, ⟨rfl, (show (3 : Nat) < 20 by decide), sX2_sweep l n, by decide, by decide, tw_688, tw_104, tw_687⟩, Or.inr ⟨⟨"MeetingKit$Device", "sweep", "(I)V"⟩, "MeetingKit$Device", by decide +kernel, by decide +kernel, by decide +kernel, tw_685, tw_1301, tw_8, Or.inl ⟨_, _, _, tw_687, tw_688⟩⟩⟩, ⟨⟨_, _, _, _, _, _, _, ⟨rfl, (show (4 : Nat) < 20 by decide), sX2_sweep l n, by decide, by decide, tw_688, tw_104, tw_687⟩, Or.inr ⟨⟨"MeetingKit$Device", "sweep", "(I)V"⟩, "MeetingKit$Device", by decide +kernel, by decide +kernel, by decide +kernel, tw_685, tw_1301, tw_6, Or.inl ⟨_, _, _, tw_687, tw_688⟩⟩⟩, ⟨⟨_, _, _, _, _, _, _, ⟨rfl, (show (5 : Nat) < 20 by decide), sX2_sweep l n, by decide, by decide, tw_688, tw_104, tw_687⟩, Or.inr ⟨⟨"MeetingKit$Device", "sweep", "(I)V"⟩, "MeetingKit$Device", by decide +kernel, by decide +kernel, by decide +kernel, tw_685, tw_1301, tw_12, Or.inl ⟨_, _, _, tw_687, tw_688⟩⟩⟩, ⟨⟨_, _, _, _, _, _, _, ⟨rfl, (show (6 : Nat) < 20 by decide), sX2_sweep l n, by decide, by decide, tw_688, tw_104, tw_687⟩, Or.inr ⟨⟨"MeetingKit$Device", "sweep", "(I)V"⟩, "MeetingKit$Device", by decide +kernel, by decide +kernel, by decide +kernel, tw_685, tw_1301, tw_0, Or.inl ⟨_, _, _, tw_687, tw_688⟩⟩⟩, ⟨⟨_, _, _, _, _, _, _, ⟨rfl, (show (7 : Nat) < 20 by decide), sX2_sweep l n, by decide, by decide, tw_688, tw_104, tw_687⟩, Or.inr ⟨⟨"MeetingKit$Device", "sweep", "(I)V"⟩, "MeetingKit$Device", by decide +kernel, by decide +kernel, by decide +kernel, tw_685, tw_1301, tw_10, Or.inl ⟨_, _, _, tw_687, tw_688⟩⟩⟩, ⟨⟨_, _, _, _, _, _, _, ⟨rfl, (show (8 : Nat) < 20 by decide), sX2_sweep l n, by decide, by decide, tw_688, tw_104, tw_687⟩, Or.inr ⟨⟨"MeetingKit$Device", "sweep", "(I)V"⟩, "MeetingKit$Device", by decide +kernel, by decide +kernel, by decide +kernel, tw_685, tw_1301, tw_14, Or.inl ⟨_, _, _, tw_687, tw_688⟩⟩⟩, trivial⟩⟩⟩⟩⟩⟩⟩⟩) ?_
  exact js_vret dX2_serve_116 rfl
def kX2_serve_b (n : Nat) (K : Nat → jK) (b : Nat) : jK := if b = 0 then kX2_serve_0 n K else if b = 22 then kX2_serve_22 n K else if b = 101 then kX2_serve_101 n K else if b = 107 then kX2_serve_107 n K else jk_none
def kX2_serve (n : Nat) : jK := jk_fix (kX2_serve_b n) n 0
theorem tX2_serve (l : Launch) (n : Nat) : jr_D l cX2_serve 3 "MeetingKit$Device" (Option.none : Option Jvm.ClassFile.FieldType) "serve" 5 113 (kX2_serve n) 0 := js_fix (F := kX2_serve_b n) (fun K hK b => js_blk (tX2_serve_0 l n hK) (js_blk (tX2_serve_22 l n hK) (js_blk (tX2_serve_101 l n hK) (js_blk (tX2_serve_107 l n hK) (js_none))))) n 0
def fX2_serve (n : Nat) : jF := jm_run 3 3 (kX2_serve n)
theorem sX2_serve (l : Launch) (n : Nat) : jr_F l (⟨"MeetingKit$Device", "serve", "(LMeetingKit$Step;I)V"⟩ : MethodName) cX2_serve 3 (Option.none : Option Jvm.ClassFile.FieldType) 5 113 (fX2_serve n) := js_met (by decide +kernel) (by decide) (tX2_serve l n)
theorem dX2_shut_0 : decode cX2_shut 0 = .ok (.aload_n 0, 1) := by decide +kernel
theorem dX2_shut_1 : decode cX2_shut 1 = .ok (.iconst 1, 1) := by decide +kernel
theorem dX2_shut_2 : decode cX2_shut 2 = .ok (.putfield 31, 3) := by decide +kernel
theorem dX2_shut_5 : decode cX2_shut 5 = .ok (.aload_n 0, 1) := by decide +kernel
theorem dX2_shut_6 : decode cX2_shut 6 = .ok (.iconst 4, 1) := by decide +kernel
theorem dX2_shut_7 : decode cX2_shut 7 = .ok (.invokevirtual 76, 3) := by decide +kernel
theorem dX2_shut_10 : decode cX2_shut 10 = .ok (.aload_n 0, 1) := by decide +kernel
theorem dX2_shut_11 : decode cX2_shut 11 = .ok (.iload_n 1, 1) := by decide +kernel
theorem dX2_shut_12 : decode cX2_shut 12 = .ok (.invokevirtual 69, 3) := by decide +kernel
theorem dX2_shut_15 : decode cX2_shut 15 = .ok (.return_, 1) := by decide +kernel
def kX2_shut (n : Nat) : jK := jk_aload 0 <| jk_int 1 <| jk_putz [1, 2, 3, 4, 5, 6, 7, 8] 3 <| jk_aload 0 <| jk_int 4 <| jk_vcall [(1, fX2_endAll n), (2, fX2_endAll n), (3, fX2_endAll n), (4, fX2_endAll n), (5, fX2_endAll n), (6, fX2_endAll n), (7, fX2_endAll n), (8, fX2_endAll n)] 1 <| jk_aload 0 <| jk_iload 1 <| jk_vcall [(1, fX2_sweep n), (2, fX2_sweep n), (3, fX2_sweep n), (4, fX2_sweep n), (5, fX2_sweep n), (6, fX2_sweep n), (7, fX2_sweep n), (8, fX2_sweep n)] 1 <| jk_vret
set_option maxRecDepth 100000 in
set_option maxHeartbeats 4000000 in
theorem tX2_shut (l : Launch) (n : Nat) : jr_D l cX2_shut 2 "MeetingKit$Device" (Option.none : Option Jvm.ClassFile.FieldType) "shut" 2 46 (kX2_shut n) 0 := by
  unfold kX2_shut
  refine js_aload_n dX2_shut_0 ?_
  refine js_iconst dX2_shut_1 ?_
  refine js_putz dX2_shut_2 jf_3_1_2_3_4_5_6_7_8 rfl tw_189 (Or.inl rfl) ?_
  refine js_aload_n dX2_shut_5 ?_
  refine js_iconst dX2_shut_6 ?_
  refine js_callv dX2_shut_7 (⟨⟨_, _, _, _, _, _, _, ⟨rfl, (show (1 : Nat) < 20 by decide), sX2_endAll l n, by decide, by decide, tw_572, tw_104, tw_571⟩, Or.inr ⟨⟨"MeetingKit$Device", "endAll", "(I)V"⟩, "MeetingKit$Device", by decide +kernel, by decide +kernel, by decide +kernel, tw_710, tw_1312, tw_1313, Or.inl ⟨_, _, _, tw_571, tw_572⟩⟩⟩, ⟨⟨_, _, _, _, _, _, _, ⟨rfl, (show (2 : Nat) < 20 by decide), sX2_endAll l n, by decide, by decide, tw_572, tw_104, tw_571⟩, Or.inr ⟨⟨"MeetingKit$Device", "endAll", "(I)V"⟩, "MeetingKit$Device", by decide +kernel, by decide +kernel, by decide +kernel, tw_710, tw_1312, tw_1314, Or.inl ⟨_, _, _, tw_571, tw_572⟩⟩⟩, ⟨⟨_, _, _, _, _, _, _, ⟨rfl, (show (3 : Nat) < 20 by decide), sX2_endAll l n, by decide, by decide, tw_572, tw_104, tw_571⟩, Or.inr ⟨⟨"MeetingKit$Device", "endAll", "(I)V"⟩, "MeetingKit$Device", by decide +kernel, by decide +kernel, by decide +kernel, tw_710, tw_1312, tw_1315, Or.inl ⟨_, _, _, tw_571, tw_572⟩⟩⟩, ⟨⟨_, _, _, _, _, _, _, ⟨rfl, (show (4 : Nat) < 20 by decide), sX2_endAll l n, by decide, by decide, tw_572, tw_104, tw_571⟩, Or.inr ⟨⟨"MeetingKit$Device", "endAll", "(I)V"⟩, "MeetingKit$Device", by decide +kernel, by decide +kernel, by decide +kernel, tw_710, tw_1312, tw_1316, Or.inl ⟨_, _, _, tw_571, tw_572⟩⟩⟩, ⟨⟨_, _, _, _, _, _, _, ⟨rfl, (show (5 : Nat) < 20 by decide), sX2_endAll l n, by decide, by decide, tw_572, tw_104, tw_571⟩, Or.inr ⟨⟨"MeetingKit$Device", "endAll", "(I)V"⟩, "MeetingKit$Device", by decide +kernel, by decide +kernel, by decide +kernel, tw_710, tw_1312, tw_1317, Or.inl ⟨_, _, _, tw_571, tw_572⟩⟩⟩, ⟨⟨_, _, _, _, _, _, _, ⟨rfl, (show (6 : Nat) < 20 by decide), sX2_endAll l n, by decide, by decide, tw_572, tw_104, tw_571⟩, Or.inr ⟨⟨"MeetingKit$Device", "endAll", "(I)V"⟩, "MeetingKit$Device", by decide +kernel, by decide +kernel, by decide +kernel, tw_710, tw_1312, tw_1318, Or.inl ⟨_, _, _, tw_571, tw_572⟩⟩⟩, ⟨⟨_, _, _, _, _, _, _, ⟨rfl, (show (7 : Nat) < 20 by decide), sX2_endAll l n, by decide, by decide, tw_572, tw_104, tw_571⟩, Or.inr ⟨⟨"MeetingKit$Device", "endAll", "(I)V"⟩, "MeetingKit$Device", by decide +kernel, by decide +kernel, by decide +kernel, tw_710, tw_1312, tw_1319, Or.inl ⟨_, _, _, tw_571, tw_572⟩⟩⟩, ⟨⟨_, _, _, _, _, _, _, ⟨rfl, (show (8 : Nat) < 20 by decide), sX2_endAll l n, by decide, by decide, tw_572, tw_104, tw_571⟩, Or.inr ⟨⟨"MeetingKit$Device", "endAll", "(I)V"⟩, "MeetingKit$Device", by decide +kernel, by decide +kernel, by decide +kernel, tw_710, tw_1312, tw_1320, Or.inl ⟨_, _, _, tw_571, tw_572⟩⟩⟩, trivial⟩⟩⟩⟩⟩⟩⟩⟩) ?_
  refine js_aload_n dX2_shut_10 ?_
  refine js_iload_n dX2_shut_11 ?_
  refine js_callv dX2_shut_12 (⟨⟨_, _, _, _, _, _, _, ⟨rfl, (show (1 : Nat) < 20 by decide), sX2_sweep l n, by decide, by decide, tw_688, tw_104, tw_687⟩, Or.inr ⟨⟨"MeetingKit$Device", "sweep", "(I)V"⟩, "MeetingKit$Device", by decide +kernel, by decide +kernel, by decide +kernel, tw_685, tw_1301, tw_2, Or.inl ⟨_, _, _, tw_687, tw_688⟩⟩⟩, ⟨⟨_, _, _, _, _, _, _, ⟨rfl, (show (2 : Nat) < 20 by decide), sX2_sweep l n, by decide, by decide, tw_688, tw_104, tw_687⟩, Or.inr ⟨⟨"MeetingKit$Device", "sweep", "(I)V"⟩, "MeetingKit$Device", by decide +kernel, by decide +kernel, by decide +kernel, tw_685, tw_1301, tw_4, Or.inl ⟨_, _, _, tw_687, tw_688⟩⟩⟩, ⟨⟨_, _, _, _, _, _, _, ⟨rfl, (show (3 : Nat) < 20 by decide), sX2_sweep l n, by decide, by decide, tw_688, tw_104, tw_687⟩, Or.inr ⟨⟨"MeetingKit$Device", "sweep", "(I)V"⟩, "MeetingKit$Device", by decide +kernel, by decide +kernel, by decide +kernel, tw_685, tw_1301, tw_8, Or.inl ⟨_, _, _, tw_687, tw_688⟩⟩⟩, ⟨⟨_, _, _, _, _, _, _, ⟨rfl, (show (4 : Nat) < 20 by decide), sX2_sweep l n, by decide, by decide, tw_688, tw_104, tw_687⟩, Or.inr ⟨⟨"MeetingKit$Device", "sweep", "(I)V"⟩, "MeetingKit$Device", by decide +kernel, by decide +kernel, by decide +kernel, tw_685, tw_1301, tw_6, Or.inl ⟨_, _, _, tw_687, tw_688⟩⟩⟩, ⟨⟨_, _, _, _, _, _, _, ⟨rfl, (show (5 : Nat) < 20 by decide), sX2_sweep l n, by decide, by decide, tw_688, tw_104, tw_687⟩, Or.inr ⟨⟨"MeetingKit$Device", "sweep", "(I)V"⟩, "MeetingKit$Device", by decide +kernel, by decide +kernel, by decide +kernel, tw_685, tw_1301, tw_12, Or.inl ⟨_, _, _, tw_687, tw_688⟩⟩⟩, ⟨⟨_, _, _, _, _, _, _, ⟨rfl, (show (6 : Nat) < 20 by decide), sX2_sweep l n, by decide, by decide, tw_688, tw_104, tw_687⟩, Or.inr ⟨⟨"MeetingKit$Device", "sweep", "(I)V"⟩, "MeetingKit$Device", by decide +kernel, by decide +kernel, by decide +kernel, tw_685, tw_1301, tw_0, Or.inl ⟨_, _, _, tw_687, tw_688⟩⟩⟩, ⟨⟨_, _, _, _, _, _, _, ⟨rfl, (show (7 : Nat) < 20 by decide), sX2_sweep l n, by decide, by decide, tw_688, tw_104, tw_687⟩, Or.inr ⟨⟨"MeetingKit$Device", "sweep", "(I)V"⟩, "MeetingKit$Device", by decide +kernel, by decide +kernel, by decide +kernel, tw_685, tw_1301, tw_10, Or.inl ⟨_, _, _, tw_687, tw_688⟩⟩⟩, ⟨⟨_, _, _, _, _, _, _, ⟨rfl, (show (8 : Nat) < 20 by decide), sX2_sweep l n, by decide, by decide, tw_688, tw_104, tw_687⟩, Or.inr ⟨⟨"MeetingKit$Device", "sweep", "(I)V"⟩, "MeetingKit$Device", by decide +kernel, by decide +kernel, by decide +kernel, tw_685, tw_1301, tw_14, Or.inl ⟨_, _, _, tw_687, tw_688⟩⟩⟩, trivial⟩⟩⟩⟩⟩⟩⟩⟩) ?_
  exact js_vret dX2_shut_15 rfl
def fX2_shut (n : Nat) : jF := jm_run 2 2 (kX2_shut n)
theorem sX2_shut (l : Launch) (n : Nat) : jr_F l (⟨"MeetingKit$Device", "shut", "(I)V"⟩ : MethodName) cX2_shut 2 (Option.none : Option Jvm.ClassFile.FieldType) 2 46 (fX2_shut n) := js_met (by decide +kernel) (by decide) (tX2_shut l n)
theorem dX3_init_0 : decode cX3_init 0 = .ok (.aload_n 0, 1) := by decide +kernel
theorem dX3_init_1 : decode cX3_init 1 = .ok (.iconst 4, 1) := by decide +kernel
theorem dX3_init_2 : decode cX3_init 2 = .ok (.iload_n 1, 1) := by decide +kernel
theorem dX3_init_3 : decode cX3_init 3 = .ok (.invokespecial 3, 3) := by decide +kernel
theorem dX3_init_6 : decode cX3_init 6 = .ok (.return_, 1) := by decide +kernel
def kX3_init (n : Nat) : jK := jk_aload 0 <| jk_int 4 <| jk_iload 1 <| jk_icall (fX2_init n) 2 <| jk_vret
set_option maxRecDepth 100000 in
set_option maxHeartbeats 4000000 in
theorem tX3_init (l : Launch) (n : Nat) : jr_D l cX3_init 2 "MeetingKit$Exchange" (Option.none : Option Jvm.ClassFile.FieldType) "<init>" 2 42 (kX3_init n) 0 := by
  unfold kX3_init
  refine js_aload_n dX3_init_0 ?_
  refine js_iconst dX3_init_1 ?_
  refine js_iload_n dX3_init_2 ?_
  refine js_calli (sX2_init l n) dX3_init_3 (by decide) (by decide) tw_257 tw_174 tw_104 tw_175 rfl (by decide +kernel) ?_
  exact js_vret dX3_init_6 rfl
def fX3_init (n : Nat) : jF := jm_run 2 2 (kX3_init n)
theorem sX3_init (l : Launch) (n : Nat) : jr_F l (⟨"MeetingKit$Exchange", "<init>", "(I)V"⟩ : MethodName) cX3_init 2 (Option.none : Option Jvm.ClassFile.FieldType) 2 42 (fX3_init n) := js_met (by decide +kernel) (by decide) (tX3_init l n)
theorem dX4_init_0 : decode cX4_init 0 = .ok (.aload_n 0, 1) := by decide +kernel
theorem dX4_init_1 : decode cX4_init 1 = .ok (.bipush 6, 2) := by decide +kernel
theorem dX4_init_3 : decode cX4_init 3 = .ok (.iload_n 1, 1) := by decide +kernel
theorem dX4_init_4 : decode cX4_init 4 = .ok (.invokespecial 3, 3) := by decide +kernel
theorem dX4_init_7 : decode cX4_init 7 = .ok (.aload_n 0, 1) := by decide +kernel
theorem dX4_init_8 : decode cX4_init 8 = .ok (.bipush 8, 2) := by decide +kernel
theorem dX4_init_10 : decode cX4_init 10 = .ok (.newarray .int, 2) := by decide +kernel
theorem dX4_init_12 : decode cX4_init 12 = .ok (.putfield 9, 3) := by decide +kernel
theorem dX4_init_15 : decode cX4_init 15 = .ok (.aload_n 0, 1) := by decide +kernel
theorem dX4_init_16 : decode cX4_init 16 = .ok (.iload_n 2, 1) := by decide +kernel
theorem dX4_init_17 : decode cX4_init 17 = .ok (.bipush 8, 2) := by decide +kernel
theorem dX4_init_19 : decode cX4_init 19 = .ok (.invokestatic 15, 3) := by decide +kernel
theorem dX4_init_22 : decode cX4_init 22 = .ok (.putfield 21, 3) := by decide +kernel
theorem dX4_init_25 : decode cX4_init 25 = .ok (.return_, 1) := by decide +kernel
def kX4_init (n : Nat) : jK := jk_aload 0 <| jk_int 6 <| jk_iload 1 <| jk_icall (fX2_init n) 2 <| jk_aload 0 <| jk_int 8 <| jk_newarr 20 (.inl 0) <| jk_puta [3] 9 <| jk_aload 0 <| jk_iload 2 <| jk_int 8 <| jk_min <| jk_puti [3] 8 <| jk_vret
set_option maxRecDepth 100000 in
set_option maxHeartbeats 4000000 in
theorem tX4_init (l : Launch) (n : Nat) : jr_D l cX4_init 3 "MeetingKit$HandOver" (Option.none : Option Jvm.ClassFile.FieldType) "<init>" 2 42 (kX4_init n) 0 := by
  unfold kX4_init
  refine js_aload_n dX4_init_0 ?_
  refine js_bipush dX4_init_1 ?_
  refine js_iload_n dX4_init_3 ?_
  refine js_calli (sX2_init l n) dX4_init_4 (by decide) (by decide) tw_297 tw_174 tw_104 tw_175 rfl (by decide +kernel) ?_
  refine js_aload_n dX4_init_7 ?_
  refine js_bipush dX4_init_8 ?_
  refine js_newi dX4_init_10 tw_156 ?_
  refine js_putaF dX4_init_12 jf_9_3 (Or.inr ⟨_, rfl⟩) tw_302 (Or.inl rfl) rfl rfl ?_
  refine js_aload_n dX4_init_15 ?_
  refine js_iload_n dX4_init_16 ?_
  refine js_bipush dX4_init_17 ?_
  refine js_min dX4_init_19 tw_298 tw_299 tw_110 tw_300 (by decide) (by decide) ?_
  refine js_putiF dX4_init_22 jf_8_3 rfl tw_301 (Or.inl rfl) rfl rfl ?_
  exact js_vret dX4_init_25 rfl
def fX4_init (n : Nat) : jF := jm_run 3 3 (kX4_init n)
theorem sX4_init (l : Launch) (n : Nat) : jr_F l (⟨"MeetingKit$HandOver", "<init>", "(II)V"⟩ : MethodName) cX4_init 3 (Option.none : Option Jvm.ClassFile.FieldType) 2 42 (fX4_init n) := js_met (by decide +kernel) (by decide) (tX4_init l n)
theorem dX4_mainState_0 : decode cX4_mainState 0 = .ok (.aload_n 0, 1) := by decide +kernel
theorem dX4_mainState_1 : decode cX4_mainState 1 = .ok (.getfield 52, 3) := by decide +kernel
theorem dX4_mainState_4 : decode cX4_mainState 4 = .ok (.ireturn, 1) := by decide +kernel
def kX4_mainState (n : Nat) : jK := jk_aload 0 <| jk_get [3] 10 <| jk_iret
set_option maxRecDepth 100000 in
set_option maxHeartbeats 4000000 in
theorem tX4_mainState (l : Launch) (n : Nat) : jr_D l cX4_mainState 1 "MeetingKit$HandOver" (Option.some Jvm.ClassFile.FieldType.int) "mainState" 0 0 (kX4_mainState n) 0 := by
  unfold kX4_mainState
  refine js_aload_n dX4_mainState_0 ?_
  refine js_get dX4_mainState_1 jf_10_3 tw_303 (Or.inl rfl) ?_
  exact js_iret dX4_mainState_4 rfl
def fX4_mainState (n : Nat) : jF := jm_run 1 1 (kX4_mainState n)
theorem sX4_mainState (l : Launch) (n : Nat) : jr_F l (⟨"MeetingKit$HandOver", "mainState", "()I"⟩ : MethodName) cX4_mainState 1 (Option.some Jvm.ClassFile.FieldType.int) 0 0 (fX4_mainState n) := js_met (by decide +kernel) (by decide) (tX4_mainState l n)
theorem dX5_init_0 : decode cX5_init 0 = .ok (.aload_n 0, 1) := by decide +kernel
theorem dX5_init_1 : decode cX5_init 1 = .ok (.iconst 5, 1) := by decide +kernel
theorem dX5_init_2 : decode cX5_init 2 = .ok (.iload_n 1, 1) := by decide +kernel
theorem dX5_init_3 : decode cX5_init 3 = .ok (.invokespecial 3, 3) := by decide +kernel
theorem dX5_init_6 : decode cX5_init 6 = .ok (.aload_n 0, 1) := by decide +kernel
theorem dX5_init_7 : decode cX5_init 7 = .ok (.bipush 16, 2) := by decide +kernel
theorem dX5_init_9 : decode cX5_init 9 = .ok (.newarray .boolean, 2) := by decide +kernel
theorem dX5_init_11 : decode cX5_init 11 = .ok (.putfield 9, 3) := by decide +kernel
theorem dX5_init_14 : decode cX5_init 14 = .ok (.aload_n 0, 1) := by decide +kernel
theorem dX5_init_15 : decode cX5_init 15 = .ok (.iconst (-1), 1) := by decide +kernel
theorem dX5_init_16 : decode cX5_init 16 = .ok (.putfield 15, 3) := by decide +kernel
theorem dX5_init_19 : decode cX5_init 19 = .ok (.return_, 1) := by decide +kernel
def kX5_init (n : Nat) : jK := jk_aload 0 <| jk_int 5 <| jk_iload 1 <| jk_icall (fX2_init n) 2 <| jk_aload 0 <| jk_int 16 <| jk_newarr 21 (.inl 0) <| jk_puta [4] 8 <| jk_aload 0 <| jk_int (-1) <| jk_puti [4] 10 <| jk_vret
set_option maxRecDepth 100000 in
set_option maxHeartbeats 4000000 in
theorem tX5_init (l : Launch) (n : Nat) : jr_D l cX5_init 2 "MeetingKit$Lock" (Option.none : Option Jvm.ClassFile.FieldType) "<init>" 2 42 (kX5_init n) 0 := by
  unfold kX5_init
  refine js_aload_n dX5_init_0 ?_
  refine js_iconst dX5_init_1 ?_
  refine js_iload_n dX5_init_2 ?_
  refine js_calli (sX2_init l n) dX5_init_3 (by decide) (by decide) tw_272 tw_174 tw_104 tw_175 rfl (by decide +kernel) ?_
  refine js_aload_n dX5_init_6 ?_
  refine js_bipush dX5_init_7 ?_
  refine js_newz dX5_init_9 tw_291 ?_
  refine js_putaF dX5_init_11 jf_8_4 (Or.inr ⟨_, rfl⟩) tw_273 (Or.inl rfl) rfl rfl ?_
  refine js_aload_n dX5_init_14 ?_
  refine js_iconst dX5_init_15 ?_
  refine js_puti dX5_init_16 jf_10_4 rfl tw_275 (Or.inl rfl) ?_
  exact js_vret dX5_init_19 rfl
def fX5_init (n : Nat) : jF := jm_run 2 2 (kX5_init n)
theorem sX5_init (l : Launch) (n : Nat) : jr_F l (⟨"MeetingKit$Lock", "<init>", "(I)V"⟩ : MethodName) cX5_init 2 (Option.none : Option Jvm.ClassFile.FieldType) 2 42 (fX5_init n) := js_met (by decide +kernel) (by decide) (tX5_init l n)
theorem dX5_mainState_0 : decode cX5_mainState 0 = .ok (.aload_n 0, 1) := by decide +kernel
theorem dX5_mainState_1 : decode cX5_mainState 1 = .ok (.getfield 58, 3) := by decide +kernel
theorem dX5_mainState_4 : decode cX5_mainState 4 = .ok (.ireturn, 1) := by decide +kernel
def kX5_mainState (n : Nat) : jK := jk_aload 0 <| jk_get [4] 9 <| jk_iret
set_option maxRecDepth 100000 in
set_option maxHeartbeats 4000000 in
theorem tX5_mainState (l : Launch) (n : Nat) : jr_D l cX5_mainState 1 "MeetingKit$Lock" (Option.some Jvm.ClassFile.FieldType.int) "mainState" 0 0 (kX5_mainState n) 0 := by
  unfold kX5_mainState
  refine js_aload_n dX5_mainState_0 ?_
  refine js_get dX5_mainState_1 jf_9_4 tw_274 (Or.inl rfl) ?_
  exact js_iret dX5_mainState_4 rfl
def fX5_mainState (n : Nat) : jF := jm_run 1 1 (kX5_mainState n)
theorem sX5_mainState (l : Launch) (n : Nat) : jr_F l (⟨"MeetingKit$Lock", "mainState", "()I"⟩ : MethodName) cX5_mainState 1 (Option.some Jvm.ClassFile.FieldType.int) 0 0 (fX5_mainState n) := js_met (by decide +kernel) (by decide) (tX5_mainState l n)
theorem dX5_sideState_0 : decode cX5_sideState 0 = .ok (.aload_n 0, 1) := by decide +kernel
theorem dX5_sideState_1 : decode cX5_sideState 1 = .ok (.getfield 15, 3) := by decide +kernel
theorem dX5_sideState_4 : decode cX5_sideState 4 = .ok (.ireturn, 1) := by decide +kernel
def kX5_sideState (n : Nat) : jK := jk_aload 0 <| jk_get [4] 10 <| jk_iret
set_option maxRecDepth 100000 in
set_option maxHeartbeats 4000000 in
theorem tX5_sideState (l : Launch) (n : Nat) : jr_D l cX5_sideState 1 "MeetingKit$Lock" (Option.some Jvm.ClassFile.FieldType.int) "sideState" 0 0 (kX5_sideState n) 0 := by
  unfold kX5_sideState
  refine js_aload_n dX5_sideState_0 ?_
  refine js_get dX5_sideState_1 jf_10_4 tw_275 (Or.inl rfl) ?_
  exact js_iret dX5_sideState_4 rfl
def fX5_sideState (n : Nat) : jF := jm_run 1 1 (kX5_sideState n)
theorem sX5_sideState (l : Launch) (n : Nat) : jr_F l (⟨"MeetingKit$Lock", "sideState", "()I"⟩ : MethodName) cX5_sideState 1 (Option.some Jvm.ClassFile.FieldType.int) 0 0 (fX5_sideState n) := js_met (by decide +kernel) (by decide) (tX5_sideState l n)
theorem dX6_init_0 : decode cX6_init 0 = .ok (.aload_n 0, 1) := by decide +kernel
theorem dX6_init_1 : decode cX6_init 1 = .ok (.bipush 11, 2) := by decide +kernel
theorem dX6_init_3 : decode cX6_init 3 = .ok (.iload_n 1, 1) := by decide +kernel
theorem dX6_init_4 : decode cX6_init 4 = .ok (.invokespecial 3, 3) := by decide +kernel
theorem dX6_init_7 : decode cX6_init 7 = .ok (.aload_n 0, 1) := by decide +kernel
theorem dX6_init_8 : decode cX6_init 8 = .ok (.bipush 16, 2) := by decide +kernel
theorem dX6_init_10 : decode cX6_init 10 = .ok (.newarray .int, 2) := by decide +kernel
theorem dX6_init_12 : decode cX6_init 12 = .ok (.putfield 9, 3) := by decide +kernel
theorem dX6_init_15 : decode cX6_init 15 = .ok (.aload_n 0, 1) := by decide +kernel
theorem dX6_init_16 : decode cX6_init 16 = .ok (.iconst (-1), 1) := by decide +kernel
theorem dX6_init_17 : decode cX6_init 17 = .ok (.putfield 15, 3) := by decide +kernel
theorem dX6_init_20 : decode cX6_init 20 = .ok (.return_, 1) := by decide +kernel
def kX6_init (n : Nat) : jK := jk_aload 0 <| jk_int 11 <| jk_iload 1 <| jk_icall (fX2_init n) 2 <| jk_aload 0 <| jk_int 16 <| jk_newarr 20 (.inl 0) <| jk_puta [5] 8 <| jk_aload 0 <| jk_int (-1) <| jk_puti [5] 9 <| jk_vret
set_option maxRecDepth 100000 in
set_option maxHeartbeats 4000000 in
theorem tX6_init (l : Launch) (n : Nat) : jr_D l cX6_init 2 "MeetingKit$Monitor" (Option.none : Option Jvm.ClassFile.FieldType) "<init>" 2 42 (kX6_init n) 0 := by
  unfold kX6_init
  refine js_aload_n dX6_init_0 ?_
  refine js_bipush dX6_init_1 ?_
  refine js_iload_n dX6_init_3 ?_
  refine js_calli (sX2_init l n) dX6_init_4 (by decide) (by decide) tw_348 tw_174 tw_104 tw_175 rfl (by decide +kernel) ?_
  refine js_aload_n dX6_init_7 ?_
  refine js_bipush dX6_init_8 ?_
  refine js_newi dX6_init_10 tw_156 ?_
  refine js_putaF dX6_init_12 jf_8_5 (Or.inr ⟨_, rfl⟩) tw_349 (Or.inl rfl) rfl rfl ?_
  refine js_aload_n dX6_init_15 ?_
  refine js_iconst dX6_init_16 ?_
  refine js_puti dX6_init_17 jf_9_5 rfl tw_350 (Or.inl rfl) ?_
  exact js_vret dX6_init_20 rfl
def fX6_init (n : Nat) : jF := jm_run 2 2 (kX6_init n)
theorem sX6_init (l : Launch) (n : Nat) : jr_F l (⟨"MeetingKit$Monitor", "<init>", "(I)V"⟩ : MethodName) cX6_init 2 (Option.none : Option Jvm.ClassFile.FieldType) 2 42 (fX6_init n) := js_met (by decide +kernel) (by decide) (tX6_init l n)
theorem dX6_mainState_0 : decode cX6_mainState 0 = .ok (.aload_n 0, 1) := by decide +kernel
theorem dX6_mainState_1 : decode cX6_mainState 1 = .ok (.getfield 15, 3) := by decide +kernel
theorem dX6_mainState_4 : decode cX6_mainState 4 = .ok (.iconst (-1), 1) := by decide +kernel
theorem dX6_mainState_5 : decode cX6_mainState 5 = .ok (.if_icmp .ne 7, 3) := by decide +kernel
theorem dX6_mainState_8 : decode cX6_mainState 8 = .ok (.iconst 0, 1) := by decide +kernel
theorem dX6_mainState_9 : decode cX6_mainState 9 = .ok (.goto 4, 3) := by decide +kernel
theorem dX6_mainState_12 : decode cX6_mainState 12 = .ok (.iconst 1, 1) := by decide +kernel
theorem dX6_mainState_13 : decode cX6_mainState 13 = .ok (.ireturn, 1) := by decide +kernel
def kX6_mainState_0 (n : Nat) (K : Nat → jK) : jK := jk_aload 0 <| jk_get [5] 9 <| jk_int (-1) <| jk_icmpne (jk_int 1 <| K 13) <| jk_int 0 <| K 13
set_option maxRecDepth 100000 in
set_option maxHeartbeats 4000000 in
theorem tX6_mainState_0 (l : Launch) (n : Nat) {K : Nat → jK} (hK : ∀ b, jr_D l cX6_mainState 1 "MeetingKit$Monitor" (Option.some Jvm.ClassFile.FieldType.int) "mainState" 0 0 (K b) b) : jr_D l cX6_mainState 1 "MeetingKit$Monitor" (Option.some Jvm.ClassFile.FieldType.int) "mainState" 0 0 (kX6_mainState_0 n K) 0 := by
  unfold kX6_mainState_0
  refine js_aload_n dX6_mainState_0 ?_
  refine js_get dX6_mainState_1 jf_9_5 tw_350 (Or.inl rfl) ?_
  refine js_iconst dX6_mainState_4 ?_
  refine js_icmpne (tgt := 12) dX6_mainState_5 (by decide) ?_ ?_
  · refine js_iconst dX6_mainState_12 ?_
    exact hK 13
  · refine js_iconst dX6_mainState_8 ?_
    refine js_goto (tgt := 13) dX6_mainState_9 (by decide) ?_
    exact hK 13
def kX6_mainState_13 (n : Nat) (K : Nat → jK) : jK := jk_kill 0 <| jk_iret
set_option maxRecDepth 100000 in
set_option maxHeartbeats 4000000 in
theorem tX6_mainState_13 (l : Launch) (n : Nat) {K : Nat → jK} (hK : ∀ b, jr_D l cX6_mainState 1 "MeetingKit$Monitor" (Option.some Jvm.ClassFile.FieldType.int) "mainState" 0 0 (K b) b) : jr_D l cX6_mainState 1 "MeetingKit$Monitor" (Option.some Jvm.ClassFile.FieldType.int) "mainState" 0 0 (kX6_mainState_13 n K) 13 := by
  unfold kX6_mainState_13
  refine js_kill ?_
  exact js_iret dX6_mainState_13 rfl
def kX6_mainState_b (n : Nat) (K : Nat → jK) (b : Nat) : jK := if b = 0 then kX6_mainState_0 n K else if b = 13 then kX6_mainState_13 n K else jk_none
def kX6_mainState (n : Nat) : jK := jk_fix (kX6_mainState_b n) n 0
theorem tX6_mainState (l : Launch) (n : Nat) : jr_D l cX6_mainState 1 "MeetingKit$Monitor" (Option.some Jvm.ClassFile.FieldType.int) "mainState" 0 0 (kX6_mainState n) 0 := js_fix (F := kX6_mainState_b n) (fun K hK b => js_blk (tX6_mainState_0 l n hK) (js_blk (tX6_mainState_13 l n hK) (js_none))) n 0
def fX6_mainState (n : Nat) : jF := jm_run 1 1 (kX6_mainState n)
theorem sX6_mainState (l : Launch) (n : Nat) : jr_F l (⟨"MeetingKit$Monitor", "mainState", "()I"⟩ : MethodName) cX6_mainState 1 (Option.some Jvm.ClassFile.FieldType.int) 0 0 (fX6_mainState n) := js_met (by decide +kernel) (by decide) (tX6_mainState l n)
theorem dX6_sideState_0 : decode cX6_sideState 0 = .ok (.aload_n 0, 1) := by decide +kernel
theorem dX6_sideState_1 : decode cX6_sideState 1 = .ok (.getfield 15, 3) := by decide +kernel
theorem dX6_sideState_4 : decode cX6_sideState 4 = .ok (.ireturn, 1) := by decide +kernel
def kX6_sideState (n : Nat) : jK := jk_aload 0 <| jk_get [5] 9 <| jk_iret
set_option maxRecDepth 100000 in
set_option maxHeartbeats 4000000 in
theorem tX6_sideState (l : Launch) (n : Nat) : jr_D l cX6_sideState 1 "MeetingKit$Monitor" (Option.some Jvm.ClassFile.FieldType.int) "sideState" 0 0 (kX6_sideState n) 0 := by
  unfold kX6_sideState
  refine js_aload_n dX6_sideState_0 ?_
  refine js_get dX6_sideState_1 jf_9_5 tw_350 (Or.inl rfl) ?_
  exact js_iret dX6_sideState_4 rfl
def fX6_sideState (n : Nat) : jF := jm_run 1 1 (kX6_sideState n)
theorem sX6_sideState (l : Launch) (n : Nat) : jr_F l (⟨"MeetingKit$Monitor", "sideState", "()I"⟩ : MethodName) cX6_sideState 1 (Option.some Jvm.ClassFile.FieldType.int) 0 0 (fX6_sideState n) := js_met (by decide +kernel) (by decide) (tX6_sideState l n)
theorem dX7_init_0 : decode cX7_init 0 = .ok (.aload_n 0, 1) := by decide +kernel
theorem dX7_init_1 : decode cX7_init 1 = .ok (.iload_n 1, 1) := by decide +kernel
theorem dX7_init_2 : decode cX7_init 2 = .ok (.iload_n 2, 1) := by decide +kernel
theorem dX7_init_3 : decode cX7_init 3 = .ok (.invokespecial 3, 3) := by decide +kernel
theorem dX7_init_6 : decode cX7_init 6 = .ok (.aload_n 0, 1) := by decide +kernel
theorem dX7_init_7 : decode cX7_init 7 = .ok (.iload_n 3, 1) := by decide +kernel
theorem dX7_init_8 : decode cX7_init 8 = .ok (.putfield 9, 3) := by decide +kernel
theorem dX7_init_11 : decode cX7_init 11 = .ok (.return_, 1) := by decide +kernel
def kX7_init (n : Nat) : jK := jk_aload 0 <| jk_iload 1 <| jk_iload 2 <| jk_icall (fX2_init n) 2 <| jk_aload 0 <| jk_iload 3 <| jk_puti [6] 8 <| jk_vret
set_option maxRecDepth 100000 in
set_option maxHeartbeats 4000000 in
theorem tX7_init (l : Launch) (n : Nat) : jr_D l cX7_init 4 "MeetingKit$Permits" (Option.none : Option Jvm.ClassFile.FieldType) "<init>" 2 42 (kX7_init n) 0 := by
  unfold kX7_init
  refine js_aload_n dX7_init_0 ?_
  refine js_iload_n dX7_init_1 ?_
  refine js_iload_n dX7_init_2 ?_
  refine js_calli (sX2_init l n) dX7_init_3 (by decide) (by decide) tw_173 tw_174 tw_104 tw_175 rfl (by decide +kernel) ?_
  refine js_aload_n dX7_init_6 ?_
  refine js_iload_n dX7_init_7 ?_
  refine js_puti dX7_init_8 jf_8_6 rfl tw_179 (Or.inl rfl) ?_
  exact js_vret dX7_init_11 rfl
def fX7_init (n : Nat) : jF := jm_run 4 4 (kX7_init n)
theorem sX7_init (l : Launch) (n : Nat) : jr_F l (⟨"MeetingKit$Permits", "<init>", "(III)V"⟩ : MethodName) cX7_init 4 (Option.none : Option Jvm.ClassFile.FieldType) 2 42 (fX7_init n) := js_met (by decide +kernel) (by decide) (tX7_init l n)
theorem dX7_mainState_0 : decode cX7_mainState 0 = .ok (.aload_n 0, 1) := by decide +kernel
theorem dX7_mainState_1 : decode cX7_mainState 1 = .ok (.getfield 9, 3) := by decide +kernel
theorem dX7_mainState_4 : decode cX7_mainState 4 = .ok (.ireturn, 1) := by decide +kernel
def kX7_mainState (n : Nat) : jK := jk_aload 0 <| jk_get [6] 8 <| jk_iret
set_option maxRecDepth 100000 in
set_option maxHeartbeats 4000000 in
theorem tX7_mainState (l : Launch) (n : Nat) : jr_D l cX7_mainState 1 "MeetingKit$Permits" (Option.some Jvm.ClassFile.FieldType.int) "mainState" 0 0 (kX7_mainState n) 0 := by
  unfold kX7_mainState
  refine js_aload_n dX7_mainState_0 ?_
  refine js_get dX7_mainState_1 jf_8_6 tw_179 (Or.inl rfl) ?_
  exact js_iret dX7_mainState_4 rfl
def fX7_mainState (n : Nat) : jF := jm_run 1 1 (kX7_mainState n)
theorem sX7_mainState (l : Launch) (n : Nat) : jr_F l (⟨"MeetingKit$Permits", "mainState", "()I"⟩ : MethodName) cX7_mainState 1 (Option.some Jvm.ClassFile.FieldType.int) 0 0 (fX7_mainState n) := js_met (by decide +kernel) (by decide) (tX7_mainState l n)
theorem dX8_init_0 : decode cX8_init 0 = .ok (.aload_n 0, 1) := by decide +kernel
theorem dX8_init_1 : decode cX8_init 1 = .ok (.bipush 9, 2) := by decide +kernel
theorem dX8_init_3 : decode cX8_init 3 = .ok (.iload_n 1, 1) := by decide +kernel
theorem dX8_init_4 : decode cX8_init 4 = .ok (.invokespecial 3, 3) := by decide +kernel
theorem dX8_init_7 : decode cX8_init 7 = .ok (.aload_n 0, 1) := by decide +kernel
theorem dX8_init_8 : decode cX8_init 8 = .ok (.bipush 16, 2) := by decide +kernel
theorem dX8_init_10 : decode cX8_init 10 = .ok (.newarray .int, 2) := by decide +kernel
theorem dX8_init_12 : decode cX8_init 12 = .ok (.putfield 9, 3) := by decide +kernel
theorem dX8_init_15 : decode cX8_init 15 = .ok (.aload_n 0, 1) := by decide +kernel
theorem dX8_init_16 : decode cX8_init 16 = .ok (.bipush 16, 2) := by decide +kernel
theorem dX8_init_18 : decode cX8_init 18 = .ok (.newarray .boolean, 2) := by decide +kernel
theorem dX8_init_20 : decode cX8_init 20 = .ok (.putfield 15, 3) := by decide +kernel
theorem dX8_init_23 : decode cX8_init 23 = .ok (.return_, 1) := by decide +kernel
def kX8_init (n : Nat) : jK := jk_aload 0 <| jk_int 9 <| jk_iload 1 <| jk_icall (fX2_init n) 2 <| jk_aload 0 <| jk_int 16 <| jk_newarr 20 (.inl 0) <| jk_puta [7] 8 <| jk_aload 0 <| jk_int 16 <| jk_newarr 21 (.inl 0) <| jk_puta [7] 9 <| jk_vret
set_option maxRecDepth 100000 in
set_option maxHeartbeats 4000000 in
theorem tX8_init (l : Launch) (n : Nat) : jr_D l cX8_init 2 "MeetingKit$Phaser" (Option.none : Option Jvm.ClassFile.FieldType) "<init>" 2 42 (kX8_init n) 0 := by
  unfold kX8_init
  refine js_aload_n dX8_init_0 ?_
  refine js_bipush dX8_init_1 ?_
  refine js_iload_n dX8_init_3 ?_
  refine js_calli (sX2_init l n) dX8_init_4 (by decide) (by decide) tw_324 tw_174 tw_104 tw_175 rfl (by decide +kernel) ?_
  refine js_aload_n dX8_init_7 ?_
  refine js_bipush dX8_init_8 ?_
  refine js_newi dX8_init_10 tw_156 ?_
  refine js_putaF dX8_init_12 jf_8_7 (Or.inr ⟨_, rfl⟩) tw_325 (Or.inl rfl) rfl rfl ?_
  refine js_aload_n dX8_init_15 ?_
  refine js_bipush dX8_init_16 ?_
  refine js_newz dX8_init_18 tw_291 ?_
  refine js_putaF dX8_init_20 jf_9_7 (Or.inr ⟨_, rfl⟩) tw_326 (Or.inl rfl) rfl rfl ?_
  exact js_vret dX8_init_23 rfl
def fX8_init (n : Nat) : jF := jm_run 2 2 (kX8_init n)
theorem sX8_init (l : Launch) (n : Nat) : jr_F l (⟨"MeetingKit$Phaser", "<init>", "(I)V"⟩ : MethodName) cX8_init 2 (Option.none : Option Jvm.ClassFile.FieldType) 2 42 (fX8_init n) := js_met (by decide +kernel) (by decide) (tX8_init l n)
theorem dX8_mainState_0 : decode cX8_mainState 0 = .ok (.aload_n 0, 1) := by decide +kernel
theorem dX8_mainState_1 : decode cX8_mainState 1 = .ok (.getfield 48, 3) := by decide +kernel
theorem dX8_mainState_4 : decode cX8_mainState 4 = .ok (.ireturn, 1) := by decide +kernel
def kX8_mainState (n : Nat) : jK := jk_aload 0 <| jk_get [7] 10 <| jk_iret
set_option maxRecDepth 100000 in
set_option maxHeartbeats 4000000 in
theorem tX8_mainState (l : Launch) (n : Nat) : jr_D l cX8_mainState 1 "MeetingKit$Phaser" (Option.some Jvm.ClassFile.FieldType.int) "mainState" 0 0 (kX8_mainState n) 0 := by
  unfold kX8_mainState
  refine js_aload_n dX8_mainState_0 ?_
  refine js_get dX8_mainState_1 jf_10_7 tw_327 (Or.inl rfl) ?_
  exact js_iret dX8_mainState_4 rfl
def fX8_mainState (n : Nat) : jF := jm_run 1 1 (kX8_mainState n)
theorem sX8_mainState (l : Launch) (n : Nat) : jr_F l (⟨"MeetingKit$Phaser", "mainState", "()I"⟩ : MethodName) cX8_mainState 1 (Option.some Jvm.ClassFile.FieldType.int) 0 0 (fX8_mainState n) := js_met (by decide +kernel) (by decide) (tX8_mainState l n)
theorem dX8_sideState_0 : decode cX8_sideState 0 = .ok (.aload_n 0, 1) := by decide +kernel
theorem dX8_sideState_1 : decode cX8_sideState 1 = .ok (.iconst 0, 1) := by decide +kernel
theorem dX8_sideState_2 : decode cX8_sideState 2 = .ok (.invokevirtual 44, 3) := by decide +kernel
theorem dX8_sideState_5 : decode cX8_sideState 5 = .ok (.ireturn, 1) := by decide +kernel
def kX8_sideState (n : Nat) : jK := jk_aload 0 <| jk_int 0 <| jk_vcall [(7, fX8_countParties n)] 1 <| jk_iret
set_option maxRecDepth 100000 in
set_option maxHeartbeats 4000000 in
theorem tX8_sideState (l : Launch) (n : Nat) : jr_D l cX8_sideState 1 "MeetingKit$Phaser" (Option.some Jvm.ClassFile.FieldType.int) "sideState" 1 23 (kX8_sideState n) 0 := by
  unfold kX8_sideState
  refine js_aload_n dX8_sideState_0 ?_
  refine js_iconst dX8_sideState_1 ?_
  refine js_callv dX8_sideState_2 (⟨⟨_, _, _, _, _, _, _, ⟨rfl, (show (7 : Nat) < 20 by decide), sX8_countParties l n, by decide, by decide, tw_834, tw_111, tw_833⟩, Or.inl ⟨by decide +kernel, by decide +kernel, by decide +kernel, tw_831, tw_50⟩⟩, trivial⟩) ?_
  exact js_iret dX8_sideState_5 rfl
def fX8_sideState (n : Nat) : jF := jm_run 1 1 (kX8_sideState n)
theorem sX8_sideState (l : Launch) (n : Nat) : jr_F l (⟨"MeetingKit$Phaser", "sideState", "()I"⟩ : MethodName) cX8_sideState 1 (Option.some Jvm.ClassFile.FieldType.int) 1 23 (fX8_sideState n) := js_met (by decide +kernel) (by decide) (tX8_sideState l n)
theorem dX9_init_0 : decode cX9_init 0 = .ok (.aload_n 0, 1) := by decide +kernel
theorem dX9_init_1 : decode cX9_init 1 = .ok (.iload_n 1, 1) := by decide +kernel
theorem dX9_init_2 : decode cX9_init 2 = .ok (.iload_n 2, 1) := by decide +kernel
theorem dX9_init_3 : decode cX9_init 3 = .ok (.invokespecial 3, 3) := by decide +kernel
theorem dX9_init_6 : decode cX9_init 6 = .ok (.aload_n 0, 1) := by decide +kernel
theorem dX9_init_7 : decode cX9_init 7 = .ok (.iload_n 3, 1) := by decide +kernel
theorem dX9_init_8 : decode cX9_init 8 = .ok (.putfield 9, 3) := by decide +kernel
theorem dX9_init_11 : decode cX9_init 11 = .ok (.return_, 1) := by decide +kernel
def kX9_init (n : Nat) : jK := jk_aload 0 <| jk_iload 1 <| jk_iload 2 <| jk_icall (fX2_init n) 2 <| jk_aload 0 <| jk_iload 3 <| jk_puti [8] 8 <| jk_vret
set_option maxRecDepth 100000 in
set_option maxHeartbeats 4000000 in
theorem tX9_init (l : Launch) (n : Nat) : jr_D l cX9_init 4 "MeetingKit$Sign" (Option.none : Option Jvm.ClassFile.FieldType) "<init>" 2 42 (kX9_init n) 0 := by
  unfold kX9_init
  refine js_aload_n dX9_init_0 ?_
  refine js_iload_n dX9_init_1 ?_
  refine js_iload_n dX9_init_2 ?_
  refine js_calli (sX2_init l n) dX9_init_3 (by decide) (by decide) tw_369 tw_174 tw_104 tw_175 rfl (by decide +kernel) ?_
  refine js_aload_n dX9_init_6 ?_
  refine js_iload_n dX9_init_7 ?_
  refine js_puti dX9_init_8 jf_8_8 rfl tw_370 (Or.inl rfl) ?_
  exact js_vret dX9_init_11 rfl
def fX9_init (n : Nat) : jF := jm_run 4 4 (kX9_init n)
theorem sX9_init (l : Launch) (n : Nat) : jr_F l (⟨"MeetingKit$Sign", "<init>", "(III)V"⟩ : MethodName) cX9_init 4 (Option.none : Option Jvm.ClassFile.FieldType) 2 42 (fX9_init n) := js_met (by decide +kernel) (by decide) (tX9_init l n)
theorem dX9_mainState_0 : decode cX9_mainState 0 = .ok (.aload_n 0, 1) := by decide +kernel
theorem dX9_mainState_1 : decode cX9_mainState 1 = .ok (.getfield 9, 3) := by decide +kernel
theorem dX9_mainState_4 : decode cX9_mainState 4 = .ok (.ireturn, 1) := by decide +kernel
def kX9_mainState (n : Nat) : jK := jk_aload 0 <| jk_get [8] 8 <| jk_iret
set_option maxRecDepth 100000 in
set_option maxHeartbeats 4000000 in
theorem tX9_mainState (l : Launch) (n : Nat) : jr_D l cX9_mainState 1 "MeetingKit$Sign" (Option.some Jvm.ClassFile.FieldType.int) "mainState" 0 0 (kX9_mainState n) 0 := by
  unfold kX9_mainState
  refine js_aload_n dX9_mainState_0 ?_
  refine js_get dX9_mainState_1 jf_8_8 tw_370 (Or.inl rfl) ?_
  exact js_iret dX9_mainState_4 rfl
def fX9_mainState (n : Nat) : jF := jm_run 1 1 (kX9_mainState n)
theorem sX9_mainState (l : Launch) (n : Nat) : jr_F l (⟨"MeetingKit$Sign", "mainState", "()I"⟩ : MethodName) cX9_mainState 1 (Option.some Jvm.ClassFile.FieldType.int) 0 0 (fX9_mainState n) := js_met (by decide +kernel) (by decide) (tX9_mainState l n)
theorem dX9_sideState_0 : decode cX9_sideState 0 = .ok (.aload_n 0, 1) := by decide +kernel
theorem dX9_sideState_1 : decode cX9_sideState 1 = .ok (.getfield 51, 3) := by decide +kernel
theorem dX9_sideState_4 : decode cX9_sideState 4 = .ok (.ireturn, 1) := by decide +kernel
def kX9_sideState (n : Nat) : jK := jk_aload 0 <| jk_get [8] 9 <| jk_iret
set_option maxRecDepth 100000 in
set_option maxHeartbeats 4000000 in
theorem tX9_sideState (l : Launch) (n : Nat) : jr_D l cX9_sideState 1 "MeetingKit$Sign" (Option.some Jvm.ClassFile.FieldType.int) "sideState" 0 0 (kX9_sideState n) 0 := by
  unfold kX9_sideState
  refine js_aload_n dX9_sideState_0 ?_
  refine js_get dX9_sideState_1 jf_9_8 tw_371 (Or.inl rfl) ?_
  exact js_iret dX9_sideState_4 rfl
def fX9_sideState (n : Nat) : jF := jm_run 1 1 (kX9_sideState n)
theorem sX9_sideState (l : Launch) (n : Nat) : jr_F l (⟨"MeetingKit$Sign", "sideState", "()I"⟩ : MethodName) cX9_sideState 1 (Option.some Jvm.ClassFile.FieldType.int) 0 0 (fX9_sideState n) := js_met (by decide +kernel) (by decide) (tX9_sideState l n)
theorem dX10_init_0 : decode cX10_init 0 = .ok (.aload_n 0, 1) := by decide +kernel
theorem dX10_init_1 : decode cX10_init 1 = .ok (.invokespecial 3, 3) := by decide +kernel
theorem dX10_init_4 : decode cX10_init 4 = .ok (.aload_n 0, 1) := by decide +kernel
theorem dX10_init_5 : decode cX10_init 5 = .ok (.bipush 8, 2) := by decide +kernel
theorem dX10_init_7 : decode cX10_init 7 = .ok (.putfield 9, 3) := by decide +kernel
theorem dX10_init_10 : decode cX10_init 10 = .ok (.aload_n 0, 1) := by decide +kernel
theorem dX10_init_11 : decode cX10_init 11 = .ok (.aload_n 1, 1) := by decide +kernel
theorem dX10_init_12 : decode cX10_init 12 = .ok (.putfield 15, 3) := by decide +kernel
theorem dX10_init_15 : decode cX10_init 15 = .ok (.aload_n 0, 1) := by decide +kernel
theorem dX10_init_16 : decode cX10_init 16 = .ok (.aload_n 2, 1) := by decide +kernel
theorem dX10_init_17 : decode cX10_init 17 = .ok (.putfield 19, 3) := by decide +kernel
theorem dX10_init_20 : decode cX10_init 20 = .ok (.aload_n 0, 1) := by decide +kernel
theorem dX10_init_21 : decode cX10_init 21 = .ok (.iload_n 3, 1) := by decide +kernel
theorem dX10_init_22 : decode cX10_init 22 = .ok (.putfield 23, 3) := by decide +kernel
theorem dX10_init_25 : decode cX10_init 25 = .ok (.aload_n 0, 1) := by decide +kernel
theorem dX10_init_26 : decode cX10_init 26 = .ok (.iload 4, 2) := by decide +kernel
theorem dX10_init_28 : decode cX10_init 28 = .ok (.putfield 26, 3) := by decide +kernel
theorem dX10_init_31 : decode cX10_init 31 = .ok (.aload_n 0, 1) := by decide +kernel
theorem dX10_init_32 : decode cX10_init 32 = .ok (.iload 5, 2) := by decide +kernel
theorem dX10_init_34 : decode cX10_init 34 = .ok (.putfield 29, 3) := by decide +kernel
theorem dX10_init_37 : decode cX10_init 37 = .ok (.return_, 1) := by decide +kernel
def kX10_init (n : Nat) : jK := jk_aload 0 <| jk_obj <| jk_aload 0 <| jk_int 8 <| jk_puti [9] 5 <| jk_aload 0 <| jk_aload 1 <| jk_puta [9] 0 <| jk_aload 0 <| jk_aload 2 <| jk_puta [9] 1 <| jk_aload 0 <| jk_iload 3 <| jk_puti [9] 2 <| jk_aload 0 <| jk_iload 4 <| jk_puti [9] 3 <| jk_aload 0 <| jk_iload 5 <| jk_puti [9] 4 <| jk_vret
set_option maxRecDepth 100000 in
set_option maxHeartbeats 4000000 in
theorem tX10_init (l : Launch) (n : Nat) : jr_D l cX10_init 6 "MeetingKit$Step" (Option.none : Option Jvm.ClassFile.FieldType) "<init>" 1 20 (kX10_init n) 0 := by
  unfold kX10_init
  refine js_aload_n dX10_init_0 ?_
  refine js_obj dX10_init_1 tw_447 tw_122 tw_123 (by decide) (by decide) ?_
  refine js_aload_n dX10_init_4 ?_
  refine js_bipush dX10_init_5 ?_
  refine js_puti dX10_init_7 jf_5_9 rfl tw_475 (Or.inl rfl) ?_
  refine js_aload_n dX10_init_10 ?_
  refine js_aload_n dX10_init_11 ?_
  refine js_putaF dX10_init_12 jf_0_9 (Or.inl ⟨_, rfl⟩) tw_448 (Or.inl rfl) rfl rfl ?_
  refine js_aload_n dX10_init_15 ?_
  refine js_aload_n dX10_init_16 ?_
  refine js_putaF dX10_init_17 jf_1_9 (Or.inl ⟨_, rfl⟩) tw_454 (Or.inl rfl) rfl rfl ?_
  refine js_aload_n dX10_init_20 ?_
  refine js_iload_n dX10_init_21 ?_
  refine js_putiF dX10_init_22 jf_2_9 rfl tw_456 (Or.inl rfl) rfl rfl ?_
  refine js_aload_n dX10_init_25 ?_
  refine js_iload dX10_init_26 ?_
  refine js_putiF dX10_init_28 jf_3_9 rfl tw_466 (Or.inl rfl) rfl rfl ?_
  refine js_aload_n dX10_init_31 ?_
  refine js_iload dX10_init_32 ?_
  refine js_putiF dX10_init_34 jf_4_9 rfl tw_472 (Or.inl rfl) rfl rfl ?_
  exact js_vret dX10_init_37 rfl
def fX10_init (n : Nat) : jF := jm_run 6 6 (kX10_init n)
theorem sX10_init (l : Launch) (n : Nat) : jr_F l (⟨"MeetingKit$Step", "<init>", "(LMeetingKit$Actor;LMeetingKit$Device;III)V"⟩ : MethodName) cX10_init 6 (Option.none : Option Jvm.ClassFile.FieldType) 1 20 (fX10_init n) := js_met (by decide +kernel) (by decide) (tX10_init l n)
theorem dX11_init_0 : decode cX11_init 0 = .ok (.aload_n 0, 1) := by decide +kernel
theorem dX11_init_1 : decode cX11_init 1 = .ok (.invokespecial 1, 3) := by decide +kernel
theorem dX11_init_4 : decode cX11_init 4 = .ok (.aload_n 0, 1) := by decide +kernel
theorem dX11_init_5 : decode cX11_init 5 = .ok (.bipush 16, 2) := by decide +kernel
theorem dX11_init_7 : decode cX11_init 7 = .ok (.anewarray 9, 3) := by decide +kernel
theorem dX11_init_10 : decode cX11_init 10 = .ok (.putfield 11, 3) := by decide +kernel
theorem dX11_init_13 : decode cX11_init 13 = .ok (.aload_n 0, 1) := by decide +kernel
theorem dX11_init_14 : decode cX11_init 14 = .ok (.bipush 12, 2) := by decide +kernel
theorem dX11_init_16 : decode cX11_init 16 = .ok (.anewarray 15, 3) := by decide +kernel
theorem dX11_init_19 : decode cX11_init 19 = .ok (.putfield 17, 3) := by decide +kernel
theorem dX11_init_22 : decode cX11_init 22 = .ok (.aload_n 0, 1) := by decide +kernel
theorem dX11_init_23 : decode cX11_init 23 = .ok (.sipush 200, 3) := by decide +kernel
theorem dX11_init_26 : decode cX11_init 26 = .ok (.newarray .int, 2) := by decide +kernel
theorem dX11_init_28 : decode cX11_init 28 = .ok (.putfield 21, 3) := by decide +kernel
theorem dX11_init_31 : decode cX11_init 31 = .ok (.return_, 1) := by decide +kernel
def kX11_init (n : Nat) : jK := jk_aload 0 <| jk_obj <| jk_aload 0 <| jk_int 16 <| jk_newarr 23 (.inr none) <| jk_puta [10] 0 <| jk_aload 0 <| jk_int 12 <| jk_newarr 24 (.inr none) <| jk_puta [10] 2 <| jk_aload 0 <| jk_int 200 <| jk_newarr 20 (.inl 0) <| jk_puta [10] 4 <| jk_vret
set_option maxRecDepth 100000 in
set_option maxHeartbeats 4000000 in
theorem tX11_init (l : Launch) (n : Nat) : jr_D l cX11_init 1 "MeetingKit" (Option.none : Option Jvm.ClassFile.FieldType) "<init>" 1 20 (kX11_init n) 0 := by
  unfold kX11_init
  refine js_aload_n dX11_init_0 ?_
  refine js_obj dX11_init_1 tw_121 tw_122 tw_123 (by decide) (by decide) ?_
  refine js_aload_n dX11_init_4 ?_
  refine js_bipush dX11_init_5 ?_
  refine js_anew dX11_init_7 rfl (by decide) tw_124 tw_125 ?_
  refine js_putaF dX11_init_10 jf_0_10 (Or.inr ⟨_, rfl⟩) tw_128 (Or.inl rfl) rfl rfl ?_
  refine js_aload_n dX11_init_13 ?_
  refine js_bipush dX11_init_14 ?_
  refine js_anew dX11_init_16 rfl (by decide) tw_126 tw_127 ?_
  refine js_putaF dX11_init_19 jf_2_10 (Or.inr ⟨_, rfl⟩) tw_130 (Or.inl rfl) rfl rfl ?_
  refine js_aload_n dX11_init_22 ?_
  refine js_sipush dX11_init_23 ?_
  refine js_newi dX11_init_26 tw_156 ?_
  refine js_putaF dX11_init_28 jf_4_10 (Or.inr ⟨_, rfl⟩) tw_132 (Or.inl rfl) rfl rfl ?_
  exact js_vret dX11_init_31 rfl
def fX11_init (n : Nat) : jF := jm_run 1 1 (kX11_init n)
theorem sX11_init (l : Launch) (n : Nat) : jr_F l (⟨"MeetingKit", "<init>", "()V"⟩ : MethodName) cX11_init 1 (Option.none : Option Jvm.ClassFile.FieldType) 1 20 (fX11_init n) := js_met (by decide +kernel) (by decide) (tX11_init l n)
theorem dX11_makeDevice_0 : decode cX11_makeDevice 0 = .ok (.iload_n 0, 1) := by decide +kernel
theorem dX11_makeDevice_1 : decode cX11_makeDevice 1 = .ok (.tableswitch 130 0 11 #[63, 63, 130, 74, 84, 93, 102, 130, 130, 112, 130, 121], 63) := by decide +kernel
theorem dX11_makeDevice_64 : decode cX11_makeDevice 64 = .ok (.new 162, 3) := by decide +kernel
theorem dX11_makeDevice_67 : decode cX11_makeDevice 67 = .ok (.dup, 1) := by decide +kernel
theorem dX11_makeDevice_68 : decode cX11_makeDevice 68 = .ok (.iload_n 0, 1) := by decide +kernel
theorem dX11_makeDevice_69 : decode cX11_makeDevice 69 = .ok (.iload_n 1, 1) := by decide +kernel
theorem dX11_makeDevice_70 : decode cX11_makeDevice 70 = .ok (.iload_n 2, 1) := by decide +kernel
theorem dX11_makeDevice_71 : decode cX11_makeDevice 71 = .ok (.invokespecial 164, 3) := by decide +kernel
theorem dX11_makeDevice_74 : decode cX11_makeDevice 74 = .ok (.areturn, 1) := by decide +kernel
theorem dX11_makeDevice_75 : decode cX11_makeDevice 75 = .ok (.new 167, 3) := by decide +kernel
theorem dX11_makeDevice_78 : decode cX11_makeDevice 78 = .ok (.dup, 1) := by decide +kernel
theorem dX11_makeDevice_79 : decode cX11_makeDevice 79 = .ok (.iload_n 1, 1) := by decide +kernel
theorem dX11_makeDevice_80 : decode cX11_makeDevice 80 = .ok (.iload_n 2, 1) := by decide +kernel
theorem dX11_makeDevice_81 : decode cX11_makeDevice 81 = .ok (.invokespecial 169, 3) := by decide +kernel
theorem dX11_makeDevice_84 : decode cX11_makeDevice 84 = .ok (.areturn, 1) := by decide +kernel
theorem dX11_makeDevice_85 : decode cX11_makeDevice 85 = .ok (.new 172, 3) := by decide +kernel
theorem dX11_makeDevice_88 : decode cX11_makeDevice 88 = .ok (.dup, 1) := by decide +kernel
theorem dX11_makeDevice_89 : decode cX11_makeDevice 89 = .ok (.iload_n 1, 1) := by decide +kernel
theorem dX11_makeDevice_90 : decode cX11_makeDevice 90 = .ok (.invokespecial 174, 3) := by decide +kernel
theorem dX11_makeDevice_93 : decode cX11_makeDevice 93 = .ok (.areturn, 1) := by decide +kernel
theorem dX11_makeDevice_94 : decode cX11_makeDevice 94 = .ok (.new 175, 3) := by decide +kernel
theorem dX11_makeDevice_97 : decode cX11_makeDevice 97 = .ok (.dup, 1) := by decide +kernel
theorem dX11_makeDevice_98 : decode cX11_makeDevice 98 = .ok (.iload_n 1, 1) := by decide +kernel
theorem dX11_makeDevice_99 : decode cX11_makeDevice 99 = .ok (.invokespecial 177, 3) := by decide +kernel
theorem dX11_makeDevice_102 : decode cX11_makeDevice 102 = .ok (.areturn, 1) := by decide +kernel
theorem dX11_makeDevice_103 : decode cX11_makeDevice 103 = .ok (.new 178, 3) := by decide +kernel
theorem dX11_makeDevice_106 : decode cX11_makeDevice 106 = .ok (.dup, 1) := by decide +kernel
theorem dX11_makeDevice_107 : decode cX11_makeDevice 107 = .ok (.iload_n 1, 1) := by decide +kernel
theorem dX11_makeDevice_108 : decode cX11_makeDevice 108 = .ok (.iload_n 2, 1) := by decide +kernel
theorem dX11_makeDevice_109 : decode cX11_makeDevice 109 = .ok (.invokespecial 180, 3) := by decide +kernel
theorem dX11_makeDevice_112 : decode cX11_makeDevice 112 = .ok (.areturn, 1) := by decide +kernel
theorem dX11_makeDevice_113 : decode cX11_makeDevice 113 = .ok (.new 181, 3) := by decide +kernel
theorem dX11_makeDevice_116 : decode cX11_makeDevice 116 = .ok (.dup, 1) := by decide +kernel
theorem dX11_makeDevice_117 : decode cX11_makeDevice 117 = .ok (.iload_n 1, 1) := by decide +kernel
theorem dX11_makeDevice_118 : decode cX11_makeDevice 118 = .ok (.invokespecial 183, 3) := by decide +kernel
theorem dX11_makeDevice_121 : decode cX11_makeDevice 121 = .ok (.areturn, 1) := by decide +kernel
theorem dX11_makeDevice_122 : decode cX11_makeDevice 122 = .ok (.new 184, 3) := by decide +kernel
theorem dX11_makeDevice_125 : decode cX11_makeDevice 125 = .ok (.dup, 1) := by decide +kernel
theorem dX11_makeDevice_126 : decode cX11_makeDevice 126 = .ok (.iload_n 1, 1) := by decide +kernel
theorem dX11_makeDevice_127 : decode cX11_makeDevice 127 = .ok (.invokespecial 186, 3) := by decide +kernel
theorem dX11_makeDevice_130 : decode cX11_makeDevice 130 = .ok (.areturn, 1) := by decide +kernel
theorem dX11_makeDevice_131 : decode cX11_makeDevice 131 = .ok (.new 187, 3) := by decide +kernel
theorem dX11_makeDevice_134 : decode cX11_makeDevice 134 = .ok (.dup, 1) := by decide +kernel
theorem dX11_makeDevice_135 : decode cX11_makeDevice 135 = .ok (.iload_n 0, 1) := by decide +kernel
theorem dX11_makeDevice_136 : decode cX11_makeDevice 136 = .ok (.iload_n 1, 1) := by decide +kernel
theorem dX11_makeDevice_137 : decode cX11_makeDevice 137 = .ok (.iload_n 2, 1) := by decide +kernel
theorem dX11_makeDevice_138 : decode cX11_makeDevice 138 = .ok (.invokespecial 189, 3) := by decide +kernel
theorem dX11_makeDevice_141 : decode cX11_makeDevice 141 = .ok (.areturn, 1) := by decide +kernel
def kX11_makeDevice_0 (n : Nat) (K : Nat → jK) : jK := jk_iload 0 <| jk_sw [(0, (K 64)), (1, (K 64)), (2, (K 131)), (3, (jk_new 1 10 [4, 6] <| jk_dup <| jk_iload 1 <| jk_iload 2 <| jk_icall (fX1_init n) 2 <| jk_aret)), (4, (jk_new 2 8 [4, 6] <| jk_dup <| jk_iload 1 <| jk_icall (fX3_init n) 1 <| jk_aret)), (5, (jk_new 4 11 [4, 6, 8] <| jk_dup <| jk_iload 1 <| jk_icall (fX5_init n) 1 <| jk_aret)), (6, (jk_new 3 11 [4, 6, 9] <| jk_dup <| jk_iload 1 <| jk_iload 2 <| jk_icall (fX4_init n) 2 <| jk_aret)), (7, (K 131)), (8, (K 131)), (9, (jk_new 7 11 [4, 6, 8, 9] <| jk_dup <| jk_iload 1 <| jk_icall (fX8_init n) 1 <| jk_aret)), (10, (K 131)), (11, (jk_new 5 10 [4, 6, 8] <| jk_dup <| jk_iload 1 <| jk_icall (fX6_init n) 1 <| jk_aret))] (K 131)
set_option maxRecDepth 100000 in
set_option maxHeartbeats 4000000 in
theorem tX11_makeDevice_0 (l : Launch) (n : Nat) {K : Nat → jK} (hK : ∀ b, jr_D l cX11_makeDevice 3 "MeetingKit" (Option.some (Jvm.ClassFile.FieldType.object "MeetingKit$Device")) "makeDevice" 3 65 (K b) b) : jr_D l cX11_makeDevice 3 "MeetingKit" (Option.some (Jvm.ClassFile.FieldType.object "MeetingKit$Device")) "makeDevice" 3 65 (kX11_makeDevice_0 n K) 0 := by
  unfold kX11_makeDevice_0
  refine js_iload_n dX11_makeDevice_0 ?_
  refine js_tsw (td := 131) dX11_makeDevice_1 rfl (by decide) ?_ ?_
  · exact hK 131
  · refine ⟨rfl, ⟨64, by decide, ?_⟩, rfl, ⟨64, by decide, ?_⟩, rfl, ⟨131, by decide, ?_⟩, rfl, ⟨75, by decide, ?_⟩, rfl, ⟨85, by decide, ?_⟩, rfl, ⟨94, by decide, ?_⟩, rfl, ⟨103, by decide, ?_⟩, rfl, ⟨131, by decide, ?_⟩, rfl, ⟨131, by decide, ?_⟩, rfl, ⟨113, by decide, ?_⟩, rfl, ⟨131, by decide, ?_⟩, rfl, ⟨122, by decide, ?_⟩, trivial⟩
    · exact hK 64
    · exact hK 64
    · exact hK 131
    · refine js_new (C := "MeetingKit$Barrier") (T := TX1) (ty := tyX1) dX11_makeDevice_75 rfl (by decide) tyX1_ok (by decide) tw_231 tw_232 tw_106 ?_
      refine js_dup dX11_makeDevice_78 ?_
      refine js_iload_n dX11_makeDevice_79 ?_
      refine js_iload_n dX11_makeDevice_80 ?_
      refine js_calli (sX1_init l n) dX11_makeDevice_81 (by decide) (by decide) tw_233 tw_234 tw_106 tw_235 rfl (by decide +kernel) ?_
      exact js_aret dX11_makeDevice_84 rfl
    · refine js_new (C := "MeetingKit$Exchange") (T := TX3) (ty := tyX3) dX11_makeDevice_85 rfl (by decide) tyX3_ok (by decide) tw_252 tw_253 tw_107 ?_
      refine js_dup dX11_makeDevice_88 ?_
      refine js_iload_n dX11_makeDevice_89 ?_
      refine js_calli (sX3_init l n) dX11_makeDevice_90 (by decide) (by decide) tw_254 tw_255 tw_107 tw_256 rfl (by decide +kernel) ?_
      exact js_aret dX11_makeDevice_93 rfl
    · refine js_new (C := "MeetingKit$Lock") (T := TX5) (ty := tyX5) dX11_makeDevice_94 rfl (by decide) tyX5_ok (by decide) tw_267 tw_268 tw_108 ?_
      refine js_dup dX11_makeDevice_97 ?_
      refine js_iload_n dX11_makeDevice_98 ?_
      refine js_calli (sX5_init l n) dX11_makeDevice_99 (by decide) (by decide) tw_269 tw_270 tw_108 tw_271 rfl (by decide +kernel) ?_
      exact js_aret dX11_makeDevice_102 rfl
    · refine js_new (C := "MeetingKit$HandOver") (T := TX4) (ty := tyX4) dX11_makeDevice_103 rfl (by decide) tyX4_ok (by decide) tw_292 tw_293 tw_109 ?_
      refine js_dup dX11_makeDevice_106 ?_
      refine js_iload_n dX11_makeDevice_107 ?_
      refine js_iload_n dX11_makeDevice_108 ?_
      refine js_calli (sX4_init l n) dX11_makeDevice_109 (by decide) (by decide) tw_294 tw_295 tw_109 tw_296 rfl (by decide +kernel) ?_
      exact js_aret dX11_makeDevice_112 rfl
    · exact hK 131
    · exact hK 131
    · refine js_new (C := "MeetingKit$Phaser") (T := TX8) (ty := tyX8) dX11_makeDevice_113 rfl (by decide) tyX8_ok (by decide) tw_319 tw_320 tw_111 ?_
      refine js_dup dX11_makeDevice_116 ?_
      refine js_iload_n dX11_makeDevice_117 ?_
      refine js_calli (sX8_init l n) dX11_makeDevice_118 (by decide) (by decide) tw_321 tw_322 tw_111 tw_323 rfl (by decide +kernel) ?_
      exact js_aret dX11_makeDevice_121 rfl
    · exact hK 131
    · refine js_new (C := "MeetingKit$Monitor") (T := TX6) (ty := tyX6) dX11_makeDevice_122 rfl (by decide) tyX6_ok (by decide) tw_343 tw_344 tw_112 ?_
      refine js_dup dX11_makeDevice_125 ?_
      refine js_iload_n dX11_makeDevice_126 ?_
      refine js_calli (sX6_init l n) dX11_makeDevice_127 (by decide) (by decide) tw_345 tw_346 tw_112 tw_347 rfl (by decide +kernel) ?_
      exact js_aret dX11_makeDevice_130 rfl
def kX11_makeDevice_64 (n : Nat) (K : Nat → jK) : jK := jk_new 6 9 [4, 6] <| jk_dup <| jk_iload 0 <| jk_iload 1 <| jk_iload 2 <| jk_icall (fX7_init n) 3 <| jk_aret
set_option maxRecDepth 100000 in
set_option maxHeartbeats 4000000 in
theorem tX11_makeDevice_64 (l : Launch) (n : Nat) {K : Nat → jK} (hK : ∀ b, jr_D l cX11_makeDevice 3 "MeetingKit" (Option.some (Jvm.ClassFile.FieldType.object "MeetingKit$Device")) "makeDevice" 3 65 (K b) b) : jr_D l cX11_makeDevice 3 "MeetingKit" (Option.some (Jvm.ClassFile.FieldType.object "MeetingKit$Device")) "makeDevice" 3 65 (kX11_makeDevice_64 n K) 64 := by
  unfold kX11_makeDevice_64
  refine js_new (C := "MeetingKit$Permits") (T := TX7) (ty := tyX7) dX11_makeDevice_64 rfl (by decide) tyX7_ok (by decide) tw_168 tw_169 tw_105 ?_
  refine js_dup dX11_makeDevice_67 ?_
  refine js_iload_n dX11_makeDevice_68 ?_
  refine js_iload_n dX11_makeDevice_69 ?_
  refine js_iload_n dX11_makeDevice_70 ?_
  refine js_calli (sX7_init l n) dX11_makeDevice_71 (by decide) (by decide) tw_170 tw_171 tw_105 tw_172 rfl (by decide +kernel) ?_
  exact js_aret dX11_makeDevice_74 rfl
def kX11_makeDevice_131 (n : Nat) (K : Nat → jK) : jK := jk_new 8 10 [4, 6] <| jk_dup <| jk_iload 0 <| jk_iload 1 <| jk_iload 2 <| jk_icall (fX9_init n) 3 <| jk_aret
set_option maxRecDepth 100000 in
set_option maxHeartbeats 4000000 in
theorem tX11_makeDevice_131 (l : Launch) (n : Nat) {K : Nat → jK} (hK : ∀ b, jr_D l cX11_makeDevice 3 "MeetingKit" (Option.some (Jvm.ClassFile.FieldType.object "MeetingKit$Device")) "makeDevice" 3 65 (K b) b) : jr_D l cX11_makeDevice 3 "MeetingKit" (Option.some (Jvm.ClassFile.FieldType.object "MeetingKit$Device")) "makeDevice" 3 65 (kX11_makeDevice_131 n K) 131 := by
  unfold kX11_makeDevice_131
  refine js_new (C := "MeetingKit$Sign") (T := TX9) (ty := tyX9) dX11_makeDevice_131 rfl (by decide) tyX9_ok (by decide) tw_364 tw_365 tw_113 ?_
  refine js_dup dX11_makeDevice_134 ?_
  refine js_iload_n dX11_makeDevice_135 ?_
  refine js_iload_n dX11_makeDevice_136 ?_
  refine js_iload_n dX11_makeDevice_137 ?_
  refine js_calli (sX9_init l n) dX11_makeDevice_138 (by decide) (by decide) tw_366 tw_367 tw_113 tw_368 rfl (by decide +kernel) ?_
  exact js_aret dX11_makeDevice_141 rfl
def kX11_makeDevice_b (n : Nat) (K : Nat → jK) (b : Nat) : jK := if b = 0 then kX11_makeDevice_0 n K else if b = 64 then kX11_makeDevice_64 n K else if b = 131 then kX11_makeDevice_131 n K else jk_none
def kX11_makeDevice (n : Nat) : jK := jk_fix (kX11_makeDevice_b n) n 0
theorem tX11_makeDevice (l : Launch) (n : Nat) : jr_D l cX11_makeDevice 3 "MeetingKit" (Option.some (Jvm.ClassFile.FieldType.object "MeetingKit$Device")) "makeDevice" 3 65 (kX11_makeDevice n) 0 := js_fix (F := kX11_makeDevice_b n) (fun K hK b => js_blk (tX11_makeDevice_0 l n hK) (js_blk (tX11_makeDevice_64 l n hK) (js_blk (tX11_makeDevice_131 l n hK) (js_none)))) n 0
def fX11_makeDevice (n : Nat) : jF := jm_run 3 3 (kX11_makeDevice n)
theorem sX11_makeDevice (l : Launch) (n : Nat) : jr_F l (⟨"MeetingKit", "makeDevice", "(III)LMeetingKit$Device;"⟩ : MethodName) cX11_makeDevice 3 (Option.some (Jvm.ClassFile.FieldType.object "MeetingKit$Device")) 3 65 (fX11_makeDevice n) := js_met (by decide +kernel) (by decide) (tX11_makeDevice l n)
theorem dX11_device_0 : decode cX11_device 0 = .ok (.aload_n 0, 1) := by decide +kernel
theorem dX11_device_1 : decode cX11_device 1 = .ok (.getfield 25, 3) := by decide +kernel
theorem dX11_device_4 : decode cX11_device 4 = .ok (.bipush 12, 2) := by decide +kernel
theorem dX11_device_6 : decode cX11_device 6 = .ok (.if_icmp .ge 13, 3) := by decide +kernel
theorem dX11_device_9 : decode cX11_device 9 = .ok (.iload_n 1, 1) := by decide +kernel
theorem dX11_device_10 : decode cX11_device 10 = .ok (.ifCond .lt 9, 3) := by decide +kernel
theorem dX11_device_13 : decode cX11_device 13 = .ok (.iload_n 1, 1) := by decide +kernel
theorem dX11_device_14 : decode cX11_device 14 = .ok (.bipush 11, 2) := by decide +kernel
theorem dX11_device_16 : decode cX11_device 16 = .ok (.if_icmp .le 5, 3) := by decide +kernel
theorem dX11_device_19 : decode cX11_device 19 = .ok (.iconst (-1), 1) := by decide +kernel
theorem dX11_device_20 : decode cX11_device 20 = .ok (.ireturn, 1) := by decide +kernel
theorem dX11_device_21 : decode cX11_device 21 = .ok (.iload_n 2, 1) := by decide +kernel
theorem dX11_device_22 : decode cX11_device 22 = .ok (.getstatic 29, 3) := by decide +kernel
theorem dX11_device_25 : decode cX11_device 25 = .ok (.iload_n 1, 1) := by decide +kernel
theorem dX11_device_26 : decode cX11_device 26 = .ok (.iaload, 1) := by decide +kernel
theorem dX11_device_27 : decode cX11_device 27 = .ok (.if_icmp .lt 12, 3) := by decide +kernel
theorem dX11_device_30 : decode cX11_device 30 = .ok (.iload_n 2, 1) := by decide +kernel
theorem dX11_device_31 : decode cX11_device 31 = .ok (.getstatic 32, 3) := by decide +kernel
theorem dX11_device_34 : decode cX11_device 34 = .ok (.iload_n 1, 1) := by decide +kernel
theorem dX11_device_35 : decode cX11_device 35 = .ok (.iaload, 1) := by decide +kernel
theorem dX11_device_36 : decode cX11_device 36 = .ok (.if_icmp .le 5, 3) := by decide +kernel
theorem dX11_device_39 : decode cX11_device 39 = .ok (.iconst (-1), 1) := by decide +kernel
theorem dX11_device_40 : decode cX11_device 40 = .ok (.ireturn, 1) := by decide +kernel
theorem dX11_device_41 : decode cX11_device 41 = .ok (.aload_n 0, 1) := by decide +kernel
theorem dX11_device_42 : decode cX11_device 42 = .ok (.getfield 17, 3) := by decide +kernel
theorem dX11_device_45 : decode cX11_device 45 = .ok (.aload_n 0, 1) := by decide +kernel
theorem dX11_device_46 : decode cX11_device 46 = .ok (.getfield 25, 3) := by decide +kernel
theorem dX11_device_49 : decode cX11_device 49 = .ok (.iload_n 1, 1) := by decide +kernel
theorem dX11_device_50 : decode cX11_device 50 = .ok (.aload_n 0, 1) := by decide +kernel
theorem dX11_device_51 : decode cX11_device 51 = .ok (.getfield 25, 3) := by decide +kernel
theorem dX11_device_54 : decode cX11_device 54 = .ok (.iload_n 2, 1) := by decide +kernel
theorem dX11_device_55 : decode cX11_device 55 = .ok (.invokestatic 35, 3) := by decide +kernel
theorem dX11_device_58 : decode cX11_device 58 = .ok (.aastore, 1) := by decide +kernel
theorem dX11_device_59 : decode cX11_device 59 = .ok (.aload_n 0, 1) := by decide +kernel
theorem dX11_device_60 : decode cX11_device 60 = .ok (.dup, 1) := by decide +kernel
theorem dX11_device_61 : decode cX11_device 61 = .ok (.getfield 25, 3) := by decide +kernel
theorem dX11_device_64 : decode cX11_device 64 = .ok (.iconst 1, 1) := by decide +kernel
theorem dX11_device_65 : decode cX11_device 65 = .ok (.iadd, 1) := by decide +kernel
theorem dX11_device_66 : decode cX11_device 66 = .ok (.putfield 25, 3) := by decide +kernel
theorem dX11_device_69 : decode cX11_device 69 = .ok (.aload_n 0, 1) := by decide +kernel
theorem dX11_device_70 : decode cX11_device 70 = .ok (.getfield 25, 3) := by decide +kernel
theorem dX11_device_73 : decode cX11_device 73 = .ok (.iconst 1, 1) := by decide +kernel
theorem dX11_device_74 : decode cX11_device 74 = .ok (.isub, 1) := by decide +kernel
theorem dX11_device_75 : decode cX11_device 75 = .ok (.ireturn, 1) := by decide +kernel
noncomputable def kX11_device_0 (n : Nat) (K : Nat → jK) : jK := jk_aload 0 <| jk_get [10] 3 <| jk_int 12 <| jk_icmpge (K 19) <| jk_iload 1 <| jk_iflt (K 19) <| jk_iload 1 <| jk_int 11 <| jk_icmple (jk_iload 2 <| jk_static 0 <| jk_iload 1 <| jk_iald <| jk_icmplt (K 39) <| jk_iload 2 <| jk_static 1 <| jk_iload 1 <| jk_iald <| jk_icmple (jk_aload 0 <| jk_get [10] 2 <| jk_aload 0 <| jk_get [10] 3 <| jk_iload 1 <| jk_aload 0 <| jk_get [10] 3 <| jk_iload 2 <| jk_call (fX11_makeDevice n) 3 <| jk_aast 24 <| jk_aload 0 <| jk_dup <| jk_get [10] 3 <| jk_int 1 <| jk_iadd <| jk_puti [10] 3 <| jk_aload 0 <| jk_get [10] 3 <| jk_int 1 <| jk_isub <| jk_iret) <| K 39) <| K 19
set_option maxRecDepth 100000 in
set_option maxHeartbeats 4000000 in
theorem tX11_device_0 (l : Launch) (n : Nat) {K : Nat → jK} (hK : ∀ b, jr_D l cX11_device 3 "MeetingKit" (Option.some Jvm.ClassFile.FieldType.int) "device" 4 87 (K b) b) : jr_D l cX11_device 3 "MeetingKit" (Option.some Jvm.ClassFile.FieldType.int) "device" 4 87 (kX11_device_0 n K) 0 := by
  unfold kX11_device_0
  refine js_aload_n dX11_device_0 ?_
  refine js_get dX11_device_1 jf_3_10 tw_131 (Or.inl rfl) ?_
  refine js_bipush dX11_device_4 ?_
  refine js_icmpge (tgt := 19) dX11_device_6 (by decide) ?_ ?_
  · exact hK 19
  · refine js_iload_n dX11_device_9 ?_
    refine js_iflt (tgt := 19) dX11_device_10 (by decide) ?_ ?_
    · exact hK 19
    · refine js_iload_n dX11_device_13 ?_
      refine js_bipush dX11_device_14 ?_
      refine js_icmple (tgt := 21) dX11_device_16 (by decide) ?_ ?_
      · refine js_iload_n dX11_device_21 ?_
        refine js_static dX11_device_22 (Or.inl ⟨rfl, rfl⟩) tw_161 ?_
        refine js_iload_n dX11_device_25 ?_
        refine js_iald dX11_device_26 ?_
        refine js_icmplt (tgt := 39) dX11_device_27 (by decide) ?_ ?_
        · exact hK 39
        · refine js_iload_n dX11_device_30 ?_
          refine js_static dX11_device_31 (Or.inr ⟨rfl, rfl⟩) tw_163 ?_
          refine js_iload_n dX11_device_34 ?_
          refine js_iald dX11_device_35 ?_
          refine js_icmple (tgt := 41) dX11_device_36 (by decide) ?_ ?_
          · refine js_aload_n dX11_device_41 ?_
            refine js_get dX11_device_42 jf_2_10 tw_130 (Or.inl rfl) ?_
            refine js_aload_n dX11_device_45 ?_
            refine js_get dX11_device_46 jf_3_10 tw_131 (Or.inl rfl) ?_
            refine js_iload_n dX11_device_49 ?_
            refine js_aload_n dX11_device_50 ?_
            refine js_get dX11_device_51 jf_3_10 tw_131 (Or.inl rfl) ?_
            refine js_iload_n dX11_device_54 ?_
            refine js_calls (sX11_makeDevice l n) dX11_device_55 (by decide) (by decide) tw_165 tw_166 tw_102 tw_167 (by decide +kernel) ?_
            refine js_aast rfl (by decide) may_24 dX11_device_58 ?_
            refine js_aload_n dX11_device_59 ?_
            refine js_dup dX11_device_60 ?_
            refine js_get dX11_device_61 jf_3_10 tw_131 (Or.inl rfl) ?_
            refine js_iconst dX11_device_64 ?_
            refine js_iadd dX11_device_65 ?_
            refine js_puti dX11_device_66 jf_3_10 rfl tw_131 (Or.inl rfl) ?_
            refine js_aload_n dX11_device_69 ?_
            refine js_get dX11_device_70 jf_3_10 tw_131 (Or.inl rfl) ?_
            refine js_iconst dX11_device_73 ?_
            refine js_isub dX11_device_74 ?_
            exact js_iret dX11_device_75 rfl
          · exact hK 39
      · exact hK 19
noncomputable def kX11_device_19 (n : Nat) (K : Nat → jK) : jK := jk_kill 0 <| jk_kill 1 <| jk_kill 2 <| jk_int (-1) <| jk_iret
set_option maxRecDepth 100000 in
set_option maxHeartbeats 4000000 in
theorem tX11_device_19 (l : Launch) (n : Nat) {K : Nat → jK} (hK : ∀ b, jr_D l cX11_device 3 "MeetingKit" (Option.some Jvm.ClassFile.FieldType.int) "device" 4 87 (K b) b) : jr_D l cX11_device 3 "MeetingKit" (Option.some Jvm.ClassFile.FieldType.int) "device" 4 87 (kX11_device_19 n K) 19 := by
  unfold kX11_device_19
  refine js_kill ?_
  refine js_kill ?_
  refine js_kill ?_
  refine js_iconst dX11_device_19 ?_
  exact js_iret dX11_device_20 rfl
noncomputable def kX11_device_39 (n : Nat) (K : Nat → jK) : jK := jk_kill 0 <| jk_kill 1 <| jk_kill 2 <| jk_int (-1) <| jk_iret
set_option maxRecDepth 100000 in
set_option maxHeartbeats 4000000 in
theorem tX11_device_39 (l : Launch) (n : Nat) {K : Nat → jK} (hK : ∀ b, jr_D l cX11_device 3 "MeetingKit" (Option.some Jvm.ClassFile.FieldType.int) "device" 4 87 (K b) b) : jr_D l cX11_device 3 "MeetingKit" (Option.some Jvm.ClassFile.FieldType.int) "device" 4 87 (kX11_device_39 n K) 39 := by
  unfold kX11_device_39
  refine js_kill ?_
  refine js_kill ?_
  refine js_kill ?_
  refine js_iconst dX11_device_39 ?_
  exact js_iret dX11_device_40 rfl
noncomputable def kX11_device_b (n : Nat) (K : Nat → jK) (b : Nat) : jK := if b = 0 then kX11_device_0 n K else if b = 19 then kX11_device_19 n K else if b = 39 then kX11_device_39 n K else jk_none
noncomputable def kX11_device (n : Nat) : jK := jk_fix (kX11_device_b n) n 0
theorem tX11_device (l : Launch) (n : Nat) : jr_D l cX11_device 3 "MeetingKit" (Option.some Jvm.ClassFile.FieldType.int) "device" 4 87 (kX11_device n) 0 := js_fix (F := kX11_device_b n) (fun K hK b => js_blk (tX11_device_0 l n hK) (js_blk (tX11_device_19 l n hK) (js_blk (tX11_device_39 l n hK) (js_none)))) n 0
noncomputable def fX11_device (n : Nat) : jF := jm_run 3 3 (kX11_device n)
theorem sX11_device (l : Launch) (n : Nat) : jr_F l (⟨"MeetingKit", "device", "(II)I"⟩ : MethodName) cX11_device 3 (Option.some Jvm.ClassFile.FieldType.int) 4 87 (fX11_device n) := js_met (by decide +kernel) (by decide) (tX11_device l n)
theorem dX11_thread_0 : decode cX11_thread 0 = .ok (.aload_n 0, 1) := by decide +kernel
theorem dX11_thread_1 : decode cX11_thread 1 = .ok (.getfield 39, 3) := by decide +kernel
theorem dX11_thread_4 : decode cX11_thread 4 = .ok (.bipush 16, 2) := by decide +kernel
theorem dX11_thread_6 : decode cX11_thread 6 = .ok (.if_icmp .lt 5, 3) := by decide +kernel
theorem dX11_thread_9 : decode cX11_thread 9 = .ok (.iconst (-1), 1) := by decide +kernel
theorem dX11_thread_10 : decode cX11_thread 10 = .ok (.ireturn, 1) := by decide +kernel
theorem dX11_thread_11 : decode cX11_thread 11 = .ok (.aload_n 0, 1) := by decide +kernel
theorem dX11_thread_12 : decode cX11_thread 12 = .ok (.getfield 11, 3) := by decide +kernel
theorem dX11_thread_15 : decode cX11_thread 15 = .ok (.aload_n 0, 1) := by decide +kernel
theorem dX11_thread_16 : decode cX11_thread 16 = .ok (.getfield 39, 3) := by decide +kernel
theorem dX11_thread_19 : decode cX11_thread 19 = .ok (.new 9, 3) := by decide +kernel
theorem dX11_thread_22 : decode cX11_thread 22 = .ok (.dup, 1) := by decide +kernel
theorem dX11_thread_23 : decode cX11_thread 23 = .ok (.aload_n 0, 1) := by decide +kernel
theorem dX11_thread_24 : decode cX11_thread 24 = .ok (.getfield 39, 3) := by decide +kernel
theorem dX11_thread_27 : decode cX11_thread 27 = .ok (.invokespecial 42, 3) := by decide +kernel
theorem dX11_thread_30 : decode cX11_thread 30 = .ok (.aastore, 1) := by decide +kernel
theorem dX11_thread_31 : decode cX11_thread 31 = .ok (.aload_n 0, 1) := by decide +kernel
theorem dX11_thread_32 : decode cX11_thread 32 = .ok (.dup, 1) := by decide +kernel
theorem dX11_thread_33 : decode cX11_thread 33 = .ok (.getfield 39, 3) := by decide +kernel
theorem dX11_thread_36 : decode cX11_thread 36 = .ok (.iconst 1, 1) := by decide +kernel
theorem dX11_thread_37 : decode cX11_thread 37 = .ok (.iadd, 1) := by decide +kernel
theorem dX11_thread_38 : decode cX11_thread 38 = .ok (.putfield 39, 3) := by decide +kernel
theorem dX11_thread_41 : decode cX11_thread 41 = .ok (.aload_n 0, 1) := by decide +kernel
theorem dX11_thread_42 : decode cX11_thread 42 = .ok (.getfield 39, 3) := by decide +kernel
theorem dX11_thread_45 : decode cX11_thread 45 = .ok (.iconst 1, 1) := by decide +kernel
theorem dX11_thread_46 : decode cX11_thread 46 = .ok (.isub, 1) := by decide +kernel
theorem dX11_thread_47 : decode cX11_thread 47 = .ok (.ireturn, 1) := by decide +kernel
def kX11_thread (n : Nat) : jK := jk_aload 0 <| jk_get [10] 1 <| jk_int 16 <| jk_icmplt (jk_aload 0 <| jk_get [10] 0 <| jk_aload 0 <| jk_get [10] 1 <| jk_new 0 7 [1, 4] <| jk_dup <| jk_aload 0 <| jk_get [10] 1 <| jk_icall (fX0_init n) 1 <| jk_aast 23 <| jk_aload 0 <| jk_dup <| jk_get [10] 1 <| jk_int 1 <| jk_iadd <| jk_puti [10] 1 <| jk_aload 0 <| jk_get [10] 1 <| jk_int 1 <| jk_isub <| jk_iret) <| jk_int (-1) <| jk_iret
set_option maxRecDepth 100000 in
set_option maxHeartbeats 4000000 in
theorem tX11_thread (l : Launch) (n : Nat) : jr_D l cX11_thread 1 "MeetingKit" (Option.some Jvm.ClassFile.FieldType.int) "thread" 2 41 (kX11_thread n) 0 := by
  unfold kX11_thread
  refine js_aload_n dX11_thread_0 ?_
  refine js_get dX11_thread_1 jf_1_10 tw_129 (Or.inl rfl) ?_
  refine js_bipush dX11_thread_4 ?_
  refine js_icmplt (tgt := 11) dX11_thread_6 (by decide) ?_ ?_
  · refine js_aload_n dX11_thread_11 ?_
    refine js_get dX11_thread_12 jf_0_10 tw_128 (Or.inl rfl) ?_
    refine js_aload_n dX11_thread_15 ?_
    refine js_get dX11_thread_16 jf_1_10 tw_129 (Or.inl rfl) ?_
    refine js_new (C := "MeetingKit$Actor") (T := TX0) (ty := tyX0) dX11_thread_19 rfl (by decide) tyX0_ok (by decide) tw_124 tw_389 tw_114 ?_
    refine js_dup dX11_thread_22 ?_
    refine js_aload_n dX11_thread_23 ?_
    refine js_get dX11_thread_24 jf_1_10 tw_129 (Or.inl rfl) ?_
    refine js_calli (sX0_init l n) dX11_thread_27 (by decide) (by decide) tw_390 tw_391 tw_114 tw_392 rfl (by decide +kernel) ?_
    refine js_aast rfl (by decide) may_23 dX11_thread_30 ?_
    refine js_aload_n dX11_thread_31 ?_
    refine js_dup dX11_thread_32 ?_
    refine js_get dX11_thread_33 jf_1_10 tw_129 (Or.inl rfl) ?_
    refine js_iconst dX11_thread_36 ?_
    refine js_iadd dX11_thread_37 ?_
    refine js_puti dX11_thread_38 jf_1_10 rfl tw_129 (Or.inl rfl) ?_
    refine js_aload_n dX11_thread_41 ?_
    refine js_get dX11_thread_42 jf_1_10 tw_129 (Or.inl rfl) ?_
    refine js_iconst dX11_thread_45 ?_
    refine js_isub dX11_thread_46 ?_
    exact js_iret dX11_thread_47 rfl
  · refine js_iconst dX11_thread_9 ?_
    exact js_iret dX11_thread_10 rfl
def fX11_thread (n : Nat) : jF := jm_run 1 1 (kX11_thread n)
theorem sX11_thread (l : Launch) (n : Nat) : jr_F l (⟨"MeetingKit", "thread", "()I"⟩ : MethodName) cX11_thread 1 (Option.some Jvm.ClassFile.FieldType.int) 2 41 (fX11_thread n) := js_met (by decide +kernel) (by decide) (tX11_thread l n)
theorem dX11_actorAt_0 : decode cX11_actorAt 0 = .ok (.iload_n 1, 1) := by decide +kernel
theorem dX11_actorAt_1 : decode cX11_actorAt 1 = .ok (.ifCond .lt 20, 3) := by decide +kernel
theorem dX11_actorAt_4 : decode cX11_actorAt 4 = .ok (.iload_n 1, 1) := by decide +kernel
theorem dX11_actorAt_5 : decode cX11_actorAt 5 = .ok (.aload_n 0, 1) := by decide +kernel
theorem dX11_actorAt_6 : decode cX11_actorAt 6 = .ok (.getfield 39, 3) := by decide +kernel
theorem dX11_actorAt_9 : decode cX11_actorAt 9 = .ok (.if_icmp .ge 12, 3) := by decide +kernel
theorem dX11_actorAt_12 : decode cX11_actorAt 12 = .ok (.aload_n 0, 1) := by decide +kernel
theorem dX11_actorAt_13 : decode cX11_actorAt 13 = .ok (.getfield 11, 3) := by decide +kernel
theorem dX11_actorAt_16 : decode cX11_actorAt 16 = .ok (.iload_n 1, 1) := by decide +kernel
theorem dX11_actorAt_17 : decode cX11_actorAt 17 = .ok (.aaload, 1) := by decide +kernel
theorem dX11_actorAt_18 : decode cX11_actorAt 18 = .ok (.goto 4, 3) := by decide +kernel
theorem dX11_actorAt_21 : decode cX11_actorAt 21 = .ok (.aconst_null, 1) := by decide +kernel
theorem dX11_actorAt_22 : decode cX11_actorAt 22 = .ok (.areturn, 1) := by decide +kernel
def kX11_actorAt_0 (n : Nat) (K : Nat → jK) : jK := jk_iload 1 <| jk_iflt (K 21) <| jk_iload 1 <| jk_aload 0 <| jk_get [10] 1 <| jk_icmpge (K 21) <| jk_aload 0 <| jk_get [10] 0 <| jk_iload 1 <| jk_xald 23 <| K 22
set_option maxRecDepth 100000 in
set_option maxHeartbeats 4000000 in
theorem tX11_actorAt_0 (l : Launch) (n : Nat) {K : Nat → jK} (hK : ∀ b, jr_D l cX11_actorAt 2 "MeetingKit" (Option.some (Jvm.ClassFile.FieldType.object "MeetingKit$Actor")) "actorAt" 0 0 (K b) b) : jr_D l cX11_actorAt 2 "MeetingKit" (Option.some (Jvm.ClassFile.FieldType.object "MeetingKit$Actor")) "actorAt" 0 0 (kX11_actorAt_0 n K) 0 := by
  unfold kX11_actorAt_0
  refine js_iload_n dX11_actorAt_0 ?_
  refine js_iflt (tgt := 21) dX11_actorAt_1 (by decide) ?_ ?_
  · exact hK 21
  · refine js_iload_n dX11_actorAt_4 ?_
    refine js_aload_n dX11_actorAt_5 ?_
    refine js_get dX11_actorAt_6 jf_1_10 tw_129 (Or.inl rfl) ?_
    refine js_icmpge (tgt := 21) dX11_actorAt_9 (by decide) ?_ ?_
    · exact hK 21
    · refine js_aload_n dX11_actorAt_12 ?_
      refine js_get dX11_actorAt_13 jf_0_10 tw_128 (Or.inl rfl) ?_
      refine js_iload_n dX11_actorAt_16 ?_
      refine js_aald (by decide) dX11_actorAt_17 ?_
      refine js_goto (tgt := 22) dX11_actorAt_18 (by decide) ?_
      exact hK 22
def kX11_actorAt_21 (n : Nat) (K : Nat → jK) : jK := jk_kill 0 <| jk_kill 1 <| jk_null <| K 22
set_option maxRecDepth 100000 in
set_option maxHeartbeats 4000000 in
theorem tX11_actorAt_21 (l : Launch) (n : Nat) {K : Nat → jK} (hK : ∀ b, jr_D l cX11_actorAt 2 "MeetingKit" (Option.some (Jvm.ClassFile.FieldType.object "MeetingKit$Actor")) "actorAt" 0 0 (K b) b) : jr_D l cX11_actorAt 2 "MeetingKit" (Option.some (Jvm.ClassFile.FieldType.object "MeetingKit$Actor")) "actorAt" 0 0 (kX11_actorAt_21 n K) 21 := by
  unfold kX11_actorAt_21
  refine js_kill ?_
  refine js_kill ?_
  refine js_null dX11_actorAt_21 ?_
  exact hK 22
def kX11_actorAt_22 (n : Nat) (K : Nat → jK) : jK := jk_kill 0 <| jk_kill 1 <| jk_aret
set_option maxRecDepth 100000 in
set_option maxHeartbeats 4000000 in
theorem tX11_actorAt_22 (l : Launch) (n : Nat) {K : Nat → jK} (hK : ∀ b, jr_D l cX11_actorAt 2 "MeetingKit" (Option.some (Jvm.ClassFile.FieldType.object "MeetingKit$Actor")) "actorAt" 0 0 (K b) b) : jr_D l cX11_actorAt 2 "MeetingKit" (Option.some (Jvm.ClassFile.FieldType.object "MeetingKit$Actor")) "actorAt" 0 0 (kX11_actorAt_22 n K) 22 := by
  unfold kX11_actorAt_22
  refine js_kill ?_
  refine js_kill ?_
  exact js_aret dX11_actorAt_22 rfl
def kX11_actorAt_b (n : Nat) (K : Nat → jK) (b : Nat) : jK := if b = 0 then kX11_actorAt_0 n K else if b = 21 then kX11_actorAt_21 n K else if b = 22 then kX11_actorAt_22 n K else jk_none
def kX11_actorAt (n : Nat) : jK := jk_fix (kX11_actorAt_b n) n 0
theorem tX11_actorAt (l : Launch) (n : Nat) : jr_D l cX11_actorAt 2 "MeetingKit" (Option.some (Jvm.ClassFile.FieldType.object "MeetingKit$Actor")) "actorAt" 0 0 (kX11_actorAt n) 0 := js_fix (F := kX11_actorAt_b n) (fun K hK b => js_blk (tX11_actorAt_0 l n hK) (js_blk (tX11_actorAt_21 l n hK) (js_blk (tX11_actorAt_22 l n hK) (js_none)))) n 0
def fX11_actorAt (n : Nat) : jF := jm_run 2 2 (kX11_actorAt n)
theorem sX11_actorAt (l : Launch) (n : Nat) : jr_F l (⟨"MeetingKit", "actorAt", "(I)LMeetingKit$Actor;"⟩ : MethodName) cX11_actorAt 2 (Option.some (Jvm.ClassFile.FieldType.object "MeetingKit$Actor")) 0 0 (fX11_actorAt n) := js_met (by decide +kernel) (by decide) (tX11_actorAt l n)
theorem dX11_deviceAt_0 : decode cX11_deviceAt 0 = .ok (.iload_n 1, 1) := by decide +kernel
theorem dX11_deviceAt_1 : decode cX11_deviceAt 1 = .ok (.ifCond .lt 20, 3) := by decide +kernel
theorem dX11_deviceAt_4 : decode cX11_deviceAt 4 = .ok (.iload_n 1, 1) := by decide +kernel
theorem dX11_deviceAt_5 : decode cX11_deviceAt 5 = .ok (.aload_n 0, 1) := by decide +kernel
theorem dX11_deviceAt_6 : decode cX11_deviceAt 6 = .ok (.getfield 25, 3) := by decide +kernel
theorem dX11_deviceAt_9 : decode cX11_deviceAt 9 = .ok (.if_icmp .ge 12, 3) := by decide +kernel
theorem dX11_deviceAt_12 : decode cX11_deviceAt 12 = .ok (.aload_n 0, 1) := by decide +kernel
theorem dX11_deviceAt_13 : decode cX11_deviceAt 13 = .ok (.getfield 17, 3) := by decide +kernel
theorem dX11_deviceAt_16 : decode cX11_deviceAt 16 = .ok (.iload_n 1, 1) := by decide +kernel
theorem dX11_deviceAt_17 : decode cX11_deviceAt 17 = .ok (.aaload, 1) := by decide +kernel
theorem dX11_deviceAt_18 : decode cX11_deviceAt 18 = .ok (.goto 4, 3) := by decide +kernel
theorem dX11_deviceAt_21 : decode cX11_deviceAt 21 = .ok (.aconst_null, 1) := by decide +kernel
theorem dX11_deviceAt_22 : decode cX11_deviceAt 22 = .ok (.areturn, 1) := by decide +kernel
def kX11_deviceAt_0 (n : Nat) (K : Nat → jK) : jK := jk_iload 1 <| jk_iflt (K 21) <| jk_iload 1 <| jk_aload 0 <| jk_get [10] 3 <| jk_icmpge (K 21) <| jk_aload 0 <| jk_get [10] 2 <| jk_iload 1 <| jk_xald 24 <| K 22
set_option maxRecDepth 100000 in
set_option maxHeartbeats 4000000 in
theorem tX11_deviceAt_0 (l : Launch) (n : Nat) {K : Nat → jK} (hK : ∀ b, jr_D l cX11_deviceAt 2 "MeetingKit" (Option.some (Jvm.ClassFile.FieldType.object "MeetingKit$Device")) "deviceAt" 0 0 (K b) b) : jr_D l cX11_deviceAt 2 "MeetingKit" (Option.some (Jvm.ClassFile.FieldType.object "MeetingKit$Device")) "deviceAt" 0 0 (kX11_deviceAt_0 n K) 0 := by
  unfold kX11_deviceAt_0
  refine js_iload_n dX11_deviceAt_0 ?_
  refine js_iflt (tgt := 21) dX11_deviceAt_1 (by decide) ?_ ?_
  · exact hK 21
  · refine js_iload_n dX11_deviceAt_4 ?_
    refine js_aload_n dX11_deviceAt_5 ?_
    refine js_get dX11_deviceAt_6 jf_3_10 tw_131 (Or.inl rfl) ?_
    refine js_icmpge (tgt := 21) dX11_deviceAt_9 (by decide) ?_ ?_
    · exact hK 21
    · refine js_aload_n dX11_deviceAt_12 ?_
      refine js_get dX11_deviceAt_13 jf_2_10 tw_130 (Or.inl rfl) ?_
      refine js_iload_n dX11_deviceAt_16 ?_
      refine js_aald (by decide) dX11_deviceAt_17 ?_
      refine js_goto (tgt := 22) dX11_deviceAt_18 (by decide) ?_
      exact hK 22
def kX11_deviceAt_21 (n : Nat) (K : Nat → jK) : jK := jk_kill 0 <| jk_kill 1 <| jk_null <| K 22
set_option maxRecDepth 100000 in
set_option maxHeartbeats 4000000 in
theorem tX11_deviceAt_21 (l : Launch) (n : Nat) {K : Nat → jK} (hK : ∀ b, jr_D l cX11_deviceAt 2 "MeetingKit" (Option.some (Jvm.ClassFile.FieldType.object "MeetingKit$Device")) "deviceAt" 0 0 (K b) b) : jr_D l cX11_deviceAt 2 "MeetingKit" (Option.some (Jvm.ClassFile.FieldType.object "MeetingKit$Device")) "deviceAt" 0 0 (kX11_deviceAt_21 n K) 21 := by
  unfold kX11_deviceAt_21
  refine js_kill ?_
  refine js_kill ?_
  refine js_null dX11_deviceAt_21 ?_
  exact hK 22
def kX11_deviceAt_22 (n : Nat) (K : Nat → jK) : jK := jk_kill 0 <| jk_kill 1 <| jk_aret
set_option maxRecDepth 100000 in
set_option maxHeartbeats 4000000 in
theorem tX11_deviceAt_22 (l : Launch) (n : Nat) {K : Nat → jK} (hK : ∀ b, jr_D l cX11_deviceAt 2 "MeetingKit" (Option.some (Jvm.ClassFile.FieldType.object "MeetingKit$Device")) "deviceAt" 0 0 (K b) b) : jr_D l cX11_deviceAt 2 "MeetingKit" (Option.some (Jvm.ClassFile.FieldType.object "MeetingKit$Device")) "deviceAt" 0 0 (kX11_deviceAt_22 n K) 22 := by
  unfold kX11_deviceAt_22
  refine js_kill ?_
  refine js_kill ?_
  exact js_aret dX11_deviceAt_22 rfl
def kX11_deviceAt_b (n : Nat) (K : Nat → jK) (b : Nat) : jK := if b = 0 then kX11_deviceAt_0 n K else if b = 21 then kX11_deviceAt_21 n K else if b = 22 then kX11_deviceAt_22 n K else jk_none
def kX11_deviceAt (n : Nat) : jK := jk_fix (kX11_deviceAt_b n) n 0
theorem tX11_deviceAt (l : Launch) (n : Nat) : jr_D l cX11_deviceAt 2 "MeetingKit" (Option.some (Jvm.ClassFile.FieldType.object "MeetingKit$Device")) "deviceAt" 0 0 (kX11_deviceAt n) 0 := js_fix (F := kX11_deviceAt_b n) (fun K hK b => js_blk (tX11_deviceAt_0 l n hK) (js_blk (tX11_deviceAt_21 l n hK) (js_blk (tX11_deviceAt_22 l n hK) (js_none)))) n 0
def fX11_deviceAt (n : Nat) : jF := jm_run 2 2 (kX11_deviceAt n)
theorem sX11_deviceAt (l : Launch) (n : Nat) : jr_F l (⟨"MeetingKit", "deviceAt", "(I)LMeetingKit$Device;"⟩ : MethodName) cX11_deviceAt 2 (Option.some (Jvm.ClassFile.FieldType.object "MeetingKit$Device")) 0 0 (fX11_deviceAt n) := js_met (by decide +kernel) (by decide) (tX11_deviceAt l n)
theorem dX11_step_0 : decode cX11_step 0 = .ok (.aload_n 0, 1) := by decide +kernel
theorem dX11_step_1 : decode cX11_step 1 = .ok (.iload_n 1, 1) := by decide +kernel
theorem dX11_step_2 : decode cX11_step 2 = .ok (.invokevirtual 45, 3) := by decide +kernel
theorem dX11_step_5 : decode cX11_step 5 = .ok (.astore 6, 2) := by decide +kernel
theorem dX11_step_7 : decode cX11_step 7 = .ok (.aload_n 0, 1) := by decide +kernel
theorem dX11_step_8 : decode cX11_step 8 = .ok (.iload_n 2, 1) := by decide +kernel
theorem dX11_step_9 : decode cX11_step 9 = .ok (.invokevirtual 49, 3) := by decide +kernel
theorem dX11_step_12 : decode cX11_step 12 = .ok (.astore 7, 2) := by decide +kernel
theorem dX11_step_14 : decode cX11_step 14 = .ok (.aload 6, 2) := by decide +kernel
theorem dX11_step_16 : decode cX11_step 16 = .ok (.ifnull 18, 3) := by decide +kernel
theorem dX11_step_19 : decode cX11_step 19 = .ok (.aload 7, 2) := by decide +kernel
theorem dX11_step_21 : decode cX11_step 21 = .ok (.ifnull 13, 3) := by decide +kernel
theorem dX11_step_24 : decode cX11_step 24 = .ok (.aload 6, 2) := by decide +kernel
theorem dX11_step_26 : decode cX11_step 26 = .ok (.getfield 53, 3) := by decide +kernel
theorem dX11_step_29 : decode cX11_step 29 = .ok (.bipush 20, 2) := by decide +kernel
theorem dX11_step_31 : decode cX11_step 31 = .ok (.if_icmp .lt 5, 3) := by decide +kernel
theorem dX11_step_34 : decode cX11_step 34 = .ok (.iconst (-1), 1) := by decide +kernel
theorem dX11_step_35 : decode cX11_step 35 = .ok (.ireturn, 1) := by decide +kernel
theorem dX11_step_36 : decode cX11_step 36 = .ok (.iload_n 3, 1) := by decide +kernel
theorem dX11_step_37 : decode cX11_step 37 = .ok (.ifCond .lt 23, 3) := by decide +kernel
theorem dX11_step_40 : decode cX11_step 40 = .ok (.iload_n 3, 1) := by decide +kernel
theorem dX11_step_41 : decode cX11_step 41 = .ok (.bipush 9, 2) := by decide +kernel
theorem dX11_step_43 : decode cX11_step 43 = .ok (.if_icmp .gt 17, 3) := by decide +kernel
theorem dX11_step_46 : decode cX11_step 46 = .ok (.iload 4, 2) := by decide +kernel
theorem dX11_step_48 : decode cX11_step 48 = .ok (.ldc 56, 2) := by decide +kernel
theorem dX11_step_50 : decode cX11_step 50 = .ok (.if_icmp .lt 10, 3) := by decide +kernel
theorem dX11_step_53 : decode cX11_step 53 = .ok (.iload 4, 2) := by decide +kernel
theorem dX11_step_55 : decode cX11_step 55 = .ok (.ldc 57, 2) := by decide +kernel
theorem dX11_step_57 : decode cX11_step 57 = .ok (.if_icmp .le 5, 3) := by decide +kernel
theorem dX11_step_60 : decode cX11_step 60 = .ok (.iconst (-1), 1) := by decide +kernel
theorem dX11_step_61 : decode cX11_step 61 = .ok (.ireturn, 1) := by decide +kernel
theorem dX11_step_62 : decode cX11_step 62 = .ok (.iload 5, 2) := by decide +kernel
theorem dX11_step_64 : decode cX11_step 64 = .ok (.ifCond .lt 11, 3) := by decide +kernel
theorem dX11_step_67 : decode cX11_step 67 = .ok (.iload 5, 2) := by decide +kernel
theorem dX11_step_69 : decode cX11_step 69 = .ok (.sipush 1000, 3) := by decide +kernel
theorem dX11_step_72 : decode cX11_step 72 = .ok (.if_icmp .le 5, 3) := by decide +kernel
theorem dX11_step_75 : decode cX11_step 75 = .ok (.iconst (-1), 1) := by decide +kernel
theorem dX11_step_76 : decode cX11_step 76 = .ok (.ireturn, 1) := by decide +kernel
theorem dX11_step_77 : decode cX11_step 77 = .ok (.aload 6, 2) := by decide +kernel
theorem dX11_step_79 : decode cX11_step 79 = .ok (.new 58, 3) := by decide +kernel
theorem dX11_step_82 : decode cX11_step 82 = .ok (.dup, 1) := by decide +kernel
theorem dX11_step_83 : decode cX11_step 83 = .ok (.aload 6, 2) := by decide +kernel
theorem dX11_step_85 : decode cX11_step 85 = .ok (.aload 7, 2) := by decide +kernel
theorem dX11_step_87 : decode cX11_step 87 = .ok (.iload_n 3, 1) := by decide +kernel
theorem dX11_step_88 : decode cX11_step 88 = .ok (.iload 4, 2) := by decide +kernel
theorem dX11_step_90 : decode cX11_step 90 = .ok (.iload 5, 2) := by decide +kernel
theorem dX11_step_92 : decode cX11_step 92 = .ok (.invokespecial 60, 3) := by decide +kernel
theorem dX11_step_95 : decode cX11_step 95 = .ok (.invokevirtual 63, 3) := by decide +kernel
theorem dX11_step_98 : decode cX11_step 98 = .ok (.ireturn, 1) := by decide +kernel
def kX11_step_0 (n : Nat) (K : Nat → jK) : jK := jk_aload 0 <| jk_iload 1 <| jk_vcall [(10, fX11_actorAt n)] 1 <| jk_astore 6 <| jk_aload 0 <| jk_iload 2 <| jk_vcall [(10, fX11_deviceAt n)] 1 <| jk_astore 7 <| jk_aload 6 <| jk_ifnull (K 34) <| jk_aload 7 <| jk_ifnull (K 34) <| jk_aload 6 <| jk_get [0] 2 <| jk_int 20 <| jk_icmplt (jk_iload 3 <| jk_iflt (K 60) <| jk_iload 3 <| jk_int 9 <| jk_icmpgt (K 60) <| jk_iload 4 <| jk_int (-1000000) <| jk_icmplt (K 60) <| jk_iload 4 <| jk_int 1000000 <| jk_icmple (jk_iload 5 <| jk_iflt (K 75) <| jk_iload 5 <| jk_int 1000 <| jk_icmple (jk_aload 6 <| jk_new 9 9 [0, 1] <| jk_dup <| jk_aload 6 <| jk_aload 7 <| jk_iload 3 <| jk_iload 4 <| jk_iload 5 <| jk_icall (fX10_init n) 5 <| jk_vcall [(0, fX0_learn n)] 1 <| jk_iret) <| K 75) <| K 60) <| K 34
set_option maxRecDepth 100000 in
set_option maxHeartbeats 4000000 in
theorem tX11_step_0 (l : Launch) (n : Nat) {K : Nat → jK} (hK : ∀ b, jr_D l cX11_step 8 "MeetingKit" (Option.some Jvm.ClassFile.FieldType.int) "step" 2 45 (K b) b) : jr_D l cX11_step 8 "MeetingKit" (Option.some Jvm.ClassFile.FieldType.int) "step" 2 45 (kX11_step_0 n K) 0 := by
  unfold kX11_step_0
  refine js_aload_n dX11_step_0 ?_
  refine js_iload_n dX11_step_1 ?_
  refine js_callv dX11_step_2 (⟨⟨_, _, _, _, _, _, _, ⟨rfl, (show (10 : Nat) < 20 by decide), sX11_actorAt l n, by decide, by decide, tw_435, tw_102, tw_434⟩, Or.inl ⟨by decide +kernel, by decide +kernel, by decide +kernel, tw_432, tw_16⟩⟩, trivial⟩) ?_
  refine js_astore dX11_step_5 (by decide) ?_
  refine js_aload_n dX11_step_7 ?_
  refine js_iload_n dX11_step_8 ?_
  refine js_callv dX11_step_9 (⟨⟨_, _, _, _, _, _, _, ⟨rfl, (show (10 : Nat) < 20 by decide), sX11_deviceAt l n, by decide, by decide, tw_439, tw_102, tw_438⟩, Or.inl ⟨by decide +kernel, by decide +kernel, by decide +kernel, tw_436, tw_17⟩⟩, trivial⟩) ?_
  refine js_astore dX11_step_12 (by decide) ?_
  refine js_aload dX11_step_14 ?_
  refine js_ifnull (tgt := 34) dX11_step_16 (by decide) ?_ ?_
  · exact hK 34
  · refine js_aload dX11_step_19 ?_
    refine js_ifnull (tgt := 34) dX11_step_21 (by decide) ?_ ?_
    · exact hK 34
    · refine js_aload dX11_step_24 ?_
      refine js_get dX11_step_26 jf_2_0 tw_403 (Or.inl rfl) ?_
      refine js_bipush dX11_step_29 ?_
      refine js_icmplt (tgt := 36) dX11_step_31 (by decide) ?_ ?_
      · refine js_iload_n dX11_step_36 ?_
        refine js_iflt (tgt := 60) dX11_step_37 (by decide) ?_ ?_
        · exact hK 60
        · refine js_iload_n dX11_step_40 ?_
          refine js_bipush dX11_step_41 ?_
          refine js_icmpgt (tgt := 60) dX11_step_43 (by decide) ?_ ?_
          · exact hK 60
          · refine js_iload dX11_step_46 ?_
            refine js_ldc dX11_step_48 tw_440 ?_
            refine js_icmplt (tgt := 60) dX11_step_50 (by decide) ?_ ?_
            · exact hK 60
            · refine js_iload dX11_step_53 ?_
              refine js_ldc dX11_step_55 tw_441 ?_
              refine js_icmple (tgt := 62) dX11_step_57 (by decide) ?_ ?_
              · refine js_iload dX11_step_62 ?_
                refine js_iflt (tgt := 75) dX11_step_64 (by decide) ?_ ?_
                · exact hK 75
                · refine js_iload dX11_step_67 ?_
                  refine js_sipush dX11_step_69 ?_
                  refine js_icmple (tgt := 77) dX11_step_72 (by decide) ?_ ?_
                  · refine js_aload dX11_step_77 ?_
                    refine js_new (C := "MeetingKit$Step") (T := TX10) (ty := tyX10) dX11_step_79 rfl (by decide) tyX10_ok (by decide) tw_442 tw_443 tw_115 ?_
                    refine js_dup dX11_step_82 ?_
                    refine js_aload dX11_step_83 ?_
                    refine js_aload dX11_step_85 ?_
                    refine js_iload_n dX11_step_87 ?_
                    refine js_iload dX11_step_88 ?_
                    refine js_iload dX11_step_90 ?_
                    refine js_calli (sX10_init l n) dX11_step_92 (by decide) (by decide) tw_444 tw_445 tw_115 tw_446 rfl (by decide +kernel) ?_
                    refine js_callv dX11_step_95 (⟨⟨_, _, _, _, _, _, _, ⟨rfl, (show (0 : Nat) < 20 by decide), sX0_learn l n, by decide, by decide, tw_514, tw_114, tw_512⟩, Or.inl ⟨by decide +kernel, by decide +kernel, by decide +kernel, tw_511, tw_513⟩⟩, trivial⟩) ?_
                    exact js_iret dX11_step_98 rfl
                  · exact hK 75
              · exact hK 60
      · exact hK 34
def kX11_step_34 (n : Nat) (K : Nat → jK) : jK := jk_kill 0 <| jk_kill 1 <| jk_kill 2 <| jk_kill 3 <| jk_kill 4 <| jk_kill 5 <| jk_kill 6 <| jk_kill 7 <| jk_int (-1) <| jk_iret
set_option maxRecDepth 100000 in
set_option maxHeartbeats 4000000 in
theorem tX11_step_34 (l : Launch) (n : Nat) {K : Nat → jK} (hK : ∀ b, jr_D l cX11_step 8 "MeetingKit" (Option.some Jvm.ClassFile.FieldType.int) "step" 2 45 (K b) b) : jr_D l cX11_step 8 "MeetingKit" (Option.some Jvm.ClassFile.FieldType.int) "step" 2 45 (kX11_step_34 n K) 34 := by
  unfold kX11_step_34
  refine js_kill ?_
  refine js_kill ?_
  refine js_kill ?_
  refine js_kill ?_
  refine js_kill ?_
  refine js_kill ?_
  refine js_kill ?_
  refine js_kill ?_
  refine js_iconst dX11_step_34 ?_
  exact js_iret dX11_step_35 rfl
def kX11_step_60 (n : Nat) (K : Nat → jK) : jK := jk_kill 0 <| jk_kill 1 <| jk_kill 2 <| jk_kill 3 <| jk_kill 4 <| jk_kill 5 <| jk_kill 6 <| jk_kill 7 <| jk_int (-1) <| jk_iret
set_option maxRecDepth 100000 in
set_option maxHeartbeats 4000000 in
theorem tX11_step_60 (l : Launch) (n : Nat) {K : Nat → jK} (hK : ∀ b, jr_D l cX11_step 8 "MeetingKit" (Option.some Jvm.ClassFile.FieldType.int) "step" 2 45 (K b) b) : jr_D l cX11_step 8 "MeetingKit" (Option.some Jvm.ClassFile.FieldType.int) "step" 2 45 (kX11_step_60 n K) 60 := by
  unfold kX11_step_60
  refine js_kill ?_
  refine js_kill ?_
  refine js_kill ?_
  refine js_kill ?_
  refine js_kill ?_
  refine js_kill ?_
  refine js_kill ?_
  refine js_kill ?_
  refine js_iconst dX11_step_60 ?_
  exact js_iret dX11_step_61 rfl
def kX11_step_75 (n : Nat) (K : Nat → jK) : jK := jk_kill 0 <| jk_kill 1 <| jk_kill 2 <| jk_kill 3 <| jk_kill 4 <| jk_kill 5 <| jk_kill 6 <| jk_kill 7 <| jk_int (-1) <| jk_iret
set_option maxRecDepth 100000 in
set_option maxHeartbeats 4000000 in
theorem tX11_step_75 (l : Launch) (n : Nat) {K : Nat → jK} (hK : ∀ b, jr_D l cX11_step 8 "MeetingKit" (Option.some Jvm.ClassFile.FieldType.int) "step" 2 45 (K b) b) : jr_D l cX11_step 8 "MeetingKit" (Option.some Jvm.ClassFile.FieldType.int) "step" 2 45 (kX11_step_75 n K) 75 := by
  unfold kX11_step_75
  refine js_kill ?_
  refine js_kill ?_
  refine js_kill ?_
  refine js_kill ?_
  refine js_kill ?_
  refine js_kill ?_
  refine js_kill ?_
  refine js_kill ?_
  refine js_iconst dX11_step_75 ?_
  exact js_iret dX11_step_76 rfl
def kX11_step_b (n : Nat) (K : Nat → jK) (b : Nat) : jK := if b = 0 then kX11_step_0 n K else if b = 34 then kX11_step_34 n K else if b = 60 then kX11_step_60 n K else if b = 75 then kX11_step_75 n K else jk_none
def kX11_step (n : Nat) : jK := jk_fix (kX11_step_b n) n 0
theorem tX11_step (l : Launch) (n : Nat) : jr_D l cX11_step 8 "MeetingKit" (Option.some Jvm.ClassFile.FieldType.int) "step" 2 45 (kX11_step n) 0 := js_fix (F := kX11_step_b n) (fun K hK b => js_blk (tX11_step_0 l n hK) (js_blk (tX11_step_34 l n hK) (js_blk (tX11_step_60 l n hK) (js_blk (tX11_step_75 l n hK) (js_none))))) n 0
def fX11_step (n : Nat) : jF := jm_run 6 8 (kX11_step n)
theorem sX11_step (l : Launch) (n : Nat) : jr_F l (⟨"MeetingKit", "step", "(IIIII)I"⟩ : MethodName) cX11_step 8 (Option.some Jvm.ClassFile.FieldType.int) 2 45 (fX11_step n) := js_met (by decide +kernel) (by decide) (tX11_step l n)
theorem dX11_canPlanFor_0 : decode cX11_canPlanFor 0 = .ok (.iload_n 1, 1) := by decide +kernel
theorem dX11_canPlanFor_1 : decode cX11_canPlanFor 1 = .ok (.aload_n 0, 1) := by decide +kernel
theorem dX11_canPlanFor_2 : decode cX11_canPlanFor 2 = .ok (.getfield 80, 3) := by decide +kernel
theorem dX11_canPlanFor_5 : decode cX11_canPlanFor 5 = .ok (.if_icmp .le 24, 3) := by decide +kernel
theorem dX11_canPlanFor_8 : decode cX11_canPlanFor 8 = .ok (.iload_n 1, 1) := by decide +kernel
theorem dX11_canPlanFor_9 : decode cX11_canPlanFor 9 = .ok (.sipush 5000, 3) := by decide +kernel
theorem dX11_canPlanFor_12 : decode cX11_canPlanFor 12 = .ok (.if_icmp .gt 17, 3) := by decide +kernel
theorem dX11_canPlanFor_15 : decode cX11_canPlanFor 15 = .ok (.aload_n 0, 1) := by decide +kernel
theorem dX11_canPlanFor_16 : decode cX11_canPlanFor 16 = .ok (.getfield 77, 3) := by decide +kernel
theorem dX11_canPlanFor_19 : decode cX11_canPlanFor 19 = .ok (.sipush 200, 3) := by decide +kernel
theorem dX11_canPlanFor_22 : decode cX11_canPlanFor 22 = .ok (.if_icmp .ge 7, 3) := by decide +kernel
theorem dX11_canPlanFor_25 : decode cX11_canPlanFor 25 = .ok (.iconst 1, 1) := by decide +kernel
theorem dX11_canPlanFor_26 : decode cX11_canPlanFor 26 = .ok (.goto 4, 3) := by decide +kernel
theorem dX11_canPlanFor_29 : decode cX11_canPlanFor 29 = .ok (.iconst 0, 1) := by decide +kernel
theorem dX11_canPlanFor_30 : decode cX11_canPlanFor 30 = .ok (.ireturn, 1) := by decide +kernel
def kX11_canPlanFor_0 (n : Nat) (K : Nat → jK) : jK := jk_iload 1 <| jk_aload 0 <| jk_get [10] 8 <| jk_icmple (K 29) <| jk_iload 1 <| jk_int 5000 <| jk_icmpgt (K 29) <| jk_aload 0 <| jk_get [10] 7 <| jk_int 200 <| jk_icmpge (K 29) <| jk_int 1 <| K 30
set_option maxRecDepth 100000 in
set_option maxHeartbeats 4000000 in
theorem tX11_canPlanFor_0 (l : Launch) (n : Nat) {K : Nat → jK} (hK : ∀ b, jr_D l cX11_canPlanFor 2 "MeetingKit" (Option.some Jvm.ClassFile.FieldType.boolean) "canPlanFor" 0 0 (K b) b) : jr_D l cX11_canPlanFor 2 "MeetingKit" (Option.some Jvm.ClassFile.FieldType.boolean) "canPlanFor" 0 0 (kX11_canPlanFor_0 n K) 0 := by
  unfold kX11_canPlanFor_0
  refine js_iload_n dX11_canPlanFor_0 ?_
  refine js_aload_n dX11_canPlanFor_1 ?_
  refine js_get dX11_canPlanFor_2 jf_8_10 tw_136 (Or.inl rfl) ?_
  refine js_icmple (tgt := 29) dX11_canPlanFor_5 (by decide) ?_ ?_
  · exact hK 29
  · refine js_iload_n dX11_canPlanFor_8 ?_
    refine js_sipush dX11_canPlanFor_9 ?_
    refine js_icmpgt (tgt := 29) dX11_canPlanFor_12 (by decide) ?_ ?_
    · exact hK 29
    · refine js_aload_n dX11_canPlanFor_15 ?_
      refine js_get dX11_canPlanFor_16 jf_7_10 tw_135 (Or.inl rfl) ?_
      refine js_sipush dX11_canPlanFor_19 ?_
      refine js_icmpge (tgt := 29) dX11_canPlanFor_22 (by decide) ?_ ?_
      · exact hK 29
      · refine js_iconst dX11_canPlanFor_25 ?_
        refine js_goto (tgt := 30) dX11_canPlanFor_26 (by decide) ?_
        exact hK 30
def kX11_canPlanFor_29 (n : Nat) (K : Nat → jK) : jK := jk_kill 0 <| jk_kill 1 <| jk_int 0 <| K 30
set_option maxRecDepth 100000 in
set_option maxHeartbeats 4000000 in
theorem tX11_canPlanFor_29 (l : Launch) (n : Nat) {K : Nat → jK} (hK : ∀ b, jr_D l cX11_canPlanFor 2 "MeetingKit" (Option.some Jvm.ClassFile.FieldType.boolean) "canPlanFor" 0 0 (K b) b) : jr_D l cX11_canPlanFor 2 "MeetingKit" (Option.some Jvm.ClassFile.FieldType.boolean) "canPlanFor" 0 0 (kX11_canPlanFor_29 n K) 29 := by
  unfold kX11_canPlanFor_29
  refine js_kill ?_
  refine js_kill ?_
  refine js_iconst dX11_canPlanFor_29 ?_
  exact hK 30
def kX11_canPlanFor_30 (n : Nat) (K : Nat → jK) : jK := jk_kill 0 <| jk_kill 1 <| jk_zret
set_option maxRecDepth 100000 in
set_option maxHeartbeats 4000000 in
theorem tX11_canPlanFor_30 (l : Launch) (n : Nat) {K : Nat → jK} (hK : ∀ b, jr_D l cX11_canPlanFor 2 "MeetingKit" (Option.some Jvm.ClassFile.FieldType.boolean) "canPlanFor" 0 0 (K b) b) : jr_D l cX11_canPlanFor 2 "MeetingKit" (Option.some Jvm.ClassFile.FieldType.boolean) "canPlanFor" 0 0 (kX11_canPlanFor_30 n K) 30 := by
  unfold kX11_canPlanFor_30
  refine js_kill ?_
  refine js_kill ?_
  exact js_zret dX11_canPlanFor_30 rfl
def kX11_canPlanFor_b (n : Nat) (K : Nat → jK) (b : Nat) : jK := if b = 0 then kX11_canPlanFor_0 n K else if b = 29 then kX11_canPlanFor_29 n K else if b = 30 then kX11_canPlanFor_30 n K else jk_none
def kX11_canPlanFor (n : Nat) : jK := jk_fix (kX11_canPlanFor_b n) n 0
theorem tX11_canPlanFor (l : Launch) (n : Nat) : jr_D l cX11_canPlanFor 2 "MeetingKit" (Option.some Jvm.ClassFile.FieldType.boolean) "canPlanFor" 0 0 (kX11_canPlanFor n) 0 := js_fix (F := kX11_canPlanFor_b n) (fun K hK b => js_blk (tX11_canPlanFor_0 l n hK) (js_blk (tX11_canPlanFor_29 l n hK) (js_blk (tX11_canPlanFor_30 l n hK) (js_none)))) n 0
def fX11_canPlanFor (n : Nat) : jF := jm_run 2 2 (kX11_canPlanFor n)
theorem sX11_canPlanFor (l : Launch) (n : Nat) : jr_F l (⟨"MeetingKit", "canPlanFor", "(I)Z"⟩ : MethodName) cX11_canPlanFor 2 (Option.some Jvm.ClassFile.FieldType.boolean) 0 0 (fX11_canPlanFor n) := js_met (by decide +kernel) (by decide) (tX11_canPlanFor l n)
theorem dX11_planInterrupt_0 : decode cX11_planInterrupt 0 = .ok (.aload_n 0, 1) := by decide +kernel
theorem dX11_planInterrupt_1 : decode cX11_planInterrupt 1 = .ok (.getfield 190, 3) := by decide +kernel
theorem dX11_planInterrupt_4 : decode cX11_planInterrupt 4 = .ok (.aload_n 0, 1) := by decide +kernel
theorem dX11_planInterrupt_5 : decode cX11_planInterrupt 5 = .ok (.getfield 21, 3) := by decide +kernel
theorem dX11_planInterrupt_8 : decode cX11_planInterrupt 8 = .ok (.arraylength, 1) := by decide +kernel
theorem dX11_planInterrupt_9 : decode cX11_planInterrupt 9 = .ok (.if_icmp .lt 5, 3) := by decide +kernel
theorem dX11_planInterrupt_12 : decode cX11_planInterrupt 12 = .ok (.iconst 0, 1) := by decide +kernel
theorem dX11_planInterrupt_13 : decode cX11_planInterrupt 13 = .ok (.ireturn, 1) := by decide +kernel
theorem dX11_planInterrupt_14 : decode cX11_planInterrupt 14 = .ok (.aload_n 0, 1) := by decide +kernel
theorem dX11_planInterrupt_15 : decode cX11_planInterrupt 15 = .ok (.getfield 190, 3) := by decide +kernel
theorem dX11_planInterrupt_18 : decode cX11_planInterrupt 18 = .ok (.istore_n 2, 1) := by decide +kernel
theorem dX11_planInterrupt_19 : decode cX11_planInterrupt 19 = .ok (.aload_n 0, 1) := by decide +kernel
theorem dX11_planInterrupt_20 : decode cX11_planInterrupt 20 = .ok (.getfield 190, 3) := by decide +kernel
theorem dX11_planInterrupt_23 : decode cX11_planInterrupt 23 = .ok (.iconst 1, 1) := by decide +kernel
theorem dX11_planInterrupt_24 : decode cX11_planInterrupt 24 = .ok (.isub, 1) := by decide +kernel
theorem dX11_planInterrupt_25 : decode cX11_planInterrupt 25 = .ok (.istore_n 3, 1) := by decide +kernel
theorem dX11_planInterrupt_26 : decode cX11_planInterrupt 26 = .ok (.iload_n 3, 1) := by decide +kernel
theorem dX11_planInterrupt_27 : decode cX11_planInterrupt 27 = .ok (.aload_n 0, 1) := by decide +kernel
theorem dX11_planInterrupt_28 : decode cX11_planInterrupt 28 = .ok (.getfield 193, 3) := by decide +kernel
theorem dX11_planInterrupt_31 : decode cX11_planInterrupt 31 = .ok (.if_icmp .lt 21, 3) := by decide +kernel
theorem dX11_planInterrupt_34 : decode cX11_planInterrupt 34 = .ok (.aload_n 0, 1) := by decide +kernel
theorem dX11_planInterrupt_35 : decode cX11_planInterrupt 35 = .ok (.getfield 21, 3) := by decide +kernel
theorem dX11_planInterrupt_38 : decode cX11_planInterrupt 38 = .ok (.iload_n 3, 1) := by decide +kernel
theorem dX11_planInterrupt_39 : decode cX11_planInterrupt 39 = .ok (.iaload, 1) := by decide +kernel
theorem dX11_planInterrupt_40 : decode cX11_planInterrupt 40 = .ok (.iload_n 1, 1) := by decide +kernel
theorem dX11_planInterrupt_41 : decode cX11_planInterrupt 41 = .ok (.if_icmp .lt 11, 3) := by decide +kernel
theorem dX11_planInterrupt_44 : decode cX11_planInterrupt 44 = .ok (.iload_n 3, 1) := by decide +kernel
theorem dX11_planInterrupt_45 : decode cX11_planInterrupt 45 = .ok (.istore_n 2, 1) := by decide +kernel
theorem dX11_planInterrupt_46 : decode cX11_planInterrupt 46 = .ok (.iinc 3 (-1), 3) := by decide +kernel
theorem dX11_planInterrupt_49 : decode cX11_planInterrupt 49 = .ok (.goto (-23), 3) := by decide +kernel
theorem dX11_planInterrupt_52 : decode cX11_planInterrupt 52 = .ok (.iload_n 2, 1) := by decide +kernel
theorem dX11_planInterrupt_53 : decode cX11_planInterrupt 53 = .ok (.aload_n 0, 1) := by decide +kernel
theorem dX11_planInterrupt_54 : decode cX11_planInterrupt 54 = .ok (.getfield 190, 3) := by decide +kernel
theorem dX11_planInterrupt_57 : decode cX11_planInterrupt 57 = .ok (.if_icmp .ge 15, 3) := by decide +kernel
theorem dX11_planInterrupt_60 : decode cX11_planInterrupt 60 = .ok (.aload_n 0, 1) := by decide +kernel
theorem dX11_planInterrupt_61 : decode cX11_planInterrupt 61 = .ok (.getfield 21, 3) := by decide +kernel
theorem dX11_planInterrupt_64 : decode cX11_planInterrupt 64 = .ok (.iload_n 2, 1) := by decide +kernel
theorem dX11_planInterrupt_65 : decode cX11_planInterrupt 65 = .ok (.iaload, 1) := by decide +kernel
theorem dX11_planInterrupt_66 : decode cX11_planInterrupt 66 = .ok (.iload_n 1, 1) := by decide +kernel
theorem dX11_planInterrupt_67 : decode cX11_planInterrupt 67 = .ok (.if_icmp .ne 5, 3) := by decide +kernel
theorem dX11_planInterrupt_70 : decode cX11_planInterrupt 70 = .ok (.iconst 0, 1) := by decide +kernel
theorem dX11_planInterrupt_71 : decode cX11_planInterrupt 71 = .ok (.ireturn, 1) := by decide +kernel
theorem dX11_planInterrupt_72 : decode cX11_planInterrupt 72 = .ok (.aload_n 0, 1) := by decide +kernel
theorem dX11_planInterrupt_73 : decode cX11_planInterrupt 73 = .ok (.getfield 190, 3) := by decide +kernel
theorem dX11_planInterrupt_76 : decode cX11_planInterrupt 76 = .ok (.istore_n 3, 1) := by decide +kernel
theorem dX11_planInterrupt_77 : decode cX11_planInterrupt 77 = .ok (.iload_n 3, 1) := by decide +kernel
theorem dX11_planInterrupt_78 : decode cX11_planInterrupt 78 = .ok (.iload_n 2, 1) := by decide +kernel
theorem dX11_planInterrupt_79 : decode cX11_planInterrupt 79 = .ok (.if_icmp .le 23, 3) := by decide +kernel
theorem dX11_planInterrupt_82 : decode cX11_planInterrupt 82 = .ok (.aload_n 0, 1) := by decide +kernel
theorem dX11_planInterrupt_83 : decode cX11_planInterrupt 83 = .ok (.getfield 21, 3) := by decide +kernel
theorem dX11_planInterrupt_86 : decode cX11_planInterrupt 86 = .ok (.iload_n 3, 1) := by decide +kernel
theorem dX11_planInterrupt_87 : decode cX11_planInterrupt 87 = .ok (.aload_n 0, 1) := by decide +kernel
theorem dX11_planInterrupt_88 : decode cX11_planInterrupt 88 = .ok (.getfield 21, 3) := by decide +kernel
theorem dX11_planInterrupt_91 : decode cX11_planInterrupt 91 = .ok (.iload_n 3, 1) := by decide +kernel
theorem dX11_planInterrupt_92 : decode cX11_planInterrupt 92 = .ok (.iconst 1, 1) := by decide +kernel
theorem dX11_planInterrupt_93 : decode cX11_planInterrupt 93 = .ok (.isub, 1) := by decide +kernel
theorem dX11_planInterrupt_94 : decode cX11_planInterrupt 94 = .ok (.iaload, 1) := by decide +kernel
theorem dX11_planInterrupt_95 : decode cX11_planInterrupt 95 = .ok (.iastore, 1) := by decide +kernel
theorem dX11_planInterrupt_96 : decode cX11_planInterrupt 96 = .ok (.iinc 3 (-1), 3) := by decide +kernel
theorem dX11_planInterrupt_99 : decode cX11_planInterrupt 99 = .ok (.goto (-22), 3) := by decide +kernel
theorem dX11_planInterrupt_102 : decode cX11_planInterrupt 102 = .ok (.aload_n 0, 1) := by decide +kernel
theorem dX11_planInterrupt_103 : decode cX11_planInterrupt 103 = .ok (.getfield 21, 3) := by decide +kernel
theorem dX11_planInterrupt_106 : decode cX11_planInterrupt 106 = .ok (.iload_n 2, 1) := by decide +kernel
theorem dX11_planInterrupt_107 : decode cX11_planInterrupt 107 = .ok (.iload_n 1, 1) := by decide +kernel
theorem dX11_planInterrupt_108 : decode cX11_planInterrupt 108 = .ok (.iastore, 1) := by decide +kernel
theorem dX11_planInterrupt_109 : decode cX11_planInterrupt 109 = .ok (.aload_n 0, 1) := by decide +kernel
theorem dX11_planInterrupt_110 : decode cX11_planInterrupt 110 = .ok (.dup, 1) := by decide +kernel
theorem dX11_planInterrupt_111 : decode cX11_planInterrupt 111 = .ok (.getfield 190, 3) := by decide +kernel
theorem dX11_planInterrupt_114 : decode cX11_planInterrupt 114 = .ok (.iconst 1, 1) := by decide +kernel
theorem dX11_planInterrupt_115 : decode cX11_planInterrupt 115 = .ok (.iadd, 1) := by decide +kernel
theorem dX11_planInterrupt_116 : decode cX11_planInterrupt 116 = .ok (.putfield 190, 3) := by decide +kernel
theorem dX11_planInterrupt_119 : decode cX11_planInterrupt 119 = .ok (.aload_n 0, 1) := by decide +kernel
theorem dX11_planInterrupt_120 : decode cX11_planInterrupt 120 = .ok (.dup, 1) := by decide +kernel
theorem dX11_planInterrupt_121 : decode cX11_planInterrupt 121 = .ok (.getfield 77, 3) := by decide +kernel
theorem dX11_planInterrupt_124 : decode cX11_planInterrupt 124 = .ok (.iconst 1, 1) := by decide +kernel
theorem dX11_planInterrupt_125 : decode cX11_planInterrupt 125 = .ok (.iadd, 1) := by decide +kernel
theorem dX11_planInterrupt_126 : decode cX11_planInterrupt 126 = .ok (.putfield 77, 3) := by decide +kernel
theorem dX11_planInterrupt_129 : decode cX11_planInterrupt 129 = .ok (.iconst 1, 1) := by decide +kernel
theorem dX11_planInterrupt_130 : decode cX11_planInterrupt 130 = .ok (.ireturn, 1) := by decide +kernel
def kX11_planInterrupt_0 (n : Nat) (K : Nat → jK) : jK := jk_aload 0 <| jk_get [10] 5 <| jk_aload 0 <| jk_get [10] 4 <| jk_alen <| jk_icmplt (jk_aload 0 <| jk_get [10] 5 <| jk_istore 2 <| jk_aload 0 <| jk_get [10] 5 <| jk_int 1 <| jk_isub <| jk_istore 3 <| K 26) <| jk_int 0 <| jk_zret
set_option maxRecDepth 100000 in
set_option maxHeartbeats 4000000 in
theorem tX11_planInterrupt_0 (l : Launch) (n : Nat) {K : Nat → jK} (hK : ∀ b, jr_D l cX11_planInterrupt 4 "MeetingKit" (Option.some Jvm.ClassFile.FieldType.boolean) "planInterrupt" 0 0 (K b) b) : jr_D l cX11_planInterrupt 4 "MeetingKit" (Option.some Jvm.ClassFile.FieldType.boolean) "planInterrupt" 0 0 (kX11_planInterrupt_0 n K) 0 := by
  unfold kX11_planInterrupt_0
  refine js_aload_n dX11_planInterrupt_0 ?_
  refine js_get dX11_planInterrupt_1 jf_5_10 tw_133 (Or.inl rfl) ?_
  refine js_aload_n dX11_planInterrupt_4 ?_
  refine js_get dX11_planInterrupt_5 jf_4_10 tw_132 (Or.inl rfl) ?_
  refine js_alen dX11_planInterrupt_8 ?_
  refine js_icmplt (tgt := 14) dX11_planInterrupt_9 (by decide) ?_ ?_
  · refine js_aload_n dX11_planInterrupt_14 ?_
    refine js_get dX11_planInterrupt_15 jf_5_10 tw_133 (Or.inl rfl) ?_
    refine js_istore_n dX11_planInterrupt_18 (by decide) ?_
    refine js_aload_n dX11_planInterrupt_19 ?_
    refine js_get dX11_planInterrupt_20 jf_5_10 tw_133 (Or.inl rfl) ?_
    refine js_iconst dX11_planInterrupt_23 ?_
    refine js_isub dX11_planInterrupt_24 ?_
    refine js_istore_n dX11_planInterrupt_25 (by decide) ?_
    exact hK 26
  · refine js_iconst dX11_planInterrupt_12 ?_
    exact js_zret dX11_planInterrupt_13 rfl
def kX11_planInterrupt_26 (n : Nat) (K : Nat → jK) : jK := jk_iload 3 <| jk_aload 0 <| jk_get [10] 6 <| jk_icmplt (K 52) <| jk_aload 0 <| jk_get [10] 4 <| jk_iload 3 <| jk_iald <| jk_iload 1 <| jk_icmplt (K 52) <| jk_iload 3 <| jk_istore 2 <| jk_iinc 3 (-1) <| K 26
set_option maxRecDepth 100000 in
set_option maxHeartbeats 4000000 in
theorem tX11_planInterrupt_26 (l : Launch) (n : Nat) {K : Nat → jK} (hK : ∀ b, jr_D l cX11_planInterrupt 4 "MeetingKit" (Option.some Jvm.ClassFile.FieldType.boolean) "planInterrupt" 0 0 (K b) b) : jr_D l cX11_planInterrupt 4 "MeetingKit" (Option.some Jvm.ClassFile.FieldType.boolean) "planInterrupt" 0 0 (kX11_planInterrupt_26 n K) 26 := by
  unfold kX11_planInterrupt_26
  refine js_iload_n dX11_planInterrupt_26 ?_
  refine js_aload_n dX11_planInterrupt_27 ?_
  refine js_get dX11_planInterrupt_28 jf_6_10 tw_134 (Or.inl rfl) ?_
  refine js_icmplt (tgt := 52) dX11_planInterrupt_31 (by decide) ?_ ?_
  · exact hK 52
  · refine js_aload_n dX11_planInterrupt_34 ?_
    refine js_get dX11_planInterrupt_35 jf_4_10 tw_132 (Or.inl rfl) ?_
    refine js_iload_n dX11_planInterrupt_38 ?_
    refine js_iald dX11_planInterrupt_39 ?_
    refine js_iload_n dX11_planInterrupt_40 ?_
    refine js_icmplt (tgt := 52) dX11_planInterrupt_41 (by decide) ?_ ?_
    · exact hK 52
    · refine js_iload_n dX11_planInterrupt_44 ?_
      refine js_istore_n dX11_planInterrupt_45 (by decide) ?_
      refine js_iinc dX11_planInterrupt_46 (by decide) ?_
      refine js_goto (tgt := 26) dX11_planInterrupt_49 (by decide) ?_
      exact hK 26
def kX11_planInterrupt_52 (n : Nat) (K : Nat → jK) : jK := jk_kill 3 <| jk_iload 2 <| jk_aload 0 <| jk_get [10] 5 <| jk_icmpge (K 72) <| jk_aload 0 <| jk_get [10] 4 <| jk_iload 2 <| jk_iald <| jk_iload 1 <| jk_icmpne (K 72) <| jk_int 0 <| jk_zret
set_option maxRecDepth 100000 in
set_option maxHeartbeats 4000000 in
theorem tX11_planInterrupt_52 (l : Launch) (n : Nat) {K : Nat → jK} (hK : ∀ b, jr_D l cX11_planInterrupt 4 "MeetingKit" (Option.some Jvm.ClassFile.FieldType.boolean) "planInterrupt" 0 0 (K b) b) : jr_D l cX11_planInterrupt 4 "MeetingKit" (Option.some Jvm.ClassFile.FieldType.boolean) "planInterrupt" 0 0 (kX11_planInterrupt_52 n K) 52 := by
  unfold kX11_planInterrupt_52
  refine js_kill ?_
  refine js_iload_n dX11_planInterrupt_52 ?_
  refine js_aload_n dX11_planInterrupt_53 ?_
  refine js_get dX11_planInterrupt_54 jf_5_10 tw_133 (Or.inl rfl) ?_
  refine js_icmpge (tgt := 72) dX11_planInterrupt_57 (by decide) ?_ ?_
  · exact hK 72
  · refine js_aload_n dX11_planInterrupt_60 ?_
    refine js_get dX11_planInterrupt_61 jf_4_10 tw_132 (Or.inl rfl) ?_
    refine js_iload_n dX11_planInterrupt_64 ?_
    refine js_iald dX11_planInterrupt_65 ?_
    refine js_iload_n dX11_planInterrupt_66 ?_
    refine js_icmpne (tgt := 72) dX11_planInterrupt_67 (by decide) ?_ ?_
    · exact hK 72
    · refine js_iconst dX11_planInterrupt_70 ?_
      exact js_zret dX11_planInterrupt_71 rfl
def kX11_planInterrupt_72 (n : Nat) (K : Nat → jK) : jK := jk_kill 3 <| jk_aload 0 <| jk_get [10] 5 <| jk_istore 3 <| K 77
set_option maxRecDepth 100000 in
set_option maxHeartbeats 4000000 in
theorem tX11_planInterrupt_72 (l : Launch) (n : Nat) {K : Nat → jK} (hK : ∀ b, jr_D l cX11_planInterrupt 4 "MeetingKit" (Option.some Jvm.ClassFile.FieldType.boolean) "planInterrupt" 0 0 (K b) b) : jr_D l cX11_planInterrupt 4 "MeetingKit" (Option.some Jvm.ClassFile.FieldType.boolean) "planInterrupt" 0 0 (kX11_planInterrupt_72 n K) 72 := by
  unfold kX11_planInterrupt_72
  refine js_kill ?_
  refine js_aload_n dX11_planInterrupt_72 ?_
  refine js_get dX11_planInterrupt_73 jf_5_10 tw_133 (Or.inl rfl) ?_
  refine js_istore_n dX11_planInterrupt_76 (by decide) ?_
  exact hK 77
def kX11_planInterrupt_77 (n : Nat) (K : Nat → jK) : jK := jk_iload 3 <| jk_iload 2 <| jk_icmple (jk_aload 0 <| jk_get [10] 4 <| jk_iload 2 <| jk_iload 1 <| jk_iast <| jk_aload 0 <| jk_dup <| jk_get [10] 5 <| jk_int 1 <| jk_iadd <| jk_puti [10] 5 <| jk_aload 0 <| jk_dup <| jk_get [10] 7 <| jk_int 1 <| jk_iadd <| jk_puti [10] 7 <| jk_int 1 <| jk_zret) <| jk_aload 0 <| jk_get [10] 4 <| jk_iload 3 <| jk_aload 0 <| jk_get [10] 4 <| jk_iload 3 <| jk_int 1 <| jk_isub <| jk_iald <| jk_iast <| jk_iinc 3 (-1) <| K 77
set_option maxRecDepth 100000 in
set_option maxHeartbeats 4000000 in
theorem tX11_planInterrupt_77 (l : Launch) (n : Nat) {K : Nat → jK} (hK : ∀ b, jr_D l cX11_planInterrupt 4 "MeetingKit" (Option.some Jvm.ClassFile.FieldType.boolean) "planInterrupt" 0 0 (K b) b) : jr_D l cX11_planInterrupt 4 "MeetingKit" (Option.some Jvm.ClassFile.FieldType.boolean) "planInterrupt" 0 0 (kX11_planInterrupt_77 n K) 77 := by
  unfold kX11_planInterrupt_77
  refine js_iload_n dX11_planInterrupt_77 ?_
  refine js_iload_n dX11_planInterrupt_78 ?_
  refine js_icmple (tgt := 102) dX11_planInterrupt_79 (by decide) ?_ ?_
  · refine js_aload_n dX11_planInterrupt_102 ?_
    refine js_get dX11_planInterrupt_103 jf_4_10 tw_132 (Or.inl rfl) ?_
    refine js_iload_n dX11_planInterrupt_106 ?_
    refine js_iload_n dX11_planInterrupt_107 ?_
    refine js_iast dX11_planInterrupt_108 ?_
    refine js_aload_n dX11_planInterrupt_109 ?_
    refine js_dup dX11_planInterrupt_110 ?_
    refine js_get dX11_planInterrupt_111 jf_5_10 tw_133 (Or.inl rfl) ?_
    refine js_iconst dX11_planInterrupt_114 ?_
    refine js_iadd dX11_planInterrupt_115 ?_
    refine js_puti dX11_planInterrupt_116 jf_5_10 rfl tw_133 (Or.inl rfl) ?_
    refine js_aload_n dX11_planInterrupt_119 ?_
    refine js_dup dX11_planInterrupt_120 ?_
    refine js_get dX11_planInterrupt_121 jf_7_10 tw_135 (Or.inl rfl) ?_
    refine js_iconst dX11_planInterrupt_124 ?_
    refine js_iadd dX11_planInterrupt_125 ?_
    refine js_puti dX11_planInterrupt_126 jf_7_10 rfl tw_135 (Or.inl rfl) ?_
    refine js_iconst dX11_planInterrupt_129 ?_
    exact js_zret dX11_planInterrupt_130 rfl
  · refine js_aload_n dX11_planInterrupt_82 ?_
    refine js_get dX11_planInterrupt_83 jf_4_10 tw_132 (Or.inl rfl) ?_
    refine js_iload_n dX11_planInterrupt_86 ?_
    refine js_aload_n dX11_planInterrupt_87 ?_
    refine js_get dX11_planInterrupt_88 jf_4_10 tw_132 (Or.inl rfl) ?_
    refine js_iload_n dX11_planInterrupt_91 ?_
    refine js_iconst dX11_planInterrupt_92 ?_
    refine js_isub dX11_planInterrupt_93 ?_
    refine js_iald dX11_planInterrupt_94 ?_
    refine js_iast dX11_planInterrupt_95 ?_
    refine js_iinc dX11_planInterrupt_96 (by decide) ?_
    refine js_goto (tgt := 77) dX11_planInterrupt_99 (by decide) ?_
    exact hK 77
def kX11_planInterrupt_b (n : Nat) (K : Nat → jK) (b : Nat) : jK := if b = 0 then kX11_planInterrupt_0 n K else if b = 26 then kX11_planInterrupt_26 n K else if b = 52 then kX11_planInterrupt_52 n K else if b = 72 then kX11_planInterrupt_72 n K else if b = 77 then kX11_planInterrupt_77 n K else jk_none
def kX11_planInterrupt (n : Nat) : jK := jk_fix (kX11_planInterrupt_b n) n 0
theorem tX11_planInterrupt (l : Launch) (n : Nat) : jr_D l cX11_planInterrupt 4 "MeetingKit" (Option.some Jvm.ClassFile.FieldType.boolean) "planInterrupt" 0 0 (kX11_planInterrupt n) 0 := js_fix (F := kX11_planInterrupt_b n) (fun K hK b => js_blk (tX11_planInterrupt_0 l n hK) (js_blk (tX11_planInterrupt_26 l n hK) (js_blk (tX11_planInterrupt_52 l n hK) (js_blk (tX11_planInterrupt_72 l n hK) (js_blk (tX11_planInterrupt_77 l n hK) (js_none)))))) n 0
def fX11_planInterrupt (n : Nat) : jF := jm_run 2 4 (kX11_planInterrupt n)
theorem sX11_planInterrupt (l : Launch) (n : Nat) : jr_F l (⟨"MeetingKit", "planInterrupt", "(I)Z"⟩ : MethodName) cX11_planInterrupt 4 (Option.some Jvm.ClassFile.FieldType.boolean) 0 0 (fX11_planInterrupt n) := js_met (by decide +kernel) (by decide) (tX11_planInterrupt l n)
theorem dX11_interrupt_0 : decode cX11_interrupt 0 = .ok (.aload_n 0, 1) := by decide +kernel
theorem dX11_interrupt_1 : decode cX11_interrupt 1 = .ok (.iload_n 1, 1) := by decide +kernel
theorem dX11_interrupt_2 : decode cX11_interrupt 2 = .ok (.invokevirtual 45, 3) := by decide +kernel
theorem dX11_interrupt_5 : decode cX11_interrupt 5 = .ok (.ifnull 11, 3) := by decide +kernel
theorem dX11_interrupt_8 : decode cX11_interrupt 8 = .ok (.aload_n 0, 1) := by decide +kernel
theorem dX11_interrupt_9 : decode cX11_interrupt 9 = .ok (.iload_n 2, 1) := by decide +kernel
theorem dX11_interrupt_10 : decode cX11_interrupt 10 = .ok (.invokevirtual 67, 3) := by decide +kernel
theorem dX11_interrupt_13 : decode cX11_interrupt 13 = .ok (.ifCond .ne 5, 3) := by decide +kernel
theorem dX11_interrupt_16 : decode cX11_interrupt 16 = .ok (.iconst 0, 1) := by decide +kernel
theorem dX11_interrupt_17 : decode cX11_interrupt 17 = .ok (.ireturn, 1) := by decide +kernel
theorem dX11_interrupt_18 : decode cX11_interrupt 18 = .ok (.aload_n 0, 1) := by decide +kernel
theorem dX11_interrupt_19 : decode cX11_interrupt 19 = .ok (.iload_n 2, 1) := by decide +kernel
theorem dX11_interrupt_20 : decode cX11_interrupt 20 = .ok (.bipush 16, 2) := by decide +kernel
theorem dX11_interrupt_22 : decode cX11_interrupt 22 = .ok (.imul, 1) := by decide +kernel
theorem dX11_interrupt_23 : decode cX11_interrupt 23 = .ok (.iload_n 1, 1) := by decide +kernel
theorem dX11_interrupt_24 : decode cX11_interrupt 24 = .ok (.iadd, 1) := by decide +kernel
theorem dX11_interrupt_25 : decode cX11_interrupt 25 = .ok (.invokevirtual 71, 3) := by decide +kernel
theorem dX11_interrupt_28 : decode cX11_interrupt 28 = .ok (.ireturn, 1) := by decide +kernel
def kX11_interrupt_0 (n : Nat) (K : Nat → jK) : jK := jk_aload 0 <| jk_iload 1 <| jk_vcall [(10, fX11_actorAt n)] 1 <| jk_ifnull (K 16) <| jk_aload 0 <| jk_iload 2 <| jk_vcall [(10, fX11_canPlanFor n)] 1 <| jk_ifne (jk_aload 0 <| jk_iload 2 <| jk_int 16 <| jk_imul <| jk_iload 1 <| jk_iadd <| jk_vcall [(10, fX11_planInterrupt n)] 1 <| jk_zret) <| K 16
set_option maxRecDepth 100000 in
set_option maxHeartbeats 4000000 in
theorem tX11_interrupt_0 (l : Launch) (n : Nat) {K : Nat → jK} (hK : ∀ b, jr_D l cX11_interrupt 3 "MeetingKit" (Option.some Jvm.ClassFile.FieldType.boolean) "interrupt" 1 23 (K b) b) : jr_D l cX11_interrupt 3 "MeetingKit" (Option.some Jvm.ClassFile.FieldType.boolean) "interrupt" 1 23 (kX11_interrupt_0 n K) 0 := by
  unfold kX11_interrupt_0
  refine js_aload_n dX11_interrupt_0 ?_
  refine js_iload_n dX11_interrupt_1 ?_
  refine js_callv dX11_interrupt_2 (⟨⟨_, _, _, _, _, _, _, ⟨rfl, (show (10 : Nat) < 20 by decide), sX11_actorAt l n, by decide, by decide, tw_435, tw_102, tw_434⟩, Or.inl ⟨by decide +kernel, by decide +kernel, by decide +kernel, tw_432, tw_16⟩⟩, trivial⟩) ?_
  refine js_ifnull (tgt := 16) dX11_interrupt_5 (by decide) ?_ ?_
  · exact hK 16
  · refine js_aload_n dX11_interrupt_8 ?_
    refine js_iload_n dX11_interrupt_9 ?_
    refine js_callv dX11_interrupt_10 (⟨⟨_, _, _, _, _, _, _, ⟨rfl, (show (10 : Nat) < 20 by decide), sX11_canPlanFor l n, by decide, by decide, tw_522, tw_102, tw_521⟩, Or.inl ⟨by decide +kernel, by decide +kernel, by decide +kernel, tw_519, tw_18⟩⟩, trivial⟩) ?_
    refine js_ifne (tgt := 18) dX11_interrupt_13 (by decide) ?_ ?_
    · refine js_aload_n dX11_interrupt_18 ?_
      refine js_iload_n dX11_interrupt_19 ?_
      refine js_bipush dX11_interrupt_20 ?_
      refine js_imul dX11_interrupt_22 ?_
      refine js_iload_n dX11_interrupt_23 ?_
      refine js_iadd dX11_interrupt_24 ?_
      refine js_callv dX11_interrupt_25 (⟨⟨_, _, _, _, _, _, _, ⟨rfl, (show (10 : Nat) < 20 by decide), sX11_planInterrupt l n, by decide, by decide, tw_526, tw_102, tw_525⟩, Or.inl ⟨by decide +kernel, by decide +kernel, by decide +kernel, tw_523, tw_19⟩⟩, trivial⟩) ?_
      exact js_zret dX11_interrupt_28 rfl
    · exact hK 16
def kX11_interrupt_16 (n : Nat) (K : Nat → jK) : jK := jk_kill 0 <| jk_kill 1 <| jk_kill 2 <| jk_int 0 <| jk_zret
set_option maxRecDepth 100000 in
set_option maxHeartbeats 4000000 in
theorem tX11_interrupt_16 (l : Launch) (n : Nat) {K : Nat → jK} (hK : ∀ b, jr_D l cX11_interrupt 3 "MeetingKit" (Option.some Jvm.ClassFile.FieldType.boolean) "interrupt" 1 23 (K b) b) : jr_D l cX11_interrupt 3 "MeetingKit" (Option.some Jvm.ClassFile.FieldType.boolean) "interrupt" 1 23 (kX11_interrupt_16 n K) 16 := by
  unfold kX11_interrupt_16
  refine js_kill ?_
  refine js_kill ?_
  refine js_kill ?_
  refine js_iconst dX11_interrupt_16 ?_
  exact js_zret dX11_interrupt_17 rfl
def kX11_interrupt_b (n : Nat) (K : Nat → jK) (b : Nat) : jK := if b = 0 then kX11_interrupt_0 n K else if b = 16 then kX11_interrupt_16 n K else jk_none
def kX11_interrupt (n : Nat) : jK := jk_fix (kX11_interrupt_b n) n 0
theorem tX11_interrupt (l : Launch) (n : Nat) : jr_D l cX11_interrupt 3 "MeetingKit" (Option.some Jvm.ClassFile.FieldType.boolean) "interrupt" 1 23 (kX11_interrupt n) 0 := js_fix (F := kX11_interrupt_b n) (fun K hK b => js_blk (tX11_interrupt_0 l n hK) (js_blk (tX11_interrupt_16 l n hK) (js_none))) n 0
def fX11_interrupt (n : Nat) : jF := jm_run 3 3 (kX11_interrupt n)
theorem sX11_interrupt (l : Launch) (n : Nat) : jr_F l (⟨"MeetingKit", "interrupt", "(II)Z"⟩ : MethodName) cX11_interrupt 3 (Option.some Jvm.ClassFile.FieldType.boolean) 1 23 (fX11_interrupt n) := js_met (by decide +kernel) (by decide) (tX11_interrupt l n)
theorem dX11_close_0 : decode cX11_close 0 = .ok (.aload_n 0, 1) := by decide +kernel
theorem dX11_close_1 : decode cX11_close 1 = .ok (.iload_n 1, 1) := by decide +kernel
theorem dX11_close_2 : decode cX11_close 2 = .ok (.invokevirtual 49, 3) := by decide +kernel
theorem dX11_close_5 : decode cX11_close 5 = .ok (.astore_n 3, 1) := by decide +kernel
theorem dX11_close_6 : decode cX11_close 6 = .ok (.aload_n 3, 1) := by decide +kernel
theorem dX11_close_7 : decode cX11_close 7 = .ok (.ifnull 18, 3) := by decide +kernel
theorem dX11_close_10 : decode cX11_close 10 = .ok (.aload_n 0, 1) := by decide +kernel
theorem dX11_close_11 : decode cX11_close 11 = .ok (.iload_n 2, 1) := by decide +kernel
theorem dX11_close_12 : decode cX11_close 12 = .ok (.invokevirtual 67, 3) := by decide +kernel
theorem dX11_close_15 : decode cX11_close 15 = .ok (.ifCond .eq 10, 3) := by decide +kernel
theorem dX11_close_18 : decode cX11_close 18 = .ok (.aload_n 3, 1) := by decide +kernel
theorem dX11_close_19 : decode cX11_close 19 = .ok (.getfield 74, 3) := by decide +kernel
theorem dX11_close_22 : decode cX11_close 22 = .ok (.ifCond .eq 5, 3) := by decide +kernel
theorem dX11_close_25 : decode cX11_close 25 = .ok (.iconst 0, 1) := by decide +kernel
theorem dX11_close_26 : decode cX11_close 26 = .ok (.ireturn, 1) := by decide +kernel
theorem dX11_close_27 : decode cX11_close 27 = .ok (.aload_n 3, 1) := by decide +kernel
theorem dX11_close_28 : decode cX11_close 28 = .ok (.iload_n 2, 1) := by decide +kernel
theorem dX11_close_29 : decode cX11_close 29 = .ok (.putfield 74, 3) := by decide +kernel
theorem dX11_close_32 : decode cX11_close 32 = .ok (.aload_n 0, 1) := by decide +kernel
theorem dX11_close_33 : decode cX11_close 33 = .ok (.dup, 1) := by decide +kernel
theorem dX11_close_34 : decode cX11_close 34 = .ok (.getfield 77, 3) := by decide +kernel
theorem dX11_close_37 : decode cX11_close 37 = .ok (.iconst 1, 1) := by decide +kernel
theorem dX11_close_38 : decode cX11_close 38 = .ok (.iadd, 1) := by decide +kernel
theorem dX11_close_39 : decode cX11_close 39 = .ok (.putfield 77, 3) := by decide +kernel
theorem dX11_close_42 : decode cX11_close 42 = .ok (.iconst 1, 1) := by decide +kernel
theorem dX11_close_43 : decode cX11_close 43 = .ok (.ireturn, 1) := by decide +kernel
def kX11_close_0 (n : Nat) (K : Nat → jK) : jK := jk_aload 0 <| jk_iload 1 <| jk_vcall [(10, fX11_deviceAt n)] 1 <| jk_astore 3 <| jk_aload 3 <| jk_ifnull (K 25) <| jk_aload 0 <| jk_iload 2 <| jk_vcall [(10, fX11_canPlanFor n)] 1 <| jk_ifeq (K 25) <| jk_aload 3 <| jk_get [1, 2, 3, 4, 5, 6, 7, 8] 2 <| jk_ifeq (jk_aload 3 <| jk_iload 2 <| jk_puti [1, 2, 3, 4, 5, 6, 7, 8] 2 <| jk_aload 0 <| jk_dup <| jk_get [10] 7 <| jk_int 1 <| jk_iadd <| jk_puti [10] 7 <| jk_int 1 <| jk_zret) <| K 25
set_option maxRecDepth 100000 in
set_option maxHeartbeats 4000000 in
theorem tX11_close_0 (l : Launch) (n : Nat) {K : Nat → jK} (hK : ∀ b, jr_D l cX11_close 4 "MeetingKit" (Option.some Jvm.ClassFile.FieldType.boolean) "close" 1 21 (K b) b) : jr_D l cX11_close 4 "MeetingKit" (Option.some Jvm.ClassFile.FieldType.boolean) "close" 1 21 (kX11_close_0 n K) 0 := by
  unfold kX11_close_0
  refine js_aload_n dX11_close_0 ?_
  refine js_iload_n dX11_close_1 ?_
  refine js_callv dX11_close_2 (⟨⟨_, _, _, _, _, _, _, ⟨rfl, (show (10 : Nat) < 20 by decide), sX11_deviceAt l n, by decide, by decide, tw_439, tw_102, tw_438⟩, Or.inl ⟨by decide +kernel, by decide +kernel, by decide +kernel, tw_436, tw_17⟩⟩, trivial⟩) ?_
  refine js_astore_n dX11_close_5 (by decide) ?_
  refine js_aload_n dX11_close_6 ?_
  refine js_ifnull (tgt := 25) dX11_close_7 (by decide) ?_ ?_
  · exact hK 25
  · refine js_aload_n dX11_close_10 ?_
    refine js_iload_n dX11_close_11 ?_
    refine js_callv dX11_close_12 (⟨⟨_, _, _, _, _, _, _, ⟨rfl, (show (10 : Nat) < 20 by decide), sX11_canPlanFor l n, by decide, by decide, tw_522, tw_102, tw_521⟩, Or.inl ⟨by decide +kernel, by decide +kernel, by decide +kernel, tw_519, tw_18⟩⟩, trivial⟩) ?_
    refine js_ifeq (tgt := 25) dX11_close_15 (by decide) ?_ ?_
    · exact hK 25
    · refine js_aload_n dX11_close_18 ?_
      refine js_get dX11_close_19 jf_2_1_2_3_4_5_6_7_8 tw_188 (Or.inl rfl) ?_
      refine js_ifeq (tgt := 27) dX11_close_22 (by decide) ?_ ?_
      · refine js_aload_n dX11_close_27 ?_
        refine js_iload_n dX11_close_28 ?_
        refine js_puti dX11_close_29 jf_2_1_2_3_4_5_6_7_8 rfl tw_188 (Or.inl rfl) ?_
        refine js_aload_n dX11_close_32 ?_
        refine js_dup dX11_close_33 ?_
        refine js_get dX11_close_34 jf_7_10 tw_135 (Or.inl rfl) ?_
        refine js_iconst dX11_close_37 ?_
        refine js_iadd dX11_close_38 ?_
        refine js_puti dX11_close_39 jf_7_10 rfl tw_135 (Or.inl rfl) ?_
        refine js_iconst dX11_close_42 ?_
        exact js_zret dX11_close_43 rfl
      · exact hK 25
def kX11_close_25 (n : Nat) (K : Nat → jK) : jK := jk_kill 0 <| jk_kill 1 <| jk_kill 2 <| jk_kill 3 <| jk_int 0 <| jk_zret
set_option maxRecDepth 100000 in
set_option maxHeartbeats 4000000 in
theorem tX11_close_25 (l : Launch) (n : Nat) {K : Nat → jK} (hK : ∀ b, jr_D l cX11_close 4 "MeetingKit" (Option.some Jvm.ClassFile.FieldType.boolean) "close" 1 21 (K b) b) : jr_D l cX11_close 4 "MeetingKit" (Option.some Jvm.ClassFile.FieldType.boolean) "close" 1 21 (kX11_close_25 n K) 25 := by
  unfold kX11_close_25
  refine js_kill ?_
  refine js_kill ?_
  refine js_kill ?_
  refine js_kill ?_
  refine js_iconst dX11_close_25 ?_
  exact js_zret dX11_close_26 rfl
def kX11_close_b (n : Nat) (K : Nat → jK) (b : Nat) : jK := if b = 0 then kX11_close_0 n K else if b = 25 then kX11_close_25 n K else jk_none
def kX11_close (n : Nat) : jK := jk_fix (kX11_close_b n) n 0
theorem tX11_close (l : Launch) (n : Nat) : jr_D l cX11_close 4 "MeetingKit" (Option.some Jvm.ClassFile.FieldType.boolean) "close" 1 21 (kX11_close n) 0 := js_fix (F := kX11_close_b n) (fun K hK b => js_blk (tX11_close_0 l n hK) (js_blk (tX11_close_25 l n hK) (js_none))) n 0
def fX11_close (n : Nat) : jF := jm_run 3 4 (kX11_close n)
theorem sX11_close (l : Launch) (n : Nat) : jr_F l (⟨"MeetingKit", "close", "(II)Z"⟩ : MethodName) cX11_close 4 (Option.some Jvm.ClassFile.FieldType.boolean) 1 21 (fX11_close n) := js_met (by decide +kernel) (by decide) (tX11_close l n)
theorem dX11_nextLivelyBeat_0 : decode cX11_nextLivelyBeat 0 = .ok (.ldc 57, 2) := by decide +kernel
theorem dX11_nextLivelyBeat_2 : decode cX11_nextLivelyBeat 2 = .ok (.istore_n 1, 1) := by decide +kernel
theorem dX11_nextLivelyBeat_3 : decode cX11_nextLivelyBeat 3 = .ok (.iconst 0, 1) := by decide +kernel
theorem dX11_nextLivelyBeat_4 : decode cX11_nextLivelyBeat 4 = .ok (.istore_n 2, 1) := by decide +kernel
theorem dX11_nextLivelyBeat_5 : decode cX11_nextLivelyBeat 5 = .ok (.iload_n 2, 1) := by decide +kernel
theorem dX11_nextLivelyBeat_6 : decode cX11_nextLivelyBeat 6 = .ok (.aload_n 0, 1) := by decide +kernel
theorem dX11_nextLivelyBeat_7 : decode cX11_nextLivelyBeat 7 = .ok (.getfield 39, 3) := by decide +kernel
theorem dX11_nextLivelyBeat_10 : decode cX11_nextLivelyBeat 10 = .ok (.if_icmp .ge 36, 3) := by decide +kernel
theorem dX11_nextLivelyBeat_13 : decode cX11_nextLivelyBeat 13 = .ok (.aload_n 0, 1) := by decide +kernel
theorem dX11_nextLivelyBeat_14 : decode cX11_nextLivelyBeat 14 = .ok (.getfield 11, 3) := by decide +kernel
theorem dX11_nextLivelyBeat_17 : decode cX11_nextLivelyBeat 17 = .ok (.iload_n 2, 1) := by decide +kernel
theorem dX11_nextLivelyBeat_18 : decode cX11_nextLivelyBeat 18 = .ok (.aaload, 1) := by decide +kernel
theorem dX11_nextLivelyBeat_19 : decode cX11_nextLivelyBeat 19 = .ok (.ifnull 21, 3) := by decide +kernel
theorem dX11_nextLivelyBeat_22 : decode cX11_nextLivelyBeat 22 = .ok (.iload_n 1, 1) := by decide +kernel
theorem dX11_nextLivelyBeat_23 : decode cX11_nextLivelyBeat 23 = .ok (.aload_n 0, 1) := by decide +kernel
theorem dX11_nextLivelyBeat_24 : decode cX11_nextLivelyBeat 24 = .ok (.getfield 11, 3) := by decide +kernel
theorem dX11_nextLivelyBeat_27 : decode cX11_nextLivelyBeat 27 = .ok (.iload_n 2, 1) := by decide +kernel
theorem dX11_nextLivelyBeat_28 : decode cX11_nextLivelyBeat 28 = .ok (.aaload, 1) := by decide +kernel
theorem dX11_nextLivelyBeat_29 : decode cX11_nextLivelyBeat 29 = .ok (.aload_n 0, 1) := by decide +kernel
theorem dX11_nextLivelyBeat_30 : decode cX11_nextLivelyBeat 30 = .ok (.getfield 80, 3) := by decide +kernel
theorem dX11_nextLivelyBeat_33 : decode cX11_nextLivelyBeat 33 = .ok (.invokevirtual 196, 3) := by decide +kernel
theorem dX11_nextLivelyBeat_36 : decode cX11_nextLivelyBeat 36 = .ok (.invokestatic 200, 3) := by decide +kernel
theorem dX11_nextLivelyBeat_39 : decode cX11_nextLivelyBeat 39 = .ok (.istore_n 1, 1) := by decide +kernel
theorem dX11_nextLivelyBeat_40 : decode cX11_nextLivelyBeat 40 = .ok (.iinc 2 1, 3) := by decide +kernel
theorem dX11_nextLivelyBeat_43 : decode cX11_nextLivelyBeat 43 = .ok (.goto (-38), 3) := by decide +kernel
theorem dX11_nextLivelyBeat_46 : decode cX11_nextLivelyBeat 46 = .ok (.aload_n 0, 1) := by decide +kernel
theorem dX11_nextLivelyBeat_47 : decode cX11_nextLivelyBeat 47 = .ok (.getfield 193, 3) := by decide +kernel
theorem dX11_nextLivelyBeat_50 : decode cX11_nextLivelyBeat 50 = .ok (.aload_n 0, 1) := by decide +kernel
theorem dX11_nextLivelyBeat_51 : decode cX11_nextLivelyBeat 51 = .ok (.getfield 190, 3) := by decide +kernel
theorem dX11_nextLivelyBeat_54 : decode cX11_nextLivelyBeat 54 = .ok (.if_icmp .ge 20, 3) := by decide +kernel
theorem dX11_nextLivelyBeat_57 : decode cX11_nextLivelyBeat 57 = .ok (.iload_n 1, 1) := by decide +kernel
theorem dX11_nextLivelyBeat_58 : decode cX11_nextLivelyBeat 58 = .ok (.aload_n 0, 1) := by decide +kernel
theorem dX11_nextLivelyBeat_59 : decode cX11_nextLivelyBeat 59 = .ok (.getfield 21, 3) := by decide +kernel
theorem dX11_nextLivelyBeat_62 : decode cX11_nextLivelyBeat 62 = .ok (.aload_n 0, 1) := by decide +kernel
theorem dX11_nextLivelyBeat_63 : decode cX11_nextLivelyBeat 63 = .ok (.getfield 193, 3) := by decide +kernel
theorem dX11_nextLivelyBeat_66 : decode cX11_nextLivelyBeat 66 = .ok (.iaload, 1) := by decide +kernel
theorem dX11_nextLivelyBeat_67 : decode cX11_nextLivelyBeat 67 = .ok (.bipush 16, 2) := by decide +kernel
theorem dX11_nextLivelyBeat_69 : decode cX11_nextLivelyBeat 69 = .ok (.idiv, 1) := by decide +kernel
theorem dX11_nextLivelyBeat_70 : decode cX11_nextLivelyBeat 70 = .ok (.invokestatic 200, 3) := by decide +kernel
theorem dX11_nextLivelyBeat_73 : decode cX11_nextLivelyBeat 73 = .ok (.istore_n 1, 1) := by decide +kernel
theorem dX11_nextLivelyBeat_74 : decode cX11_nextLivelyBeat 74 = .ok (.iconst 0, 1) := by decide +kernel
theorem dX11_nextLivelyBeat_75 : decode cX11_nextLivelyBeat 75 = .ok (.istore_n 2, 1) := by decide +kernel
theorem dX11_nextLivelyBeat_76 : decode cX11_nextLivelyBeat 76 = .ok (.iload_n 2, 1) := by decide +kernel
theorem dX11_nextLivelyBeat_77 : decode cX11_nextLivelyBeat 77 = .ok (.aload_n 0, 1) := by decide +kernel
theorem dX11_nextLivelyBeat_78 : decode cX11_nextLivelyBeat 78 = .ok (.getfield 25, 3) := by decide +kernel
theorem dX11_nextLivelyBeat_81 : decode cX11_nextLivelyBeat 81 = .ok (.if_icmp .ge 56, 3) := by decide +kernel
theorem dX11_nextLivelyBeat_84 : decode cX11_nextLivelyBeat 84 = .ok (.aload_n 0, 1) := by decide +kernel
theorem dX11_nextLivelyBeat_85 : decode cX11_nextLivelyBeat 85 = .ok (.getfield 17, 3) := by decide +kernel
theorem dX11_nextLivelyBeat_88 : decode cX11_nextLivelyBeat 88 = .ok (.iload_n 2, 1) := by decide +kernel
theorem dX11_nextLivelyBeat_89 : decode cX11_nextLivelyBeat 89 = .ok (.aaload, 1) := by decide +kernel
theorem dX11_nextLivelyBeat_90 : decode cX11_nextLivelyBeat 90 = .ok (.ifnull 41, 3) := by decide +kernel
theorem dX11_nextLivelyBeat_93 : decode cX11_nextLivelyBeat 93 = .ok (.aload_n 0, 1) := by decide +kernel
theorem dX11_nextLivelyBeat_94 : decode cX11_nextLivelyBeat 94 = .ok (.getfield 17, 3) := by decide +kernel
theorem dX11_nextLivelyBeat_97 : decode cX11_nextLivelyBeat 97 = .ok (.iload_n 2, 1) := by decide +kernel
theorem dX11_nextLivelyBeat_98 : decode cX11_nextLivelyBeat 98 = .ok (.aaload, 1) := by decide +kernel
theorem dX11_nextLivelyBeat_99 : decode cX11_nextLivelyBeat 99 = .ok (.getfield 139, 3) := by decide +kernel
theorem dX11_nextLivelyBeat_102 : decode cX11_nextLivelyBeat 102 = .ok (.ifCond .ne 29, 3) := by decide +kernel
theorem dX11_nextLivelyBeat_105 : decode cX11_nextLivelyBeat 105 = .ok (.aload_n 0, 1) := by decide +kernel
theorem dX11_nextLivelyBeat_106 : decode cX11_nextLivelyBeat 106 = .ok (.getfield 17, 3) := by decide +kernel
theorem dX11_nextLivelyBeat_109 : decode cX11_nextLivelyBeat 109 = .ok (.iload_n 2, 1) := by decide +kernel
theorem dX11_nextLivelyBeat_110 : decode cX11_nextLivelyBeat 110 = .ok (.aaload, 1) := by decide +kernel
theorem dX11_nextLivelyBeat_111 : decode cX11_nextLivelyBeat 111 = .ok (.getfield 74, 3) := by decide +kernel
theorem dX11_nextLivelyBeat_114 : decode cX11_nextLivelyBeat 114 = .ok (.ifCond .eq 17, 3) := by decide +kernel
theorem dX11_nextLivelyBeat_117 : decode cX11_nextLivelyBeat 117 = .ok (.iload_n 1, 1) := by decide +kernel
theorem dX11_nextLivelyBeat_118 : decode cX11_nextLivelyBeat 118 = .ok (.aload_n 0, 1) := by decide +kernel
theorem dX11_nextLivelyBeat_119 : decode cX11_nextLivelyBeat 119 = .ok (.getfield 17, 3) := by decide +kernel
theorem dX11_nextLivelyBeat_122 : decode cX11_nextLivelyBeat 122 = .ok (.iload_n 2, 1) := by decide +kernel
theorem dX11_nextLivelyBeat_123 : decode cX11_nextLivelyBeat 123 = .ok (.aaload, 1) := by decide +kernel
theorem dX11_nextLivelyBeat_124 : decode cX11_nextLivelyBeat 124 = .ok (.getfield 74, 3) := by decide +kernel
theorem dX11_nextLivelyBeat_127 : decode cX11_nextLivelyBeat 127 = .ok (.invokestatic 200, 3) := by decide +kernel
theorem dX11_nextLivelyBeat_130 : decode cX11_nextLivelyBeat 130 = .ok (.istore_n 1, 1) := by decide +kernel
theorem dX11_nextLivelyBeat_131 : decode cX11_nextLivelyBeat 131 = .ok (.iinc 2 1, 3) := by decide +kernel
theorem dX11_nextLivelyBeat_134 : decode cX11_nextLivelyBeat 134 = .ok (.goto (-58), 3) := by decide +kernel
theorem dX11_nextLivelyBeat_137 : decode cX11_nextLivelyBeat 137 = .ok (.iload_n 1, 1) := by decide +kernel
theorem dX11_nextLivelyBeat_138 : decode cX11_nextLivelyBeat 138 = .ok (.ireturn, 1) := by decide +kernel
def kX11_nextLivelyBeat_0 (n : Nat) (K : Nat → jK) : jK := jk_int 1000000 <| jk_istore 1 <| jk_int 0 <| jk_istore 2 <| K 5
set_option maxRecDepth 100000 in
set_option maxHeartbeats 4000000 in
theorem tX11_nextLivelyBeat_0 (l : Launch) (n : Nat) {K : Nat → jK} (hK : ∀ b, jr_D l cX11_nextLivelyBeat 3 "MeetingKit" (Option.some Jvm.ClassFile.FieldType.int) "nextLivelyBeat" 1 21 (K b) b) : jr_D l cX11_nextLivelyBeat 3 "MeetingKit" (Option.some Jvm.ClassFile.FieldType.int) "nextLivelyBeat" 1 21 (kX11_nextLivelyBeat_0 n K) 0 := by
  unfold kX11_nextLivelyBeat_0
  refine js_ldc dX11_nextLivelyBeat_0 tw_441 ?_
  refine js_istore_n dX11_nextLivelyBeat_2 (by decide) ?_
  refine js_iconst dX11_nextLivelyBeat_3 ?_
  refine js_istore_n dX11_nextLivelyBeat_4 (by decide) ?_
  exact hK 5
def kX11_nextLivelyBeat_5 (n : Nat) (K : Nat → jK) : jK := jk_iload 2 <| jk_aload 0 <| jk_get [10] 1 <| jk_icmpge (jk_aload 0 <| jk_get [10] 6 <| jk_aload 0 <| jk_get [10] 5 <| jk_icmpge (K 74) <| jk_iload 1 <| jk_aload 0 <| jk_get [10] 4 <| jk_aload 0 <| jk_get [10] 6 <| jk_iald <| jk_int 16 <| jk_idiv <| jk_min <| jk_istore 1 <| K 74) <| jk_aload 0 <| jk_get [10] 0 <| jk_iload 2 <| jk_xald 23 <| jk_ifnull (K 40) <| jk_iload 1 <| jk_aload 0 <| jk_get [10] 0 <| jk_iload 2 <| jk_xald 23 <| jk_aload 0 <| jk_get [10] 8 <| jk_vcall [(0, fX0_beatOfNextMove n)] 1 <| jk_min <| jk_istore 1 <| K 40
set_option maxRecDepth 100000 in
set_option maxHeartbeats 4000000 in
theorem tX11_nextLivelyBeat_5 (l : Launch) (n : Nat) {K : Nat → jK} (hK : ∀ b, jr_D l cX11_nextLivelyBeat 3 "MeetingKit" (Option.some Jvm.ClassFile.FieldType.int) "nextLivelyBeat" 1 21 (K b) b) : jr_D l cX11_nextLivelyBeat 3 "MeetingKit" (Option.some Jvm.ClassFile.FieldType.int) "nextLivelyBeat" 1 21 (kX11_nextLivelyBeat_5 n K) 5 := by
  unfold kX11_nextLivelyBeat_5
  refine js_iload_n dX11_nextLivelyBeat_5 ?_
  refine js_aload_n dX11_nextLivelyBeat_6 ?_
  refine js_get dX11_nextLivelyBeat_7 jf_1_10 tw_129 (Or.inl rfl) ?_
  refine js_icmpge (tgt := 46) dX11_nextLivelyBeat_10 (by decide) ?_ ?_
  · refine js_aload_n dX11_nextLivelyBeat_46 ?_
    refine js_get dX11_nextLivelyBeat_47 jf_6_10 tw_134 (Or.inl rfl) ?_
    refine js_aload_n dX11_nextLivelyBeat_50 ?_
    refine js_get dX11_nextLivelyBeat_51 jf_5_10 tw_133 (Or.inl rfl) ?_
    refine js_icmpge (tgt := 74) dX11_nextLivelyBeat_54 (by decide) ?_ ?_
    · exact hK 74
    · refine js_iload_n dX11_nextLivelyBeat_57 ?_
      refine js_aload_n dX11_nextLivelyBeat_58 ?_
      refine js_get dX11_nextLivelyBeat_59 jf_4_10 tw_132 (Or.inl rfl) ?_
      refine js_aload_n dX11_nextLivelyBeat_62 ?_
      refine js_get dX11_nextLivelyBeat_63 jf_6_10 tw_134 (Or.inl rfl) ?_
      refine js_iald dX11_nextLivelyBeat_66 ?_
      refine js_bipush dX11_nextLivelyBeat_67 ?_
      refine js_idiv dX11_nextLivelyBeat_69 ?_
      refine js_min dX11_nextLivelyBeat_70 tw_544 tw_299 tw_110 tw_300 (by decide) (by decide) ?_
      refine js_istore_n dX11_nextLivelyBeat_73 (by decide) ?_
      exact hK 74
  · refine js_aload_n dX11_nextLivelyBeat_13 ?_
    refine js_get dX11_nextLivelyBeat_14 jf_0_10 tw_128 (Or.inl rfl) ?_
    refine js_iload_n dX11_nextLivelyBeat_17 ?_
    refine js_aald (by decide) dX11_nextLivelyBeat_18 ?_
    refine js_ifnull (tgt := 40) dX11_nextLivelyBeat_19 (by decide) ?_ ?_
    · exact hK 40
    · refine js_iload_n dX11_nextLivelyBeat_22 ?_
      refine js_aload_n dX11_nextLivelyBeat_23 ?_
      refine js_get dX11_nextLivelyBeat_24 jf_0_10 tw_128 (Or.inl rfl) ?_
      refine js_iload_n dX11_nextLivelyBeat_27 ?_
      refine js_aald (by decide) dX11_nextLivelyBeat_28 ?_
      refine js_aload_n dX11_nextLivelyBeat_29 ?_
      refine js_get dX11_nextLivelyBeat_30 jf_8_10 tw_136 (Or.inl rfl) ?_
      refine js_callv dX11_nextLivelyBeat_33 (⟨⟨_, _, _, _, _, _, _, ⟨rfl, (show (0 : Nat) < 20 by decide), sX0_beatOfNextMove l n, by decide, by decide, tw_542, tw_114, tw_540⟩, Or.inl ⟨by decide +kernel, by decide +kernel, by decide +kernel, tw_539, tw_541⟩⟩, trivial⟩) ?_
      refine js_min dX11_nextLivelyBeat_36 tw_544 tw_299 tw_110 tw_300 (by decide) (by decide) ?_
      refine js_istore_n dX11_nextLivelyBeat_39 (by decide) ?_
      exact hK 40
def kX11_nextLivelyBeat_40 (n : Nat) (K : Nat → jK) : jK := jk_iinc 2 1 <| K 5
set_option maxRecDepth 100000 in
set_option maxHeartbeats 4000000 in
theorem tX11_nextLivelyBeat_40 (l : Launch) (n : Nat) {K : Nat → jK} (hK : ∀ b, jr_D l cX11_nextLivelyBeat 3 "MeetingKit" (Option.some Jvm.ClassFile.FieldType.int) "nextLivelyBeat" 1 21 (K b) b) : jr_D l cX11_nextLivelyBeat 3 "MeetingKit" (Option.some Jvm.ClassFile.FieldType.int) "nextLivelyBeat" 1 21 (kX11_nextLivelyBeat_40 n K) 40 := by
  unfold kX11_nextLivelyBeat_40
  refine js_iinc dX11_nextLivelyBeat_40 (by decide) ?_
  refine js_goto (tgt := 5) dX11_nextLivelyBeat_43 (by decide) ?_
  exact hK 5
def kX11_nextLivelyBeat_74 (n : Nat) (K : Nat → jK) : jK := jk_kill 2 <| jk_int 0 <| jk_istore 2 <| K 76
set_option maxRecDepth 100000 in
set_option maxHeartbeats 4000000 in
theorem tX11_nextLivelyBeat_74 (l : Launch) (n : Nat) {K : Nat → jK} (hK : ∀ b, jr_D l cX11_nextLivelyBeat 3 "MeetingKit" (Option.some Jvm.ClassFile.FieldType.int) "nextLivelyBeat" 1 21 (K b) b) : jr_D l cX11_nextLivelyBeat 3 "MeetingKit" (Option.some Jvm.ClassFile.FieldType.int) "nextLivelyBeat" 1 21 (kX11_nextLivelyBeat_74 n K) 74 := by
  unfold kX11_nextLivelyBeat_74
  refine js_kill ?_
  refine js_iconst dX11_nextLivelyBeat_74 ?_
  refine js_istore_n dX11_nextLivelyBeat_75 (by decide) ?_
  exact hK 76
def kX11_nextLivelyBeat_76 (n : Nat) (K : Nat → jK) : jK := jk_iload 2 <| jk_aload 0 <| jk_get [10] 3 <| jk_icmpge (jk_iload 1 <| jk_iret) <| jk_aload 0 <| jk_get [10] 2 <| jk_iload 2 <| jk_xald 24 <| jk_ifnull (K 131) <| jk_aload 0 <| jk_get [10] 2 <| jk_iload 2 <| jk_xald 24 <| jk_get [1, 2, 3, 4, 5, 6, 7, 8] 3 <| jk_ifne (K 131) <| jk_aload 0 <| jk_get [10] 2 <| jk_iload 2 <| jk_xald 24 <| jk_get [1, 2, 3, 4, 5, 6, 7, 8] 2 <| jk_ifeq (K 131) <| jk_iload 1 <| jk_aload 0 <| jk_get [10] 2 <| jk_iload 2 <| jk_xald 24 <| jk_get [1, 2, 3, 4, 5, 6, 7, 8] 2 <| jk_min <| jk_istore 1 <| K 131
set_option maxRecDepth 100000 in
set_option maxHeartbeats 4000000 in
theorem tX11_nextLivelyBeat_76 (l : Launch) (n : Nat) {K : Nat → jK} (hK : ∀ b, jr_D l cX11_nextLivelyBeat 3 "MeetingKit" (Option.some Jvm.ClassFile.FieldType.int) "nextLivelyBeat" 1 21 (K b) b) : jr_D l cX11_nextLivelyBeat 3 "MeetingKit" (Option.some Jvm.ClassFile.FieldType.int) "nextLivelyBeat" 1 21 (kX11_nextLivelyBeat_76 n K) 76 := by
  unfold kX11_nextLivelyBeat_76
  refine js_iload_n dX11_nextLivelyBeat_76 ?_
  refine js_aload_n dX11_nextLivelyBeat_77 ?_
  refine js_get dX11_nextLivelyBeat_78 jf_3_10 tw_131 (Or.inl rfl) ?_
  refine js_icmpge (tgt := 137) dX11_nextLivelyBeat_81 (by decide) ?_ ?_
  · refine js_iload_n dX11_nextLivelyBeat_137 ?_
    exact js_iret dX11_nextLivelyBeat_138 rfl
  · refine js_aload_n dX11_nextLivelyBeat_84 ?_
    refine js_get dX11_nextLivelyBeat_85 jf_2_10 tw_130 (Or.inl rfl) ?_
    refine js_iload_n dX11_nextLivelyBeat_88 ?_
    refine js_aald (by decide) dX11_nextLivelyBeat_89 ?_
    refine js_ifnull (tgt := 131) dX11_nextLivelyBeat_90 (by decide) ?_ ?_
    · exact hK 131
    · refine js_aload_n dX11_nextLivelyBeat_93 ?_
      refine js_get dX11_nextLivelyBeat_94 jf_2_10 tw_130 (Or.inl rfl) ?_
      refine js_iload_n dX11_nextLivelyBeat_97 ?_
      refine js_aald (by decide) dX11_nextLivelyBeat_98 ?_
      refine js_get dX11_nextLivelyBeat_99 jf_3_1_2_3_4_5_6_7_8 tw_190 (Or.inl rfl) ?_
      refine js_ifne (tgt := 131) dX11_nextLivelyBeat_102 (by decide) ?_ ?_
      · exact hK 131
      · refine js_aload_n dX11_nextLivelyBeat_105 ?_
        refine js_get dX11_nextLivelyBeat_106 jf_2_10 tw_130 (Or.inl rfl) ?_
        refine js_iload_n dX11_nextLivelyBeat_109 ?_
        refine js_aald (by decide) dX11_nextLivelyBeat_110 ?_
        refine js_get dX11_nextLivelyBeat_111 jf_2_1_2_3_4_5_6_7_8 tw_188 (Or.inl rfl) ?_
        refine js_ifeq (tgt := 131) dX11_nextLivelyBeat_114 (by decide) ?_ ?_
        · exact hK 131
        · refine js_iload_n dX11_nextLivelyBeat_117 ?_
          refine js_aload_n dX11_nextLivelyBeat_118 ?_
          refine js_get dX11_nextLivelyBeat_119 jf_2_10 tw_130 (Or.inl rfl) ?_
          refine js_iload_n dX11_nextLivelyBeat_122 ?_
          refine js_aald (by decide) dX11_nextLivelyBeat_123 ?_
          refine js_get dX11_nextLivelyBeat_124 jf_2_1_2_3_4_5_6_7_8 tw_188 (Or.inl rfl) ?_
          refine js_min dX11_nextLivelyBeat_127 tw_544 tw_299 tw_110 tw_300 (by decide) (by decide) ?_
          refine js_istore_n dX11_nextLivelyBeat_130 (by decide) ?_
          exact hK 131
def kX11_nextLivelyBeat_131 (n : Nat) (K : Nat → jK) : jK := jk_iinc 2 1 <| K 76
set_option maxRecDepth 100000 in
set_option maxHeartbeats 4000000 in
theorem tX11_nextLivelyBeat_131 (l : Launch) (n : Nat) {K : Nat → jK} (hK : ∀ b, jr_D l cX11_nextLivelyBeat 3 "MeetingKit" (Option.some Jvm.ClassFile.FieldType.int) "nextLivelyBeat" 1 21 (K b) b) : jr_D l cX11_nextLivelyBeat 3 "MeetingKit" (Option.some Jvm.ClassFile.FieldType.int) "nextLivelyBeat" 1 21 (kX11_nextLivelyBeat_131 n K) 131 := by
  unfold kX11_nextLivelyBeat_131
  refine js_iinc dX11_nextLivelyBeat_131 (by decide) ?_
  refine js_goto (tgt := 76) dX11_nextLivelyBeat_134 (by decide) ?_
  exact hK 76
def kX11_nextLivelyBeat_b (n : Nat) (K : Nat → jK) (b : Nat) : jK := if b = 0 then kX11_nextLivelyBeat_0 n K else if b = 5 then kX11_nextLivelyBeat_5 n K else if b = 40 then kX11_nextLivelyBeat_40 n K else if b = 74 then kX11_nextLivelyBeat_74 n K else if b = 76 then kX11_nextLivelyBeat_76 n K else if b = 131 then kX11_nextLivelyBeat_131 n K else jk_none
def kX11_nextLivelyBeat (n : Nat) : jK := jk_fix (kX11_nextLivelyBeat_b n) n 0
theorem tX11_nextLivelyBeat (l : Launch) (n : Nat) : jr_D l cX11_nextLivelyBeat 3 "MeetingKit" (Option.some Jvm.ClassFile.FieldType.int) "nextLivelyBeat" 1 21 (kX11_nextLivelyBeat n) 0 := js_fix (F := kX11_nextLivelyBeat_b n) (fun K hK b => js_blk (tX11_nextLivelyBeat_0 l n hK) (js_blk (tX11_nextLivelyBeat_5 l n hK) (js_blk (tX11_nextLivelyBeat_40 l n hK) (js_blk (tX11_nextLivelyBeat_74 l n hK) (js_blk (tX11_nextLivelyBeat_76 l n hK) (js_blk (tX11_nextLivelyBeat_131 l n hK) (js_none))))))) n 0
def fX11_nextLivelyBeat (n : Nat) : jF := jm_run 1 3 (kX11_nextLivelyBeat n)
theorem sX11_nextLivelyBeat (l : Launch) (n : Nat) : jr_F l (⟨"MeetingKit", "nextLivelyBeat", "()I"⟩ : MethodName) cX11_nextLivelyBeat 3 (Option.some Jvm.ClassFile.FieldType.int) 1 21 (fX11_nextLivelyBeat n) := js_met (by decide +kernel) (by decide) (tX11_nextLivelyBeat l n)
theorem dX11_interruptThreads_0 : decode cX11_interruptThreads 0 = .ok (.aload_n 0, 1) := by decide +kernel
theorem dX11_interruptThreads_1 : decode cX11_interruptThreads 1 = .ok (.getfield 193, 3) := by decide +kernel
theorem dX11_interruptThreads_4 : decode cX11_interruptThreads 4 = .ok (.istore_n 1, 1) := by decide +kernel
theorem dX11_interruptThreads_5 : decode cX11_interruptThreads 5 = .ok (.iload_n 1, 1) := by decide +kernel
theorem dX11_interruptThreads_6 : decode cX11_interruptThreads 6 = .ok (.aload_n 0, 1) := by decide +kernel
theorem dX11_interruptThreads_7 : decode cX11_interruptThreads 7 = .ok (.getfield 190, 3) := by decide +kernel
theorem dX11_interruptThreads_10 : decode cX11_interruptThreads 10 = .ok (.if_icmp .ge 84, 3) := by decide +kernel
theorem dX11_interruptThreads_13 : decode cX11_interruptThreads 13 = .ok (.aload_n 0, 1) := by decide +kernel
theorem dX11_interruptThreads_14 : decode cX11_interruptThreads 14 = .ok (.getfield 21, 3) := by decide +kernel
theorem dX11_interruptThreads_17 : decode cX11_interruptThreads 17 = .ok (.iload_n 1, 1) := by decide +kernel
theorem dX11_interruptThreads_18 : decode cX11_interruptThreads 18 = .ok (.iaload, 1) := by decide +kernel
theorem dX11_interruptThreads_19 : decode cX11_interruptThreads 19 = .ok (.bipush 16, 2) := by decide +kernel
theorem dX11_interruptThreads_21 : decode cX11_interruptThreads 21 = .ok (.idiv, 1) := by decide +kernel
theorem dX11_interruptThreads_22 : decode cX11_interruptThreads 22 = .ok (.aload_n 0, 1) := by decide +kernel
theorem dX11_interruptThreads_23 : decode cX11_interruptThreads 23 = .ok (.getfield 80, 3) := by decide +kernel
theorem dX11_interruptThreads_26 : decode cX11_interruptThreads 26 = .ok (.if_icmp .le 4, 3) := by decide +kernel
theorem dX11_interruptThreads_29 : decode cX11_interruptThreads 29 = .ok (.return_, 1) := by decide +kernel
theorem dX11_interruptThreads_30 : decode cX11_interruptThreads 30 = .ok (.aload_n 0, 1) := by decide +kernel
theorem dX11_interruptThreads_31 : decode cX11_interruptThreads 31 = .ok (.iload_n 1, 1) := by decide +kernel
theorem dX11_interruptThreads_32 : decode cX11_interruptThreads 32 = .ok (.iconst 1, 1) := by decide +kernel
theorem dX11_interruptThreads_33 : decode cX11_interruptThreads 33 = .ok (.iadd, 1) := by decide +kernel
theorem dX11_interruptThreads_34 : decode cX11_interruptThreads 34 = .ok (.putfield 193, 3) := by decide +kernel
theorem dX11_interruptThreads_37 : decode cX11_interruptThreads 37 = .ok (.aload_n 0, 1) := by decide +kernel
theorem dX11_interruptThreads_38 : decode cX11_interruptThreads 38 = .ok (.aload_n 0, 1) := by decide +kernel
theorem dX11_interruptThreads_39 : decode cX11_interruptThreads 39 = .ok (.getfield 21, 3) := by decide +kernel
theorem dX11_interruptThreads_42 : decode cX11_interruptThreads 42 = .ok (.iload_n 1, 1) := by decide +kernel
theorem dX11_interruptThreads_43 : decode cX11_interruptThreads 43 = .ok (.iaload, 1) := by decide +kernel
theorem dX11_interruptThreads_44 : decode cX11_interruptThreads 44 = .ok (.bipush 16, 2) := by decide +kernel
theorem dX11_interruptThreads_46 : decode cX11_interruptThreads 46 = .ok (.irem, 1) := by decide +kernel
theorem dX11_interruptThreads_47 : decode cX11_interruptThreads 47 = .ok (.invokevirtual 45, 3) := by decide +kernel
theorem dX11_interruptThreads_50 : decode cX11_interruptThreads 50 = .ok (.astore_n 2, 1) := by decide +kernel
theorem dX11_interruptThreads_51 : decode cX11_interruptThreads 51 = .ok (.aload_n 2, 1) := by decide +kernel
theorem dX11_interruptThreads_52 : decode cX11_interruptThreads 52 = .ok (.ifnonnull 6, 3) := by decide +kernel
theorem dX11_interruptThreads_55 : decode cX11_interruptThreads 55 = .ok (.goto 33, 3) := by decide +kernel
theorem dX11_interruptThreads_58 : decode cX11_interruptThreads 58 = .ok (.aload_n 2, 1) := by decide +kernel
theorem dX11_interruptThreads_59 : decode cX11_interruptThreads 59 = .ok (.getfield 102, 3) := by decide +kernel
theorem dX11_interruptThreads_62 : decode cX11_interruptThreads 62 = .ok (.astore_n 3, 1) := by decide +kernel
theorem dX11_interruptThreads_63 : decode cX11_interruptThreads 63 = .ok (.aload_n 3, 1) := by decide +kernel
theorem dX11_interruptThreads_64 : decode cX11_interruptThreads 64 = .ok (.ifnonnull 11, 3) := by decide +kernel
theorem dX11_interruptThreads_67 : decode cX11_interruptThreads 67 = .ok (.aload_n 2, 1) := by decide +kernel
theorem dX11_interruptThreads_68 : decode cX11_interruptThreads 68 = .ok (.iconst 1, 1) := by decide +kernel
theorem dX11_interruptThreads_69 : decode cX11_interruptThreads 69 = .ok (.putfield 113, 3) := by decide +kernel
theorem dX11_interruptThreads_72 : decode cX11_interruptThreads 72 = .ok (.goto 16, 3) := by decide +kernel
theorem dX11_interruptThreads_75 : decode cX11_interruptThreads 75 = .ok (.aload_n 3, 1) := by decide +kernel
theorem dX11_interruptThreads_76 : decode cX11_interruptThreads 76 = .ok (.getfield 106, 3) := by decide +kernel
theorem dX11_interruptThreads_79 : decode cX11_interruptThreads 79 = .ok (.aload_n 3, 1) := by decide +kernel
theorem dX11_interruptThreads_80 : decode cX11_interruptThreads 80 = .ok (.iconst 2, 1) := by decide +kernel
theorem dX11_interruptThreads_81 : decode cX11_interruptThreads 81 = .ok (.aload_n 0, 1) := by decide +kernel
theorem dX11_interruptThreads_82 : decode cX11_interruptThreads 82 = .ok (.getfield 80, 3) := by decide +kernel
theorem dX11_interruptThreads_85 : decode cX11_interruptThreads 85 = .ok (.invokevirtual 206, 3) := by decide +kernel
theorem dX11_interruptThreads_88 : decode cX11_interruptThreads 88 = .ok (.iinc 1 1, 3) := by decide +kernel
theorem dX11_interruptThreads_91 : decode cX11_interruptThreads 91 = .ok (.goto (-86), 3) := by decide +kernel
theorem dX11_interruptThreads_94 : decode cX11_interruptThreads 94 = .ok (.return_, 1) := by decide +kernel
def kX11_interruptThreads_0 (n : Nat) (K : Nat → jK) : jK := jk_aload 0 <| jk_get [10] 6 <| jk_istore 1 <| K 5
set_option maxRecDepth 100000 in
set_option maxHeartbeats 4000000 in
theorem tX11_interruptThreads_0 (l : Launch) (n : Nat) {K : Nat → jK} (hK : ∀ b, jr_D l cX11_interruptThreads 4 "MeetingKit" (Option.none : Option Jvm.ClassFile.FieldType) "interruptThreads" 5 108 (K b) b) : jr_D l cX11_interruptThreads 4 "MeetingKit" (Option.none : Option Jvm.ClassFile.FieldType) "interruptThreads" 5 108 (kX11_interruptThreads_0 n K) 0 := by
  unfold kX11_interruptThreads_0
  refine js_aload_n dX11_interruptThreads_0 ?_
  refine js_get dX11_interruptThreads_1 jf_6_10 tw_134 (Or.inl rfl) ?_
  refine js_istore_n dX11_interruptThreads_4 (by decide) ?_
  exact hK 5
def kX11_interruptThreads_5 (n : Nat) (K : Nat → jK) : jK := jk_kill 2 <| jk_kill 3 <| jk_iload 1 <| jk_aload 0 <| jk_get [10] 5 <| jk_icmpge (jk_vret) <| jk_aload 0 <| jk_get [10] 4 <| jk_iload 1 <| jk_iald <| jk_int 16 <| jk_idiv <| jk_aload 0 <| jk_get [10] 8 <| jk_icmple (jk_aload 0 <| jk_iload 1 <| jk_int 1 <| jk_iadd <| jk_puti [10] 6 <| jk_aload 0 <| jk_aload 0 <| jk_get [10] 4 <| jk_iload 1 <| jk_iald <| jk_int 16 <| jk_irem <| jk_vcall [(10, fX11_actorAt n)] 1 <| jk_astore 2 <| jk_aload 2 <| jk_ifnonnull (jk_aload 2 <| jk_get [0] 4 <| jk_astore 3 <| jk_aload 3 <| jk_ifnonnull (jk_aload 3 <| jk_get [9] 1 <| jk_aload 3 <| jk_int 2 <| jk_aload 0 <| jk_get [10] 8 <| jk_vcall [(1, fX2_giveUp n), (2, fX2_giveUp n), (3, fX2_giveUp n), (4, fX2_giveUp n), (5, fX2_giveUp n), (6, fX2_giveUp n), (7, fX2_giveUp n), (8, fX2_giveUp n)] 3 <| K 88) <| jk_aload 2 <| jk_int 1 <| jk_putz [0] 5 <| K 88) <| K 88) <| jk_vret
set_option maxRecDepth 100000 in
set_option maxHeartbeats 4000000 in
theorem tX11_interruptThreads_5 (l : Launch) (n : Nat) {K : Nat → jK} (hK : ∀ b, jr_D l cX11_interruptThreads 4 "MeetingKit" (Option.none : Option Jvm.ClassFile.FieldType) "interruptThreads" 5 108 (K b) b) : jr_D l cX11_interruptThreads 4 "MeetingKit" (Option.none : Option Jvm.ClassFile.FieldType) "interruptThreads" 5 108 (kX11_interruptThreads_5 n K) 5 := by
  unfold kX11_interruptThreads_5
  refine js_kill ?_
  refine js_kill ?_
  refine js_iload_n dX11_interruptThreads_5 ?_
  refine js_aload_n dX11_interruptThreads_6 ?_
  refine js_get dX11_interruptThreads_7 jf_5_10 tw_133 (Or.inl rfl) ?_
  refine js_icmpge (tgt := 94) dX11_interruptThreads_10 (by decide) ?_ ?_
  · exact js_vret dX11_interruptThreads_94 rfl
  · refine js_aload_n dX11_interruptThreads_13 ?_
    refine js_get dX11_interruptThreads_14 jf_4_10 tw_132 (Or.inl rfl) ?_
    refine js_iload_n dX11_interruptThreads_17 ?_
    refine js_iald dX11_interruptThreads_18 ?_
    refine js_bipush dX11_interruptThreads_19 ?_
    refine js_idiv dX11_interruptThreads_21 ?_
    refine js_aload_n dX11_interruptThreads_22 ?_
    refine js_get dX11_interruptThreads_23 jf_8_10 tw_136 (Or.inl rfl) ?_
    refine js_icmple (tgt := 30) dX11_interruptThreads_26 (by decide) ?_ ?_
    · refine js_aload_n dX11_interruptThreads_30 ?_
      refine js_iload_n dX11_interruptThreads_31 ?_
      refine js_iconst dX11_interruptThreads_32 ?_
      refine js_iadd dX11_interruptThreads_33 ?_
      refine js_puti dX11_interruptThreads_34 jf_6_10 rfl tw_134 (Or.inl rfl) ?_
      refine js_aload_n dX11_interruptThreads_37 ?_
      refine js_aload_n dX11_interruptThreads_38 ?_
      refine js_get dX11_interruptThreads_39 jf_4_10 tw_132 (Or.inl rfl) ?_
      refine js_iload_n dX11_interruptThreads_42 ?_
      refine js_iald dX11_interruptThreads_43 ?_
      refine js_bipush dX11_interruptThreads_44 ?_
      refine js_irem dX11_interruptThreads_46 ?_
      refine js_callv dX11_interruptThreads_47 (⟨⟨_, _, _, _, _, _, _, ⟨rfl, (show (10 : Nat) < 20 by decide), sX11_actorAt l n, by decide, by decide, tw_435, tw_102, tw_434⟩, Or.inl ⟨by decide +kernel, by decide +kernel, by decide +kernel, tw_432, tw_16⟩⟩, trivial⟩) ?_
      refine js_astore_n dX11_interruptThreads_50 (by decide) ?_
      refine js_aload_n dX11_interruptThreads_51 ?_
      refine js_ifnonnull (tgt := 58) dX11_interruptThreads_52 (by decide) ?_ ?_
      · refine js_aload_n dX11_interruptThreads_58 ?_
        refine js_get dX11_interruptThreads_59 jf_4_0 tw_408 (Or.inl rfl) ?_
        refine js_astore_n dX11_interruptThreads_62 (by decide) ?_
        refine js_aload_n dX11_interruptThreads_63 ?_
        refine js_ifnonnull (tgt := 75) dX11_interruptThreads_64 (by decide) ?_ ?_
        · refine js_aload_n dX11_interruptThreads_75 ?_
          refine js_get dX11_interruptThreads_76 jf_1_9 tw_455 (Or.inl rfl) ?_
          refine js_aload_n dX11_interruptThreads_79 ?_
          refine js_iconst dX11_interruptThreads_80 ?_
          refine js_aload_n dX11_interruptThreads_81 ?_
          refine js_get dX11_interruptThreads_82 jf_8_10 tw_136 (Or.inl rfl) ?_
          refine js_callv dX11_interruptThreads_85 (⟨⟨_, _, _, _, _, _, _, ⟨rfl, (show (1 : Nat) < 20 by decide), sX2_giveUp l n, by decide, by decide, tw_560, tw_104, tw_550⟩, Or.inr ⟨⟨"MeetingKit$Device", "giveUp", "(LMeetingKit$Step;II)V"⟩, "MeetingKit$Device", by decide +kernel, by decide +kernel, by decide +kernel, tw_549, tw_551, tw_552, Or.inl ⟨_, _, _, tw_550, tw_560⟩⟩⟩, ⟨⟨_, _, _, _, _, _, _, ⟨rfl, (show (2 : Nat) < 20 by decide), sX2_giveUp l n, by decide, by decide, tw_560, tw_104, tw_550⟩, Or.inr ⟨⟨"MeetingKit$Device", "giveUp", "(LMeetingKit$Step;II)V"⟩, "MeetingKit$Device", by decide +kernel, by decide +kernel, by decide +kernel, tw_549, tw_551, tw_553, Or.inl ⟨_, _, _, tw_550, tw_560⟩⟩⟩, ⟨⟨_, _, _, _, _, _, _, ⟨rfl, (show (3 : Nat) < 20 by decide), sX2_giveUp l n, by decide, by decide, tw_560, tw_104, tw_550⟩, Or.inr ⟨⟨"MeetingKit$Device", "giveUp", "(LMeetingKit$Step;II)V"⟩, "MeetingKit$Device", by decide +kernel, by decide +kernel, by decide +kernel, tw_549, tw_551, tw_554, Or.inl ⟨_, _, _, tw_550, tw_560⟩⟩⟩, ⟨⟨_, _, _, _, _, _, _, ⟨rfl, (show (4 : Nat) < 20 by decide), sX2_giveUp l n, by decide, by decide, tw_560, tw_104, tw_550⟩, Or.inr ⟨⟨"MeetingKit$Device", "giveUp", "(LMeetingKit$Step;II)V"⟩, "MeetingKit$Device", by decide +kernel, by decide +kernel, by decide +kernel, tw_549, tw_551, tw_555, Or.inl ⟨_, _, _, tw_550, tw_560⟩⟩⟩, ⟨⟨_, _, _, _, _, _, _, ⟨rfl, (show (5 : Nat) < 20 by decide), sX2_giveUp l n, by decide, by decide, tw_560, tw_104, tw_550⟩, Or.inr ⟨⟨"MeetingKit$Device", "giveUp", "(LMeetingKit$Step;II)V"⟩, "MeetingKit$Device", by decide +kernel, by decide +kernel, by decide +kernel, tw_549, tw_551, tw_556, Or.inl ⟨_, _, _, tw_550, tw_560⟩⟩⟩, ⟨⟨_, _, _, _, _, _, _, ⟨rfl, (show (6 : Nat) < 20 by decide), sX2_giveUp l n, by decide, by decide, tw_560, tw_104, tw_550⟩, Or.inr ⟨⟨"MeetingKit$Device", "giveUp", "(LMeetingKit$Step;II)V"⟩, "MeetingKit$Device", by decide +kernel, by decide +kernel, by decide +kernel, tw_549, tw_551, tw_557, Or.inl ⟨_, _, _, tw_550, tw_560⟩⟩⟩, ⟨⟨_, _, _, _, _, _, _, ⟨rfl, (show (7 : Nat) < 20 by decide), sX2_giveUp l n, by decide, by decide, tw_560, tw_104, tw_550⟩, Or.inr ⟨⟨"MeetingKit$Device", "giveUp", "(LMeetingKit$Step;II)V"⟩, "MeetingKit$Device", by decide +kernel, by decide +kernel, by decide +kernel, tw_549, tw_551, tw_558, Or.inl ⟨_, _, _, tw_550, tw_560⟩⟩⟩, ⟨⟨_, _, _, _, _, _, _, ⟨rfl, (show (8 : Nat) < 20 by decide), sX2_giveUp l n, by decide, by decide, tw_560, tw_104, tw_550⟩, Or.inr ⟨⟨"MeetingKit$Device", "giveUp", "(LMeetingKit$Step;II)V"⟩, "MeetingKit$Device", by decide +kernel, by decide +kernel, by decide +kernel, tw_549, tw_551, tw_559, Or.inl ⟨_, _, _, tw_550, tw_560⟩⟩⟩, trivial⟩⟩⟩⟩⟩⟩⟩⟩) ?_
          exact hK 88
        · refine js_aload_n dX11_interruptThreads_67 ?_
          refine js_iconst dX11_interruptThreads_68 ?_
          refine js_putz dX11_interruptThreads_69 jf_5_0 rfl tw_410 (Or.inl rfl) ?_
          refine js_goto (tgt := 88) dX11_interruptThreads_72 (by decide) ?_
          exact hK 88
      · refine js_goto (tgt := 88) dX11_interruptThreads_55 (by decide) ?_
        exact hK 88
    · exact js_vret dX11_interruptThreads_29 rfl
def kX11_interruptThreads_88 (n : Nat) (K : Nat → jK) : jK := jk_kill 2 <| jk_kill 3 <| jk_iinc 1 1 <| K 5
set_option maxRecDepth 100000 in
set_option maxHeartbeats 4000000 in
theorem tX11_interruptThreads_88 (l : Launch) (n : Nat) {K : Nat → jK} (hK : ∀ b, jr_D l cX11_interruptThreads 4 "MeetingKit" (Option.none : Option Jvm.ClassFile.FieldType) "interruptThreads" 5 108 (K b) b) : jr_D l cX11_interruptThreads 4 "MeetingKit" (Option.none : Option Jvm.ClassFile.FieldType) "interruptThreads" 5 108 (kX11_interruptThreads_88 n K) 88 := by
  unfold kX11_interruptThreads_88
  refine js_kill ?_
  refine js_kill ?_
  refine js_iinc dX11_interruptThreads_88 (by decide) ?_
  refine js_goto (tgt := 5) dX11_interruptThreads_91 (by decide) ?_
  exact hK 5
def kX11_interruptThreads_b (n : Nat) (K : Nat → jK) (b : Nat) : jK := if b = 0 then kX11_interruptThreads_0 n K else if b = 5 then kX11_interruptThreads_5 n K else if b = 88 then kX11_interruptThreads_88 n K else jk_none
def kX11_interruptThreads (n : Nat) : jK := jk_fix (kX11_interruptThreads_b n) n 0
theorem tX11_interruptThreads (l : Launch) (n : Nat) : jr_D l cX11_interruptThreads 4 "MeetingKit" (Option.none : Option Jvm.ClassFile.FieldType) "interruptThreads" 5 108 (kX11_interruptThreads n) 0 := js_fix (F := kX11_interruptThreads_b n) (fun K hK b => js_blk (tX11_interruptThreads_0 l n hK) (js_blk (tX11_interruptThreads_5 l n hK) (js_blk (tX11_interruptThreads_88 l n hK) (js_none)))) n 0
def fX11_interruptThreads (n : Nat) : jF := jm_run 1 4 (kX11_interruptThreads n)
theorem sX11_interruptThreads (l : Launch) (n : Nat) : jr_F l (⟨"MeetingKit", "interruptThreads", "()V"⟩ : MethodName) cX11_interruptThreads 4 (Option.none : Option Jvm.ClassFile.FieldType) 5 108 (fX11_interruptThreads n) := js_met (by decide +kernel) (by decide) (tX11_interruptThreads l n)
