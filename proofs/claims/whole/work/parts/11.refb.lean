theorem dX12_goes_0 : decode cX12_goes 0 = .ok (.aload_n 0, 1) := by decide +kernel
theorem dX12_goes_1 : decode cX12_goes 1 = .ok (.iload_n 1, 1) := by decide +kernel
theorem dX12_goes_2 : decode cX12_goes 2 = .ok (.invokevirtual 161, 3) := by decide +kernel
theorem dX12_goes_5 : decode cX12_goes 5 = .ok (.aload_n 0, 1) := by decide +kernel
theorem dX12_goes_6 : decode cX12_goes 6 = .ok (.iload_n 1, 1) := by decide +kernel
theorem dX12_goes_7 : decode cX12_goes 7 = .ok (.iload_n 2, 1) := by decide +kernel
theorem dX12_goes_8 : decode cX12_goes 8 = .ok (.invokevirtual 165, 3) := by decide +kernel
theorem dX12_goes_11 : decode cX12_goes 11 = .ok (.return_, 1) := by decide +kernel
def kX12_goes (n : Nat) : jK := jk_aload 0 <| jk_iload 1 <| jk_vcall [(11, fX12_leavesLine n)] 1 <| jk_aload 0 <| jk_iload 1 <| jk_iload 2 <| jk_vcall [(11, fX12_passes n)] 2 <| jk_vret
set_option maxRecDepth 100000 in
set_option maxHeartbeats 4000000 in
theorem tX12_goes (l : Launch) (n : Nat) : jr_D l cX12_goes 3 "MeetingKitModel" (Option.none : Option Jvm.ClassFile.FieldType) "goes" 3 68 (kX12_goes n) 0 := by
  unfold kX12_goes
  refine js_aload_n dX12_goes_0 ?_
  refine js_iload_n dX12_goes_1 ?_
  refine js_callv dX12_goes_2 (⟨⟨_, _, _, _, _, _, _, ⟨rfl, (show (11 : Nat) < 20 by decide), sX12_leavesLine l n, by decide, by decide, tw_1140, tw_103, tw_1139⟩, Or.inl ⟨by decide +kernel, by decide +kernel, by decide +kernel, tw_1137, tw_66⟩⟩, trivial⟩) ?_
  refine js_aload_n dX12_goes_5 ?_
  refine js_iload_n dX12_goes_6 ?_
  refine js_iload_n dX12_goes_7 ?_
  refine js_callv dX12_goes_8 (⟨⟨_, _, _, _, _, _, _, ⟨rfl, (show (11 : Nat) < 20 by decide), sX12_passes l n, by decide, by decide, tw_1172, tw_103, tw_1171⟩, Or.inl ⟨by decide +kernel, by decide +kernel, by decide +kernel, tw_1169, tw_74⟩⟩, trivial⟩) ?_
  exact js_vret dX12_goes_11 rfl
def fX12_goes (n : Nat) : jF := jm_run 3 3 (kX12_goes n)
theorem sX12_goes (l : Launch) (n : Nat) : jr_F l (⟨"MeetingKitModel", "goes", "(II)V"⟩ : MethodName) cX12_goes 3 (Option.none : Option Jvm.ClassFile.FieldType) 3 68 (fX12_goes n) := js_met (by decide +kernel) (by decide) (tX12_goes l n)
theorem dX12_lookers_0 : decode cX12_lookers 0 = .ok (.iconst 0, 1) := by decide +kernel
theorem dX12_lookers_1 : decode cX12_lookers 1 = .ok (.istore_n 2, 1) := by decide +kernel
theorem dX12_lookers_2 : decode cX12_lookers 2 = .ok (.iconst 0, 1) := by decide +kernel
theorem dX12_lookers_3 : decode cX12_lookers 3 = .ok (.istore_n 3, 1) := by decide +kernel
theorem dX12_lookers_4 : decode cX12_lookers 4 = .ok (.iload_n 3, 1) := by decide +kernel
theorem dX12_lookers_5 : decode cX12_lookers 5 = .ok (.bipush 16, 2) := by decide +kernel
theorem dX12_lookers_7 : decode cX12_lookers 7 = .ok (.if_icmp .ge 23, 3) := by decide +kernel
theorem dX12_lookers_10 : decode cX12_lookers 10 = .ok (.iload_n 2, 1) := by decide +kernel
theorem dX12_lookers_11 : decode cX12_lookers 11 = .ok (.aload_n 0, 1) := by decide +kernel
theorem dX12_lookers_12 : decode cX12_lookers 12 = .ok (.getfield 88, 3) := by decide +kernel
theorem dX12_lookers_15 : decode cX12_lookers 15 = .ok (.bipush 16, 2) := by decide +kernel
theorem dX12_lookers_17 : decode cX12_lookers 17 = .ok (.iload_n 1, 1) := by decide +kernel
theorem dX12_lookers_18 : decode cX12_lookers 18 = .ok (.imul, 1) := by decide +kernel
theorem dX12_lookers_19 : decode cX12_lookers 19 = .ok (.iload_n 3, 1) := by decide +kernel
theorem dX12_lookers_20 : decode cX12_lookers 20 = .ok (.iadd, 1) := by decide +kernel
theorem dX12_lookers_21 : decode cX12_lookers 21 = .ok (.iaload, 1) := by decide +kernel
theorem dX12_lookers_22 : decode cX12_lookers 22 = .ok (.iadd, 1) := by decide +kernel
theorem dX12_lookers_23 : decode cX12_lookers 23 = .ok (.istore_n 2, 1) := by decide +kernel
theorem dX12_lookers_24 : decode cX12_lookers 24 = .ok (.iinc 3 1, 3) := by decide +kernel
theorem dX12_lookers_27 : decode cX12_lookers 27 = .ok (.goto (-23), 3) := by decide +kernel
theorem dX12_lookers_30 : decode cX12_lookers 30 = .ok (.iload_n 2, 1) := by decide +kernel
theorem dX12_lookers_31 : decode cX12_lookers 31 = .ok (.ireturn, 1) := by decide +kernel
def kX12_lookers_0 (n : Nat) (K : Nat → jK) : jK := jk_int 0 <| jk_istore 2 <| jk_int 0 <| jk_istore 3 <| K 4
set_option maxRecDepth 100000 in
set_option maxHeartbeats 4000000 in
theorem tX12_lookers_0 (l : Launch) (n : Nat) {K : Nat → jK} (hK : ∀ b, jr_D l cX12_lookers 4 "MeetingKitModel" (Option.some Jvm.ClassFile.FieldType.int) "lookers" 0 0 (K b) b) : jr_D l cX12_lookers 4 "MeetingKitModel" (Option.some Jvm.ClassFile.FieldType.int) "lookers" 0 0 (kX12_lookers_0 n K) 0 := by
  unfold kX12_lookers_0
  refine js_iconst dX12_lookers_0 ?_
  refine js_istore_n dX12_lookers_1 (by decide) ?_
  refine js_iconst dX12_lookers_2 ?_
  refine js_istore_n dX12_lookers_3 (by decide) ?_
  exact hK 4
def kX12_lookers_4 (n : Nat) (K : Nat → jK) : jK := jk_iload 3 <| jk_int 16 <| jk_icmpge (jk_iload 2 <| jk_iret) <| jk_iload 2 <| jk_aload 0 <| jk_get [11] 29 <| jk_int 16 <| jk_iload 1 <| jk_imul <| jk_iload 3 <| jk_iadd <| jk_iald <| jk_iadd <| jk_istore 2 <| jk_iinc 3 1 <| K 4
set_option maxRecDepth 100000 in
set_option maxHeartbeats 4000000 in
theorem tX12_lookers_4 (l : Launch) (n : Nat) {K : Nat → jK} (hK : ∀ b, jr_D l cX12_lookers 4 "MeetingKitModel" (Option.some Jvm.ClassFile.FieldType.int) "lookers" 0 0 (K b) b) : jr_D l cX12_lookers 4 "MeetingKitModel" (Option.some Jvm.ClassFile.FieldType.int) "lookers" 0 0 (kX12_lookers_4 n K) 4 := by
  unfold kX12_lookers_4
  refine js_iload_n dX12_lookers_4 ?_
  refine js_bipush dX12_lookers_5 ?_
  refine js_icmpge (tgt := 30) dX12_lookers_7 (by decide) ?_ ?_
  · refine js_iload_n dX12_lookers_30 ?_
    exact js_iret dX12_lookers_31 rfl
  · refine js_iload_n dX12_lookers_10 ?_
    refine js_aload_n dX12_lookers_11 ?_
    refine js_get dX12_lookers_12 jf_29_11 tw_991 (Or.inl rfl) ?_
    refine js_bipush dX12_lookers_15 ?_
    refine js_iload_n dX12_lookers_17 ?_
    refine js_imul dX12_lookers_18 ?_
    refine js_iload_n dX12_lookers_19 ?_
    refine js_iadd dX12_lookers_20 ?_
    refine js_iald dX12_lookers_21 ?_
    refine js_iadd dX12_lookers_22 ?_
    refine js_istore_n dX12_lookers_23 (by decide) ?_
    refine js_iinc dX12_lookers_24 (by decide) ?_
    refine js_goto (tgt := 4) dX12_lookers_27 (by decide) ?_
    exact hK 4
def kX12_lookers_b (n : Nat) (K : Nat → jK) (b : Nat) : jK := if b = 0 then kX12_lookers_0 n K else if b = 4 then kX12_lookers_4 n K else jk_none
def kX12_lookers (n : Nat) : jK := jk_fix (kX12_lookers_b n) n 0
theorem tX12_lookers (l : Launch) (n : Nat) : jr_D l cX12_lookers 4 "MeetingKitModel" (Option.some Jvm.ClassFile.FieldType.int) "lookers" 0 0 (kX12_lookers n) 0 := js_fix (F := kX12_lookers_b n) (fun K hK b => js_blk (tX12_lookers_0 l n hK) (js_blk (tX12_lookers_4 l n hK) (js_none))) n 0
def fX12_lookers (n : Nat) : jF := jm_run 2 4 (kX12_lookers n)
theorem sX12_lookers (l : Launch) (n : Nat) : jr_F l (⟨"MeetingKitModel", "lookers", "(I)I"⟩ : MethodName) cX12_lookers 4 (Option.some Jvm.ClassFile.FieldType.int) 0 0 (fX12_lookers n) := js_met (by decide +kernel) (by decide) (tX12_lookers l n)
theorem dX12_letsLock_0 : decode cX12_letsLock 0 = .ok (.aload_n 0, 1) := by decide +kernel
theorem dX12_letsLock_1 : decode cX12_letsLock 1 = .ok (.getfield 85, 3) := by decide +kernel
theorem dX12_letsLock_4 : decode cX12_letsLock 4 = .ok (.iload_n 1, 1) := by decide +kernel
theorem dX12_letsLock_5 : decode cX12_letsLock 5 = .ok (.iaload, 1) := by decide +kernel
theorem dX12_letsLock_6 : decode cX12_letsLock 6 = .ok (.istore_n 3, 1) := by decide +kernel
theorem dX12_letsLock_7 : decode cX12_letsLock 7 = .ok (.iload_n 3, 1) := by decide +kernel
theorem dX12_letsLock_8 : decode cX12_letsLock 8 = .ok (.ifCond .lt 41, 3) := by decide +kernel
theorem dX12_letsLock_11 : decode cX12_letsLock 11 = .ok (.aload_n 0, 1) := by decide +kernel
theorem dX12_letsLock_12 : decode cX12_letsLock 12 = .ok (.iload_n 1, 1) := by decide +kernel
theorem dX12_letsLock_13 : decode cX12_letsLock 13 = .ok (.invokevirtual 183, 3) := by decide +kernel
theorem dX12_letsLock_16 : decode cX12_letsLock 16 = .ok (.iconst 1, 1) := by decide +kernel
theorem dX12_letsLock_17 : decode cX12_letsLock 17 = .ok (.if_icmp .eq 5, 3) := by decide +kernel
theorem dX12_letsLock_20 : decode cX12_letsLock 20 = .ok (.iconst 0, 1) := by decide +kernel
theorem dX12_letsLock_21 : decode cX12_letsLock 21 = .ok (.ireturn, 1) := by decide +kernel
theorem dX12_letsLock_22 : decode cX12_letsLock 22 = .ok (.aload_n 0, 1) := by decide +kernel
theorem dX12_letsLock_23 : decode cX12_letsLock 23 = .ok (.getfield 88, 3) := by decide +kernel
theorem dX12_letsLock_26 : decode cX12_letsLock 26 = .ok (.bipush 16, 2) := by decide +kernel
theorem dX12_letsLock_28 : decode cX12_letsLock 28 = .ok (.iload_n 1, 1) := by decide +kernel
theorem dX12_letsLock_29 : decode cX12_letsLock 29 = .ok (.imul, 1) := by decide +kernel
theorem dX12_letsLock_30 : decode cX12_letsLock 30 = .ok (.iload_n 3, 1) := by decide +kernel
theorem dX12_letsLock_31 : decode cX12_letsLock 31 = .ok (.iadd, 1) := by decide +kernel
theorem dX12_letsLock_32 : decode cX12_letsLock 32 = .ok (.iconst 0, 1) := by decide +kernel
theorem dX12_letsLock_33 : decode cX12_letsLock 33 = .ok (.iastore, 1) := by decide +kernel
theorem dX12_letsLock_34 : decode cX12_letsLock 34 = .ok (.aload_n 0, 1) := by decide +kernel
theorem dX12_letsLock_35 : decode cX12_letsLock 35 = .ok (.getfield 79, 3) := by decide +kernel
theorem dX12_letsLock_38 : decode cX12_letsLock 38 = .ok (.iload_n 1, 1) := by decide +kernel
theorem dX12_letsLock_39 : decode cX12_letsLock 39 = .ok (.iload_n 3, 1) := by decide +kernel
theorem dX12_letsLock_40 : decode cX12_letsLock 40 = .ok (.iastore, 1) := by decide +kernel
theorem dX12_letsLock_41 : decode cX12_letsLock 41 = .ok (.aload_n 0, 1) := by decide +kernel
theorem dX12_letsLock_42 : decode cX12_letsLock 42 = .ok (.iload_n 3, 1) := by decide +kernel
theorem dX12_letsLock_43 : decode cX12_letsLock 43 = .ok (.iconst 0, 1) := by decide +kernel
theorem dX12_letsLock_44 : decode cX12_letsLock 44 = .ok (.invokevirtual 174, 3) := by decide +kernel
theorem dX12_letsLock_47 : decode cX12_letsLock 47 = .ok (.iconst 1, 1) := by decide +kernel
theorem dX12_letsLock_48 : decode cX12_letsLock 48 = .ok (.ireturn, 1) := by decide +kernel
theorem dX12_letsLock_49 : decode cX12_letsLock 49 = .ok (.aload_n 0, 1) := by decide +kernel
theorem dX12_letsLock_50 : decode cX12_letsLock 50 = .ok (.getfield 79, 3) := by decide +kernel
theorem dX12_letsLock_53 : decode cX12_letsLock 53 = .ok (.iload_n 1, 1) := by decide +kernel
theorem dX12_letsLock_54 : decode cX12_letsLock 54 = .ok (.iaload, 1) := by decide +kernel
theorem dX12_letsLock_55 : decode cX12_letsLock 55 = .ok (.ifCond .ge 20, 3) := by decide +kernel
theorem dX12_letsLock_58 : decode cX12_letsLock 58 = .ok (.aload_n 0, 1) := by decide +kernel
theorem dX12_letsLock_59 : decode cX12_letsLock 59 = .ok (.iload_n 2, 1) := by decide +kernel
theorem dX12_letsLock_60 : decode cX12_letsLock 60 = .ok (.invokevirtual 186, 3) := by decide +kernel
theorem dX12_letsLock_63 : decode cX12_letsLock 63 = .ok (.iconst 1, 1) := by decide +kernel
theorem dX12_letsLock_64 : decode cX12_letsLock 64 = .ok (.if_icmp .ne 13, 3) := by decide +kernel
theorem dX12_letsLock_67 : decode cX12_letsLock 67 = .ok (.aload_n 0, 1) := by decide +kernel
theorem dX12_letsLock_68 : decode cX12_letsLock 68 = .ok (.iload_n 1, 1) := by decide +kernel
theorem dX12_letsLock_69 : decode cX12_letsLock 69 = .ok (.invokevirtual 183, 3) := by decide +kernel
theorem dX12_letsLock_72 : decode cX12_letsLock 72 = .ok (.ifCond .le 5, 3) := by decide +kernel
theorem dX12_letsLock_75 : decode cX12_letsLock 75 = .ok (.iconst 0, 1) := by decide +kernel
theorem dX12_letsLock_76 : decode cX12_letsLock 76 = .ok (.ireturn, 1) := by decide +kernel
theorem dX12_letsLock_77 : decode cX12_letsLock 77 = .ok (.aload_n 0, 1) := by decide +kernel
theorem dX12_letsLock_78 : decode cX12_letsLock 78 = .ok (.iload_n 2, 1) := by decide +kernel
theorem dX12_letsLock_79 : decode cX12_letsLock 79 = .ok (.invokevirtual 186, 3) := by decide +kernel
theorem dX12_letsLock_82 : decode cX12_letsLock 82 = .ok (.iconst 1, 1) := by decide +kernel
theorem dX12_letsLock_83 : decode cX12_letsLock 83 = .ok (.if_icmp .ne 13, 3) := by decide +kernel
theorem dX12_letsLock_86 : decode cX12_letsLock 86 = .ok (.aload_n 0, 1) := by decide +kernel
theorem dX12_letsLock_87 : decode cX12_letsLock 87 = .ok (.getfield 79, 3) := by decide +kernel
theorem dX12_letsLock_90 : decode cX12_letsLock 90 = .ok (.iload_n 1, 1) := by decide +kernel
theorem dX12_letsLock_91 : decode cX12_letsLock 91 = .ok (.iload_n 2, 1) := by decide +kernel
theorem dX12_letsLock_92 : decode cX12_letsLock 92 = .ok (.iastore, 1) := by decide +kernel
theorem dX12_letsLock_93 : decode cX12_letsLock 93 = .ok (.goto 15, 3) := by decide +kernel
theorem dX12_letsLock_96 : decode cX12_letsLock 96 = .ok (.aload_n 0, 1) := by decide +kernel
theorem dX12_letsLock_97 : decode cX12_letsLock 97 = .ok (.getfield 88, 3) := by decide +kernel
theorem dX12_letsLock_100 : decode cX12_letsLock 100 = .ok (.bipush 16, 2) := by decide +kernel
theorem dX12_letsLock_102 : decode cX12_letsLock 102 = .ok (.iload_n 1, 1) := by decide +kernel
theorem dX12_letsLock_103 : decode cX12_letsLock 103 = .ok (.imul, 1) := by decide +kernel
theorem dX12_letsLock_104 : decode cX12_letsLock 104 = .ok (.iload_n 2, 1) := by decide +kernel
theorem dX12_letsLock_105 : decode cX12_letsLock 105 = .ok (.iadd, 1) := by decide +kernel
theorem dX12_letsLock_106 : decode cX12_letsLock 106 = .ok (.iconst 1, 1) := by decide +kernel
theorem dX12_letsLock_107 : decode cX12_letsLock 107 = .ok (.iastore, 1) := by decide +kernel
theorem dX12_letsLock_108 : decode cX12_letsLock 108 = .ok (.aload_n 0, 1) := by decide +kernel
theorem dX12_letsLock_109 : decode cX12_letsLock 109 = .ok (.iload_n 2, 1) := by decide +kernel
theorem dX12_letsLock_110 : decode cX12_letsLock 110 = .ok (.iconst 0, 1) := by decide +kernel
theorem dX12_letsLock_111 : decode cX12_letsLock 111 = .ok (.invokevirtual 174, 3) := by decide +kernel
theorem dX12_letsLock_114 : decode cX12_letsLock 114 = .ok (.iconst 1, 1) := by decide +kernel
theorem dX12_letsLock_115 : decode cX12_letsLock 115 = .ok (.ireturn, 1) := by decide +kernel
def kX12_letsLock_0 (n : Nat) (K : Nat → jK) : jK := jk_aload 0 <| jk_get [11] 28 <| jk_iload 1 <| jk_iald <| jk_istore 3 <| jk_iload 3 <| jk_iflt (jk_aload 0 <| jk_get [11] 26 <| jk_iload 1 <| jk_iald <| jk_ifge (K 75) <| jk_aload 0 <| jk_iload 2 <| jk_vcall [(11, fX12_actOf n)] 1 <| jk_int 1 <| jk_icmpne (K 77) <| jk_aload 0 <| jk_iload 1 <| jk_vcall [(11, fX12_lookers n)] 1 <| jk_ifle (K 77) <| K 75) <| jk_aload 0 <| jk_iload 1 <| jk_vcall [(11, fX12_lookers n)] 1 <| jk_int 1 <| jk_icmpeq (jk_aload 0 <| jk_get [11] 29 <| jk_int 16 <| jk_iload 1 <| jk_imul <| jk_iload 3 <| jk_iadd <| jk_int 0 <| jk_iast <| jk_aload 0 <| jk_get [11] 26 <| jk_iload 1 <| jk_iload 3 <| jk_iast <| jk_aload 0 <| jk_iload 3 <| jk_int 0 <| jk_vcall [(11, fX12_goes n)] 2 <| jk_int 1 <| jk_zret) <| jk_int 0 <| jk_zret
set_option maxRecDepth 100000 in
set_option maxHeartbeats 4000000 in
theorem tX12_letsLock_0 (l : Launch) (n : Nat) {K : Nat → jK} (hK : ∀ b, jr_D l cX12_letsLock 4 "MeetingKitModel" (Option.some Jvm.ClassFile.FieldType.boolean) "letsLock" 4 90 (K b) b) : jr_D l cX12_letsLock 4 "MeetingKitModel" (Option.some Jvm.ClassFile.FieldType.boolean) "letsLock" 4 90 (kX12_letsLock_0 n K) 0 := by
  unfold kX12_letsLock_0
  refine js_aload_n dX12_letsLock_0 ?_
  refine js_get dX12_letsLock_1 jf_28_11 tw_990 (Or.inl rfl) ?_
  refine js_iload_n dX12_letsLock_4 ?_
  refine js_iald dX12_letsLock_5 ?_
  refine js_istore_n dX12_letsLock_6 (by decide) ?_
  refine js_iload_n dX12_letsLock_7 ?_
  refine js_iflt (tgt := 49) dX12_letsLock_8 (by decide) ?_ ?_
  · refine js_aload_n dX12_letsLock_49 ?_
    refine js_get dX12_letsLock_50 jf_26_11 tw_988 (Or.inl rfl) ?_
    refine js_iload_n dX12_letsLock_53 ?_
    refine js_iald dX12_letsLock_54 ?_
    refine js_ifge (tgt := 75) dX12_letsLock_55 (by decide) ?_ ?_
    · exact hK 75
    · refine js_aload_n dX12_letsLock_58 ?_
      refine js_iload_n dX12_letsLock_59 ?_
      refine js_callv dX12_letsLock_60 (⟨⟨_, _, _, _, _, _, _, ⟨rfl, (show (11 : Nat) < 20 by decide), sX12_actOf l n, by decide, by decide, tw_1184, tw_103, tw_1183⟩, Or.inl ⟨by decide +kernel, by decide +kernel, by decide +kernel, tw_1181, tw_77⟩⟩, trivial⟩) ?_
      refine js_iconst dX12_letsLock_63 ?_
      refine js_icmpne (tgt := 77) dX12_letsLock_64 (by decide) ?_ ?_
      · exact hK 77
      · refine js_aload_n dX12_letsLock_67 ?_
        refine js_iload_n dX12_letsLock_68 ?_
        refine js_callv dX12_letsLock_69 (⟨⟨_, _, _, _, _, _, _, ⟨rfl, (show (11 : Nat) < 20 by decide), sX12_lookers l n, by decide, by decide, tw_1180, tw_103, tw_1179⟩, Or.inl ⟨by decide +kernel, by decide +kernel, by decide +kernel, tw_1177, tw_76⟩⟩, trivial⟩) ?_
        refine js_ifle (tgt := 77) dX12_letsLock_72 (by decide) ?_ ?_
        · exact hK 77
        · exact hK 75
  · refine js_aload_n dX12_letsLock_11 ?_
    refine js_iload_n dX12_letsLock_12 ?_
    refine js_callv dX12_letsLock_13 (⟨⟨_, _, _, _, _, _, _, ⟨rfl, (show (11 : Nat) < 20 by decide), sX12_lookers l n, by decide, by decide, tw_1180, tw_103, tw_1179⟩, Or.inl ⟨by decide +kernel, by decide +kernel, by decide +kernel, tw_1177, tw_76⟩⟩, trivial⟩) ?_
    refine js_iconst dX12_letsLock_16 ?_
    refine js_icmpeq (tgt := 22) dX12_letsLock_17 (by decide) ?_ ?_
    · refine js_aload_n dX12_letsLock_22 ?_
      refine js_get dX12_letsLock_23 jf_29_11 tw_991 (Or.inl rfl) ?_
      refine js_bipush dX12_letsLock_26 ?_
      refine js_iload_n dX12_letsLock_28 ?_
      refine js_imul dX12_letsLock_29 ?_
      refine js_iload_n dX12_letsLock_30 ?_
      refine js_iadd dX12_letsLock_31 ?_
      refine js_iconst dX12_letsLock_32 ?_
      refine js_iast dX12_letsLock_33 ?_
      refine js_aload_n dX12_letsLock_34 ?_
      refine js_get dX12_letsLock_35 jf_26_11 tw_988 (Or.inl rfl) ?_
      refine js_iload_n dX12_letsLock_38 ?_
      refine js_iload_n dX12_letsLock_39 ?_
      refine js_iast dX12_letsLock_40 ?_
      refine js_aload_n dX12_letsLock_41 ?_
      refine js_iload_n dX12_letsLock_42 ?_
      refine js_iconst dX12_letsLock_43 ?_
      refine js_callv dX12_letsLock_44 (⟨⟨_, _, _, _, _, _, _, ⟨rfl, (show (11 : Nat) < 20 by decide), sX12_goes l n, by decide, by decide, tw_1168, tw_103, tw_1167⟩, Or.inl ⟨by decide +kernel, by decide +kernel, by decide +kernel, tw_1165, tw_73⟩⟩, trivial⟩) ?_
      refine js_iconst dX12_letsLock_47 ?_
      exact js_zret dX12_letsLock_48 rfl
    · refine js_iconst dX12_letsLock_20 ?_
      exact js_zret dX12_letsLock_21 rfl
def kX12_letsLock_75 (n : Nat) (K : Nat → jK) : jK := jk_kill 0 <| jk_kill 1 <| jk_kill 2 <| jk_kill 3 <| jk_int 0 <| jk_zret
set_option maxRecDepth 100000 in
set_option maxHeartbeats 4000000 in
theorem tX12_letsLock_75 (l : Launch) (n : Nat) {K : Nat → jK} (hK : ∀ b, jr_D l cX12_letsLock 4 "MeetingKitModel" (Option.some Jvm.ClassFile.FieldType.boolean) "letsLock" 4 90 (K b) b) : jr_D l cX12_letsLock 4 "MeetingKitModel" (Option.some Jvm.ClassFile.FieldType.boolean) "letsLock" 4 90 (kX12_letsLock_75 n K) 75 := by
  unfold kX12_letsLock_75
  refine js_kill ?_
  refine js_kill ?_
  refine js_kill ?_
  refine js_kill ?_
  refine js_iconst dX12_letsLock_75 ?_
  exact js_zret dX12_letsLock_76 rfl
def kX12_letsLock_77 (n : Nat) (K : Nat → jK) : jK := jk_kill 3 <| jk_aload 0 <| jk_iload 2 <| jk_vcall [(11, fX12_actOf n)] 1 <| jk_int 1 <| jk_icmpne (jk_aload 0 <| jk_get [11] 29 <| jk_int 16 <| jk_iload 1 <| jk_imul <| jk_iload 2 <| jk_iadd <| jk_int 1 <| jk_iast <| K 108) <| jk_aload 0 <| jk_get [11] 26 <| jk_iload 1 <| jk_iload 2 <| jk_iast <| K 108
set_option maxRecDepth 100000 in
set_option maxHeartbeats 4000000 in
theorem tX12_letsLock_77 (l : Launch) (n : Nat) {K : Nat → jK} (hK : ∀ b, jr_D l cX12_letsLock 4 "MeetingKitModel" (Option.some Jvm.ClassFile.FieldType.boolean) "letsLock" 4 90 (K b) b) : jr_D l cX12_letsLock 4 "MeetingKitModel" (Option.some Jvm.ClassFile.FieldType.boolean) "letsLock" 4 90 (kX12_letsLock_77 n K) 77 := by
  unfold kX12_letsLock_77
  refine js_kill ?_
  refine js_aload_n dX12_letsLock_77 ?_
  refine js_iload_n dX12_letsLock_78 ?_
  refine js_callv dX12_letsLock_79 (⟨⟨_, _, _, _, _, _, _, ⟨rfl, (show (11 : Nat) < 20 by decide), sX12_actOf l n, by decide, by decide, tw_1184, tw_103, tw_1183⟩, Or.inl ⟨by decide +kernel, by decide +kernel, by decide +kernel, tw_1181, tw_77⟩⟩, trivial⟩) ?_
  refine js_iconst dX12_letsLock_82 ?_
  refine js_icmpne (tgt := 96) dX12_letsLock_83 (by decide) ?_ ?_
  · refine js_aload_n dX12_letsLock_96 ?_
    refine js_get dX12_letsLock_97 jf_29_11 tw_991 (Or.inl rfl) ?_
    refine js_bipush dX12_letsLock_100 ?_
    refine js_iload_n dX12_letsLock_102 ?_
    refine js_imul dX12_letsLock_103 ?_
    refine js_iload_n dX12_letsLock_104 ?_
    refine js_iadd dX12_letsLock_105 ?_
    refine js_iconst dX12_letsLock_106 ?_
    refine js_iast dX12_letsLock_107 ?_
    exact hK 108
  · refine js_aload_n dX12_letsLock_86 ?_
    refine js_get dX12_letsLock_87 jf_26_11 tw_988 (Or.inl rfl) ?_
    refine js_iload_n dX12_letsLock_90 ?_
    refine js_iload_n dX12_letsLock_91 ?_
    refine js_iast dX12_letsLock_92 ?_
    refine js_goto (tgt := 108) dX12_letsLock_93 (by decide) ?_
    exact hK 108
def kX12_letsLock_108 (n : Nat) (K : Nat → jK) : jK := jk_kill 1 <| jk_kill 3 <| jk_aload 0 <| jk_iload 2 <| jk_int 0 <| jk_vcall [(11, fX12_goes n)] 2 <| jk_int 1 <| jk_zret
set_option maxRecDepth 100000 in
set_option maxHeartbeats 4000000 in
theorem tX12_letsLock_108 (l : Launch) (n : Nat) {K : Nat → jK} (hK : ∀ b, jr_D l cX12_letsLock 4 "MeetingKitModel" (Option.some Jvm.ClassFile.FieldType.boolean) "letsLock" 4 90 (K b) b) : jr_D l cX12_letsLock 4 "MeetingKitModel" (Option.some Jvm.ClassFile.FieldType.boolean) "letsLock" 4 90 (kX12_letsLock_108 n K) 108 := by
  unfold kX12_letsLock_108
  refine js_kill ?_
  refine js_kill ?_
  refine js_aload_n dX12_letsLock_108 ?_
  refine js_iload_n dX12_letsLock_109 ?_
  refine js_iconst dX12_letsLock_110 ?_
  refine js_callv dX12_letsLock_111 (⟨⟨_, _, _, _, _, _, _, ⟨rfl, (show (11 : Nat) < 20 by decide), sX12_goes l n, by decide, by decide, tw_1168, tw_103, tw_1167⟩, Or.inl ⟨by decide +kernel, by decide +kernel, by decide +kernel, tw_1165, tw_73⟩⟩, trivial⟩) ?_
  refine js_iconst dX12_letsLock_114 ?_
  exact js_zret dX12_letsLock_115 rfl
def kX12_letsLock_b (n : Nat) (K : Nat → jK) (b : Nat) : jK := if b = 0 then kX12_letsLock_0 n K else if b = 75 then kX12_letsLock_75 n K else if b = 77 then kX12_letsLock_77 n K else if b = 108 then kX12_letsLock_108 n K else jk_none
def kX12_letsLock (n : Nat) : jK := jk_fix (kX12_letsLock_b n) n 0
theorem tX12_letsLock (l : Launch) (n : Nat) : jr_D l cX12_letsLock 4 "MeetingKitModel" (Option.some Jvm.ClassFile.FieldType.boolean) "letsLock" 4 90 (kX12_letsLock n) 0 := js_fix (F := kX12_letsLock_b n) (fun K hK b => js_blk (tX12_letsLock_0 l n hK) (js_blk (tX12_letsLock_75 l n hK) (js_blk (tX12_letsLock_77 l n hK) (js_blk (tX12_letsLock_108 l n hK) (js_none))))) n 0
def fX12_letsLock (n : Nat) : jF := jm_run 3 4 (kX12_letsLock n)
theorem sX12_letsLock (l : Launch) (n : Nat) : jr_F l (⟨"MeetingKitModel", "letsLock", "(II)Z"⟩ : MethodName) cX12_letsLock 4 (Option.some Jvm.ClassFile.FieldType.boolean) 4 90 (fX12_letsLock n) := js_met (by decide +kernel) (by decide) (tX12_letsLock l n)
theorem dX12_firstToEnter_0 : decode cX12_firstToEnter 0 = .ok (.iconst 0, 1) := by decide +kernel
theorem dX12_firstToEnter_1 : decode cX12_firstToEnter 1 = .ok (.istore_n 2, 1) := by decide +kernel
theorem dX12_firstToEnter_2 : decode cX12_firstToEnter 2 = .ok (.iload_n 2, 1) := by decide +kernel
theorem dX12_firstToEnter_3 : decode cX12_firstToEnter 3 = .ok (.aload_n 0, 1) := by decide +kernel
theorem dX12_firstToEnter_4 : decode cX12_firstToEnter 4 = .ok (.getfield 70, 3) := by decide +kernel
theorem dX12_firstToEnter_7 : decode cX12_firstToEnter 7 = .ok (.iload_n 1, 1) := by decide +kernel
theorem dX12_firstToEnter_8 : decode cX12_firstToEnter 8 = .ok (.iaload, 1) := by decide +kernel
theorem dX12_firstToEnter_9 : decode cX12_firstToEnter 9 = .ok (.if_icmp .ge 31, 3) := by decide +kernel
theorem dX12_firstToEnter_12 : decode cX12_firstToEnter 12 = .ok (.aload_n 0, 1) := by decide +kernel
theorem dX12_firstToEnter_13 : decode cX12_firstToEnter 13 = .ok (.getfield 28, 3) := by decide +kernel
theorem dX12_firstToEnter_16 : decode cX12_firstToEnter 16 = .ok (.aload_n 0, 1) := by decide +kernel
theorem dX12_firstToEnter_17 : decode cX12_firstToEnter 17 = .ok (.iload_n 1, 1) := by decide +kernel
theorem dX12_firstToEnter_18 : decode cX12_firstToEnter 18 = .ok (.iload_n 2, 1) := by decide +kernel
theorem dX12_firstToEnter_19 : decode cX12_firstToEnter 19 = .ok (.invokevirtual 157, 3) := by decide +kernel
theorem dX12_firstToEnter_22 : decode cX12_firstToEnter 22 = .ok (.iaload, 1) := by decide +kernel
theorem dX12_firstToEnter_23 : decode cX12_firstToEnter 23 = .ok (.iconst 1, 1) := by decide +kernel
theorem dX12_firstToEnter_24 : decode cX12_firstToEnter 24 = .ok (.if_icmp .ne 10, 3) := by decide +kernel
theorem dX12_firstToEnter_27 : decode cX12_firstToEnter 27 = .ok (.aload_n 0, 1) := by decide +kernel
theorem dX12_firstToEnter_28 : decode cX12_firstToEnter 28 = .ok (.iload_n 1, 1) := by decide +kernel
theorem dX12_firstToEnter_29 : decode cX12_firstToEnter 29 = .ok (.iload_n 2, 1) := by decide +kernel
theorem dX12_firstToEnter_30 : decode cX12_firstToEnter 30 = .ok (.invokevirtual 157, 3) := by decide +kernel
theorem dX12_firstToEnter_33 : decode cX12_firstToEnter 33 = .ok (.ireturn, 1) := by decide +kernel
theorem dX12_firstToEnter_34 : decode cX12_firstToEnter 34 = .ok (.iinc 2 1, 3) := by decide +kernel
theorem dX12_firstToEnter_37 : decode cX12_firstToEnter 37 = .ok (.goto (-35), 3) := by decide +kernel
theorem dX12_firstToEnter_40 : decode cX12_firstToEnter 40 = .ok (.iconst (-1), 1) := by decide +kernel
theorem dX12_firstToEnter_41 : decode cX12_firstToEnter 41 = .ok (.ireturn, 1) := by decide +kernel
def kX12_firstToEnter_0 (n : Nat) (K : Nat → jK) : jK := jk_int 0 <| jk_istore 2 <| K 2
set_option maxRecDepth 100000 in
set_option maxHeartbeats 4000000 in
theorem tX12_firstToEnter_0 (l : Launch) (n : Nat) {K : Nat → jK} (hK : ∀ b, jr_D l cX12_firstToEnter 3 "MeetingKitModel" (Option.some Jvm.ClassFile.FieldType.int) "firstToEnter" 1 22 (K b) b) : jr_D l cX12_firstToEnter 3 "MeetingKitModel" (Option.some Jvm.ClassFile.FieldType.int) "firstToEnter" 1 22 (kX12_firstToEnter_0 n K) 0 := by
  unfold kX12_firstToEnter_0
  refine js_iconst dX12_firstToEnter_0 ?_
  refine js_istore_n dX12_firstToEnter_1 (by decide) ?_
  exact hK 2
def kX12_firstToEnter_2 (n : Nat) (K : Nat → jK) : jK := jk_iload 2 <| jk_aload 0 <| jk_get [11] 23 <| jk_iload 1 <| jk_iald <| jk_icmpge (jk_int (-1) <| jk_iret) <| jk_aload 0 <| jk_get [11] 9 <| jk_aload 0 <| jk_iload 1 <| jk_iload 2 <| jk_vcall [(11, fX12_inLine n)] 2 <| jk_iald <| jk_int 1 <| jk_icmpne (jk_iinc 2 1 <| K 2) <| jk_aload 0 <| jk_iload 1 <| jk_iload 2 <| jk_vcall [(11, fX12_inLine n)] 2 <| jk_iret
set_option maxRecDepth 100000 in
set_option maxHeartbeats 4000000 in
theorem tX12_firstToEnter_2 (l : Launch) (n : Nat) {K : Nat → jK} (hK : ∀ b, jr_D l cX12_firstToEnter 3 "MeetingKitModel" (Option.some Jvm.ClassFile.FieldType.int) "firstToEnter" 1 22 (K b) b) : jr_D l cX12_firstToEnter 3 "MeetingKitModel" (Option.some Jvm.ClassFile.FieldType.int) "firstToEnter" 1 22 (kX12_firstToEnter_2 n K) 2 := by
  unfold kX12_firstToEnter_2
  refine js_iload_n dX12_firstToEnter_2 ?_
  refine js_aload_n dX12_firstToEnter_3 ?_
  refine js_get dX12_firstToEnter_4 jf_23_11 tw_985 (Or.inl rfl) ?_
  refine js_iload_n dX12_firstToEnter_7 ?_
  refine js_iald dX12_firstToEnter_8 ?_
  refine js_icmpge (tgt := 40) dX12_firstToEnter_9 (by decide) ?_ ?_
  · refine js_iconst dX12_firstToEnter_40 ?_
    exact js_iret dX12_firstToEnter_41 rfl
  · refine js_aload_n dX12_firstToEnter_12 ?_
    refine js_get dX12_firstToEnter_13 jf_9_11 tw_971 (Or.inl rfl) ?_
    refine js_aload_n dX12_firstToEnter_16 ?_
    refine js_iload_n dX12_firstToEnter_17 ?_
    refine js_iload_n dX12_firstToEnter_18 ?_
    refine js_callv dX12_firstToEnter_19 (⟨⟨_, _, _, _, _, _, _, ⟨rfl, (show (11 : Nat) < 20 by decide), sX12_inLine l n, by decide, by decide, tw_1144, tw_103, tw_1143⟩, Or.inl ⟨by decide +kernel, by decide +kernel, by decide +kernel, tw_1141, tw_67⟩⟩, trivial⟩) ?_
    refine js_iald dX12_firstToEnter_22 ?_
    refine js_iconst dX12_firstToEnter_23 ?_
    refine js_icmpne (tgt := 34) dX12_firstToEnter_24 (by decide) ?_ ?_
    · refine js_iinc dX12_firstToEnter_34 (by decide) ?_
      refine js_goto (tgt := 2) dX12_firstToEnter_37 (by decide) ?_
      exact hK 2
    · refine js_aload_n dX12_firstToEnter_27 ?_
      refine js_iload_n dX12_firstToEnter_28 ?_
      refine js_iload_n dX12_firstToEnter_29 ?_
      refine js_callv dX12_firstToEnter_30 (⟨⟨_, _, _, _, _, _, _, ⟨rfl, (show (11 : Nat) < 20 by decide), sX12_inLine l n, by decide, by decide, tw_1144, tw_103, tw_1143⟩, Or.inl ⟨by decide +kernel, by decide +kernel, by decide +kernel, tw_1141, tw_67⟩⟩, trivial⟩) ?_
      exact js_iret dX12_firstToEnter_33 rfl
def kX12_firstToEnter_b (n : Nat) (K : Nat → jK) (b : Nat) : jK := if b = 0 then kX12_firstToEnter_0 n K else if b = 2 then kX12_firstToEnter_2 n K else jk_none
def kX12_firstToEnter (n : Nat) : jK := jk_fix (kX12_firstToEnter_b n) n 0
theorem tX12_firstToEnter (l : Launch) (n : Nat) : jr_D l cX12_firstToEnter 3 "MeetingKitModel" (Option.some Jvm.ClassFile.FieldType.int) "firstToEnter" 1 22 (kX12_firstToEnter n) 0 := js_fix (F := kX12_firstToEnter_b n) (fun K hK b => js_blk (tX12_firstToEnter_0 l n hK) (js_blk (tX12_firstToEnter_2 l n hK) (js_none))) n 0
def fX12_firstToEnter (n : Nat) : jF := jm_run 2 3 (kX12_firstToEnter n)
theorem sX12_firstToEnter (l : Launch) (n : Nat) : jr_F l (⟨"MeetingKitModel", "firstToEnter", "(I)I"⟩ : MethodName) cX12_firstToEnter 3 (Option.some Jvm.ClassFile.FieldType.int) 1 22 (fX12_firstToEnter n) := js_met (by decide +kernel) (by decide) (tX12_firstToEnter l n)
theorem dX12_letsOneGo_0 : decode cX12_letsOneGo 0 = .ok (.aload_n 0, 1) := by decide +kernel
theorem dX12_letsOneGo_1 : decode cX12_letsOneGo 1 = .ok (.getfield 70, 3) := by decide +kernel
theorem dX12_letsOneGo_4 : decode cX12_letsOneGo 4 = .ok (.iload_n 1, 1) := by decide +kernel
theorem dX12_letsOneGo_5 : decode cX12_letsOneGo 5 = .ok (.iaload, 1) := by decide +kernel
theorem dX12_letsOneGo_6 : decode cX12_letsOneGo 6 = .ok (.istore_n 2, 1) := by decide +kernel
theorem dX12_letsOneGo_7 : decode cX12_letsOneGo 7 = .ok (.iload_n 2, 1) := by decide +kernel
theorem dX12_letsOneGo_8 : decode cX12_letsOneGo 8 = .ok (.ifCond .ne 5, 3) := by decide +kernel
theorem dX12_letsOneGo_11 : decode cX12_letsOneGo 11 = .ok (.iconst 0, 1) := by decide +kernel
theorem dX12_letsOneGo_12 : decode cX12_letsOneGo 12 = .ok (.ireturn, 1) := by decide +kernel
theorem dX12_letsOneGo_13 : decode cX12_letsOneGo 13 = .ok (.aload_n 0, 1) := by decide +kernel
theorem dX12_letsOneGo_14 : decode cX12_letsOneGo 14 = .ok (.iload_n 1, 1) := by decide +kernel
theorem dX12_letsOneGo_15 : decode cX12_letsOneGo 15 = .ok (.iconst 0, 1) := by decide +kernel
theorem dX12_letsOneGo_16 : decode cX12_letsOneGo 16 = .ok (.invokevirtual 157, 3) := by decide +kernel
theorem dX12_letsOneGo_19 : decode cX12_letsOneGo 19 = .ok (.istore_n 3, 1) := by decide +kernel
theorem dX12_letsOneGo_20 : decode cX12_letsOneGo 20 = .ok (.aload_n 0, 1) := by decide +kernel
theorem dX12_letsOneGo_21 : decode cX12_letsOneGo 21 = .ok (.getfield 55, 3) := by decide +kernel
theorem dX12_letsOneGo_24 : decode cX12_letsOneGo 24 = .ok (.iload_n 1, 1) := by decide +kernel
theorem dX12_letsOneGo_25 : decode cX12_letsOneGo 25 = .ok (.iaload, 1) := by decide +kernel
theorem dX12_letsOneGo_26 : decode cX12_letsOneGo 26 = .ok (.tableswitch 315 0 11 #[62, 62, 148, 315, 315, 167, 315, 174, 227, 315, 251, 271], 62) := by decide +kernel
theorem dX12_letsOneGo_88 : decode cX12_letsOneGo 88 = .ok (.iconst 0, 1) := by decide +kernel
theorem dX12_letsOneGo_89 : decode cX12_letsOneGo 89 = .ok (.istore 4, 2) := by decide +kernel
theorem dX12_letsOneGo_91 : decode cX12_letsOneGo 91 = .ok (.iload 4, 2) := by decide +kernel
theorem dX12_letsOneGo_93 : decode cX12_letsOneGo 93 = .ok (.aload_n 0, 1) := by decide +kernel
theorem dX12_letsOneGo_94 : decode cX12_letsOneGo 94 = .ok (.getfield 55, 3) := by decide +kernel
theorem dX12_letsOneGo_97 : decode cX12_letsOneGo 97 = .ok (.iload_n 1, 1) := by decide +kernel
theorem dX12_letsOneGo_98 : decode cX12_letsOneGo 98 = .ok (.iaload, 1) := by decide +kernel
theorem dX12_letsOneGo_99 : decode cX12_letsOneGo 99 = .ok (.ifCond .ne 7, 3) := by decide +kernel
theorem dX12_letsOneGo_102 : decode cX12_letsOneGo 102 = .ok (.iload_n 2, 1) := by decide +kernel
theorem dX12_letsOneGo_103 : decode cX12_letsOneGo 103 = .ok (.goto 4, 3) := by decide +kernel
theorem dX12_letsOneGo_106 : decode cX12_letsOneGo 106 = .ok (.iconst 1, 1) := by decide +kernel
theorem dX12_letsOneGo_107 : decode cX12_letsOneGo 107 = .ok (.if_icmp .ge 65, 3) := by decide +kernel
theorem dX12_letsOneGo_110 : decode cX12_letsOneGo 110 = .ok (.aload_n 0, 1) := by decide +kernel
theorem dX12_letsOneGo_111 : decode cX12_letsOneGo 111 = .ok (.iload_n 1, 1) := by decide +kernel
theorem dX12_letsOneGo_112 : decode cX12_letsOneGo 112 = .ok (.iload 4, 2) := by decide +kernel
theorem dX12_letsOneGo_114 : decode cX12_letsOneGo 114 = .ok (.invokevirtual 157, 3) := by decide +kernel
theorem dX12_letsOneGo_117 : decode cX12_letsOneGo 117 = .ok (.istore 5, 2) := by decide +kernel
theorem dX12_letsOneGo_119 : decode cX12_letsOneGo 119 = .ok (.aload_n 0, 1) := by decide +kernel
theorem dX12_letsOneGo_120 : decode cX12_letsOneGo 120 = .ok (.getfield 73, 3) := by decide +kernel
theorem dX12_letsOneGo_123 : decode cX12_letsOneGo 123 = .ok (.iload_n 1, 1) := by decide +kernel
theorem dX12_letsOneGo_124 : decode cX12_letsOneGo 124 = .ok (.iaload, 1) := by decide +kernel
theorem dX12_letsOneGo_125 : decode cX12_letsOneGo 125 = .ok (.aload_n 0, 1) := by decide +kernel
theorem dX12_letsOneGo_126 : decode cX12_letsOneGo 126 = .ok (.iload 5, 2) := by decide +kernel
theorem dX12_letsOneGo_128 : decode cX12_letsOneGo 128 = .ok (.invokevirtual 171, 3) := by decide +kernel
theorem dX12_letsOneGo_131 : decode cX12_letsOneGo 131 = .ok (.if_icmp .ge 6, 3) := by decide +kernel
theorem dX12_letsOneGo_134 : decode cX12_letsOneGo 134 = .ok (.goto 32, 3) := by decide +kernel
theorem dX12_letsOneGo_137 : decode cX12_letsOneGo 137 = .ok (.aload_n 0, 1) := by decide +kernel
theorem dX12_letsOneGo_138 : decode cX12_letsOneGo 138 = .ok (.getfield 73, 3) := by decide +kernel
theorem dX12_letsOneGo_141 : decode cX12_letsOneGo 141 = .ok (.iload_n 1, 1) := by decide +kernel
theorem dX12_letsOneGo_142 : decode cX12_letsOneGo 142 = .ok (.dup2, 1) := by decide +kernel
theorem dX12_letsOneGo_143 : decode cX12_letsOneGo 143 = .ok (.iaload, 1) := by decide +kernel
theorem dX12_letsOneGo_144 : decode cX12_letsOneGo 144 = .ok (.aload_n 0, 1) := by decide +kernel
theorem dX12_letsOneGo_145 : decode cX12_letsOneGo 145 = .ok (.iload 5, 2) := by decide +kernel
theorem dX12_letsOneGo_147 : decode cX12_letsOneGo 147 = .ok (.invokevirtual 171, 3) := by decide +kernel
theorem dX12_letsOneGo_150 : decode cX12_letsOneGo 150 = .ok (.isub, 1) := by decide +kernel
theorem dX12_letsOneGo_151 : decode cX12_letsOneGo 151 = .ok (.iastore, 1) := by decide +kernel
theorem dX12_letsOneGo_152 : decode cX12_letsOneGo 152 = .ok (.aload_n 0, 1) := by decide +kernel
theorem dX12_letsOneGo_153 : decode cX12_letsOneGo 153 = .ok (.iload 5, 2) := by decide +kernel
theorem dX12_letsOneGo_155 : decode cX12_letsOneGo 155 = .ok (.aload_n 0, 1) := by decide +kernel
theorem dX12_letsOneGo_156 : decode cX12_letsOneGo 156 = .ok (.getfield 73, 3) := by decide +kernel
theorem dX12_letsOneGo_159 : decode cX12_letsOneGo 159 = .ok (.iload_n 1, 1) := by decide +kernel
theorem dX12_letsOneGo_160 : decode cX12_letsOneGo 160 = .ok (.iaload, 1) := by decide +kernel
theorem dX12_letsOneGo_161 : decode cX12_letsOneGo 161 = .ok (.invokevirtual 174, 3) := by decide +kernel
theorem dX12_letsOneGo_164 : decode cX12_letsOneGo 164 = .ok (.iconst 1, 1) := by decide +kernel
theorem dX12_letsOneGo_165 : decode cX12_letsOneGo 165 = .ok (.ireturn, 1) := by decide +kernel
theorem dX12_letsOneGo_166 : decode cX12_letsOneGo 166 = .ok (.iinc 4 1, 3) := by decide +kernel
theorem dX12_letsOneGo_169 : decode cX12_letsOneGo 169 = .ok (.goto (-78), 3) := by decide +kernel
theorem dX12_letsOneGo_172 : decode cX12_letsOneGo 172 = .ok (.iconst 0, 1) := by decide +kernel
theorem dX12_letsOneGo_173 : decode cX12_letsOneGo 173 = .ok (.ireturn, 1) := by decide +kernel
theorem dX12_letsOneGo_174 : decode cX12_letsOneGo 174 = .ok (.aload_n 0, 1) := by decide +kernel
theorem dX12_letsOneGo_175 : decode cX12_letsOneGo 175 = .ok (.getfield 73, 3) := by decide +kernel
theorem dX12_letsOneGo_178 : decode cX12_letsOneGo 178 = .ok (.iload_n 1, 1) := by decide +kernel
theorem dX12_letsOneGo_179 : decode cX12_letsOneGo 179 = .ok (.iaload, 1) := by decide +kernel
theorem dX12_letsOneGo_180 : decode cX12_letsOneGo 180 = .ok (.ifCond .le 5, 3) := by decide +kernel
theorem dX12_letsOneGo_183 : decode cX12_letsOneGo 183 = .ok (.iconst 0, 1) := by decide +kernel
theorem dX12_letsOneGo_184 : decode cX12_letsOneGo 184 = .ok (.ireturn, 1) := by decide +kernel
theorem dX12_letsOneGo_185 : decode cX12_letsOneGo 185 = .ok (.aload_n 0, 1) := by decide +kernel
theorem dX12_letsOneGo_186 : decode cX12_letsOneGo 186 = .ok (.iload_n 3, 1) := by decide +kernel
theorem dX12_letsOneGo_187 : decode cX12_letsOneGo 187 = .ok (.iconst 0, 1) := by decide +kernel
theorem dX12_letsOneGo_188 : decode cX12_letsOneGo 188 = .ok (.invokevirtual 174, 3) := by decide +kernel
theorem dX12_letsOneGo_191 : decode cX12_letsOneGo 191 = .ok (.iconst 1, 1) := by decide +kernel
theorem dX12_letsOneGo_192 : decode cX12_letsOneGo 192 = .ok (.ireturn, 1) := by decide +kernel
theorem dX12_letsOneGo_193 : decode cX12_letsOneGo 193 = .ok (.aload_n 0, 1) := by decide +kernel
theorem dX12_letsOneGo_194 : decode cX12_letsOneGo 194 = .ok (.iload_n 1, 1) := by decide +kernel
theorem dX12_letsOneGo_195 : decode cX12_letsOneGo 195 = .ok (.iload_n 3, 1) := by decide +kernel
theorem dX12_letsOneGo_196 : decode cX12_letsOneGo 196 = .ok (.invokevirtual 177, 3) := by decide +kernel
theorem dX12_letsOneGo_199 : decode cX12_letsOneGo 199 = .ok (.ireturn, 1) := by decide +kernel
theorem dX12_letsOneGo_200 : decode cX12_letsOneGo 200 = .ok (.iconst 0, 1) := by decide +kernel
theorem dX12_letsOneGo_201 : decode cX12_letsOneGo 201 = .ok (.istore 4, 2) := by decide +kernel
theorem dX12_letsOneGo_203 : decode cX12_letsOneGo 203 = .ok (.iload 4, 2) := by decide +kernel
theorem dX12_letsOneGo_205 : decode cX12_letsOneGo 205 = .ok (.iload_n 2, 1) := by decide +kernel
theorem dX12_letsOneGo_206 : decode cX12_letsOneGo 206 = .ok (.if_icmp .ge 45, 3) := by decide +kernel
theorem dX12_letsOneGo_209 : decode cX12_letsOneGo 209 = .ok (.aload_n 0, 1) := by decide +kernel
theorem dX12_letsOneGo_210 : decode cX12_letsOneGo 210 = .ok (.iload_n 1, 1) := by decide +kernel
theorem dX12_letsOneGo_211 : decode cX12_letsOneGo 211 = .ok (.iload 4, 2) := by decide +kernel
theorem dX12_letsOneGo_213 : decode cX12_letsOneGo 213 = .ok (.invokevirtual 157, 3) := by decide +kernel
theorem dX12_letsOneGo_216 : decode cX12_letsOneGo 216 = .ok (.istore 5, 2) := by decide +kernel
theorem dX12_letsOneGo_218 : decode cX12_letsOneGo 218 = .ok (.aload_n 0, 1) := by decide +kernel
theorem dX12_letsOneGo_219 : decode cX12_letsOneGo 219 = .ok (.iload 5, 2) := by decide +kernel
theorem dX12_letsOneGo_221 : decode cX12_letsOneGo 221 = .ok (.invokevirtual 171, 3) := by decide +kernel
theorem dX12_letsOneGo_224 : decode cX12_letsOneGo 224 = .ok (.aload_n 0, 1) := by decide +kernel
theorem dX12_letsOneGo_225 : decode cX12_letsOneGo 225 = .ok (.getfield 82, 3) := by decide +kernel
theorem dX12_letsOneGo_228 : decode cX12_letsOneGo 228 = .ok (.iload_n 1, 1) := by decide +kernel
theorem dX12_letsOneGo_229 : decode cX12_letsOneGo 229 = .ok (.iaload, 1) := by decide +kernel
theorem dX12_letsOneGo_230 : decode cX12_letsOneGo 230 = .ok (.if_icmp .lt 6, 3) := by decide +kernel
theorem dX12_letsOneGo_233 : decode cX12_letsOneGo 233 = .ok (.goto 12, 3) := by decide +kernel
theorem dX12_letsOneGo_236 : decode cX12_letsOneGo 236 = .ok (.aload_n 0, 1) := by decide +kernel
theorem dX12_letsOneGo_237 : decode cX12_letsOneGo 237 = .ok (.iload 5, 2) := by decide +kernel
theorem dX12_letsOneGo_239 : decode cX12_letsOneGo 239 = .ok (.iconst 0, 1) := by decide +kernel
theorem dX12_letsOneGo_240 : decode cX12_letsOneGo 240 = .ok (.invokevirtual 174, 3) := by decide +kernel
theorem dX12_letsOneGo_243 : decode cX12_letsOneGo 243 = .ok (.iconst 1, 1) := by decide +kernel
theorem dX12_letsOneGo_244 : decode cX12_letsOneGo 244 = .ok (.ireturn, 1) := by decide +kernel
theorem dX12_letsOneGo_245 : decode cX12_letsOneGo 245 = .ok (.iinc 4 1, 3) := by decide +kernel
theorem dX12_letsOneGo_248 : decode cX12_letsOneGo 248 = .ok (.goto (-45), 3) := by decide +kernel
theorem dX12_letsOneGo_251 : decode cX12_letsOneGo 251 = .ok (.iconst 0, 1) := by decide +kernel
theorem dX12_letsOneGo_252 : decode cX12_letsOneGo 252 = .ok (.ireturn, 1) := by decide +kernel
theorem dX12_letsOneGo_253 : decode cX12_letsOneGo 253 = .ok (.aload_n 0, 1) := by decide +kernel
theorem dX12_letsOneGo_254 : decode cX12_letsOneGo 254 = .ok (.getfield 76, 3) := by decide +kernel
theorem dX12_letsOneGo_257 : decode cX12_letsOneGo 257 = .ok (.iload_n 1, 1) := by decide +kernel
theorem dX12_letsOneGo_258 : decode cX12_letsOneGo 258 = .ok (.iaload, 1) := by decide +kernel
theorem dX12_letsOneGo_259 : decode cX12_letsOneGo 259 = .ok (.ifCond .ne 5, 3) := by decide +kernel
theorem dX12_letsOneGo_262 : decode cX12_letsOneGo 262 = .ok (.iconst 0, 1) := by decide +kernel
theorem dX12_letsOneGo_263 : decode cX12_letsOneGo 263 = .ok (.ireturn, 1) := by decide +kernel
theorem dX12_letsOneGo_264 : decode cX12_letsOneGo 264 = .ok (.aload_n 0, 1) := by decide +kernel
theorem dX12_letsOneGo_265 : decode cX12_letsOneGo 265 = .ok (.iload_n 3, 1) := by decide +kernel
theorem dX12_letsOneGo_266 : decode cX12_letsOneGo 266 = .ok (.aload_n 0, 1) := by decide +kernel
theorem dX12_letsOneGo_267 : decode cX12_letsOneGo 267 = .ok (.getfield 82, 3) := by decide +kernel
theorem dX12_letsOneGo_270 : decode cX12_letsOneGo 270 = .ok (.iload_n 1, 1) := by decide +kernel
theorem dX12_letsOneGo_271 : decode cX12_letsOneGo 271 = .ok (.iaload, 1) := by decide +kernel
theorem dX12_letsOneGo_272 : decode cX12_letsOneGo 272 = .ok (.invokevirtual 174, 3) := by decide +kernel
theorem dX12_letsOneGo_275 : decode cX12_letsOneGo 275 = .ok (.iconst 1, 1) := by decide +kernel
theorem dX12_letsOneGo_276 : decode cX12_letsOneGo 276 = .ok (.ireturn, 1) := by decide +kernel
theorem dX12_letsOneGo_277 : decode cX12_letsOneGo 277 = .ok (.aload_n 0, 1) := by decide +kernel
theorem dX12_letsOneGo_278 : decode cX12_letsOneGo 278 = .ok (.getfield 76, 3) := by decide +kernel
theorem dX12_letsOneGo_281 : decode cX12_letsOneGo 281 = .ok (.iload_n 1, 1) := by decide +kernel
theorem dX12_letsOneGo_282 : decode cX12_letsOneGo 282 = .ok (.iaload, 1) := by decide +kernel
theorem dX12_letsOneGo_283 : decode cX12_letsOneGo 283 = .ok (.iconst 1, 1) := by decide +kernel
theorem dX12_letsOneGo_284 : decode cX12_letsOneGo 284 = .ok (.if_icmp .ne 5, 3) := by decide +kernel
theorem dX12_letsOneGo_287 : decode cX12_letsOneGo 287 = .ok (.iconst 0, 1) := by decide +kernel
theorem dX12_letsOneGo_288 : decode cX12_letsOneGo 288 = .ok (.ireturn, 1) := by decide +kernel
theorem dX12_letsOneGo_289 : decode cX12_letsOneGo 289 = .ok (.aload_n 0, 1) := by decide +kernel
theorem dX12_letsOneGo_290 : decode cX12_letsOneGo 290 = .ok (.iload_n 3, 1) := by decide +kernel
theorem dX12_letsOneGo_291 : decode cX12_letsOneGo 291 = .ok (.iconst 0, 1) := by decide +kernel
theorem dX12_letsOneGo_292 : decode cX12_letsOneGo 292 = .ok (.invokevirtual 174, 3) := by decide +kernel
theorem dX12_letsOneGo_295 : decode cX12_letsOneGo 295 = .ok (.iconst 1, 1) := by decide +kernel
theorem dX12_letsOneGo_296 : decode cX12_letsOneGo 296 = .ok (.ireturn, 1) := by decide +kernel
theorem dX12_letsOneGo_297 : decode cX12_letsOneGo 297 = .ok (.aload_n 0, 1) := by decide +kernel
theorem dX12_letsOneGo_298 : decode cX12_letsOneGo 298 = .ok (.getfield 79, 3) := by decide +kernel
theorem dX12_letsOneGo_301 : decode cX12_letsOneGo 301 = .ok (.iload_n 1, 1) := by decide +kernel
theorem dX12_letsOneGo_302 : decode cX12_letsOneGo 302 = .ok (.iaload, 1) := by decide +kernel
theorem dX12_letsOneGo_303 : decode cX12_letsOneGo 303 = .ok (.ifCond .ge 11, 3) := by decide +kernel
theorem dX12_letsOneGo_306 : decode cX12_letsOneGo 306 = .ok (.aload_n 0, 1) := by decide +kernel
theorem dX12_letsOneGo_307 : decode cX12_letsOneGo 307 = .ok (.iload_n 1, 1) := by decide +kernel
theorem dX12_letsOneGo_308 : decode cX12_letsOneGo 308 = .ok (.invokevirtual 180, 3) := by decide +kernel
theorem dX12_letsOneGo_311 : decode cX12_letsOneGo 311 = .ok (.goto 4, 3) := by decide +kernel
theorem dX12_letsOneGo_314 : decode cX12_letsOneGo 314 = .ok (.iconst (-1), 1) := by decide +kernel
theorem dX12_letsOneGo_315 : decode cX12_letsOneGo 315 = .ok (.istore 4, 2) := by decide +kernel
theorem dX12_letsOneGo_317 : decode cX12_letsOneGo 317 = .ok (.iload 4, 2) := by decide +kernel
theorem dX12_letsOneGo_319 : decode cX12_letsOneGo 319 = .ok (.ifCond .ge 5, 3) := by decide +kernel
theorem dX12_letsOneGo_322 : decode cX12_letsOneGo 322 = .ok (.iconst 0, 1) := by decide +kernel
theorem dX12_letsOneGo_323 : decode cX12_letsOneGo 323 = .ok (.ireturn, 1) := by decide +kernel
theorem dX12_letsOneGo_324 : decode cX12_letsOneGo 324 = .ok (.aload_n 0, 1) := by decide +kernel
theorem dX12_letsOneGo_325 : decode cX12_letsOneGo 325 = .ok (.getfield 79, 3) := by decide +kernel
theorem dX12_letsOneGo_328 : decode cX12_letsOneGo 328 = .ok (.iload_n 1, 1) := by decide +kernel
theorem dX12_letsOneGo_329 : decode cX12_letsOneGo 329 = .ok (.iload 4, 2) := by decide +kernel
theorem dX12_letsOneGo_331 : decode cX12_letsOneGo 331 = .ok (.iastore, 1) := by decide +kernel
theorem dX12_letsOneGo_332 : decode cX12_letsOneGo 332 = .ok (.aload_n 0, 1) := by decide +kernel
theorem dX12_letsOneGo_333 : decode cX12_letsOneGo 333 = .ok (.iload 4, 2) := by decide +kernel
theorem dX12_letsOneGo_335 : decode cX12_letsOneGo 335 = .ok (.iconst 0, 1) := by decide +kernel
theorem dX12_letsOneGo_336 : decode cX12_letsOneGo 336 = .ok (.invokevirtual 174, 3) := by decide +kernel
theorem dX12_letsOneGo_339 : decode cX12_letsOneGo 339 = .ok (.iconst 1, 1) := by decide +kernel
theorem dX12_letsOneGo_340 : decode cX12_letsOneGo 340 = .ok (.ireturn, 1) := by decide +kernel
theorem dX12_letsOneGo_341 : decode cX12_letsOneGo 341 = .ok (.iconst 0, 1) := by decide +kernel
theorem dX12_letsOneGo_342 : decode cX12_letsOneGo 342 = .ok (.ireturn, 1) := by decide +kernel
def kX12_letsOneGo_0 (n : Nat) (K : Nat → jK) : jK := jk_aload 0 <| jk_get [11] 23 <| jk_iload 1 <| jk_iald <| jk_istore 2 <| jk_iload 2 <| jk_ifne (jk_aload 0 <| jk_iload 1 <| jk_int 0 <| jk_vcall [(11, fX12_inLine n)] 2 <| jk_istore 3 <| jk_aload 0 <| jk_get [11] 18 <| jk_iload 1 <| jk_iald <| jk_sw [(0, (K 88)), (1, (K 88)), (2, (jk_aload 0 <| jk_get [11] 24 <| jk_iload 1 <| jk_iald <| jk_ifle (jk_aload 0 <| jk_iload 3 <| jk_int 0 <| jk_vcall [(11, fX12_goes n)] 2 <| jk_int 1 <| jk_zret) <| jk_int 0 <| jk_zret)), (3, (K 341)), (4, (K 341)), (5, (jk_aload 0 <| jk_iload 1 <| jk_iload 3 <| jk_vcall [(11, fX12_letsLock n)] 2 <| jk_zret)), (6, (K 341)), (7, (jk_int 0 <| jk_istore 4 <| K 203)), (8, (jk_aload 0 <| jk_get [11] 25 <| jk_iload 1 <| jk_iald <| jk_ifne (jk_aload 0 <| jk_iload 3 <| jk_aload 0 <| jk_get [11] 27 <| jk_iload 1 <| jk_iald <| jk_vcall [(11, fX12_goes n)] 2 <| jk_int 1 <| jk_zret) <| jk_int 0 <| jk_zret)), (9, (K 341)), (10, (jk_aload 0 <| jk_get [11] 25 <| jk_iload 1 <| jk_iald <| jk_int 1 <| jk_icmpne (jk_aload 0 <| jk_iload 3 <| jk_int 0 <| jk_vcall [(11, fX12_goes n)] 2 <| jk_int 1 <| jk_zret) <| jk_int 0 <| jk_zret)), (11, (jk_aload 0 <| jk_get [11] 26 <| jk_iload 1 <| jk_iald <| jk_ifge (jk_int (-1) <| K 315) <| jk_aload 0 <| jk_iload 1 <| jk_vcall [(11, fX12_firstToEnter n)] 1 <| K 315))] (K 341)) <| jk_int 0 <| jk_zret
set_option maxRecDepth 100000 in
set_option maxHeartbeats 4000000 in
theorem tX12_letsOneGo_0 (l : Launch) (n : Nat) {K : Nat → jK} (hK : ∀ b, jr_D l cX12_letsOneGo 6 "MeetingKitModel" (Option.some Jvm.ClassFile.FieldType.boolean) "letsOneGo" 5 113 (K b) b) : jr_D l cX12_letsOneGo 6 "MeetingKitModel" (Option.some Jvm.ClassFile.FieldType.boolean) "letsOneGo" 5 113 (kX12_letsOneGo_0 n K) 0 := by
  unfold kX12_letsOneGo_0
  refine js_aload_n dX12_letsOneGo_0 ?_
  refine js_get dX12_letsOneGo_1 jf_23_11 tw_985 (Or.inl rfl) ?_
  refine js_iload_n dX12_letsOneGo_4 ?_
  refine js_iald dX12_letsOneGo_5 ?_
  refine js_istore_n dX12_letsOneGo_6 (by decide) ?_
  refine js_iload_n dX12_letsOneGo_7 ?_
  refine js_ifne (tgt := 13) dX12_letsOneGo_8 (by decide) ?_ ?_
  · refine js_aload_n dX12_letsOneGo_13 ?_
    refine js_iload_n dX12_letsOneGo_14 ?_
    refine js_iconst dX12_letsOneGo_15 ?_
    refine js_callv dX12_letsOneGo_16 (⟨⟨_, _, _, _, _, _, _, ⟨rfl, (show (11 : Nat) < 20 by decide), sX12_inLine l n, by decide, by decide, tw_1144, tw_103, tw_1143⟩, Or.inl ⟨by decide +kernel, by decide +kernel, by decide +kernel, tw_1141, tw_67⟩⟩, trivial⟩) ?_
    refine js_istore_n dX12_letsOneGo_19 (by decide) ?_
    refine js_aload_n dX12_letsOneGo_20 ?_
    refine js_get dX12_letsOneGo_21 jf_18_11 tw_980 (Or.inl rfl) ?_
    refine js_iload_n dX12_letsOneGo_24 ?_
    refine js_iald dX12_letsOneGo_25 ?_
    refine js_tsw (td := 341) dX12_letsOneGo_26 rfl (by decide) ?_ ?_
    · exact hK 341
    · refine ⟨rfl, ⟨88, by decide, ?_⟩, rfl, ⟨88, by decide, ?_⟩, rfl, ⟨174, by decide, ?_⟩, rfl, ⟨341, by decide, ?_⟩, rfl, ⟨341, by decide, ?_⟩, rfl, ⟨193, by decide, ?_⟩, rfl, ⟨341, by decide, ?_⟩, rfl, ⟨200, by decide, ?_⟩, rfl, ⟨253, by decide, ?_⟩, rfl, ⟨341, by decide, ?_⟩, rfl, ⟨277, by decide, ?_⟩, rfl, ⟨297, by decide, ?_⟩, trivial⟩
      · exact hK 88
      · exact hK 88
      · refine js_aload_n dX12_letsOneGo_174 ?_
        refine js_get dX12_letsOneGo_175 jf_24_11 tw_986 (Or.inl rfl) ?_
        refine js_iload_n dX12_letsOneGo_178 ?_
        refine js_iald dX12_letsOneGo_179 ?_
        refine js_ifle (tgt := 185) dX12_letsOneGo_180 (by decide) ?_ ?_
        · refine js_aload_n dX12_letsOneGo_185 ?_
          refine js_iload_n dX12_letsOneGo_186 ?_
          refine js_iconst dX12_letsOneGo_187 ?_
          refine js_callv dX12_letsOneGo_188 (⟨⟨_, _, _, _, _, _, _, ⟨rfl, (show (11 : Nat) < 20 by decide), sX12_goes l n, by decide, by decide, tw_1168, tw_103, tw_1167⟩, Or.inl ⟨by decide +kernel, by decide +kernel, by decide +kernel, tw_1165, tw_73⟩⟩, trivial⟩) ?_
          refine js_iconst dX12_letsOneGo_191 ?_
          exact js_zret dX12_letsOneGo_192 rfl
        · refine js_iconst dX12_letsOneGo_183 ?_
          exact js_zret dX12_letsOneGo_184 rfl
      · exact hK 341
      · exact hK 341
      · refine js_aload_n dX12_letsOneGo_193 ?_
        refine js_iload_n dX12_letsOneGo_194 ?_
        refine js_iload_n dX12_letsOneGo_195 ?_
        refine js_callv dX12_letsOneGo_196 (⟨⟨_, _, _, _, _, _, _, ⟨rfl, (show (11 : Nat) < 20 by decide), sX12_letsLock l n, by decide, by decide, tw_1176, tw_103, tw_1175⟩, Or.inl ⟨by decide +kernel, by decide +kernel, by decide +kernel, tw_1173, tw_75⟩⟩, trivial⟩) ?_
        exact js_zret dX12_letsOneGo_199 rfl
      · exact hK 341
      · refine js_iconst dX12_letsOneGo_200 ?_
        refine js_istore dX12_letsOneGo_201 (by decide) ?_
        exact hK 203
      · refine js_aload_n dX12_letsOneGo_253 ?_
        refine js_get dX12_letsOneGo_254 jf_25_11 tw_987 (Or.inl rfl) ?_
        refine js_iload_n dX12_letsOneGo_257 ?_
        refine js_iald dX12_letsOneGo_258 ?_
        refine js_ifne (tgt := 264) dX12_letsOneGo_259 (by decide) ?_ ?_
        · refine js_aload_n dX12_letsOneGo_264 ?_
          refine js_iload_n dX12_letsOneGo_265 ?_
          refine js_aload_n dX12_letsOneGo_266 ?_
          refine js_get dX12_letsOneGo_267 jf_27_11 tw_989 (Or.inl rfl) ?_
          refine js_iload_n dX12_letsOneGo_270 ?_
          refine js_iald dX12_letsOneGo_271 ?_
          refine js_callv dX12_letsOneGo_272 (⟨⟨_, _, _, _, _, _, _, ⟨rfl, (show (11 : Nat) < 20 by decide), sX12_goes l n, by decide, by decide, tw_1168, tw_103, tw_1167⟩, Or.inl ⟨by decide +kernel, by decide +kernel, by decide +kernel, tw_1165, tw_73⟩⟩, trivial⟩) ?_
          refine js_iconst dX12_letsOneGo_275 ?_
          exact js_zret dX12_letsOneGo_276 rfl
        · refine js_iconst dX12_letsOneGo_262 ?_
          exact js_zret dX12_letsOneGo_263 rfl
      · exact hK 341
      · refine js_aload_n dX12_letsOneGo_277 ?_
        refine js_get dX12_letsOneGo_278 jf_25_11 tw_987 (Or.inl rfl) ?_
        refine js_iload_n dX12_letsOneGo_281 ?_
        refine js_iald dX12_letsOneGo_282 ?_
        refine js_iconst dX12_letsOneGo_283 ?_
        refine js_icmpne (tgt := 289) dX12_letsOneGo_284 (by decide) ?_ ?_
        · refine js_aload_n dX12_letsOneGo_289 ?_
          refine js_iload_n dX12_letsOneGo_290 ?_
          refine js_iconst dX12_letsOneGo_291 ?_
          refine js_callv dX12_letsOneGo_292 (⟨⟨_, _, _, _, _, _, _, ⟨rfl, (show (11 : Nat) < 20 by decide), sX12_goes l n, by decide, by decide, tw_1168, tw_103, tw_1167⟩, Or.inl ⟨by decide +kernel, by decide +kernel, by decide +kernel, tw_1165, tw_73⟩⟩, trivial⟩) ?_
          refine js_iconst dX12_letsOneGo_295 ?_
          exact js_zret dX12_letsOneGo_296 rfl
        · refine js_iconst dX12_letsOneGo_287 ?_
          exact js_zret dX12_letsOneGo_288 rfl
      · refine js_aload_n dX12_letsOneGo_297 ?_
        refine js_get dX12_letsOneGo_298 jf_26_11 tw_988 (Or.inl rfl) ?_
        refine js_iload_n dX12_letsOneGo_301 ?_
        refine js_iald dX12_letsOneGo_302 ?_
        refine js_ifge (tgt := 314) dX12_letsOneGo_303 (by decide) ?_ ?_
        · refine js_iconst dX12_letsOneGo_314 ?_
          exact hK 315
        · refine js_aload_n dX12_letsOneGo_306 ?_
          refine js_iload_n dX12_letsOneGo_307 ?_
          refine js_callv dX12_letsOneGo_308 (⟨⟨_, _, _, _, _, _, _, ⟨rfl, (show (11 : Nat) < 20 by decide), sX12_firstToEnter l n, by decide, by decide, tw_1188, tw_103, tw_1187⟩, Or.inl ⟨by decide +kernel, by decide +kernel, by decide +kernel, tw_1185, tw_78⟩⟩, trivial⟩) ?_
          refine js_goto (tgt := 315) dX12_letsOneGo_311 (by decide) ?_
          exact hK 315
  · refine js_iconst dX12_letsOneGo_11 ?_
    exact js_zret dX12_letsOneGo_12 rfl
def kX12_letsOneGo_88 (n : Nat) (K : Nat → jK) : jK := jk_kill 3 <| jk_int 0 <| jk_istore 4 <| K 91
set_option maxRecDepth 100000 in
set_option maxHeartbeats 4000000 in
theorem tX12_letsOneGo_88 (l : Launch) (n : Nat) {K : Nat → jK} (hK : ∀ b, jr_D l cX12_letsOneGo 6 "MeetingKitModel" (Option.some Jvm.ClassFile.FieldType.boolean) "letsOneGo" 5 113 (K b) b) : jr_D l cX12_letsOneGo 6 "MeetingKitModel" (Option.some Jvm.ClassFile.FieldType.boolean) "letsOneGo" 5 113 (kX12_letsOneGo_88 n K) 88 := by
  unfold kX12_letsOneGo_88
  refine js_kill ?_
  refine js_iconst dX12_letsOneGo_88 ?_
  refine js_istore dX12_letsOneGo_89 (by decide) ?_
  exact hK 91
def kX12_letsOneGo_91 (n : Nat) (K : Nat → jK) : jK := jk_kill 3 <| jk_kill 5 <| jk_iload 4 <| jk_aload 0 <| jk_get [11] 18 <| jk_iload 1 <| jk_iald <| jk_ifne (jk_int 1 <| K 107) <| jk_iload 2 <| K 107
set_option maxRecDepth 100000 in
set_option maxHeartbeats 4000000 in
theorem tX12_letsOneGo_91 (l : Launch) (n : Nat) {K : Nat → jK} (hK : ∀ b, jr_D l cX12_letsOneGo 6 "MeetingKitModel" (Option.some Jvm.ClassFile.FieldType.boolean) "letsOneGo" 5 113 (K b) b) : jr_D l cX12_letsOneGo 6 "MeetingKitModel" (Option.some Jvm.ClassFile.FieldType.boolean) "letsOneGo" 5 113 (kX12_letsOneGo_91 n K) 91 := by
  unfold kX12_letsOneGo_91
  refine js_kill ?_
  refine js_kill ?_
  refine js_iload dX12_letsOneGo_91 ?_
  refine js_aload_n dX12_letsOneGo_93 ?_
  refine js_get dX12_letsOneGo_94 jf_18_11 tw_980 (Or.inl rfl) ?_
  refine js_iload_n dX12_letsOneGo_97 ?_
  refine js_iald dX12_letsOneGo_98 ?_
  refine js_ifne (tgt := 106) dX12_letsOneGo_99 (by decide) ?_ ?_
  · refine js_iconst dX12_letsOneGo_106 ?_
    exact hK 107
  · refine js_iload_n dX12_letsOneGo_102 ?_
    refine js_goto (tgt := 107) dX12_letsOneGo_103 (by decide) ?_
    exact hK 107
def kX12_letsOneGo_107 (n : Nat) (K : Nat → jK) : jK := jk_kill 3 <| jk_kill 5 <| jk_icmpge (jk_int 0 <| jk_zret) <| jk_aload 0 <| jk_iload 1 <| jk_iload 4 <| jk_vcall [(11, fX12_inLine n)] 2 <| jk_istore 5 <| jk_aload 0 <| jk_get [11] 24 <| jk_iload 1 <| jk_iald <| jk_aload 0 <| jk_iload 5 <| jk_vcall [(11, fX12_numberOf n)] 1 <| jk_icmpge (jk_aload 0 <| jk_get [11] 24 <| jk_iload 1 <| jk_dup2 <| jk_iald <| jk_aload 0 <| jk_iload 5 <| jk_vcall [(11, fX12_numberOf n)] 1 <| jk_isub <| jk_iast <| jk_aload 0 <| jk_iload 5 <| jk_aload 0 <| jk_get [11] 24 <| jk_iload 1 <| jk_iald <| jk_vcall [(11, fX12_goes n)] 2 <| jk_int 1 <| jk_zret) <| jk_iinc 4 1 <| K 91
set_option maxRecDepth 100000 in
set_option maxHeartbeats 4000000 in
theorem tX12_letsOneGo_107 (l : Launch) (n : Nat) {K : Nat → jK} (hK : ∀ b, jr_D l cX12_letsOneGo 6 "MeetingKitModel" (Option.some Jvm.ClassFile.FieldType.boolean) "letsOneGo" 5 113 (K b) b) : jr_D l cX12_letsOneGo 6 "MeetingKitModel" (Option.some Jvm.ClassFile.FieldType.boolean) "letsOneGo" 5 113 (kX12_letsOneGo_107 n K) 107 := by
  unfold kX12_letsOneGo_107
  refine js_kill ?_
  refine js_kill ?_
  refine js_icmpge (tgt := 172) dX12_letsOneGo_107 (by decide) ?_ ?_
  · refine js_iconst dX12_letsOneGo_172 ?_
    exact js_zret dX12_letsOneGo_173 rfl
  · refine js_aload_n dX12_letsOneGo_110 ?_
    refine js_iload_n dX12_letsOneGo_111 ?_
    refine js_iload dX12_letsOneGo_112 ?_
    refine js_callv dX12_letsOneGo_114 (⟨⟨_, _, _, _, _, _, _, ⟨rfl, (show (11 : Nat) < 20 by decide), sX12_inLine l n, by decide, by decide, tw_1144, tw_103, tw_1143⟩, Or.inl ⟨by decide +kernel, by decide +kernel, by decide +kernel, tw_1141, tw_67⟩⟩, trivial⟩) ?_
    refine js_istore dX12_letsOneGo_117 (by decide) ?_
    refine js_aload_n dX12_letsOneGo_119 ?_
    refine js_get dX12_letsOneGo_120 jf_24_11 tw_986 (Or.inl rfl) ?_
    refine js_iload_n dX12_letsOneGo_123 ?_
    refine js_iald dX12_letsOneGo_124 ?_
    refine js_aload_n dX12_letsOneGo_125 ?_
    refine js_iload dX12_letsOneGo_126 ?_
    refine js_callv dX12_letsOneGo_128 (⟨⟨_, _, _, _, _, _, _, ⟨rfl, (show (11 : Nat) < 20 by decide), sX12_numberOf l n, by decide, by decide, tw_1164, tw_103, tw_1163⟩, Or.inl ⟨by decide +kernel, by decide +kernel, by decide +kernel, tw_1161, tw_72⟩⟩, trivial⟩) ?_
    refine js_icmpge (tgt := 137) dX12_letsOneGo_131 (by decide) ?_ ?_
    · refine js_aload_n dX12_letsOneGo_137 ?_
      refine js_get dX12_letsOneGo_138 jf_24_11 tw_986 (Or.inl rfl) ?_
      refine js_iload_n dX12_letsOneGo_141 ?_
      refine js_dup2 dX12_letsOneGo_142 ?_
      refine js_iald dX12_letsOneGo_143 ?_
      refine js_aload_n dX12_letsOneGo_144 ?_
      refine js_iload dX12_letsOneGo_145 ?_
      refine js_callv dX12_letsOneGo_147 (⟨⟨_, _, _, _, _, _, _, ⟨rfl, (show (11 : Nat) < 20 by decide), sX12_numberOf l n, by decide, by decide, tw_1164, tw_103, tw_1163⟩, Or.inl ⟨by decide +kernel, by decide +kernel, by decide +kernel, tw_1161, tw_72⟩⟩, trivial⟩) ?_
      refine js_isub dX12_letsOneGo_150 ?_
      refine js_iast dX12_letsOneGo_151 ?_
      refine js_aload_n dX12_letsOneGo_152 ?_
      refine js_iload dX12_letsOneGo_153 ?_
      refine js_aload_n dX12_letsOneGo_155 ?_
      refine js_get dX12_letsOneGo_156 jf_24_11 tw_986 (Or.inl rfl) ?_
      refine js_iload_n dX12_letsOneGo_159 ?_
      refine js_iald dX12_letsOneGo_160 ?_
      refine js_callv dX12_letsOneGo_161 (⟨⟨_, _, _, _, _, _, _, ⟨rfl, (show (11 : Nat) < 20 by decide), sX12_goes l n, by decide, by decide, tw_1168, tw_103, tw_1167⟩, Or.inl ⟨by decide +kernel, by decide +kernel, by decide +kernel, tw_1165, tw_73⟩⟩, trivial⟩) ?_
      refine js_iconst dX12_letsOneGo_164 ?_
      exact js_zret dX12_letsOneGo_165 rfl
    · refine js_goto (tgt := 166) dX12_letsOneGo_134 (by decide) ?_
      refine js_iinc dX12_letsOneGo_166 (by decide) ?_
      refine js_goto (tgt := 91) dX12_letsOneGo_169 (by decide) ?_
      exact hK 91
def kX12_letsOneGo_203 (n : Nat) (K : Nat → jK) : jK := jk_kill 3 <| jk_kill 5 <| jk_iload 4 <| jk_iload 2 <| jk_icmpge (jk_int 0 <| jk_zret) <| jk_aload 0 <| jk_iload 1 <| jk_iload 4 <| jk_vcall [(11, fX12_inLine n)] 2 <| jk_istore 5 <| jk_aload 0 <| jk_iload 5 <| jk_vcall [(11, fX12_numberOf n)] 1 <| jk_aload 0 <| jk_get [11] 27 <| jk_iload 1 <| jk_iald <| jk_icmplt (jk_aload 0 <| jk_iload 5 <| jk_int 0 <| jk_vcall [(11, fX12_goes n)] 2 <| jk_int 1 <| jk_zret) <| jk_iinc 4 1 <| K 203
set_option maxRecDepth 100000 in
set_option maxHeartbeats 4000000 in
theorem tX12_letsOneGo_203 (l : Launch) (n : Nat) {K : Nat → jK} (hK : ∀ b, jr_D l cX12_letsOneGo 6 "MeetingKitModel" (Option.some Jvm.ClassFile.FieldType.boolean) "letsOneGo" 5 113 (K b) b) : jr_D l cX12_letsOneGo 6 "MeetingKitModel" (Option.some Jvm.ClassFile.FieldType.boolean) "letsOneGo" 5 113 (kX12_letsOneGo_203 n K) 203 := by
  unfold kX12_letsOneGo_203
  refine js_kill ?_
  refine js_kill ?_
  refine js_iload dX12_letsOneGo_203 ?_
  refine js_iload_n dX12_letsOneGo_205 ?_
  refine js_icmpge (tgt := 251) dX12_letsOneGo_206 (by decide) ?_ ?_
  · refine js_iconst dX12_letsOneGo_251 ?_
    exact js_zret dX12_letsOneGo_252 rfl
  · refine js_aload_n dX12_letsOneGo_209 ?_
    refine js_iload_n dX12_letsOneGo_210 ?_
    refine js_iload dX12_letsOneGo_211 ?_
    refine js_callv dX12_letsOneGo_213 (⟨⟨_, _, _, _, _, _, _, ⟨rfl, (show (11 : Nat) < 20 by decide), sX12_inLine l n, by decide, by decide, tw_1144, tw_103, tw_1143⟩, Or.inl ⟨by decide +kernel, by decide +kernel, by decide +kernel, tw_1141, tw_67⟩⟩, trivial⟩) ?_
    refine js_istore dX12_letsOneGo_216 (by decide) ?_
    refine js_aload_n dX12_letsOneGo_218 ?_
    refine js_iload dX12_letsOneGo_219 ?_
    refine js_callv dX12_letsOneGo_221 (⟨⟨_, _, _, _, _, _, _, ⟨rfl, (show (11 : Nat) < 20 by decide), sX12_numberOf l n, by decide, by decide, tw_1164, tw_103, tw_1163⟩, Or.inl ⟨by decide +kernel, by decide +kernel, by decide +kernel, tw_1161, tw_72⟩⟩, trivial⟩) ?_
    refine js_aload_n dX12_letsOneGo_224 ?_
    refine js_get dX12_letsOneGo_225 jf_27_11 tw_989 (Or.inl rfl) ?_
    refine js_iload_n dX12_letsOneGo_228 ?_
    refine js_iald dX12_letsOneGo_229 ?_
    refine js_icmplt (tgt := 236) dX12_letsOneGo_230 (by decide) ?_ ?_
    · refine js_aload_n dX12_letsOneGo_236 ?_
      refine js_iload dX12_letsOneGo_237 ?_
      refine js_iconst dX12_letsOneGo_239 ?_
      refine js_callv dX12_letsOneGo_240 (⟨⟨_, _, _, _, _, _, _, ⟨rfl, (show (11 : Nat) < 20 by decide), sX12_goes l n, by decide, by decide, tw_1168, tw_103, tw_1167⟩, Or.inl ⟨by decide +kernel, by decide +kernel, by decide +kernel, tw_1165, tw_73⟩⟩, trivial⟩) ?_
      refine js_iconst dX12_letsOneGo_243 ?_
      exact js_zret dX12_letsOneGo_244 rfl
    · refine js_goto (tgt := 245) dX12_letsOneGo_233 (by decide) ?_
      refine js_iinc dX12_letsOneGo_245 (by decide) ?_
      refine js_goto (tgt := 203) dX12_letsOneGo_248 (by decide) ?_
      exact hK 203
def kX12_letsOneGo_315 (n : Nat) (K : Nat → jK) : jK := jk_kill 2 <| jk_kill 3 <| jk_istore 4 <| jk_iload 4 <| jk_ifge (jk_aload 0 <| jk_get [11] 26 <| jk_iload 1 <| jk_iload 4 <| jk_iast <| jk_aload 0 <| jk_iload 4 <| jk_int 0 <| jk_vcall [(11, fX12_goes n)] 2 <| jk_int 1 <| jk_zret) <| jk_int 0 <| jk_zret
set_option maxRecDepth 100000 in
set_option maxHeartbeats 4000000 in
theorem tX12_letsOneGo_315 (l : Launch) (n : Nat) {K : Nat → jK} (hK : ∀ b, jr_D l cX12_letsOneGo 6 "MeetingKitModel" (Option.some Jvm.ClassFile.FieldType.boolean) "letsOneGo" 5 113 (K b) b) : jr_D l cX12_letsOneGo 6 "MeetingKitModel" (Option.some Jvm.ClassFile.FieldType.boolean) "letsOneGo" 5 113 (kX12_letsOneGo_315 n K) 315 := by
  unfold kX12_letsOneGo_315
  refine js_kill ?_
  refine js_kill ?_
  refine js_istore dX12_letsOneGo_315 (by decide) ?_
  refine js_iload dX12_letsOneGo_317 ?_
  refine js_ifge (tgt := 324) dX12_letsOneGo_319 (by decide) ?_ ?_
  · refine js_aload_n dX12_letsOneGo_324 ?_
    refine js_get dX12_letsOneGo_325 jf_26_11 tw_988 (Or.inl rfl) ?_
    refine js_iload_n dX12_letsOneGo_328 ?_
    refine js_iload dX12_letsOneGo_329 ?_
    refine js_iast dX12_letsOneGo_331 ?_
    refine js_aload_n dX12_letsOneGo_332 ?_
    refine js_iload dX12_letsOneGo_333 ?_
    refine js_iconst dX12_letsOneGo_335 ?_
    refine js_callv dX12_letsOneGo_336 (⟨⟨_, _, _, _, _, _, _, ⟨rfl, (show (11 : Nat) < 20 by decide), sX12_goes l n, by decide, by decide, tw_1168, tw_103, tw_1167⟩, Or.inl ⟨by decide +kernel, by decide +kernel, by decide +kernel, tw_1165, tw_73⟩⟩, trivial⟩) ?_
    refine js_iconst dX12_letsOneGo_339 ?_
    exact js_zret dX12_letsOneGo_340 rfl
  · refine js_iconst dX12_letsOneGo_322 ?_
    exact js_zret dX12_letsOneGo_323 rfl
def kX12_letsOneGo_341 (n : Nat) (K : Nat → jK) : jK := jk_kill 0 <| jk_kill 1 <| jk_kill 2 <| jk_kill 3 <| jk_int 0 <| jk_zret
set_option maxRecDepth 100000 in
set_option maxHeartbeats 4000000 in
theorem tX12_letsOneGo_341 (l : Launch) (n : Nat) {K : Nat → jK} (hK : ∀ b, jr_D l cX12_letsOneGo 6 "MeetingKitModel" (Option.some Jvm.ClassFile.FieldType.boolean) "letsOneGo" 5 113 (K b) b) : jr_D l cX12_letsOneGo 6 "MeetingKitModel" (Option.some Jvm.ClassFile.FieldType.boolean) "letsOneGo" 5 113 (kX12_letsOneGo_341 n K) 341 := by
  unfold kX12_letsOneGo_341
  refine js_kill ?_
  refine js_kill ?_
  refine js_kill ?_
  refine js_kill ?_
  refine js_iconst dX12_letsOneGo_341 ?_
  exact js_zret dX12_letsOneGo_342 rfl
def kX12_letsOneGo_b (n : Nat) (K : Nat → jK) (b : Nat) : jK := if b = 0 then kX12_letsOneGo_0 n K else if b = 88 then kX12_letsOneGo_88 n K else if b = 91 then kX12_letsOneGo_91 n K else if b = 107 then kX12_letsOneGo_107 n K else if b = 203 then kX12_letsOneGo_203 n K else if b = 315 then kX12_letsOneGo_315 n K else if b = 341 then kX12_letsOneGo_341 n K else jk_none
def kX12_letsOneGo (n : Nat) : jK := jk_fix (kX12_letsOneGo_b n) n 0
theorem tX12_letsOneGo (l : Launch) (n : Nat) : jr_D l cX12_letsOneGo 6 "MeetingKitModel" (Option.some Jvm.ClassFile.FieldType.boolean) "letsOneGo" 5 113 (kX12_letsOneGo n) 0 := js_fix (F := kX12_letsOneGo_b n) (fun K hK b => js_blk (tX12_letsOneGo_0 l n hK) (js_blk (tX12_letsOneGo_88 l n hK) (js_blk (tX12_letsOneGo_91 l n hK) (js_blk (tX12_letsOneGo_107 l n hK) (js_blk (tX12_letsOneGo_203 l n hK) (js_blk (tX12_letsOneGo_315 l n hK) (js_blk (tX12_letsOneGo_341 l n hK) (js_none)))))))) n 0
def fX12_letsOneGo (n : Nat) : jF := jm_run 2 6 (kX12_letsOneGo n)
theorem sX12_letsOneGo (l : Launch) (n : Nat) : jr_F l (⟨"MeetingKitModel", "letsOneGo", "(I)Z"⟩ : MethodName) cX12_letsOneGo 6 (Option.some Jvm.ClassFile.FieldType.boolean) 5 113 (fX12_letsOneGo n) := js_met (by decide +kernel) (by decide) (tX12_letsOneGo l n)
theorem dX12_letsGo_0 : decode cX12_letsGo 0 = .ok (.iconst 1, 1) := by decide +kernel
theorem dX12_letsGo_1 : decode cX12_letsGo 1 = .ok (.istore_n 2, 1) := by decide +kernel
theorem dX12_letsGo_2 : decode cX12_letsGo 2 = .ok (.iload_n 2, 1) := by decide +kernel
theorem dX12_letsGo_3 : decode cX12_letsGo 3 = .ok (.ifCond .eq 12, 3) := by decide +kernel
theorem dX12_letsGo_6 : decode cX12_letsGo 6 = .ok (.aload_n 0, 1) := by decide +kernel
theorem dX12_letsGo_7 : decode cX12_letsGo 7 = .ok (.iload_n 1, 1) := by decide +kernel
theorem dX12_letsGo_8 : decode cX12_letsGo 8 = .ok (.invokevirtual 189, 3) := by decide +kernel
theorem dX12_letsGo_11 : decode cX12_letsGo 11 = .ok (.istore_n 2, 1) := by decide +kernel
theorem dX12_letsGo_12 : decode cX12_letsGo 12 = .ok (.goto (-10), 3) := by decide +kernel
theorem dX12_letsGo_15 : decode cX12_letsGo 15 = .ok (.return_, 1) := by decide +kernel
def kX12_letsGo_0 (n : Nat) (K : Nat → jK) : jK := jk_int 1 <| jk_istore 2 <| K 2
set_option maxRecDepth 100000 in
set_option maxHeartbeats 4000000 in
theorem tX12_letsGo_0 (l : Launch) (n : Nat) {K : Nat → jK} (hK : ∀ b, jr_D l cX12_letsGo 3 "MeetingKitModel" (Option.none : Option Jvm.ClassFile.FieldType) "letsGo" 6 138 (K b) b) : jr_D l cX12_letsGo 3 "MeetingKitModel" (Option.none : Option Jvm.ClassFile.FieldType) "letsGo" 6 138 (kX12_letsGo_0 n K) 0 := by
  unfold kX12_letsGo_0
  refine js_iconst dX12_letsGo_0 ?_
  refine js_istore_n dX12_letsGo_1 (by decide) ?_
  exact hK 2
def kX12_letsGo_2 (n : Nat) (K : Nat → jK) : jK := jk_iload 2 <| jk_ifeq (jk_vret) <| jk_aload 0 <| jk_iload 1 <| jk_vcall [(11, fX12_letsOneGo n)] 1 <| jk_istore 2 <| K 2
set_option maxRecDepth 100000 in
set_option maxHeartbeats 4000000 in
theorem tX12_letsGo_2 (l : Launch) (n : Nat) {K : Nat → jK} (hK : ∀ b, jr_D l cX12_letsGo 3 "MeetingKitModel" (Option.none : Option Jvm.ClassFile.FieldType) "letsGo" 6 138 (K b) b) : jr_D l cX12_letsGo 3 "MeetingKitModel" (Option.none : Option Jvm.ClassFile.FieldType) "letsGo" 6 138 (kX12_letsGo_2 n K) 2 := by
  unfold kX12_letsGo_2
  refine js_iload_n dX12_letsGo_2 ?_
  refine js_ifeq (tgt := 15) dX12_letsGo_3 (by decide) ?_ ?_
  · exact js_vret dX12_letsGo_15 rfl
  · refine js_aload_n dX12_letsGo_6 ?_
    refine js_iload_n dX12_letsGo_7 ?_
    refine js_callv dX12_letsGo_8 (⟨⟨_, _, _, _, _, _, _, ⟨rfl, (show (11 : Nat) < 20 by decide), sX12_letsOneGo l n, by decide, by decide, tw_1160, tw_103, tw_1159⟩, Or.inl ⟨by decide +kernel, by decide +kernel, by decide +kernel, tw_1157, tw_71⟩⟩, trivial⟩) ?_
    refine js_istore_n dX12_letsGo_11 (by decide) ?_
    refine js_goto (tgt := 2) dX12_letsGo_12 (by decide) ?_
    exact hK 2
def kX12_letsGo_b (n : Nat) (K : Nat → jK) (b : Nat) : jK := if b = 0 then kX12_letsGo_0 n K else if b = 2 then kX12_letsGo_2 n K else jk_none
def kX12_letsGo (n : Nat) : jK := jk_fix (kX12_letsGo_b n) n 0
theorem tX12_letsGo (l : Launch) (n : Nat) : jr_D l cX12_letsGo 3 "MeetingKitModel" (Option.none : Option Jvm.ClassFile.FieldType) "letsGo" 6 138 (kX12_letsGo n) 0 := js_fix (F := kX12_letsGo_b n) (fun K hK b => js_blk (tX12_letsGo_0 l n hK) (js_blk (tX12_letsGo_2 l n hK) (js_none))) n 0
def fX12_letsGo (n : Nat) : jF := jm_run 2 3 (kX12_letsGo n)
theorem sX12_letsGo (l : Launch) (n : Nat) : jr_F l (⟨"MeetingKitModel", "letsGo", "(I)V"⟩ : MethodName) cX12_letsGo 3 (Option.none : Option Jvm.ClassFile.FieldType) 6 138 (fX12_letsGo n) := js_met (by decide +kernel) (by decide) (tX12_letsGo l n)
theorem dX12_gives_0 : decode cX12_gives 0 = .ok (.aload_n 0, 1) := by decide +kernel
theorem dX12_gives_1 : decode cX12_gives 1 = .ok (.getfield 16, 3) := by decide +kernel
theorem dX12_gives_4 : decode cX12_gives 4 = .ok (.iload_n 1, 1) := by decide +kernel
theorem dX12_gives_5 : decode cX12_gives 5 = .ok (.iaload, 1) := by decide +kernel
theorem dX12_gives_6 : decode cX12_gives 6 = .ok (.istore_n 3, 1) := by decide +kernel
theorem dX12_gives_7 : decode cX12_gives 7 = .ok (.aload_n 0, 1) := by decide +kernel
theorem dX12_gives_8 : decode cX12_gives 8 = .ok (.iload_n 1, 1) := by decide +kernel
theorem dX12_gives_9 : decode cX12_gives 9 = .ok (.invokevirtual 161, 3) := by decide +kernel
theorem dX12_gives_12 : decode cX12_gives 12 = .ok (.aload_n 0, 1) := by decide +kernel
theorem dX12_gives_13 : decode cX12_gives 13 = .ok (.iload_n 1, 1) := by decide +kernel
theorem dX12_gives_14 : decode cX12_gives 14 = .ok (.iload_n 2, 1) := by decide +kernel
theorem dX12_gives_15 : decode cX12_gives 15 = .ok (.iconst 0, 1) := by decide +kernel
theorem dX12_gives_16 : decode cX12_gives 16 = .ok (.invokevirtual 149, 3) := by decide +kernel
theorem dX12_gives_19 : decode cX12_gives 19 = .ok (.aload_n 0, 1) := by decide +kernel
theorem dX12_gives_20 : decode cX12_gives 20 = .ok (.getfield 55, 3) := by decide +kernel
theorem dX12_gives_23 : decode cX12_gives 23 = .ok (.iload_n 3, 1) := by decide +kernel
theorem dX12_gives_24 : decode cX12_gives 24 = .ok (.iaload, 1) := by decide +kernel
theorem dX12_gives_25 : decode cX12_gives 25 = .ok (.iconst 3, 1) := by decide +kernel
theorem dX12_gives_26 : decode cX12_gives 26 = .ok (.if_icmp .ne 16, 3) := by decide +kernel
theorem dX12_gives_29 : decode cX12_gives 29 = .ok (.aload_n 0, 1) := by decide +kernel
theorem dX12_gives_30 : decode cX12_gives 30 = .ok (.getfield 76, 3) := by decide +kernel
theorem dX12_gives_33 : decode cX12_gives 33 = .ok (.iload_n 3, 1) := by decide +kernel
theorem dX12_gives_34 : decode cX12_gives 34 = .ok (.iconst 1, 1) := by decide +kernel
theorem dX12_gives_35 : decode cX12_gives 35 = .ok (.iastore, 1) := by decide +kernel
theorem dX12_gives_36 : decode cX12_gives 36 = .ok (.aload_n 0, 1) := by decide +kernel
theorem dX12_gives_37 : decode cX12_gives 37 = .ok (.iload_n 3, 1) := by decide +kernel
theorem dX12_gives_38 : decode cX12_gives 38 = .ok (.iconst 5, 1) := by decide +kernel
theorem dX12_gives_39 : decode cX12_gives 39 = .ok (.invokevirtual 153, 3) := by decide +kernel
theorem dX12_gives_42 : decode cX12_gives 42 = .ok (.aload_n 0, 1) := by decide +kernel
theorem dX12_gives_43 : decode cX12_gives 43 = .ok (.iload_n 3, 1) := by decide +kernel
theorem dX12_gives_44 : decode cX12_gives 44 = .ok (.invokevirtual 168, 3) := by decide +kernel
theorem dX12_gives_47 : decode cX12_gives 47 = .ok (.return_, 1) := by decide +kernel
def kX12_gives_0 (n : Nat) (K : Nat → jK) : jK := jk_aload 0 <| jk_get [11] 5 <| jk_iload 1 <| jk_iald <| jk_istore 3 <| jk_aload 0 <| jk_iload 1 <| jk_vcall [(11, fX12_leavesLine n)] 1 <| jk_aload 0 <| jk_iload 1 <| jk_iload 2 <| jk_int 0 <| jk_vcall [(11, fX12_ends n)] 3 <| jk_aload 0 <| jk_get [11] 18 <| jk_iload 3 <| jk_iald <| jk_int 3 <| jk_icmpne (K 42) <| jk_aload 0 <| jk_get [11] 25 <| jk_iload 3 <| jk_int 1 <| jk_iast <| jk_aload 0 <| jk_iload 3 <| jk_int 5 <| jk_vcall [(11, fX12_allEnd n)] 2 <| K 42
set_option maxRecDepth 100000 in
set_option maxHeartbeats 4000000 in
theorem tX12_gives_0 (l : Launch) (n : Nat) {K : Nat → jK} (hK : ∀ b, jr_D l cX12_gives 4 "MeetingKitModel" (Option.none : Option Jvm.ClassFile.FieldType) "gives" 7 160 (K b) b) : jr_D l cX12_gives 4 "MeetingKitModel" (Option.none : Option Jvm.ClassFile.FieldType) "gives" 7 160 (kX12_gives_0 n K) 0 := by
  unfold kX12_gives_0
  refine js_aload_n dX12_gives_0 ?_
  refine js_get dX12_gives_1 jf_5_11 tw_967 (Or.inl rfl) ?_
  refine js_iload_n dX12_gives_4 ?_
  refine js_iald dX12_gives_5 ?_
  refine js_istore_n dX12_gives_6 (by decide) ?_
  refine js_aload_n dX12_gives_7 ?_
  refine js_iload_n dX12_gives_8 ?_
  refine js_callv dX12_gives_9 (⟨⟨_, _, _, _, _, _, _, ⟨rfl, (show (11 : Nat) < 20 by decide), sX12_leavesLine l n, by decide, by decide, tw_1140, tw_103, tw_1139⟩, Or.inl ⟨by decide +kernel, by decide +kernel, by decide +kernel, tw_1137, tw_66⟩⟩, trivial⟩) ?_
  refine js_aload_n dX12_gives_12 ?_
  refine js_iload_n dX12_gives_13 ?_
  refine js_iload_n dX12_gives_14 ?_
  refine js_iconst dX12_gives_15 ?_
  refine js_callv dX12_gives_16 (⟨⟨_, _, _, _, _, _, _, ⟨rfl, (show (11 : Nat) < 20 by decide), sX12_ends l n, by decide, by decide, tw_1148, tw_103, tw_1147⟩, Or.inl ⟨by decide +kernel, by decide +kernel, by decide +kernel, tw_1145, tw_68⟩⟩, trivial⟩) ?_
  refine js_aload_n dX12_gives_19 ?_
  refine js_get dX12_gives_20 jf_18_11 tw_980 (Or.inl rfl) ?_
  refine js_iload_n dX12_gives_23 ?_
  refine js_iald dX12_gives_24 ?_
  refine js_iconst dX12_gives_25 ?_
  refine js_icmpne (tgt := 42) dX12_gives_26 (by decide) ?_ ?_
  · exact hK 42
  · refine js_aload_n dX12_gives_29 ?_
    refine js_get dX12_gives_30 jf_25_11 tw_987 (Or.inl rfl) ?_
    refine js_iload_n dX12_gives_33 ?_
    refine js_iconst dX12_gives_34 ?_
    refine js_iast dX12_gives_35 ?_
    refine js_aload_n dX12_gives_36 ?_
    refine js_iload_n dX12_gives_37 ?_
    refine js_iconst dX12_gives_38 ?_
    refine js_callv dX12_gives_39 (⟨⟨_, _, _, _, _, _, _, ⟨rfl, (show (11 : Nat) < 20 by decide), sX12_allEnd l n, by decide, by decide, tw_1152, tw_103, tw_1151⟩, Or.inl ⟨by decide +kernel, by decide +kernel, by decide +kernel, tw_1149, tw_69⟩⟩, trivial⟩) ?_
    exact hK 42
def kX12_gives_42 (n : Nat) (K : Nat → jK) : jK := jk_kill 1 <| jk_kill 2 <| jk_aload 0 <| jk_iload 3 <| jk_vcall [(11, fX12_letsGo n)] 1 <| jk_vret
set_option maxRecDepth 100000 in
set_option maxHeartbeats 4000000 in
theorem tX12_gives_42 (l : Launch) (n : Nat) {K : Nat → jK} (hK : ∀ b, jr_D l cX12_gives 4 "MeetingKitModel" (Option.none : Option Jvm.ClassFile.FieldType) "gives" 7 160 (K b) b) : jr_D l cX12_gives 4 "MeetingKitModel" (Option.none : Option Jvm.ClassFile.FieldType) "gives" 7 160 (kX12_gives_42 n K) 42 := by
  unfold kX12_gives_42
  refine js_kill ?_
  refine js_kill ?_
  refine js_aload_n dX12_gives_42 ?_
  refine js_iload_n dX12_gives_43 ?_
  refine js_callv dX12_gives_44 (⟨⟨_, _, _, _, _, _, _, ⟨rfl, (show (11 : Nat) < 20 by decide), sX12_letsGo l n, by decide, by decide, tw_1156, tw_103, tw_1155⟩, Or.inl ⟨by decide +kernel, by decide +kernel, by decide +kernel, tw_1153, tw_70⟩⟩, trivial⟩) ?_
  exact js_vret dX12_gives_47 rfl
def kX12_gives_b (n : Nat) (K : Nat → jK) (b : Nat) : jK := if b = 0 then kX12_gives_0 n K else if b = 42 then kX12_gives_42 n K else jk_none
def kX12_gives (n : Nat) : jK := jk_fix (kX12_gives_b n) n 0
theorem tX12_gives (l : Launch) (n : Nat) : jr_D l cX12_gives 4 "MeetingKitModel" (Option.none : Option Jvm.ClassFile.FieldType) "gives" 7 160 (kX12_gives n) 0 := js_fix (F := kX12_gives_b n) (fun K hK b => js_blk (tX12_gives_0 l n hK) (js_blk (tX12_gives_42 l n hK) (js_none))) n 0
def fX12_gives (n : Nat) : jF := jm_run 3 4 (kX12_gives n)
theorem sX12_gives (l : Launch) (n : Nat) : jr_F l (⟨"MeetingKitModel", "gives", "(II)V"⟩ : MethodName) cX12_gives 4 (Option.none : Option Jvm.ClassFile.FieldType) 7 160 (fX12_gives n) := js_met (by decide +kernel) (by decide) (tX12_gives l n)
theorem dX12_misuse_0 : decode cX12_misuse 0 = .ok (.aload_n 0, 1) := by decide +kernel
theorem dX12_misuse_1 : decode cX12_misuse 1 = .ok (.iload_n 1, 1) := by decide +kernel
theorem dX12_misuse_2 : decode cX12_misuse 2 = .ok (.bipush 6, 2) := by decide +kernel
theorem dX12_misuse_4 : decode cX12_misuse 4 = .ok (.iconst 0, 1) := by decide +kernel
theorem dX12_misuse_5 : decode cX12_misuse 5 = .ok (.invokevirtual 149, 3) := by decide +kernel
theorem dX12_misuse_8 : decode cX12_misuse 8 = .ok (.return_, 1) := by decide +kernel
def kX12_misuse (n : Nat) : jK := jk_aload 0 <| jk_iload 1 <| jk_int 6 <| jk_int 0 <| jk_vcall [(11, fX12_ends n)] 3 <| jk_vret
set_option maxRecDepth 100000 in
set_option maxHeartbeats 4000000 in
theorem tX12_misuse (l : Launch) (n : Nat) : jr_D l cX12_misuse 2 "MeetingKitModel" (Option.none : Option Jvm.ClassFile.FieldType) "misuse" 2 45 (kX12_misuse n) 0 := by
  unfold kX12_misuse
  refine js_aload_n dX12_misuse_0 ?_
  refine js_iload_n dX12_misuse_1 ?_
  refine js_bipush dX12_misuse_2 ?_
  refine js_iconst dX12_misuse_4 ?_
  refine js_callv dX12_misuse_5 (⟨⟨_, _, _, _, _, _, _, ⟨rfl, (show (11 : Nat) < 20 by decide), sX12_ends l n, by decide, by decide, tw_1148, tw_103, tw_1147⟩, Or.inl ⟨by decide +kernel, by decide +kernel, by decide +kernel, tw_1145, tw_68⟩⟩, trivial⟩) ?_
  exact js_vret dX12_misuse_8 rfl
def fX12_misuse (n : Nat) : jF := jm_run 2 2 (kX12_misuse n)
theorem sX12_misuse (l : Launch) (n : Nat) : jr_F l (⟨"MeetingKitModel", "misuse", "(I)V"⟩ : MethodName) cX12_misuse 2 (Option.none : Option Jvm.ClassFile.FieldType) 2 45 (fX12_misuse n) := js_met (by decide +kernel) (by decide) (tX12_misuse l n)
theorem dX12_permits_0 : decode cX12_permits 0 = .ok (.iload_n 3, 1) := by decide +kernel
theorem dX12_permits_1 : decode cX12_permits 1 = .ok (.iconst 2, 1) := by decide +kernel
theorem dX12_permits_2 : decode cX12_permits 2 = .ok (.if_icmp .gt 36, 3) := by decide +kernel
theorem dX12_permits_5 : decode cX12_permits 5 = .ok (.iload 4, 2) := by decide +kernel
theorem dX12_permits_7 : decode cX12_permits 7 = .ok (.iconst 1, 1) := by decide +kernel
theorem dX12_permits_8 : decode cX12_permits 8 = .ok (.if_icmp .lt 30, 3) := by decide +kernel
theorem dX12_permits_11 : decode cX12_permits 11 = .ok (.iload 4, 2) := by decide +kernel
theorem dX12_permits_13 : decode cX12_permits 13 = .ok (.bipush 100, 2) := by decide +kernel
theorem dX12_permits_15 : decode cX12_permits 15 = .ok (.if_icmp .gt 23, 3) := by decide +kernel
theorem dX12_permits_18 : decode cX12_permits 18 = .ok (.iload_n 3, 1) := by decide +kernel
theorem dX12_permits_19 : decode cX12_permits 19 = .ok (.iconst 1, 1) := by decide +kernel
theorem dX12_permits_20 : decode cX12_permits 20 = .ok (.if_icmp .ne 26, 3) := by decide +kernel
theorem dX12_permits_23 : decode cX12_permits 23 = .ok (.aload_n 0, 1) := by decide +kernel
theorem dX12_permits_24 : decode cX12_permits 24 = .ok (.getfield 73, 3) := by decide +kernel
theorem dX12_permits_27 : decode cX12_permits 27 = .ok (.iload_n 1, 1) := by decide +kernel
theorem dX12_permits_28 : decode cX12_permits 28 = .ok (.iaload, 1) := by decide +kernel
theorem dX12_permits_29 : decode cX12_permits 29 = .ok (.iload 4, 2) := by decide +kernel
theorem dX12_permits_31 : decode cX12_permits 31 = .ok (.iadd, 1) := by decide +kernel
theorem dX12_permits_32 : decode cX12_permits 32 = .ok (.sipush 1000, 3) := by decide +kernel
theorem dX12_permits_35 : decode cX12_permits 35 = .ok (.if_icmp .le 11, 3) := by decide +kernel
theorem dX12_permits_38 : decode cX12_permits 38 = .ok (.aload_n 0, 1) := by decide +kernel
theorem dX12_permits_39 : decode cX12_permits 39 = .ok (.iload_n 2, 1) := by decide +kernel
theorem dX12_permits_40 : decode cX12_permits 40 = .ok (.invokevirtual 192, 3) := by decide +kernel
theorem dX12_permits_43 : decode cX12_permits 43 = .ok (.goto 110, 3) := by decide +kernel
theorem dX12_permits_46 : decode cX12_permits 46 = .ok (.iload_n 3, 1) := by decide +kernel
theorem dX12_permits_47 : decode cX12_permits 47 = .ok (.iconst 1, 1) := by decide +kernel
theorem dX12_permits_48 : decode cX12_permits 48 = .ok (.if_icmp .ne 28, 3) := by decide +kernel
theorem dX12_permits_51 : decode cX12_permits 51 = .ok (.aload_n 0, 1) := by decide +kernel
theorem dX12_permits_52 : decode cX12_permits 52 = .ok (.getfield 73, 3) := by decide +kernel
theorem dX12_permits_55 : decode cX12_permits 55 = .ok (.iload_n 1, 1) := by decide +kernel
theorem dX12_permits_56 : decode cX12_permits 56 = .ok (.dup2, 1) := by decide +kernel
theorem dX12_permits_57 : decode cX12_permits 57 = .ok (.iaload, 1) := by decide +kernel
theorem dX12_permits_58 : decode cX12_permits 58 = .ok (.iload 4, 2) := by decide +kernel
theorem dX12_permits_60 : decode cX12_permits 60 = .ok (.iadd, 1) := by decide +kernel
theorem dX12_permits_61 : decode cX12_permits 61 = .ok (.iastore, 1) := by decide +kernel
theorem dX12_permits_62 : decode cX12_permits 62 = .ok (.aload_n 0, 1) := by decide +kernel
theorem dX12_permits_63 : decode cX12_permits 63 = .ok (.iload_n 2, 1) := by decide +kernel
theorem dX12_permits_64 : decode cX12_permits 64 = .ok (.aload_n 0, 1) := by decide +kernel
theorem dX12_permits_65 : decode cX12_permits 65 = .ok (.getfield 73, 3) := by decide +kernel
theorem dX12_permits_68 : decode cX12_permits 68 = .ok (.iload_n 1, 1) := by decide +kernel
theorem dX12_permits_69 : decode cX12_permits 69 = .ok (.iaload, 1) := by decide +kernel
theorem dX12_permits_70 : decode cX12_permits 70 = .ok (.invokevirtual 165, 3) := by decide +kernel
theorem dX12_permits_73 : decode cX12_permits 73 = .ok (.goto 80, 3) := by decide +kernel
theorem dX12_permits_76 : decode cX12_permits 76 = .ok (.aload_n 0, 1) := by decide +kernel
theorem dX12_permits_77 : decode cX12_permits 77 = .ok (.getfield 73, 3) := by decide +kernel
theorem dX12_permits_80 : decode cX12_permits 80 = .ok (.iload_n 1, 1) := by decide +kernel
theorem dX12_permits_81 : decode cX12_permits 81 = .ok (.iaload, 1) := by decide +kernel
theorem dX12_permits_82 : decode cX12_permits 82 = .ok (.iload 4, 2) := by decide +kernel
theorem dX12_permits_84 : decode cX12_permits 84 = .ok (.if_icmp .lt 46, 3) := by decide +kernel
theorem dX12_permits_87 : decode cX12_permits 87 = .ok (.aload_n 0, 1) := by decide +kernel
theorem dX12_permits_88 : decode cX12_permits 88 = .ok (.getfield 55, 3) := by decide +kernel
theorem dX12_permits_91 : decode cX12_permits 91 = .ok (.iload_n 1, 1) := by decide +kernel
theorem dX12_permits_92 : decode cX12_permits 92 = .ok (.iaload, 1) := by decide +kernel
theorem dX12_permits_93 : decode cX12_permits 93 = .ok (.ifCond .eq 12, 3) := by decide +kernel
theorem dX12_permits_96 : decode cX12_permits 96 = .ok (.aload_n 0, 1) := by decide +kernel
theorem dX12_permits_97 : decode cX12_permits 97 = .ok (.getfield 70, 3) := by decide +kernel
theorem dX12_permits_100 : decode cX12_permits 100 = .ok (.iload_n 1, 1) := by decide +kernel
theorem dX12_permits_101 : decode cX12_permits 101 = .ok (.iaload, 1) := by decide +kernel
theorem dX12_permits_102 : decode cX12_permits 102 = .ok (.ifCond .ne 28, 3) := by decide +kernel
theorem dX12_permits_105 : decode cX12_permits 105 = .ok (.aload_n 0, 1) := by decide +kernel
theorem dX12_permits_106 : decode cX12_permits 106 = .ok (.getfield 73, 3) := by decide +kernel
theorem dX12_permits_109 : decode cX12_permits 109 = .ok (.iload_n 1, 1) := by decide +kernel
theorem dX12_permits_110 : decode cX12_permits 110 = .ok (.dup2, 1) := by decide +kernel
theorem dX12_permits_111 : decode cX12_permits 111 = .ok (.iaload, 1) := by decide +kernel
theorem dX12_permits_112 : decode cX12_permits 112 = .ok (.iload 4, 2) := by decide +kernel
theorem dX12_permits_114 : decode cX12_permits 114 = .ok (.isub, 1) := by decide +kernel
theorem dX12_permits_115 : decode cX12_permits 115 = .ok (.iastore, 1) := by decide +kernel
theorem dX12_permits_116 : decode cX12_permits 116 = .ok (.aload_n 0, 1) := by decide +kernel
theorem dX12_permits_117 : decode cX12_permits 117 = .ok (.iload_n 2, 1) := by decide +kernel
theorem dX12_permits_118 : decode cX12_permits 118 = .ok (.aload_n 0, 1) := by decide +kernel
theorem dX12_permits_119 : decode cX12_permits 119 = .ok (.getfield 73, 3) := by decide +kernel
theorem dX12_permits_122 : decode cX12_permits 122 = .ok (.iload_n 1, 1) := by decide +kernel
theorem dX12_permits_123 : decode cX12_permits 123 = .ok (.iaload, 1) := by decide +kernel
theorem dX12_permits_124 : decode cX12_permits 124 = .ok (.invokevirtual 165, 3) := by decide +kernel
theorem dX12_permits_127 : decode cX12_permits 127 = .ok (.goto 26, 3) := by decide +kernel
theorem dX12_permits_130 : decode cX12_permits 130 = .ok (.iload_n 3, 1) := by decide +kernel
theorem dX12_permits_131 : decode cX12_permits 131 = .ok (.iconst 2, 1) := by decide +kernel
theorem dX12_permits_132 : decode cX12_permits 132 = .ok (.if_icmp .ne 14, 3) := by decide +kernel
theorem dX12_permits_135 : decode cX12_permits 135 = .ok (.aload_n 0, 1) := by decide +kernel
theorem dX12_permits_136 : decode cX12_permits 136 = .ok (.iload_n 2, 1) := by decide +kernel
theorem dX12_permits_137 : decode cX12_permits 137 = .ok (.bipush 7, 2) := by decide +kernel
theorem dX12_permits_139 : decode cX12_permits 139 = .ok (.iconst 0, 1) := by decide +kernel
theorem dX12_permits_140 : decode cX12_permits 140 = .ok (.invokevirtual 149, 3) := by decide +kernel
theorem dX12_permits_143 : decode cX12_permits 143 = .ok (.goto 10, 3) := by decide +kernel
theorem dX12_permits_146 : decode cX12_permits 146 = .ok (.aload_n 0, 1) := by decide +kernel
theorem dX12_permits_147 : decode cX12_permits 147 = .ok (.iload_n 2, 1) := by decide +kernel
theorem dX12_permits_148 : decode cX12_permits 148 = .ok (.invokevirtual 195, 3) := by decide +kernel
theorem dX12_permits_151 : decode cX12_permits 151 = .ok (.istore 5, 2) := by decide +kernel
theorem dX12_permits_153 : decode cX12_permits 153 = .ok (.return_, 1) := by decide +kernel
def kX12_permits_0 (n : Nat) (K : Nat → jK) : jK := jk_iload 3 <| jk_int 2 <| jk_icmpgt (K 38) <| jk_iload 4 <| jk_int 1 <| jk_icmplt (K 38) <| jk_iload 4 <| jk_int 100 <| jk_icmpgt (K 38) <| jk_iload 3 <| jk_int 1 <| jk_icmpne (K 46) <| jk_aload 0 <| jk_get [11] 24 <| jk_iload 1 <| jk_iald <| jk_iload 4 <| jk_iadd <| jk_int 1000 <| jk_icmple (K 46) <| K 38
set_option maxRecDepth 100000 in
set_option maxHeartbeats 4000000 in
theorem tX12_permits_0 (l : Launch) (n : Nat) {K : Nat → jK} (hK : ∀ b, jr_D l cX12_permits 6 "MeetingKitModel" (Option.none : Option Jvm.ClassFile.FieldType) "permits" 4 90 (K b) b) : jr_D l cX12_permits 6 "MeetingKitModel" (Option.none : Option Jvm.ClassFile.FieldType) "permits" 4 90 (kX12_permits_0 n K) 0 := by
  unfold kX12_permits_0
  refine js_iload_n dX12_permits_0 ?_
  refine js_iconst dX12_permits_1 ?_
  refine js_icmpgt (tgt := 38) dX12_permits_2 (by decide) ?_ ?_
  · exact hK 38
  · refine js_iload dX12_permits_5 ?_
    refine js_iconst dX12_permits_7 ?_
    refine js_icmplt (tgt := 38) dX12_permits_8 (by decide) ?_ ?_
    · exact hK 38
    · refine js_iload dX12_permits_11 ?_
      refine js_bipush dX12_permits_13 ?_
      refine js_icmpgt (tgt := 38) dX12_permits_15 (by decide) ?_ ?_
      · exact hK 38
      · refine js_iload_n dX12_permits_18 ?_
        refine js_iconst dX12_permits_19 ?_
        refine js_icmpne (tgt := 46) dX12_permits_20 (by decide) ?_ ?_
        · exact hK 46
        · refine js_aload_n dX12_permits_23 ?_
          refine js_get dX12_permits_24 jf_24_11 tw_986 (Or.inl rfl) ?_
          refine js_iload_n dX12_permits_27 ?_
          refine js_iald dX12_permits_28 ?_
          refine js_iload dX12_permits_29 ?_
          refine js_iadd dX12_permits_31 ?_
          refine js_sipush dX12_permits_32 ?_
          refine js_icmple (tgt := 46) dX12_permits_35 (by decide) ?_ ?_
          · exact hK 46
          · exact hK 38
def kX12_permits_38 (n : Nat) (K : Nat → jK) : jK := jk_kill 1 <| jk_kill 3 <| jk_kill 4 <| jk_aload 0 <| jk_iload 2 <| jk_vcall [(11, fX12_misuse n)] 1 <| K 153
set_option maxRecDepth 100000 in
set_option maxHeartbeats 4000000 in
theorem tX12_permits_38 (l : Launch) (n : Nat) {K : Nat → jK} (hK : ∀ b, jr_D l cX12_permits 6 "MeetingKitModel" (Option.none : Option Jvm.ClassFile.FieldType) "permits" 4 90 (K b) b) : jr_D l cX12_permits 6 "MeetingKitModel" (Option.none : Option Jvm.ClassFile.FieldType) "permits" 4 90 (kX12_permits_38 n K) 38 := by
  unfold kX12_permits_38
  refine js_kill ?_
  refine js_kill ?_
  refine js_kill ?_
  refine js_aload_n dX12_permits_38 ?_
  refine js_iload_n dX12_permits_39 ?_
  refine js_callv dX12_permits_40 (⟨⟨_, _, _, _, _, _, _, ⟨rfl, (show (11 : Nat) < 20 by decide), sX12_misuse l n, by decide, by decide, tw_1204, tw_103, tw_1203⟩, Or.inl ⟨by decide +kernel, by decide +kernel, by decide +kernel, tw_1201, tw_82⟩⟩, trivial⟩) ?_
  refine js_goto (tgt := 153) dX12_permits_43 (by decide) ?_
  exact hK 153
def kX12_permits_46 (n : Nat) (K : Nat → jK) : jK := jk_iload 3 <| jk_int 1 <| jk_icmpne (jk_aload 0 <| jk_get [11] 24 <| jk_iload 1 <| jk_iald <| jk_iload 4 <| jk_icmplt (K 130) <| jk_aload 0 <| jk_get [11] 18 <| jk_iload 1 <| jk_iald <| jk_ifeq (K 105) <| jk_aload 0 <| jk_get [11] 23 <| jk_iload 1 <| jk_iald <| jk_ifne (K 130) <| K 105) <| jk_aload 0 <| jk_get [11] 24 <| jk_iload 1 <| jk_dup2 <| jk_iald <| jk_iload 4 <| jk_iadd <| jk_iast <| jk_aload 0 <| jk_iload 2 <| jk_aload 0 <| jk_get [11] 24 <| jk_iload 1 <| jk_iald <| jk_vcall [(11, fX12_passes n)] 2 <| K 153
set_option maxRecDepth 100000 in
set_option maxHeartbeats 4000000 in
theorem tX12_permits_46 (l : Launch) (n : Nat) {K : Nat → jK} (hK : ∀ b, jr_D l cX12_permits 6 "MeetingKitModel" (Option.none : Option Jvm.ClassFile.FieldType) "permits" 4 90 (K b) b) : jr_D l cX12_permits 6 "MeetingKitModel" (Option.none : Option Jvm.ClassFile.FieldType) "permits" 4 90 (kX12_permits_46 n K) 46 := by
  unfold kX12_permits_46
  refine js_iload_n dX12_permits_46 ?_
  refine js_iconst dX12_permits_47 ?_
  refine js_icmpne (tgt := 76) dX12_permits_48 (by decide) ?_ ?_
  · refine js_aload_n dX12_permits_76 ?_
    refine js_get dX12_permits_77 jf_24_11 tw_986 (Or.inl rfl) ?_
    refine js_iload_n dX12_permits_80 ?_
    refine js_iald dX12_permits_81 ?_
    refine js_iload dX12_permits_82 ?_
    refine js_icmplt (tgt := 130) dX12_permits_84 (by decide) ?_ ?_
    · exact hK 130
    · refine js_aload_n dX12_permits_87 ?_
      refine js_get dX12_permits_88 jf_18_11 tw_980 (Or.inl rfl) ?_
      refine js_iload_n dX12_permits_91 ?_
      refine js_iald dX12_permits_92 ?_
      refine js_ifeq (tgt := 105) dX12_permits_93 (by decide) ?_ ?_
      · exact hK 105
      · refine js_aload_n dX12_permits_96 ?_
        refine js_get dX12_permits_97 jf_23_11 tw_985 (Or.inl rfl) ?_
        refine js_iload_n dX12_permits_100 ?_
        refine js_iald dX12_permits_101 ?_
        refine js_ifne (tgt := 130) dX12_permits_102 (by decide) ?_ ?_
        · exact hK 130
        · exact hK 105
  · refine js_aload_n dX12_permits_51 ?_
    refine js_get dX12_permits_52 jf_24_11 tw_986 (Or.inl rfl) ?_
    refine js_iload_n dX12_permits_55 ?_
    refine js_dup2 dX12_permits_56 ?_
    refine js_iald dX12_permits_57 ?_
    refine js_iload dX12_permits_58 ?_
    refine js_iadd dX12_permits_60 ?_
    refine js_iast dX12_permits_61 ?_
    refine js_aload_n dX12_permits_62 ?_
    refine js_iload_n dX12_permits_63 ?_
    refine js_aload_n dX12_permits_64 ?_
    refine js_get dX12_permits_65 jf_24_11 tw_986 (Or.inl rfl) ?_
    refine js_iload_n dX12_permits_68 ?_
    refine js_iald dX12_permits_69 ?_
    refine js_callv dX12_permits_70 (⟨⟨_, _, _, _, _, _, _, ⟨rfl, (show (11 : Nat) < 20 by decide), sX12_passes l n, by decide, by decide, tw_1172, tw_103, tw_1171⟩, Or.inl ⟨by decide +kernel, by decide +kernel, by decide +kernel, tw_1169, tw_74⟩⟩, trivial⟩) ?_
    refine js_goto (tgt := 153) dX12_permits_73 (by decide) ?_
    exact hK 153
def kX12_permits_105 (n : Nat) (K : Nat → jK) : jK := jk_kill 3 <| jk_aload 0 <| jk_get [11] 24 <| jk_iload 1 <| jk_dup2 <| jk_iald <| jk_iload 4 <| jk_isub <| jk_iast <| jk_aload 0 <| jk_iload 2 <| jk_aload 0 <| jk_get [11] 24 <| jk_iload 1 <| jk_iald <| jk_vcall [(11, fX12_passes n)] 2 <| K 153
set_option maxRecDepth 100000 in
set_option maxHeartbeats 4000000 in
theorem tX12_permits_105 (l : Launch) (n : Nat) {K : Nat → jK} (hK : ∀ b, jr_D l cX12_permits 6 "MeetingKitModel" (Option.none : Option Jvm.ClassFile.FieldType) "permits" 4 90 (K b) b) : jr_D l cX12_permits 6 "MeetingKitModel" (Option.none : Option Jvm.ClassFile.FieldType) "permits" 4 90 (kX12_permits_105 n K) 105 := by
  unfold kX12_permits_105
  refine js_kill ?_
  refine js_aload_n dX12_permits_105 ?_
  refine js_get dX12_permits_106 jf_24_11 tw_986 (Or.inl rfl) ?_
  refine js_iload_n dX12_permits_109 ?_
  refine js_dup2 dX12_permits_110 ?_
  refine js_iald dX12_permits_111 ?_
  refine js_iload dX12_permits_112 ?_
  refine js_isub dX12_permits_114 ?_
  refine js_iast dX12_permits_115 ?_
  refine js_aload_n dX12_permits_116 ?_
  refine js_iload_n dX12_permits_117 ?_
  refine js_aload_n dX12_permits_118 ?_
  refine js_get dX12_permits_119 jf_24_11 tw_986 (Or.inl rfl) ?_
  refine js_iload_n dX12_permits_122 ?_
  refine js_iald dX12_permits_123 ?_
  refine js_callv dX12_permits_124 (⟨⟨_, _, _, _, _, _, _, ⟨rfl, (show (11 : Nat) < 20 by decide), sX12_passes l n, by decide, by decide, tw_1172, tw_103, tw_1171⟩, Or.inl ⟨by decide +kernel, by decide +kernel, by decide +kernel, tw_1169, tw_74⟩⟩, trivial⟩) ?_
  refine js_goto (tgt := 153) dX12_permits_127 (by decide) ?_
  exact hK 153
def kX12_permits_130 (n : Nat) (K : Nat → jK) : jK := jk_kill 1 <| jk_kill 4 <| jk_iload 3 <| jk_int 2 <| jk_icmpne (jk_aload 0 <| jk_iload 2 <| jk_vcall [(11, fX12_waits n)] 1 <| jk_istore 5 <| K 153) <| jk_aload 0 <| jk_iload 2 <| jk_int 7 <| jk_int 0 <| jk_vcall [(11, fX12_ends n)] 3 <| K 153
set_option maxRecDepth 100000 in
set_option maxHeartbeats 4000000 in
theorem tX12_permits_130 (l : Launch) (n : Nat) {K : Nat → jK} (hK : ∀ b, jr_D l cX12_permits 6 "MeetingKitModel" (Option.none : Option Jvm.ClassFile.FieldType) "permits" 4 90 (K b) b) : jr_D l cX12_permits 6 "MeetingKitModel" (Option.none : Option Jvm.ClassFile.FieldType) "permits" 4 90 (kX12_permits_130 n K) 130 := by
  unfold kX12_permits_130
  refine js_kill ?_
  refine js_kill ?_
  refine js_iload_n dX12_permits_130 ?_
  refine js_iconst dX12_permits_131 ?_
  refine js_icmpne (tgt := 146) dX12_permits_132 (by decide) ?_ ?_
  · refine js_aload_n dX12_permits_146 ?_
    refine js_iload_n dX12_permits_147 ?_
    refine js_callv dX12_permits_148 (⟨⟨_, _, _, _, _, _, _, ⟨rfl, (show (11 : Nat) < 20 by decide), sX12_waits l n, by decide, by decide, tw_1208, tw_103, tw_1207⟩, Or.inl ⟨by decide +kernel, by decide +kernel, by decide +kernel, tw_1205, tw_83⟩⟩, trivial⟩) ?_
    refine js_istore dX12_permits_151 (by decide) ?_
    exact hK 153
  · refine js_aload_n dX12_permits_135 ?_
    refine js_iload_n dX12_permits_136 ?_
    refine js_bipush dX12_permits_137 ?_
    refine js_iconst dX12_permits_139 ?_
    refine js_callv dX12_permits_140 (⟨⟨_, _, _, _, _, _, _, ⟨rfl, (show (11 : Nat) < 20 by decide), sX12_ends l n, by decide, by decide, tw_1148, tw_103, tw_1147⟩, Or.inl ⟨by decide +kernel, by decide +kernel, by decide +kernel, tw_1145, tw_68⟩⟩, trivial⟩) ?_
    refine js_goto (tgt := 153) dX12_permits_143 (by decide) ?_
    exact hK 153
def kX12_permits_153 (n : Nat) (K : Nat → jK) : jK := jk_kill 0 <| jk_kill 1 <| jk_kill 2 <| jk_kill 3 <| jk_kill 4 <| jk_kill 5 <| jk_vret
set_option maxRecDepth 100000 in
set_option maxHeartbeats 4000000 in
theorem tX12_permits_153 (l : Launch) (n : Nat) {K : Nat → jK} (hK : ∀ b, jr_D l cX12_permits 6 "MeetingKitModel" (Option.none : Option Jvm.ClassFile.FieldType) "permits" 4 90 (K b) b) : jr_D l cX12_permits 6 "MeetingKitModel" (Option.none : Option Jvm.ClassFile.FieldType) "permits" 4 90 (kX12_permits_153 n K) 153 := by
  unfold kX12_permits_153
  refine js_kill ?_
  refine js_kill ?_
  refine js_kill ?_
  refine js_kill ?_
  refine js_kill ?_
  refine js_kill ?_
  exact js_vret dX12_permits_153 rfl
def kX12_permits_b (n : Nat) (K : Nat → jK) (b : Nat) : jK := if b = 0 then kX12_permits_0 n K else if b = 38 then kX12_permits_38 n K else if b = 46 then kX12_permits_46 n K else if b = 105 then kX12_permits_105 n K else if b = 130 then kX12_permits_130 n K else if b = 153 then kX12_permits_153 n K else jk_none
def kX12_permits (n : Nat) : jK := jk_fix (kX12_permits_b n) n 0
theorem tX12_permits (l : Launch) (n : Nat) : jr_D l cX12_permits 6 "MeetingKitModel" (Option.none : Option Jvm.ClassFile.FieldType) "permits" 4 90 (kX12_permits n) 0 := js_fix (F := kX12_permits_b n) (fun K hK b => js_blk (tX12_permits_0 l n hK) (js_blk (tX12_permits_38 l n hK) (js_blk (tX12_permits_46 l n hK) (js_blk (tX12_permits_105 l n hK) (js_blk (tX12_permits_130 l n hK) (js_blk (tX12_permits_153 l n hK) (js_none))))))) n 0
def fX12_permits (n : Nat) : jF := jm_run 5 6 (kX12_permits n)
theorem sX12_permits (l : Launch) (n : Nat) : jr_F l (⟨"MeetingKitModel", "permits", "(IIII)V"⟩ : MethodName) cX12_permits 6 (Option.none : Option Jvm.ClassFile.FieldType) 4 90 (fX12_permits n) := js_met (by decide +kernel) (by decide) (tX12_permits l n)
theorem dX12_gate_0 : decode cX12_gate 0 = .ok (.iload_n 3, 1) := by decide +kernel
theorem dX12_gate_1 : decode cX12_gate 1 = .ok (.iconst 1, 1) := by decide +kernel
theorem dX12_gate_2 : decode cX12_gate 2 = .ok (.if_icmp .ne 36, 3) := by decide +kernel
theorem dX12_gate_5 : decode cX12_gate 5 = .ok (.aload_n 0, 1) := by decide +kernel
theorem dX12_gate_6 : decode cX12_gate 6 = .ok (.getfield 73, 3) := by decide +kernel
theorem dX12_gate_9 : decode cX12_gate 9 = .ok (.iload_n 1, 1) := by decide +kernel
theorem dX12_gate_10 : decode cX12_gate 10 = .ok (.iaload, 1) := by decide +kernel
theorem dX12_gate_11 : decode cX12_gate 11 = .ok (.ifCond .le 13, 3) := by decide +kernel
theorem dX12_gate_14 : decode cX12_gate 14 = .ok (.aload_n 0, 1) := by decide +kernel
theorem dX12_gate_15 : decode cX12_gate 15 = .ok (.getfield 73, 3) := by decide +kernel
theorem dX12_gate_18 : decode cX12_gate 18 = .ok (.iload_n 1, 1) := by decide +kernel
theorem dX12_gate_19 : decode cX12_gate 19 = .ok (.dup2, 1) := by decide +kernel
theorem dX12_gate_20 : decode cX12_gate 20 = .ok (.iaload, 1) := by decide +kernel
theorem dX12_gate_21 : decode cX12_gate 21 = .ok (.iconst 1, 1) := by decide +kernel
theorem dX12_gate_22 : decode cX12_gate 22 = .ok (.isub, 1) := by decide +kernel
theorem dX12_gate_23 : decode cX12_gate 23 = .ok (.iastore, 1) := by decide +kernel
theorem dX12_gate_24 : decode cX12_gate 24 = .ok (.aload_n 0, 1) := by decide +kernel
theorem dX12_gate_25 : decode cX12_gate 25 = .ok (.iload_n 2, 1) := by decide +kernel
theorem dX12_gate_26 : decode cX12_gate 26 = .ok (.aload_n 0, 1) := by decide +kernel
theorem dX12_gate_27 : decode cX12_gate 27 = .ok (.getfield 73, 3) := by decide +kernel
theorem dX12_gate_30 : decode cX12_gate 30 = .ok (.iload_n 1, 1) := by decide +kernel
theorem dX12_gate_31 : decode cX12_gate 31 = .ok (.iaload, 1) := by decide +kernel
theorem dX12_gate_32 : decode cX12_gate 32 = .ok (.invokevirtual 165, 3) := by decide +kernel
theorem dX12_gate_35 : decode cX12_gate 35 = .ok (.goto 40, 3) := by decide +kernel
theorem dX12_gate_38 : decode cX12_gate 38 = .ok (.iload_n 3, 1) := by decide +kernel
theorem dX12_gate_39 : decode cX12_gate 39 = .ok (.ifCond .eq 11, 3) := by decide +kernel
theorem dX12_gate_42 : decode cX12_gate 42 = .ok (.aload_n 0, 1) := by decide +kernel
theorem dX12_gate_43 : decode cX12_gate 43 = .ok (.iload_n 2, 1) := by decide +kernel
theorem dX12_gate_44 : decode cX12_gate 44 = .ok (.invokevirtual 192, 3) := by decide +kernel
theorem dX12_gate_47 : decode cX12_gate 47 = .ok (.goto 28, 3) := by decide +kernel
theorem dX12_gate_50 : decode cX12_gate 50 = .ok (.aload_n 0, 1) := by decide +kernel
theorem dX12_gate_51 : decode cX12_gate 51 = .ok (.getfield 73, 3) := by decide +kernel
theorem dX12_gate_54 : decode cX12_gate 54 = .ok (.iload_n 1, 1) := by decide +kernel
theorem dX12_gate_55 : decode cX12_gate 55 = .ok (.iaload, 1) := by decide +kernel
theorem dX12_gate_56 : decode cX12_gate 56 = .ok (.ifCond .ne 12, 3) := by decide +kernel
theorem dX12_gate_59 : decode cX12_gate 59 = .ok (.aload_n 0, 1) := by decide +kernel
theorem dX12_gate_60 : decode cX12_gate 60 = .ok (.iload_n 2, 1) := by decide +kernel
theorem dX12_gate_61 : decode cX12_gate 61 = .ok (.iconst 0, 1) := by decide +kernel
theorem dX12_gate_62 : decode cX12_gate 62 = .ok (.invokevirtual 165, 3) := by decide +kernel
theorem dX12_gate_65 : decode cX12_gate 65 = .ok (.goto 10, 3) := by decide +kernel
theorem dX12_gate_68 : decode cX12_gate 68 = .ok (.aload_n 0, 1) := by decide +kernel
theorem dX12_gate_69 : decode cX12_gate 69 = .ok (.iload_n 2, 1) := by decide +kernel
theorem dX12_gate_70 : decode cX12_gate 70 = .ok (.invokevirtual 195, 3) := by decide +kernel
theorem dX12_gate_73 : decode cX12_gate 73 = .ok (.istore 4, 2) := by decide +kernel
theorem dX12_gate_75 : decode cX12_gate 75 = .ok (.return_, 1) := by decide +kernel
def kX12_gate_0 (n : Nat) (K : Nat → jK) : jK := jk_iload 3 <| jk_int 1 <| jk_icmpne (jk_iload 3 <| jk_ifeq (jk_aload 0 <| jk_get [11] 24 <| jk_iload 1 <| jk_iald <| jk_ifne (jk_aload 0 <| jk_iload 2 <| jk_vcall [(11, fX12_waits n)] 1 <| jk_istore 4 <| K 75) <| jk_aload 0 <| jk_iload 2 <| jk_int 0 <| jk_vcall [(11, fX12_passes n)] 2 <| K 75) <| jk_aload 0 <| jk_iload 2 <| jk_vcall [(11, fX12_misuse n)] 1 <| K 75) <| jk_aload 0 <| jk_get [11] 24 <| jk_iload 1 <| jk_iald <| jk_ifle (K 24) <| jk_aload 0 <| jk_get [11] 24 <| jk_iload 1 <| jk_dup2 <| jk_iald <| jk_int 1 <| jk_isub <| jk_iast <| K 24
set_option maxRecDepth 100000 in
set_option maxHeartbeats 4000000 in
theorem tX12_gate_0 (l : Launch) (n : Nat) {K : Nat → jK} (hK : ∀ b, jr_D l cX12_gate 5 "MeetingKitModel" (Option.none : Option Jvm.ClassFile.FieldType) "gate" 4 90 (K b) b) : jr_D l cX12_gate 5 "MeetingKitModel" (Option.none : Option Jvm.ClassFile.FieldType) "gate" 4 90 (kX12_gate_0 n K) 0 := by
  unfold kX12_gate_0
  refine js_iload_n dX12_gate_0 ?_
  refine js_iconst dX12_gate_1 ?_
  refine js_icmpne (tgt := 38) dX12_gate_2 (by decide) ?_ ?_
  · refine js_iload_n dX12_gate_38 ?_
    refine js_ifeq (tgt := 50) dX12_gate_39 (by decide) ?_ ?_
    · refine js_aload_n dX12_gate_50 ?_
      refine js_get dX12_gate_51 jf_24_11 tw_986 (Or.inl rfl) ?_
      refine js_iload_n dX12_gate_54 ?_
      refine js_iald dX12_gate_55 ?_
      refine js_ifne (tgt := 68) dX12_gate_56 (by decide) ?_ ?_
      · refine js_aload_n dX12_gate_68 ?_
        refine js_iload_n dX12_gate_69 ?_
        refine js_callv dX12_gate_70 (⟨⟨_, _, _, _, _, _, _, ⟨rfl, (show (11 : Nat) < 20 by decide), sX12_waits l n, by decide, by decide, tw_1208, tw_103, tw_1207⟩, Or.inl ⟨by decide +kernel, by decide +kernel, by decide +kernel, tw_1205, tw_83⟩⟩, trivial⟩) ?_
        refine js_istore dX12_gate_73 (by decide) ?_
        exact hK 75
      · refine js_aload_n dX12_gate_59 ?_
        refine js_iload_n dX12_gate_60 ?_
        refine js_iconst dX12_gate_61 ?_
        refine js_callv dX12_gate_62 (⟨⟨_, _, _, _, _, _, _, ⟨rfl, (show (11 : Nat) < 20 by decide), sX12_passes l n, by decide, by decide, tw_1172, tw_103, tw_1171⟩, Or.inl ⟨by decide +kernel, by decide +kernel, by decide +kernel, tw_1169, tw_74⟩⟩, trivial⟩) ?_
        refine js_goto (tgt := 75) dX12_gate_65 (by decide) ?_
        exact hK 75
    · refine js_aload_n dX12_gate_42 ?_
      refine js_iload_n dX12_gate_43 ?_
      refine js_callv dX12_gate_44 (⟨⟨_, _, _, _, _, _, _, ⟨rfl, (show (11 : Nat) < 20 by decide), sX12_misuse l n, by decide, by decide, tw_1204, tw_103, tw_1203⟩, Or.inl ⟨by decide +kernel, by decide +kernel, by decide +kernel, tw_1201, tw_82⟩⟩, trivial⟩) ?_
      refine js_goto (tgt := 75) dX12_gate_47 (by decide) ?_
      exact hK 75
  · refine js_aload_n dX12_gate_5 ?_
    refine js_get dX12_gate_6 jf_24_11 tw_986 (Or.inl rfl) ?_
    refine js_iload_n dX12_gate_9 ?_
    refine js_iald dX12_gate_10 ?_
    refine js_ifle (tgt := 24) dX12_gate_11 (by decide) ?_ ?_
    · exact hK 24
    · refine js_aload_n dX12_gate_14 ?_
      refine js_get dX12_gate_15 jf_24_11 tw_986 (Or.inl rfl) ?_
      refine js_iload_n dX12_gate_18 ?_
      refine js_dup2 dX12_gate_19 ?_
      refine js_iald dX12_gate_20 ?_
      refine js_iconst dX12_gate_21 ?_
      refine js_isub dX12_gate_22 ?_
      refine js_iast dX12_gate_23 ?_
      exact hK 24
def kX12_gate_24 (n : Nat) (K : Nat → jK) : jK := jk_kill 3 <| jk_aload 0 <| jk_iload 2 <| jk_aload 0 <| jk_get [11] 24 <| jk_iload 1 <| jk_iald <| jk_vcall [(11, fX12_passes n)] 2 <| K 75
set_option maxRecDepth 100000 in
set_option maxHeartbeats 4000000 in
theorem tX12_gate_24 (l : Launch) (n : Nat) {K : Nat → jK} (hK : ∀ b, jr_D l cX12_gate 5 "MeetingKitModel" (Option.none : Option Jvm.ClassFile.FieldType) "gate" 4 90 (K b) b) : jr_D l cX12_gate 5 "MeetingKitModel" (Option.none : Option Jvm.ClassFile.FieldType) "gate" 4 90 (kX12_gate_24 n K) 24 := by
  unfold kX12_gate_24
  refine js_kill ?_
  refine js_aload_n dX12_gate_24 ?_
  refine js_iload_n dX12_gate_25 ?_
  refine js_aload_n dX12_gate_26 ?_
  refine js_get dX12_gate_27 jf_24_11 tw_986 (Or.inl rfl) ?_
  refine js_iload_n dX12_gate_30 ?_
  refine js_iald dX12_gate_31 ?_
  refine js_callv dX12_gate_32 (⟨⟨_, _, _, _, _, _, _, ⟨rfl, (show (11 : Nat) < 20 by decide), sX12_passes l n, by decide, by decide, tw_1172, tw_103, tw_1171⟩, Or.inl ⟨by decide +kernel, by decide +kernel, by decide +kernel, tw_1169, tw_74⟩⟩, trivial⟩) ?_
  refine js_goto (tgt := 75) dX12_gate_35 (by decide) ?_
  exact hK 75
def kX12_gate_75 (n : Nat) (K : Nat → jK) : jK := jk_kill 0 <| jk_kill 1 <| jk_kill 2 <| jk_kill 3 <| jk_kill 4 <| jk_vret
set_option maxRecDepth 100000 in
set_option maxHeartbeats 4000000 in
theorem tX12_gate_75 (l : Launch) (n : Nat) {K : Nat → jK} (hK : ∀ b, jr_D l cX12_gate 5 "MeetingKitModel" (Option.none : Option Jvm.ClassFile.FieldType) "gate" 4 90 (K b) b) : jr_D l cX12_gate 5 "MeetingKitModel" (Option.none : Option Jvm.ClassFile.FieldType) "gate" 4 90 (kX12_gate_75 n K) 75 := by
  unfold kX12_gate_75
  refine js_kill ?_
  refine js_kill ?_
  refine js_kill ?_
  refine js_kill ?_
  refine js_kill ?_
  exact js_vret dX12_gate_75 rfl
def kX12_gate_b (n : Nat) (K : Nat → jK) (b : Nat) : jK := if b = 0 then kX12_gate_0 n K else if b = 24 then kX12_gate_24 n K else if b = 75 then kX12_gate_75 n K else jk_none
def kX12_gate (n : Nat) : jK := jk_fix (kX12_gate_b n) n 0
theorem tX12_gate (l : Launch) (n : Nat) : jr_D l cX12_gate 5 "MeetingKitModel" (Option.none : Option Jvm.ClassFile.FieldType) "gate" 4 90 (kX12_gate n) 0 := js_fix (F := kX12_gate_b n) (fun K hK b => js_blk (tX12_gate_0 l n hK) (js_blk (tX12_gate_24 l n hK) (js_blk (tX12_gate_75 l n hK) (js_none)))) n 0
def fX12_gate (n : Nat) : jF := jm_run 4 5 (kX12_gate n)
theorem sX12_gate (l : Launch) (n : Nat) : jr_F l (⟨"MeetingKitModel", "gate", "(III)V"⟩ : MethodName) cX12_gate 5 (Option.none : Option Jvm.ClassFile.FieldType) 4 90 (fX12_gate n) := js_met (by decide +kernel) (by decide) (tX12_gate l n)
theorem dX12_barrier_0 : decode cX12_barrier 0 = .ok (.iload_n 3, 1) := by decide +kernel
theorem dX12_barrier_1 : decode cX12_barrier 1 = .ok (.iconst 1, 1) := by decide +kernel
theorem dX12_barrier_2 : decode cX12_barrier 2 = .ok (.if_icmp .ne 25, 3) := by decide +kernel
theorem dX12_barrier_5 : decode cX12_barrier 5 = .ok (.aload_n 0, 1) := by decide +kernel
theorem dX12_barrier_6 : decode cX12_barrier 6 = .ok (.iload_n 2, 1) := by decide +kernel
theorem dX12_barrier_7 : decode cX12_barrier 7 = .ok (.iconst 0, 1) := by decide +kernel
theorem dX12_barrier_8 : decode cX12_barrier 8 = .ok (.invokevirtual 165, 3) := by decide +kernel
theorem dX12_barrier_11 : decode cX12_barrier 11 = .ok (.aload_n 0, 1) := by decide +kernel
theorem dX12_barrier_12 : decode cX12_barrier 12 = .ok (.iload_n 1, 1) := by decide +kernel
theorem dX12_barrier_13 : decode cX12_barrier 13 = .ok (.iconst 5, 1) := by decide +kernel
theorem dX12_barrier_14 : decode cX12_barrier 14 = .ok (.invokevirtual 153, 3) := by decide +kernel
theorem dX12_barrier_17 : decode cX12_barrier 17 = .ok (.aload_n 0, 1) := by decide +kernel
theorem dX12_barrier_18 : decode cX12_barrier 18 = .ok (.getfield 76, 3) := by decide +kernel
theorem dX12_barrier_21 : decode cX12_barrier 21 = .ok (.iload_n 1, 1) := by decide +kernel
theorem dX12_barrier_22 : decode cX12_barrier 22 = .ok (.iconst 0, 1) := by decide +kernel
theorem dX12_barrier_23 : decode cX12_barrier 23 = .ok (.iastore, 1) := by decide +kernel
theorem dX12_barrier_24 : decode cX12_barrier 24 = .ok (.goto 134, 3) := by decide +kernel
theorem dX12_barrier_27 : decode cX12_barrier 27 = .ok (.iload_n 3, 1) := by decide +kernel
theorem dX12_barrier_28 : decode cX12_barrier 28 = .ok (.iconst 2, 1) := by decide +kernel
theorem dX12_barrier_29 : decode cX12_barrier 29 = .ok (.if_icmp .ne 17, 3) := by decide +kernel
theorem dX12_barrier_32 : decode cX12_barrier 32 = .ok (.aload_n 0, 1) := by decide +kernel
theorem dX12_barrier_33 : decode cX12_barrier 33 = .ok (.iload_n 2, 1) := by decide +kernel
theorem dX12_barrier_34 : decode cX12_barrier 34 = .ok (.aload_n 0, 1) := by decide +kernel
theorem dX12_barrier_35 : decode cX12_barrier 35 = .ok (.getfield 76, 3) := by decide +kernel
theorem dX12_barrier_38 : decode cX12_barrier 38 = .ok (.iload_n 1, 1) := by decide +kernel
theorem dX12_barrier_39 : decode cX12_barrier 39 = .ok (.iaload, 1) := by decide +kernel
theorem dX12_barrier_40 : decode cX12_barrier 40 = .ok (.invokevirtual 165, 3) := by decide +kernel
theorem dX12_barrier_43 : decode cX12_barrier 43 = .ok (.goto 115, 3) := by decide +kernel
theorem dX12_barrier_46 : decode cX12_barrier 46 = .ok (.iload_n 3, 1) := by decide +kernel
theorem dX12_barrier_47 : decode cX12_barrier 47 = .ok (.ifCond .eq 11, 3) := by decide +kernel
theorem dX12_barrier_50 : decode cX12_barrier 50 = .ok (.aload_n 0, 1) := by decide +kernel
theorem dX12_barrier_51 : decode cX12_barrier 51 = .ok (.iload_n 2, 1) := by decide +kernel
theorem dX12_barrier_52 : decode cX12_barrier 52 = .ok (.invokevirtual 192, 3) := by decide +kernel
theorem dX12_barrier_55 : decode cX12_barrier 55 = .ok (.goto 103, 3) := by decide +kernel
theorem dX12_barrier_58 : decode cX12_barrier 58 = .ok (.aload_n 0, 1) := by decide +kernel
theorem dX12_barrier_59 : decode cX12_barrier 59 = .ok (.getfield 76, 3) := by decide +kernel
theorem dX12_barrier_62 : decode cX12_barrier 62 = .ok (.iload_n 1, 1) := by decide +kernel
theorem dX12_barrier_63 : decode cX12_barrier 63 = .ok (.iaload, 1) := by decide +kernel
theorem dX12_barrier_64 : decode cX12_barrier 64 = .ok (.iconst 1, 1) := by decide +kernel
theorem dX12_barrier_65 : decode cX12_barrier 65 = .ok (.if_icmp .ne 13, 3) := by decide +kernel
theorem dX12_barrier_68 : decode cX12_barrier 68 = .ok (.aload_n 0, 1) := by decide +kernel
theorem dX12_barrier_69 : decode cX12_barrier 69 = .ok (.iload_n 2, 1) := by decide +kernel
theorem dX12_barrier_70 : decode cX12_barrier 70 = .ok (.iconst 5, 1) := by decide +kernel
theorem dX12_barrier_71 : decode cX12_barrier 71 = .ok (.iconst 0, 1) := by decide +kernel
theorem dX12_barrier_72 : decode cX12_barrier 72 = .ok (.invokevirtual 149, 3) := by decide +kernel
theorem dX12_barrier_75 : decode cX12_barrier 75 = .ok (.goto 83, 3) := by decide +kernel
theorem dX12_barrier_78 : decode cX12_barrier 78 = .ok (.aload_n 0, 1) := by decide +kernel
theorem dX12_barrier_79 : decode cX12_barrier 79 = .ok (.getfield 70, 3) := by decide +kernel
theorem dX12_barrier_82 : decode cX12_barrier 82 = .ok (.iload_n 1, 1) := by decide +kernel
theorem dX12_barrier_83 : decode cX12_barrier 83 = .ok (.iaload, 1) := by decide +kernel
theorem dX12_barrier_84 : decode cX12_barrier 84 = .ok (.iconst 1, 1) := by decide +kernel
theorem dX12_barrier_85 : decode cX12_barrier 85 = .ok (.iadd, 1) := by decide +kernel
theorem dX12_barrier_86 : decode cX12_barrier 86 = .ok (.aload_n 0, 1) := by decide +kernel
theorem dX12_barrier_87 : decode cX12_barrier 87 = .ok (.getfield 58, 3) := by decide +kernel
theorem dX12_barrier_90 : decode cX12_barrier 90 = .ok (.iload_n 1, 1) := by decide +kernel
theorem dX12_barrier_91 : decode cX12_barrier 91 = .ok (.iaload, 1) := by decide +kernel
theorem dX12_barrier_92 : decode cX12_barrier 92 = .ok (.if_icmp .ne 47, 3) := by decide +kernel
theorem dX12_barrier_95 : decode cX12_barrier 95 = .ok (.aload_n 0, 1) := by decide +kernel
theorem dX12_barrier_96 : decode cX12_barrier 96 = .ok (.iload_n 2, 1) := by decide +kernel
theorem dX12_barrier_97 : decode cX12_barrier 97 = .ok (.aload_n 0, 1) := by decide +kernel
theorem dX12_barrier_98 : decode cX12_barrier 98 = .ok (.getfield 70, 3) := by decide +kernel
theorem dX12_barrier_101 : decode cX12_barrier 101 = .ok (.iload_n 1, 1) := by decide +kernel
theorem dX12_barrier_102 : decode cX12_barrier 102 = .ok (.iaload, 1) := by decide +kernel
theorem dX12_barrier_103 : decode cX12_barrier 103 = .ok (.invokevirtual 165, 3) := by decide +kernel
theorem dX12_barrier_106 : decode cX12_barrier 106 = .ok (.aload_n 0, 1) := by decide +kernel
theorem dX12_barrier_107 : decode cX12_barrier 107 = .ok (.getfield 70, 3) := by decide +kernel
theorem dX12_barrier_110 : decode cX12_barrier 110 = .ok (.iload_n 1, 1) := by decide +kernel
theorem dX12_barrier_111 : decode cX12_barrier 111 = .ok (.iaload, 1) := by decide +kernel
theorem dX12_barrier_112 : decode cX12_barrier 112 = .ok (.ifCond .le 46, 3) := by decide +kernel
theorem dX12_barrier_115 : decode cX12_barrier 115 = .ok (.aload_n 0, 1) := by decide +kernel
theorem dX12_barrier_116 : decode cX12_barrier 116 = .ok (.aload_n 0, 1) := by decide +kernel
theorem dX12_barrier_117 : decode cX12_barrier 117 = .ok (.iload_n 1, 1) := by decide +kernel
theorem dX12_barrier_118 : decode cX12_barrier 118 = .ok (.iconst 0, 1) := by decide +kernel
theorem dX12_barrier_119 : decode cX12_barrier 119 = .ok (.invokevirtual 157, 3) := by decide +kernel
theorem dX12_barrier_122 : decode cX12_barrier 122 = .ok (.aload_n 0, 1) := by decide +kernel
theorem dX12_barrier_123 : decode cX12_barrier 123 = .ok (.getfield 25, 3) := by decide +kernel
theorem dX12_barrier_126 : decode cX12_barrier 126 = .ok (.aload_n 0, 1) := by decide +kernel
theorem dX12_barrier_127 : decode cX12_barrier 127 = .ok (.iload_n 1, 1) := by decide +kernel
theorem dX12_barrier_128 : decode cX12_barrier 128 = .ok (.iconst 0, 1) := by decide +kernel
theorem dX12_barrier_129 : decode cX12_barrier 129 = .ok (.invokevirtual 157, 3) := by decide +kernel
theorem dX12_barrier_132 : decode cX12_barrier 132 = .ok (.iaload, 1) := by decide +kernel
theorem dX12_barrier_133 : decode cX12_barrier 133 = .ok (.invokevirtual 174, 3) := by decide +kernel
theorem dX12_barrier_136 : decode cX12_barrier 136 = .ok (.goto (-30), 3) := by decide +kernel
theorem dX12_barrier_139 : decode cX12_barrier 139 = .ok (.aload_n 0, 1) := by decide +kernel
theorem dX12_barrier_140 : decode cX12_barrier 140 = .ok (.getfield 25, 3) := by decide +kernel
theorem dX12_barrier_143 : decode cX12_barrier 143 = .ok (.iload_n 2, 1) := by decide +kernel
theorem dX12_barrier_144 : decode cX12_barrier 144 = .ok (.aload_n 0, 1) := by decide +kernel
theorem dX12_barrier_145 : decode cX12_barrier 145 = .ok (.getfield 70, 3) := by decide +kernel
theorem dX12_barrier_148 : decode cX12_barrier 148 = .ok (.iload_n 1, 1) := by decide +kernel
theorem dX12_barrier_149 : decode cX12_barrier 149 = .ok (.iaload, 1) := by decide +kernel
theorem dX12_barrier_150 : decode cX12_barrier 150 = .ok (.iastore, 1) := by decide +kernel
theorem dX12_barrier_151 : decode cX12_barrier 151 = .ok (.aload_n 0, 1) := by decide +kernel
theorem dX12_barrier_152 : decode cX12_barrier 152 = .ok (.iload_n 2, 1) := by decide +kernel
theorem dX12_barrier_153 : decode cX12_barrier 153 = .ok (.invokevirtual 195, 3) := by decide +kernel
theorem dX12_barrier_156 : decode cX12_barrier 156 = .ok (.istore 4, 2) := by decide +kernel
theorem dX12_barrier_158 : decode cX12_barrier 158 = .ok (.return_, 1) := by decide +kernel
def kX12_barrier_0 (n : Nat) (K : Nat → jK) : jK := jk_iload 3 <| jk_int 1 <| jk_icmpne (jk_iload 3 <| jk_int 2 <| jk_icmpne (jk_iload 3 <| jk_ifeq (jk_aload 0 <| jk_get [11] 25 <| jk_iload 1 <| jk_iald <| jk_int 1 <| jk_icmpne (jk_aload 0 <| jk_get [11] 23 <| jk_iload 1 <| jk_iald <| jk_int 1 <| jk_iadd <| jk_aload 0 <| jk_get [11] 19 <| jk_iload 1 <| jk_iald <| jk_icmpne (jk_aload 0 <| jk_get [11] 8 <| jk_iload 2 <| jk_aload 0 <| jk_get [11] 23 <| jk_iload 1 <| jk_iald <| jk_iast <| jk_aload 0 <| jk_iload 2 <| jk_vcall [(11, fX12_waits n)] 1 <| jk_istore 4 <| K 158) <| jk_aload 0 <| jk_iload 2 <| jk_aload 0 <| jk_get [11] 23 <| jk_iload 1 <| jk_iald <| jk_vcall [(11, fX12_passes n)] 2 <| K 106) <| jk_aload 0 <| jk_iload 2 <| jk_int 5 <| jk_int 0 <| jk_vcall [(11, fX12_ends n)] 3 <| K 158) <| jk_aload 0 <| jk_iload 2 <| jk_vcall [(11, fX12_misuse n)] 1 <| K 158) <| jk_aload 0 <| jk_iload 2 <| jk_aload 0 <| jk_get [11] 25 <| jk_iload 1 <| jk_iald <| jk_vcall [(11, fX12_passes n)] 2 <| K 158) <| jk_aload 0 <| jk_iload 2 <| jk_int 0 <| jk_vcall [(11, fX12_passes n)] 2 <| jk_aload 0 <| jk_iload 1 <| jk_int 5 <| jk_vcall [(11, fX12_allEnd n)] 2 <| jk_aload 0 <| jk_get [11] 25 <| jk_iload 1 <| jk_int 0 <| jk_iast <| K 158
set_option maxRecDepth 100000 in
set_option maxHeartbeats 4000000 in
theorem tX12_barrier_0 (l : Launch) (n : Nat) {K : Nat → jK} (hK : ∀ b, jr_D l cX12_barrier 5 "MeetingKitModel" (Option.none : Option Jvm.ClassFile.FieldType) "barrier" 4 90 (K b) b) : jr_D l cX12_barrier 5 "MeetingKitModel" (Option.none : Option Jvm.ClassFile.FieldType) "barrier" 4 90 (kX12_barrier_0 n K) 0 := by
  unfold kX12_barrier_0
  refine js_iload_n dX12_barrier_0 ?_
  refine js_iconst dX12_barrier_1 ?_
  refine js_icmpne (tgt := 27) dX12_barrier_2 (by decide) ?_ ?_
  · refine js_iload_n dX12_barrier_27 ?_
    refine js_iconst dX12_barrier_28 ?_
    refine js_icmpne (tgt := 46) dX12_barrier_29 (by decide) ?_ ?_
    · refine js_iload_n dX12_barrier_46 ?_
      refine js_ifeq (tgt := 58) dX12_barrier_47 (by decide) ?_ ?_
      · refine js_aload_n dX12_barrier_58 ?_
        refine js_get dX12_barrier_59 jf_25_11 tw_987 (Or.inl rfl) ?_
        refine js_iload_n dX12_barrier_62 ?_
        refine js_iald dX12_barrier_63 ?_
        refine js_iconst dX12_barrier_64 ?_
        refine js_icmpne (tgt := 78) dX12_barrier_65 (by decide) ?_ ?_
        · refine js_aload_n dX12_barrier_78 ?_
          refine js_get dX12_barrier_79 jf_23_11 tw_985 (Or.inl rfl) ?_
          refine js_iload_n dX12_barrier_82 ?_
          refine js_iald dX12_barrier_83 ?_
          refine js_iconst dX12_barrier_84 ?_
          refine js_iadd dX12_barrier_85 ?_
          refine js_aload_n dX12_barrier_86 ?_
          refine js_get dX12_barrier_87 jf_19_11 tw_981 (Or.inl rfl) ?_
          refine js_iload_n dX12_barrier_90 ?_
          refine js_iald dX12_barrier_91 ?_
          refine js_icmpne (tgt := 139) dX12_barrier_92 (by decide) ?_ ?_
          · refine js_aload_n dX12_barrier_139 ?_
            refine js_get dX12_barrier_140 jf_8_11 tw_970 (Or.inl rfl) ?_
            refine js_iload_n dX12_barrier_143 ?_
            refine js_aload_n dX12_barrier_144 ?_
            refine js_get dX12_barrier_145 jf_23_11 tw_985 (Or.inl rfl) ?_
            refine js_iload_n dX12_barrier_148 ?_
            refine js_iald dX12_barrier_149 ?_
            refine js_iast dX12_barrier_150 ?_
            refine js_aload_n dX12_barrier_151 ?_
            refine js_iload_n dX12_barrier_152 ?_
            refine js_callv dX12_barrier_153 (⟨⟨_, _, _, _, _, _, _, ⟨rfl, (show (11 : Nat) < 20 by decide), sX12_waits l n, by decide, by decide, tw_1208, tw_103, tw_1207⟩, Or.inl ⟨by decide +kernel, by decide +kernel, by decide +kernel, tw_1205, tw_83⟩⟩, trivial⟩) ?_
            refine js_istore dX12_barrier_156 (by decide) ?_
            exact hK 158
          · refine js_aload_n dX12_barrier_95 ?_
            refine js_iload_n dX12_barrier_96 ?_
            refine js_aload_n dX12_barrier_97 ?_
            refine js_get dX12_barrier_98 jf_23_11 tw_985 (Or.inl rfl) ?_
            refine js_iload_n dX12_barrier_101 ?_
            refine js_iald dX12_barrier_102 ?_
            refine js_callv dX12_barrier_103 (⟨⟨_, _, _, _, _, _, _, ⟨rfl, (show (11 : Nat) < 20 by decide), sX12_passes l n, by decide, by decide, tw_1172, tw_103, tw_1171⟩, Or.inl ⟨by decide +kernel, by decide +kernel, by decide +kernel, tw_1169, tw_74⟩⟩, trivial⟩) ?_
            exact hK 106
        · refine js_aload_n dX12_barrier_68 ?_
          refine js_iload_n dX12_barrier_69 ?_
          refine js_iconst dX12_barrier_70 ?_
          refine js_iconst dX12_barrier_71 ?_
          refine js_callv dX12_barrier_72 (⟨⟨_, _, _, _, _, _, _, ⟨rfl, (show (11 : Nat) < 20 by decide), sX12_ends l n, by decide, by decide, tw_1148, tw_103, tw_1147⟩, Or.inl ⟨by decide +kernel, by decide +kernel, by decide +kernel, tw_1145, tw_68⟩⟩, trivial⟩) ?_
          refine js_goto (tgt := 158) dX12_barrier_75 (by decide) ?_
          exact hK 158
      · refine js_aload_n dX12_barrier_50 ?_
        refine js_iload_n dX12_barrier_51 ?_
        refine js_callv dX12_barrier_52 (⟨⟨_, _, _, _, _, _, _, ⟨rfl, (show (11 : Nat) < 20 by decide), sX12_misuse l n, by decide, by decide, tw_1204, tw_103, tw_1203⟩, Or.inl ⟨by decide +kernel, by decide +kernel, by decide +kernel, tw_1201, tw_82⟩⟩, trivial⟩) ?_
        refine js_goto (tgt := 158) dX12_barrier_55 (by decide) ?_
        exact hK 158
    · refine js_aload_n dX12_barrier_32 ?_
      refine js_iload_n dX12_barrier_33 ?_
      refine js_aload_n dX12_barrier_34 ?_
      refine js_get dX12_barrier_35 jf_25_11 tw_987 (Or.inl rfl) ?_
      refine js_iload_n dX12_barrier_38 ?_
      refine js_iald dX12_barrier_39 ?_
      refine js_callv dX12_barrier_40 (⟨⟨_, _, _, _, _, _, _, ⟨rfl, (show (11 : Nat) < 20 by decide), sX12_passes l n, by decide, by decide, tw_1172, tw_103, tw_1171⟩, Or.inl ⟨by decide +kernel, by decide +kernel, by decide +kernel, tw_1169, tw_74⟩⟩, trivial⟩) ?_
      refine js_goto (tgt := 158) dX12_barrier_43 (by decide) ?_
      exact hK 158
  · refine js_aload_n dX12_barrier_5 ?_
    refine js_iload_n dX12_barrier_6 ?_
    refine js_iconst dX12_barrier_7 ?_
    refine js_callv dX12_barrier_8 (⟨⟨_, _, _, _, _, _, _, ⟨rfl, (show (11 : Nat) < 20 by decide), sX12_passes l n, by decide, by decide, tw_1172, tw_103, tw_1171⟩, Or.inl ⟨by decide +kernel, by decide +kernel, by decide +kernel, tw_1169, tw_74⟩⟩, trivial⟩) ?_
    refine js_aload_n dX12_barrier_11 ?_
    refine js_iload_n dX12_barrier_12 ?_
    refine js_iconst dX12_barrier_13 ?_
    refine js_callv dX12_barrier_14 (⟨⟨_, _, _, _, _, _, _, ⟨rfl, (show (11 : Nat) < 20 by decide), sX12_allEnd l n, by decide, by decide, tw_1152, tw_103, tw_1151⟩, Or.inl ⟨by decide +kernel, by decide +kernel, by decide +kernel, tw_1149, tw_69⟩⟩, trivial⟩) ?_
    refine js_aload_n dX12_barrier_17 ?_
    refine js_get dX12_barrier_18 jf_25_11 tw_987 (Or.inl rfl) ?_
    refine js_iload_n dX12_barrier_21 ?_
    refine js_iconst dX12_barrier_22 ?_
    refine js_iast dX12_barrier_23 ?_
    refine js_goto (tgt := 158) dX12_barrier_24 (by decide) ?_
    exact hK 158
def kX12_barrier_106 (n : Nat) (K : Nat → jK) : jK := jk_kill 2 <| jk_kill 3 <| jk_aload 0 <| jk_get [11] 23 <| jk_iload 1 <| jk_iald <| jk_ifle (K 158) <| jk_aload 0 <| jk_aload 0 <| jk_iload 1 <| jk_int 0 <| jk_vcall [(11, fX12_inLine n)] 2 <| jk_aload 0 <| jk_get [11] 8 <| jk_aload 0 <| jk_iload 1 <| jk_int 0 <| jk_vcall [(11, fX12_inLine n)] 2 <| jk_iald <| jk_vcall [(11, fX12_goes n)] 2 <| K 106
set_option maxRecDepth 100000 in
set_option maxHeartbeats 4000000 in
theorem tX12_barrier_106 (l : Launch) (n : Nat) {K : Nat → jK} (hK : ∀ b, jr_D l cX12_barrier 5 "MeetingKitModel" (Option.none : Option Jvm.ClassFile.FieldType) "barrier" 4 90 (K b) b) : jr_D l cX12_barrier 5 "MeetingKitModel" (Option.none : Option Jvm.ClassFile.FieldType) "barrier" 4 90 (kX12_barrier_106 n K) 106 := by
  unfold kX12_barrier_106
  refine js_kill ?_
  refine js_kill ?_
  refine js_aload_n dX12_barrier_106 ?_
  refine js_get dX12_barrier_107 jf_23_11 tw_985 (Or.inl rfl) ?_
  refine js_iload_n dX12_barrier_110 ?_
  refine js_iald dX12_barrier_111 ?_
  refine js_ifle (tgt := 158) dX12_barrier_112 (by decide) ?_ ?_
  · exact hK 158
  · refine js_aload_n dX12_barrier_115 ?_
    refine js_aload_n dX12_barrier_116 ?_
    refine js_iload_n dX12_barrier_117 ?_
    refine js_iconst dX12_barrier_118 ?_
    refine js_callv dX12_barrier_119 (⟨⟨_, _, _, _, _, _, _, ⟨rfl, (show (11 : Nat) < 20 by decide), sX12_inLine l n, by decide, by decide, tw_1144, tw_103, tw_1143⟩, Or.inl ⟨by decide +kernel, by decide +kernel, by decide +kernel, tw_1141, tw_67⟩⟩, trivial⟩) ?_
    refine js_aload_n dX12_barrier_122 ?_
    refine js_get dX12_barrier_123 jf_8_11 tw_970 (Or.inl rfl) ?_
    refine js_aload_n dX12_barrier_126 ?_
    refine js_iload_n dX12_barrier_127 ?_
    refine js_iconst dX12_barrier_128 ?_
    refine js_callv dX12_barrier_129 (⟨⟨_, _, _, _, _, _, _, ⟨rfl, (show (11 : Nat) < 20 by decide), sX12_inLine l n, by decide, by decide, tw_1144, tw_103, tw_1143⟩, Or.inl ⟨by decide +kernel, by decide +kernel, by decide +kernel, tw_1141, tw_67⟩⟩, trivial⟩) ?_
    refine js_iald dX12_barrier_132 ?_
    refine js_callv dX12_barrier_133 (⟨⟨_, _, _, _, _, _, _, ⟨rfl, (show (11 : Nat) < 20 by decide), sX12_goes l n, by decide, by decide, tw_1168, tw_103, tw_1167⟩, Or.inl ⟨by decide +kernel, by decide +kernel, by decide +kernel, tw_1165, tw_73⟩⟩, trivial⟩) ?_
    refine js_goto (tgt := 106) dX12_barrier_136 (by decide) ?_
    exact hK 106
def kX12_barrier_158 (n : Nat) (K : Nat → jK) : jK := jk_kill 0 <| jk_kill 1 <| jk_kill 2 <| jk_kill 3 <| jk_kill 4 <| jk_vret
set_option maxRecDepth 100000 in
set_option maxHeartbeats 4000000 in
theorem tX12_barrier_158 (l : Launch) (n : Nat) {K : Nat → jK} (hK : ∀ b, jr_D l cX12_barrier 5 "MeetingKitModel" (Option.none : Option Jvm.ClassFile.FieldType) "barrier" 4 90 (K b) b) : jr_D l cX12_barrier 5 "MeetingKitModel" (Option.none : Option Jvm.ClassFile.FieldType) "barrier" 4 90 (kX12_barrier_158 n K) 158 := by
  unfold kX12_barrier_158
  refine js_kill ?_
  refine js_kill ?_
  refine js_kill ?_
  refine js_kill ?_
  refine js_kill ?_
  exact js_vret dX12_barrier_158 rfl
def kX12_barrier_b (n : Nat) (K : Nat → jK) (b : Nat) : jK := if b = 0 then kX12_barrier_0 n K else if b = 106 then kX12_barrier_106 n K else if b = 158 then kX12_barrier_158 n K else jk_none
def kX12_barrier (n : Nat) : jK := jk_fix (kX12_barrier_b n) n 0
theorem tX12_barrier (l : Launch) (n : Nat) : jr_D l cX12_barrier 5 "MeetingKitModel" (Option.none : Option Jvm.ClassFile.FieldType) "barrier" 4 90 (kX12_barrier n) 0 := js_fix (F := kX12_barrier_b n) (fun K hK b => js_blk (tX12_barrier_0 l n hK) (js_blk (tX12_barrier_106 l n hK) (js_blk (tX12_barrier_158 l n hK) (js_none)))) n 0
def fX12_barrier (n : Nat) : jF := jm_run 4 5 (kX12_barrier n)
theorem sX12_barrier (l : Launch) (n : Nat) : jr_F l (⟨"MeetingKitModel", "barrier", "(III)V"⟩ : MethodName) cX12_barrier 5 (Option.none : Option Jvm.ClassFile.FieldType) 4 90 (fX12_barrier n) := js_met (by decide +kernel) (by decide) (tX12_barrier l n)
theorem dX12_exchange_0 : decode cX12_exchange 0 = .ok (.iload_n 3, 1) := by decide +kernel
theorem dX12_exchange_1 : decode cX12_exchange 1 = .ok (.ifCond .eq 11, 3) := by decide +kernel
theorem dX12_exchange_4 : decode cX12_exchange 4 = .ok (.aload_n 0, 1) := by decide +kernel
theorem dX12_exchange_5 : decode cX12_exchange 5 = .ok (.iload_n 2, 1) := by decide +kernel
theorem dX12_exchange_6 : decode cX12_exchange 6 = .ok (.invokevirtual 192, 3) := by decide +kernel
theorem dX12_exchange_9 : decode cX12_exchange 9 = .ok (.goto 49, 3) := by decide +kernel
theorem dX12_exchange_12 : decode cX12_exchange 12 = .ok (.aload_n 0, 1) := by decide +kernel
theorem dX12_exchange_13 : decode cX12_exchange 13 = .ok (.getfield 70, 3) := by decide +kernel
theorem dX12_exchange_16 : decode cX12_exchange 16 = .ok (.iload_n 1, 1) := by decide +kernel
theorem dX12_exchange_17 : decode cX12_exchange 17 = .ok (.iaload, 1) := by decide +kernel
theorem dX12_exchange_18 : decode cX12_exchange 18 = .ok (.ifCond .ne 13, 3) := by decide +kernel
theorem dX12_exchange_21 : decode cX12_exchange 21 = .ok (.aload_n 0, 1) := by decide +kernel
theorem dX12_exchange_22 : decode cX12_exchange 22 = .ok (.iload_n 2, 1) := by decide +kernel
theorem dX12_exchange_23 : decode cX12_exchange 23 = .ok (.invokevirtual 195, 3) := by decide +kernel
theorem dX12_exchange_26 : decode cX12_exchange 26 = .ok (.istore 5, 2) := by decide +kernel
theorem dX12_exchange_28 : decode cX12_exchange 28 = .ok (.goto 30, 3) := by decide +kernel
theorem dX12_exchange_31 : decode cX12_exchange 31 = .ok (.aload_n 0, 1) := by decide +kernel
theorem dX12_exchange_32 : decode cX12_exchange 32 = .ok (.iload_n 1, 1) := by decide +kernel
theorem dX12_exchange_33 : decode cX12_exchange 33 = .ok (.iconst 0, 1) := by decide +kernel
theorem dX12_exchange_34 : decode cX12_exchange 34 = .ok (.invokevirtual 157, 3) := by decide +kernel
theorem dX12_exchange_37 : decode cX12_exchange 37 = .ok (.istore 5, 2) := by decide +kernel
theorem dX12_exchange_39 : decode cX12_exchange 39 = .ok (.aload_n 0, 1) := by decide +kernel
theorem dX12_exchange_40 : decode cX12_exchange 40 = .ok (.iload_n 2, 1) := by decide +kernel
theorem dX12_exchange_41 : decode cX12_exchange 41 = .ok (.aload_n 0, 1) := by decide +kernel
theorem dX12_exchange_42 : decode cX12_exchange 42 = .ok (.iload 5, 2) := by decide +kernel
theorem dX12_exchange_44 : decode cX12_exchange 44 = .ok (.invokevirtual 171, 3) := by decide +kernel
theorem dX12_exchange_47 : decode cX12_exchange 47 = .ok (.invokevirtual 165, 3) := by decide +kernel
theorem dX12_exchange_50 : decode cX12_exchange 50 = .ok (.aload_n 0, 1) := by decide +kernel
theorem dX12_exchange_51 : decode cX12_exchange 51 = .ok (.iload 5, 2) := by decide +kernel
theorem dX12_exchange_53 : decode cX12_exchange 53 = .ok (.iload 4, 2) := by decide +kernel
theorem dX12_exchange_55 : decode cX12_exchange 55 = .ok (.invokevirtual 174, 3) := by decide +kernel
theorem dX12_exchange_58 : decode cX12_exchange 58 = .ok (.return_, 1) := by decide +kernel
def kX12_exchange_0 (n : Nat) (K : Nat → jK) : jK := jk_iload 3 <| jk_ifeq (jk_aload 0 <| jk_get [11] 23 <| jk_iload 1 <| jk_iald <| jk_ifne (jk_aload 0 <| jk_iload 1 <| jk_int 0 <| jk_vcall [(11, fX12_inLine n)] 2 <| jk_istore 5 <| jk_aload 0 <| jk_iload 2 <| jk_aload 0 <| jk_iload 5 <| jk_vcall [(11, fX12_numberOf n)] 1 <| jk_vcall [(11, fX12_passes n)] 2 <| jk_aload 0 <| jk_iload 5 <| jk_iload 4 <| jk_vcall [(11, fX12_goes n)] 2 <| K 58) <| jk_aload 0 <| jk_iload 2 <| jk_vcall [(11, fX12_waits n)] 1 <| jk_istore 5 <| K 58) <| jk_aload 0 <| jk_iload 2 <| jk_vcall [(11, fX12_misuse n)] 1 <| K 58
set_option maxRecDepth 100000 in
set_option maxHeartbeats 4000000 in
theorem tX12_exchange_0 (l : Launch) (n : Nat) {K : Nat → jK} (hK : ∀ b, jr_D l cX12_exchange 6 "MeetingKitModel" (Option.none : Option Jvm.ClassFile.FieldType) "exchange" 4 90 (K b) b) : jr_D l cX12_exchange 6 "MeetingKitModel" (Option.none : Option Jvm.ClassFile.FieldType) "exchange" 4 90 (kX12_exchange_0 n K) 0 := by
  unfold kX12_exchange_0
  refine js_iload_n dX12_exchange_0 ?_
  refine js_ifeq (tgt := 12) dX12_exchange_1 (by decide) ?_ ?_
  · refine js_aload_n dX12_exchange_12 ?_
    refine js_get dX12_exchange_13 jf_23_11 tw_985 (Or.inl rfl) ?_
    refine js_iload_n dX12_exchange_16 ?_
    refine js_iald dX12_exchange_17 ?_
    refine js_ifne (tgt := 31) dX12_exchange_18 (by decide) ?_ ?_
    · refine js_aload_n dX12_exchange_31 ?_
      refine js_iload_n dX12_exchange_32 ?_
      refine js_iconst dX12_exchange_33 ?_
      refine js_callv dX12_exchange_34 (⟨⟨_, _, _, _, _, _, _, ⟨rfl, (show (11 : Nat) < 20 by decide), sX12_inLine l n, by decide, by decide, tw_1144, tw_103, tw_1143⟩, Or.inl ⟨by decide +kernel, by decide +kernel, by decide +kernel, tw_1141, tw_67⟩⟩, trivial⟩) ?_
      refine js_istore dX12_exchange_37 (by decide) ?_
      refine js_aload_n dX12_exchange_39 ?_
      refine js_iload_n dX12_exchange_40 ?_
      refine js_aload_n dX12_exchange_41 ?_
      refine js_iload dX12_exchange_42 ?_
      refine js_callv dX12_exchange_44 (⟨⟨_, _, _, _, _, _, _, ⟨rfl, (show (11 : Nat) < 20 by decide), sX12_numberOf l n, by decide, by decide, tw_1164, tw_103, tw_1163⟩, Or.inl ⟨by decide +kernel, by decide +kernel, by decide +kernel, tw_1161, tw_72⟩⟩, trivial⟩) ?_
      refine js_callv dX12_exchange_47 (⟨⟨_, _, _, _, _, _, _, ⟨rfl, (show (11 : Nat) < 20 by decide), sX12_passes l n, by decide, by decide, tw_1172, tw_103, tw_1171⟩, Or.inl ⟨by decide +kernel, by decide +kernel, by decide +kernel, tw_1169, tw_74⟩⟩, trivial⟩) ?_
      refine js_aload_n dX12_exchange_50 ?_
      refine js_iload dX12_exchange_51 ?_
      refine js_iload dX12_exchange_53 ?_
      refine js_callv dX12_exchange_55 (⟨⟨_, _, _, _, _, _, _, ⟨rfl, (show (11 : Nat) < 20 by decide), sX12_goes l n, by decide, by decide, tw_1168, tw_103, tw_1167⟩, Or.inl ⟨by decide +kernel, by decide +kernel, by decide +kernel, tw_1165, tw_73⟩⟩, trivial⟩) ?_
      exact hK 58
    · refine js_aload_n dX12_exchange_21 ?_
      refine js_iload_n dX12_exchange_22 ?_
      refine js_callv dX12_exchange_23 (⟨⟨_, _, _, _, _, _, _, ⟨rfl, (show (11 : Nat) < 20 by decide), sX12_waits l n, by decide, by decide, tw_1208, tw_103, tw_1207⟩, Or.inl ⟨by decide +kernel, by decide +kernel, by decide +kernel, tw_1205, tw_83⟩⟩, trivial⟩) ?_
      refine js_istore dX12_exchange_26 (by decide) ?_
      refine js_goto (tgt := 58) dX12_exchange_28 (by decide) ?_
      exact hK 58
  · refine js_aload_n dX12_exchange_4 ?_
    refine js_iload_n dX12_exchange_5 ?_
    refine js_callv dX12_exchange_6 (⟨⟨_, _, _, _, _, _, _, ⟨rfl, (show (11 : Nat) < 20 by decide), sX12_misuse l n, by decide, by decide, tw_1204, tw_103, tw_1203⟩, Or.inl ⟨by decide +kernel, by decide +kernel, by decide +kernel, tw_1201, tw_82⟩⟩, trivial⟩) ?_
    refine js_goto (tgt := 58) dX12_exchange_9 (by decide) ?_
    exact hK 58
def kX12_exchange_58 (n : Nat) (K : Nat → jK) : jK := jk_kill 0 <| jk_kill 1 <| jk_kill 2 <| jk_kill 3 <| jk_kill 4 <| jk_kill 5 <| jk_vret
set_option maxRecDepth 100000 in
set_option maxHeartbeats 4000000 in
theorem tX12_exchange_58 (l : Launch) (n : Nat) {K : Nat → jK} (hK : ∀ b, jr_D l cX12_exchange 6 "MeetingKitModel" (Option.none : Option Jvm.ClassFile.FieldType) "exchange" 4 90 (K b) b) : jr_D l cX12_exchange 6 "MeetingKitModel" (Option.none : Option Jvm.ClassFile.FieldType) "exchange" 4 90 (kX12_exchange_58 n K) 58 := by
  unfold kX12_exchange_58
  refine js_kill ?_
  refine js_kill ?_
  refine js_kill ?_
  refine js_kill ?_
  refine js_kill ?_
  refine js_kill ?_
  exact js_vret dX12_exchange_58 rfl
def kX12_exchange_b (n : Nat) (K : Nat → jK) (b : Nat) : jK := if b = 0 then kX12_exchange_0 n K else if b = 58 then kX12_exchange_58 n K else jk_none
def kX12_exchange (n : Nat) : jK := jk_fix (kX12_exchange_b n) n 0
theorem tX12_exchange (l : Launch) (n : Nat) : jr_D l cX12_exchange 6 "MeetingKitModel" (Option.none : Option Jvm.ClassFile.FieldType) "exchange" 4 90 (kX12_exchange n) 0 := js_fix (F := kX12_exchange_b n) (fun K hK b => js_blk (tX12_exchange_0 l n hK) (js_blk (tX12_exchange_58 l n hK) (js_none))) n 0
def fX12_exchange (n : Nat) : jF := jm_run 5 6 (kX12_exchange n)
theorem sX12_exchange (l : Launch) (n : Nat) : jr_F l (⟨"MeetingKitModel", "exchange", "(IIII)V"⟩ : MethodName) cX12_exchange 6 (Option.none : Option Jvm.ClassFile.FieldType) 4 90 (fX12_exchange n) := js_met (by decide +kernel) (by decide) (tX12_exchange l n)
theorem dX12_lock_0 : decode cX12_lock 0 = .ok (.bipush 16, 2) := by decide +kernel
theorem dX12_lock_2 : decode cX12_lock 2 = .ok (.iload_n 1, 1) := by decide +kernel
theorem dX12_lock_3 : decode cX12_lock 3 = .ok (.imul, 1) := by decide +kernel
theorem dX12_lock_4 : decode cX12_lock 4 = .ok (.iload_n 2, 1) := by decide +kernel
theorem dX12_lock_5 : decode cX12_lock 5 = .ok (.iadd, 1) := by decide +kernel
theorem dX12_lock_6 : decode cX12_lock 6 = .ok (.istore 4, 2) := by decide +kernel
theorem dX12_lock_8 : decode cX12_lock 8 = .ok (.aload_n 0, 1) := by decide +kernel
theorem dX12_lock_9 : decode cX12_lock 9 = .ok (.getfield 79, 3) := by decide +kernel
theorem dX12_lock_12 : decode cX12_lock 12 = .ok (.iload_n 1, 1) := by decide +kernel
theorem dX12_lock_13 : decode cX12_lock 13 = .ok (.iaload, 1) := by decide +kernel
theorem dX12_lock_14 : decode cX12_lock 14 = .ok (.iload_n 2, 1) := by decide +kernel
theorem dX12_lock_15 : decode cX12_lock 15 = .ok (.if_icmp .ne 7, 3) := by decide +kernel
theorem dX12_lock_18 : decode cX12_lock 18 = .ok (.iconst 1, 1) := by decide +kernel
theorem dX12_lock_19 : decode cX12_lock 19 = .ok (.goto 4, 3) := by decide +kernel
theorem dX12_lock_22 : decode cX12_lock 22 = .ok (.iconst 0, 1) := by decide +kernel
theorem dX12_lock_23 : decode cX12_lock 23 = .ok (.istore 5, 2) := by decide +kernel
theorem dX12_lock_25 : decode cX12_lock 25 = .ok (.iload 5, 2) := by decide +kernel
theorem dX12_lock_27 : decode cX12_lock 27 = .ok (.ifCond .ne 14, 3) := by decide +kernel
theorem dX12_lock_30 : decode cX12_lock 30 = .ok (.aload_n 0, 1) := by decide +kernel
theorem dX12_lock_31 : decode cX12_lock 31 = .ok (.getfield 88, 3) := by decide +kernel
theorem dX12_lock_34 : decode cX12_lock 34 = .ok (.iload 4, 2) := by decide +kernel
theorem dX12_lock_36 : decode cX12_lock 36 = .ok (.iaload, 1) := by decide +kernel
theorem dX12_lock_37 : decode cX12_lock 37 = .ok (.iconst 1, 1) := by decide +kernel
theorem dX12_lock_38 : decode cX12_lock 38 = .ok (.if_icmp .ne 7, 3) := by decide +kernel
theorem dX12_lock_41 : decode cX12_lock 41 = .ok (.iconst 1, 1) := by decide +kernel
theorem dX12_lock_42 : decode cX12_lock 42 = .ok (.goto 4, 3) := by decide +kernel
theorem dX12_lock_45 : decode cX12_lock 45 = .ok (.iconst 0, 1) := by decide +kernel
theorem dX12_lock_46 : decode cX12_lock 46 = .ok (.istore 6, 2) := by decide +kernel
theorem dX12_lock_48 : decode cX12_lock 48 = .ok (.aload_n 0, 1) := by decide +kernel
theorem dX12_lock_49 : decode cX12_lock 49 = .ok (.getfield 70, 3) := by decide +kernel
theorem dX12_lock_52 : decode cX12_lock 52 = .ok (.iload_n 1, 1) := by decide +kernel
theorem dX12_lock_53 : decode cX12_lock 53 = .ok (.iaload, 1) := by decide +kernel
theorem dX12_lock_54 : decode cX12_lock 54 = .ok (.ifCond .ne 16, 3) := by decide +kernel
theorem dX12_lock_57 : decode cX12_lock 57 = .ok (.aload_n 0, 1) := by decide +kernel
theorem dX12_lock_58 : decode cX12_lock 58 = .ok (.getfield 79, 3) := by decide +kernel
theorem dX12_lock_61 : decode cX12_lock 61 = .ok (.iload_n 1, 1) := by decide +kernel
theorem dX12_lock_62 : decode cX12_lock 62 = .ok (.iaload, 1) := by decide +kernel
theorem dX12_lock_63 : decode cX12_lock 63 = .ok (.ifCond .ge 7, 3) := by decide +kernel
theorem dX12_lock_66 : decode cX12_lock 66 = .ok (.iconst 1, 1) := by decide +kernel
theorem dX12_lock_67 : decode cX12_lock 67 = .ok (.goto 4, 3) := by decide +kernel
theorem dX12_lock_70 : decode cX12_lock 70 = .ok (.iconst 0, 1) := by decide +kernel
theorem dX12_lock_71 : decode cX12_lock 71 = .ok (.istore 7, 2) := by decide +kernel
theorem dX12_lock_73 : decode cX12_lock 73 = .ok (.iload_n 3, 1) := by decide +kernel
theorem dX12_lock_74 : decode cX12_lock 74 = .ok (.iconst 2, 1) := by decide +kernel
theorem dX12_lock_75 : decode cX12_lock 75 = .ok (.if_icmp .ge 16, 3) := by decide +kernel
theorem dX12_lock_78 : decode cX12_lock 78 = .ok (.iload 6, 2) := by decide +kernel
theorem dX12_lock_80 : decode cX12_lock 80 = .ok (.ifCond .ne 7, 3) := by decide +kernel
theorem dX12_lock_83 : decode cX12_lock 83 = .ok (.iconst 1, 1) := by decide +kernel
theorem dX12_lock_84 : decode cX12_lock 84 = .ok (.goto 65, 3) := by decide +kernel
theorem dX12_lock_87 : decode cX12_lock 87 = .ok (.iconst 0, 1) := by decide +kernel
theorem dX12_lock_88 : decode cX12_lock 88 = .ok (.goto 61, 3) := by decide +kernel
theorem dX12_lock_91 : decode cX12_lock 91 = .ok (.iload_n 3, 1) := by decide +kernel
theorem dX12_lock_92 : decode cX12_lock 92 = .ok (.iconst 2, 1) := by decide +kernel
theorem dX12_lock_93 : decode cX12_lock 93 = .ok (.if_icmp .ne 8, 3) := by decide +kernel
theorem dX12_lock_96 : decode cX12_lock 96 = .ok (.iload 6, 2) := by decide +kernel
theorem dX12_lock_98 : decode cX12_lock 98 = .ok (.goto 51, 3) := by decide +kernel
theorem dX12_lock_101 : decode cX12_lock 101 = .ok (.iload_n 3, 1) := by decide +kernel
theorem dX12_lock_102 : decode cX12_lock 102 = .ok (.iconst 3, 1) := by decide +kernel
theorem dX12_lock_103 : decode cX12_lock 103 = .ok (.if_icmp .ne 31, 3) := by decide +kernel
theorem dX12_lock_106 : decode cX12_lock 106 = .ok (.aload_n 0, 1) := by decide +kernel
theorem dX12_lock_107 : decode cX12_lock 107 = .ok (.getfield 88, 3) := by decide +kernel
theorem dX12_lock_110 : decode cX12_lock 110 = .ok (.iload 4, 2) := by decide +kernel
theorem dX12_lock_112 : decode cX12_lock 112 = .ok (.iaload, 1) := by decide +kernel
theorem dX12_lock_113 : decode cX12_lock 113 = .ok (.iconst 1, 1) := by decide +kernel
theorem dX12_lock_114 : decode cX12_lock 114 = .ok (.if_icmp .ne 16, 3) := by decide +kernel
theorem dX12_lock_117 : decode cX12_lock 117 = .ok (.aload_n 0, 1) := by decide +kernel
theorem dX12_lock_118 : decode cX12_lock 118 = .ok (.getfield 85, 3) := by decide +kernel
theorem dX12_lock_121 : decode cX12_lock 121 = .ok (.iload_n 1, 1) := by decide +kernel
theorem dX12_lock_122 : decode cX12_lock 122 = .ok (.iaload, 1) := by decide +kernel
theorem dX12_lock_123 : decode cX12_lock 123 = .ok (.ifCond .ge 7, 3) := by decide +kernel
theorem dX12_lock_126 : decode cX12_lock 126 = .ok (.iconst 1, 1) := by decide +kernel
theorem dX12_lock_127 : decode cX12_lock 127 = .ok (.goto 22, 3) := by decide +kernel
theorem dX12_lock_130 : decode cX12_lock 130 = .ok (.iconst 0, 1) := by decide +kernel
theorem dX12_lock_131 : decode cX12_lock 131 = .ok (.goto 18, 3) := by decide +kernel
theorem dX12_lock_134 : decode cX12_lock 134 = .ok (.iload_n 3, 1) := by decide +kernel
theorem dX12_lock_135 : decode cX12_lock 135 = .ok (.iconst 4, 1) := by decide +kernel
theorem dX12_lock_136 : decode cX12_lock 136 = .ok (.if_icmp .ne 12, 3) := by decide +kernel
theorem dX12_lock_139 : decode cX12_lock 139 = .ok (.iload 5, 2) := by decide +kernel
theorem dX12_lock_141 : decode cX12_lock 141 = .ok (.ifCond .eq 7, 3) := by decide +kernel
theorem dX12_lock_144 : decode cX12_lock 144 = .ok (.iconst 1, 1) := by decide +kernel
theorem dX12_lock_145 : decode cX12_lock 145 = .ok (.goto 4, 3) := by decide +kernel
theorem dX12_lock_148 : decode cX12_lock 148 = .ok (.iconst 0, 1) := by decide +kernel
theorem dX12_lock_149 : decode cX12_lock 149 = .ok (.istore 8, 2) := by decide +kernel
theorem dX12_lock_151 : decode cX12_lock 151 = .ok (.iload 8, 2) := by decide +kernel
theorem dX12_lock_153 : decode cX12_lock 153 = .ok (.ifCond .ne 9, 3) := by decide +kernel
theorem dX12_lock_156 : decode cX12_lock 156 = .ok (.aload_n 0, 1) := by decide +kernel
theorem dX12_lock_157 : decode cX12_lock 157 = .ok (.iload_n 2, 1) := by decide +kernel
theorem dX12_lock_158 : decode cX12_lock 158 = .ok (.invokevirtual 192, 3) := by decide +kernel
theorem dX12_lock_161 : decode cX12_lock 161 = .ok (.return_, 1) := by decide +kernel
theorem dX12_lock_162 : decode cX12_lock 162 = .ok (.iload_n 3, 1) := by decide +kernel
theorem dX12_lock_163 : decode cX12_lock 163 = .ok (.ifCond .ne 8, 3) := by decide +kernel
theorem dX12_lock_166 : decode cX12_lock 166 = .ok (.iload 7, 2) := by decide +kernel
theorem dX12_lock_168 : decode cX12_lock 168 = .ok (.goto 48, 3) := by decide +kernel
theorem dX12_lock_171 : decode cX12_lock 171 = .ok (.iload_n 3, 1) := by decide +kernel
theorem dX12_lock_172 : decode cX12_lock 172 = .ok (.iconst 1, 1) := by decide +kernel
theorem dX12_lock_173 : decode cX12_lock 173 = .ok (.if_icmp .ne 24, 3) := by decide +kernel
theorem dX12_lock_176 : decode cX12_lock 176 = .ok (.iload 7, 2) := by decide +kernel
theorem dX12_lock_178 : decode cX12_lock 178 = .ok (.ifCond .eq 15, 3) := by decide +kernel
theorem dX12_lock_181 : decode cX12_lock 181 = .ok (.aload_n 0, 1) := by decide +kernel
theorem dX12_lock_182 : decode cX12_lock 182 = .ok (.iload_n 1, 1) := by decide +kernel
theorem dX12_lock_183 : decode cX12_lock 183 = .ok (.invokevirtual 183, 3) := by decide +kernel
theorem dX12_lock_186 : decode cX12_lock 186 = .ok (.ifCond .ne 7, 3) := by decide +kernel
theorem dX12_lock_189 : decode cX12_lock 189 = .ok (.iconst 1, 1) := by decide +kernel
theorem dX12_lock_190 : decode cX12_lock 190 = .ok (.goto 26, 3) := by decide +kernel
theorem dX12_lock_193 : decode cX12_lock 193 = .ok (.iconst 0, 1) := by decide +kernel
theorem dX12_lock_194 : decode cX12_lock 194 = .ok (.goto 22, 3) := by decide +kernel
theorem dX12_lock_197 : decode cX12_lock 197 = .ok (.iload_n 3, 1) := by decide +kernel
theorem dX12_lock_198 : decode cX12_lock 198 = .ok (.iconst 3, 1) := by decide +kernel
theorem dX12_lock_199 : decode cX12_lock 199 = .ok (.if_icmp .ne 12, 3) := by decide +kernel
theorem dX12_lock_202 : decode cX12_lock 202 = .ok (.aload_n 0, 1) := by decide +kernel
theorem dX12_lock_203 : decode cX12_lock 203 = .ok (.iload_n 1, 1) := by decide +kernel
theorem dX12_lock_204 : decode cX12_lock 204 = .ok (.invokevirtual 183, 3) := by decide +kernel
theorem dX12_lock_207 : decode cX12_lock 207 = .ok (.iconst 1, 1) := by decide +kernel
theorem dX12_lock_208 : decode cX12_lock 208 = .ok (.if_icmp .ne 7, 3) := by decide +kernel
theorem dX12_lock_211 : decode cX12_lock 211 = .ok (.iconst 1, 1) := by decide +kernel
theorem dX12_lock_212 : decode cX12_lock 212 = .ok (.goto 4, 3) := by decide +kernel
theorem dX12_lock_215 : decode cX12_lock 215 = .ok (.iconst 0, 1) := by decide +kernel
theorem dX12_lock_216 : decode cX12_lock 216 = .ok (.istore 9, 2) := by decide +kernel
theorem dX12_lock_218 : decode cX12_lock 218 = .ok (.iload 9, 2) := by decide +kernel
theorem dX12_lock_220 : decode cX12_lock 220 = .ok (.ifCond .ne 24, 3) := by decide +kernel
theorem dX12_lock_223 : decode cX12_lock 223 = .ok (.aload_n 0, 1) := by decide +kernel
theorem dX12_lock_224 : decode cX12_lock 224 = .ok (.iload_n 2, 1) := by decide +kernel
theorem dX12_lock_225 : decode cX12_lock 225 = .ok (.invokevirtual 195, 3) := by decide +kernel
theorem dX12_lock_228 : decode cX12_lock 228 = .ok (.ifCond .eq 15, 3) := by decide +kernel
theorem dX12_lock_231 : decode cX12_lock 231 = .ok (.iload_n 3, 1) := by decide +kernel
theorem dX12_lock_232 : decode cX12_lock 232 = .ok (.iconst 3, 1) := by decide +kernel
theorem dX12_lock_233 : decode cX12_lock 233 = .ok (.if_icmp .ne 10, 3) := by decide +kernel
theorem dX12_lock_236 : decode cX12_lock 236 = .ok (.aload_n 0, 1) := by decide +kernel
theorem dX12_lock_237 : decode cX12_lock 237 = .ok (.getfield 85, 3) := by decide +kernel
theorem dX12_lock_240 : decode cX12_lock 240 = .ok (.iload_n 1, 1) := by decide +kernel
theorem dX12_lock_241 : decode cX12_lock 241 = .ok (.iload_n 2, 1) := by decide +kernel
theorem dX12_lock_242 : decode cX12_lock 242 = .ok (.iastore, 1) := by decide +kernel
theorem dX12_lock_243 : decode cX12_lock 243 = .ok (.return_, 1) := by decide +kernel
theorem dX12_lock_244 : decode cX12_lock 244 = .ok (.iload_n 3, 1) := by decide +kernel
theorem dX12_lock_245 : decode cX12_lock 245 = .ok (.iconst 2, 1) := by decide +kernel
theorem dX12_lock_246 : decode cX12_lock 246 = .ok (.if_icmp .eq 8, 3) := by decide +kernel
theorem dX12_lock_249 : decode cX12_lock 249 = .ok (.iload_n 3, 1) := by decide +kernel
theorem dX12_lock_250 : decode cX12_lock 250 = .ok (.iconst 3, 1) := by decide +kernel
theorem dX12_lock_251 : decode cX12_lock 251 = .ok (.if_icmp .ne 11, 3) := by decide +kernel
theorem dX12_lock_254 : decode cX12_lock 254 = .ok (.aload_n 0, 1) := by decide +kernel
theorem dX12_lock_255 : decode cX12_lock 255 = .ok (.getfield 88, 3) := by decide +kernel
theorem dX12_lock_258 : decode cX12_lock 258 = .ok (.iload 4, 2) := by decide +kernel
theorem dX12_lock_260 : decode cX12_lock 260 = .ok (.iconst 0, 1) := by decide +kernel
theorem dX12_lock_261 : decode cX12_lock 261 = .ok (.iastore, 1) := by decide +kernel
theorem dX12_lock_262 : decode cX12_lock 262 = .ok (.iload_n 3, 1) := by decide +kernel
theorem dX12_lock_263 : decode cX12_lock 263 = .ok (.ifCond .eq 8, 3) := by decide +kernel
theorem dX12_lock_266 : decode cX12_lock 266 = .ok (.iload_n 3, 1) := by decide +kernel
theorem dX12_lock_267 : decode cX12_lock 267 = .ok (.iconst 4, 1) := by decide +kernel
theorem dX12_lock_268 : decode cX12_lock 268 = .ok (.if_icmp .ne 11, 3) := by decide +kernel
theorem dX12_lock_271 : decode cX12_lock 271 = .ok (.aload_n 0, 1) := by decide +kernel
theorem dX12_lock_272 : decode cX12_lock 272 = .ok (.getfield 88, 3) := by decide +kernel
theorem dX12_lock_275 : decode cX12_lock 275 = .ok (.iload 4, 2) := by decide +kernel
theorem dX12_lock_277 : decode cX12_lock 277 = .ok (.iconst 1, 1) := by decide +kernel
theorem dX12_lock_278 : decode cX12_lock 278 = .ok (.iastore, 1) := by decide +kernel
theorem dX12_lock_279 : decode cX12_lock 279 = .ok (.iload_n 3, 1) := by decide +kernel
theorem dX12_lock_280 : decode cX12_lock 280 = .ok (.iconst 1, 1) := by decide +kernel
theorem dX12_lock_281 : decode cX12_lock 281 = .ok (.if_icmp .eq 8, 3) := by decide +kernel
theorem dX12_lock_284 : decode cX12_lock 284 = .ok (.iload_n 3, 1) := by decide +kernel
theorem dX12_lock_285 : decode cX12_lock 285 = .ok (.iconst 3, 1) := by decide +kernel
theorem dX12_lock_286 : decode cX12_lock 286 = .ok (.if_icmp .ne 10, 3) := by decide +kernel
theorem dX12_lock_289 : decode cX12_lock 289 = .ok (.aload_n 0, 1) := by decide +kernel
theorem dX12_lock_290 : decode cX12_lock 290 = .ok (.getfield 79, 3) := by decide +kernel
theorem dX12_lock_293 : decode cX12_lock 293 = .ok (.iload_n 1, 1) := by decide +kernel
theorem dX12_lock_294 : decode cX12_lock 294 = .ok (.iload_n 2, 1) := by decide +kernel
theorem dX12_lock_295 : decode cX12_lock 295 = .ok (.iastore, 1) := by decide +kernel
theorem dX12_lock_296 : decode cX12_lock 296 = .ok (.iload 5, 2) := by decide +kernel
theorem dX12_lock_298 : decode cX12_lock 298 = .ok (.ifCond .eq 10, 3) := by decide +kernel
theorem dX12_lock_301 : decode cX12_lock 301 = .ok (.aload_n 0, 1) := by decide +kernel
theorem dX12_lock_302 : decode cX12_lock 302 = .ok (.getfield 79, 3) := by decide +kernel
theorem dX12_lock_305 : decode cX12_lock 305 = .ok (.iload_n 1, 1) := by decide +kernel
theorem dX12_lock_306 : decode cX12_lock 306 = .ok (.iconst (-1), 1) := by decide +kernel
theorem dX12_lock_307 : decode cX12_lock 307 = .ok (.iastore, 1) := by decide +kernel
theorem dX12_lock_308 : decode cX12_lock 308 = .ok (.aload_n 0, 1) := by decide +kernel
theorem dX12_lock_309 : decode cX12_lock 309 = .ok (.iload_n 2, 1) := by decide +kernel
theorem dX12_lock_310 : decode cX12_lock 310 = .ok (.iconst 0, 1) := by decide +kernel
theorem dX12_lock_311 : decode cX12_lock 311 = .ok (.invokevirtual 165, 3) := by decide +kernel
theorem dX12_lock_314 : decode cX12_lock 314 = .ok (.return_, 1) := by decide +kernel
def kX12_lock_0 (n : Nat) (K : Nat → jK) : jK := jk_int 16 <| jk_iload 1 <| jk_imul <| jk_iload 2 <| jk_iadd <| jk_istore 4 <| jk_aload 0 <| jk_get [11] 26 <| jk_iload 1 <| jk_iald <| jk_iload 2 <| jk_icmpne (jk_int 0 <| K 23) <| jk_int 1 <| K 23
set_option maxRecDepth 100000 in
set_option maxHeartbeats 4000000 in
theorem tX12_lock_0 (l : Launch) (n : Nat) {K : Nat → jK} (hK : ∀ b, jr_D l cX12_lock 10 "MeetingKitModel" (Option.none : Option Jvm.ClassFile.FieldType) "lock" 4 90 (K b) b) : jr_D l cX12_lock 10 "MeetingKitModel" (Option.none : Option Jvm.ClassFile.FieldType) "lock" 4 90 (kX12_lock_0 n K) 0 := by
  unfold kX12_lock_0
  refine js_bipush dX12_lock_0 ?_
  refine js_iload_n dX12_lock_2 ?_
  refine js_imul dX12_lock_3 ?_
  refine js_iload_n dX12_lock_4 ?_
  refine js_iadd dX12_lock_5 ?_
  refine js_istore dX12_lock_6 (by decide) ?_
  refine js_aload_n dX12_lock_8 ?_
  refine js_get dX12_lock_9 jf_26_11 tw_988 (Or.inl rfl) ?_
  refine js_iload_n dX12_lock_12 ?_
  refine js_iald dX12_lock_13 ?_
  refine js_iload_n dX12_lock_14 ?_
  refine js_icmpne (tgt := 22) dX12_lock_15 (by decide) ?_ ?_
  · refine js_iconst dX12_lock_22 ?_
    exact hK 23
  · refine js_iconst dX12_lock_18 ?_
    refine js_goto (tgt := 23) dX12_lock_19 (by decide) ?_
    exact hK 23
def kX12_lock_23 (n : Nat) (K : Nat → jK) : jK := jk_istore 5 <| jk_iload 5 <| jk_ifne (K 41) <| jk_aload 0 <| jk_get [11] 29 <| jk_iload 4 <| jk_iald <| jk_int 1 <| jk_icmpne (jk_int 0 <| K 46) <| K 41
set_option maxRecDepth 100000 in
set_option maxHeartbeats 4000000 in
theorem tX12_lock_23 (l : Launch) (n : Nat) {K : Nat → jK} (hK : ∀ b, jr_D l cX12_lock 10 "MeetingKitModel" (Option.none : Option Jvm.ClassFile.FieldType) "lock" 4 90 (K b) b) : jr_D l cX12_lock 10 "MeetingKitModel" (Option.none : Option Jvm.ClassFile.FieldType) "lock" 4 90 (kX12_lock_23 n K) 23 := by
  unfold kX12_lock_23
  refine js_istore dX12_lock_23 (by decide) ?_
  refine js_iload dX12_lock_25 ?_
  refine js_ifne (tgt := 41) dX12_lock_27 (by decide) ?_ ?_
  · exact hK 41
  · refine js_aload_n dX12_lock_30 ?_
    refine js_get dX12_lock_31 jf_29_11 tw_991 (Or.inl rfl) ?_
    refine js_iload dX12_lock_34 ?_
    refine js_iald dX12_lock_36 ?_
    refine js_iconst dX12_lock_37 ?_
    refine js_icmpne (tgt := 45) dX12_lock_38 (by decide) ?_ ?_
    · refine js_iconst dX12_lock_45 ?_
      exact hK 46
    · exact hK 41
def kX12_lock_41 (n : Nat) (K : Nat → jK) : jK := jk_int 1 <| K 46
set_option maxRecDepth 100000 in
set_option maxHeartbeats 4000000 in
theorem tX12_lock_41 (l : Launch) (n : Nat) {K : Nat → jK} (hK : ∀ b, jr_D l cX12_lock 10 "MeetingKitModel" (Option.none : Option Jvm.ClassFile.FieldType) "lock" 4 90 (K b) b) : jr_D l cX12_lock 10 "MeetingKitModel" (Option.none : Option Jvm.ClassFile.FieldType) "lock" 4 90 (kX12_lock_41 n K) 41 := by
  unfold kX12_lock_41
  refine js_iconst dX12_lock_41 ?_
  refine js_goto (tgt := 46) dX12_lock_42 (by decide) ?_
  exact hK 46
def kX12_lock_46 (n : Nat) (K : Nat → jK) : jK := jk_istore 6 <| jk_aload 0 <| jk_get [11] 23 <| jk_iload 1 <| jk_iald <| jk_ifne (K 70) <| jk_aload 0 <| jk_get [11] 26 <| jk_iload 1 <| jk_iald <| jk_ifge (K 70) <| jk_int 1 <| K 71
set_option maxRecDepth 100000 in
set_option maxHeartbeats 4000000 in
theorem tX12_lock_46 (l : Launch) (n : Nat) {K : Nat → jK} (hK : ∀ b, jr_D l cX12_lock 10 "MeetingKitModel" (Option.none : Option Jvm.ClassFile.FieldType) "lock" 4 90 (K b) b) : jr_D l cX12_lock 10 "MeetingKitModel" (Option.none : Option Jvm.ClassFile.FieldType) "lock" 4 90 (kX12_lock_46 n K) 46 := by
  unfold kX12_lock_46
  refine js_istore dX12_lock_46 (by decide) ?_
  refine js_aload_n dX12_lock_48 ?_
  refine js_get dX12_lock_49 jf_23_11 tw_985 (Or.inl rfl) ?_
  refine js_iload_n dX12_lock_52 ?_
  refine js_iald dX12_lock_53 ?_
  refine js_ifne (tgt := 70) dX12_lock_54 (by decide) ?_ ?_
  · exact hK 70
  · refine js_aload_n dX12_lock_57 ?_
    refine js_get dX12_lock_58 jf_26_11 tw_988 (Or.inl rfl) ?_
    refine js_iload_n dX12_lock_61 ?_
    refine js_iald dX12_lock_62 ?_
    refine js_ifge (tgt := 70) dX12_lock_63 (by decide) ?_ ?_
    · exact hK 70
    · refine js_iconst dX12_lock_66 ?_
      refine js_goto (tgt := 71) dX12_lock_67 (by decide) ?_
      exact hK 71
def kX12_lock_70 (n : Nat) (K : Nat → jK) : jK := jk_int 0 <| K 71
set_option maxRecDepth 100000 in
set_option maxHeartbeats 4000000 in
theorem tX12_lock_70 (l : Launch) (n : Nat) {K : Nat → jK} (hK : ∀ b, jr_D l cX12_lock 10 "MeetingKitModel" (Option.none : Option Jvm.ClassFile.FieldType) "lock" 4 90 (K b) b) : jr_D l cX12_lock 10 "MeetingKitModel" (Option.none : Option Jvm.ClassFile.FieldType) "lock" 4 90 (kX12_lock_70 n K) 70 := by
  unfold kX12_lock_70
  refine js_iconst dX12_lock_70 ?_
  exact hK 71
def kX12_lock_71 (n : Nat) (K : Nat → jK) : jK := jk_istore 7 <| jk_iload 3 <| jk_int 2 <| jk_icmpge (jk_iload 3 <| jk_int 2 <| jk_icmpne (jk_iload 3 <| jk_int 3 <| jk_icmpne (jk_iload 3 <| jk_int 4 <| jk_icmpne (K 148) <| jk_iload 5 <| jk_ifeq (K 148) <| jk_int 1 <| K 149) <| jk_aload 0 <| jk_get [11] 29 <| jk_iload 4 <| jk_iald <| jk_int 1 <| jk_icmpne (K 130) <| jk_aload 0 <| jk_get [11] 28 <| jk_iload 1 <| jk_iald <| jk_ifge (K 130) <| jk_int 1 <| K 149) <| jk_iload 6 <| K 149) <| jk_iload 6 <| jk_ifne (jk_int 0 <| K 149) <| jk_int 1 <| K 149
set_option maxRecDepth 100000 in
set_option maxHeartbeats 4000000 in
theorem tX12_lock_71 (l : Launch) (n : Nat) {K : Nat → jK} (hK : ∀ b, jr_D l cX12_lock 10 "MeetingKitModel" (Option.none : Option Jvm.ClassFile.FieldType) "lock" 4 90 (K b) b) : jr_D l cX12_lock 10 "MeetingKitModel" (Option.none : Option Jvm.ClassFile.FieldType) "lock" 4 90 (kX12_lock_71 n K) 71 := by
  unfold kX12_lock_71
  refine js_istore dX12_lock_71 (by decide) ?_
  refine js_iload_n dX12_lock_73 ?_
  refine js_iconst dX12_lock_74 ?_
  refine js_icmpge (tgt := 91) dX12_lock_75 (by decide) ?_ ?_
  · refine js_iload_n dX12_lock_91 ?_
    refine js_iconst dX12_lock_92 ?_
    refine js_icmpne (tgt := 101) dX12_lock_93 (by decide) ?_ ?_
    · refine js_iload_n dX12_lock_101 ?_
      refine js_iconst dX12_lock_102 ?_
      refine js_icmpne (tgt := 134) dX12_lock_103 (by decide) ?_ ?_
      · refine js_iload_n dX12_lock_134 ?_
        refine js_iconst dX12_lock_135 ?_
        refine js_icmpne (tgt := 148) dX12_lock_136 (by decide) ?_ ?_
        · exact hK 148
        · refine js_iload dX12_lock_139 ?_
          refine js_ifeq (tgt := 148) dX12_lock_141 (by decide) ?_ ?_
          · exact hK 148
          · refine js_iconst dX12_lock_144 ?_
            refine js_goto (tgt := 149) dX12_lock_145 (by decide) ?_
            exact hK 149
      · refine js_aload_n dX12_lock_106 ?_
        refine js_get dX12_lock_107 jf_29_11 tw_991 (Or.inl rfl) ?_
        refine js_iload dX12_lock_110 ?_
        refine js_iald dX12_lock_112 ?_
        refine js_iconst dX12_lock_113 ?_
        refine js_icmpne (tgt := 130) dX12_lock_114 (by decide) ?_ ?_
        · exact hK 130
        · refine js_aload_n dX12_lock_117 ?_
          refine js_get dX12_lock_118 jf_28_11 tw_990 (Or.inl rfl) ?_
          refine js_iload_n dX12_lock_121 ?_
          refine js_iald dX12_lock_122 ?_
          refine js_ifge (tgt := 130) dX12_lock_123 (by decide) ?_ ?_
          · exact hK 130
          · refine js_iconst dX12_lock_126 ?_
            refine js_goto (tgt := 149) dX12_lock_127 (by decide) ?_
            exact hK 149
    · refine js_iload dX12_lock_96 ?_
      refine js_goto (tgt := 149) dX12_lock_98 (by decide) ?_
      exact hK 149
  · refine js_iload dX12_lock_78 ?_
    refine js_ifne (tgt := 87) dX12_lock_80 (by decide) ?_ ?_
    · refine js_iconst dX12_lock_87 ?_
      refine js_goto (tgt := 149) dX12_lock_88 (by decide) ?_
      exact hK 149
    · refine js_iconst dX12_lock_83 ?_
      refine js_goto (tgt := 149) dX12_lock_84 (by decide) ?_
      exact hK 149
def kX12_lock_130 (n : Nat) (K : Nat → jK) : jK := jk_kill 6 <| jk_int 0 <| K 149
set_option maxRecDepth 100000 in
set_option maxHeartbeats 4000000 in
theorem tX12_lock_130 (l : Launch) (n : Nat) {K : Nat → jK} (hK : ∀ b, jr_D l cX12_lock 10 "MeetingKitModel" (Option.none : Option Jvm.ClassFile.FieldType) "lock" 4 90 (K b) b) : jr_D l cX12_lock 10 "MeetingKitModel" (Option.none : Option Jvm.ClassFile.FieldType) "lock" 4 90 (kX12_lock_130 n K) 130 := by
  unfold kX12_lock_130
  refine js_kill ?_
  refine js_iconst dX12_lock_130 ?_
  refine js_goto (tgt := 149) dX12_lock_131 (by decide) ?_
  exact hK 149
def kX12_lock_148 (n : Nat) (K : Nat → jK) : jK := jk_kill 6 <| jk_int 0 <| K 149
set_option maxRecDepth 100000 in
set_option maxHeartbeats 4000000 in
theorem tX12_lock_148 (l : Launch) (n : Nat) {K : Nat → jK} (hK : ∀ b, jr_D l cX12_lock 10 "MeetingKitModel" (Option.none : Option Jvm.ClassFile.FieldType) "lock" 4 90 (K b) b) : jr_D l cX12_lock 10 "MeetingKitModel" (Option.none : Option Jvm.ClassFile.FieldType) "lock" 4 90 (kX12_lock_148 n K) 148 := by
  unfold kX12_lock_148
  refine js_kill ?_
  refine js_iconst dX12_lock_148 ?_
  exact hK 149
def kX12_lock_149 (n : Nat) (K : Nat → jK) : jK := jk_kill 6 <| jk_istore 8 <| jk_iload 8 <| jk_ifne (jk_iload 3 <| jk_ifne (jk_iload 3 <| jk_int 1 <| jk_icmpne (jk_iload 3 <| jk_int 3 <| jk_icmpne (K 211) <| jk_aload 0 <| jk_iload 1 <| jk_vcall [(11, fX12_lookers n)] 1 <| jk_int 1 <| jk_icmpne (jk_int 0 <| K 216) <| K 211) <| jk_iload 7 <| jk_ifeq (K 193) <| jk_aload 0 <| jk_iload 1 <| jk_vcall [(11, fX12_lookers n)] 1 <| jk_ifne (K 193) <| jk_int 1 <| K 216) <| jk_iload 7 <| K 216) <| jk_aload 0 <| jk_iload 2 <| jk_vcall [(11, fX12_misuse n)] 1 <| jk_vret
set_option maxRecDepth 100000 in
set_option maxHeartbeats 4000000 in
theorem tX12_lock_149 (l : Launch) (n : Nat) {K : Nat → jK} (hK : ∀ b, jr_D l cX12_lock 10 "MeetingKitModel" (Option.none : Option Jvm.ClassFile.FieldType) "lock" 4 90 (K b) b) : jr_D l cX12_lock 10 "MeetingKitModel" (Option.none : Option Jvm.ClassFile.FieldType) "lock" 4 90 (kX12_lock_149 n K) 149 := by
  unfold kX12_lock_149
  refine js_kill ?_
  refine js_istore dX12_lock_149 (by decide) ?_
  refine js_iload dX12_lock_151 ?_
  refine js_ifne (tgt := 162) dX12_lock_153 (by decide) ?_ ?_
  · refine js_iload_n dX12_lock_162 ?_
    refine js_ifne (tgt := 171) dX12_lock_163 (by decide) ?_ ?_
    · refine js_iload_n dX12_lock_171 ?_
      refine js_iconst dX12_lock_172 ?_
      refine js_icmpne (tgt := 197) dX12_lock_173 (by decide) ?_ ?_
      · refine js_iload_n dX12_lock_197 ?_
        refine js_iconst dX12_lock_198 ?_
        refine js_icmpne (tgt := 211) dX12_lock_199 (by decide) ?_ ?_
        · exact hK 211
        · refine js_aload_n dX12_lock_202 ?_
          refine js_iload_n dX12_lock_203 ?_
          refine js_callv dX12_lock_204 (⟨⟨_, _, _, _, _, _, _, ⟨rfl, (show (11 : Nat) < 20 by decide), sX12_lookers l n, by decide, by decide, tw_1180, tw_103, tw_1179⟩, Or.inl ⟨by decide +kernel, by decide +kernel, by decide +kernel, tw_1177, tw_76⟩⟩, trivial⟩) ?_
          refine js_iconst dX12_lock_207 ?_
          refine js_icmpne (tgt := 215) dX12_lock_208 (by decide) ?_ ?_
          · refine js_iconst dX12_lock_215 ?_
            exact hK 216
          · exact hK 211
      · refine js_iload dX12_lock_176 ?_
        refine js_ifeq (tgt := 193) dX12_lock_178 (by decide) ?_ ?_
        · exact hK 193
        · refine js_aload_n dX12_lock_181 ?_
          refine js_iload_n dX12_lock_182 ?_
          refine js_callv dX12_lock_183 (⟨⟨_, _, _, _, _, _, _, ⟨rfl, (show (11 : Nat) < 20 by decide), sX12_lookers l n, by decide, by decide, tw_1180, tw_103, tw_1179⟩, Or.inl ⟨by decide +kernel, by decide +kernel, by decide +kernel, tw_1177, tw_76⟩⟩, trivial⟩) ?_
          refine js_ifne (tgt := 193) dX12_lock_186 (by decide) ?_ ?_
          · exact hK 193
          · refine js_iconst dX12_lock_189 ?_
            refine js_goto (tgt := 216) dX12_lock_190 (by decide) ?_
            exact hK 216
    · refine js_iload dX12_lock_166 ?_
      refine js_goto (tgt := 216) dX12_lock_168 (by decide) ?_
      exact hK 216
  · refine js_aload_n dX12_lock_156 ?_
    refine js_iload_n dX12_lock_157 ?_
    refine js_callv dX12_lock_158 (⟨⟨_, _, _, _, _, _, _, ⟨rfl, (show (11 : Nat) < 20 by decide), sX12_misuse l n, by decide, by decide, tw_1204, tw_103, tw_1203⟩, Or.inl ⟨by decide +kernel, by decide +kernel, by decide +kernel, tw_1201, tw_82⟩⟩, trivial⟩) ?_
    exact js_vret dX12_lock_161 rfl
def kX12_lock_193 (n : Nat) (K : Nat → jK) : jK := jk_kill 6 <| jk_kill 7 <| jk_kill 8 <| jk_int 0 <| K 216
set_option maxRecDepth 100000 in
set_option maxHeartbeats 4000000 in
theorem tX12_lock_193 (l : Launch) (n : Nat) {K : Nat → jK} (hK : ∀ b, jr_D l cX12_lock 10 "MeetingKitModel" (Option.none : Option Jvm.ClassFile.FieldType) "lock" 4 90 (K b) b) : jr_D l cX12_lock 10 "MeetingKitModel" (Option.none : Option Jvm.ClassFile.FieldType) "lock" 4 90 (kX12_lock_193 n K) 193 := by
  unfold kX12_lock_193
  refine js_kill ?_
  refine js_kill ?_
  refine js_kill ?_
  refine js_iconst dX12_lock_193 ?_
  refine js_goto (tgt := 216) dX12_lock_194 (by decide) ?_
  exact hK 216
def kX12_lock_211 (n : Nat) (K : Nat → jK) : jK := jk_kill 6 <| jk_kill 7 <| jk_kill 8 <| jk_int 1 <| K 216
set_option maxRecDepth 100000 in
set_option maxHeartbeats 4000000 in
theorem tX12_lock_211 (l : Launch) (n : Nat) {K : Nat → jK} (hK : ∀ b, jr_D l cX12_lock 10 "MeetingKitModel" (Option.none : Option Jvm.ClassFile.FieldType) "lock" 4 90 (K b) b) : jr_D l cX12_lock 10 "MeetingKitModel" (Option.none : Option Jvm.ClassFile.FieldType) "lock" 4 90 (kX12_lock_211 n K) 211 := by
  unfold kX12_lock_211
  refine js_kill ?_
  refine js_kill ?_
  refine js_kill ?_
  refine js_iconst dX12_lock_211 ?_
  refine js_goto (tgt := 216) dX12_lock_212 (by decide) ?_
  exact hK 216
def kX12_lock_216 (n : Nat) (K : Nat → jK) : jK := jk_kill 6 <| jk_kill 7 <| jk_kill 8 <| jk_istore 9 <| jk_iload 9 <| jk_ifne (jk_iload 3 <| jk_int 2 <| jk_icmpeq (K 254) <| jk_iload 3 <| jk_int 3 <| jk_icmpne (K 262) <| K 254) <| jk_aload 0 <| jk_iload 2 <| jk_vcall [(11, fX12_waits n)] 1 <| jk_ifeq (K 243) <| jk_iload 3 <| jk_int 3 <| jk_icmpne (K 243) <| jk_aload 0 <| jk_get [11] 28 <| jk_iload 1 <| jk_iload 2 <| jk_iast <| K 243
set_option maxRecDepth 100000 in
set_option maxHeartbeats 4000000 in
theorem tX12_lock_216 (l : Launch) (n : Nat) {K : Nat → jK} (hK : ∀ b, jr_D l cX12_lock 10 "MeetingKitModel" (Option.none : Option Jvm.ClassFile.FieldType) "lock" 4 90 (K b) b) : jr_D l cX12_lock 10 "MeetingKitModel" (Option.none : Option Jvm.ClassFile.FieldType) "lock" 4 90 (kX12_lock_216 n K) 216 := by
  unfold kX12_lock_216
  refine js_kill ?_
  refine js_kill ?_
  refine js_kill ?_
  refine js_istore dX12_lock_216 (by decide) ?_
  refine js_iload dX12_lock_218 ?_
  refine js_ifne (tgt := 244) dX12_lock_220 (by decide) ?_ ?_
  · refine js_iload_n dX12_lock_244 ?_
    refine js_iconst dX12_lock_245 ?_
    refine js_icmpeq (tgt := 254) dX12_lock_246 (by decide) ?_ ?_
    · exact hK 254
    · refine js_iload_n dX12_lock_249 ?_
      refine js_iconst dX12_lock_250 ?_
      refine js_icmpne (tgt := 262) dX12_lock_251 (by decide) ?_ ?_
      · exact hK 262
      · exact hK 254
  · refine js_aload_n dX12_lock_223 ?_
    refine js_iload_n dX12_lock_224 ?_
    refine js_callv dX12_lock_225 (⟨⟨_, _, _, _, _, _, _, ⟨rfl, (show (11 : Nat) < 20 by decide), sX12_waits l n, by decide, by decide, tw_1208, tw_103, tw_1207⟩, Or.inl ⟨by decide +kernel, by decide +kernel, by decide +kernel, tw_1205, tw_83⟩⟩, trivial⟩) ?_
    refine js_ifeq (tgt := 243) dX12_lock_228 (by decide) ?_ ?_
    · exact hK 243
    · refine js_iload_n dX12_lock_231 ?_
      refine js_iconst dX12_lock_232 ?_
      refine js_icmpne (tgt := 243) dX12_lock_233 (by decide) ?_ ?_
      · exact hK 243
      · refine js_aload_n dX12_lock_236 ?_
        refine js_get dX12_lock_237 jf_28_11 tw_990 (Or.inl rfl) ?_
        refine js_iload_n dX12_lock_240 ?_
        refine js_iload_n dX12_lock_241 ?_
        refine js_iast dX12_lock_242 ?_
        exact hK 243
def kX12_lock_243 (n : Nat) (K : Nat → jK) : jK := jk_kill 0 <| jk_kill 1 <| jk_kill 2 <| jk_kill 3 <| jk_kill 4 <| jk_kill 5 <| jk_kill 6 <| jk_kill 7 <| jk_kill 8 <| jk_kill 9 <| jk_vret
set_option maxRecDepth 100000 in
set_option maxHeartbeats 4000000 in
theorem tX12_lock_243 (l : Launch) (n : Nat) {K : Nat → jK} (hK : ∀ b, jr_D l cX12_lock 10 "MeetingKitModel" (Option.none : Option Jvm.ClassFile.FieldType) "lock" 4 90 (K b) b) : jr_D l cX12_lock 10 "MeetingKitModel" (Option.none : Option Jvm.ClassFile.FieldType) "lock" 4 90 (kX12_lock_243 n K) 243 := by
  unfold kX12_lock_243
  refine js_kill ?_
  refine js_kill ?_
  refine js_kill ?_
  refine js_kill ?_
  refine js_kill ?_
  refine js_kill ?_
  refine js_kill ?_
  refine js_kill ?_
  refine js_kill ?_
  refine js_kill ?_
  exact js_vret dX12_lock_243 rfl
def kX12_lock_254 (n : Nat) (K : Nat → jK) : jK := jk_kill 6 <| jk_kill 7 <| jk_kill 8 <| jk_kill 9 <| jk_aload 0 <| jk_get [11] 29 <| jk_iload 4 <| jk_int 0 <| jk_iast <| K 262
set_option maxRecDepth 100000 in
set_option maxHeartbeats 4000000 in
theorem tX12_lock_254 (l : Launch) (n : Nat) {K : Nat → jK} (hK : ∀ b, jr_D l cX12_lock 10 "MeetingKitModel" (Option.none : Option Jvm.ClassFile.FieldType) "lock" 4 90 (K b) b) : jr_D l cX12_lock 10 "MeetingKitModel" (Option.none : Option Jvm.ClassFile.FieldType) "lock" 4 90 (kX12_lock_254 n K) 254 := by
  unfold kX12_lock_254
  refine js_kill ?_
  refine js_kill ?_
  refine js_kill ?_
  refine js_kill ?_
  refine js_aload_n dX12_lock_254 ?_
  refine js_get dX12_lock_255 jf_29_11 tw_991 (Or.inl rfl) ?_
  refine js_iload dX12_lock_258 ?_
  refine js_iconst dX12_lock_260 ?_
  refine js_iast dX12_lock_261 ?_
  exact hK 262
def kX12_lock_262 (n : Nat) (K : Nat → jK) : jK := jk_kill 6 <| jk_kill 7 <| jk_kill 8 <| jk_kill 9 <| jk_iload 3 <| jk_ifeq (K 271) <| jk_iload 3 <| jk_int 4 <| jk_icmpne (K 279) <| K 271
set_option maxRecDepth 100000 in
set_option maxHeartbeats 4000000 in
theorem tX12_lock_262 (l : Launch) (n : Nat) {K : Nat → jK} (hK : ∀ b, jr_D l cX12_lock 10 "MeetingKitModel" (Option.none : Option Jvm.ClassFile.FieldType) "lock" 4 90 (K b) b) : jr_D l cX12_lock 10 "MeetingKitModel" (Option.none : Option Jvm.ClassFile.FieldType) "lock" 4 90 (kX12_lock_262 n K) 262 := by
  unfold kX12_lock_262
  refine js_kill ?_
  refine js_kill ?_
  refine js_kill ?_
  refine js_kill ?_
  refine js_iload_n dX12_lock_262 ?_
  refine js_ifeq (tgt := 271) dX12_lock_263 (by decide) ?_ ?_
  · exact hK 271
  · refine js_iload_n dX12_lock_266 ?_
    refine js_iconst dX12_lock_267 ?_
    refine js_icmpne (tgt := 279) dX12_lock_268 (by decide) ?_ ?_
    · exact hK 279
    · exact hK 271
def kX12_lock_271 (n : Nat) (K : Nat → jK) : jK := jk_kill 6 <| jk_kill 7 <| jk_kill 8 <| jk_kill 9 <| jk_aload 0 <| jk_get [11] 29 <| jk_iload 4 <| jk_int 1 <| jk_iast <| K 279
set_option maxRecDepth 100000 in
set_option maxHeartbeats 4000000 in
theorem tX12_lock_271 (l : Launch) (n : Nat) {K : Nat → jK} (hK : ∀ b, jr_D l cX12_lock 10 "MeetingKitModel" (Option.none : Option Jvm.ClassFile.FieldType) "lock" 4 90 (K b) b) : jr_D l cX12_lock 10 "MeetingKitModel" (Option.none : Option Jvm.ClassFile.FieldType) "lock" 4 90 (kX12_lock_271 n K) 271 := by
  unfold kX12_lock_271
  refine js_kill ?_
  refine js_kill ?_
  refine js_kill ?_
  refine js_kill ?_
  refine js_aload_n dX12_lock_271 ?_
  refine js_get dX12_lock_272 jf_29_11 tw_991 (Or.inl rfl) ?_
  refine js_iload dX12_lock_275 ?_
  refine js_iconst dX12_lock_277 ?_
  refine js_iast dX12_lock_278 ?_
  exact hK 279
def kX12_lock_279 (n : Nat) (K : Nat → jK) : jK := jk_kill 4 <| jk_kill 6 <| jk_kill 7 <| jk_kill 8 <| jk_kill 9 <| jk_iload 3 <| jk_int 1 <| jk_icmpeq (K 289) <| jk_iload 3 <| jk_int 3 <| jk_icmpne (K 296) <| K 289
set_option maxRecDepth 100000 in
set_option maxHeartbeats 4000000 in
theorem tX12_lock_279 (l : Launch) (n : Nat) {K : Nat → jK} (hK : ∀ b, jr_D l cX12_lock 10 "MeetingKitModel" (Option.none : Option Jvm.ClassFile.FieldType) "lock" 4 90 (K b) b) : jr_D l cX12_lock 10 "MeetingKitModel" (Option.none : Option Jvm.ClassFile.FieldType) "lock" 4 90 (kX12_lock_279 n K) 279 := by
  unfold kX12_lock_279
  refine js_kill ?_
  refine js_kill ?_
  refine js_kill ?_
  refine js_kill ?_
  refine js_kill ?_
  refine js_iload_n dX12_lock_279 ?_
  refine js_iconst dX12_lock_280 ?_
  refine js_icmpeq (tgt := 289) dX12_lock_281 (by decide) ?_ ?_
  · exact hK 289
  · refine js_iload_n dX12_lock_284 ?_
    refine js_iconst dX12_lock_285 ?_
    refine js_icmpne (tgt := 296) dX12_lock_286 (by decide) ?_ ?_
    · exact hK 296
    · exact hK 289
def kX12_lock_289 (n : Nat) (K : Nat → jK) : jK := jk_kill 3 <| jk_kill 4 <| jk_kill 6 <| jk_kill 7 <| jk_kill 8 <| jk_kill 9 <| jk_aload 0 <| jk_get [11] 26 <| jk_iload 1 <| jk_iload 2 <| jk_iast <| K 296
set_option maxRecDepth 100000 in
set_option maxHeartbeats 4000000 in
theorem tX12_lock_289 (l : Launch) (n : Nat) {K : Nat → jK} (hK : ∀ b, jr_D l cX12_lock 10 "MeetingKitModel" (Option.none : Option Jvm.ClassFile.FieldType) "lock" 4 90 (K b) b) : jr_D l cX12_lock 10 "MeetingKitModel" (Option.none : Option Jvm.ClassFile.FieldType) "lock" 4 90 (kX12_lock_289 n K) 289 := by
  unfold kX12_lock_289
  refine js_kill ?_
  refine js_kill ?_
  refine js_kill ?_
  refine js_kill ?_
  refine js_kill ?_
  refine js_kill ?_
  refine js_aload_n dX12_lock_289 ?_
  refine js_get dX12_lock_290 jf_26_11 tw_988 (Or.inl rfl) ?_
  refine js_iload_n dX12_lock_293 ?_
  refine js_iload_n dX12_lock_294 ?_
  refine js_iast dX12_lock_295 ?_
  exact hK 296
def kX12_lock_296 (n : Nat) (K : Nat → jK) : jK := jk_kill 3 <| jk_kill 4 <| jk_kill 6 <| jk_kill 7 <| jk_kill 8 <| jk_kill 9 <| jk_iload 5 <| jk_ifeq (K 308) <| jk_aload 0 <| jk_get [11] 26 <| jk_iload 1 <| jk_int (-1) <| jk_iast <| K 308
set_option maxRecDepth 100000 in
set_option maxHeartbeats 4000000 in
theorem tX12_lock_296 (l : Launch) (n : Nat) {K : Nat → jK} (hK : ∀ b, jr_D l cX12_lock 10 "MeetingKitModel" (Option.none : Option Jvm.ClassFile.FieldType) "lock" 4 90 (K b) b) : jr_D l cX12_lock 10 "MeetingKitModel" (Option.none : Option Jvm.ClassFile.FieldType) "lock" 4 90 (kX12_lock_296 n K) 296 := by
  unfold kX12_lock_296
  refine js_kill ?_
  refine js_kill ?_
  refine js_kill ?_
  refine js_kill ?_
  refine js_kill ?_
  refine js_kill ?_
  refine js_iload dX12_lock_296 ?_
  refine js_ifeq (tgt := 308) dX12_lock_298 (by decide) ?_ ?_
  · exact hK 308
  · refine js_aload_n dX12_lock_301 ?_
    refine js_get dX12_lock_302 jf_26_11 tw_988 (Or.inl rfl) ?_
    refine js_iload_n dX12_lock_305 ?_
    refine js_iconst dX12_lock_306 ?_
    refine js_iast dX12_lock_307 ?_
    exact hK 308
def kX12_lock_308 (n : Nat) (K : Nat → jK) : jK := jk_kill 1 <| jk_kill 3 <| jk_kill 4 <| jk_kill 5 <| jk_kill 6 <| jk_kill 7 <| jk_kill 8 <| jk_kill 9 <| jk_aload 0 <| jk_iload 2 <| jk_int 0 <| jk_vcall [(11, fX12_passes n)] 2 <| jk_vret
set_option maxRecDepth 100000 in
set_option maxHeartbeats 4000000 in
theorem tX12_lock_308 (l : Launch) (n : Nat) {K : Nat → jK} (hK : ∀ b, jr_D l cX12_lock 10 "MeetingKitModel" (Option.none : Option Jvm.ClassFile.FieldType) "lock" 4 90 (K b) b) : jr_D l cX12_lock 10 "MeetingKitModel" (Option.none : Option Jvm.ClassFile.FieldType) "lock" 4 90 (kX12_lock_308 n K) 308 := by
  unfold kX12_lock_308
  refine js_kill ?_
  refine js_kill ?_
  refine js_kill ?_
  refine js_kill ?_
  refine js_kill ?_
  refine js_kill ?_
  refine js_kill ?_
  refine js_kill ?_
  refine js_aload_n dX12_lock_308 ?_
  refine js_iload_n dX12_lock_309 ?_
  refine js_iconst dX12_lock_310 ?_
  refine js_callv dX12_lock_311 (⟨⟨_, _, _, _, _, _, _, ⟨rfl, (show (11 : Nat) < 20 by decide), sX12_passes l n, by decide, by decide, tw_1172, tw_103, tw_1171⟩, Or.inl ⟨by decide +kernel, by decide +kernel, by decide +kernel, tw_1169, tw_74⟩⟩, trivial⟩) ?_
  exact js_vret dX12_lock_314 rfl
def kX12_lock_b (n : Nat) (K : Nat → jK) (b : Nat) : jK := if b = 0 then kX12_lock_0 n K else if b = 23 then kX12_lock_23 n K else if b = 41 then kX12_lock_41 n K else if b = 46 then kX12_lock_46 n K else if b = 70 then kX12_lock_70 n K else if b = 71 then kX12_lock_71 n K else if b = 130 then kX12_lock_130 n K else if b = 148 then kX12_lock_148 n K else if b = 149 then kX12_lock_149 n K else if b = 193 then kX12_lock_193 n K else if b = 211 then kX12_lock_211 n K else if b = 216 then kX12_lock_216 n K else if b = 243 then kX12_lock_243 n K else if b = 254 then kX12_lock_254 n K else if b = 262 then kX12_lock_262 n K else if b = 271 then kX12_lock_271 n K else if b = 279 then kX12_lock_279 n K else if b = 289 then kX12_lock_289 n K else if b = 296 then kX12_lock_296 n K else if b = 308 then kX12_lock_308 n K else jk_none
def kX12_lock (n : Nat) : jK := jk_fix (kX12_lock_b n) n 0
theorem tX12_lock (l : Launch) (n : Nat) : jr_D l cX12_lock 10 "MeetingKitModel" (Option.none : Option Jvm.ClassFile.FieldType) "lock" 4 90 (kX12_lock n) 0 := js_fix (F := kX12_lock_b n) (fun K hK b => js_blk (tX12_lock_0 l n hK) (js_blk (tX12_lock_23 l n hK) (js_blk (tX12_lock_41 l n hK) (js_blk (tX12_lock_46 l n hK) (js_blk (tX12_lock_70 l n hK) (js_blk (tX12_lock_71 l n hK) (js_blk (tX12_lock_130 l n hK) (js_blk (tX12_lock_148 l n hK) (js_blk (tX12_lock_149 l n hK) (js_blk (tX12_lock_193 l n hK) (js_blk (tX12_lock_211 l n hK) (js_blk (tX12_lock_216 l n hK) (js_blk (tX12_lock_243 l n hK) (js_blk (tX12_lock_254 l n hK) (js_blk (tX12_lock_262 l n hK) (js_blk (tX12_lock_271 l n hK) (js_blk (tX12_lock_279 l n hK) (js_blk (tX12_lock_289 l n hK) (js_blk (tX12_lock_296 l n hK) (js_blk (tX12_lock_308 l n hK) (js_none))))))))))))))))))))) n 0
def fX12_lock (n : Nat) : jF := jm_run 4 10 (kX12_lock n)
theorem sX12_lock (l : Launch) (n : Nat) : jr_F l (⟨"MeetingKitModel", "lock", "(III)V"⟩ : MethodName) cX12_lock 10 (Option.none : Option Jvm.ClassFile.FieldType) 4 90 (fX12_lock n) := js_met (by decide +kernel) (by decide) (tX12_lock l n)
