theorem dX6_performInLine_0 : decode cX6_performInLine 0 = .ok (.aload_n 1, 1) := by decide +kernel
theorem dX6_performInLine_1 : decode cX6_performInLine 1 = .ok (.getfield 30, 3) := by decide +kernel
theorem dX6_performInLine_4 : decode cX6_performInLine 4 = .ok (.tableswitch 82 2 4 #[28, 51, 66], 28) := by decide +kernel
theorem dX6_performInLine_32 : decode cX6_performInLine 32 = .ok (.aload_n 0, 1) := by decide +kernel
theorem dX6_performInLine_33 : decode cX6_performInLine 33 = .ok (.iconst (-1), 1) := by decide +kernel
theorem dX6_performInLine_34 : decode cX6_performInLine 34 = .ok (.putfield 15, 3) := by decide +kernel
theorem dX6_performInLine_37 : decode cX6_performInLine 37 = .ok (.aload_n 0, 1) := by decide +kernel
theorem dX6_performInLine_38 : decode cX6_performInLine 38 = .ok (.getfield 9, 3) := by decide +kernel
theorem dX6_performInLine_41 : decode cX6_performInLine 41 = .ok (.aload_n 1, 1) := by decide +kernel
theorem dX6_performInLine_42 : decode cX6_performInLine 42 = .ok (.getfield 19, 3) := by decide +kernel
theorem dX6_performInLine_45 : decode cX6_performInLine 45 = .ok (.getfield 25, 3) := by decide +kernel
theorem dX6_performInLine_48 : decode cX6_performInLine 48 = .ok (.aload_n 1, 1) := by decide +kernel
theorem dX6_performInLine_49 : decode cX6_performInLine 49 = .ok (.getfield 37, 3) := by decide +kernel
theorem dX6_performInLine_52 : decode cX6_performInLine 52 = .ok (.iastore, 1) := by decide +kernel
theorem dX6_performInLine_53 : decode cX6_performInLine 53 = .ok (.iconst 1, 1) := by decide +kernel
theorem dX6_performInLine_54 : decode cX6_performInLine 54 = .ok (.ireturn, 1) := by decide +kernel
theorem dX6_performInLine_55 : decode cX6_performInLine 55 = .ok (.aload_n 1, 1) := by decide +kernel
theorem dX6_performInLine_56 : decode cX6_performInLine 56 = .ok (.aload_n 0, 1) := by decide +kernel
theorem dX6_performInLine_57 : decode cX6_performInLine 57 = .ok (.aload_n 1, 1) := by decide +kernel
theorem dX6_performInLine_58 : decode cX6_performInLine 58 = .ok (.getfield 37, 3) := by decide +kernel
theorem dX6_performInLine_61 : decode cX6_performInLine 61 = .ok (.iconst 1, 1) := by decide +kernel
theorem dX6_performInLine_62 : decode cX6_performInLine 62 = .ok (.invokevirtual 45, 3) := by decide +kernel
theorem dX6_performInLine_65 : decode cX6_performInLine 65 = .ok (.putfield 49, 3) := by decide +kernel
theorem dX6_performInLine_68 : decode cX6_performInLine 68 = .ok (.iconst 0, 1) := by decide +kernel
theorem dX6_performInLine_69 : decode cX6_performInLine 69 = .ok (.ireturn, 1) := by decide +kernel
theorem dX6_performInLine_70 : decode cX6_performInLine 70 = .ok (.aload_n 1, 1) := by decide +kernel
theorem dX6_performInLine_71 : decode cX6_performInLine 71 = .ok (.aload_n 0, 1) := by decide +kernel
theorem dX6_performInLine_72 : decode cX6_performInLine 72 = .ok (.aload_n 1, 1) := by decide +kernel
theorem dX6_performInLine_73 : decode cX6_performInLine 73 = .ok (.getfield 37, 3) := by decide +kernel
theorem dX6_performInLine_76 : decode cX6_performInLine 76 = .ok (.bipush 16, 2) := by decide +kernel
theorem dX6_performInLine_78 : decode cX6_performInLine 78 = .ok (.invokevirtual 45, 3) := by decide +kernel
theorem dX6_performInLine_81 : decode cX6_performInLine 81 = .ok (.putfield 49, 3) := by decide +kernel
theorem dX6_performInLine_84 : decode cX6_performInLine 84 = .ok (.iconst 0, 1) := by decide +kernel
theorem dX6_performInLine_85 : decode cX6_performInLine 85 = .ok (.ireturn, 1) := by decide +kernel
theorem dX6_performInLine_86 : decode cX6_performInLine 86 = .ok (.bipush 6, 2) := by decide +kernel
theorem dX6_performInLine_88 : decode cX6_performInLine 88 = .ok (.ireturn, 1) := by decide +kernel
def kX6_performInLine (n : Nat) : jK := jk_aload 1 <| jk_get [9] 2 <| jk_sw [(2, (jk_aload 0 <| jk_int (-1) <| jk_puti [5] 9 <| jk_aload 0 <| jk_get [5] 8 <| jk_aload 1 <| jk_get [9] 0 <| jk_get [0] 0 <| jk_aload 1 <| jk_get [9] 3 <| jk_iast <| jk_int 1 <| jk_iret)), (3, (jk_aload 1 <| jk_aload 0 <| jk_aload 1 <| jk_get [9] 3 <| jk_int 1 <| jk_vcall [(5, fX6_wake n)] 2 <| jk_puti [9] 6 <| jk_int 0 <| jk_iret)), (4, (jk_aload 1 <| jk_aload 0 <| jk_aload 1 <| jk_get [9] 3 <| jk_int 16 <| jk_vcall [(5, fX6_wake n)] 2 <| jk_puti [9] 6 <| jk_int 0 <| jk_iret))] (jk_int 6 <| jk_iret)
set_option maxRecDepth 100000 in
set_option maxHeartbeats 4000000 in
theorem tX6_performInLine (l : Launch) (n : Nat) : jr_D l cX6_performInLine 2 "MeetingKit$Monitor" (Option.some Jvm.ClassFile.FieldType.int) "performInLine" 3 70 (kX6_performInLine n) 0 := by
  unfold kX6_performInLine
  refine js_aload_n dX6_performInLine_0 ?_
  refine js_get dX6_performInLine_1 jf_2_9 tw_463 (Or.inl rfl) ?_
  refine js_tsw (td := 86) dX6_performInLine_4 rfl (by decide) ?_ ?_
  · refine js_bipush dX6_performInLine_86 ?_
    exact js_iret dX6_performInLine_88 rfl
  · refine ⟨rfl, ⟨32, by decide, ?_⟩, rfl, ⟨55, by decide, ?_⟩, rfl, ⟨70, by decide, ?_⟩, trivial⟩
    · refine js_aload_n dX6_performInLine_32 ?_
      refine js_iconst dX6_performInLine_33 ?_
      refine js_puti dX6_performInLine_34 jf_9_5 rfl tw_350 (Or.inl rfl) ?_
      refine js_aload_n dX6_performInLine_37 ?_
      refine js_get dX6_performInLine_38 jf_8_5 tw_349 (Or.inl rfl) ?_
      refine js_aload_n dX6_performInLine_41 ?_
      refine js_get dX6_performInLine_42 jf_0_9 tw_449 (Or.inl rfl) ?_
      refine js_get dX6_performInLine_45 jf_0_0 tw_396 (Or.inl rfl) ?_
      refine js_aload_n dX6_performInLine_48 ?_
      refine js_get dX6_performInLine_49 jf_3_9 tw_469 (Or.inl rfl) ?_
      refine js_iast dX6_performInLine_52 ?_
      refine js_iconst dX6_performInLine_53 ?_
      exact js_iret dX6_performInLine_54 rfl
    · refine js_aload_n dX6_performInLine_55 ?_
      refine js_aload_n dX6_performInLine_56 ?_
      refine js_aload_n dX6_performInLine_57 ?_
      refine js_get dX6_performInLine_58 jf_3_9 tw_469 (Or.inl rfl) ?_
      refine js_iconst dX6_performInLine_61 ?_
      refine js_callv dX6_performInLine_62 (⟨⟨_, _, _, _, _, _, _, ⟨rfl, (show (5 : Nat) < 20 by decide), sX6_wake l n, by decide, by decide, tw_812, tw_112, tw_811⟩, Or.inl ⟨by decide +kernel, by decide +kernel, by decide +kernel, tw_809, tw_46⟩⟩, trivial⟩) ?_
      refine js_puti dX6_performInLine_65 jf_6_9 rfl tw_484 (Or.inl rfl) ?_
      refine js_iconst dX6_performInLine_68 ?_
      exact js_iret dX6_performInLine_69 rfl
    · refine js_aload_n dX6_performInLine_70 ?_
      refine js_aload_n dX6_performInLine_71 ?_
      refine js_aload_n dX6_performInLine_72 ?_
      refine js_get dX6_performInLine_73 jf_3_9 tw_469 (Or.inl rfl) ?_
      refine js_bipush dX6_performInLine_76 ?_
      refine js_callv dX6_performInLine_78 (⟨⟨_, _, _, _, _, _, _, ⟨rfl, (show (5 : Nat) < 20 by decide), sX6_wake l n, by decide, by decide, tw_812, tw_112, tw_811⟩, Or.inl ⟨by decide +kernel, by decide +kernel, by decide +kernel, tw_809, tw_46⟩⟩, trivial⟩) ?_
      refine js_puti dX6_performInLine_81 jf_6_9 rfl tw_484 (Or.inl rfl) ?_
      refine js_iconst dX6_performInLine_84 ?_
      exact js_iret dX6_performInLine_85 rfl
def fX6_performInLine (n : Nat) : jF := jm_run 2 2 (kX6_performInLine n)
theorem sX6_performInLine (l : Launch) (n : Nat) : jr_F l (⟨"MeetingKit$Monitor", "performInLine", "(LMeetingKit$Step;)I"⟩ : MethodName) cX6_performInLine 2 (Option.some Jvm.ClassFile.FieldType.int) 3 70 (fX6_performInLine n) := js_met (by decide +kernel) (by decide) (tX6_performInLine l n)
theorem dX6_perform_0 : decode cX6_perform 0 = .ok (.aload_n 0, 1) := by decide +kernel
theorem dX6_perform_1 : decode cX6_perform 1 = .ok (.getfield 15, 3) := by decide +kernel
theorem dX6_perform_4 : decode cX6_perform 4 = .ok (.aload_n 1, 1) := by decide +kernel
theorem dX6_perform_5 : decode cX6_perform 5 = .ok (.getfield 19, 3) := by decide +kernel
theorem dX6_perform_8 : decode cX6_perform 8 = .ok (.getfield 25, 3) := by decide +kernel
theorem dX6_perform_11 : decode cX6_perform 11 = .ok (.if_icmp .ne 7, 3) := by decide +kernel
theorem dX6_perform_14 : decode cX6_perform 14 = .ok (.iconst 1, 1) := by decide +kernel
theorem dX6_perform_15 : decode cX6_perform 15 = .ok (.goto 4, 3) := by decide +kernel
theorem dX6_perform_18 : decode cX6_perform 18 = .ok (.iconst 0, 1) := by decide +kernel
theorem dX6_perform_19 : decode cX6_perform 19 = .ok (.istore_n 2, 1) := by decide +kernel
theorem dX6_perform_20 : decode cX6_perform 20 = .ok (.aload_n 1, 1) := by decide +kernel
theorem dX6_perform_21 : decode cX6_perform 21 = .ok (.getfield 30, 3) := by decide +kernel
theorem dX6_perform_24 : decode cX6_perform 24 = .ok (.ifCond .ne 24, 3) := by decide +kernel
theorem dX6_perform_27 : decode cX6_perform 27 = .ok (.iload_n 2, 1) := by decide +kernel
theorem dX6_perform_28 : decode cX6_perform 28 = .ok (.ifCond .eq 8, 3) := by decide +kernel
theorem dX6_perform_31 : decode cX6_perform 31 = .ok (.bipush 6, 2) := by decide +kernel
theorem dX6_perform_33 : decode cX6_perform 33 = .ok (.goto 14, 3) := by decide +kernel
theorem dX6_perform_36 : decode cX6_perform 36 = .ok (.aload_n 0, 1) := by decide +kernel
theorem dX6_perform_37 : decode cX6_perform 37 = .ok (.aload_n 1, 1) := by decide +kernel
theorem dX6_perform_38 : decode cX6_perform 38 = .ok (.getfield 19, 3) := by decide +kernel
theorem dX6_perform_41 : decode cX6_perform 41 = .ok (.getfield 25, 3) := by decide +kernel
theorem dX6_perform_44 : decode cX6_perform 44 = .ok (.invokevirtual 33, 3) := by decide +kernel
theorem dX6_perform_47 : decode cX6_perform 47 = .ok (.ireturn, 1) := by decide +kernel
theorem dX6_perform_48 : decode cX6_perform 48 = .ok (.iload_n 2, 1) := by decide +kernel
theorem dX6_perform_49 : decode cX6_perform 49 = .ok (.ifCond .ne 6, 3) := by decide +kernel
theorem dX6_perform_52 : decode cX6_perform 52 = .ok (.bipush 6, 2) := by decide +kernel
theorem dX6_perform_54 : decode cX6_perform 54 = .ok (.ireturn, 1) := by decide +kernel
theorem dX6_perform_55 : decode cX6_perform 55 = .ok (.aload_n 1, 1) := by decide +kernel
theorem dX6_perform_56 : decode cX6_perform 56 = .ok (.getfield 30, 3) := by decide +kernel
theorem dX6_perform_59 : decode cX6_perform 59 = .ok (.iconst 1, 1) := by decide +kernel
theorem dX6_perform_60 : decode cX6_perform 60 = .ok (.if_icmp .ne 10, 3) := by decide +kernel
theorem dX6_perform_63 : decode cX6_perform 63 = .ok (.aload_n 0, 1) := by decide +kernel
theorem dX6_perform_64 : decode cX6_perform 64 = .ok (.iconst (-1), 1) := by decide +kernel
theorem dX6_perform_65 : decode cX6_perform 65 = .ok (.putfield 15, 3) := by decide +kernel
theorem dX6_perform_68 : decode cX6_perform 68 = .ok (.iconst 0, 1) := by decide +kernel
theorem dX6_perform_69 : decode cX6_perform 69 = .ok (.ireturn, 1) := by decide +kernel
theorem dX6_perform_70 : decode cX6_perform 70 = .ok (.aload_n 1, 1) := by decide +kernel
theorem dX6_perform_71 : decode cX6_perform 71 = .ok (.getfield 37, 3) := by decide +kernel
theorem dX6_perform_74 : decode cX6_perform 74 = .ok (.ifCond .lt 11, 3) := by decide +kernel
theorem dX6_perform_77 : decode cX6_perform 77 = .ok (.aload_n 1, 1) := by decide +kernel
theorem dX6_perform_78 : decode cX6_perform 78 = .ok (.getfield 37, 3) := by decide +kernel
theorem dX6_perform_81 : decode cX6_perform 81 = .ok (.iconst 4, 1) := by decide +kernel
theorem dX6_perform_82 : decode cX6_perform 82 = .ok (.if_icmp .lt 8, 3) := by decide +kernel
theorem dX6_perform_85 : decode cX6_perform 85 = .ok (.bipush 6, 2) := by decide +kernel
theorem dX6_perform_87 : decode cX6_perform 87 = .ok (.goto 8, 3) := by decide +kernel
theorem dX6_perform_90 : decode cX6_perform 90 = .ok (.aload_n 0, 1) := by decide +kernel
theorem dX6_perform_91 : decode cX6_perform 91 = .ok (.aload_n 1, 1) := by decide +kernel
theorem dX6_perform_92 : decode cX6_perform 92 = .ok (.invokevirtual 38, 3) := by decide +kernel
theorem dX6_perform_95 : decode cX6_perform 95 = .ok (.ireturn, 1) := by decide +kernel
def kX6_perform_0 (n : Nat) (K : Nat → jK) : jK := jk_aload 0 <| jk_get [5] 9 <| jk_aload 1 <| jk_get [9] 0 <| jk_get [0] 0 <| jk_icmpne (jk_int 0 <| K 19) <| jk_int 1 <| K 19
set_option maxRecDepth 100000 in
set_option maxHeartbeats 4000000 in
theorem tX6_perform_0 (l : Launch) (n : Nat) {K : Nat → jK} (hK : ∀ b, jr_D l cX6_perform 3 "MeetingKit$Monitor" (Option.some Jvm.ClassFile.FieldType.int) "perform" 4 91 (K b) b) : jr_D l cX6_perform 3 "MeetingKit$Monitor" (Option.some Jvm.ClassFile.FieldType.int) "perform" 4 91 (kX6_perform_0 n K) 0 := by
  unfold kX6_perform_0
  refine js_aload_n dX6_perform_0 ?_
  refine js_get dX6_perform_1 jf_9_5 tw_350 (Or.inl rfl) ?_
  refine js_aload_n dX6_perform_4 ?_
  refine js_get dX6_perform_5 jf_0_9 tw_449 (Or.inl rfl) ?_
  refine js_get dX6_perform_8 jf_0_0 tw_396 (Or.inl rfl) ?_
  refine js_icmpne (tgt := 18) dX6_perform_11 (by decide) ?_ ?_
  · refine js_iconst dX6_perform_18 ?_
    exact hK 19
  · refine js_iconst dX6_perform_14 ?_
    refine js_goto (tgt := 19) dX6_perform_15 (by decide) ?_
    exact hK 19
def kX6_perform_19 (n : Nat) (K : Nat → jK) : jK := jk_istore 2 <| jk_aload 1 <| jk_get [9] 2 <| jk_ifne (jk_iload 2 <| jk_ifne (jk_aload 1 <| jk_get [9] 2 <| jk_int 1 <| jk_icmpne (jk_aload 1 <| jk_get [9] 3 <| jk_iflt (K 85) <| jk_aload 1 <| jk_get [9] 3 <| jk_int 4 <| jk_icmplt (jk_aload 0 <| jk_aload 1 <| jk_vcall [(5, fX6_performInLine n)] 1 <| K 95) <| K 85) <| jk_aload 0 <| jk_int (-1) <| jk_puti [5] 9 <| jk_int 0 <| jk_iret) <| jk_int 6 <| jk_iret) <| jk_iload 2 <| jk_ifeq (jk_aload 0 <| jk_aload 1 <| jk_get [9] 0 <| jk_get [0] 0 <| jk_vcall [(5, fX6_enter n)] 1 <| K 47) <| jk_int 6 <| K 47
set_option maxRecDepth 100000 in
set_option maxHeartbeats 4000000 in
theorem tX6_perform_19 (l : Launch) (n : Nat) {K : Nat → jK} (hK : ∀ b, jr_D l cX6_perform 3 "MeetingKit$Monitor" (Option.some Jvm.ClassFile.FieldType.int) "perform" 4 91 (K b) b) : jr_D l cX6_perform 3 "MeetingKit$Monitor" (Option.some Jvm.ClassFile.FieldType.int) "perform" 4 91 (kX6_perform_19 n K) 19 := by
  unfold kX6_perform_19
  refine js_istore_n dX6_perform_19 (by decide) ?_
  refine js_aload_n dX6_perform_20 ?_
  refine js_get dX6_perform_21 jf_2_9 tw_463 (Or.inl rfl) ?_
  refine js_ifne (tgt := 48) dX6_perform_24 (by decide) ?_ ?_
  · refine js_iload_n dX6_perform_48 ?_
    refine js_ifne (tgt := 55) dX6_perform_49 (by decide) ?_ ?_
    · refine js_aload_n dX6_perform_55 ?_
      refine js_get dX6_perform_56 jf_2_9 tw_463 (Or.inl rfl) ?_
      refine js_iconst dX6_perform_59 ?_
      refine js_icmpne (tgt := 70) dX6_perform_60 (by decide) ?_ ?_
      · refine js_aload_n dX6_perform_70 ?_
        refine js_get dX6_perform_71 jf_3_9 tw_469 (Or.inl rfl) ?_
        refine js_iflt (tgt := 85) dX6_perform_74 (by decide) ?_ ?_
        · exact hK 85
        · refine js_aload_n dX6_perform_77 ?_
          refine js_get dX6_perform_78 jf_3_9 tw_469 (Or.inl rfl) ?_
          refine js_iconst dX6_perform_81 ?_
          refine js_icmplt (tgt := 90) dX6_perform_82 (by decide) ?_ ?_
          · refine js_aload_n dX6_perform_90 ?_
            refine js_aload_n dX6_perform_91 ?_
            refine js_callv dX6_perform_92 (⟨⟨_, _, _, _, _, _, _, ⟨rfl, (show (5 : Nat) < 20 by decide), sX6_performInLine l n, by decide, by decide, tw_808, tw_112, tw_807⟩, Or.inl ⟨by decide +kernel, by decide +kernel, by decide +kernel, tw_805, tw_45⟩⟩, trivial⟩) ?_
            exact hK 95
          · exact hK 85
      · refine js_aload_n dX6_perform_63 ?_
        refine js_iconst dX6_perform_64 ?_
        refine js_puti dX6_perform_65 jf_9_5 rfl tw_350 (Or.inl rfl) ?_
        refine js_iconst dX6_perform_68 ?_
        exact js_iret dX6_perform_69 rfl
    · refine js_bipush dX6_perform_52 ?_
      exact js_iret dX6_perform_54 rfl
  · refine js_iload_n dX6_perform_27 ?_
    refine js_ifeq (tgt := 36) dX6_perform_28 (by decide) ?_ ?_
    · refine js_aload_n dX6_perform_36 ?_
      refine js_aload_n dX6_perform_37 ?_
      refine js_get dX6_perform_38 jf_0_9 tw_449 (Or.inl rfl) ?_
      refine js_get dX6_perform_41 jf_0_0 tw_396 (Or.inl rfl) ?_
      refine js_callv dX6_perform_44 (⟨⟨_, _, _, _, _, _, _, ⟨rfl, (show (5 : Nat) < 20 by decide), sX6_enter l n, by decide, by decide, tw_804, tw_112, tw_803⟩, Or.inl ⟨by decide +kernel, by decide +kernel, by decide +kernel, tw_801, tw_44⟩⟩, trivial⟩) ?_
      exact hK 47
    · refine js_bipush dX6_perform_31 ?_
      refine js_goto (tgt := 47) dX6_perform_33 (by decide) ?_
      exact hK 47
def kX6_perform_47 (n : Nat) (K : Nat → jK) : jK := jk_kill 0 <| jk_kill 1 <| jk_kill 2 <| jk_iret
set_option maxRecDepth 100000 in
set_option maxHeartbeats 4000000 in
theorem tX6_perform_47 (l : Launch) (n : Nat) {K : Nat → jK} (hK : ∀ b, jr_D l cX6_perform 3 "MeetingKit$Monitor" (Option.some Jvm.ClassFile.FieldType.int) "perform" 4 91 (K b) b) : jr_D l cX6_perform 3 "MeetingKit$Monitor" (Option.some Jvm.ClassFile.FieldType.int) "perform" 4 91 (kX6_perform_47 n K) 47 := by
  unfold kX6_perform_47
  refine js_kill ?_
  refine js_kill ?_
  refine js_kill ?_
  exact js_iret dX6_perform_47 rfl
def kX6_perform_85 (n : Nat) (K : Nat → jK) : jK := jk_kill 0 <| jk_kill 1 <| jk_kill 2 <| jk_int 6 <| K 95
set_option maxRecDepth 100000 in
set_option maxHeartbeats 4000000 in
theorem tX6_perform_85 (l : Launch) (n : Nat) {K : Nat → jK} (hK : ∀ b, jr_D l cX6_perform 3 "MeetingKit$Monitor" (Option.some Jvm.ClassFile.FieldType.int) "perform" 4 91 (K b) b) : jr_D l cX6_perform 3 "MeetingKit$Monitor" (Option.some Jvm.ClassFile.FieldType.int) "perform" 4 91 (kX6_perform_85 n K) 85 := by
  unfold kX6_perform_85
  refine js_kill ?_
  refine js_kill ?_
  refine js_kill ?_
  refine js_bipush dX6_perform_85 ?_
  refine js_goto (tgt := 95) dX6_perform_87 (by decide) ?_
  exact hK 95
def kX6_perform_95 (n : Nat) (K : Nat → jK) : jK := jk_kill 0 <| jk_kill 1 <| jk_kill 2 <| jk_iret
set_option maxRecDepth 100000 in
set_option maxHeartbeats 4000000 in
theorem tX6_perform_95 (l : Launch) (n : Nat) {K : Nat → jK} (hK : ∀ b, jr_D l cX6_perform 3 "MeetingKit$Monitor" (Option.some Jvm.ClassFile.FieldType.int) "perform" 4 91 (K b) b) : jr_D l cX6_perform 3 "MeetingKit$Monitor" (Option.some Jvm.ClassFile.FieldType.int) "perform" 4 91 (kX6_perform_95 n K) 95 := by
  unfold kX6_perform_95
  refine js_kill ?_
  refine js_kill ?_
  refine js_kill ?_
  exact js_iret dX6_perform_95 rfl
def kX6_perform_b (n : Nat) (K : Nat → jK) (b : Nat) : jK := if b = 0 then kX6_perform_0 n K else if b = 19 then kX6_perform_19 n K else if b = 47 then kX6_perform_47 n K else if b = 85 then kX6_perform_85 n K else if b = 95 then kX6_perform_95 n K else jk_none
def kX6_perform (n : Nat) : jK := jk_fix (kX6_perform_b n) n 0
theorem tX6_perform (l : Launch) (n : Nat) : jr_D l cX6_perform 3 "MeetingKit$Monitor" (Option.some Jvm.ClassFile.FieldType.int) "perform" 4 91 (kX6_perform n) 0 := js_fix (F := kX6_perform_b n) (fun K hK b => js_blk (tX6_perform_0 l n hK) (js_blk (tX6_perform_19 l n hK) (js_blk (tX6_perform_47 l n hK) (js_blk (tX6_perform_85 l n hK) (js_blk (tX6_perform_95 l n hK) (js_none)))))) n 0
def fX6_perform (n : Nat) : jF := jm_run 2 3 (kX6_perform n)
theorem sX6_perform (l : Launch) (n : Nat) : jr_F l (⟨"MeetingKit$Monitor", "perform", "(LMeetingKit$Step;)I"⟩ : MethodName) cX6_perform 3 (Option.some Jvm.ClassFile.FieldType.int) 4 91 (fX6_perform n) := js_met (by decide +kernel) (by decide) (tX6_perform l n)
theorem dX7_give_0 : decode cX7_give 0 = .ok (.aload_n 0, 1) := by decide +kernel
theorem dX7_give_1 : decode cX7_give 1 = .ok (.getfield 9, 3) := by decide +kernel
theorem dX7_give_4 : decode cX7_give 4 = .ok (.aload_n 1, 1) := by decide +kernel
theorem dX7_give_5 : decode cX7_give 5 = .ok (.getfield 20, 3) := by decide +kernel
theorem dX7_give_8 : decode cX7_give 8 = .ok (.iadd, 1) := by decide +kernel
theorem dX7_give_9 : decode cX7_give 9 = .ok (.sipush 1000, 3) := by decide +kernel
theorem dX7_give_12 : decode cX7_give 12 = .ok (.if_icmp .le 6, 3) := by decide +kernel
theorem dX7_give_15 : decode cX7_give 15 = .ok (.bipush 6, 2) := by decide +kernel
theorem dX7_give_17 : decode cX7_give 17 = .ok (.ireturn, 1) := by decide +kernel
theorem dX7_give_18 : decode cX7_give 18 = .ok (.aload_n 0, 1) := by decide +kernel
theorem dX7_give_19 : decode cX7_give 19 = .ok (.dup, 1) := by decide +kernel
theorem dX7_give_20 : decode cX7_give 20 = .ok (.getfield 9, 3) := by decide +kernel
theorem dX7_give_23 : decode cX7_give 23 = .ok (.aload_n 1, 1) := by decide +kernel
theorem dX7_give_24 : decode cX7_give 24 = .ok (.getfield 20, 3) := by decide +kernel
theorem dX7_give_27 : decode cX7_give 27 = .ok (.iadd, 1) := by decide +kernel
theorem dX7_give_28 : decode cX7_give 28 = .ok (.putfield 9, 3) := by decide +kernel
theorem dX7_give_31 : decode cX7_give 31 = .ok (.aload_n 1, 1) := by decide +kernel
theorem dX7_give_32 : decode cX7_give 32 = .ok (.aload_n 0, 1) := by decide +kernel
theorem dX7_give_33 : decode cX7_give 33 = .ok (.getfield 9, 3) := by decide +kernel
theorem dX7_give_36 : decode cX7_give 36 = .ok (.putfield 37, 3) := by decide +kernel
theorem dX7_give_39 : decode cX7_give 39 = .ok (.iconst 0, 1) := by decide +kernel
theorem dX7_give_40 : decode cX7_give 40 = .ok (.ireturn, 1) := by decide +kernel
def kX7_give (n : Nat) : jK := jk_aload 0 <| jk_get [6] 8 <| jk_aload 1 <| jk_get [9] 3 <| jk_iadd <| jk_int 1000 <| jk_icmple (jk_aload 0 <| jk_dup <| jk_get [6] 8 <| jk_aload 1 <| jk_get [9] 3 <| jk_iadd <| jk_puti [6] 8 <| jk_aload 1 <| jk_aload 0 <| jk_get [6] 8 <| jk_puti [9] 6 <| jk_int 0 <| jk_iret) <| jk_int 6 <| jk_iret
set_option maxRecDepth 100000 in
set_option maxHeartbeats 4000000 in
theorem tX7_give (l : Launch) (n : Nat) : jr_D l cX7_give 2 "MeetingKit$Permits" (Option.some Jvm.ClassFile.FieldType.int) "give" 0 0 (kX7_give n) 0 := by
  unfold kX7_give
  refine js_aload_n dX7_give_0 ?_
  refine js_get dX7_give_1 jf_8_6 tw_179 (Or.inl rfl) ?_
  refine js_aload_n dX7_give_4 ?_
  refine js_get dX7_give_5 jf_3_9 tw_467 (Or.inl rfl) ?_
  refine js_iadd dX7_give_8 ?_
  refine js_sipush dX7_give_9 ?_
  refine js_icmple (tgt := 18) dX7_give_12 (by decide) ?_ ?_
  · refine js_aload_n dX7_give_18 ?_
    refine js_dup dX7_give_19 ?_
    refine js_get dX7_give_20 jf_8_6 tw_179 (Or.inl rfl) ?_
    refine js_aload_n dX7_give_23 ?_
    refine js_get dX7_give_24 jf_3_9 tw_467 (Or.inl rfl) ?_
    refine js_iadd dX7_give_27 ?_
    refine js_puti dX7_give_28 jf_8_6 rfl tw_179 (Or.inl rfl) ?_
    refine js_aload_n dX7_give_31 ?_
    refine js_aload_n dX7_give_32 ?_
    refine js_get dX7_give_33 jf_8_6 tw_179 (Or.inl rfl) ?_
    refine js_puti dX7_give_36 jf_6_9 rfl tw_481 (Or.inl rfl) ?_
    refine js_iconst dX7_give_39 ?_
    exact js_iret dX7_give_40 rfl
  · refine js_bipush dX7_give_15 ?_
    exact js_iret dX7_give_17 rfl
def fX7_give (n : Nat) : jF := jm_run 2 2 (kX7_give n)
theorem sX7_give (l : Launch) (n : Nat) : jr_F l (⟨"MeetingKit$Permits", "give", "(LMeetingKit$Step;)I"⟩ : MethodName) cX7_give 2 (Option.some Jvm.ClassFile.FieldType.int) 0 0 (fX7_give n) := js_met (by decide +kernel) (by decide) (tX7_give l n)
theorem dX7_take_0 : decode cX7_take 0 = .ok (.aload_n 0, 1) := by decide +kernel
theorem dX7_take_1 : decode cX7_take 1 = .ok (.dup, 1) := by decide +kernel
theorem dX7_take_2 : decode cX7_take 2 = .ok (.getfield 9, 3) := by decide +kernel
theorem dX7_take_5 : decode cX7_take 5 = .ok (.aload_n 1, 1) := by decide +kernel
theorem dX7_take_6 : decode cX7_take 6 = .ok (.getfield 20, 3) := by decide +kernel
theorem dX7_take_9 : decode cX7_take 9 = .ok (.isub, 1) := by decide +kernel
theorem dX7_take_10 : decode cX7_take 10 = .ok (.putfield 9, 3) := by decide +kernel
theorem dX7_take_13 : decode cX7_take 13 = .ok (.aload_n 1, 1) := by decide +kernel
theorem dX7_take_14 : decode cX7_take 14 = .ok (.aload_n 0, 1) := by decide +kernel
theorem dX7_take_15 : decode cX7_take 15 = .ok (.getfield 9, 3) := by decide +kernel
theorem dX7_take_18 : decode cX7_take 18 = .ok (.invokevirtual 40, 3) := by decide +kernel
theorem dX7_take_21 : decode cX7_take 21 = .ok (.return_, 1) := by decide +kernel
def kX7_take (n : Nat) : jK := jk_aload 0 <| jk_dup <| jk_get [6] 8 <| jk_aload 1 <| jk_get [9] 3 <| jk_isub <| jk_puti [6] 8 <| jk_aload 1 <| jk_aload 0 <| jk_get [6] 8 <| jk_vcall [(9, fX10_passWith n)] 1 <| jk_vret
set_option maxRecDepth 100000 in
set_option maxHeartbeats 4000000 in
theorem tX7_take (l : Launch) (n : Nat) : jr_D l cX7_take 2 "MeetingKit$Permits" (Option.none : Option Jvm.ClassFile.FieldType) "take" 1 21 (kX7_take n) 0 := by
  unfold kX7_take
  refine js_aload_n dX7_take_0 ?_
  refine js_dup dX7_take_1 ?_
  refine js_get dX7_take_2 jf_8_6 tw_179 (Or.inl rfl) ?_
  refine js_aload_n dX7_take_5 ?_
  refine js_get dX7_take_6 jf_3_9 tw_467 (Or.inl rfl) ?_
  refine js_isub dX7_take_9 ?_
  refine js_puti dX7_take_10 jf_8_6 rfl tw_179 (Or.inl rfl) ?_
  refine js_aload_n dX7_take_13 ?_
  refine js_aload_n dX7_take_14 ?_
  refine js_get dX7_take_15 jf_8_6 tw_179 (Or.inl rfl) ?_
  refine js_callv dX7_take_18 (⟨⟨_, _, _, _, _, _, _, ⟨rfl, (show (9 : Nat) < 20 by decide), sX10_passWith l n, by decide, by decide, tw_631, tw_115, tw_629⟩, Or.inl ⟨by decide +kernel, by decide +kernel, by decide +kernel, tw_667, tw_630⟩⟩, trivial⟩) ?_
  exact js_vret dX7_take_21 rfl
def fX7_take (n : Nat) : jF := jm_run 2 2 (kX7_take n)
theorem sX7_take (l : Launch) (n : Nat) : jr_F l (⟨"MeetingKit$Permits", "take", "(LMeetingKit$Step;)V"⟩ : MethodName) cX7_take 2 (Option.none : Option Jvm.ClassFile.FieldType) 1 21 (fX7_take n) := js_met (by decide +kernel) (by decide) (tX7_take l n)
theorem dX7_perform_0 : decode cX7_perform 0 = .ok (.aload_n 1, 1) := by decide +kernel
theorem dX7_perform_1 : decode cX7_perform 1 = .ok (.getfield 15, 3) := by decide +kernel
theorem dX7_perform_4 : decode cX7_perform 4 = .ok (.iconst 2, 1) := by decide +kernel
theorem dX7_perform_5 : decode cX7_perform 5 = .ok (.if_icmp .gt 20, 3) := by decide +kernel
theorem dX7_perform_8 : decode cX7_perform 8 = .ok (.aload_n 1, 1) := by decide +kernel
theorem dX7_perform_9 : decode cX7_perform 9 = .ok (.getfield 20, 3) := by decide +kernel
theorem dX7_perform_12 : decode cX7_perform 12 = .ok (.iconst 1, 1) := by decide +kernel
theorem dX7_perform_13 : decode cX7_perform 13 = .ok (.if_icmp .lt 12, 3) := by decide +kernel
theorem dX7_perform_16 : decode cX7_perform 16 = .ok (.aload_n 1, 1) := by decide +kernel
theorem dX7_perform_17 : decode cX7_perform 17 = .ok (.getfield 20, 3) := by decide +kernel
theorem dX7_perform_20 : decode cX7_perform 20 = .ok (.bipush 100, 2) := by decide +kernel
theorem dX7_perform_22 : decode cX7_perform 22 = .ok (.if_icmp .le 6, 3) := by decide +kernel
theorem dX7_perform_25 : decode cX7_perform 25 = .ok (.bipush 6, 2) := by decide +kernel
theorem dX7_perform_27 : decode cX7_perform 27 = .ok (.ireturn, 1) := by decide +kernel
theorem dX7_perform_28 : decode cX7_perform 28 = .ok (.aload_n 1, 1) := by decide +kernel
theorem dX7_perform_29 : decode cX7_perform 29 = .ok (.getfield 15, 3) := by decide +kernel
theorem dX7_perform_32 : decode cX7_perform 32 = .ok (.iconst 1, 1) := by decide +kernel
theorem dX7_perform_33 : decode cX7_perform 33 = .ok (.if_icmp .ne 9, 3) := by decide +kernel
theorem dX7_perform_36 : decode cX7_perform 36 = .ok (.aload_n 0, 1) := by decide +kernel
theorem dX7_perform_37 : decode cX7_perform 37 = .ok (.aload_n 1, 1) := by decide +kernel
theorem dX7_perform_38 : decode cX7_perform 38 = .ok (.invokevirtual 23, 3) := by decide +kernel
theorem dX7_perform_41 : decode cX7_perform 41 = .ok (.ireturn, 1) := by decide +kernel
theorem dX7_perform_42 : decode cX7_perform 42 = .ok (.aload_n 0, 1) := by decide +kernel
theorem dX7_perform_43 : decode cX7_perform 43 = .ok (.getfield 27, 3) := by decide +kernel
theorem dX7_perform_46 : decode cX7_perform 46 = .ok (.iconst 1, 1) := by decide +kernel
theorem dX7_perform_47 : decode cX7_perform 47 = .ok (.if_icmp .ne 14, 3) := by decide +kernel
theorem dX7_perform_50 : decode cX7_perform 50 = .ok (.aload_n 0, 1) := by decide +kernel
theorem dX7_perform_51 : decode cX7_perform 51 = .ok (.getfield 30, 3) := by decide +kernel
theorem dX7_perform_54 : decode cX7_perform 54 = .ok (.ifCond .le 7, 3) := by decide +kernel
theorem dX7_perform_57 : decode cX7_perform 57 = .ok (.iconst 1, 1) := by decide +kernel
theorem dX7_perform_58 : decode cX7_perform 58 = .ok (.goto 4, 3) := by decide +kernel
theorem dX7_perform_61 : decode cX7_perform 61 = .ok (.iconst 0, 1) := by decide +kernel
theorem dX7_perform_62 : decode cX7_perform 62 = .ok (.istore_n 2, 1) := by decide +kernel
theorem dX7_perform_63 : decode cX7_perform 63 = .ok (.aload_n 1, 1) := by decide +kernel
theorem dX7_perform_64 : decode cX7_perform 64 = .ok (.getfield 20, 3) := by decide +kernel
theorem dX7_perform_67 : decode cX7_perform 67 = .ok (.aload_n 0, 1) := by decide +kernel
theorem dX7_perform_68 : decode cX7_perform 68 = .ok (.getfield 9, 3) := by decide +kernel
theorem dX7_perform_71 : decode cX7_perform 71 = .ok (.if_icmp .gt 14, 3) := by decide +kernel
theorem dX7_perform_74 : decode cX7_perform 74 = .ok (.iload_n 2, 1) := by decide +kernel
theorem dX7_perform_75 : decode cX7_perform 75 = .ok (.ifCond .ne 10, 3) := by decide +kernel
theorem dX7_perform_78 : decode cX7_perform 78 = .ok (.aload_n 0, 1) := by decide +kernel
theorem dX7_perform_79 : decode cX7_perform 79 = .ok (.aload_n 1, 1) := by decide +kernel
theorem dX7_perform_80 : decode cX7_perform 80 = .ok (.invokevirtual 33, 3) := by decide +kernel
theorem dX7_perform_83 : decode cX7_perform 83 = .ok (.iconst 0, 1) := by decide +kernel
theorem dX7_perform_84 : decode cX7_perform 84 = .ok (.ireturn, 1) := by decide +kernel
theorem dX7_perform_85 : decode cX7_perform 85 = .ok (.aload_n 1, 1) := by decide +kernel
theorem dX7_perform_86 : decode cX7_perform 86 = .ok (.getfield 15, 3) := by decide +kernel
theorem dX7_perform_89 : decode cX7_perform 89 = .ok (.ifCond .ne 7, 3) := by decide +kernel
theorem dX7_perform_92 : decode cX7_perform 92 = .ok (.iconst 1, 1) := by decide +kernel
theorem dX7_perform_93 : decode cX7_perform 93 = .ok (.goto 5, 3) := by decide +kernel
theorem dX7_perform_96 : decode cX7_perform 96 = .ok (.bipush 7, 2) := by decide +kernel
theorem dX7_perform_98 : decode cX7_perform 98 = .ok (.ireturn, 1) := by decide +kernel
def kX7_perform_0 (n : Nat) (K : Nat → jK) : jK := jk_aload 1 <| jk_get [9] 2 <| jk_int 2 <| jk_icmpgt (K 25) <| jk_aload 1 <| jk_get [9] 3 <| jk_int 1 <| jk_icmplt (K 25) <| jk_aload 1 <| jk_get [9] 3 <| jk_int 100 <| jk_icmple (jk_aload 1 <| jk_get [9] 2 <| jk_int 1 <| jk_icmpne (jk_aload 0 <| jk_get [6] 0 <| jk_int 1 <| jk_icmpne (K 61) <| jk_aload 0 <| jk_get [6] 5 <| jk_ifle (K 61) <| jk_int 1 <| K 62) <| jk_aload 0 <| jk_aload 1 <| jk_vcall [(6, fX7_give n)] 1 <| jk_iret) <| K 25
set_option maxRecDepth 100000 in
set_option maxHeartbeats 4000000 in
theorem tX7_perform_0 (l : Launch) (n : Nat) {K : Nat → jK} (hK : ∀ b, jr_D l cX7_perform 3 "MeetingKit$Permits" (Option.some Jvm.ClassFile.FieldType.int) "perform" 2 42 (K b) b) : jr_D l cX7_perform 3 "MeetingKit$Permits" (Option.some Jvm.ClassFile.FieldType.int) "perform" 2 42 (kX7_perform_0 n K) 0 := by
  unfold kX7_perform_0
  refine js_aload_n dX7_perform_0 ?_
  refine js_get dX7_perform_1 jf_2_9 tw_461 (Or.inl rfl) ?_
  refine js_iconst dX7_perform_4 ?_
  refine js_icmpgt (tgt := 25) dX7_perform_5 (by decide) ?_ ?_
  · exact hK 25
  · refine js_aload_n dX7_perform_8 ?_
    refine js_get dX7_perform_9 jf_3_9 tw_467 (Or.inl rfl) ?_
    refine js_iconst dX7_perform_12 ?_
    refine js_icmplt (tgt := 25) dX7_perform_13 (by decide) ?_ ?_
    · exact hK 25
    · refine js_aload_n dX7_perform_16 ?_
      refine js_get dX7_perform_17 jf_3_9 tw_467 (Or.inl rfl) ?_
      refine js_bipush dX7_perform_20 ?_
      refine js_icmple (tgt := 28) dX7_perform_22 (by decide) ?_ ?_
      · refine js_aload_n dX7_perform_28 ?_
        refine js_get dX7_perform_29 jf_2_9 tw_461 (Or.inl rfl) ?_
        refine js_iconst dX7_perform_32 ?_
        refine js_icmpne (tgt := 42) dX7_perform_33 (by decide) ?_ ?_
        · refine js_aload_n dX7_perform_42 ?_
          refine js_get dX7_perform_43 jf_0_6 tw_183 (Or.inr tw_184) ?_
          refine js_iconst dX7_perform_46 ?_
          refine js_icmpne (tgt := 61) dX7_perform_47 (by decide) ?_ ?_
          · exact hK 61
          · refine js_aload_n dX7_perform_50 ?_
            refine js_get dX7_perform_51 jf_5_6 tw_194 (Or.inr tw_195) ?_
            refine js_ifle (tgt := 61) dX7_perform_54 (by decide) ?_ ?_
            · exact hK 61
            · refine js_iconst dX7_perform_57 ?_
              refine js_goto (tgt := 62) dX7_perform_58 (by decide) ?_
              exact hK 62
        · refine js_aload_n dX7_perform_36 ?_
          refine js_aload_n dX7_perform_37 ?_
          refine js_callv dX7_perform_38 (⟨⟨_, _, _, _, _, _, _, ⟨rfl, (show (6 : Nat) < 20 by decide), sX7_give l n, by decide, by decide, tw_823, tw_105, tw_822⟩, Or.inl ⟨by decide +kernel, by decide +kernel, by decide +kernel, tw_820, tw_48⟩⟩, trivial⟩) ?_
          exact js_iret dX7_perform_41 rfl
      · exact hK 25
def kX7_perform_25 (n : Nat) (K : Nat → jK) : jK := jk_kill 0 <| jk_kill 1 <| jk_int 6 <| jk_iret
set_option maxRecDepth 100000 in
set_option maxHeartbeats 4000000 in
theorem tX7_perform_25 (l : Launch) (n : Nat) {K : Nat → jK} (hK : ∀ b, jr_D l cX7_perform 3 "MeetingKit$Permits" (Option.some Jvm.ClassFile.FieldType.int) "perform" 2 42 (K b) b) : jr_D l cX7_perform 3 "MeetingKit$Permits" (Option.some Jvm.ClassFile.FieldType.int) "perform" 2 42 (kX7_perform_25 n K) 25 := by
  unfold kX7_perform_25
  refine js_kill ?_
  refine js_kill ?_
  refine js_bipush dX7_perform_25 ?_
  exact js_iret dX7_perform_27 rfl
def kX7_perform_61 (n : Nat) (K : Nat → jK) : jK := jk_int 0 <| K 62
set_option maxRecDepth 100000 in
set_option maxHeartbeats 4000000 in
theorem tX7_perform_61 (l : Launch) (n : Nat) {K : Nat → jK} (hK : ∀ b, jr_D l cX7_perform 3 "MeetingKit$Permits" (Option.some Jvm.ClassFile.FieldType.int) "perform" 2 42 (K b) b) : jr_D l cX7_perform 3 "MeetingKit$Permits" (Option.some Jvm.ClassFile.FieldType.int) "perform" 2 42 (kX7_perform_61 n K) 61 := by
  unfold kX7_perform_61
  refine js_iconst dX7_perform_61 ?_
  exact hK 62
def kX7_perform_62 (n : Nat) (K : Nat → jK) : jK := jk_istore 2 <| jk_aload 1 <| jk_get [9] 3 <| jk_aload 0 <| jk_get [6] 8 <| jk_icmpgt (K 85) <| jk_iload 2 <| jk_ifne (K 85) <| jk_aload 0 <| jk_aload 1 <| jk_vcall [(6, fX7_take n)] 1 <| jk_int 0 <| jk_iret
set_option maxRecDepth 100000 in
set_option maxHeartbeats 4000000 in
theorem tX7_perform_62 (l : Launch) (n : Nat) {K : Nat → jK} (hK : ∀ b, jr_D l cX7_perform 3 "MeetingKit$Permits" (Option.some Jvm.ClassFile.FieldType.int) "perform" 2 42 (K b) b) : jr_D l cX7_perform 3 "MeetingKit$Permits" (Option.some Jvm.ClassFile.FieldType.int) "perform" 2 42 (kX7_perform_62 n K) 62 := by
  unfold kX7_perform_62
  refine js_istore_n dX7_perform_62 (by decide) ?_
  refine js_aload_n dX7_perform_63 ?_
  refine js_get dX7_perform_64 jf_3_9 tw_467 (Or.inl rfl) ?_
  refine js_aload_n dX7_perform_67 ?_
  refine js_get dX7_perform_68 jf_8_6 tw_179 (Or.inl rfl) ?_
  refine js_icmpgt (tgt := 85) dX7_perform_71 (by decide) ?_ ?_
  · exact hK 85
  · refine js_iload_n dX7_perform_74 ?_
    refine js_ifne (tgt := 85) dX7_perform_75 (by decide) ?_ ?_
    · exact hK 85
    · refine js_aload_n dX7_perform_78 ?_
      refine js_aload_n dX7_perform_79 ?_
      refine js_callv dX7_perform_80 (⟨⟨_, _, _, _, _, _, _, ⟨rfl, (show (6 : Nat) < 20 by decide), sX7_take l n, by decide, by decide, tw_666, tw_105, tw_665⟩, Or.inl ⟨by decide +kernel, by decide +kernel, by decide +kernel, tw_663, tw_29⟩⟩, trivial⟩) ?_
      refine js_iconst dX7_perform_83 ?_
      exact js_iret dX7_perform_84 rfl
def kX7_perform_85 (n : Nat) (K : Nat → jK) : jK := jk_kill 0 <| jk_kill 2 <| jk_aload 1 <| jk_get [9] 2 <| jk_ifne (jk_int 7 <| K 98) <| jk_int 1 <| K 98
set_option maxRecDepth 100000 in
set_option maxHeartbeats 4000000 in
theorem tX7_perform_85 (l : Launch) (n : Nat) {K : Nat → jK} (hK : ∀ b, jr_D l cX7_perform 3 "MeetingKit$Permits" (Option.some Jvm.ClassFile.FieldType.int) "perform" 2 42 (K b) b) : jr_D l cX7_perform 3 "MeetingKit$Permits" (Option.some Jvm.ClassFile.FieldType.int) "perform" 2 42 (kX7_perform_85 n K) 85 := by
  unfold kX7_perform_85
  refine js_kill ?_
  refine js_kill ?_
  refine js_aload_n dX7_perform_85 ?_
  refine js_get dX7_perform_86 jf_2_9 tw_461 (Or.inl rfl) ?_
  refine js_ifne (tgt := 96) dX7_perform_89 (by decide) ?_ ?_
  · refine js_bipush dX7_perform_96 ?_
    exact hK 98
  · refine js_iconst dX7_perform_92 ?_
    refine js_goto (tgt := 98) dX7_perform_93 (by decide) ?_
    exact hK 98
def kX7_perform_98 (n : Nat) (K : Nat → jK) : jK := jk_kill 0 <| jk_kill 1 <| jk_kill 2 <| jk_iret
set_option maxRecDepth 100000 in
set_option maxHeartbeats 4000000 in
theorem tX7_perform_98 (l : Launch) (n : Nat) {K : Nat → jK} (hK : ∀ b, jr_D l cX7_perform 3 "MeetingKit$Permits" (Option.some Jvm.ClassFile.FieldType.int) "perform" 2 42 (K b) b) : jr_D l cX7_perform 3 "MeetingKit$Permits" (Option.some Jvm.ClassFile.FieldType.int) "perform" 2 42 (kX7_perform_98 n K) 98 := by
  unfold kX7_perform_98
  refine js_kill ?_
  refine js_kill ?_
  refine js_kill ?_
  exact js_iret dX7_perform_98 rfl
def kX7_perform_b (n : Nat) (K : Nat → jK) (b : Nat) : jK := if b = 0 then kX7_perform_0 n K else if b = 25 then kX7_perform_25 n K else if b = 61 then kX7_perform_61 n K else if b = 62 then kX7_perform_62 n K else if b = 85 then kX7_perform_85 n K else if b = 98 then kX7_perform_98 n K else jk_none
def kX7_perform (n : Nat) : jK := jk_fix (kX7_perform_b n) n 0
theorem tX7_perform (l : Launch) (n : Nat) : jr_D l cX7_perform 3 "MeetingKit$Permits" (Option.some Jvm.ClassFile.FieldType.int) "perform" 2 42 (kX7_perform n) 0 := js_fix (F := kX7_perform_b n) (fun K hK b => js_blk (tX7_perform_0 l n hK) (js_blk (tX7_perform_25 l n hK) (js_blk (tX7_perform_61 l n hK) (js_blk (tX7_perform_62 l n hK) (js_blk (tX7_perform_85 l n hK) (js_blk (tX7_perform_98 l n hK) (js_none))))))) n 0
def fX7_perform (n : Nat) : jF := jm_run 2 3 (kX7_perform n)
theorem sX7_perform (l : Launch) (n : Nat) : jr_F l (⟨"MeetingKit$Permits", "perform", "(LMeetingKit$Step;)I"⟩ : MethodName) cX7_perform 3 (Option.some Jvm.ClassFile.FieldType.int) 2 42 (fX7_perform n) := js_met (by decide +kernel) (by decide) (tX7_perform l n)
theorem dX8_countParties_0 : decode cX8_countParties 0 = .ok (.iconst 0, 1) := by decide +kernel
theorem dX8_countParties_1 : decode cX8_countParties 1 = .ok (.istore_n 2, 1) := by decide +kernel
theorem dX8_countParties_2 : decode cX8_countParties 2 = .ok (.iconst 0, 1) := by decide +kernel
theorem dX8_countParties_3 : decode cX8_countParties 3 = .ok (.istore_n 3, 1) := by decide +kernel
theorem dX8_countParties_4 : decode cX8_countParties 4 = .ok (.iload_n 3, 1) := by decide +kernel
theorem dX8_countParties_5 : decode cX8_countParties 5 = .ok (.bipush 16, 2) := by decide +kernel
theorem dX8_countParties_7 : decode cX8_countParties 7 = .ok (.if_icmp .ge 35, 3) := by decide +kernel
theorem dX8_countParties_10 : decode cX8_countParties 10 = .ok (.aload_n 0, 1) := by decide +kernel
theorem dX8_countParties_11 : decode cX8_countParties 11 = .ok (.getfield 9, 3) := by decide +kernel
theorem dX8_countParties_14 : decode cX8_countParties 14 = .ok (.iload_n 3, 1) := by decide +kernel
theorem dX8_countParties_15 : decode cX8_countParties 15 = .ok (.iaload, 1) := by decide +kernel
theorem dX8_countParties_16 : decode cX8_countParties 16 = .ok (.iconst 1, 1) := by decide +kernel
theorem dX8_countParties_17 : decode cX8_countParties 17 = .ok (.if_icmp .ne 19, 3) := by decide +kernel
theorem dX8_countParties_20 : decode cX8_countParties 20 = .ok (.aload_n 0, 1) := by decide +kernel
theorem dX8_countParties_21 : decode cX8_countParties 21 = .ok (.getfield 15, 3) := by decide +kernel
theorem dX8_countParties_24 : decode cX8_countParties 24 = .ok (.iload_n 3, 1) := by decide +kernel
theorem dX8_countParties_25 : decode cX8_countParties 25 = .ok (.baload, 1) := by decide +kernel
theorem dX8_countParties_26 : decode cX8_countParties 26 = .ok (.ifCond .ne 7, 3) := by decide +kernel
theorem dX8_countParties_29 : decode cX8_countParties 29 = .ok (.iload_n 1, 1) := by decide +kernel
theorem dX8_countParties_30 : decode cX8_countParties 30 = .ok (.ifCond .ne 6, 3) := by decide +kernel
theorem dX8_countParties_33 : decode cX8_countParties 33 = .ok (.iinc 2 1, 3) := by decide +kernel
theorem dX8_countParties_36 : decode cX8_countParties 36 = .ok (.iinc 3 1, 3) := by decide +kernel
theorem dX8_countParties_39 : decode cX8_countParties 39 = .ok (.goto (-35), 3) := by decide +kernel
theorem dX8_countParties_42 : decode cX8_countParties 42 = .ok (.iload_n 2, 1) := by decide +kernel
theorem dX8_countParties_43 : decode cX8_countParties 43 = .ok (.ireturn, 1) := by decide +kernel
def kX8_countParties_0 (n : Nat) (K : Nat → jK) : jK := jk_int 0 <| jk_istore 2 <| jk_int 0 <| jk_istore 3 <| K 4
set_option maxRecDepth 100000 in
set_option maxHeartbeats 4000000 in
theorem tX8_countParties_0 (l : Launch) (n : Nat) {K : Nat → jK} (hK : ∀ b, jr_D l cX8_countParties 4 "MeetingKit$Phaser" (Option.some Jvm.ClassFile.FieldType.int) "countParties" 0 0 (K b) b) : jr_D l cX8_countParties 4 "MeetingKit$Phaser" (Option.some Jvm.ClassFile.FieldType.int) "countParties" 0 0 (kX8_countParties_0 n K) 0 := by
  unfold kX8_countParties_0
  refine js_iconst dX8_countParties_0 ?_
  refine js_istore_n dX8_countParties_1 (by decide) ?_
  refine js_iconst dX8_countParties_2 ?_
  refine js_istore_n dX8_countParties_3 (by decide) ?_
  exact hK 4
def kX8_countParties_4 (n : Nat) (K : Nat → jK) : jK := jk_iload 3 <| jk_int 16 <| jk_icmpge (jk_iload 2 <| jk_iret) <| jk_aload 0 <| jk_get [7] 8 <| jk_iload 3 <| jk_iald <| jk_int 1 <| jk_icmpne (K 36) <| jk_aload 0 <| jk_get [7] 9 <| jk_iload 3 <| jk_xald 21 <| jk_ifne (K 33) <| jk_iload 1 <| jk_ifne (K 36) <| K 33
set_option maxRecDepth 100000 in
set_option maxHeartbeats 4000000 in
theorem tX8_countParties_4 (l : Launch) (n : Nat) {K : Nat → jK} (hK : ∀ b, jr_D l cX8_countParties 4 "MeetingKit$Phaser" (Option.some Jvm.ClassFile.FieldType.int) "countParties" 0 0 (K b) b) : jr_D l cX8_countParties 4 "MeetingKit$Phaser" (Option.some Jvm.ClassFile.FieldType.int) "countParties" 0 0 (kX8_countParties_4 n K) 4 := by
  unfold kX8_countParties_4
  refine js_iload_n dX8_countParties_4 ?_
  refine js_bipush dX8_countParties_5 ?_
  refine js_icmpge (tgt := 42) dX8_countParties_7 (by decide) ?_ ?_
  · refine js_iload_n dX8_countParties_42 ?_
    exact js_iret dX8_countParties_43 rfl
  · refine js_aload_n dX8_countParties_10 ?_
    refine js_get dX8_countParties_11 jf_8_7 tw_325 (Or.inl rfl) ?_
    refine js_iload_n dX8_countParties_14 ?_
    refine js_iald dX8_countParties_15 ?_
    refine js_iconst dX8_countParties_16 ?_
    refine js_icmpne (tgt := 36) dX8_countParties_17 (by decide) ?_ ?_
    · exact hK 36
    · refine js_aload_n dX8_countParties_20 ?_
      refine js_get dX8_countParties_21 jf_9_7 tw_326 (Or.inl rfl) ?_
      refine js_iload_n dX8_countParties_24 ?_
      refine js_zald dX8_countParties_25 ?_
      refine js_ifne (tgt := 33) dX8_countParties_26 (by decide) ?_ ?_
      · exact hK 33
      · refine js_iload_n dX8_countParties_29 ?_
        refine js_ifne (tgt := 36) dX8_countParties_30 (by decide) ?_ ?_
        · exact hK 36
        · exact hK 33
def kX8_countParties_33 (n : Nat) (K : Nat → jK) : jK := jk_iinc 2 1 <| K 36
set_option maxRecDepth 100000 in
set_option maxHeartbeats 4000000 in
theorem tX8_countParties_33 (l : Launch) (n : Nat) {K : Nat → jK} (hK : ∀ b, jr_D l cX8_countParties 4 "MeetingKit$Phaser" (Option.some Jvm.ClassFile.FieldType.int) "countParties" 0 0 (K b) b) : jr_D l cX8_countParties 4 "MeetingKit$Phaser" (Option.some Jvm.ClassFile.FieldType.int) "countParties" 0 0 (kX8_countParties_33 n K) 33 := by
  unfold kX8_countParties_33
  refine js_iinc dX8_countParties_33 (by decide) ?_
  exact hK 36
def kX8_countParties_36 (n : Nat) (K : Nat → jK) : jK := jk_iinc 3 1 <| K 4
set_option maxRecDepth 100000 in
set_option maxHeartbeats 4000000 in
theorem tX8_countParties_36 (l : Launch) (n : Nat) {K : Nat → jK} (hK : ∀ b, jr_D l cX8_countParties 4 "MeetingKit$Phaser" (Option.some Jvm.ClassFile.FieldType.int) "countParties" 0 0 (K b) b) : jr_D l cX8_countParties 4 "MeetingKit$Phaser" (Option.some Jvm.ClassFile.FieldType.int) "countParties" 0 0 (kX8_countParties_36 n K) 36 := by
  unfold kX8_countParties_36
  refine js_iinc dX8_countParties_36 (by decide) ?_
  refine js_goto (tgt := 4) dX8_countParties_39 (by decide) ?_
  exact hK 4
def kX8_countParties_b (n : Nat) (K : Nat → jK) (b : Nat) : jK := if b = 0 then kX8_countParties_0 n K else if b = 4 then kX8_countParties_4 n K else if b = 33 then kX8_countParties_33 n K else if b = 36 then kX8_countParties_36 n K else jk_none
def kX8_countParties (n : Nat) : jK := jk_fix (kX8_countParties_b n) n 0
theorem tX8_countParties (l : Launch) (n : Nat) : jr_D l cX8_countParties 4 "MeetingKit$Phaser" (Option.some Jvm.ClassFile.FieldType.int) "countParties" 0 0 (kX8_countParties n) 0 := js_fix (F := kX8_countParties_b n) (fun K hK b => js_blk (tX8_countParties_0 l n hK) (js_blk (tX8_countParties_4 l n hK) (js_blk (tX8_countParties_33 l n hK) (js_blk (tX8_countParties_36 l n hK) (js_none))))) n 0
def fX8_countParties (n : Nat) : jF := jm_run 2 4 (kX8_countParties n)
theorem sX8_countParties (l : Launch) (n : Nat) : jr_F l (⟨"MeetingKit$Phaser", "countParties", "(Z)I"⟩ : MethodName) cX8_countParties 4 (Option.some Jvm.ClassFile.FieldType.int) 0 0 (fX8_countParties n) := js_met (by decide +kernel) (by decide) (tX8_countParties l n)
theorem dX8_join_0 : decode cX8_join 0 = .ok (.aload_n 1, 1) := by decide +kernel
theorem dX8_join_1 : decode cX8_join 1 = .ok (.getfield 35, 3) := by decide +kernel
theorem dX8_join_4 : decode cX8_join 4 = .ok (.getfield 39, 3) := by decide +kernel
theorem dX8_join_7 : decode cX8_join 7 = .ok (.istore_n 2, 1) := by decide +kernel
theorem dX8_join_8 : decode cX8_join 8 = .ok (.aload_n 0, 1) := by decide +kernel
theorem dX8_join_9 : decode cX8_join 9 = .ok (.getfield 9, 3) := by decide +kernel
theorem dX8_join_12 : decode cX8_join 12 = .ok (.iload_n 2, 1) := by decide +kernel
theorem dX8_join_13 : decode cX8_join 13 = .ok (.iaload, 1) := by decide +kernel
theorem dX8_join_14 : decode cX8_join 14 = .ok (.ifCond .eq 6, 3) := by decide +kernel
theorem dX8_join_17 : decode cX8_join 17 = .ok (.bipush 6, 2) := by decide +kernel
theorem dX8_join_19 : decode cX8_join 19 = .ok (.ireturn, 1) := by decide +kernel
theorem dX8_join_20 : decode cX8_join 20 = .ok (.aload_n 0, 1) := by decide +kernel
theorem dX8_join_21 : decode cX8_join 21 = .ok (.getfield 9, 3) := by decide +kernel
theorem dX8_join_24 : decode cX8_join 24 = .ok (.iload_n 2, 1) := by decide +kernel
theorem dX8_join_25 : decode cX8_join 25 = .ok (.aload_n 0, 1) := by decide +kernel
theorem dX8_join_26 : decode cX8_join 26 = .ok (.iconst 1, 1) := by decide +kernel
theorem dX8_join_27 : decode cX8_join 27 = .ok (.invokevirtual 44, 3) := by decide +kernel
theorem dX8_join_30 : decode cX8_join 30 = .ok (.ifCond .le 7, 3) := by decide +kernel
theorem dX8_join_33 : decode cX8_join 33 = .ok (.iconst 2, 1) := by decide +kernel
theorem dX8_join_34 : decode cX8_join 34 = .ok (.goto 4, 3) := by decide +kernel
theorem dX8_join_37 : decode cX8_join 37 = .ok (.iconst 1, 1) := by decide +kernel
theorem dX8_join_38 : decode cX8_join 38 = .ok (.iastore, 1) := by decide +kernel
theorem dX8_join_39 : decode cX8_join 39 = .ok (.aload_n 1, 1) := by decide +kernel
theorem dX8_join_40 : decode cX8_join 40 = .ok (.aload_n 0, 1) := by decide +kernel
theorem dX8_join_41 : decode cX8_join 41 = .ok (.getfield 48, 3) := by decide +kernel
theorem dX8_join_44 : decode cX8_join 44 = .ok (.putfield 51, 3) := by decide +kernel
theorem dX8_join_47 : decode cX8_join 47 = .ok (.iconst 0, 1) := by decide +kernel
theorem dX8_join_48 : decode cX8_join 48 = .ok (.ireturn, 1) := by decide +kernel
def kX8_join_0 (n : Nat) (K : Nat → jK) : jK := jk_aload 1 <| jk_get [9] 0 <| jk_get [0] 0 <| jk_istore 2 <| jk_aload 0 <| jk_get [7] 8 <| jk_iload 2 <| jk_iald <| jk_ifeq (jk_aload 0 <| jk_get [7] 8 <| jk_iload 2 <| jk_aload 0 <| jk_int 1 <| jk_vcall [(7, fX8_countParties n)] 1 <| jk_ifle (jk_int 1 <| K 38) <| jk_int 2 <| K 38) <| jk_int 6 <| jk_iret
set_option maxRecDepth 100000 in
set_option maxHeartbeats 4000000 in
theorem tX8_join_0 (l : Launch) (n : Nat) {K : Nat → jK} (hK : ∀ b, jr_D l cX8_join 3 "MeetingKit$Phaser" (Option.some Jvm.ClassFile.FieldType.int) "join" 1 23 (K b) b) : jr_D l cX8_join 3 "MeetingKit$Phaser" (Option.some Jvm.ClassFile.FieldType.int) "join" 1 23 (kX8_join_0 n K) 0 := by
  unfold kX8_join_0
  refine js_aload_n dX8_join_0 ?_
  refine js_get dX8_join_1 jf_0_9 tw_451 (Or.inl rfl) ?_
  refine js_get dX8_join_4 jf_0_0 tw_398 (Or.inl rfl) ?_
  refine js_istore_n dX8_join_7 (by decide) ?_
  refine js_aload_n dX8_join_8 ?_
  refine js_get dX8_join_9 jf_8_7 tw_325 (Or.inl rfl) ?_
  refine js_iload_n dX8_join_12 ?_
  refine js_iald dX8_join_13 ?_
  refine js_ifeq (tgt := 20) dX8_join_14 (by decide) ?_ ?_
  · refine js_aload_n dX8_join_20 ?_
    refine js_get dX8_join_21 jf_8_7 tw_325 (Or.inl rfl) ?_
    refine js_iload_n dX8_join_24 ?_
    refine js_aload_n dX8_join_25 ?_
    refine js_iconst dX8_join_26 ?_
    refine js_callv dX8_join_27 (⟨⟨_, _, _, _, _, _, _, ⟨rfl, (show (7 : Nat) < 20 by decide), sX8_countParties l n, by decide, by decide, tw_834, tw_111, tw_833⟩, Or.inl ⟨by decide +kernel, by decide +kernel, by decide +kernel, tw_831, tw_50⟩⟩, trivial⟩) ?_
    refine js_ifle (tgt := 37) dX8_join_30 (by decide) ?_ ?_
    · refine js_iconst dX8_join_37 ?_
      exact hK 38
    · refine js_iconst dX8_join_33 ?_
      refine js_goto (tgt := 38) dX8_join_34 (by decide) ?_
      exact hK 38
  · refine js_bipush dX8_join_17 ?_
    exact js_iret dX8_join_19 rfl
def kX8_join_38 (n : Nat) (K : Nat → jK) : jK := jk_kill 2 <| jk_iast <| jk_aload 1 <| jk_aload 0 <| jk_get [7] 10 <| jk_puti [9] 6 <| jk_int 0 <| jk_iret
set_option maxRecDepth 100000 in
set_option maxHeartbeats 4000000 in
theorem tX8_join_38 (l : Launch) (n : Nat) {K : Nat → jK} (hK : ∀ b, jr_D l cX8_join 3 "MeetingKit$Phaser" (Option.some Jvm.ClassFile.FieldType.int) "join" 1 23 (K b) b) : jr_D l cX8_join 3 "MeetingKit$Phaser" (Option.some Jvm.ClassFile.FieldType.int) "join" 1 23 (kX8_join_38 n K) 38 := by
  unfold kX8_join_38
  refine js_kill ?_
  refine js_iast dX8_join_38 ?_
  refine js_aload_n dX8_join_39 ?_
  refine js_aload_n dX8_join_40 ?_
  refine js_get dX8_join_41 jf_10_7 tw_327 (Or.inl rfl) ?_
  refine js_puti dX8_join_44 jf_6_9 rfl tw_482 (Or.inl rfl) ?_
  refine js_iconst dX8_join_47 ?_
  exact js_iret dX8_join_48 rfl
def kX8_join_b (n : Nat) (K : Nat → jK) (b : Nat) : jK := if b = 0 then kX8_join_0 n K else if b = 38 then kX8_join_38 n K else jk_none
def kX8_join (n : Nat) : jK := jk_fix (kX8_join_b n) n 0
theorem tX8_join (l : Launch) (n : Nat) : jr_D l cX8_join 3 "MeetingKit$Phaser" (Option.some Jvm.ClassFile.FieldType.int) "join" 1 23 (kX8_join n) 0 := js_fix (F := kX8_join_b n) (fun K hK b => js_blk (tX8_join_0 l n hK) (js_blk (tX8_join_38 l n hK) (js_none))) n 0
def fX8_join (n : Nat) : jF := jm_run 2 3 (kX8_join n)
theorem sX8_join (l : Launch) (n : Nat) : jr_F l (⟨"MeetingKit$Phaser", "join", "(LMeetingKit$Step;)I"⟩ : MethodName) cX8_join 3 (Option.some Jvm.ClassFile.FieldType.int) 1 23 (fX8_join n) := js_met (by decide +kernel) (by decide) (tX8_join l n)
theorem dX8_allCame_0 : decode cX8_allCame 0 = .ok (.aload_n 0, 1) := by decide +kernel
theorem dX8_allCame_1 : decode cX8_allCame 1 = .ok (.iconst 0, 1) := by decide +kernel
theorem dX8_allCame_2 : decode cX8_allCame 2 = .ok (.invokevirtual 44, 3) := by decide +kernel
theorem dX8_allCame_5 : decode cX8_allCame 5 = .ok (.istore_n 1, 1) := by decide +kernel
theorem dX8_allCame_6 : decode cX8_allCame 6 = .ok (.iload_n 1, 1) := by decide +kernel
theorem dX8_allCame_7 : decode cX8_allCame 7 = .ok (.ifCond .le 16, 3) := by decide +kernel
theorem dX8_allCame_10 : decode cX8_allCame 10 = .ok (.aload_n 0, 1) := by decide +kernel
theorem dX8_allCame_11 : decode cX8_allCame 11 = .ok (.iconst 1, 1) := by decide +kernel
theorem dX8_allCame_12 : decode cX8_allCame 12 = .ok (.invokevirtual 44, 3) := by decide +kernel
theorem dX8_allCame_15 : decode cX8_allCame 15 = .ok (.iload_n 1, 1) := by decide +kernel
theorem dX8_allCame_16 : decode cX8_allCame 16 = .ok (.if_icmp .ne 7, 3) := by decide +kernel
theorem dX8_allCame_19 : decode cX8_allCame 19 = .ok (.iconst 1, 1) := by decide +kernel
theorem dX8_allCame_20 : decode cX8_allCame 20 = .ok (.goto 4, 3) := by decide +kernel
theorem dX8_allCame_23 : decode cX8_allCame 23 = .ok (.iconst 0, 1) := by decide +kernel
theorem dX8_allCame_24 : decode cX8_allCame 24 = .ok (.ireturn, 1) := by decide +kernel
def kX8_allCame_0 (n : Nat) (K : Nat → jK) : jK := jk_aload 0 <| jk_int 0 <| jk_vcall [(7, fX8_countParties n)] 1 <| jk_istore 1 <| jk_iload 1 <| jk_ifle (K 23) <| jk_aload 0 <| jk_int 1 <| jk_vcall [(7, fX8_countParties n)] 1 <| jk_iload 1 <| jk_icmpne (K 23) <| jk_int 1 <| K 24
set_option maxRecDepth 100000 in
set_option maxHeartbeats 4000000 in
theorem tX8_allCame_0 (l : Launch) (n : Nat) {K : Nat → jK} (hK : ∀ b, jr_D l cX8_allCame 2 "MeetingKit$Phaser" (Option.some Jvm.ClassFile.FieldType.boolean) "allCame" 1 23 (K b) b) : jr_D l cX8_allCame 2 "MeetingKit$Phaser" (Option.some Jvm.ClassFile.FieldType.boolean) "allCame" 1 23 (kX8_allCame_0 n K) 0 := by
  unfold kX8_allCame_0
  refine js_aload_n dX8_allCame_0 ?_
  refine js_iconst dX8_allCame_1 ?_
  refine js_callv dX8_allCame_2 (⟨⟨_, _, _, _, _, _, _, ⟨rfl, (show (7 : Nat) < 20 by decide), sX8_countParties l n, by decide, by decide, tw_834, tw_111, tw_833⟩, Or.inl ⟨by decide +kernel, by decide +kernel, by decide +kernel, tw_831, tw_50⟩⟩, trivial⟩) ?_
  refine js_istore_n dX8_allCame_5 (by decide) ?_
  refine js_iload_n dX8_allCame_6 ?_
  refine js_ifle (tgt := 23) dX8_allCame_7 (by decide) ?_ ?_
  · exact hK 23
  · refine js_aload_n dX8_allCame_10 ?_
    refine js_iconst dX8_allCame_11 ?_
    refine js_callv dX8_allCame_12 (⟨⟨_, _, _, _, _, _, _, ⟨rfl, (show (7 : Nat) < 20 by decide), sX8_countParties l n, by decide, by decide, tw_834, tw_111, tw_833⟩, Or.inl ⟨by decide +kernel, by decide +kernel, by decide +kernel, tw_831, tw_50⟩⟩, trivial⟩) ?_
    refine js_iload_n dX8_allCame_15 ?_
    refine js_icmpne (tgt := 23) dX8_allCame_16 (by decide) ?_ ?_
    · exact hK 23
    · refine js_iconst dX8_allCame_19 ?_
      refine js_goto (tgt := 24) dX8_allCame_20 (by decide) ?_
      exact hK 24
def kX8_allCame_23 (n : Nat) (K : Nat → jK) : jK := jk_kill 0 <| jk_kill 1 <| jk_int 0 <| K 24
set_option maxRecDepth 100000 in
set_option maxHeartbeats 4000000 in
theorem tX8_allCame_23 (l : Launch) (n : Nat) {K : Nat → jK} (hK : ∀ b, jr_D l cX8_allCame 2 "MeetingKit$Phaser" (Option.some Jvm.ClassFile.FieldType.boolean) "allCame" 1 23 (K b) b) : jr_D l cX8_allCame 2 "MeetingKit$Phaser" (Option.some Jvm.ClassFile.FieldType.boolean) "allCame" 1 23 (kX8_allCame_23 n K) 23 := by
  unfold kX8_allCame_23
  refine js_kill ?_
  refine js_kill ?_
  refine js_iconst dX8_allCame_23 ?_
  exact hK 24
def kX8_allCame_24 (n : Nat) (K : Nat → jK) : jK := jk_kill 0 <| jk_kill 1 <| jk_zret
set_option maxRecDepth 100000 in
set_option maxHeartbeats 4000000 in
theorem tX8_allCame_24 (l : Launch) (n : Nat) {K : Nat → jK} (hK : ∀ b, jr_D l cX8_allCame 2 "MeetingKit$Phaser" (Option.some Jvm.ClassFile.FieldType.boolean) "allCame" 1 23 (K b) b) : jr_D l cX8_allCame 2 "MeetingKit$Phaser" (Option.some Jvm.ClassFile.FieldType.boolean) "allCame" 1 23 (kX8_allCame_24 n K) 24 := by
  unfold kX8_allCame_24
  refine js_kill ?_
  refine js_kill ?_
  exact js_zret dX8_allCame_24 rfl
def kX8_allCame_b (n : Nat) (K : Nat → jK) (b : Nat) : jK := if b = 0 then kX8_allCame_0 n K else if b = 23 then kX8_allCame_23 n K else if b = 24 then kX8_allCame_24 n K else jk_none
def kX8_allCame (n : Nat) : jK := jk_fix (kX8_allCame_b n) n 0
theorem tX8_allCame (l : Launch) (n : Nat) : jr_D l cX8_allCame 2 "MeetingKit$Phaser" (Option.some Jvm.ClassFile.FieldType.boolean) "allCame" 1 23 (kX8_allCame n) 0 := js_fix (F := kX8_allCame_b n) (fun K hK b => js_blk (tX8_allCame_0 l n hK) (js_blk (tX8_allCame_23 l n hK) (js_blk (tX8_allCame_24 l n hK) (js_none)))) n 0
def fX8_allCame (n : Nat) : jF := jm_run 1 2 (kX8_allCame n)
theorem sX8_allCame (l : Launch) (n : Nat) : jr_F l (⟨"MeetingKit$Phaser", "allCame", "()Z"⟩ : MethodName) cX8_allCame 2 (Option.some Jvm.ClassFile.FieldType.boolean) 1 23 (fX8_allCame n) := js_met (by decide +kernel) (by decide) (tX8_allCame l n)
theorem dX8_beginPhase_0 : decode cX8_beginPhase 0 = .ok (.aload_n 0, 1) := by decide +kernel
theorem dX8_beginPhase_1 : decode cX8_beginPhase 1 = .ok (.dup, 1) := by decide +kernel
theorem dX8_beginPhase_2 : decode cX8_beginPhase 2 = .ok (.getfield 48, 3) := by decide +kernel
theorem dX8_beginPhase_5 : decode cX8_beginPhase 5 = .ok (.iconst 1, 1) := by decide +kernel
theorem dX8_beginPhase_6 : decode cX8_beginPhase 6 = .ok (.iadd, 1) := by decide +kernel
theorem dX8_beginPhase_7 : decode cX8_beginPhase 7 = .ok (.putfield 48, 3) := by decide +kernel
theorem dX8_beginPhase_10 : decode cX8_beginPhase 10 = .ok (.iconst 0, 1) := by decide +kernel
theorem dX8_beginPhase_11 : decode cX8_beginPhase 11 = .ok (.istore_n 1, 1) := by decide +kernel
theorem dX8_beginPhase_12 : decode cX8_beginPhase 12 = .ok (.iload_n 1, 1) := by decide +kernel
theorem dX8_beginPhase_13 : decode cX8_beginPhase 13 = .ok (.bipush 16, 2) := by decide +kernel
theorem dX8_beginPhase_15 : decode cX8_beginPhase 15 = .ok (.if_icmp .ge 33, 3) := by decide +kernel
theorem dX8_beginPhase_18 : decode cX8_beginPhase 18 = .ok (.aload_n 0, 1) := by decide +kernel
theorem dX8_beginPhase_19 : decode cX8_beginPhase 19 = .ok (.getfield 15, 3) := by decide +kernel
theorem dX8_beginPhase_22 : decode cX8_beginPhase 22 = .ok (.iload_n 1, 1) := by decide +kernel
theorem dX8_beginPhase_23 : decode cX8_beginPhase 23 = .ok (.iconst 0, 1) := by decide +kernel
theorem dX8_beginPhase_24 : decode cX8_beginPhase 24 = .ok (.bastore, 1) := by decide +kernel
theorem dX8_beginPhase_25 : decode cX8_beginPhase 25 = .ok (.aload_n 0, 1) := by decide +kernel
theorem dX8_beginPhase_26 : decode cX8_beginPhase 26 = .ok (.getfield 9, 3) := by decide +kernel
theorem dX8_beginPhase_29 : decode cX8_beginPhase 29 = .ok (.iload_n 1, 1) := by decide +kernel
theorem dX8_beginPhase_30 : decode cX8_beginPhase 30 = .ok (.iaload, 1) := by decide +kernel
theorem dX8_beginPhase_31 : decode cX8_beginPhase 31 = .ok (.iconst 2, 1) := by decide +kernel
theorem dX8_beginPhase_32 : decode cX8_beginPhase 32 = .ok (.if_icmp .ne 10, 3) := by decide +kernel
theorem dX8_beginPhase_35 : decode cX8_beginPhase 35 = .ok (.aload_n 0, 1) := by decide +kernel
theorem dX8_beginPhase_36 : decode cX8_beginPhase 36 = .ok (.getfield 9, 3) := by decide +kernel
theorem dX8_beginPhase_39 : decode cX8_beginPhase 39 = .ok (.iload_n 1, 1) := by decide +kernel
theorem dX8_beginPhase_40 : decode cX8_beginPhase 40 = .ok (.iconst 1, 1) := by decide +kernel
theorem dX8_beginPhase_41 : decode cX8_beginPhase 41 = .ok (.iastore, 1) := by decide +kernel
theorem dX8_beginPhase_42 : decode cX8_beginPhase 42 = .ok (.iinc 1 1, 3) := by decide +kernel
theorem dX8_beginPhase_45 : decode cX8_beginPhase 45 = .ok (.goto (-33), 3) := by decide +kernel
theorem dX8_beginPhase_48 : decode cX8_beginPhase 48 = .ok (.iconst 0, 1) := by decide +kernel
theorem dX8_beginPhase_49 : decode cX8_beginPhase 49 = .ok (.istore_n 1, 1) := by decide +kernel
theorem dX8_beginPhase_50 : decode cX8_beginPhase 50 = .ok (.iload_n 1, 1) := by decide +kernel
theorem dX8_beginPhase_51 : decode cX8_beginPhase 51 = .ok (.aload_n 0, 1) := by decide +kernel
theorem dX8_beginPhase_52 : decode cX8_beginPhase 52 = .ok (.getfield 62, 3) := by decide +kernel
theorem dX8_beginPhase_55 : decode cX8_beginPhase 55 = .ok (.if_icmp .ge 27, 3) := by decide +kernel
theorem dX8_beginPhase_58 : decode cX8_beginPhase 58 = .ok (.aload_n 0, 1) := by decide +kernel
theorem dX8_beginPhase_59 : decode cX8_beginPhase 59 = .ok (.iload_n 1, 1) := by decide +kernel
theorem dX8_beginPhase_60 : decode cX8_beginPhase 60 = .ok (.invokevirtual 65, 3) := by decide +kernel
theorem dX8_beginPhase_63 : decode cX8_beginPhase 63 = .ok (.astore_n 2, 1) := by decide +kernel
theorem dX8_beginPhase_64 : decode cX8_beginPhase 64 = .ok (.aload_n 2, 1) := by decide +kernel
theorem dX8_beginPhase_65 : decode cX8_beginPhase 65 = .ok (.ifnull 11, 3) := by decide +kernel
theorem dX8_beginPhase_68 : decode cX8_beginPhase 68 = .ok (.aload_n 2, 1) := by decide +kernel
theorem dX8_beginPhase_69 : decode cX8_beginPhase 69 = .ok (.aload_n 0, 1) := by decide +kernel
theorem dX8_beginPhase_70 : decode cX8_beginPhase 70 = .ok (.getfield 48, 3) := by decide +kernel
theorem dX8_beginPhase_73 : decode cX8_beginPhase 73 = .ok (.invokevirtual 69, 3) := by decide +kernel
theorem dX8_beginPhase_76 : decode cX8_beginPhase 76 = .ok (.iinc 1 1, 3) := by decide +kernel
theorem dX8_beginPhase_79 : decode cX8_beginPhase 79 = .ok (.goto (-29), 3) := by decide +kernel
theorem dX8_beginPhase_82 : decode cX8_beginPhase 82 = .ok (.return_, 1) := by decide +kernel
def kX8_beginPhase_0 (n : Nat) (K : Nat → jK) : jK := jk_aload 0 <| jk_dup <| jk_get [7] 10 <| jk_int 1 <| jk_iadd <| jk_puti [7] 10 <| jk_int 0 <| jk_istore 1 <| K 12
set_option maxRecDepth 100000 in
set_option maxHeartbeats 4000000 in
theorem tX8_beginPhase_0 (l : Launch) (n : Nat) {K : Nat → jK} (hK : ∀ b, jr_D l cX8_beginPhase 3 "MeetingKit$Phaser" (Option.none : Option Jvm.ClassFile.FieldType) "beginPhase" 1 21 (K b) b) : jr_D l cX8_beginPhase 3 "MeetingKit$Phaser" (Option.none : Option Jvm.ClassFile.FieldType) "beginPhase" 1 21 (kX8_beginPhase_0 n K) 0 := by
  unfold kX8_beginPhase_0
  refine js_aload_n dX8_beginPhase_0 ?_
  refine js_dup dX8_beginPhase_1 ?_
  refine js_get dX8_beginPhase_2 jf_10_7 tw_327 (Or.inl rfl) ?_
  refine js_iconst dX8_beginPhase_5 ?_
  refine js_iadd dX8_beginPhase_6 ?_
  refine js_puti dX8_beginPhase_7 jf_10_7 rfl tw_327 (Or.inl rfl) ?_
  refine js_iconst dX8_beginPhase_10 ?_
  refine js_istore_n dX8_beginPhase_11 (by decide) ?_
  exact hK 12
def kX8_beginPhase_12 (n : Nat) (K : Nat → jK) : jK := jk_iload 1 <| jk_int 16 <| jk_icmpge (jk_int 0 <| jk_istore 1 <| K 50) <| jk_aload 0 <| jk_get [7] 9 <| jk_iload 1 <| jk_int 0 <| jk_zast <| jk_aload 0 <| jk_get [7] 8 <| jk_iload 1 <| jk_iald <| jk_int 2 <| jk_icmpne (K 42) <| jk_aload 0 <| jk_get [7] 8 <| jk_iload 1 <| jk_int 1 <| jk_iast <| K 42
set_option maxRecDepth 100000 in
set_option maxHeartbeats 4000000 in
theorem tX8_beginPhase_12 (l : Launch) (n : Nat) {K : Nat → jK} (hK : ∀ b, jr_D l cX8_beginPhase 3 "MeetingKit$Phaser" (Option.none : Option Jvm.ClassFile.FieldType) "beginPhase" 1 21 (K b) b) : jr_D l cX8_beginPhase 3 "MeetingKit$Phaser" (Option.none : Option Jvm.ClassFile.FieldType) "beginPhase" 1 21 (kX8_beginPhase_12 n K) 12 := by
  unfold kX8_beginPhase_12
  refine js_iload_n dX8_beginPhase_12 ?_
  refine js_bipush dX8_beginPhase_13 ?_
  refine js_icmpge (tgt := 48) dX8_beginPhase_15 (by decide) ?_ ?_
  · refine js_iconst dX8_beginPhase_48 ?_
    refine js_istore_n dX8_beginPhase_49 (by decide) ?_
    exact hK 50
  · refine js_aload_n dX8_beginPhase_18 ?_
    refine js_get dX8_beginPhase_19 jf_9_7 tw_326 (Or.inl rfl) ?_
    refine js_iload_n dX8_beginPhase_22 ?_
    refine js_iconst dX8_beginPhase_23 ?_
    refine js_zast dX8_beginPhase_24 ?_
    refine js_aload_n dX8_beginPhase_25 ?_
    refine js_get dX8_beginPhase_26 jf_8_7 tw_325 (Or.inl rfl) ?_
    refine js_iload_n dX8_beginPhase_29 ?_
    refine js_iald dX8_beginPhase_30 ?_
    refine js_iconst dX8_beginPhase_31 ?_
    refine js_icmpne (tgt := 42) dX8_beginPhase_32 (by decide) ?_ ?_
    · exact hK 42
    · refine js_aload_n dX8_beginPhase_35 ?_
      refine js_get dX8_beginPhase_36 jf_8_7 tw_325 (Or.inl rfl) ?_
      refine js_iload_n dX8_beginPhase_39 ?_
      refine js_iconst dX8_beginPhase_40 ?_
      refine js_iast dX8_beginPhase_41 ?_
      exact hK 42
def kX8_beginPhase_42 (n : Nat) (K : Nat → jK) : jK := jk_iinc 1 1 <| K 12
set_option maxRecDepth 100000 in
set_option maxHeartbeats 4000000 in
theorem tX8_beginPhase_42 (l : Launch) (n : Nat) {K : Nat → jK} (hK : ∀ b, jr_D l cX8_beginPhase 3 "MeetingKit$Phaser" (Option.none : Option Jvm.ClassFile.FieldType) "beginPhase" 1 21 (K b) b) : jr_D l cX8_beginPhase 3 "MeetingKit$Phaser" (Option.none : Option Jvm.ClassFile.FieldType) "beginPhase" 1 21 (kX8_beginPhase_42 n K) 42 := by
  unfold kX8_beginPhase_42
  refine js_iinc dX8_beginPhase_42 (by decide) ?_
  refine js_goto (tgt := 12) dX8_beginPhase_45 (by decide) ?_
  exact hK 12
def kX8_beginPhase_50 (n : Nat) (K : Nat → jK) : jK := jk_kill 2 <| jk_iload 1 <| jk_aload 0 <| jk_get [7] 5 <| jk_icmpge (jk_vret) <| jk_aload 0 <| jk_iload 1 <| jk_vcall [(7, fX2_stillWaiting n)] 1 <| jk_astore 2 <| jk_aload 2 <| jk_ifnull (K 76) <| jk_aload 2 <| jk_aload 0 <| jk_get [7] 10 <| jk_vcall [(9, fX10_passWith n)] 1 <| K 76
set_option maxRecDepth 100000 in
set_option maxHeartbeats 4000000 in
theorem tX8_beginPhase_50 (l : Launch) (n : Nat) {K : Nat → jK} (hK : ∀ b, jr_D l cX8_beginPhase 3 "MeetingKit$Phaser" (Option.none : Option Jvm.ClassFile.FieldType) "beginPhase" 1 21 (K b) b) : jr_D l cX8_beginPhase 3 "MeetingKit$Phaser" (Option.none : Option Jvm.ClassFile.FieldType) "beginPhase" 1 21 (kX8_beginPhase_50 n K) 50 := by
  unfold kX8_beginPhase_50
  refine js_kill ?_
  refine js_iload_n dX8_beginPhase_50 ?_
  refine js_aload_n dX8_beginPhase_51 ?_
  refine js_get dX8_beginPhase_52 jf_5_7 tw_203 (Or.inr tw_204) ?_
  refine js_icmpge (tgt := 82) dX8_beginPhase_55 (by decide) ?_ ?_
  · exact js_vret dX8_beginPhase_82 rfl
  · refine js_aload_n dX8_beginPhase_58 ?_
    refine js_iload_n dX8_beginPhase_59 ?_
    refine js_callv dX8_beginPhase_60 (⟨⟨_, _, _, _, _, _, _, ⟨rfl, (show (7 : Nat) < 20 by decide), sX2_stillWaiting l n, by decide, by decide, tw_584, tw_104, tw_574⟩, Or.inr ⟨⟨"MeetingKit$Phaser", "stillWaiting", "(I)LMeetingKit$Step;"⟩, "MeetingKit$Device", by decide +kernel, by decide +kernel, by decide +kernel, tw_847, tw_848, tw_849, Or.inl ⟨_, _, _, tw_574, tw_584⟩⟩⟩, trivial⟩) ?_
    refine js_astore_n dX8_beginPhase_63 (by decide) ?_
    refine js_aload_n dX8_beginPhase_64 ?_
    refine js_ifnull (tgt := 76) dX8_beginPhase_65 (by decide) ?_ ?_
    · exact hK 76
    · refine js_aload_n dX8_beginPhase_68 ?_
      refine js_aload_n dX8_beginPhase_69 ?_
      refine js_get dX8_beginPhase_70 jf_10_7 tw_327 (Or.inl rfl) ?_
      refine js_callv dX8_beginPhase_73 (⟨⟨_, _, _, _, _, _, _, ⟨rfl, (show (9 : Nat) < 20 by decide), sX10_passWith l n, by decide, by decide, tw_631, tw_115, tw_629⟩, Or.inl ⟨by decide +kernel, by decide +kernel, by decide +kernel, tw_850, tw_630⟩⟩, trivial⟩) ?_
      exact hK 76
def kX8_beginPhase_76 (n : Nat) (K : Nat → jK) : jK := jk_kill 2 <| jk_iinc 1 1 <| K 50
set_option maxRecDepth 100000 in
set_option maxHeartbeats 4000000 in
theorem tX8_beginPhase_76 (l : Launch) (n : Nat) {K : Nat → jK} (hK : ∀ b, jr_D l cX8_beginPhase 3 "MeetingKit$Phaser" (Option.none : Option Jvm.ClassFile.FieldType) "beginPhase" 1 21 (K b) b) : jr_D l cX8_beginPhase 3 "MeetingKit$Phaser" (Option.none : Option Jvm.ClassFile.FieldType) "beginPhase" 1 21 (kX8_beginPhase_76 n K) 76 := by
  unfold kX8_beginPhase_76
  refine js_kill ?_
  refine js_iinc dX8_beginPhase_76 (by decide) ?_
  refine js_goto (tgt := 50) dX8_beginPhase_79 (by decide) ?_
  exact hK 50
def kX8_beginPhase_b (n : Nat) (K : Nat → jK) (b : Nat) : jK := if b = 0 then kX8_beginPhase_0 n K else if b = 12 then kX8_beginPhase_12 n K else if b = 42 then kX8_beginPhase_42 n K else if b = 50 then kX8_beginPhase_50 n K else if b = 76 then kX8_beginPhase_76 n K else jk_none
def kX8_beginPhase (n : Nat) : jK := jk_fix (kX8_beginPhase_b n) n 0
theorem tX8_beginPhase (l : Launch) (n : Nat) : jr_D l cX8_beginPhase 3 "MeetingKit$Phaser" (Option.none : Option Jvm.ClassFile.FieldType) "beginPhase" 1 21 (kX8_beginPhase n) 0 := js_fix (F := kX8_beginPhase_b n) (fun K hK b => js_blk (tX8_beginPhase_0 l n hK) (js_blk (tX8_beginPhase_12 l n hK) (js_blk (tX8_beginPhase_42 l n hK) (js_blk (tX8_beginPhase_50 l n hK) (js_blk (tX8_beginPhase_76 l n hK) (js_none)))))) n 0
def fX8_beginPhase (n : Nat) : jF := jm_run 1 3 (kX8_beginPhase n)
theorem sX8_beginPhase (l : Launch) (n : Nat) : jr_F l (⟨"MeetingKit$Phaser", "beginPhase", "()V"⟩ : MethodName) cX8_beginPhase 3 (Option.none : Option Jvm.ClassFile.FieldType) 1 21 (fX8_beginPhase n) := js_met (by decide +kernel) (by decide) (tX8_beginPhase l n)
theorem dX8_come_0 : decode cX8_come 0 = .ok (.aload_n 1, 1) := by decide +kernel
theorem dX8_come_1 : decode cX8_come 1 = .ok (.getfield 35, 3) := by decide +kernel
theorem dX8_come_4 : decode cX8_come 4 = .ok (.getfield 39, 3) := by decide +kernel
theorem dX8_come_7 : decode cX8_come 7 = .ok (.istore_n 2, 1) := by decide +kernel
theorem dX8_come_8 : decode cX8_come 8 = .ok (.aload_n 0, 1) := by decide +kernel
theorem dX8_come_9 : decode cX8_come 9 = .ok (.getfield 9, 3) := by decide +kernel
theorem dX8_come_12 : decode cX8_come 12 = .ok (.iload_n 2, 1) := by decide +kernel
theorem dX8_come_13 : decode cX8_come 13 = .ok (.iaload, 1) := by decide +kernel
theorem dX8_come_14 : decode cX8_come 14 = .ok (.iconst 1, 1) := by decide +kernel
theorem dX8_come_15 : decode cX8_come 15 = .ok (.if_icmp .ne 12, 3) := by decide +kernel
theorem dX8_come_18 : decode cX8_come 18 = .ok (.aload_n 0, 1) := by decide +kernel
theorem dX8_come_19 : decode cX8_come 19 = .ok (.getfield 15, 3) := by decide +kernel
theorem dX8_come_22 : decode cX8_come 22 = .ok (.iload_n 2, 1) := by decide +kernel
theorem dX8_come_23 : decode cX8_come 23 = .ok (.baload, 1) := by decide +kernel
theorem dX8_come_24 : decode cX8_come 24 = .ok (.ifCond .eq 6, 3) := by decide +kernel
theorem dX8_come_27 : decode cX8_come 27 = .ok (.bipush 6, 2) := by decide +kernel
theorem dX8_come_29 : decode cX8_come 29 = .ok (.ireturn, 1) := by decide +kernel
theorem dX8_come_30 : decode cX8_come 30 = .ok (.aload_n 0, 1) := by decide +kernel
theorem dX8_come_31 : decode cX8_come 31 = .ok (.getfield 15, 3) := by decide +kernel
theorem dX8_come_34 : decode cX8_come 34 = .ok (.iload_n 2, 1) := by decide +kernel
theorem dX8_come_35 : decode cX8_come 35 = .ok (.iconst 1, 1) := by decide +kernel
theorem dX8_come_36 : decode cX8_come 36 = .ok (.bastore, 1) := by decide +kernel
theorem dX8_come_37 : decode cX8_come 37 = .ok (.aload_n 0, 1) := by decide +kernel
theorem dX8_come_38 : decode cX8_come 38 = .ok (.invokevirtual 54, 3) := by decide +kernel
theorem dX8_come_41 : decode cX8_come 41 = .ok (.istore_n 3, 1) := by decide +kernel
theorem dX8_come_42 : decode cX8_come 42 = .ok (.iload_n 3, 1) := by decide +kernel
theorem dX8_come_43 : decode cX8_come 43 = .ok (.ifCond .eq 7, 3) := by decide +kernel
theorem dX8_come_46 : decode cX8_come 46 = .ok (.aload_n 0, 1) := by decide +kernel
theorem dX8_come_47 : decode cX8_come 47 = .ok (.invokevirtual 58, 3) := by decide +kernel
theorem dX8_come_50 : decode cX8_come 50 = .ok (.aload_n 1, 1) := by decide +kernel
theorem dX8_come_51 : decode cX8_come 51 = .ok (.aload_n 0, 1) := by decide +kernel
theorem dX8_come_52 : decode cX8_come 52 = .ok (.getfield 48, 3) := by decide +kernel
theorem dX8_come_55 : decode cX8_come 55 = .ok (.putfield 51, 3) := by decide +kernel
theorem dX8_come_58 : decode cX8_come 58 = .ok (.iload_n 3, 1) := by decide +kernel
theorem dX8_come_59 : decode cX8_come 59 = .ok (.ifCond .eq 7, 3) := by decide +kernel
theorem dX8_come_62 : decode cX8_come 62 = .ok (.iconst 0, 1) := by decide +kernel
theorem dX8_come_63 : decode cX8_come 63 = .ok (.goto 4, 3) := by decide +kernel
theorem dX8_come_66 : decode cX8_come 66 = .ok (.iconst 1, 1) := by decide +kernel
theorem dX8_come_67 : decode cX8_come 67 = .ok (.ireturn, 1) := by decide +kernel
def kX8_come_0 (n : Nat) (K : Nat → jK) : jK := jk_aload 1 <| jk_get [9] 0 <| jk_get [0] 0 <| jk_istore 2 <| jk_aload 0 <| jk_get [7] 8 <| jk_iload 2 <| jk_iald <| jk_int 1 <| jk_icmpne (K 27) <| jk_aload 0 <| jk_get [7] 9 <| jk_iload 2 <| jk_xald 21 <| jk_ifeq (jk_aload 0 <| jk_get [7] 9 <| jk_iload 2 <| jk_int 1 <| jk_zast <| jk_aload 0 <| jk_vcall [(7, fX8_allCame n)] 0 <| jk_istore 3 <| jk_iload 3 <| jk_ifeq (K 50) <| jk_aload 0 <| jk_vcall [(7, fX8_beginPhase n)] 0 <| K 50) <| K 27
set_option maxRecDepth 100000 in
set_option maxHeartbeats 4000000 in
theorem tX8_come_0 (l : Launch) (n : Nat) {K : Nat → jK} (hK : ∀ b, jr_D l cX8_come 4 "MeetingKit$Phaser" (Option.some Jvm.ClassFile.FieldType.int) "come" 2 44 (K b) b) : jr_D l cX8_come 4 "MeetingKit$Phaser" (Option.some Jvm.ClassFile.FieldType.int) "come" 2 44 (kX8_come_0 n K) 0 := by
  unfold kX8_come_0
  refine js_aload_n dX8_come_0 ?_
  refine js_get dX8_come_1 jf_0_9 tw_451 (Or.inl rfl) ?_
  refine js_get dX8_come_4 jf_0_0 tw_398 (Or.inl rfl) ?_
  refine js_istore_n dX8_come_7 (by decide) ?_
  refine js_aload_n dX8_come_8 ?_
  refine js_get dX8_come_9 jf_8_7 tw_325 (Or.inl rfl) ?_
  refine js_iload_n dX8_come_12 ?_
  refine js_iald dX8_come_13 ?_
  refine js_iconst dX8_come_14 ?_
  refine js_icmpne (tgt := 27) dX8_come_15 (by decide) ?_ ?_
  · exact hK 27
  · refine js_aload_n dX8_come_18 ?_
    refine js_get dX8_come_19 jf_9_7 tw_326 (Or.inl rfl) ?_
    refine js_iload_n dX8_come_22 ?_
    refine js_zald dX8_come_23 ?_
    refine js_ifeq (tgt := 30) dX8_come_24 (by decide) ?_ ?_
    · refine js_aload_n dX8_come_30 ?_
      refine js_get dX8_come_31 jf_9_7 tw_326 (Or.inl rfl) ?_
      refine js_iload_n dX8_come_34 ?_
      refine js_iconst dX8_come_35 ?_
      refine js_zast dX8_come_36 ?_
      refine js_aload_n dX8_come_37 ?_
      refine js_callv dX8_come_38 (⟨⟨_, _, _, _, _, _, _, ⟨rfl, (show (7 : Nat) < 20 by decide), sX8_allCame l n, by decide, by decide, tw_842, tw_111, tw_841⟩, Or.inl ⟨by decide +kernel, by decide +kernel, by decide +kernel, tw_839, tw_52⟩⟩, trivial⟩) ?_
      refine js_istore_n dX8_come_41 (by decide) ?_
      refine js_iload_n dX8_come_42 ?_
      refine js_ifeq (tgt := 50) dX8_come_43 (by decide) ?_ ?_
      · exact hK 50
      · refine js_aload_n dX8_come_46 ?_
        refine js_callv dX8_come_47 (⟨⟨_, _, _, _, _, _, _, ⟨rfl, (show (7 : Nat) < 20 by decide), sX8_beginPhase l n, by decide, by decide, tw_846, tw_111, tw_845⟩, Or.inl ⟨by decide +kernel, by decide +kernel, by decide +kernel, tw_843, tw_53⟩⟩, trivial⟩) ?_
        exact hK 50
    · exact hK 27
def kX8_come_27 (n : Nat) (K : Nat → jK) : jK := jk_kill 0 <| jk_kill 1 <| jk_kill 2 <| jk_int 6 <| jk_iret
set_option maxRecDepth 100000 in
set_option maxHeartbeats 4000000 in
theorem tX8_come_27 (l : Launch) (n : Nat) {K : Nat → jK} (hK : ∀ b, jr_D l cX8_come 4 "MeetingKit$Phaser" (Option.some Jvm.ClassFile.FieldType.int) "come" 2 44 (K b) b) : jr_D l cX8_come 4 "MeetingKit$Phaser" (Option.some Jvm.ClassFile.FieldType.int) "come" 2 44 (kX8_come_27 n K) 27 := by
  unfold kX8_come_27
  refine js_kill ?_
  refine js_kill ?_
  refine js_kill ?_
  refine js_bipush dX8_come_27 ?_
  exact js_iret dX8_come_29 rfl
def kX8_come_50 (n : Nat) (K : Nat → jK) : jK := jk_kill 2 <| jk_aload 1 <| jk_aload 0 <| jk_get [7] 10 <| jk_puti [9] 6 <| jk_iload 3 <| jk_ifeq (jk_int 1 <| K 67) <| jk_int 0 <| K 67
set_option maxRecDepth 100000 in
set_option maxHeartbeats 4000000 in
theorem tX8_come_50 (l : Launch) (n : Nat) {K : Nat → jK} (hK : ∀ b, jr_D l cX8_come 4 "MeetingKit$Phaser" (Option.some Jvm.ClassFile.FieldType.int) "come" 2 44 (K b) b) : jr_D l cX8_come 4 "MeetingKit$Phaser" (Option.some Jvm.ClassFile.FieldType.int) "come" 2 44 (kX8_come_50 n K) 50 := by
  unfold kX8_come_50
  refine js_kill ?_
  refine js_aload_n dX8_come_50 ?_
  refine js_aload_n dX8_come_51 ?_
  refine js_get dX8_come_52 jf_10_7 tw_327 (Or.inl rfl) ?_
  refine js_puti dX8_come_55 jf_6_9 rfl tw_482 (Or.inl rfl) ?_
  refine js_iload_n dX8_come_58 ?_
  refine js_ifeq (tgt := 66) dX8_come_59 (by decide) ?_ ?_
  · refine js_iconst dX8_come_66 ?_
    exact hK 67
  · refine js_iconst dX8_come_62 ?_
    refine js_goto (tgt := 67) dX8_come_63 (by decide) ?_
    exact hK 67
def kX8_come_67 (n : Nat) (K : Nat → jK) : jK := jk_kill 0 <| jk_kill 1 <| jk_kill 2 <| jk_kill 3 <| jk_iret
set_option maxRecDepth 100000 in
set_option maxHeartbeats 4000000 in
theorem tX8_come_67 (l : Launch) (n : Nat) {K : Nat → jK} (hK : ∀ b, jr_D l cX8_come 4 "MeetingKit$Phaser" (Option.some Jvm.ClassFile.FieldType.int) "come" 2 44 (K b) b) : jr_D l cX8_come 4 "MeetingKit$Phaser" (Option.some Jvm.ClassFile.FieldType.int) "come" 2 44 (kX8_come_67 n K) 67 := by
  unfold kX8_come_67
  refine js_kill ?_
  refine js_kill ?_
  refine js_kill ?_
  refine js_kill ?_
  exact js_iret dX8_come_67 rfl
def kX8_come_b (n : Nat) (K : Nat → jK) (b : Nat) : jK := if b = 0 then kX8_come_0 n K else if b = 27 then kX8_come_27 n K else if b = 50 then kX8_come_50 n K else if b = 67 then kX8_come_67 n K else jk_none
def kX8_come (n : Nat) : jK := jk_fix (kX8_come_b n) n 0
theorem tX8_come (l : Launch) (n : Nat) : jr_D l cX8_come 4 "MeetingKit$Phaser" (Option.some Jvm.ClassFile.FieldType.int) "come" 2 44 (kX8_come n) 0 := js_fix (F := kX8_come_b n) (fun K hK b => js_blk (tX8_come_0 l n hK) (js_blk (tX8_come_27 l n hK) (js_blk (tX8_come_50 l n hK) (js_blk (tX8_come_67 l n hK) (js_none))))) n 0
def fX8_come (n : Nat) : jF := jm_run 2 4 (kX8_come n)
theorem sX8_come (l : Launch) (n : Nat) : jr_F l (⟨"MeetingKit$Phaser", "come", "(LMeetingKit$Step;)I"⟩ : MethodName) cX8_come 4 (Option.some Jvm.ClassFile.FieldType.int) 2 44 (fX8_come n) := js_met (by decide +kernel) (by decide) (tX8_come l n)
theorem dX8_leave_0 : decode cX8_leave 0 = .ok (.aload_n 1, 1) := by decide +kernel
theorem dX8_leave_1 : decode cX8_leave 1 = .ok (.getfield 35, 3) := by decide +kernel
theorem dX8_leave_4 : decode cX8_leave 4 = .ok (.getfield 39, 3) := by decide +kernel
theorem dX8_leave_7 : decode cX8_leave 7 = .ok (.istore_n 2, 1) := by decide +kernel
theorem dX8_leave_8 : decode cX8_leave 8 = .ok (.aload_n 0, 1) := by decide +kernel
theorem dX8_leave_9 : decode cX8_leave 9 = .ok (.getfield 9, 3) := by decide +kernel
theorem dX8_leave_12 : decode cX8_leave 12 = .ok (.iload_n 2, 1) := by decide +kernel
theorem dX8_leave_13 : decode cX8_leave 13 = .ok (.iaload, 1) := by decide +kernel
theorem dX8_leave_14 : decode cX8_leave 14 = .ok (.ifCond .ne 6, 3) := by decide +kernel
theorem dX8_leave_17 : decode cX8_leave 17 = .ok (.bipush 6, 2) := by decide +kernel
theorem dX8_leave_19 : decode cX8_leave 19 = .ok (.ireturn, 1) := by decide +kernel
theorem dX8_leave_20 : decode cX8_leave 20 = .ok (.aload_n 0, 1) := by decide +kernel
theorem dX8_leave_21 : decode cX8_leave 21 = .ok (.getfield 9, 3) := by decide +kernel
theorem dX8_leave_24 : decode cX8_leave 24 = .ok (.iload_n 2, 1) := by decide +kernel
theorem dX8_leave_25 : decode cX8_leave 25 = .ok (.iconst 0, 1) := by decide +kernel
theorem dX8_leave_26 : decode cX8_leave 26 = .ok (.iastore, 1) := by decide +kernel
theorem dX8_leave_27 : decode cX8_leave 27 = .ok (.aload_n 0, 1) := by decide +kernel
theorem dX8_leave_28 : decode cX8_leave 28 = .ok (.getfield 15, 3) := by decide +kernel
theorem dX8_leave_31 : decode cX8_leave 31 = .ok (.iload_n 2, 1) := by decide +kernel
theorem dX8_leave_32 : decode cX8_leave 32 = .ok (.iconst 0, 1) := by decide +kernel
theorem dX8_leave_33 : decode cX8_leave 33 = .ok (.bastore, 1) := by decide +kernel
theorem dX8_leave_34 : decode cX8_leave 34 = .ok (.aload_n 0, 1) := by decide +kernel
theorem dX8_leave_35 : decode cX8_leave 35 = .ok (.invokevirtual 54, 3) := by decide +kernel
theorem dX8_leave_38 : decode cX8_leave 38 = .ok (.ifCond .eq 7, 3) := by decide +kernel
theorem dX8_leave_41 : decode cX8_leave 41 = .ok (.aload_n 0, 1) := by decide +kernel
theorem dX8_leave_42 : decode cX8_leave 42 = .ok (.invokevirtual 58, 3) := by decide +kernel
theorem dX8_leave_45 : decode cX8_leave 45 = .ok (.aload_n 1, 1) := by decide +kernel
theorem dX8_leave_46 : decode cX8_leave 46 = .ok (.aload_n 0, 1) := by decide +kernel
theorem dX8_leave_47 : decode cX8_leave 47 = .ok (.getfield 48, 3) := by decide +kernel
theorem dX8_leave_50 : decode cX8_leave 50 = .ok (.putfield 51, 3) := by decide +kernel
theorem dX8_leave_53 : decode cX8_leave 53 = .ok (.iconst 0, 1) := by decide +kernel
theorem dX8_leave_54 : decode cX8_leave 54 = .ok (.ireturn, 1) := by decide +kernel
def kX8_leave_0 (n : Nat) (K : Nat → jK) : jK := jk_aload 1 <| jk_get [9] 0 <| jk_get [0] 0 <| jk_istore 2 <| jk_aload 0 <| jk_get [7] 8 <| jk_iload 2 <| jk_iald <| jk_ifne (jk_aload 0 <| jk_get [7] 8 <| jk_iload 2 <| jk_int 0 <| jk_iast <| jk_aload 0 <| jk_get [7] 9 <| jk_iload 2 <| jk_int 0 <| jk_zast <| jk_aload 0 <| jk_vcall [(7, fX8_allCame n)] 0 <| jk_ifeq (K 45) <| jk_aload 0 <| jk_vcall [(7, fX8_beginPhase n)] 0 <| K 45) <| jk_int 6 <| jk_iret
set_option maxRecDepth 100000 in
set_option maxHeartbeats 4000000 in
theorem tX8_leave_0 (l : Launch) (n : Nat) {K : Nat → jK} (hK : ∀ b, jr_D l cX8_leave 3 "MeetingKit$Phaser" (Option.some Jvm.ClassFile.FieldType.int) "leave" 2 44 (K b) b) : jr_D l cX8_leave 3 "MeetingKit$Phaser" (Option.some Jvm.ClassFile.FieldType.int) "leave" 2 44 (kX8_leave_0 n K) 0 := by
  unfold kX8_leave_0
  refine js_aload_n dX8_leave_0 ?_
  refine js_get dX8_leave_1 jf_0_9 tw_451 (Or.inl rfl) ?_
  refine js_get dX8_leave_4 jf_0_0 tw_398 (Or.inl rfl) ?_
  refine js_istore_n dX8_leave_7 (by decide) ?_
  refine js_aload_n dX8_leave_8 ?_
  refine js_get dX8_leave_9 jf_8_7 tw_325 (Or.inl rfl) ?_
  refine js_iload_n dX8_leave_12 ?_
  refine js_iald dX8_leave_13 ?_
  refine js_ifne (tgt := 20) dX8_leave_14 (by decide) ?_ ?_
  · refine js_aload_n dX8_leave_20 ?_
    refine js_get dX8_leave_21 jf_8_7 tw_325 (Or.inl rfl) ?_
    refine js_iload_n dX8_leave_24 ?_
    refine js_iconst dX8_leave_25 ?_
    refine js_iast dX8_leave_26 ?_
    refine js_aload_n dX8_leave_27 ?_
    refine js_get dX8_leave_28 jf_9_7 tw_326 (Or.inl rfl) ?_
    refine js_iload_n dX8_leave_31 ?_
    refine js_iconst dX8_leave_32 ?_
    refine js_zast dX8_leave_33 ?_
    refine js_aload_n dX8_leave_34 ?_
    refine js_callv dX8_leave_35 (⟨⟨_, _, _, _, _, _, _, ⟨rfl, (show (7 : Nat) < 20 by decide), sX8_allCame l n, by decide, by decide, tw_842, tw_111, tw_841⟩, Or.inl ⟨by decide +kernel, by decide +kernel, by decide +kernel, tw_839, tw_52⟩⟩, trivial⟩) ?_
    refine js_ifeq (tgt := 45) dX8_leave_38 (by decide) ?_ ?_
    · exact hK 45
    · refine js_aload_n dX8_leave_41 ?_
      refine js_callv dX8_leave_42 (⟨⟨_, _, _, _, _, _, _, ⟨rfl, (show (7 : Nat) < 20 by decide), sX8_beginPhase l n, by decide, by decide, tw_846, tw_111, tw_845⟩, Or.inl ⟨by decide +kernel, by decide +kernel, by decide +kernel, tw_843, tw_53⟩⟩, trivial⟩) ?_
      exact hK 45
  · refine js_bipush dX8_leave_17 ?_
    exact js_iret dX8_leave_19 rfl
def kX8_leave_45 (n : Nat) (K : Nat → jK) : jK := jk_kill 2 <| jk_aload 1 <| jk_aload 0 <| jk_get [7] 10 <| jk_puti [9] 6 <| jk_int 0 <| jk_iret
set_option maxRecDepth 100000 in
set_option maxHeartbeats 4000000 in
theorem tX8_leave_45 (l : Launch) (n : Nat) {K : Nat → jK} (hK : ∀ b, jr_D l cX8_leave 3 "MeetingKit$Phaser" (Option.some Jvm.ClassFile.FieldType.int) "leave" 2 44 (K b) b) : jr_D l cX8_leave 3 "MeetingKit$Phaser" (Option.some Jvm.ClassFile.FieldType.int) "leave" 2 44 (kX8_leave_45 n K) 45 := by
  unfold kX8_leave_45
  refine js_kill ?_
  refine js_aload_n dX8_leave_45 ?_
  refine js_aload_n dX8_leave_46 ?_
  refine js_get dX8_leave_47 jf_10_7 tw_327 (Or.inl rfl) ?_
  refine js_puti dX8_leave_50 jf_6_9 rfl tw_482 (Or.inl rfl) ?_
  refine js_iconst dX8_leave_53 ?_
  exact js_iret dX8_leave_54 rfl
def kX8_leave_b (n : Nat) (K : Nat → jK) (b : Nat) : jK := if b = 0 then kX8_leave_0 n K else if b = 45 then kX8_leave_45 n K else jk_none
def kX8_leave (n : Nat) : jK := jk_fix (kX8_leave_b n) n 0
theorem tX8_leave (l : Launch) (n : Nat) : jr_D l cX8_leave 3 "MeetingKit$Phaser" (Option.some Jvm.ClassFile.FieldType.int) "leave" 2 44 (kX8_leave n) 0 := js_fix (F := kX8_leave_b n) (fun K hK b => js_blk (tX8_leave_0 l n hK) (js_blk (tX8_leave_45 l n hK) (js_none))) n 0
def fX8_leave (n : Nat) : jF := jm_run 2 3 (kX8_leave n)
theorem sX8_leave (l : Launch) (n : Nat) : jr_F l (⟨"MeetingKit$Phaser", "leave", "(LMeetingKit$Step;)I"⟩ : MethodName) cX8_leave 3 (Option.some Jvm.ClassFile.FieldType.int) 2 44 (fX8_leave n) := js_met (by decide +kernel) (by decide) (tX8_leave l n)
theorem dX8_perform_0 : decode cX8_perform 0 = .ok (.aload_n 1, 1) := by decide +kernel
theorem dX8_perform_1 : decode cX8_perform 1 = .ok (.getfield 19, 3) := by decide +kernel
theorem dX8_perform_4 : decode cX8_perform 4 = .ok (.tableswitch 46 0 2 #[28, 34, 40], 28) := by decide +kernel
theorem dX8_perform_32 : decode cX8_perform 32 = .ok (.aload_n 0, 1) := by decide +kernel
theorem dX8_perform_33 : decode cX8_perform 33 = .ok (.aload_n 1, 1) := by decide +kernel
theorem dX8_perform_34 : decode cX8_perform 34 = .ok (.invokevirtual 25, 3) := by decide +kernel
theorem dX8_perform_37 : decode cX8_perform 37 = .ok (.ireturn, 1) := by decide +kernel
theorem dX8_perform_38 : decode cX8_perform 38 = .ok (.aload_n 0, 1) := by decide +kernel
theorem dX8_perform_39 : decode cX8_perform 39 = .ok (.aload_n 1, 1) := by decide +kernel
theorem dX8_perform_40 : decode cX8_perform 40 = .ok (.invokevirtual 29, 3) := by decide +kernel
theorem dX8_perform_43 : decode cX8_perform 43 = .ok (.ireturn, 1) := by decide +kernel
theorem dX8_perform_44 : decode cX8_perform 44 = .ok (.aload_n 0, 1) := by decide +kernel
theorem dX8_perform_45 : decode cX8_perform 45 = .ok (.aload_n 1, 1) := by decide +kernel
theorem dX8_perform_46 : decode cX8_perform 46 = .ok (.invokevirtual 32, 3) := by decide +kernel
theorem dX8_perform_49 : decode cX8_perform 49 = .ok (.ireturn, 1) := by decide +kernel
theorem dX8_perform_50 : decode cX8_perform 50 = .ok (.bipush 6, 2) := by decide +kernel
theorem dX8_perform_52 : decode cX8_perform 52 = .ok (.ireturn, 1) := by decide +kernel
def kX8_perform (n : Nat) : jK := jk_aload 1 <| jk_get [9] 2 <| jk_sw [(0, (jk_aload 0 <| jk_aload 1 <| jk_vcall [(7, fX8_join n)] 1 <| jk_iret)), (1, (jk_aload 0 <| jk_aload 1 <| jk_vcall [(7, fX8_come n)] 1 <| jk_iret)), (2, (jk_aload 0 <| jk_aload 1 <| jk_vcall [(7, fX8_leave n)] 1 <| jk_iret))] (jk_int 6 <| jk_iret)
set_option maxRecDepth 100000 in
set_option maxHeartbeats 4000000 in
theorem tX8_perform (l : Launch) (n : Nat) : jr_D l cX8_perform 2 "MeetingKit$Phaser" (Option.some Jvm.ClassFile.FieldType.int) "perform" 3 67 (kX8_perform n) 0 := by
  unfold kX8_perform
  refine js_aload_n dX8_perform_0 ?_
  refine js_get dX8_perform_1 jf_2_9 tw_462 (Or.inl rfl) ?_
  refine js_tsw (td := 50) dX8_perform_4 rfl (by decide) ?_ ?_
  · refine js_bipush dX8_perform_50 ?_
    exact js_iret dX8_perform_52 rfl
  · refine ⟨rfl, ⟨32, by decide, ?_⟩, rfl, ⟨38, by decide, ?_⟩, rfl, ⟨44, by decide, ?_⟩, trivial⟩
    · refine js_aload_n dX8_perform_32 ?_
      refine js_aload_n dX8_perform_33 ?_
      refine js_callv dX8_perform_34 (⟨⟨_, _, _, _, _, _, _, ⟨rfl, (show (7 : Nat) < 20 by decide), sX8_join l n, by decide, by decide, tw_830, tw_111, tw_829⟩, Or.inl ⟨by decide +kernel, by decide +kernel, by decide +kernel, tw_827, tw_49⟩⟩, trivial⟩) ?_
      exact js_iret dX8_perform_37 rfl
    · refine js_aload_n dX8_perform_38 ?_
      refine js_aload_n dX8_perform_39 ?_
      refine js_callv dX8_perform_40 (⟨⟨_, _, _, _, _, _, _, ⟨rfl, (show (7 : Nat) < 20 by decide), sX8_come l n, by decide, by decide, tw_838, tw_111, tw_837⟩, Or.inl ⟨by decide +kernel, by decide +kernel, by decide +kernel, tw_835, tw_51⟩⟩, trivial⟩) ?_
      exact js_iret dX8_perform_43 rfl
    · refine js_aload_n dX8_perform_44 ?_
      refine js_aload_n dX8_perform_45 ?_
      refine js_callv dX8_perform_46 (⟨⟨_, _, _, _, _, _, _, ⟨rfl, (show (7 : Nat) < 20 by decide), sX8_leave l n, by decide, by decide, tw_854, tw_111, tw_853⟩, Or.inl ⟨by decide +kernel, by decide +kernel, by decide +kernel, tw_851, tw_54⟩⟩, trivial⟩) ?_
      exact js_iret dX8_perform_49 rfl
def fX8_perform (n : Nat) : jF := jm_run 2 2 (kX8_perform n)
theorem sX8_perform (l : Launch) (n : Nat) : jr_F l (⟨"MeetingKit$Phaser", "perform", "(LMeetingKit$Step;)I"⟩ : MethodName) cX8_perform 2 (Option.some Jvm.ClassFile.FieldType.int) 3 67 (fX8_perform n) := js_met (by decide +kernel) (by decide) (tX8_perform l n)
theorem dX9_hasSign_0 : decode cX9_hasSign 0 = .ok (.aload_n 0, 1) := by decide +kernel
theorem dX9_hasSign_1 : decode cX9_hasSign 1 = .ok (.getfield 15, 3) := by decide +kernel
theorem dX9_hasSign_4 : decode cX9_hasSign 4 = .ok (.lookupswitch 59 #[(7, 28), (8, 45)], 28) := by decide +kernel
theorem dX9_hasSign_32 : decode cX9_hasSign 32 = .ok (.aload_n 1, 1) := by decide +kernel
theorem dX9_hasSign_33 : decode cX9_hasSign 33 = .ok (.getfield 48, 3) := by decide +kernel
theorem dX9_hasSign_36 : decode cX9_hasSign 36 = .ok (.aload_n 0, 1) := by decide +kernel
theorem dX9_hasSign_37 : decode cX9_hasSign 37 = .ok (.getfield 51, 3) := by decide +kernel
theorem dX9_hasSign_40 : decode cX9_hasSign 40 = .ok (.if_icmp .ge 7, 3) := by decide +kernel
theorem dX9_hasSign_43 : decode cX9_hasSign 43 = .ok (.iconst 1, 1) := by decide +kernel
theorem dX9_hasSign_44 : decode cX9_hasSign 44 = .ok (.goto 4, 3) := by decide +kernel
theorem dX9_hasSign_47 : decode cX9_hasSign 47 = .ok (.iconst 0, 1) := by decide +kernel
theorem dX9_hasSign_48 : decode cX9_hasSign 48 = .ok (.ireturn, 1) := by decide +kernel
theorem dX9_hasSign_49 : decode cX9_hasSign 49 = .ok (.aload_n 0, 1) := by decide +kernel
theorem dX9_hasSign_50 : decode cX9_hasSign 50 = .ok (.getfield 9, 3) := by decide +kernel
theorem dX9_hasSign_53 : decode cX9_hasSign 53 = .ok (.iconst 1, 1) := by decide +kernel
theorem dX9_hasSign_54 : decode cX9_hasSign 54 = .ok (.if_icmp .ne 7, 3) := by decide +kernel
theorem dX9_hasSign_57 : decode cX9_hasSign 57 = .ok (.iconst 1, 1) := by decide +kernel
theorem dX9_hasSign_58 : decode cX9_hasSign 58 = .ok (.goto 4, 3) := by decide +kernel
theorem dX9_hasSign_61 : decode cX9_hasSign 61 = .ok (.iconst 0, 1) := by decide +kernel
theorem dX9_hasSign_62 : decode cX9_hasSign 62 = .ok (.ireturn, 1) := by decide +kernel
theorem dX9_hasSign_63 : decode cX9_hasSign 63 = .ok (.aload_n 0, 1) := by decide +kernel
theorem dX9_hasSign_64 : decode cX9_hasSign 64 = .ok (.getfield 9, 3) := by decide +kernel
theorem dX9_hasSign_67 : decode cX9_hasSign 67 = .ok (.ifCond .ne 7, 3) := by decide +kernel
theorem dX9_hasSign_70 : decode cX9_hasSign 70 = .ok (.iconst 1, 1) := by decide +kernel
theorem dX9_hasSign_71 : decode cX9_hasSign 71 = .ok (.goto 4, 3) := by decide +kernel
theorem dX9_hasSign_74 : decode cX9_hasSign 74 = .ok (.iconst 0, 1) := by decide +kernel
theorem dX9_hasSign_75 : decode cX9_hasSign 75 = .ok (.ireturn, 1) := by decide +kernel
def kX9_hasSign_0 (n : Nat) (K : Nat → jK) : jK := jk_aload 0 <| jk_get [8] 0 <| jk_sw [(7, (jk_aload 1 <| jk_get [9] 3 <| jk_aload 0 <| jk_get [8] 9 <| jk_icmpge (jk_int 0 <| K 48) <| jk_int 1 <| K 48)), (8, (jk_aload 0 <| jk_get [8] 8 <| jk_int 1 <| jk_icmpne (jk_int 0 <| K 62) <| jk_int 1 <| K 62))] (jk_aload 0 <| jk_get [8] 8 <| jk_ifne (jk_int 0 <| K 75) <| jk_int 1 <| K 75)
set_option maxRecDepth 100000 in
set_option maxHeartbeats 4000000 in
theorem tX9_hasSign_0 (l : Launch) (n : Nat) {K : Nat → jK} (hK : ∀ b, jr_D l cX9_hasSign 2 "MeetingKit$Sign" (Option.some Jvm.ClassFile.FieldType.boolean) "hasSign" 0 0 (K b) b) : jr_D l cX9_hasSign 2 "MeetingKit$Sign" (Option.some Jvm.ClassFile.FieldType.boolean) "hasSign" 0 0 (kX9_hasSign_0 n K) 0 := by
  unfold kX9_hasSign_0
  refine js_aload_n dX9_hasSign_0 ?_
  refine js_get dX9_hasSign_1 jf_0_8 tw_181 (Or.inr tw_182) ?_
  refine js_lsw (td := 63) dX9_hasSign_4 (by decide) (by decide) ?_ ?_
  · refine js_aload_n dX9_hasSign_63 ?_
    refine js_get dX9_hasSign_64 jf_8_8 tw_370 (Or.inl rfl) ?_
    refine js_ifne (tgt := 74) dX9_hasSign_67 (by decide) ?_ ?_
    · refine js_iconst dX9_hasSign_74 ?_
      exact hK 75
    · refine js_iconst dX9_hasSign_70 ?_
      refine js_goto (tgt := 75) dX9_hasSign_71 (by decide) ?_
      exact hK 75
  · refine ⟨rfl, ⟨32, by decide, ?_⟩, rfl, ⟨49, by decide, ?_⟩, trivial⟩
    · refine js_aload_n dX9_hasSign_32 ?_
      refine js_get dX9_hasSign_33 jf_3_9 tw_471 (Or.inl rfl) ?_
      refine js_aload_n dX9_hasSign_36 ?_
      refine js_get dX9_hasSign_37 jf_9_8 tw_371 (Or.inl rfl) ?_
      refine js_icmpge (tgt := 47) dX9_hasSign_40 (by decide) ?_ ?_
      · refine js_iconst dX9_hasSign_47 ?_
        exact hK 48
      · refine js_iconst dX9_hasSign_43 ?_
        refine js_goto (tgt := 48) dX9_hasSign_44 (by decide) ?_
        exact hK 48
    · refine js_aload_n dX9_hasSign_49 ?_
      refine js_get dX9_hasSign_50 jf_8_8 tw_370 (Or.inl rfl) ?_
      refine js_iconst dX9_hasSign_53 ?_
      refine js_icmpne (tgt := 61) dX9_hasSign_54 (by decide) ?_ ?_
      · refine js_iconst dX9_hasSign_61 ?_
        exact hK 62
      · refine js_iconst dX9_hasSign_57 ?_
        refine js_goto (tgt := 62) dX9_hasSign_58 (by decide) ?_
        exact hK 62
def kX9_hasSign_48 (n : Nat) (K : Nat → jK) : jK := jk_kill 0 <| jk_kill 1 <| jk_zret
set_option maxRecDepth 100000 in
set_option maxHeartbeats 4000000 in
theorem tX9_hasSign_48 (l : Launch) (n : Nat) {K : Nat → jK} (hK : ∀ b, jr_D l cX9_hasSign 2 "MeetingKit$Sign" (Option.some Jvm.ClassFile.FieldType.boolean) "hasSign" 0 0 (K b) b) : jr_D l cX9_hasSign 2 "MeetingKit$Sign" (Option.some Jvm.ClassFile.FieldType.boolean) "hasSign" 0 0 (kX9_hasSign_48 n K) 48 := by
  unfold kX9_hasSign_48
  refine js_kill ?_
  refine js_kill ?_
  exact js_zret dX9_hasSign_48 rfl
def kX9_hasSign_62 (n : Nat) (K : Nat → jK) : jK := jk_kill 0 <| jk_kill 1 <| jk_zret
set_option maxRecDepth 100000 in
set_option maxHeartbeats 4000000 in
theorem tX9_hasSign_62 (l : Launch) (n : Nat) {K : Nat → jK} (hK : ∀ b, jr_D l cX9_hasSign 2 "MeetingKit$Sign" (Option.some Jvm.ClassFile.FieldType.boolean) "hasSign" 0 0 (K b) b) : jr_D l cX9_hasSign 2 "MeetingKit$Sign" (Option.some Jvm.ClassFile.FieldType.boolean) "hasSign" 0 0 (kX9_hasSign_62 n K) 62 := by
  unfold kX9_hasSign_62
  refine js_kill ?_
  refine js_kill ?_
  exact js_zret dX9_hasSign_62 rfl
def kX9_hasSign_75 (n : Nat) (K : Nat → jK) : jK := jk_kill 0 <| jk_kill 1 <| jk_zret
set_option maxRecDepth 100000 in
set_option maxHeartbeats 4000000 in
theorem tX9_hasSign_75 (l : Launch) (n : Nat) {K : Nat → jK} (hK : ∀ b, jr_D l cX9_hasSign 2 "MeetingKit$Sign" (Option.some Jvm.ClassFile.FieldType.boolean) "hasSign" 0 0 (K b) b) : jr_D l cX9_hasSign 2 "MeetingKit$Sign" (Option.some Jvm.ClassFile.FieldType.boolean) "hasSign" 0 0 (kX9_hasSign_75 n K) 75 := by
  unfold kX9_hasSign_75
  refine js_kill ?_
  refine js_kill ?_
  exact js_zret dX9_hasSign_75 rfl
def kX9_hasSign_b (n : Nat) (K : Nat → jK) (b : Nat) : jK := if b = 0 then kX9_hasSign_0 n K else if b = 48 then kX9_hasSign_48 n K else if b = 62 then kX9_hasSign_62 n K else if b = 75 then kX9_hasSign_75 n K else jk_none
def kX9_hasSign (n : Nat) : jK := jk_fix (kX9_hasSign_b n) n 0
theorem tX9_hasSign (l : Launch) (n : Nat) : jr_D l cX9_hasSign 2 "MeetingKit$Sign" (Option.some Jvm.ClassFile.FieldType.boolean) "hasSign" 0 0 (kX9_hasSign n) 0 := js_fix (F := kX9_hasSign_b n) (fun K hK b => js_blk (tX9_hasSign_0 l n hK) (js_blk (tX9_hasSign_48 l n hK) (js_blk (tX9_hasSign_62 l n hK) (js_blk (tX9_hasSign_75 l n hK) (js_none))))) n 0
def fX9_hasSign (n : Nat) : jF := jm_run 2 2 (kX9_hasSign n)
theorem sX9_hasSign (l : Launch) (n : Nat) : jr_F l (⟨"MeetingKit$Sign", "hasSign", "(LMeetingKit$Step;)Z"⟩ : MethodName) cX9_hasSign 2 (Option.some Jvm.ClassFile.FieldType.boolean) 0 0 (fX9_hasSign n) := js_met (by decide +kernel) (by decide) (tX9_hasSign l n)
theorem dX9_valueBehindSign_0 : decode cX9_valueBehindSign 0 = .ok (.aload_n 0, 1) := by decide +kernel
theorem dX9_valueBehindSign_1 : decode cX9_valueBehindSign 1 = .ok (.getfield 15, 3) := by decide +kernel
theorem dX9_valueBehindSign_4 : decode cX9_valueBehindSign 4 = .ok (.bipush 8, 2) := by decide +kernel
theorem dX9_valueBehindSign_6 : decode cX9_valueBehindSign 6 = .ok (.if_icmp .ne 10, 3) := by decide +kernel
theorem dX9_valueBehindSign_9 : decode cX9_valueBehindSign 9 = .ok (.aload_n 0, 1) := by decide +kernel
theorem dX9_valueBehindSign_10 : decode cX9_valueBehindSign 10 = .ok (.getfield 51, 3) := by decide +kernel
theorem dX9_valueBehindSign_13 : decode cX9_valueBehindSign 13 = .ok (.goto 4, 3) := by decide +kernel
theorem dX9_valueBehindSign_16 : decode cX9_valueBehindSign 16 = .ok (.iconst 0, 1) := by decide +kernel
theorem dX9_valueBehindSign_17 : decode cX9_valueBehindSign 17 = .ok (.ireturn, 1) := by decide +kernel
def kX9_valueBehindSign_0 (n : Nat) (K : Nat → jK) : jK := jk_aload 0 <| jk_get [8] 0 <| jk_int 8 <| jk_icmpne (jk_int 0 <| K 17) <| jk_aload 0 <| jk_get [8] 9 <| K 17
set_option maxRecDepth 100000 in
set_option maxHeartbeats 4000000 in
theorem tX9_valueBehindSign_0 (l : Launch) (n : Nat) {K : Nat → jK} (hK : ∀ b, jr_D l cX9_valueBehindSign 1 "MeetingKit$Sign" (Option.some Jvm.ClassFile.FieldType.int) "valueBehindSign" 0 0 (K b) b) : jr_D l cX9_valueBehindSign 1 "MeetingKit$Sign" (Option.some Jvm.ClassFile.FieldType.int) "valueBehindSign" 0 0 (kX9_valueBehindSign_0 n K) 0 := by
  unfold kX9_valueBehindSign_0
  refine js_aload_n dX9_valueBehindSign_0 ?_
  refine js_get dX9_valueBehindSign_1 jf_0_8 tw_181 (Or.inr tw_182) ?_
  refine js_bipush dX9_valueBehindSign_4 ?_
  refine js_icmpne (tgt := 16) dX9_valueBehindSign_6 (by decide) ?_ ?_
  · refine js_iconst dX9_valueBehindSign_16 ?_
    exact hK 17
  · refine js_aload_n dX9_valueBehindSign_9 ?_
    refine js_get dX9_valueBehindSign_10 jf_9_8 tw_371 (Or.inl rfl) ?_
    refine js_goto (tgt := 17) dX9_valueBehindSign_13 (by decide) ?_
    exact hK 17
def kX9_valueBehindSign_17 (n : Nat) (K : Nat → jK) : jK := jk_kill 0 <| jk_iret
set_option maxRecDepth 100000 in
set_option maxHeartbeats 4000000 in
theorem tX9_valueBehindSign_17 (l : Launch) (n : Nat) {K : Nat → jK} (hK : ∀ b, jr_D l cX9_valueBehindSign 1 "MeetingKit$Sign" (Option.some Jvm.ClassFile.FieldType.int) "valueBehindSign" 0 0 (K b) b) : jr_D l cX9_valueBehindSign 1 "MeetingKit$Sign" (Option.some Jvm.ClassFile.FieldType.int) "valueBehindSign" 0 0 (kX9_valueBehindSign_17 n K) 17 := by
  unfold kX9_valueBehindSign_17
  refine js_kill ?_
  exact js_iret dX9_valueBehindSign_17 rfl
def kX9_valueBehindSign_b (n : Nat) (K : Nat → jK) (b : Nat) : jK := if b = 0 then kX9_valueBehindSign_0 n K else if b = 17 then kX9_valueBehindSign_17 n K else jk_none
def kX9_valueBehindSign (n : Nat) : jK := jk_fix (kX9_valueBehindSign_b n) n 0
theorem tX9_valueBehindSign (l : Launch) (n : Nat) : jr_D l cX9_valueBehindSign 1 "MeetingKit$Sign" (Option.some Jvm.ClassFile.FieldType.int) "valueBehindSign" 0 0 (kX9_valueBehindSign n) 0 := js_fix (F := kX9_valueBehindSign_b n) (fun K hK b => js_blk (tX9_valueBehindSign_0 l n hK) (js_blk (tX9_valueBehindSign_17 l n hK) (js_none))) n 0
def fX9_valueBehindSign (n : Nat) : jF := jm_run 1 1 (kX9_valueBehindSign n)
theorem sX9_valueBehindSign (l : Launch) (n : Nat) : jr_F l (⟨"MeetingKit$Sign", "valueBehindSign", "()I"⟩ : MethodName) cX9_valueBehindSign 1 (Option.some Jvm.ClassFile.FieldType.int) 0 0 (fX9_valueBehindSign n) := js_met (by decide +kernel) (by decide) (tX9_valueBehindSign l n)
theorem dX9_lookForSign_0 : decode cX9_lookForSign 0 = .ok (.aload_n 0, 1) := by decide +kernel
theorem dX9_lookForSign_1 : decode cX9_lookForSign 1 = .ok (.aload_n 1, 1) := by decide +kernel
theorem dX9_lookForSign_2 : decode cX9_lookForSign 2 = .ok (.invokevirtual 54, 3) := by decide +kernel
theorem dX9_lookForSign_5 : decode cX9_lookForSign 5 = .ok (.ifCond .ne 5, 3) := by decide +kernel
theorem dX9_lookForSign_8 : decode cX9_lookForSign 8 = .ok (.iconst 1, 1) := by decide +kernel
theorem dX9_lookForSign_9 : decode cX9_lookForSign 9 = .ok (.ireturn, 1) := by decide +kernel
theorem dX9_lookForSign_10 : decode cX9_lookForSign 10 = .ok (.aload_n 1, 1) := by decide +kernel
theorem dX9_lookForSign_11 : decode cX9_lookForSign 11 = .ok (.aload_n 0, 1) := by decide +kernel
theorem dX9_lookForSign_12 : decode cX9_lookForSign 12 = .ok (.invokevirtual 58, 3) := by decide +kernel
theorem dX9_lookForSign_15 : decode cX9_lookForSign 15 = .ok (.putfield 45, 3) := by decide +kernel
theorem dX9_lookForSign_18 : decode cX9_lookForSign 18 = .ok (.iconst 0, 1) := by decide +kernel
theorem dX9_lookForSign_19 : decode cX9_lookForSign 19 = .ok (.ireturn, 1) := by decide +kernel
def kX9_lookForSign (n : Nat) : jK := jk_aload 0 <| jk_aload 1 <| jk_vcall [(8, fX9_hasSign n)] 1 <| jk_ifne (jk_aload 1 <| jk_aload 0 <| jk_vcall [(8, fX9_valueBehindSign n)] 0 <| jk_puti [9] 6 <| jk_int 0 <| jk_iret) <| jk_int 1 <| jk_iret
set_option maxRecDepth 100000 in
set_option maxHeartbeats 4000000 in
theorem tX9_lookForSign (l : Launch) (n : Nat) : jr_D l cX9_lookForSign 2 "MeetingKit$Sign" (Option.some Jvm.ClassFile.FieldType.int) "lookForSign" 1 21 (kX9_lookForSign n) 0 := by
  unfold kX9_lookForSign
  refine js_aload_n dX9_lookForSign_0 ?_
  refine js_aload_n dX9_lookForSign_1 ?_
  refine js_callv dX9_lookForSign_2 (⟨⟨_, _, _, _, _, _, _, ⟨rfl, (show (8 : Nat) < 20 by decide), sX9_hasSign l n, by decide, by decide, tw_678, tw_113, tw_677⟩, Or.inl ⟨by decide +kernel, by decide +kernel, by decide +kernel, tw_675, tw_30⟩⟩, trivial⟩) ?_
  refine js_ifne (tgt := 10) dX9_lookForSign_5 (by decide) ?_ ?_
  · refine js_aload_n dX9_lookForSign_10 ?_
    refine js_aload_n dX9_lookForSign_11 ?_
    refine js_callv dX9_lookForSign_12 (⟨⟨_, _, _, _, _, _, _, ⟨rfl, (show (8 : Nat) < 20 by decide), sX9_valueBehindSign l n, by decide, by decide, tw_682, tw_113, tw_681⟩, Or.inl ⟨by decide +kernel, by decide +kernel, by decide +kernel, tw_679, tw_31⟩⟩, trivial⟩) ?_
    refine js_puti dX9_lookForSign_15 jf_6_9 rfl tw_483 (Or.inl rfl) ?_
    refine js_iconst dX9_lookForSign_18 ?_
    exact js_iret dX9_lookForSign_19 rfl
  · refine js_iconst dX9_lookForSign_8 ?_
    exact js_iret dX9_lookForSign_9 rfl
def fX9_lookForSign (n : Nat) : jF := jm_run 2 2 (kX9_lookForSign n)
theorem sX9_lookForSign (l : Launch) (n : Nat) : jr_F l (⟨"MeetingKit$Sign", "lookForSign", "(LMeetingKit$Step;)I"⟩ : MethodName) cX9_lookForSign 2 (Option.some Jvm.ClassFile.FieldType.int) 1 21 (fX9_lookForSign n) := js_met (by decide +kernel) (by decide) (tX9_lookForSign l n)
theorem dX9_performAtGate_0 : decode cX9_performAtGate 0 = .ok (.aload_n 1, 1) := by decide +kernel
theorem dX9_performAtGate_1 : decode cX9_performAtGate 1 = .ok (.getfield 31, 3) := by decide +kernel
theorem dX9_performAtGate_4 : decode cX9_performAtGate 4 = .ok (.lookupswitch 58 #[(0, 28), (1, 34)], 28) := by decide +kernel
theorem dX9_performAtGate_32 : decode cX9_performAtGate 32 = .ok (.aload_n 0, 1) := by decide +kernel
theorem dX9_performAtGate_33 : decode cX9_performAtGate 33 = .ok (.aload_n 1, 1) := by decide +kernel
theorem dX9_performAtGate_34 : decode cX9_performAtGate 34 = .ok (.invokevirtual 36, 3) := by decide +kernel
theorem dX9_performAtGate_37 : decode cX9_performAtGate 37 = .ok (.ireturn, 1) := by decide +kernel
theorem dX9_performAtGate_38 : decode cX9_performAtGate 38 = .ok (.aload_n 0, 1) := by decide +kernel
theorem dX9_performAtGate_39 : decode cX9_performAtGate 39 = .ok (.iconst 0, 1) := by decide +kernel
theorem dX9_performAtGate_40 : decode cX9_performAtGate 40 = .ok (.aload_n 0, 1) := by decide +kernel
theorem dX9_performAtGate_41 : decode cX9_performAtGate 41 = .ok (.getfield 9, 3) := by decide +kernel
theorem dX9_performAtGate_44 : decode cX9_performAtGate 44 = .ok (.iconst 1, 1) := by decide +kernel
theorem dX9_performAtGate_45 : decode cX9_performAtGate 45 = .ok (.isub, 1) := by decide +kernel
theorem dX9_performAtGate_46 : decode cX9_performAtGate 46 = .ok (.invokestatic 39, 3) := by decide +kernel
theorem dX9_performAtGate_49 : decode cX9_performAtGate 49 = .ok (.putfield 9, 3) := by decide +kernel
theorem dX9_performAtGate_52 : decode cX9_performAtGate 52 = .ok (.aload_n 1, 1) := by decide +kernel
theorem dX9_performAtGate_53 : decode cX9_performAtGate 53 = .ok (.aload_n 0, 1) := by decide +kernel
theorem dX9_performAtGate_54 : decode cX9_performAtGate 54 = .ok (.getfield 9, 3) := by decide +kernel
theorem dX9_performAtGate_57 : decode cX9_performAtGate 57 = .ok (.putfield 45, 3) := by decide +kernel
theorem dX9_performAtGate_60 : decode cX9_performAtGate 60 = .ok (.iconst 0, 1) := by decide +kernel
theorem dX9_performAtGate_61 : decode cX9_performAtGate 61 = .ok (.ireturn, 1) := by decide +kernel
theorem dX9_performAtGate_62 : decode cX9_performAtGate 62 = .ok (.bipush 6, 2) := by decide +kernel
theorem dX9_performAtGate_64 : decode cX9_performAtGate 64 = .ok (.ireturn, 1) := by decide +kernel
def kX9_performAtGate (n : Nat) : jK := jk_aload 1 <| jk_get [9] 2 <| jk_sw [(0, (jk_aload 0 <| jk_aload 1 <| jk_vcall [(8, fX9_lookForSign n)] 1 <| jk_iret)), (1, (jk_aload 0 <| jk_int 0 <| jk_aload 0 <| jk_get [8] 8 <| jk_int 1 <| jk_isub <| jk_max <| jk_puti [8] 8 <| jk_aload 1 <| jk_aload 0 <| jk_get [8] 8 <| jk_puti [9] 6 <| jk_int 0 <| jk_iret))] (jk_int 6 <| jk_iret)
set_option maxRecDepth 100000 in
set_option maxHeartbeats 4000000 in
theorem tX9_performAtGate (l : Launch) (n : Nat) : jr_D l cX9_performAtGate 2 "MeetingKit$Sign" (Option.some Jvm.ClassFile.FieldType.int) "performAtGate" 2 42 (kX9_performAtGate n) 0 := by
  unfold kX9_performAtGate
  refine js_aload_n dX9_performAtGate_0 ?_
  refine js_get dX9_performAtGate_1 jf_2_9 tw_464 (Or.inl rfl) ?_
  refine js_lsw (td := 62) dX9_performAtGate_4 (by decide) (by decide) ?_ ?_
  · refine js_bipush dX9_performAtGate_62 ?_
    exact js_iret dX9_performAtGate_64 rfl
  · refine ⟨rfl, ⟨32, by decide, ?_⟩, rfl, ⟨38, by decide, ?_⟩, trivial⟩
    · refine js_aload_n dX9_performAtGate_32 ?_
      refine js_aload_n dX9_performAtGate_33 ?_
      refine js_callv dX9_performAtGate_34 (⟨⟨_, _, _, _, _, _, _, ⟨rfl, (show (8 : Nat) < 20 by decide), sX9_lookForSign l n, by decide, by decide, tw_865, tw_113, tw_864⟩, Or.inl ⟨by decide +kernel, by decide +kernel, by decide +kernel, tw_862, tw_56⟩⟩, trivial⟩) ?_
      exact js_iret dX9_performAtGate_37 rfl
    · refine js_aload_n dX9_performAtGate_38 ?_
      refine js_iconst dX9_performAtGate_39 ?_
      refine js_aload_n dX9_performAtGate_40 ?_
      refine js_get dX9_performAtGate_41 jf_8_8 tw_370 (Or.inl rfl) ?_
      refine js_iconst dX9_performAtGate_44 ?_
      refine js_isub dX9_performAtGate_45 ?_
      refine js_max dX9_performAtGate_46 tw_866 tw_867 tw_110 tw_868 (by decide) (by decide) ?_
      refine js_puti dX9_performAtGate_49 jf_8_8 rfl tw_370 (Or.inl rfl) ?_
      refine js_aload_n dX9_performAtGate_52 ?_
      refine js_aload_n dX9_performAtGate_53 ?_
      refine js_get dX9_performAtGate_54 jf_8_8 tw_370 (Or.inl rfl) ?_
      refine js_puti dX9_performAtGate_57 jf_6_9 rfl tw_483 (Or.inl rfl) ?_
      refine js_iconst dX9_performAtGate_60 ?_
      exact js_iret dX9_performAtGate_61 rfl
def fX9_performAtGate (n : Nat) : jF := jm_run 2 2 (kX9_performAtGate n)
theorem sX9_performAtGate (l : Launch) (n : Nat) : jr_F l (⟨"MeetingKit$Sign", "performAtGate", "(LMeetingKit$Step;)I"⟩ : MethodName) cX9_performAtGate 2 (Option.some Jvm.ClassFile.FieldType.int) 2 42 (fX9_performAtGate n) := js_met (by decide +kernel) (by decide) (tX9_performAtGate l n)
theorem dX9_performAtTickets_0 : decode cX9_performAtTickets 0 = .ok (.aload_n 1, 1) := by decide +kernel
theorem dX9_performAtTickets_1 : decode cX9_performAtTickets 1 = .ok (.getfield 31, 3) := by decide +kernel
theorem dX9_performAtTickets_4 : decode cX9_performAtTickets 4 = .ok (.tableswitch 111 0 2 #[28, 48, 77], 28) := by decide +kernel
theorem dX9_performAtTickets_32 : decode cX9_performAtTickets 32 = .ok (.aload_n 1, 1) := by decide +kernel
theorem dX9_performAtTickets_33 : decode cX9_performAtTickets 33 = .ok (.aload_n 0, 1) := by decide +kernel
theorem dX9_performAtTickets_34 : decode cX9_performAtTickets 34 = .ok (.getfield 9, 3) := by decide +kernel
theorem dX9_performAtTickets_37 : decode cX9_performAtTickets 37 = .ok (.putfield 45, 3) := by decide +kernel
theorem dX9_performAtTickets_40 : decode cX9_performAtTickets 40 = .ok (.aload_n 0, 1) := by decide +kernel
theorem dX9_performAtTickets_41 : decode cX9_performAtTickets 41 = .ok (.dup, 1) := by decide +kernel
theorem dX9_performAtTickets_42 : decode cX9_performAtTickets 42 = .ok (.getfield 9, 3) := by decide +kernel
theorem dX9_performAtTickets_45 : decode cX9_performAtTickets 45 = .ok (.iconst 1, 1) := by decide +kernel
theorem dX9_performAtTickets_46 : decode cX9_performAtTickets 46 = .ok (.iadd, 1) := by decide +kernel
theorem dX9_performAtTickets_47 : decode cX9_performAtTickets 47 = .ok (.putfield 9, 3) := by decide +kernel
theorem dX9_performAtTickets_50 : decode cX9_performAtTickets 50 = .ok (.iconst 0, 1) := by decide +kernel
theorem dX9_performAtTickets_51 : decode cX9_performAtTickets 51 = .ok (.ireturn, 1) := by decide +kernel
theorem dX9_performAtTickets_52 : decode cX9_performAtTickets 52 = .ok (.aload_n 1, 1) := by decide +kernel
theorem dX9_performAtTickets_53 : decode cX9_performAtTickets 53 = .ok (.getfield 48, 3) := by decide +kernel
theorem dX9_performAtTickets_56 : decode cX9_performAtTickets 56 = .ok (.ifCond .lt 14, 3) := by decide +kernel
theorem dX9_performAtTickets_59 : decode cX9_performAtTickets 59 = .ok (.aload_n 1, 1) := by decide +kernel
theorem dX9_performAtTickets_60 : decode cX9_performAtTickets 60 = .ok (.getfield 48, 3) := by decide +kernel
theorem dX9_performAtTickets_63 : decode cX9_performAtTickets 63 = .ok (.aload_n 0, 1) := by decide +kernel
theorem dX9_performAtTickets_64 : decode cX9_performAtTickets 64 = .ok (.getfield 9, 3) := by decide +kernel
theorem dX9_performAtTickets_67 : decode cX9_performAtTickets 67 = .ok (.if_icmp .lt 8, 3) := by decide +kernel
theorem dX9_performAtTickets_70 : decode cX9_performAtTickets 70 = .ok (.bipush 6, 2) := by decide +kernel
theorem dX9_performAtTickets_72 : decode cX9_performAtTickets 72 = .ok (.goto 8, 3) := by decide +kernel
theorem dX9_performAtTickets_75 : decode cX9_performAtTickets 75 = .ok (.aload_n 0, 1) := by decide +kernel
theorem dX9_performAtTickets_76 : decode cX9_performAtTickets 76 = .ok (.aload_n 1, 1) := by decide +kernel
theorem dX9_performAtTickets_77 : decode cX9_performAtTickets 77 = .ok (.invokevirtual 36, 3) := by decide +kernel
theorem dX9_performAtTickets_80 : decode cX9_performAtTickets 80 = .ok (.ireturn, 1) := by decide +kernel
theorem dX9_performAtTickets_81 : decode cX9_performAtTickets 81 = .ok (.aload_n 0, 1) := by decide +kernel
theorem dX9_performAtTickets_82 : decode cX9_performAtTickets 82 = .ok (.getfield 51, 3) := by decide +kernel
theorem dX9_performAtTickets_85 : decode cX9_performAtTickets 85 = .ok (.aload_n 0, 1) := by decide +kernel
theorem dX9_performAtTickets_86 : decode cX9_performAtTickets 86 = .ok (.getfield 9, 3) := by decide +kernel
theorem dX9_performAtTickets_89 : decode cX9_performAtTickets 89 = .ok (.if_icmp .lt 6, 3) := by decide +kernel
theorem dX9_performAtTickets_92 : decode cX9_performAtTickets 92 = .ok (.bipush 7, 2) := by decide +kernel
theorem dX9_performAtTickets_94 : decode cX9_performAtTickets 94 = .ok (.ireturn, 1) := by decide +kernel
theorem dX9_performAtTickets_95 : decode cX9_performAtTickets 95 = .ok (.aload_n 1, 1) := by decide +kernel
theorem dX9_performAtTickets_96 : decode cX9_performAtTickets 96 = .ok (.aload_n 0, 1) := by decide +kernel
theorem dX9_performAtTickets_97 : decode cX9_performAtTickets 97 = .ok (.getfield 51, 3) := by decide +kernel
theorem dX9_performAtTickets_100 : decode cX9_performAtTickets 100 = .ok (.putfield 45, 3) := by decide +kernel
theorem dX9_performAtTickets_103 : decode cX9_performAtTickets 103 = .ok (.aload_n 0, 1) := by decide +kernel
theorem dX9_performAtTickets_104 : decode cX9_performAtTickets 104 = .ok (.dup, 1) := by decide +kernel
theorem dX9_performAtTickets_105 : decode cX9_performAtTickets 105 = .ok (.getfield 51, 3) := by decide +kernel
theorem dX9_performAtTickets_108 : decode cX9_performAtTickets 108 = .ok (.iconst 1, 1) := by decide +kernel
theorem dX9_performAtTickets_109 : decode cX9_performAtTickets 109 = .ok (.iadd, 1) := by decide +kernel
theorem dX9_performAtTickets_110 : decode cX9_performAtTickets 110 = .ok (.putfield 51, 3) := by decide +kernel
theorem dX9_performAtTickets_113 : decode cX9_performAtTickets 113 = .ok (.iconst 0, 1) := by decide +kernel
theorem dX9_performAtTickets_114 : decode cX9_performAtTickets 114 = .ok (.ireturn, 1) := by decide +kernel
theorem dX9_performAtTickets_115 : decode cX9_performAtTickets 115 = .ok (.bipush 6, 2) := by decide +kernel
theorem dX9_performAtTickets_117 : decode cX9_performAtTickets 117 = .ok (.ireturn, 1) := by decide +kernel
def kX9_performAtTickets_0 (n : Nat) (K : Nat → jK) : jK := jk_aload 1 <| jk_get [9] 2 <| jk_sw [(0, (jk_aload 1 <| jk_aload 0 <| jk_get [8] 8 <| jk_puti [9] 6 <| jk_aload 0 <| jk_dup <| jk_get [8] 8 <| jk_int 1 <| jk_iadd <| jk_puti [8] 8 <| jk_int 0 <| jk_iret)), (1, (jk_aload 1 <| jk_get [9] 3 <| jk_iflt (K 70) <| jk_aload 1 <| jk_get [9] 3 <| jk_aload 0 <| jk_get [8] 8 <| jk_icmplt (jk_aload 0 <| jk_aload 1 <| jk_vcall [(8, fX9_lookForSign n)] 1 <| K 80) <| K 70)), (2, (jk_aload 0 <| jk_get [8] 9 <| jk_aload 0 <| jk_get [8] 8 <| jk_icmplt (jk_aload 1 <| jk_aload 0 <| jk_get [8] 9 <| jk_puti [9] 6 <| jk_aload 0 <| jk_dup <| jk_get [8] 9 <| jk_int 1 <| jk_iadd <| jk_puti [8] 9 <| jk_int 0 <| jk_iret) <| jk_int 7 <| jk_iret))] (jk_int 6 <| jk_iret)
set_option maxRecDepth 100000 in
set_option maxHeartbeats 4000000 in
theorem tX9_performAtTickets_0 (l : Launch) (n : Nat) {K : Nat → jK} (hK : ∀ b, jr_D l cX9_performAtTickets 2 "MeetingKit$Sign" (Option.some Jvm.ClassFile.FieldType.int) "performAtTickets" 2 42 (K b) b) : jr_D l cX9_performAtTickets 2 "MeetingKit$Sign" (Option.some Jvm.ClassFile.FieldType.int) "performAtTickets" 2 42 (kX9_performAtTickets_0 n K) 0 := by
  unfold kX9_performAtTickets_0
  refine js_aload_n dX9_performAtTickets_0 ?_
  refine js_get dX9_performAtTickets_1 jf_2_9 tw_464 (Or.inl rfl) ?_
  refine js_tsw (td := 115) dX9_performAtTickets_4 rfl (by decide) ?_ ?_
  · refine js_bipush dX9_performAtTickets_115 ?_
    exact js_iret dX9_performAtTickets_117 rfl
  · refine ⟨rfl, ⟨32, by decide, ?_⟩, rfl, ⟨52, by decide, ?_⟩, rfl, ⟨81, by decide, ?_⟩, trivial⟩
    · refine js_aload_n dX9_performAtTickets_32 ?_
      refine js_aload_n dX9_performAtTickets_33 ?_
      refine js_get dX9_performAtTickets_34 jf_8_8 tw_370 (Or.inl rfl) ?_
      refine js_puti dX9_performAtTickets_37 jf_6_9 rfl tw_483 (Or.inl rfl) ?_
      refine js_aload_n dX9_performAtTickets_40 ?_
      refine js_dup dX9_performAtTickets_41 ?_
      refine js_get dX9_performAtTickets_42 jf_8_8 tw_370 (Or.inl rfl) ?_
      refine js_iconst dX9_performAtTickets_45 ?_
      refine js_iadd dX9_performAtTickets_46 ?_
      refine js_puti dX9_performAtTickets_47 jf_8_8 rfl tw_370 (Or.inl rfl) ?_
      refine js_iconst dX9_performAtTickets_50 ?_
      exact js_iret dX9_performAtTickets_51 rfl
    · refine js_aload_n dX9_performAtTickets_52 ?_
      refine js_get dX9_performAtTickets_53 jf_3_9 tw_471 (Or.inl rfl) ?_
      refine js_iflt (tgt := 70) dX9_performAtTickets_56 (by decide) ?_ ?_
      · exact hK 70
      · refine js_aload_n dX9_performAtTickets_59 ?_
        refine js_get dX9_performAtTickets_60 jf_3_9 tw_471 (Or.inl rfl) ?_
        refine js_aload_n dX9_performAtTickets_63 ?_
        refine js_get dX9_performAtTickets_64 jf_8_8 tw_370 (Or.inl rfl) ?_
        refine js_icmplt (tgt := 75) dX9_performAtTickets_67 (by decide) ?_ ?_
        · refine js_aload_n dX9_performAtTickets_75 ?_
          refine js_aload_n dX9_performAtTickets_76 ?_
          refine js_callv dX9_performAtTickets_77 (⟨⟨_, _, _, _, _, _, _, ⟨rfl, (show (8 : Nat) < 20 by decide), sX9_lookForSign l n, by decide, by decide, tw_865, tw_113, tw_864⟩, Or.inl ⟨by decide +kernel, by decide +kernel, by decide +kernel, tw_862, tw_56⟩⟩, trivial⟩) ?_
          exact hK 80
        · exact hK 70
    · refine js_aload_n dX9_performAtTickets_81 ?_
      refine js_get dX9_performAtTickets_82 jf_9_8 tw_371 (Or.inl rfl) ?_
      refine js_aload_n dX9_performAtTickets_85 ?_
      refine js_get dX9_performAtTickets_86 jf_8_8 tw_370 (Or.inl rfl) ?_
      refine js_icmplt (tgt := 95) dX9_performAtTickets_89 (by decide) ?_ ?_
      · refine js_aload_n dX9_performAtTickets_95 ?_
        refine js_aload_n dX9_performAtTickets_96 ?_
        refine js_get dX9_performAtTickets_97 jf_9_8 tw_371 (Or.inl rfl) ?_
        refine js_puti dX9_performAtTickets_100 jf_6_9 rfl tw_483 (Or.inl rfl) ?_
        refine js_aload_n dX9_performAtTickets_103 ?_
        refine js_dup dX9_performAtTickets_104 ?_
        refine js_get dX9_performAtTickets_105 jf_9_8 tw_371 (Or.inl rfl) ?_
        refine js_iconst dX9_performAtTickets_108 ?_
        refine js_iadd dX9_performAtTickets_109 ?_
        refine js_puti dX9_performAtTickets_110 jf_9_8 rfl tw_371 (Or.inl rfl) ?_
        refine js_iconst dX9_performAtTickets_113 ?_
        exact js_iret dX9_performAtTickets_114 rfl
      · refine js_bipush dX9_performAtTickets_92 ?_
        exact js_iret dX9_performAtTickets_94 rfl
def kX9_performAtTickets_70 (n : Nat) (K : Nat → jK) : jK := jk_kill 0 <| jk_kill 1 <| jk_int 6 <| K 80
set_option maxRecDepth 100000 in
set_option maxHeartbeats 4000000 in
theorem tX9_performAtTickets_70 (l : Launch) (n : Nat) {K : Nat → jK} (hK : ∀ b, jr_D l cX9_performAtTickets 2 "MeetingKit$Sign" (Option.some Jvm.ClassFile.FieldType.int) "performAtTickets" 2 42 (K b) b) : jr_D l cX9_performAtTickets 2 "MeetingKit$Sign" (Option.some Jvm.ClassFile.FieldType.int) "performAtTickets" 2 42 (kX9_performAtTickets_70 n K) 70 := by
  unfold kX9_performAtTickets_70
  refine js_kill ?_
  refine js_kill ?_
  refine js_bipush dX9_performAtTickets_70 ?_
  refine js_goto (tgt := 80) dX9_performAtTickets_72 (by decide) ?_
  exact hK 80
def kX9_performAtTickets_80 (n : Nat) (K : Nat → jK) : jK := jk_kill 0 <| jk_kill 1 <| jk_iret
set_option maxRecDepth 100000 in
set_option maxHeartbeats 4000000 in
theorem tX9_performAtTickets_80 (l : Launch) (n : Nat) {K : Nat → jK} (hK : ∀ b, jr_D l cX9_performAtTickets 2 "MeetingKit$Sign" (Option.some Jvm.ClassFile.FieldType.int) "performAtTickets" 2 42 (K b) b) : jr_D l cX9_performAtTickets 2 "MeetingKit$Sign" (Option.some Jvm.ClassFile.FieldType.int) "performAtTickets" 2 42 (kX9_performAtTickets_80 n K) 80 := by
  unfold kX9_performAtTickets_80
  refine js_kill ?_
  refine js_kill ?_
  exact js_iret dX9_performAtTickets_80 rfl
def kX9_performAtTickets_b (n : Nat) (K : Nat → jK) (b : Nat) : jK := if b = 0 then kX9_performAtTickets_0 n K else if b = 70 then kX9_performAtTickets_70 n K else if b = 80 then kX9_performAtTickets_80 n K else jk_none
def kX9_performAtTickets (n : Nat) : jK := jk_fix (kX9_performAtTickets_b n) n 0
theorem tX9_performAtTickets (l : Launch) (n : Nat) : jr_D l cX9_performAtTickets 2 "MeetingKit$Sign" (Option.some Jvm.ClassFile.FieldType.int) "performAtTickets" 2 42 (kX9_performAtTickets n) 0 := js_fix (F := kX9_performAtTickets_b n) (fun K hK b => js_blk (tX9_performAtTickets_0 l n hK) (js_blk (tX9_performAtTickets_70 l n hK) (js_blk (tX9_performAtTickets_80 l n hK) (js_none)))) n 0
def fX9_performAtTickets (n : Nat) : jF := jm_run 2 2 (kX9_performAtTickets n)
theorem sX9_performAtTickets (l : Launch) (n : Nat) : jr_F l (⟨"MeetingKit$Sign", "performAtTickets", "(LMeetingKit$Step;)I"⟩ : MethodName) cX9_performAtTickets 2 (Option.some Jvm.ClassFile.FieldType.int) 2 42 (fX9_performAtTickets n) := js_met (by decide +kernel) (by decide) (tX9_performAtTickets l n)
theorem dX9_performAtCell_0 : decode cX9_performAtCell 0 = .ok (.aload_n 1, 1) := by decide +kernel
theorem dX9_performAtCell_1 : decode cX9_performAtCell 1 = .ok (.getfield 31, 3) := by decide +kernel
theorem dX9_performAtCell_4 : decode cX9_performAtCell 4 = .ok (.lookupswitch 60 #[(0, 28), (1, 54)], 28) := by decide +kernel
theorem dX9_performAtCell_32 : decode cX9_performAtCell 32 = .ok (.aload_n 0, 1) := by decide +kernel
theorem dX9_performAtCell_33 : decode cX9_performAtCell 33 = .ok (.getfield 9, 3) := by decide +kernel
theorem dX9_performAtCell_36 : decode cX9_performAtCell 36 = .ok (.iconst 1, 1) := by decide +kernel
theorem dX9_performAtCell_37 : decode cX9_performAtCell 37 = .ok (.if_icmp .ne 6, 3) := by decide +kernel
theorem dX9_performAtCell_40 : decode cX9_performAtCell 40 = .ok (.bipush 6, 2) := by decide +kernel
theorem dX9_performAtCell_42 : decode cX9_performAtCell 42 = .ok (.ireturn, 1) := by decide +kernel
theorem dX9_performAtCell_43 : decode cX9_performAtCell 43 = .ok (.aload_n 0, 1) := by decide +kernel
theorem dX9_performAtCell_44 : decode cX9_performAtCell 44 = .ok (.iconst 1, 1) := by decide +kernel
theorem dX9_performAtCell_45 : decode cX9_performAtCell 45 = .ok (.putfield 9, 3) := by decide +kernel
theorem dX9_performAtCell_48 : decode cX9_performAtCell 48 = .ok (.aload_n 0, 1) := by decide +kernel
theorem dX9_performAtCell_49 : decode cX9_performAtCell 49 = .ok (.aload_n 1, 1) := by decide +kernel
theorem dX9_performAtCell_50 : decode cX9_performAtCell 50 = .ok (.getfield 48, 3) := by decide +kernel
theorem dX9_performAtCell_53 : decode cX9_performAtCell 53 = .ok (.putfield 51, 3) := by decide +kernel
theorem dX9_performAtCell_56 : decode cX9_performAtCell 56 = .ok (.iconst 0, 1) := by decide +kernel
theorem dX9_performAtCell_57 : decode cX9_performAtCell 57 = .ok (.ireturn, 1) := by decide +kernel
theorem dX9_performAtCell_58 : decode cX9_performAtCell 58 = .ok (.aload_n 0, 1) := by decide +kernel
theorem dX9_performAtCell_59 : decode cX9_performAtCell 59 = .ok (.aload_n 1, 1) := by decide +kernel
theorem dX9_performAtCell_60 : decode cX9_performAtCell 60 = .ok (.invokevirtual 36, 3) := by decide +kernel
theorem dX9_performAtCell_63 : decode cX9_performAtCell 63 = .ok (.ireturn, 1) := by decide +kernel
theorem dX9_performAtCell_64 : decode cX9_performAtCell 64 = .ok (.bipush 6, 2) := by decide +kernel
theorem dX9_performAtCell_66 : decode cX9_performAtCell 66 = .ok (.ireturn, 1) := by decide +kernel
def kX9_performAtCell (n : Nat) : jK := jk_aload 1 <| jk_get [9] 2 <| jk_sw [(0, (jk_aload 0 <| jk_get [8] 8 <| jk_int 1 <| jk_icmpne (jk_aload 0 <| jk_int 1 <| jk_puti [8] 8 <| jk_aload 0 <| jk_aload 1 <| jk_get [9] 3 <| jk_puti [8] 9 <| jk_int 0 <| jk_iret) <| jk_int 6 <| jk_iret)), (1, (jk_aload 0 <| jk_aload 1 <| jk_vcall [(8, fX9_lookForSign n)] 1 <| jk_iret))] (jk_int 6 <| jk_iret)
set_option maxRecDepth 100000 in
set_option maxHeartbeats 4000000 in
theorem tX9_performAtCell (l : Launch) (n : Nat) : jr_D l cX9_performAtCell 2 "MeetingKit$Sign" (Option.some Jvm.ClassFile.FieldType.int) "performAtCell" 2 42 (kX9_performAtCell n) 0 := by
  unfold kX9_performAtCell
  refine js_aload_n dX9_performAtCell_0 ?_
  refine js_get dX9_performAtCell_1 jf_2_9 tw_464 (Or.inl rfl) ?_
  refine js_lsw (td := 64) dX9_performAtCell_4 (by decide) (by decide) ?_ ?_
  · refine js_bipush dX9_performAtCell_64 ?_
    exact js_iret dX9_performAtCell_66 rfl
  · refine ⟨rfl, ⟨32, by decide, ?_⟩, rfl, ⟨58, by decide, ?_⟩, trivial⟩
    · refine js_aload_n dX9_performAtCell_32 ?_
      refine js_get dX9_performAtCell_33 jf_8_8 tw_370 (Or.inl rfl) ?_
      refine js_iconst dX9_performAtCell_36 ?_
      refine js_icmpne (tgt := 43) dX9_performAtCell_37 (by decide) ?_ ?_
      · refine js_aload_n dX9_performAtCell_43 ?_
        refine js_iconst dX9_performAtCell_44 ?_
        refine js_puti dX9_performAtCell_45 jf_8_8 rfl tw_370 (Or.inl rfl) ?_
        refine js_aload_n dX9_performAtCell_48 ?_
        refine js_aload_n dX9_performAtCell_49 ?_
        refine js_get dX9_performAtCell_50 jf_3_9 tw_471 (Or.inl rfl) ?_
        refine js_puti dX9_performAtCell_53 jf_9_8 rfl tw_371 (Or.inl rfl) ?_
        refine js_iconst dX9_performAtCell_56 ?_
        exact js_iret dX9_performAtCell_57 rfl
      · refine js_bipush dX9_performAtCell_40 ?_
        exact js_iret dX9_performAtCell_42 rfl
    · refine js_aload_n dX9_performAtCell_58 ?_
      refine js_aload_n dX9_performAtCell_59 ?_
      refine js_callv dX9_performAtCell_60 (⟨⟨_, _, _, _, _, _, _, ⟨rfl, (show (8 : Nat) < 20 by decide), sX9_lookForSign l n, by decide, by decide, tw_865, tw_113, tw_864⟩, Or.inl ⟨by decide +kernel, by decide +kernel, by decide +kernel, tw_862, tw_56⟩⟩, trivial⟩) ?_
      exact js_iret dX9_performAtCell_63 rfl
def fX9_performAtCell (n : Nat) : jF := jm_run 2 2 (kX9_performAtCell n)
theorem sX9_performAtCell (l : Launch) (n : Nat) : jr_F l (⟨"MeetingKit$Sign", "performAtCell", "(LMeetingKit$Step;)I"⟩ : MethodName) cX9_performAtCell 2 (Option.some Jvm.ClassFile.FieldType.int) 2 42 (fX9_performAtCell n) := js_met (by decide +kernel) (by decide) (tX9_performAtCell l n)
theorem dX9_performAtPause_0 : decode cX9_performAtPause 0 = .ok (.aload_n 1, 1) := by decide +kernel
theorem dX9_performAtPause_1 : decode cX9_performAtPause 1 = .ok (.getfield 31, 3) := by decide +kernel
theorem dX9_performAtPause_4 : decode cX9_performAtPause 4 = .ok (.tableswitch 48 0 2 #[28, 35, 42], 28) := by decide +kernel
theorem dX9_performAtPause_32 : decode cX9_performAtPause 32 = .ok (.aload_n 0, 1) := by decide +kernel
theorem dX9_performAtPause_33 : decode cX9_performAtPause 33 = .ok (.iconst 1, 1) := by decide +kernel
theorem dX9_performAtPause_34 : decode cX9_performAtPause 34 = .ok (.putfield 9, 3) := by decide +kernel
theorem dX9_performAtPause_37 : decode cX9_performAtPause 37 = .ok (.iconst 0, 1) := by decide +kernel
theorem dX9_performAtPause_38 : decode cX9_performAtPause 38 = .ok (.ireturn, 1) := by decide +kernel
theorem dX9_performAtPause_39 : decode cX9_performAtPause 39 = .ok (.aload_n 0, 1) := by decide +kernel
theorem dX9_performAtPause_40 : decode cX9_performAtPause 40 = .ok (.iconst 0, 1) := by decide +kernel
theorem dX9_performAtPause_41 : decode cX9_performAtPause 41 = .ok (.putfield 9, 3) := by decide +kernel
theorem dX9_performAtPause_44 : decode cX9_performAtPause 44 = .ok (.iconst 0, 1) := by decide +kernel
theorem dX9_performAtPause_45 : decode cX9_performAtPause 45 = .ok (.ireturn, 1) := by decide +kernel
theorem dX9_performAtPause_46 : decode cX9_performAtPause 46 = .ok (.aload_n 0, 1) := by decide +kernel
theorem dX9_performAtPause_47 : decode cX9_performAtPause 47 = .ok (.aload_n 1, 1) := by decide +kernel
theorem dX9_performAtPause_48 : decode cX9_performAtPause 48 = .ok (.invokevirtual 36, 3) := by decide +kernel
theorem dX9_performAtPause_51 : decode cX9_performAtPause 51 = .ok (.ireturn, 1) := by decide +kernel
theorem dX9_performAtPause_52 : decode cX9_performAtPause 52 = .ok (.bipush 6, 2) := by decide +kernel
theorem dX9_performAtPause_54 : decode cX9_performAtPause 54 = .ok (.ireturn, 1) := by decide +kernel
def kX9_performAtPause (n : Nat) : jK := jk_aload 1 <| jk_get [9] 2 <| jk_sw [(0, (jk_aload 0 <| jk_int 1 <| jk_puti [8] 8 <| jk_int 0 <| jk_iret)), (1, (jk_aload 0 <| jk_int 0 <| jk_puti [8] 8 <| jk_int 0 <| jk_iret)), (2, (jk_aload 0 <| jk_aload 1 <| jk_vcall [(8, fX9_lookForSign n)] 1 <| jk_iret))] (jk_int 6 <| jk_iret)
set_option maxRecDepth 100000 in
set_option maxHeartbeats 4000000 in
theorem tX9_performAtPause (l : Launch) (n : Nat) : jr_D l cX9_performAtPause 2 "MeetingKit$Sign" (Option.some Jvm.ClassFile.FieldType.int) "performAtPause" 2 42 (kX9_performAtPause n) 0 := by
  unfold kX9_performAtPause
  refine js_aload_n dX9_performAtPause_0 ?_
  refine js_get dX9_performAtPause_1 jf_2_9 tw_464 (Or.inl rfl) ?_
  refine js_tsw (td := 52) dX9_performAtPause_4 rfl (by decide) ?_ ?_
  · refine js_bipush dX9_performAtPause_52 ?_
    exact js_iret dX9_performAtPause_54 rfl
  · refine ⟨rfl, ⟨32, by decide, ?_⟩, rfl, ⟨39, by decide, ?_⟩, rfl, ⟨46, by decide, ?_⟩, trivial⟩
    · refine js_aload_n dX9_performAtPause_32 ?_
      refine js_iconst dX9_performAtPause_33 ?_
      refine js_puti dX9_performAtPause_34 jf_8_8 rfl tw_370 (Or.inl rfl) ?_
      refine js_iconst dX9_performAtPause_37 ?_
      exact js_iret dX9_performAtPause_38 rfl
    · refine js_aload_n dX9_performAtPause_39 ?_
      refine js_iconst dX9_performAtPause_40 ?_
      refine js_puti dX9_performAtPause_41 jf_8_8 rfl tw_370 (Or.inl rfl) ?_
      refine js_iconst dX9_performAtPause_44 ?_
      exact js_iret dX9_performAtPause_45 rfl
    · refine js_aload_n dX9_performAtPause_46 ?_
      refine js_aload_n dX9_performAtPause_47 ?_
      refine js_callv dX9_performAtPause_48 (⟨⟨_, _, _, _, _, _, _, ⟨rfl, (show (8 : Nat) < 20 by decide), sX9_lookForSign l n, by decide, by decide, tw_865, tw_113, tw_864⟩, Or.inl ⟨by decide +kernel, by decide +kernel, by decide +kernel, tw_862, tw_56⟩⟩, trivial⟩) ?_
      exact js_iret dX9_performAtPause_51 rfl
def fX9_performAtPause (n : Nat) : jF := jm_run 2 2 (kX9_performAtPause n)
theorem sX9_performAtPause (l : Launch) (n : Nat) : jr_F l (⟨"MeetingKit$Sign", "performAtPause", "(LMeetingKit$Step;)I"⟩ : MethodName) cX9_performAtPause 2 (Option.some Jvm.ClassFile.FieldType.int) 2 42 (fX9_performAtPause n) := js_met (by decide +kernel) (by decide) (tX9_performAtPause l n)
theorem dX9_perform_0 : decode cX9_perform 0 = .ok (.aload_n 0, 1) := by decide +kernel
theorem dX9_perform_1 : decode cX9_perform 1 = .ok (.getfield 15, 3) := by decide +kernel
theorem dX9_perform_4 : decode cX9_perform 4 = .ok (.tableswitch 76 2 10 #[52, 76, 76, 76, 76, 58, 64, 76, 70], 52) := by decide +kernel
theorem dX9_perform_56 : decode cX9_perform 56 = .ok (.aload_n 0, 1) := by decide +kernel
theorem dX9_perform_57 : decode cX9_perform 57 = .ok (.aload_n 1, 1) := by decide +kernel
theorem dX9_perform_58 : decode cX9_perform 58 = .ok (.invokevirtual 18, 3) := by decide +kernel
theorem dX9_perform_61 : decode cX9_perform 61 = .ok (.ireturn, 1) := by decide +kernel
theorem dX9_perform_62 : decode cX9_perform 62 = .ok (.aload_n 0, 1) := by decide +kernel
theorem dX9_perform_63 : decode cX9_perform 63 = .ok (.aload_n 1, 1) := by decide +kernel
theorem dX9_perform_64 : decode cX9_perform 64 = .ok (.invokevirtual 22, 3) := by decide +kernel
theorem dX9_perform_67 : decode cX9_perform 67 = .ok (.ireturn, 1) := by decide +kernel
theorem dX9_perform_68 : decode cX9_perform 68 = .ok (.aload_n 0, 1) := by decide +kernel
theorem dX9_perform_69 : decode cX9_perform 69 = .ok (.aload_n 1, 1) := by decide +kernel
theorem dX9_perform_70 : decode cX9_perform 70 = .ok (.invokevirtual 25, 3) := by decide +kernel
theorem dX9_perform_73 : decode cX9_perform 73 = .ok (.ireturn, 1) := by decide +kernel
theorem dX9_perform_74 : decode cX9_perform 74 = .ok (.aload_n 0, 1) := by decide +kernel
theorem dX9_perform_75 : decode cX9_perform 75 = .ok (.aload_n 1, 1) := by decide +kernel
theorem dX9_perform_76 : decode cX9_perform 76 = .ok (.invokevirtual 28, 3) := by decide +kernel
theorem dX9_perform_79 : decode cX9_perform 79 = .ok (.ireturn, 1) := by decide +kernel
theorem dX9_perform_80 : decode cX9_perform 80 = .ok (.bipush 6, 2) := by decide +kernel
theorem dX9_perform_82 : decode cX9_perform 82 = .ok (.ireturn, 1) := by decide +kernel
def kX9_perform_0 (n : Nat) (K : Nat → jK) : jK := jk_aload 0 <| jk_get [8] 0 <| jk_sw [(2, (jk_aload 0 <| jk_aload 1 <| jk_vcall [(8, fX9_performAtGate n)] 1 <| jk_iret)), (3, (K 80)), (4, (K 80)), (5, (K 80)), (6, (K 80)), (7, (jk_aload 0 <| jk_aload 1 <| jk_vcall [(8, fX9_performAtTickets n)] 1 <| jk_iret)), (8, (jk_aload 0 <| jk_aload 1 <| jk_vcall [(8, fX9_performAtCell n)] 1 <| jk_iret)), (9, (K 80)), (10, (jk_aload 0 <| jk_aload 1 <| jk_vcall [(8, fX9_performAtPause n)] 1 <| jk_iret))] (K 80)
set_option maxRecDepth 100000 in
set_option maxHeartbeats 4000000 in
theorem tX9_perform_0 (l : Launch) (n : Nat) {K : Nat → jK} (hK : ∀ b, jr_D l cX9_perform 2 "MeetingKit$Sign" (Option.some Jvm.ClassFile.FieldType.int) "perform" 3 63 (K b) b) : jr_D l cX9_perform 2 "MeetingKit$Sign" (Option.some Jvm.ClassFile.FieldType.int) "perform" 3 63 (kX9_perform_0 n K) 0 := by
  unfold kX9_perform_0
  refine js_aload_n dX9_perform_0 ?_
  refine js_get dX9_perform_1 jf_0_8 tw_181 (Or.inr tw_182) ?_
  refine js_tsw (td := 80) dX9_perform_4 rfl (by decide) ?_ ?_
  · exact hK 80
  · refine ⟨rfl, ⟨56, by decide, ?_⟩, rfl, ⟨80, by decide, ?_⟩, rfl, ⟨80, by decide, ?_⟩, rfl, ⟨80, by decide, ?_⟩, rfl, ⟨80, by decide, ?_⟩, rfl, ⟨62, by decide, ?_⟩, rfl, ⟨68, by decide, ?_⟩, rfl, ⟨80, by decide, ?_⟩, rfl, ⟨74, by decide, ?_⟩, trivial⟩
    · refine js_aload_n dX9_perform_56 ?_
      refine js_aload_n dX9_perform_57 ?_
      refine js_callv dX9_perform_58 (⟨⟨_, _, _, _, _, _, _, ⟨rfl, (show (8 : Nat) < 20 by decide), sX9_performAtGate l n, by decide, by decide, tw_861, tw_113, tw_860⟩, Or.inl ⟨by decide +kernel, by decide +kernel, by decide +kernel, tw_858, tw_55⟩⟩, trivial⟩) ?_
      exact js_iret dX9_perform_61 rfl
    · exact hK 80
    · exact hK 80
    · exact hK 80
    · exact hK 80
    · refine js_aload_n dX9_perform_62 ?_
      refine js_aload_n dX9_perform_63 ?_
      refine js_callv dX9_perform_64 (⟨⟨_, _, _, _, _, _, _, ⟨rfl, (show (8 : Nat) < 20 by decide), sX9_performAtTickets l n, by decide, by decide, tw_872, tw_113, tw_871⟩, Or.inl ⟨by decide +kernel, by decide +kernel, by decide +kernel, tw_869, tw_57⟩⟩, trivial⟩) ?_
      exact js_iret dX9_perform_67 rfl
    · refine js_aload_n dX9_perform_68 ?_
      refine js_aload_n dX9_perform_69 ?_
      refine js_callv dX9_perform_70 (⟨⟨_, _, _, _, _, _, _, ⟨rfl, (show (8 : Nat) < 20 by decide), sX9_performAtCell l n, by decide, by decide, tw_876, tw_113, tw_875⟩, Or.inl ⟨by decide +kernel, by decide +kernel, by decide +kernel, tw_873, tw_58⟩⟩, trivial⟩) ?_
      exact js_iret dX9_perform_73 rfl
    · exact hK 80
    · refine js_aload_n dX9_perform_74 ?_
      refine js_aload_n dX9_perform_75 ?_
      refine js_callv dX9_perform_76 (⟨⟨_, _, _, _, _, _, _, ⟨rfl, (show (8 : Nat) < 20 by decide), sX9_performAtPause l n, by decide, by decide, tw_880, tw_113, tw_879⟩, Or.inl ⟨by decide +kernel, by decide +kernel, by decide +kernel, tw_877, tw_59⟩⟩, trivial⟩) ?_
      exact js_iret dX9_perform_79 rfl
def kX9_perform_80 (n : Nat) (K : Nat → jK) : jK := jk_kill 0 <| jk_kill 1 <| jk_int 6 <| jk_iret
set_option maxRecDepth 100000 in
set_option maxHeartbeats 4000000 in
theorem tX9_perform_80 (l : Launch) (n : Nat) {K : Nat → jK} (hK : ∀ b, jr_D l cX9_perform 2 "MeetingKit$Sign" (Option.some Jvm.ClassFile.FieldType.int) "perform" 3 63 (K b) b) : jr_D l cX9_perform 2 "MeetingKit$Sign" (Option.some Jvm.ClassFile.FieldType.int) "perform" 3 63 (kX9_perform_80 n K) 80 := by
  unfold kX9_perform_80
  refine js_kill ?_
  refine js_kill ?_
  refine js_bipush dX9_perform_80 ?_
  exact js_iret dX9_perform_82 rfl
def kX9_perform_b (n : Nat) (K : Nat → jK) (b : Nat) : jK := if b = 0 then kX9_perform_0 n K else if b = 80 then kX9_perform_80 n K else jk_none
def kX9_perform (n : Nat) : jK := jk_fix (kX9_perform_b n) n 0
theorem tX9_perform (l : Launch) (n : Nat) : jr_D l cX9_perform 2 "MeetingKit$Sign" (Option.some Jvm.ClassFile.FieldType.int) "perform" 3 63 (kX9_perform n) 0 := js_fix (F := kX9_perform_b n) (fun K hK b => js_blk (tX9_perform_0 l n hK) (js_blk (tX9_perform_80 l n hK) (js_none))) n 0
def fX9_perform (n : Nat) : jF := jm_run 2 2 (kX9_perform n)
theorem sX9_perform (l : Launch) (n : Nat) : jr_F l (⟨"MeetingKit$Sign", "perform", "(LMeetingKit$Step;)I"⟩ : MethodName) cX9_perform 2 (Option.some Jvm.ClassFile.FieldType.int) 3 63 (fX9_perform n) := js_met (by decide +kernel) (by decide) (tX9_perform l n)
theorem dX5_lasFirst_0 : decode cX5_lasFirst 0 = .ok (.iconst 0, 1) := by decide +kernel
theorem dX5_lasFirst_1 : decode cX5_lasFirst 1 = .ok (.istore_n 1, 1) := by decide +kernel
theorem dX5_lasFirst_2 : decode cX5_lasFirst 2 = .ok (.iload_n 1, 1) := by decide +kernel
theorem dX5_lasFirst_3 : decode cX5_lasFirst 3 = .ok (.aload_n 0, 1) := by decide +kernel
theorem dX5_lasFirst_4 : decode cX5_lasFirst 4 = .ok (.getfield 47, 3) := by decide +kernel
theorem dX5_lasFirst_7 : decode cX5_lasFirst 7 = .ok (.if_icmp .ge 41, 3) := by decide +kernel
theorem dX5_lasFirst_10 : decode cX5_lasFirst 10 = .ok (.aload_n 0, 1) := by decide +kernel
theorem dX5_lasFirst_11 : decode cX5_lasFirst 11 = .ok (.iload_n 1, 1) := by decide +kernel
theorem dX5_lasFirst_12 : decode cX5_lasFirst 12 = .ok (.invokevirtual 82, 3) := by decide +kernel
theorem dX5_lasFirst_15 : decode cX5_lasFirst 15 = .ok (.astore_n 2, 1) := by decide +kernel
theorem dX5_lasFirst_16 : decode cX5_lasFirst 16 = .ok (.aload_n 2, 1) := by decide +kernel
theorem dX5_lasFirst_17 : decode cX5_lasFirst 17 = .ok (.ifnonnull 6, 3) := by decide +kernel
theorem dX5_lasFirst_20 : decode cX5_lasFirst 20 = .ok (.goto 22, 3) := by decide +kernel
theorem dX5_lasFirst_23 : decode cX5_lasFirst 23 = .ok (.aload_n 0, 1) := by decide +kernel
theorem dX5_lasFirst_24 : decode cX5_lasFirst 24 = .ok (.aload_n 2, 1) := by decide +kernel
theorem dX5_lasFirst_25 : decode cX5_lasFirst 25 = .ok (.invokevirtual 50, 3) := by decide +kernel
theorem dX5_lasFirst_28 : decode cX5_lasFirst 28 = .ok (.ifCond .ne 4, 3) := by decide +kernel
theorem dX5_lasFirst_31 : decode cX5_lasFirst 31 = .ok (.return_, 1) := by decide +kernel
theorem dX5_lasFirst_32 : decode cX5_lasFirst 32 = .ok (.aload_n 0, 1) := by decide +kernel
theorem dX5_lasFirst_33 : decode cX5_lasFirst 33 = .ok (.aload_n 2, 1) := by decide +kernel
theorem dX5_lasFirst_34 : decode cX5_lasFirst 34 = .ok (.invokevirtual 54, 3) := by decide +kernel
theorem dX5_lasFirst_37 : decode cX5_lasFirst 37 = .ok (.aload_n 2, 1) := by decide +kernel
theorem dX5_lasFirst_38 : decode cX5_lasFirst 38 = .ok (.iconst 0, 1) := by decide +kernel
theorem dX5_lasFirst_39 : decode cX5_lasFirst 39 = .ok (.invokevirtual 79, 3) := by decide +kernel
theorem dX5_lasFirst_42 : decode cX5_lasFirst 42 = .ok (.iinc 1 1, 3) := by decide +kernel
theorem dX5_lasFirst_45 : decode cX5_lasFirst 45 = .ok (.goto (-43), 3) := by decide +kernel
theorem dX5_lasFirst_48 : decode cX5_lasFirst 48 = .ok (.return_, 1) := by decide +kernel
def kX5_lasFirst_0 (n : Nat) (K : Nat → jK) : jK := jk_int 0 <| jk_istore 1 <| K 2
set_option maxRecDepth 100000 in
set_option maxHeartbeats 4000000 in
theorem tX5_lasFirst_0 (l : Launch) (n : Nat) {K : Nat → jK} (hK : ∀ b, jr_D l cX5_lasFirst 3 "MeetingKit$Lock" (Option.none : Option Jvm.ClassFile.FieldType) nm_B 2 42 (K b) b) : jr_D l cX5_lasFirst 3 "MeetingKit$Lock" (Option.none : Option Jvm.ClassFile.FieldType) nm_B 2 42 (kX5_lasFirst_0 n K) 0 := by
  unfold kX5_lasFirst_0
  refine js_iconst dX5_lasFirst_0 ?_
  refine js_istore_n dX5_lasFirst_1 (by decide) ?_
  exact hK 2
def kX5_lasFirst_2 (n : Nat) (K : Nat → jK) : jK := jk_kill 2 <| jk_iload 1 <| jk_aload 0 <| jk_get [4] 5 <| jk_icmpge (jk_vret) <| jk_aload 0 <| jk_iload 1 <| jk_vcall [(4, fX2_stillWaiting n)] 1 <| jk_astore 2 <| jk_aload 2 <| jk_ifnonnull (jk_aload 0 <| jk_aload 2 <| jk_vcall [(4, fX5_isFreeFor n)] 1 <| jk_ifne (jk_aload 0 <| jk_aload 2 <| jk_vcall [(4, fX5_las n)] 1 <| jk_aload 2 <| jk_int 0 <| jk_vcall [(9, fX10_passWith n)] 1 <| K 42) <| jk_vret) <| K 42
set_option maxRecDepth 100000 in
set_option maxHeartbeats 4000000 in
theorem tX5_lasFirst_2 (l : Launch) (n : Nat) {K : Nat → jK} (hK : ∀ b, jr_D l cX5_lasFirst 3 "MeetingKit$Lock" (Option.none : Option Jvm.ClassFile.FieldType) nm_B 2 42 (K b) b) : jr_D l cX5_lasFirst 3 "MeetingKit$Lock" (Option.none : Option Jvm.ClassFile.FieldType) nm_B 2 42 (kX5_lasFirst_2 n K) 2 := by
  unfold kX5_lasFirst_2
  refine js_kill ?_
  refine js_iload_n dX5_lasFirst_2 ?_
  refine js_aload_n dX5_lasFirst_3 ?_
  refine js_get dX5_lasFirst_4 jf_5_4 tw_198 (Or.inr tw_199) ?_
  refine js_icmpge (tgt := 48) dX5_lasFirst_7 (by decide) ?_ ?_
  · exact js_vret dX5_lasFirst_48 rfl
  · refine js_aload_n dX5_lasFirst_10 ?_
    refine js_iload_n dX5_lasFirst_11 ?_
    refine js_callv dX5_lasFirst_12 (⟨⟨_, _, _, _, _, _, _, ⟨rfl, (show (4 : Nat) < 20 by decide), sX2_stillWaiting l n, by decide, by decide, tw_584, tw_104, tw_574⟩, Or.inr ⟨⟨"MeetingKit$Lock", "stillWaiting", "(I)LMeetingKit$Step;"⟩, "MeetingKit$Device", by decide +kernel, by decide +kernel, by decide +kernel, tw_612, tw_613, tw_615, Or.inl ⟨_, _, _, tw_574, tw_584⟩⟩⟩, trivial⟩) ?_
    refine js_astore_n dX5_lasFirst_15 (by decide) ?_
    refine js_aload_n dX5_lasFirst_16 ?_
    refine js_ifnonnull (tgt := 23) dX5_lasFirst_17 (by decide) ?_ ?_
    · refine js_aload_n dX5_lasFirst_23 ?_
      refine js_aload_n dX5_lasFirst_24 ?_
      refine js_callv dX5_lasFirst_25 (⟨⟨_, _, _, _, _, _, _, ⟨rfl, (show (4 : Nat) < 20 by decide), sX5_isFreeFor l n, by decide, by decide, tw_619, tw_108, tw_618⟩, Or.inl ⟨by decide +kernel, by decide +kernel, by decide +kernel, tw_616, tw_23⟩⟩, trivial⟩) ?_
      refine js_ifne (tgt := 32) dX5_lasFirst_28 (by decide) ?_ ?_
      · refine js_aload_n dX5_lasFirst_32 ?_
        refine js_aload_n dX5_lasFirst_33 ?_
        refine js_callv dX5_lasFirst_34 (⟨⟨_, _, _, _, _, _, _, ⟨rfl, (show (4 : Nat) < 20 by decide), sX5_las l n, by decide, by decide, tw_623, tw_108, tw_622⟩, Or.inl ⟨by decide +kernel, by decide +kernel, by decide +kernel, tw_620, tw_24⟩⟩, trivial⟩) ?_
        refine js_aload_n dX5_lasFirst_37 ?_
        refine js_iconst dX5_lasFirst_38 ?_
        refine js_callv dX5_lasFirst_39 (⟨⟨_, _, _, _, _, _, _, ⟨rfl, (show (9 : Nat) < 20 by decide), sX10_passWith l n, by decide, by decide, tw_631, tw_115, tw_629⟩, Or.inl ⟨by decide +kernel, by decide +kernel, by decide +kernel, tw_628, tw_630⟩⟩, trivial⟩) ?_
        exact hK 42
      · exact js_vret dX5_lasFirst_31 rfl
    · refine js_goto (tgt := 42) dX5_lasFirst_20 (by decide) ?_
      exact hK 42
def kX5_lasFirst_42 (n : Nat) (K : Nat → jK) : jK := jk_kill 2 <| jk_iinc 1 1 <| K 2
set_option maxRecDepth 100000 in
set_option maxHeartbeats 4000000 in
theorem tX5_lasFirst_42 (l : Launch) (n : Nat) {K : Nat → jK} (hK : ∀ b, jr_D l cX5_lasFirst 3 "MeetingKit$Lock" (Option.none : Option Jvm.ClassFile.FieldType) nm_B 2 42 (K b) b) : jr_D l cX5_lasFirst 3 "MeetingKit$Lock" (Option.none : Option Jvm.ClassFile.FieldType) nm_B 2 42 (kX5_lasFirst_42 n K) 42 := by
  unfold kX5_lasFirst_42
  refine js_kill ?_
  refine js_iinc dX5_lasFirst_42 (by decide) ?_
  refine js_goto (tgt := 2) dX5_lasFirst_45 (by decide) ?_
  exact hK 2
def kX5_lasFirst_b (n : Nat) (K : Nat → jK) (b : Nat) : jK := if b = 0 then kX5_lasFirst_0 n K else if b = 2 then kX5_lasFirst_2 n K else if b = 42 then kX5_lasFirst_42 n K else jk_none
def kX5_lasFirst (n : Nat) : jK := jk_fix (kX5_lasFirst_b n) n 0
theorem tX5_lasFirst (l : Launch) (n : Nat) : jr_D l cX5_lasFirst 3 "MeetingKit$Lock" (Option.none : Option Jvm.ClassFile.FieldType) nm_B 2 42 (kX5_lasFirst n) 0 := js_fix (F := kX5_lasFirst_b n) (fun K hK b => js_blk (tX5_lasFirst_0 l n hK) (js_blk (tX5_lasFirst_2 l n hK) (js_blk (tX5_lasFirst_42 l n hK) (js_none)))) n 0
def fX5_lasFirst (n : Nat) : jF := jm_run 1 3 (kX5_lasFirst n)
theorem sX5_lasFirst (l : Launch) (n : Nat) : jr_F l (⟨"MeetingKit$Lock", nm_B, "()V"⟩ : MethodName) cX5_lasFirst 3 (Option.none : Option Jvm.ClassFile.FieldType) 2 42 (fX5_lasFirst n) := js_met (by decide +kernel) (by decide) (tX5_lasFirst l n)
theorem dX5_letOthersGo_0 : decode cX5_letOthersGo 0 = .ok (.aload_n 0, 1) := by decide +kernel
theorem dX5_letOthersGo_1 : decode cX5_letOthersGo 1 = .ok (.iconst 3, 1) := by decide +kernel
theorem dX5_letOthersGo_2 : decode cX5_letOthersGo 2 = .ok (.invokevirtual 68, 3) := by decide +kernel
theorem dX5_letOthersGo_5 : decode cX5_letOthersGo 5 = .ok (.astore_n 1, 1) := by decide +kernel
theorem dX5_letOthersGo_6 : decode cX5_letOthersGo 6 = .ok (.aload_n 1, 1) := by decide +kernel
theorem dX5_letOthersGo_7 : decode cX5_letOthersGo 7 = .ok (.ifnonnull 10, 3) := by decide +kernel
theorem dX5_letOthersGo_10 : decode cX5_letOthersGo 10 = .ok (.aload_n 0, 1) := by decide +kernel
theorem dX5_letOthersGo_11 : decode cX5_letOthersGo 11 = .ok (.invokevirtual 75, 3) := by decide +kernel
theorem dX5_letOthersGo_14 : decode cX5_letOthersGo 14 = .ok (.goto 27, 3) := by decide +kernel
theorem dX5_letOthersGo_17 : decode cX5_letOthersGo 17 = .ok (.aload_n 0, 1) := by decide +kernel
theorem dX5_letOthersGo_18 : decode cX5_letOthersGo 18 = .ok (.getfield 58, 3) := by decide +kernel
theorem dX5_letOthersGo_21 : decode cX5_letOthersGo 21 = .ok (.iconst 1, 1) := by decide +kernel
theorem dX5_letOthersGo_22 : decode cX5_letOthersGo 22 = .ok (.if_icmp .ne 19, 3) := by decide +kernel
theorem dX5_letOthersGo_25 : decode cX5_letOthersGo 25 = .ok (.aload_n 0, 1) := by decide +kernel
theorem dX5_letOthersGo_26 : decode cX5_letOthersGo 26 = .ok (.aload_n 1, 1) := by decide +kernel
theorem dX5_letOthersGo_27 : decode cX5_letOthersGo 27 = .ok (.getfield 28, 3) := by decide +kernel
theorem dX5_letOthersGo_30 : decode cX5_letOthersGo 30 = .ok (.getfield 32, 3) := by decide +kernel
theorem dX5_letOthersGo_33 : decode cX5_letOthersGo 33 = .ok (.invokevirtual 72, 3) := by decide +kernel
theorem dX5_letOthersGo_36 : decode cX5_letOthersGo 36 = .ok (.aload_n 1, 1) := by decide +kernel
theorem dX5_letOthersGo_37 : decode cX5_letOthersGo 37 = .ok (.iconst 0, 1) := by decide +kernel
theorem dX5_letOthersGo_38 : decode cX5_letOthersGo 38 = .ok (.invokevirtual 79, 3) := by decide +kernel
theorem dX5_letOthersGo_41 : decode cX5_letOthersGo 41 = .ok (.return_, 1) := by decide +kernel
def kX5_letOthersGo_0 (n : Nat) (K : Nat → jK) : jK := jk_aload 0 <| jk_int 3 <| jk_vcall [(4, fX2_firstWithAct n)] 1 <| jk_astore 1 <| jk_aload 1 <| jk_ifnonnull (jk_aload 0 <| jk_get [4] 9 <| jk_int 1 <| jk_icmpne (K 41) <| jk_aload 0 <| jk_aload 1 <| jk_get [9] 0 <| jk_get [0] 0 <| jk_vcall [(4, fX5_makeUser n)] 1 <| jk_aload 1 <| jk_int 0 <| jk_vcall [(9, fX10_passWith n)] 1 <| K 41) <| jk_aload 0 <| jk_vcall [(4, fX5_lasFirst n)] 0 <| K 41
set_option maxRecDepth 100000 in
set_option maxHeartbeats 4000000 in
theorem tX5_letOthersGo_0 (l : Launch) (n : Nat) {K : Nat → jK} (hK : ∀ b, jr_D l cX5_letOthersGo 2 "MeetingKit$Lock" (Option.none : Option Jvm.ClassFile.FieldType) "letOthersGo" 3 64 (K b) b) : jr_D l cX5_letOthersGo 2 "MeetingKit$Lock" (Option.none : Option Jvm.ClassFile.FieldType) "letOthersGo" 3 64 (kX5_letOthersGo_0 n K) 0 := by
  unfold kX5_letOthersGo_0
  refine js_aload_n dX5_letOthersGo_0 ?_
  refine js_iconst dX5_letOthersGo_1 ?_
  refine js_callv dX5_letOthersGo_2 (⟨⟨_, _, _, _, _, _, _, ⟨rfl, (show (4 : Nat) < 20 by decide), sX2_firstWithAct l n, by decide, by decide, tw_607, tw_104, tw_606⟩, Or.inr ⟨⟨"MeetingKit$Lock", "firstWithAct", "(I)LMeetingKit$Step;"⟩, "MeetingKit$Device", by decide +kernel, by decide +kernel, by decide +kernel, tw_602, tw_603, tw_605, Or.inl ⟨_, _, _, tw_606, tw_607⟩⟩⟩, trivial⟩) ?_
  refine js_astore_n dX5_letOthersGo_5 (by decide) ?_
  refine js_aload_n dX5_letOthersGo_6 ?_
  refine js_ifnonnull (tgt := 17) dX5_letOthersGo_7 (by decide) ?_ ?_
  · refine js_aload_n dX5_letOthersGo_17 ?_
    refine js_get dX5_letOthersGo_18 jf_9_4 tw_274 (Or.inl rfl) ?_
    refine js_iconst dX5_letOthersGo_21 ?_
    refine js_icmpne (tgt := 41) dX5_letOthersGo_22 (by decide) ?_ ?_
    · exact hK 41
    · refine js_aload_n dX5_letOthersGo_25 ?_
      refine js_aload_n dX5_letOthersGo_26 ?_
      refine js_get dX5_letOthersGo_27 jf_0_9 tw_450 (Or.inl rfl) ?_
      refine js_get dX5_letOthersGo_30 jf_0_0 tw_397 (Or.inl rfl) ?_
      refine js_callv dX5_letOthersGo_33 (⟨⟨_, _, _, _, _, _, _, ⟨rfl, (show (4 : Nat) < 20 by decide), sX5_makeUser l n, by decide, by decide, tw_635, tw_108, tw_634⟩, Or.inl ⟨by decide +kernel, by decide +kernel, by decide +kernel, tw_632, tw_26⟩⟩, trivial⟩) ?_
      refine js_aload_n dX5_letOthersGo_36 ?_
      refine js_iconst dX5_letOthersGo_37 ?_
      refine js_callv dX5_letOthersGo_38 (⟨⟨_, _, _, _, _, _, _, ⟨rfl, (show (9 : Nat) < 20 by decide), sX10_passWith l n, by decide, by decide, tw_631, tw_115, tw_629⟩, Or.inl ⟨by decide +kernel, by decide +kernel, by decide +kernel, tw_628, tw_630⟩⟩, trivial⟩) ?_
      exact hK 41
  · refine js_aload_n dX5_letOthersGo_10 ?_
    refine js_callv dX5_letOthersGo_11 (⟨⟨_, _, _, _, _, _, _, ⟨rfl, (show (4 : Nat) < 20 by decide), sX5_lasFirst l n, by decide, by decide, tw_611, tw_108, tw_610⟩, Or.inl ⟨by decide +kernel, by decide +kernel, by decide +kernel, tw_608, tw_22⟩⟩, trivial⟩) ?_
    refine js_goto (tgt := 41) dX5_letOthersGo_14 (by decide) ?_
    exact hK 41
def kX5_letOthersGo_41 (n : Nat) (K : Nat → jK) : jK := jk_kill 0 <| jk_kill 1 <| jk_vret
set_option maxRecDepth 100000 in
set_option maxHeartbeats 4000000 in
theorem tX5_letOthersGo_41 (l : Launch) (n : Nat) {K : Nat → jK} (hK : ∀ b, jr_D l cX5_letOthersGo 2 "MeetingKit$Lock" (Option.none : Option Jvm.ClassFile.FieldType) "letOthersGo" 3 64 (K b) b) : jr_D l cX5_letOthersGo 2 "MeetingKit$Lock" (Option.none : Option Jvm.ClassFile.FieldType) "letOthersGo" 3 64 (kX5_letOthersGo_41 n K) 41 := by
  unfold kX5_letOthersGo_41
  refine js_kill ?_
  refine js_kill ?_
  exact js_vret dX5_letOthersGo_41 rfl
def kX5_letOthersGo_b (n : Nat) (K : Nat → jK) (b : Nat) : jK := if b = 0 then kX5_letOthersGo_0 n K else if b = 41 then kX5_letOthersGo_41 n K else jk_none
def kX5_letOthersGo (n : Nat) : jK := jk_fix (kX5_letOthersGo_b n) n 0
theorem tX5_letOthersGo (l : Launch) (n : Nat) : jr_D l cX5_letOthersGo 2 "MeetingKit$Lock" (Option.none : Option Jvm.ClassFile.FieldType) "letOthersGo" 3 64 (kX5_letOthersGo n) 0 := js_fix (F := kX5_letOthersGo_b n) (fun K hK b => js_blk (tX5_letOthersGo_0 l n hK) (js_blk (tX5_letOthersGo_41 l n hK) (js_none))) n 0
def fX5_letOthersGo (n : Nat) : jF := jm_run 1 2 (kX5_letOthersGo n)
theorem sX5_letOthersGo (l : Launch) (n : Nat) : jr_F l (⟨"MeetingKit$Lock", "letOthersGo", "()V"⟩ : MethodName) cX5_letOthersGo 2 (Option.none : Option Jvm.ClassFile.FieldType) 3 64 (fX5_letOthersGo n) := js_met (by decide +kernel) (by decide) (tX5_letOthersGo l n)
theorem dX6_letOthersGo_0 : decode cX6_letOthersGo 0 = .ok (.aload_n 0, 1) := by decide +kernel
theorem dX6_letOthersGo_1 : decode cX6_letOthersGo 1 = .ok (.getfield 15, 3) := by decide +kernel
theorem dX6_letOthersGo_4 : decode cX6_letOthersGo 4 = .ok (.iconst (-1), 1) := by decide +kernel
theorem dX6_letOthersGo_5 : decode cX6_letOthersGo 5 = .ok (.if_icmp .ne 15, 3) := by decide +kernel
theorem dX6_letOthersGo_8 : decode cX6_letOthersGo 8 = .ok (.aload_n 0, 1) := by decide +kernel
theorem dX6_letOthersGo_9 : decode cX6_letOthersGo 9 = .ok (.aload_n 0, 1) := by decide +kernel
theorem dX6_letOthersGo_10 : decode cX6_letOthersGo 10 = .ok (.iconst (-1), 1) := by decide +kernel
theorem dX6_letOthersGo_11 : decode cX6_letOthersGo 11 = .ok (.invokevirtual 42, 3) := by decide +kernel
theorem dX6_letOthersGo_14 : decode cX6_letOthersGo 14 = .ok (.invokevirtual 59, 3) := by decide +kernel
theorem dX6_letOthersGo_17 : decode cX6_letOthersGo 17 = .ok (.goto 4, 3) := by decide +kernel
theorem dX6_letOthersGo_20 : decode cX6_letOthersGo 20 = .ok (.aconst_null, 1) := by decide +kernel
theorem dX6_letOthersGo_21 : decode cX6_letOthersGo 21 = .ok (.astore_n 1, 1) := by decide +kernel
theorem dX6_letOthersGo_22 : decode cX6_letOthersGo 22 = .ok (.aload_n 1, 1) := by decide +kernel
theorem dX6_letOthersGo_23 : decode cX6_letOthersGo 23 = .ok (.ifnull 19, 3) := by decide +kernel
theorem dX6_letOthersGo_26 : decode cX6_letOthersGo 26 = .ok (.aload_n 0, 1) := by decide +kernel
theorem dX6_letOthersGo_27 : decode cX6_letOthersGo 27 = .ok (.aload_n 1, 1) := by decide +kernel
theorem dX6_letOthersGo_28 : decode cX6_letOthersGo 28 = .ok (.getfield 19, 3) := by decide +kernel
theorem dX6_letOthersGo_31 : decode cX6_letOthersGo 31 = .ok (.getfield 25, 3) := by decide +kernel
theorem dX6_letOthersGo_34 : decode cX6_letOthersGo 34 = .ok (.putfield 15, 3) := by decide +kernel
theorem dX6_letOthersGo_37 : decode cX6_letOthersGo 37 = .ok (.aload_n 1, 1) := by decide +kernel
theorem dX6_letOthersGo_38 : decode cX6_letOthersGo 38 = .ok (.iconst 0, 1) := by decide +kernel
theorem dX6_letOthersGo_39 : decode cX6_letOthersGo 39 = .ok (.invokevirtual 70, 3) := by decide +kernel
theorem dX6_letOthersGo_42 : decode cX6_letOthersGo 42 = .ok (.return_, 1) := by decide +kernel
def kX6_letOthersGo_0 (n : Nat) (K : Nat → jK) : jK := jk_aload 0 <| jk_get [5] 9 <| jk_int (-1) <| jk_icmpne (jk_null <| K 21) <| jk_aload 0 <| jk_aload 0 <| jk_int (-1) <| jk_vcall [(5, fX6_firstPlaceOf n)] 1 <| jk_vcall [(5, fX2_waiter n)] 1 <| K 21
set_option maxRecDepth 100000 in
set_option maxHeartbeats 4000000 in
theorem tX6_letOthersGo_0 (l : Launch) (n : Nat) {K : Nat → jK} (hK : ∀ b, jr_D l cX6_letOthersGo 2 "MeetingKit$Monitor" (Option.none : Option Jvm.ClassFile.FieldType) "letOthersGo" 2 44 (K b) b) : jr_D l cX6_letOthersGo 2 "MeetingKit$Monitor" (Option.none : Option Jvm.ClassFile.FieldType) "letOthersGo" 2 44 (kX6_letOthersGo_0 n K) 0 := by
  unfold kX6_letOthersGo_0
  refine js_aload_n dX6_letOthersGo_0 ?_
  refine js_get dX6_letOthersGo_1 jf_9_5 tw_350 (Or.inl rfl) ?_
  refine js_iconst dX6_letOthersGo_4 ?_
  refine js_icmpne (tgt := 20) dX6_letOthersGo_5 (by decide) ?_ ?_
  · refine js_null dX6_letOthersGo_20 ?_
    exact hK 21
  · refine js_aload_n dX6_letOthersGo_8 ?_
    refine js_aload_n dX6_letOthersGo_9 ?_
    refine js_iconst dX6_letOthersGo_10 ?_
    refine js_callv dX6_letOthersGo_11 (⟨⟨_, _, _, _, _, _, _, ⟨rfl, (show (5 : Nat) < 20 by decide), sX6_firstPlaceOf l n, by decide, by decide, tw_646, tw_112, tw_645⟩, Or.inl ⟨by decide +kernel, by decide +kernel, by decide +kernel, tw_643, tw_28⟩⟩, trivial⟩) ?_
    refine js_callv dX6_letOthersGo_14 (⟨⟨_, _, _, _, _, _, _, ⟨rfl, (show (5 : Nat) < 20 by decide), sX2_waiter l n, by decide, by decide, tw_655, tw_104, tw_654⟩, Or.inr ⟨⟨"MeetingKit$Monitor", "waiter", "(I)LMeetingKit$Step;"⟩, "MeetingKit$Device", by decide +kernel, by decide +kernel, by decide +kernel, tw_650, tw_651, tw_653, Or.inl ⟨_, _, _, tw_654, tw_655⟩⟩⟩, trivial⟩) ?_
    refine js_goto (tgt := 21) dX6_letOthersGo_17 (by decide) ?_
    exact hK 21
def kX6_letOthersGo_21 (n : Nat) (K : Nat → jK) : jK := jk_astore 1 <| jk_aload 1 <| jk_ifnull (K 42) <| jk_aload 0 <| jk_aload 1 <| jk_get [9] 0 <| jk_get [0] 0 <| jk_puti [5] 9 <| jk_aload 1 <| jk_int 0 <| jk_vcall [(9, fX10_passWith n)] 1 <| K 42
set_option maxRecDepth 100000 in
set_option maxHeartbeats 4000000 in
theorem tX6_letOthersGo_21 (l : Launch) (n : Nat) {K : Nat → jK} (hK : ∀ b, jr_D l cX6_letOthersGo 2 "MeetingKit$Monitor" (Option.none : Option Jvm.ClassFile.FieldType) "letOthersGo" 2 44 (K b) b) : jr_D l cX6_letOthersGo 2 "MeetingKit$Monitor" (Option.none : Option Jvm.ClassFile.FieldType) "letOthersGo" 2 44 (kX6_letOthersGo_21 n K) 21 := by
  unfold kX6_letOthersGo_21
  refine js_astore_n dX6_letOthersGo_21 (by decide) ?_
  refine js_aload_n dX6_letOthersGo_22 ?_
  refine js_ifnull (tgt := 42) dX6_letOthersGo_23 (by decide) ?_ ?_
  · exact hK 42
  · refine js_aload_n dX6_letOthersGo_26 ?_
    refine js_aload_n dX6_letOthersGo_27 ?_
    refine js_get dX6_letOthersGo_28 jf_0_9 tw_449 (Or.inl rfl) ?_
    refine js_get dX6_letOthersGo_31 jf_0_0 tw_396 (Or.inl rfl) ?_
    refine js_puti dX6_letOthersGo_34 jf_9_5 rfl tw_350 (Or.inl rfl) ?_
    refine js_aload_n dX6_letOthersGo_37 ?_
    refine js_iconst dX6_letOthersGo_38 ?_
    refine js_callv dX6_letOthersGo_39 (⟨⟨_, _, _, _, _, _, _, ⟨rfl, (show (9 : Nat) < 20 by decide), sX10_passWith l n, by decide, by decide, tw_631, tw_115, tw_629⟩, Or.inl ⟨by decide +kernel, by decide +kernel, by decide +kernel, tw_656, tw_630⟩⟩, trivial⟩) ?_
    exact hK 42
def kX6_letOthersGo_42 (n : Nat) (K : Nat → jK) : jK := jk_kill 0 <| jk_kill 1 <| jk_vret
set_option maxRecDepth 100000 in
set_option maxHeartbeats 4000000 in
theorem tX6_letOthersGo_42 (l : Launch) (n : Nat) {K : Nat → jK} (hK : ∀ b, jr_D l cX6_letOthersGo 2 "MeetingKit$Monitor" (Option.none : Option Jvm.ClassFile.FieldType) "letOthersGo" 2 44 (K b) b) : jr_D l cX6_letOthersGo 2 "MeetingKit$Monitor" (Option.none : Option Jvm.ClassFile.FieldType) "letOthersGo" 2 44 (kX6_letOthersGo_42 n K) 42 := by
  unfold kX6_letOthersGo_42
  refine js_kill ?_
  refine js_kill ?_
  exact js_vret dX6_letOthersGo_42 rfl
def kX6_letOthersGo_b (n : Nat) (K : Nat → jK) (b : Nat) : jK := if b = 0 then kX6_letOthersGo_0 n K else if b = 21 then kX6_letOthersGo_21 n K else if b = 42 then kX6_letOthersGo_42 n K else jk_none
def kX6_letOthersGo (n : Nat) : jK := jk_fix (kX6_letOthersGo_b n) n 0
theorem tX6_letOthersGo (l : Launch) (n : Nat) : jr_D l cX6_letOthersGo 2 "MeetingKit$Monitor" (Option.none : Option Jvm.ClassFile.FieldType) "letOthersGo" 2 44 (kX6_letOthersGo n) 0 := js_fix (F := kX6_letOthersGo_b n) (fun K hK b => js_blk (tX6_letOthersGo_0 l n hK) (js_blk (tX6_letOthersGo_21 l n hK) (js_blk (tX6_letOthersGo_42 l n hK) (js_none)))) n 0
def fX6_letOthersGo (n : Nat) : jF := jm_run 1 2 (kX6_letOthersGo n)
theorem sX6_letOthersGo (l : Launch) (n : Nat) : jr_F l (⟨"MeetingKit$Monitor", "letOthersGo", "()V"⟩ : MethodName) cX6_letOthersGo 2 (Option.none : Option Jvm.ClassFile.FieldType) 2 44 (fX6_letOthersGo n) := js_met (by decide +kernel) (by decide) (tX6_letOthersGo l n)
theorem dX7_letOthersGo_0 : decode cX7_letOthersGo 0 = .ok (.iconst 0, 1) := by decide +kernel
theorem dX7_letOthersGo_1 : decode cX7_letOthersGo 1 = .ok (.istore_n 1, 1) := by decide +kernel
theorem dX7_letOthersGo_2 : decode cX7_letOthersGo 2 = .ok (.iload_n 1, 1) := by decide +kernel
theorem dX7_letOthersGo_3 : decode cX7_letOthersGo 3 = .ok (.aload_n 0, 1) := by decide +kernel
theorem dX7_letOthersGo_4 : decode cX7_letOthersGo 4 = .ok (.getfield 30, 3) := by decide +kernel
theorem dX7_letOthersGo_7 : decode cX7_letOthersGo 7 = .ok (.if_icmp .ge 50, 3) := by decide +kernel
theorem dX7_letOthersGo_10 : decode cX7_letOthersGo 10 = .ok (.aload_n 0, 1) := by decide +kernel
theorem dX7_letOthersGo_11 : decode cX7_letOthersGo 11 = .ok (.iload_n 1, 1) := by decide +kernel
theorem dX7_letOthersGo_12 : decode cX7_letOthersGo 12 = .ok (.invokevirtual 44, 3) := by decide +kernel
theorem dX7_letOthersGo_15 : decode cX7_letOthersGo 15 = .ok (.astore_n 2, 1) := by decide +kernel
theorem dX7_letOthersGo_16 : decode cX7_letOthersGo 16 = .ok (.aload_n 2, 1) := by decide +kernel
theorem dX7_letOthersGo_17 : decode cX7_letOthersGo 17 = .ok (.ifnonnull 6, 3) := by decide +kernel
theorem dX7_letOthersGo_20 : decode cX7_letOthersGo 20 = .ok (.goto 31, 3) := by decide +kernel
theorem dX7_letOthersGo_23 : decode cX7_letOthersGo 23 = .ok (.aload_n 2, 1) := by decide +kernel
theorem dX7_letOthersGo_24 : decode cX7_letOthersGo 24 = .ok (.getfield 20, 3) := by decide +kernel
theorem dX7_letOthersGo_27 : decode cX7_letOthersGo 27 = .ok (.aload_n 0, 1) := by decide +kernel
theorem dX7_letOthersGo_28 : decode cX7_letOthersGo 28 = .ok (.getfield 9, 3) := by decide +kernel
theorem dX7_letOthersGo_31 : decode cX7_letOthersGo 31 = .ok (.if_icmp .gt 11, 3) := by decide +kernel
theorem dX7_letOthersGo_34 : decode cX7_letOthersGo 34 = .ok (.aload_n 0, 1) := by decide +kernel
theorem dX7_letOthersGo_35 : decode cX7_letOthersGo 35 = .ok (.aload_n 2, 1) := by decide +kernel
theorem dX7_letOthersGo_36 : decode cX7_letOthersGo 36 = .ok (.invokevirtual 33, 3) := by decide +kernel
theorem dX7_letOthersGo_39 : decode cX7_letOthersGo 39 = .ok (.goto 12, 3) := by decide +kernel
theorem dX7_letOthersGo_42 : decode cX7_letOthersGo 42 = .ok (.aload_n 0, 1) := by decide +kernel
theorem dX7_letOthersGo_43 : decode cX7_letOthersGo 43 = .ok (.getfield 27, 3) := by decide +kernel
theorem dX7_letOthersGo_46 : decode cX7_letOthersGo 46 = .ok (.iconst 1, 1) := by decide +kernel
theorem dX7_letOthersGo_47 : decode cX7_letOthersGo 47 = .ok (.if_icmp .ne 4, 3) := by decide +kernel
theorem dX7_letOthersGo_50 : decode cX7_letOthersGo 50 = .ok (.return_, 1) := by decide +kernel
theorem dX7_letOthersGo_51 : decode cX7_letOthersGo 51 = .ok (.iinc 1 1, 3) := by decide +kernel
theorem dX7_letOthersGo_54 : decode cX7_letOthersGo 54 = .ok (.goto (-52), 3) := by decide +kernel
theorem dX7_letOthersGo_57 : decode cX7_letOthersGo 57 = .ok (.return_, 1) := by decide +kernel
def kX7_letOthersGo_0 (n : Nat) (K : Nat → jK) : jK := jk_int 0 <| jk_istore 1 <| K 2
set_option maxRecDepth 100000 in
set_option maxHeartbeats 4000000 in
theorem tX7_letOthersGo_0 (l : Launch) (n : Nat) {K : Nat → jK} (hK : ∀ b, jr_D l cX7_letOthersGo 3 "MeetingKit$Permits" (Option.none : Option Jvm.ClassFile.FieldType) "letOthersGo" 2 42 (K b) b) : jr_D l cX7_letOthersGo 3 "MeetingKit$Permits" (Option.none : Option Jvm.ClassFile.FieldType) "letOthersGo" 2 42 (kX7_letOthersGo_0 n K) 0 := by
  unfold kX7_letOthersGo_0
  refine js_iconst dX7_letOthersGo_0 ?_
  refine js_istore_n dX7_letOthersGo_1 (by decide) ?_
  exact hK 2
def kX7_letOthersGo_2 (n : Nat) (K : Nat → jK) : jK := jk_kill 2 <| jk_iload 1 <| jk_aload 0 <| jk_get [6] 5 <| jk_icmpge (jk_vret) <| jk_aload 0 <| jk_iload 1 <| jk_vcall [(6, fX2_stillWaiting n)] 1 <| jk_astore 2 <| jk_aload 2 <| jk_ifnonnull (jk_aload 2 <| jk_get [9] 3 <| jk_aload 0 <| jk_get [6] 8 <| jk_icmpgt (jk_aload 0 <| jk_get [6] 0 <| jk_int 1 <| jk_icmpne (K 51) <| jk_vret) <| jk_aload 0 <| jk_aload 2 <| jk_vcall [(6, fX7_take n)] 1 <| K 51) <| K 51
set_option maxRecDepth 100000 in
set_option maxHeartbeats 4000000 in
theorem tX7_letOthersGo_2 (l : Launch) (n : Nat) {K : Nat → jK} (hK : ∀ b, jr_D l cX7_letOthersGo 3 "MeetingKit$Permits" (Option.none : Option Jvm.ClassFile.FieldType) "letOthersGo" 2 42 (K b) b) : jr_D l cX7_letOthersGo 3 "MeetingKit$Permits" (Option.none : Option Jvm.ClassFile.FieldType) "letOthersGo" 2 42 (kX7_letOthersGo_2 n K) 2 := by
  unfold kX7_letOthersGo_2
  refine js_kill ?_
  refine js_iload_n dX7_letOthersGo_2 ?_
  refine js_aload_n dX7_letOthersGo_3 ?_
  refine js_get dX7_letOthersGo_4 jf_5_6 tw_194 (Or.inr tw_195) ?_
  refine js_icmpge (tgt := 57) dX7_letOthersGo_7 (by decide) ?_ ?_
  · exact js_vret dX7_letOthersGo_57 rfl
  · refine js_aload_n dX7_letOthersGo_10 ?_
    refine js_iload_n dX7_letOthersGo_11 ?_
    refine js_callv dX7_letOthersGo_12 (⟨⟨_, _, _, _, _, _, _, ⟨rfl, (show (6 : Nat) < 20 by decide), sX2_stillWaiting l n, by decide, by decide, tw_584, tw_104, tw_574⟩, Or.inr ⟨⟨"MeetingKit$Permits", "stillWaiting", "(I)LMeetingKit$Step;"⟩, "MeetingKit$Device", by decide +kernel, by decide +kernel, by decide +kernel, tw_660, tw_661, tw_662, Or.inl ⟨_, _, _, tw_574, tw_584⟩⟩⟩, trivial⟩) ?_
    refine js_astore_n dX7_letOthersGo_15 (by decide) ?_
    refine js_aload_n dX7_letOthersGo_16 ?_
    refine js_ifnonnull (tgt := 23) dX7_letOthersGo_17 (by decide) ?_ ?_
    · refine js_aload_n dX7_letOthersGo_23 ?_
      refine js_get dX7_letOthersGo_24 jf_3_9 tw_467 (Or.inl rfl) ?_
      refine js_aload_n dX7_letOthersGo_27 ?_
      refine js_get dX7_letOthersGo_28 jf_8_6 tw_179 (Or.inl rfl) ?_
      refine js_icmpgt (tgt := 42) dX7_letOthersGo_31 (by decide) ?_ ?_
      · refine js_aload_n dX7_letOthersGo_42 ?_
        refine js_get dX7_letOthersGo_43 jf_0_6 tw_183 (Or.inr tw_184) ?_
        refine js_iconst dX7_letOthersGo_46 ?_
        refine js_icmpne (tgt := 51) dX7_letOthersGo_47 (by decide) ?_ ?_
        · exact hK 51
        · exact js_vret dX7_letOthersGo_50 rfl
      · refine js_aload_n dX7_letOthersGo_34 ?_
        refine js_aload_n dX7_letOthersGo_35 ?_
        refine js_callv dX7_letOthersGo_36 (⟨⟨_, _, _, _, _, _, _, ⟨rfl, (show (6 : Nat) < 20 by decide), sX7_take l n, by decide, by decide, tw_666, tw_105, tw_665⟩, Or.inl ⟨by decide +kernel, by decide +kernel, by decide +kernel, tw_663, tw_29⟩⟩, trivial⟩) ?_
        refine js_goto (tgt := 51) dX7_letOthersGo_39 (by decide) ?_
        exact hK 51
    · refine js_goto (tgt := 51) dX7_letOthersGo_20 (by decide) ?_
      exact hK 51
def kX7_letOthersGo_51 (n : Nat) (K : Nat → jK) : jK := jk_kill 2 <| jk_iinc 1 1 <| K 2
set_option maxRecDepth 100000 in
set_option maxHeartbeats 4000000 in
theorem tX7_letOthersGo_51 (l : Launch) (n : Nat) {K : Nat → jK} (hK : ∀ b, jr_D l cX7_letOthersGo 3 "MeetingKit$Permits" (Option.none : Option Jvm.ClassFile.FieldType) "letOthersGo" 2 42 (K b) b) : jr_D l cX7_letOthersGo 3 "MeetingKit$Permits" (Option.none : Option Jvm.ClassFile.FieldType) "letOthersGo" 2 42 (kX7_letOthersGo_51 n K) 51 := by
  unfold kX7_letOthersGo_51
  refine js_kill ?_
  refine js_iinc dX7_letOthersGo_51 (by decide) ?_
  refine js_goto (tgt := 2) dX7_letOthersGo_54 (by decide) ?_
  exact hK 2
def kX7_letOthersGo_b (n : Nat) (K : Nat → jK) (b : Nat) : jK := if b = 0 then kX7_letOthersGo_0 n K else if b = 2 then kX7_letOthersGo_2 n K else if b = 51 then kX7_letOthersGo_51 n K else jk_none
def kX7_letOthersGo (n : Nat) : jK := jk_fix (kX7_letOthersGo_b n) n 0
theorem tX7_letOthersGo (l : Launch) (n : Nat) : jr_D l cX7_letOthersGo 3 "MeetingKit$Permits" (Option.none : Option Jvm.ClassFile.FieldType) "letOthersGo" 2 42 (kX7_letOthersGo n) 0 := js_fix (F := kX7_letOthersGo_b n) (fun K hK b => js_blk (tX7_letOthersGo_0 l n hK) (js_blk (tX7_letOthersGo_2 l n hK) (js_blk (tX7_letOthersGo_51 l n hK) (js_none)))) n 0
def fX7_letOthersGo (n : Nat) : jF := jm_run 1 3 (kX7_letOthersGo n)
theorem sX7_letOthersGo (l : Launch) (n : Nat) : jr_F l (⟨"MeetingKit$Permits", "letOthersGo", "()V"⟩ : MethodName) cX7_letOthersGo 3 (Option.none : Option Jvm.ClassFile.FieldType) 2 42 (fX7_letOthersGo n) := js_met (by decide +kernel) (by decide) (tX7_letOthersGo l n)
theorem dX9_letOthersGo_0 : decode cX9_letOthersGo 0 = .ok (.iconst 0, 1) := by decide +kernel
theorem dX9_letOthersGo_1 : decode cX9_letOthersGo 1 = .ok (.istore_n 1, 1) := by decide +kernel
theorem dX9_letOthersGo_2 : decode cX9_letOthersGo 2 = .ok (.iload_n 1, 1) := by decide +kernel
theorem dX9_letOthersGo_3 : decode cX9_letOthersGo 3 = .ok (.aload_n 0, 1) := by decide +kernel
theorem dX9_letOthersGo_4 : decode cX9_letOthersGo 4 = .ok (.getfield 62, 3) := by decide +kernel
theorem dX9_letOthersGo_7 : decode cX9_letOthersGo 7 = .ok (.if_icmp .ge 35, 3) := by decide +kernel
theorem dX9_letOthersGo_10 : decode cX9_letOthersGo 10 = .ok (.aload_n 0, 1) := by decide +kernel
theorem dX9_letOthersGo_11 : decode cX9_letOthersGo 11 = .ok (.iload_n 1, 1) := by decide +kernel
theorem dX9_letOthersGo_12 : decode cX9_letOthersGo 12 = .ok (.invokevirtual 65, 3) := by decide +kernel
theorem dX9_letOthersGo_15 : decode cX9_letOthersGo 15 = .ok (.astore_n 2, 1) := by decide +kernel
theorem dX9_letOthersGo_16 : decode cX9_letOthersGo 16 = .ok (.aload_n 2, 1) := by decide +kernel
theorem dX9_letOthersGo_17 : decode cX9_letOthersGo 17 = .ok (.ifnull 19, 3) := by decide +kernel
theorem dX9_letOthersGo_20 : decode cX9_letOthersGo 20 = .ok (.aload_n 0, 1) := by decide +kernel
theorem dX9_letOthersGo_21 : decode cX9_letOthersGo 21 = .ok (.aload_n 2, 1) := by decide +kernel
theorem dX9_letOthersGo_22 : decode cX9_letOthersGo 22 = .ok (.invokevirtual 54, 3) := by decide +kernel
theorem dX9_letOthersGo_25 : decode cX9_letOthersGo 25 = .ok (.ifCond .eq 11, 3) := by decide +kernel
theorem dX9_letOthersGo_28 : decode cX9_letOthersGo 28 = .ok (.aload_n 2, 1) := by decide +kernel
theorem dX9_letOthersGo_29 : decode cX9_letOthersGo 29 = .ok (.aload_n 0, 1) := by decide +kernel
theorem dX9_letOthersGo_30 : decode cX9_letOthersGo 30 = .ok (.invokevirtual 58, 3) := by decide +kernel
theorem dX9_letOthersGo_33 : decode cX9_letOthersGo 33 = .ok (.invokevirtual 69, 3) := by decide +kernel
theorem dX9_letOthersGo_36 : decode cX9_letOthersGo 36 = .ok (.iinc 1 1, 3) := by decide +kernel
theorem dX9_letOthersGo_39 : decode cX9_letOthersGo 39 = .ok (.goto (-37), 3) := by decide +kernel
theorem dX9_letOthersGo_42 : decode cX9_letOthersGo 42 = .ok (.return_, 1) := by decide +kernel
def kX9_letOthersGo_0 (n : Nat) (K : Nat → jK) : jK := jk_int 0 <| jk_istore 1 <| K 2
set_option maxRecDepth 100000 in
set_option maxHeartbeats 4000000 in
theorem tX9_letOthersGo_0 (l : Launch) (n : Nat) {K : Nat → jK} (hK : ∀ b, jr_D l cX9_letOthersGo 3 "MeetingKit$Sign" (Option.none : Option Jvm.ClassFile.FieldType) "letOthersGo" 1 21 (K b) b) : jr_D l cX9_letOthersGo 3 "MeetingKit$Sign" (Option.none : Option Jvm.ClassFile.FieldType) "letOthersGo" 1 21 (kX9_letOthersGo_0 n K) 0 := by
  unfold kX9_letOthersGo_0
  refine js_iconst dX9_letOthersGo_0 ?_
  refine js_istore_n dX9_letOthersGo_1 (by decide) ?_
  exact hK 2
def kX9_letOthersGo_2 (n : Nat) (K : Nat → jK) : jK := jk_kill 2 <| jk_iload 1 <| jk_aload 0 <| jk_get [8] 5 <| jk_icmpge (jk_vret) <| jk_aload 0 <| jk_iload 1 <| jk_vcall [(8, fX2_stillWaiting n)] 1 <| jk_astore 2 <| jk_aload 2 <| jk_ifnull (K 36) <| jk_aload 0 <| jk_aload 2 <| jk_vcall [(8, fX9_hasSign n)] 1 <| jk_ifeq (K 36) <| jk_aload 2 <| jk_aload 0 <| jk_vcall [(8, fX9_valueBehindSign n)] 0 <| jk_vcall [(9, fX10_passWith n)] 1 <| K 36
set_option maxRecDepth 100000 in
set_option maxHeartbeats 4000000 in
theorem tX9_letOthersGo_2 (l : Launch) (n : Nat) {K : Nat → jK} (hK : ∀ b, jr_D l cX9_letOthersGo 3 "MeetingKit$Sign" (Option.none : Option Jvm.ClassFile.FieldType) "letOthersGo" 1 21 (K b) b) : jr_D l cX9_letOthersGo 3 "MeetingKit$Sign" (Option.none : Option Jvm.ClassFile.FieldType) "letOthersGo" 1 21 (kX9_letOthersGo_2 n K) 2 := by
  unfold kX9_letOthersGo_2
  refine js_kill ?_
  refine js_iload_n dX9_letOthersGo_2 ?_
  refine js_aload_n dX9_letOthersGo_3 ?_
  refine js_get dX9_letOthersGo_4 jf_5_8 tw_205 (Or.inr tw_206) ?_
  refine js_icmpge (tgt := 42) dX9_letOthersGo_7 (by decide) ?_ ?_
  · exact js_vret dX9_letOthersGo_42 rfl
  · refine js_aload_n dX9_letOthersGo_10 ?_
    refine js_iload_n dX9_letOthersGo_11 ?_
    refine js_callv dX9_letOthersGo_12 (⟨⟨_, _, _, _, _, _, _, ⟨rfl, (show (8 : Nat) < 20 by decide), sX2_stillWaiting l n, by decide, by decide, tw_584, tw_104, tw_574⟩, Or.inr ⟨⟨"MeetingKit$Sign", "stillWaiting", "(I)LMeetingKit$Step;"⟩, "MeetingKit$Device", by decide +kernel, by decide +kernel, by decide +kernel, tw_672, tw_673, tw_674, Or.inl ⟨_, _, _, tw_574, tw_584⟩⟩⟩, trivial⟩) ?_
    refine js_astore_n dX9_letOthersGo_15 (by decide) ?_
    refine js_aload_n dX9_letOthersGo_16 ?_
    refine js_ifnull (tgt := 36) dX9_letOthersGo_17 (by decide) ?_ ?_
    · exact hK 36
    · refine js_aload_n dX9_letOthersGo_20 ?_
      refine js_aload_n dX9_letOthersGo_21 ?_
      refine js_callv dX9_letOthersGo_22 (⟨⟨_, _, _, _, _, _, _, ⟨rfl, (show (8 : Nat) < 20 by decide), sX9_hasSign l n, by decide, by decide, tw_678, tw_113, tw_677⟩, Or.inl ⟨by decide +kernel, by decide +kernel, by decide +kernel, tw_675, tw_30⟩⟩, trivial⟩) ?_
      refine js_ifeq (tgt := 36) dX9_letOthersGo_25 (by decide) ?_ ?_
      · exact hK 36
      · refine js_aload_n dX9_letOthersGo_28 ?_
        refine js_aload_n dX9_letOthersGo_29 ?_
        refine js_callv dX9_letOthersGo_30 (⟨⟨_, _, _, _, _, _, _, ⟨rfl, (show (8 : Nat) < 20 by decide), sX9_valueBehindSign l n, by decide, by decide, tw_682, tw_113, tw_681⟩, Or.inl ⟨by decide +kernel, by decide +kernel, by decide +kernel, tw_679, tw_31⟩⟩, trivial⟩) ?_
        refine js_callv dX9_letOthersGo_33 (⟨⟨_, _, _, _, _, _, _, ⟨rfl, (show (9 : Nat) < 20 by decide), sX10_passWith l n, by decide, by decide, tw_631, tw_115, tw_629⟩, Or.inl ⟨by decide +kernel, by decide +kernel, by decide +kernel, tw_683, tw_630⟩⟩, trivial⟩) ?_
        exact hK 36
def kX9_letOthersGo_36 (n : Nat) (K : Nat → jK) : jK := jk_kill 2 <| jk_iinc 1 1 <| K 2
set_option maxRecDepth 100000 in
set_option maxHeartbeats 4000000 in
theorem tX9_letOthersGo_36 (l : Launch) (n : Nat) {K : Nat → jK} (hK : ∀ b, jr_D l cX9_letOthersGo 3 "MeetingKit$Sign" (Option.none : Option Jvm.ClassFile.FieldType) "letOthersGo" 1 21 (K b) b) : jr_D l cX9_letOthersGo 3 "MeetingKit$Sign" (Option.none : Option Jvm.ClassFile.FieldType) "letOthersGo" 1 21 (kX9_letOthersGo_36 n K) 36 := by
  unfold kX9_letOthersGo_36
  refine js_kill ?_
  refine js_iinc dX9_letOthersGo_36 (by decide) ?_
  refine js_goto (tgt := 2) dX9_letOthersGo_39 (by decide) ?_
  exact hK 2
def kX9_letOthersGo_b (n : Nat) (K : Nat → jK) (b : Nat) : jK := if b = 0 then kX9_letOthersGo_0 n K else if b = 2 then kX9_letOthersGo_2 n K else if b = 36 then kX9_letOthersGo_36 n K else jk_none
def kX9_letOthersGo (n : Nat) : jK := jk_fix (kX9_letOthersGo_b n) n 0
theorem tX9_letOthersGo (l : Launch) (n : Nat) : jr_D l cX9_letOthersGo 3 "MeetingKit$Sign" (Option.none : Option Jvm.ClassFile.FieldType) "letOthersGo" 1 21 (kX9_letOthersGo n) 0 := js_fix (F := kX9_letOthersGo_b n) (fun K hK b => js_blk (tX9_letOthersGo_0 l n hK) (js_blk (tX9_letOthersGo_2 l n hK) (js_blk (tX9_letOthersGo_36 l n hK) (js_none)))) n 0
def fX9_letOthersGo (n : Nat) : jF := jm_run 1 3 (kX9_letOthersGo n)
theorem sX9_letOthersGo (l : Launch) (n : Nat) : jr_F l (⟨"MeetingKit$Sign", "letOthersGo", "()V"⟩ : MethodName) cX9_letOthersGo 3 (Option.none : Option Jvm.ClassFile.FieldType) 1 21 (fX9_letOthersGo n) := js_met (by decide +kernel) (by decide) (tX9_letOthersGo l n)
theorem dX2_finish_0 : decode cX2_finish 0 = .ok (.aload_n 1, 1) := by decide +kernel
theorem dX2_finish_1 : decode cX2_finish 1 = .ok (.iload_n 2, 1) := by decide +kernel
theorem dX2_finish_2 : decode cX2_finish 2 = .ok (.putfield 89, 3) := by decide +kernel
theorem dX2_finish_5 : decode cX2_finish 5 = .ok (.aload_n 1, 1) := by decide +kernel
theorem dX2_finish_6 : decode cX2_finish 6 = .ok (.getfield 45, 3) := by decide +kernel
theorem dX2_finish_9 : decode cX2_finish 9 = .ok (.aconst_null, 1) := by decide +kernel
theorem dX2_finish_10 : decode cX2_finish 10 = .ok (.putfield 49, 3) := by decide +kernel
theorem dX2_finish_13 : decode cX2_finish 13 = .ok (.aload_n 1, 1) := by decide +kernel
theorem dX2_finish_14 : decode cX2_finish 14 = .ok (.getfield 45, 3) := by decide +kernel
theorem dX2_finish_17 : decode cX2_finish 17 = .ok (.iload_n 2, 1) := by decide +kernel
theorem dX2_finish_18 : decode cX2_finish 18 = .ok (.putfield 92, 3) := by decide +kernel
theorem dX2_finish_21 : decode cX2_finish 21 = .ok (.aload_n 1, 1) := by decide +kernel
theorem dX2_finish_22 : decode cX2_finish 22 = .ok (.getfield 39, 3) := by decide +kernel
theorem dX2_finish_25 : decode cX2_finish 25 = .ok (.ifCond .ne 41, 3) := by decide +kernel
theorem dX2_finish_28 : decode cX2_finish 28 = .ok (.aload_n 0, 1) := by decide +kernel
theorem dX2_finish_29 : decode cX2_finish 29 = .ok (.getfield 95, 3) := by decide +kernel
theorem dX2_finish_32 : decode cX2_finish 32 = .ok (.aload_n 0, 1) := by decide +kernel
theorem dX2_finish_33 : decode cX2_finish 33 = .ok (.getfield 17, 3) := by decide +kernel
theorem dX2_finish_36 : decode cX2_finish 36 = .ok (.arraylength, 1) := by decide +kernel
theorem dX2_finish_37 : decode cX2_finish 37 = .ok (.if_icmp .ge 29, 3) := by decide +kernel
theorem dX2_finish_40 : decode cX2_finish 40 = .ok (.aload_n 0, 1) := by decide +kernel
theorem dX2_finish_41 : decode cX2_finish 41 = .ok (.getfield 17, 3) := by decide +kernel
theorem dX2_finish_44 : decode cX2_finish 44 = .ok (.aload_n 0, 1) := by decide +kernel
theorem dX2_finish_45 : decode cX2_finish 45 = .ok (.getfield 95, 3) := by decide +kernel
theorem dX2_finish_48 : decode cX2_finish 48 = .ok (.aload_n 1, 1) := by decide +kernel
theorem dX2_finish_49 : decode cX2_finish 49 = .ok (.getfield 45, 3) := by decide +kernel
theorem dX2_finish_52 : decode cX2_finish 52 = .ok (.getfield 98, 3) := by decide +kernel
theorem dX2_finish_55 : decode cX2_finish 55 = .ok (.iastore, 1) := by decide +kernel
theorem dX2_finish_56 : decode cX2_finish 56 = .ok (.aload_n 0, 1) := by decide +kernel
theorem dX2_finish_57 : decode cX2_finish 57 = .ok (.dup, 1) := by decide +kernel
theorem dX2_finish_58 : decode cX2_finish 58 = .ok (.getfield 95, 3) := by decide +kernel
theorem dX2_finish_61 : decode cX2_finish 61 = .ok (.iconst 1, 1) := by decide +kernel
theorem dX2_finish_62 : decode cX2_finish 62 = .ok (.iadd, 1) := by decide +kernel
theorem dX2_finish_63 : decode cX2_finish 63 = .ok (.putfield 95, 3) := by decide +kernel
theorem dX2_finish_66 : decode cX2_finish 66 = .ok (.return_, 1) := by decide +kernel
def kX2_finish_0 (n : Nat) (K : Nat → jK) : jK := jk_aload 1 <| jk_iload 2 <| jk_puti [9] 8 <| jk_aload 1 <| jk_get [9] 0 <| jk_null <| jk_puta [0] 4 <| jk_aload 1 <| jk_get [9] 0 <| jk_iload 2 <| jk_puti [0] 6 <| jk_aload 1 <| jk_get [9] 5 <| jk_ifne (K 66) <| jk_aload 0 <| jk_get [1, 2, 3, 4, 5, 6, 7, 8] 7 <| jk_aload 0 <| jk_get [1, 2, 3, 4, 5, 6, 7, 8] 6 <| jk_alen <| jk_icmpge (K 66) <| jk_aload 0 <| jk_get [1, 2, 3, 4, 5, 6, 7, 8] 6 <| jk_aload 0 <| jk_get [1, 2, 3, 4, 5, 6, 7, 8] 7 <| jk_aload 1 <| jk_get [9] 0 <| jk_get [0] 0 <| jk_iast <| jk_aload 0 <| jk_dup <| jk_get [1, 2, 3, 4, 5, 6, 7, 8] 7 <| jk_int 1 <| jk_iadd <| jk_puti [1, 2, 3, 4, 5, 6, 7, 8] 7 <| K 66
set_option maxRecDepth 100000 in
set_option maxHeartbeats 4000000 in
theorem tX2_finish_0 (l : Launch) (n : Nat) {K : Nat → jK} (hK : ∀ b, jr_D l cX2_finish 3 "MeetingKit$Device" (Option.none : Option Jvm.ClassFile.FieldType) "finish" 0 0 (K b) b) : jr_D l cX2_finish 3 "MeetingKit$Device" (Option.none : Option Jvm.ClassFile.FieldType) "finish" 0 0 (kX2_finish_0 n K) 0 := by
  unfold kX2_finish_0
  refine js_aload_n dX2_finish_0 ?_
  refine js_iload_n dX2_finish_1 ?_
  refine js_puti dX2_finish_2 jf_8_9 rfl tw_491 (Or.inl rfl) ?_
  refine js_aload_n dX2_finish_5 ?_
  refine js_get dX2_finish_6 jf_0_9 tw_452 (Or.inl rfl) ?_
  refine js_null dX2_finish_9 ?_
  refine js_puta dX2_finish_10 jf_4_0 (Or.inl ⟨_, rfl⟩) tw_407 (Or.inl rfl) ?_
  refine js_aload_n dX2_finish_13 ?_
  refine js_get dX2_finish_14 jf_0_9 tw_452 (Or.inl rfl) ?_
  refine js_iload_n dX2_finish_17 ?_
  refine js_puti dX2_finish_18 jf_6_0 rfl tw_412 (Or.inl rfl) ?_
  refine js_aload_n dX2_finish_21 ?_
  refine js_get dX2_finish_22 jf_5_9 tw_476 (Or.inl rfl) ?_
  refine js_ifne (tgt := 66) dX2_finish_25 (by decide) ?_ ?_
  · exact hK 66
  · refine js_aload_n dX2_finish_28 ?_
    refine js_get dX2_finish_29 jf_7_1_2_3_4_5_6_7_8 tw_211 (Or.inl rfl) ?_
    refine js_aload_n dX2_finish_32 ?_
    refine js_get dX2_finish_33 jf_6_1_2_3_4_5_6_7_8 tw_208 (Or.inl rfl) ?_
    refine js_alen dX2_finish_36 ?_
    refine js_icmpge (tgt := 66) dX2_finish_37 (by decide) ?_ ?_
    · exact hK 66
    · refine js_aload_n dX2_finish_40 ?_
      refine js_get dX2_finish_41 jf_6_1_2_3_4_5_6_7_8 tw_208 (Or.inl rfl) ?_
      refine js_aload_n dX2_finish_44 ?_
      refine js_get dX2_finish_45 jf_7_1_2_3_4_5_6_7_8 tw_211 (Or.inl rfl) ?_
      refine js_aload_n dX2_finish_48 ?_
      refine js_get dX2_finish_49 jf_0_9 tw_452 (Or.inl rfl) ?_
      refine js_get dX2_finish_52 jf_0_0 tw_400 (Or.inl rfl) ?_
      refine js_iast dX2_finish_55 ?_
      refine js_aload_n dX2_finish_56 ?_
      refine js_dup dX2_finish_57 ?_
      refine js_get dX2_finish_58 jf_7_1_2_3_4_5_6_7_8 tw_211 (Or.inl rfl) ?_
      refine js_iconst dX2_finish_61 ?_
      refine js_iadd dX2_finish_62 ?_
      refine js_puti dX2_finish_63 jf_7_1_2_3_4_5_6_7_8 rfl tw_211 (Or.inl rfl) ?_
      exact hK 66
def kX2_finish_66 (n : Nat) (K : Nat → jK) : jK := jk_kill 0 <| jk_kill 1 <| jk_kill 2 <| jk_vret
set_option maxRecDepth 100000 in
set_option maxHeartbeats 4000000 in
theorem tX2_finish_66 (l : Launch) (n : Nat) {K : Nat → jK} (hK : ∀ b, jr_D l cX2_finish 3 "MeetingKit$Device" (Option.none : Option Jvm.ClassFile.FieldType) "finish" 0 0 (K b) b) : jr_D l cX2_finish 3 "MeetingKit$Device" (Option.none : Option Jvm.ClassFile.FieldType) "finish" 0 0 (kX2_finish_66 n K) 66 := by
  unfold kX2_finish_66
  refine js_kill ?_
  refine js_kill ?_
  refine js_kill ?_
  exact js_vret dX2_finish_66 rfl
def kX2_finish_b (n : Nat) (K : Nat → jK) (b : Nat) : jK := if b = 0 then kX2_finish_0 n K else if b = 66 then kX2_finish_66 n K else jk_none
def kX2_finish (n : Nat) : jK := jk_fix (kX2_finish_b n) n 0
theorem tX2_finish (l : Launch) (n : Nat) : jr_D l cX2_finish 3 "MeetingKit$Device" (Option.none : Option Jvm.ClassFile.FieldType) "finish" 0 0 (kX2_finish n) 0 := js_fix (F := kX2_finish_b n) (fun K hK b => js_blk (tX2_finish_0 l n hK) (js_blk (tX2_finish_66 l n hK) (js_none))) n 0
def fX2_finish (n : Nat) : jF := jm_run 3 3 (kX2_finish n)
theorem sX2_finish (l : Launch) (n : Nat) : jr_F l (⟨"MeetingKit$Device", "finish", "(LMeetingKit$Step;I)V"⟩ : MethodName) cX2_finish 3 (Option.none : Option Jvm.ClassFile.FieldType) 0 0 (fX2_finish n) := js_met (by decide +kernel) (by decide) (tX2_finish l n)
