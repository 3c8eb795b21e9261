theorem dX0_init_0 : decode cX0_init 0 = .ok (.aload_n 0, 1) := by decide +kernel
theorem dX0_init_1 : decode cX0_init 1 = .ok (.invokespecial 3, 3) := by decide +kernel
theorem dX0_init_4 : decode cX0_init 4 = .ok (.aload_n 0, 1) := by decide +kernel
theorem dX0_init_5 : decode cX0_init 5 = .ok (.bipush 20, 2) := by decide +kernel
theorem dX0_init_7 : decode cX0_init 7 = .ok (.anewarray 9, 3) := by decide +kernel
theorem dX0_init_10 : decode cX0_init 10 = .ok (.putfield 11, 3) := by decide +kernel
theorem dX0_init_13 : decode cX0_init 13 = .ok (.aload_n 0, 1) := by decide +kernel
theorem dX0_init_14 : decode cX0_init 14 = .ok (.iload_n 1, 1) := by decide +kernel
theorem dX0_init_15 : decode cX0_init 15 = .ok (.putfield 17, 3) := by decide +kernel
theorem dX0_init_18 : decode cX0_init 18 = .ok (.return_, 1) := by decide +kernel
def kX0_init (n : Nat) : jK := jk_aload 0 <| jk_obj <| jk_aload 0 <| jk_int 20 <| jk_newarr 25 (.inr none) <| jk_puta [0] 1 <| jk_aload 0 <| jk_iload 1 <| jk_puti [0] 0 <| jk_vret
set_option maxRecDepth 100000 in
set_option maxHeartbeats 4000000 in
theorem tX0_init (l : Launch) (n : Nat) : jr_D l cX0_init 2 "MeetingKit$Actor" (Option.none : Option Jvm.ClassFile.FieldType) "<init>" 1 20 (kX0_init n) 0 := by
  unfold kX0_init
  refine js_aload_n dX0_init_0 ?_
  refine js_obj dX0_init_1 tw_393 tw_122 tw_123 (by decide) (by decide) ?_
  refine js_aload_n dX0_init_4 ?_
  refine js_bipush dX0_init_5 ?_
  refine js_anew dX0_init_7 rfl (by decide) tw_394 tw_178 ?_
  refine js_putaF dX0_init_10 jf_1_0 (Or.inr ⟨_, rfl⟩) tw_401 (Or.inl rfl) rfl rfl ?_
  refine js_aload_n dX0_init_13 ?_
  refine js_iload_n dX0_init_14 ?_
  refine js_putiF dX0_init_15 jf_0_0 rfl tw_395 (Or.inl rfl) rfl rfl ?_
  exact js_vret dX0_init_18 rfl
def fX0_init (n : Nat) : jF := jm_run 2 2 (kX0_init n)
theorem sX0_init (l : Launch) (n : Nat) : jr_F l (⟨"MeetingKit$Actor", "<init>", "(I)V"⟩ : MethodName) cX0_init 2 (Option.none : Option Jvm.ClassFile.FieldType) 1 20 (fX0_init n) := js_met (by decide +kernel) (by decide) (tX0_init l n)
theorem dX0_learn_0 : decode cX0_learn 0 = .ok (.aload_n 0, 1) := by decide +kernel
theorem dX0_learn_1 : decode cX0_learn 1 = .ok (.getfield 21, 3) := by decide +kernel
theorem dX0_learn_4 : decode cX0_learn 4 = .ok (.aload_n 0, 1) := by decide +kernel
theorem dX0_learn_5 : decode cX0_learn 5 = .ok (.getfield 11, 3) := by decide +kernel
theorem dX0_learn_8 : decode cX0_learn 8 = .ok (.arraylength, 1) := by decide +kernel
theorem dX0_learn_9 : decode cX0_learn 9 = .ok (.if_icmp .lt 5, 3) := by decide +kernel
theorem dX0_learn_12 : decode cX0_learn 12 = .ok (.iconst (-1), 1) := by decide +kernel
theorem dX0_learn_13 : decode cX0_learn 13 = .ok (.ireturn, 1) := by decide +kernel
theorem dX0_learn_14 : decode cX0_learn 14 = .ok (.aload_n 0, 1) := by decide +kernel
theorem dX0_learn_15 : decode cX0_learn 15 = .ok (.getfield 11, 3) := by decide +kernel
theorem dX0_learn_18 : decode cX0_learn 18 = .ok (.aload_n 0, 1) := by decide +kernel
theorem dX0_learn_19 : decode cX0_learn 19 = .ok (.getfield 21, 3) := by decide +kernel
theorem dX0_learn_22 : decode cX0_learn 22 = .ok (.aload_n 1, 1) := by decide +kernel
theorem dX0_learn_23 : decode cX0_learn 23 = .ok (.aastore, 1) := by decide +kernel
theorem dX0_learn_24 : decode cX0_learn 24 = .ok (.aload_n 0, 1) := by decide +kernel
theorem dX0_learn_25 : decode cX0_learn 25 = .ok (.dup, 1) := by decide +kernel
theorem dX0_learn_26 : decode cX0_learn 26 = .ok (.getfield 21, 3) := by decide +kernel
theorem dX0_learn_29 : decode cX0_learn 29 = .ok (.iconst 1, 1) := by decide +kernel
theorem dX0_learn_30 : decode cX0_learn 30 = .ok (.iadd, 1) := by decide +kernel
theorem dX0_learn_31 : decode cX0_learn 31 = .ok (.putfield 21, 3) := by decide +kernel
theorem dX0_learn_34 : decode cX0_learn 34 = .ok (.aload_n 0, 1) := by decide +kernel
theorem dX0_learn_35 : decode cX0_learn 35 = .ok (.getfield 21, 3) := by decide +kernel
theorem dX0_learn_38 : decode cX0_learn 38 = .ok (.ireturn, 1) := by decide +kernel
def kX0_learn (n : Nat) : jK := jk_aload 0 <| jk_get [0] 2 <| jk_aload 0 <| jk_get [0] 1 <| jk_alen <| jk_icmplt (jk_aload 0 <| jk_get [0] 1 <| jk_aload 0 <| jk_get [0] 2 <| jk_aload 1 <| jk_aast 25 <| jk_aload 0 <| jk_dup <| jk_get [0] 2 <| jk_int 1 <| jk_iadd <| jk_puti [0] 2 <| jk_aload 0 <| jk_get [0] 2 <| jk_iret) <| jk_int (-1) <| jk_iret
set_option maxRecDepth 100000 in
set_option maxHeartbeats 4000000 in
theorem tX0_learn (l : Launch) (n : Nat) : jr_D l cX0_learn 2 "MeetingKit$Actor" (Option.some Jvm.ClassFile.FieldType.int) "learn" 0 0 (kX0_learn n) 0 := by
  unfold kX0_learn
  refine js_aload_n dX0_learn_0 ?_
  refine js_get dX0_learn_1 jf_2_0 tw_402 (Or.inl rfl) ?_
  refine js_aload_n dX0_learn_4 ?_
  refine js_get dX0_learn_5 jf_1_0 tw_401 (Or.inl rfl) ?_
  refine js_alen dX0_learn_8 ?_
  refine js_icmplt (tgt := 14) dX0_learn_9 (by decide) ?_ ?_
  · refine js_aload_n dX0_learn_14 ?_
    refine js_get dX0_learn_15 jf_1_0 tw_401 (Or.inl rfl) ?_
    refine js_aload_n dX0_learn_18 ?_
    refine js_get dX0_learn_19 jf_2_0 tw_402 (Or.inl rfl) ?_
    refine js_aload_n dX0_learn_22 ?_
    refine js_aast rfl (by decide) may_25 dX0_learn_23 ?_
    refine js_aload_n dX0_learn_24 ?_
    refine js_dup dX0_learn_25 ?_
    refine js_get dX0_learn_26 jf_2_0 tw_402 (Or.inl rfl) ?_
    refine js_iconst dX0_learn_29 ?_
    refine js_iadd dX0_learn_30 ?_
    refine js_puti dX0_learn_31 jf_2_0 rfl tw_402 (Or.inl rfl) ?_
    refine js_aload_n dX0_learn_34 ?_
    refine js_get dX0_learn_35 jf_2_0 tw_402 (Or.inl rfl) ?_
    exact js_iret dX0_learn_38 rfl
  · refine js_iconst dX0_learn_12 ?_
    exact js_iret dX0_learn_13 rfl
def fX0_learn (n : Nat) : jF := jm_run 2 2 (kX0_learn n)
theorem sX0_learn (l : Launch) (n : Nat) : jr_F l (⟨"MeetingKit$Actor", "learn", "(LMeetingKit$Step;)I"⟩ : MethodName) cX0_learn 2 (Option.some Jvm.ClassFile.FieldType.int) 0 0 (fX0_learn n) := js_met (by decide +kernel) (by decide) (tX0_learn l n)
theorem dX0_stepAt_0 : decode cX0_stepAt 0 = .ok (.iload_n 1, 1) := by decide +kernel
theorem dX0_stepAt_1 : decode cX0_stepAt 1 = .ok (.ifCond .lt 20, 3) := by decide +kernel
theorem dX0_stepAt_4 : decode cX0_stepAt 4 = .ok (.iload_n 1, 1) := by decide +kernel
theorem dX0_stepAt_5 : decode cX0_stepAt 5 = .ok (.aload_n 0, 1) := by decide +kernel
theorem dX0_stepAt_6 : decode cX0_stepAt 6 = .ok (.getfield 21, 3) := by decide +kernel
theorem dX0_stepAt_9 : decode cX0_stepAt 9 = .ok (.if_icmp .ge 12, 3) := by decide +kernel
theorem dX0_stepAt_12 : decode cX0_stepAt 12 = .ok (.aload_n 0, 1) := by decide +kernel
theorem dX0_stepAt_13 : decode cX0_stepAt 13 = .ok (.getfield 11, 3) := by decide +kernel
theorem dX0_stepAt_16 : decode cX0_stepAt 16 = .ok (.iload_n 1, 1) := by decide +kernel
theorem dX0_stepAt_17 : decode cX0_stepAt 17 = .ok (.aaload, 1) := by decide +kernel
theorem dX0_stepAt_18 : decode cX0_stepAt 18 = .ok (.goto 4, 3) := by decide +kernel
theorem dX0_stepAt_21 : decode cX0_stepAt 21 = .ok (.aconst_null, 1) := by decide +kernel
theorem dX0_stepAt_22 : decode cX0_stepAt 22 = .ok (.areturn, 1) := by decide +kernel
def kX0_stepAt_0 (n : Nat) (K : Nat → jK) : jK := jk_iload 1 <| jk_iflt (K 21) <| jk_iload 1 <| jk_aload 0 <| jk_get [0] 2 <| jk_icmpge (K 21) <| jk_aload 0 <| jk_get [0] 1 <| jk_iload 1 <| jk_xald 25 <| K 22
set_option maxRecDepth 100000 in
set_option maxHeartbeats 4000000 in
theorem tX0_stepAt_0 (l : Launch) (n : Nat) {K : Nat → jK} (hK : ∀ b, jr_D l cX0_stepAt 2 "MeetingKit$Actor" (Option.some (Jvm.ClassFile.FieldType.object "MeetingKit$Step")) "stepAt" 0 0 (K b) b) : jr_D l cX0_stepAt 2 "MeetingKit$Actor" (Option.some (Jvm.ClassFile.FieldType.object "MeetingKit$Step")) "stepAt" 0 0 (kX0_stepAt_0 n K) 0 := by
  unfold kX0_stepAt_0
  refine js_iload_n dX0_stepAt_0 ?_
  refine js_iflt (tgt := 21) dX0_stepAt_1 (by decide) ?_ ?_
  · exact hK 21
  · refine js_iload_n dX0_stepAt_4 ?_
    refine js_aload_n dX0_stepAt_5 ?_
    refine js_get dX0_stepAt_6 jf_2_0 tw_402 (Or.inl rfl) ?_
    refine js_icmpge (tgt := 21) dX0_stepAt_9 (by decide) ?_ ?_
    · exact hK 21
    · refine js_aload_n dX0_stepAt_12 ?_
      refine js_get dX0_stepAt_13 jf_1_0 tw_401 (Or.inl rfl) ?_
      refine js_iload_n dX0_stepAt_16 ?_
      refine js_aald (by decide) dX0_stepAt_17 ?_
      refine js_goto (tgt := 22) dX0_stepAt_18 (by decide) ?_
      exact hK 22
def kX0_stepAt_21 (n : Nat) (K : Nat → jK) : jK := jk_kill 0 <| jk_kill 1 <| jk_null <| K 22
set_option maxRecDepth 100000 in
set_option maxHeartbeats 4000000 in
theorem tX0_stepAt_21 (l : Launch) (n : Nat) {K : Nat → jK} (hK : ∀ b, jr_D l cX0_stepAt 2 "MeetingKit$Actor" (Option.some (Jvm.ClassFile.FieldType.object "MeetingKit$Step")) "stepAt" 0 0 (K b) b) : jr_D l cX0_stepAt 2 "MeetingKit$Actor" (Option.some (Jvm.ClassFile.FieldType.object "MeetingKit$Step")) "stepAt" 0 0 (kX0_stepAt_21 n K) 21 := by
  unfold kX0_stepAt_21
  refine js_kill ?_
  refine js_kill ?_
  refine js_null dX0_stepAt_21 ?_
  exact hK 22
def kX0_stepAt_22 (n : Nat) (K : Nat → jK) : jK := jk_kill 0 <| jk_kill 1 <| jk_aret
set_option maxRecDepth 100000 in
set_option maxHeartbeats 4000000 in
theorem tX0_stepAt_22 (l : Launch) (n : Nat) {K : Nat → jK} (hK : ∀ b, jr_D l cX0_stepAt 2 "MeetingKit$Actor" (Option.some (Jvm.ClassFile.FieldType.object "MeetingKit$Step")) "stepAt" 0 0 (K b) b) : jr_D l cX0_stepAt 2 "MeetingKit$Actor" (Option.some (Jvm.ClassFile.FieldType.object "MeetingKit$Step")) "stepAt" 0 0 (kX0_stepAt_22 n K) 22 := by
  unfold kX0_stepAt_22
  refine js_kill ?_
  refine js_kill ?_
  exact js_aret dX0_stepAt_22 rfl
def kX0_stepAt_b (n : Nat) (K : Nat → jK) (b : Nat) : jK := if b = 0 then kX0_stepAt_0 n K else if b = 21 then kX0_stepAt_21 n K else if b = 22 then kX0_stepAt_22 n K else jk_none
def kX0_stepAt (n : Nat) : jK := jk_fix (kX0_stepAt_b n) n 0
theorem tX0_stepAt (l : Launch) (n : Nat) : jr_D l cX0_stepAt 2 "MeetingKit$Actor" (Option.some (Jvm.ClassFile.FieldType.object "MeetingKit$Step")) "stepAt" 0 0 (kX0_stepAt n) 0 := js_fix (F := kX0_stepAt_b n) (fun K hK b => js_blk (tX0_stepAt_0 l n hK) (js_blk (tX0_stepAt_21 l n hK) (js_blk (tX0_stepAt_22 l n hK) (js_none)))) n 0
def fX0_stepAt (n : Nat) : jF := jm_run 2 2 (kX0_stepAt n)
theorem sX0_stepAt (l : Launch) (n : Nat) : jr_F l (⟨"MeetingKit$Actor", "stepAt", "(I)LMeetingKit$Step;"⟩ : MethodName) cX0_stepAt 2 (Option.some (Jvm.ClassFile.FieldType.object "MeetingKit$Step")) 0 0 (fX0_stepAt n) := js_met (by decide +kernel) (by decide) (tX0_stepAt l n)
theorem dX0_nextStep_0 : decode cX0_nextStep 0 = .ok (.aload_n 0, 1) := by decide +kernel
theorem dX0_nextStep_1 : decode cX0_nextStep 1 = .ok (.aload_n 0, 1) := by decide +kernel
theorem dX0_nextStep_2 : decode cX0_nextStep 2 = .ok (.getfield 24, 3) := by decide +kernel
theorem dX0_nextStep_5 : decode cX0_nextStep 5 = .ok (.invokevirtual 27, 3) := by decide +kernel
theorem dX0_nextStep_8 : decode cX0_nextStep 8 = .ok (.astore_n 2, 1) := by decide +kernel
theorem dX0_nextStep_9 : decode cX0_nextStep 9 = .ok (.aload_n 2, 1) := by decide +kernel
theorem dX0_nextStep_10 : decode cX0_nextStep 10 = .ok (.ifnull 18, 3) := by decide +kernel
theorem dX0_nextStep_13 : decode cX0_nextStep 13 = .ok (.aload_n 0, 1) := by decide +kernel
theorem dX0_nextStep_14 : decode cX0_nextStep 14 = .ok (.getfield 31, 3) := by decide +kernel
theorem dX0_nextStep_17 : decode cX0_nextStep 17 = .ok (.ifnonnull 11, 3) := by decide +kernel
theorem dX0_nextStep_20 : decode cX0_nextStep 20 = .ok (.aload_n 0, 1) := by decide +kernel
theorem dX0_nextStep_21 : decode cX0_nextStep 21 = .ok (.getfield 35, 3) := by decide +kernel
theorem dX0_nextStep_24 : decode cX0_nextStep 24 = .ok (.iload_n 1, 1) := by decide +kernel
theorem dX0_nextStep_25 : decode cX0_nextStep 25 = .ok (.if_icmp .lt 5, 3) := by decide +kernel
theorem dX0_nextStep_28 : decode cX0_nextStep 28 = .ok (.aconst_null, 1) := by decide +kernel
theorem dX0_nextStep_29 : decode cX0_nextStep 29 = .ok (.areturn, 1) := by decide +kernel
theorem dX0_nextStep_30 : decode cX0_nextStep 30 = .ok (.aload_n 0, 1) := by decide +kernel
theorem dX0_nextStep_31 : decode cX0_nextStep 31 = .ok (.dup, 1) := by decide +kernel
theorem dX0_nextStep_32 : decode cX0_nextStep 32 = .ok (.getfield 24, 3) := by decide +kernel
theorem dX0_nextStep_35 : decode cX0_nextStep 35 = .ok (.iconst 1, 1) := by decide +kernel
theorem dX0_nextStep_36 : decode cX0_nextStep 36 = .ok (.iadd, 1) := by decide +kernel
theorem dX0_nextStep_37 : decode cX0_nextStep 37 = .ok (.putfield 24, 3) := by decide +kernel
theorem dX0_nextStep_40 : decode cX0_nextStep 40 = .ok (.aload_n 2, 1) := by decide +kernel
theorem dX0_nextStep_41 : decode cX0_nextStep 41 = .ok (.areturn, 1) := by decide +kernel
def kX0_nextStep_0 (n : Nat) (K : Nat → jK) : jK := jk_aload 0 <| jk_aload 0 <| jk_get [0] 3 <| jk_vcall [(0, fX0_stepAt n)] 1 <| jk_astore 2 <| jk_aload 2 <| jk_ifnull (K 28) <| jk_aload 0 <| jk_get [0] 4 <| jk_ifnonnull (K 28) <| jk_aload 0 <| jk_get [0] 6 <| jk_iload 1 <| jk_icmplt (jk_aload 0 <| jk_dup <| jk_get [0] 3 <| jk_int 1 <| jk_iadd <| jk_puti [0] 3 <| jk_aload 2 <| jk_aret) <| K 28
set_option maxRecDepth 100000 in
set_option maxHeartbeats 4000000 in
theorem tX0_nextStep_0 (l : Launch) (n : Nat) {K : Nat → jK} (hK : ∀ b, jr_D l cX0_nextStep 3 "MeetingKit$Actor" (Option.some (Jvm.ClassFile.FieldType.object "MeetingKit$Step")) "nextStep" 1 21 (K b) b) : jr_D l cX0_nextStep 3 "MeetingKit$Actor" (Option.some (Jvm.ClassFile.FieldType.object "MeetingKit$Step")) "nextStep" 1 21 (kX0_nextStep_0 n K) 0 := by
  unfold kX0_nextStep_0
  refine js_aload_n dX0_nextStep_0 ?_
  refine js_aload_n dX0_nextStep_1 ?_
  refine js_get dX0_nextStep_2 jf_3_0 tw_404 (Or.inl rfl) ?_
  refine js_callv dX0_nextStep_5 (⟨⟨_, _, _, _, _, _, _, ⟨rfl, (show (0 : Nat) < 20 by decide), sX0_stepAt l n, by decide, by decide, tw_726, tw_114, tw_724⟩, Or.inl ⟨by decide +kernel, by decide +kernel, by decide +kernel, tw_723, tw_725⟩⟩, trivial⟩) ?_
  refine js_astore_n dX0_nextStep_8 (by decide) ?_
  refine js_aload_n dX0_nextStep_9 ?_
  refine js_ifnull (tgt := 28) dX0_nextStep_10 (by decide) ?_ ?_
  · exact hK 28
  · refine js_aload_n dX0_nextStep_13 ?_
    refine js_get dX0_nextStep_14 jf_4_0 tw_406 (Or.inl rfl) ?_
    refine js_ifnonnull (tgt := 28) dX0_nextStep_17 (by decide) ?_ ?_
    · exact hK 28
    · refine js_aload_n dX0_nextStep_20 ?_
      refine js_get dX0_nextStep_21 jf_6_0 tw_411 (Or.inl rfl) ?_
      refine js_iload_n dX0_nextStep_24 ?_
      refine js_icmplt (tgt := 30) dX0_nextStep_25 (by decide) ?_ ?_
      · refine js_aload_n dX0_nextStep_30 ?_
        refine js_dup dX0_nextStep_31 ?_
        refine js_get dX0_nextStep_32 jf_3_0 tw_404 (Or.inl rfl) ?_
        refine js_iconst dX0_nextStep_35 ?_
        refine js_iadd dX0_nextStep_36 ?_
        refine js_puti dX0_nextStep_37 jf_3_0 rfl tw_404 (Or.inl rfl) ?_
        refine js_aload_n dX0_nextStep_40 ?_
        exact js_aret dX0_nextStep_41 rfl
      · exact hK 28
def kX0_nextStep_28 (n : Nat) (K : Nat → jK) : jK := jk_kill 0 <| jk_kill 1 <| jk_kill 2 <| jk_null <| jk_aret
set_option maxRecDepth 100000 in
set_option maxHeartbeats 4000000 in
theorem tX0_nextStep_28 (l : Launch) (n : Nat) {K : Nat → jK} (hK : ∀ b, jr_D l cX0_nextStep 3 "MeetingKit$Actor" (Option.some (Jvm.ClassFile.FieldType.object "MeetingKit$Step")) "nextStep" 1 21 (K b) b) : jr_D l cX0_nextStep 3 "MeetingKit$Actor" (Option.some (Jvm.ClassFile.FieldType.object "MeetingKit$Step")) "nextStep" 1 21 (kX0_nextStep_28 n K) 28 := by
  unfold kX0_nextStep_28
  refine js_kill ?_
  refine js_kill ?_
  refine js_kill ?_
  refine js_null dX0_nextStep_28 ?_
  exact js_aret dX0_nextStep_29 rfl
def kX0_nextStep_b (n : Nat) (K : Nat → jK) (b : Nat) : jK := if b = 0 then kX0_nextStep_0 n K else if b = 28 then kX0_nextStep_28 n K else jk_none
def kX0_nextStep (n : Nat) : jK := jk_fix (kX0_nextStep_b n) n 0
theorem tX0_nextStep (l : Launch) (n : Nat) : jr_D l cX0_nextStep 3 "MeetingKit$Actor" (Option.some (Jvm.ClassFile.FieldType.object "MeetingKit$Step")) "nextStep" 1 21 (kX0_nextStep n) 0 := js_fix (F := kX0_nextStep_b n) (fun K hK b => js_blk (tX0_nextStep_0 l n hK) (js_blk (tX0_nextStep_28 l n hK) (js_none))) n 0
def fX0_nextStep (n : Nat) : jF := jm_run 2 3 (kX0_nextStep n)
theorem sX0_nextStep (l : Launch) (n : Nat) : jr_F l (⟨"MeetingKit$Actor", "nextStep", "(I)LMeetingKit$Step;"⟩ : MethodName) cX0_nextStep 3 (Option.some (Jvm.ClassFile.FieldType.object "MeetingKit$Step")) 1 21 (fX0_nextStep n) := js_met (by decide +kernel) (by decide) (tX0_nextStep l n)
theorem dX0_beatOfNextMove_0 : decode cX0_beatOfNextMove 0 = .ok (.aload_n 0, 1) := by decide +kernel
theorem dX0_beatOfNextMove_1 : decode cX0_beatOfNextMove 1 = .ok (.getfield 31, 3) := by decide +kernel
theorem dX0_beatOfNextMove_4 : decode cX0_beatOfNextMove 4 = .ok (.ifnonnull 23, 3) := by decide +kernel
theorem dX0_beatOfNextMove_7 : decode cX0_beatOfNextMove 7 = .ok (.aload_n 0, 1) := by decide +kernel
theorem dX0_beatOfNextMove_8 : decode cX0_beatOfNextMove 8 = .ok (.getfield 24, 3) := by decide +kernel
theorem dX0_beatOfNextMove_11 : decode cX0_beatOfNextMove 11 = .ok (.aload_n 0, 1) := by decide +kernel
theorem dX0_beatOfNextMove_12 : decode cX0_beatOfNextMove 12 = .ok (.getfield 21, 3) := by decide +kernel
theorem dX0_beatOfNextMove_15 : decode cX0_beatOfNextMove 15 = .ok (.if_icmp .ge 9, 3) := by decide +kernel
theorem dX0_beatOfNextMove_18 : decode cX0_beatOfNextMove 18 = .ok (.iload_n 1, 1) := by decide +kernel
theorem dX0_beatOfNextMove_19 : decode cX0_beatOfNextMove 19 = .ok (.iconst 1, 1) := by decide +kernel
theorem dX0_beatOfNextMove_20 : decode cX0_beatOfNextMove 20 = .ok (.iadd, 1) := by decide +kernel
theorem dX0_beatOfNextMove_21 : decode cX0_beatOfNextMove 21 = .ok (.goto 5, 3) := by decide +kernel
theorem dX0_beatOfNextMove_24 : decode cX0_beatOfNextMove 24 = .ok (.ldc 38, 2) := by decide +kernel
theorem dX0_beatOfNextMove_26 : decode cX0_beatOfNextMove 26 = .ok (.ireturn, 1) := by decide +kernel
theorem dX0_beatOfNextMove_27 : decode cX0_beatOfNextMove 27 = .ok (.aload_n 0, 1) := by decide +kernel
theorem dX0_beatOfNextMove_28 : decode cX0_beatOfNextMove 28 = .ok (.getfield 31, 3) := by decide +kernel
theorem dX0_beatOfNextMove_31 : decode cX0_beatOfNextMove 31 = .ok (.getfield 39, 3) := by decide +kernel
theorem dX0_beatOfNextMove_34 : decode cX0_beatOfNextMove 34 = .ok (.ifCond .le 21, 3) := by decide +kernel
theorem dX0_beatOfNextMove_37 : decode cX0_beatOfNextMove 37 = .ok (.aload_n 0, 1) := by decide +kernel
theorem dX0_beatOfNextMove_38 : decode cX0_beatOfNextMove 38 = .ok (.getfield 31, 3) := by decide +kernel
theorem dX0_beatOfNextMove_41 : decode cX0_beatOfNextMove 41 = .ok (.getfield 42, 3) := by decide +kernel
theorem dX0_beatOfNextMove_44 : decode cX0_beatOfNextMove 44 = .ok (.aload_n 0, 1) := by decide +kernel
theorem dX0_beatOfNextMove_45 : decode cX0_beatOfNextMove 45 = .ok (.getfield 31, 3) := by decide +kernel
theorem dX0_beatOfNextMove_48 : decode cX0_beatOfNextMove 48 = .ok (.getfield 39, 3) := by decide +kernel
theorem dX0_beatOfNextMove_51 : decode cX0_beatOfNextMove 51 = .ok (.iadd, 1) := by decide +kernel
theorem dX0_beatOfNextMove_52 : decode cX0_beatOfNextMove 52 = .ok (.goto 5, 3) := by decide +kernel
theorem dX0_beatOfNextMove_55 : decode cX0_beatOfNextMove 55 = .ok (.ldc 38, 2) := by decide +kernel
theorem dX0_beatOfNextMove_57 : decode cX0_beatOfNextMove 57 = .ok (.ireturn, 1) := by decide +kernel
def kX0_beatOfNextMove_0 (n : Nat) (K : Nat → jK) : jK := jk_aload 0 <| jk_get [0] 4 <| jk_ifnonnull (jk_aload 0 <| jk_get [0] 4 <| jk_get [9] 4 <| jk_ifle (jk_int 1000000 <| K 57) <| jk_aload 0 <| jk_get [0] 4 <| jk_get [9] 7 <| jk_aload 0 <| jk_get [0] 4 <| jk_get [9] 4 <| jk_iadd <| K 57) <| jk_aload 0 <| jk_get [0] 3 <| jk_aload 0 <| jk_get [0] 2 <| jk_icmpge (jk_int 1000000 <| K 26) <| jk_iload 1 <| jk_int 1 <| jk_iadd <| K 26
set_option maxRecDepth 100000 in
set_option maxHeartbeats 4000000 in
theorem tX0_beatOfNextMove_0 (l : Launch) (n : Nat) {K : Nat → jK} (hK : ∀ b, jr_D l cX0_beatOfNextMove 2 "MeetingKit$Actor" (Option.some Jvm.ClassFile.FieldType.int) "beatOfNextMove" 0 0 (K b) b) : jr_D l cX0_beatOfNextMove 2 "MeetingKit$Actor" (Option.some Jvm.ClassFile.FieldType.int) "beatOfNextMove" 0 0 (kX0_beatOfNextMove_0 n K) 0 := by
  unfold kX0_beatOfNextMove_0
  refine js_aload_n dX0_beatOfNextMove_0 ?_
  refine js_get dX0_beatOfNextMove_1 jf_4_0 tw_406 (Or.inl rfl) ?_
  refine js_ifnonnull (tgt := 27) dX0_beatOfNextMove_4 (by decide) ?_ ?_
  · refine js_aload_n dX0_beatOfNextMove_27 ?_
    refine js_get dX0_beatOfNextMove_28 jf_4_0 tw_406 (Or.inl rfl) ?_
    refine js_get dX0_beatOfNextMove_31 jf_4_9 tw_473 (Or.inl rfl) ?_
    refine js_ifle (tgt := 55) dX0_beatOfNextMove_34 (by decide) ?_ ?_
    · refine js_ldc dX0_beatOfNextMove_55 tw_543 ?_
      exact hK 57
    · refine js_aload_n dX0_beatOfNextMove_37 ?_
      refine js_get dX0_beatOfNextMove_38 jf_4_0 tw_406 (Or.inl rfl) ?_
      refine js_get dX0_beatOfNextMove_41 jf_7_9 tw_487 (Or.inl rfl) ?_
      refine js_aload_n dX0_beatOfNextMove_44 ?_
      refine js_get dX0_beatOfNextMove_45 jf_4_0 tw_406 (Or.inl rfl) ?_
      refine js_get dX0_beatOfNextMove_48 jf_4_9 tw_473 (Or.inl rfl) ?_
      refine js_iadd dX0_beatOfNextMove_51 ?_
      refine js_goto (tgt := 57) dX0_beatOfNextMove_52 (by decide) ?_
      exact hK 57
  · refine js_aload_n dX0_beatOfNextMove_7 ?_
    refine js_get dX0_beatOfNextMove_8 jf_3_0 tw_404 (Or.inl rfl) ?_
    refine js_aload_n dX0_beatOfNextMove_11 ?_
    refine js_get dX0_beatOfNextMove_12 jf_2_0 tw_402 (Or.inl rfl) ?_
    refine js_icmpge (tgt := 24) dX0_beatOfNextMove_15 (by decide) ?_ ?_
    · refine js_ldc dX0_beatOfNextMove_24 tw_543 ?_
      exact hK 26
    · refine js_iload_n dX0_beatOfNextMove_18 ?_
      refine js_iconst dX0_beatOfNextMove_19 ?_
      refine js_iadd dX0_beatOfNextMove_20 ?_
      refine js_goto (tgt := 26) dX0_beatOfNextMove_21 (by decide) ?_
      exact hK 26
def kX0_beatOfNextMove_26 (n : Nat) (K : Nat → jK) : jK := jk_kill 0 <| jk_kill 1 <| jk_iret
set_option maxRecDepth 100000 in
set_option maxHeartbeats 4000000 in
theorem tX0_beatOfNextMove_26 (l : Launch) (n : Nat) {K : Nat → jK} (hK : ∀ b, jr_D l cX0_beatOfNextMove 2 "MeetingKit$Actor" (Option.some Jvm.ClassFile.FieldType.int) "beatOfNextMove" 0 0 (K b) b) : jr_D l cX0_beatOfNextMove 2 "MeetingKit$Actor" (Option.some Jvm.ClassFile.FieldType.int) "beatOfNextMove" 0 0 (kX0_beatOfNextMove_26 n K) 26 := by
  unfold kX0_beatOfNextMove_26
  refine js_kill ?_
  refine js_kill ?_
  exact js_iret dX0_beatOfNextMove_26 rfl
def kX0_beatOfNextMove_57 (n : Nat) (K : Nat → jK) : jK := jk_kill 0 <| jk_kill 1 <| jk_iret
set_option maxRecDepth 100000 in
set_option maxHeartbeats 4000000 in
theorem tX0_beatOfNextMove_57 (l : Launch) (n : Nat) {K : Nat → jK} (hK : ∀ b, jr_D l cX0_beatOfNextMove 2 "MeetingKit$Actor" (Option.some Jvm.ClassFile.FieldType.int) "beatOfNextMove" 0 0 (K b) b) : jr_D l cX0_beatOfNextMove 2 "MeetingKit$Actor" (Option.some Jvm.ClassFile.FieldType.int) "beatOfNextMove" 0 0 (kX0_beatOfNextMove_57 n K) 57 := by
  unfold kX0_beatOfNextMove_57
  refine js_kill ?_
  refine js_kill ?_
  exact js_iret dX0_beatOfNextMove_57 rfl
def kX0_beatOfNextMove_b (n : Nat) (K : Nat → jK) (b : Nat) : jK := if b = 0 then kX0_beatOfNextMove_0 n K else if b = 26 then kX0_beatOfNextMove_26 n K else if b = 57 then kX0_beatOfNextMove_57 n K else jk_none
def kX0_beatOfNextMove (n : Nat) : jK := jk_fix (kX0_beatOfNextMove_b n) n 0
theorem tX0_beatOfNextMove (l : Launch) (n : Nat) : jr_D l cX0_beatOfNextMove 2 "MeetingKit$Actor" (Option.some Jvm.ClassFile.FieldType.int) "beatOfNextMove" 0 0 (kX0_beatOfNextMove n) 0 := js_fix (F := kX0_beatOfNextMove_b n) (fun K hK b => js_blk (tX0_beatOfNextMove_0 l n hK) (js_blk (tX0_beatOfNextMove_26 l n hK) (js_blk (tX0_beatOfNextMove_57 l n hK) (js_none)))) n 0
def fX0_beatOfNextMove (n : Nat) : jF := jm_run 2 2 (kX0_beatOfNextMove n)
theorem sX0_beatOfNextMove (l : Launch) (n : Nat) : jr_F l (⟨"MeetingKit$Actor", "beatOfNextMove", "(I)I"⟩ : MethodName) cX0_beatOfNextMove 2 (Option.some Jvm.ClassFile.FieldType.int) 0 0 (fX0_beatOfNextMove n) := js_met (by decide +kernel) (by decide) (tX0_beatOfNextMove l n)
theorem dX2_init_0 : decode cX2_init 0 = .ok (.aload_n 0, 1) := by decide +kernel
theorem dX2_init_1 : decode cX2_init 1 = .ok (.invokespecial 3, 3) := by decide +kernel
theorem dX2_init_4 : decode cX2_init 4 = .ok (.aload_n 0, 1) := by decide +kernel
theorem dX2_init_5 : decode cX2_init 5 = .ok (.bipush 16, 2) := by decide +kernel
theorem dX2_init_7 : decode cX2_init 7 = .ok (.anewarray 9, 3) := by decide +kernel
theorem dX2_init_10 : decode cX2_init 10 = .ok (.putfield 11, 3) := by decide +kernel
theorem dX2_init_13 : decode cX2_init 13 = .ok (.aload_n 0, 1) := by decide +kernel
theorem dX2_init_14 : decode cX2_init 14 = .ok (.sipush 300, 3) := by decide +kernel
theorem dX2_init_17 : decode cX2_init 17 = .ok (.newarray .int, 2) := by decide +kernel
theorem dX2_init_19 : decode cX2_init 19 = .ok (.putfield 17, 3) := by decide +kernel
theorem dX2_init_22 : decode cX2_init 22 = .ok (.aload_n 0, 1) := by decide +kernel
theorem dX2_init_23 : decode cX2_init 23 = .ok (.iload_n 1, 1) := by decide +kernel
theorem dX2_init_24 : decode cX2_init 24 = .ok (.putfield 21, 3) := by decide +kernel
theorem dX2_init_27 : decode cX2_init 27 = .ok (.aload_n 0, 1) := by decide +kernel
theorem dX2_init_28 : decode cX2_init 28 = .ok (.iload_n 2, 1) := by decide +kernel
theorem dX2_init_29 : decode cX2_init 29 = .ok (.putfield 25, 3) := by decide +kernel
theorem dX2_init_32 : decode cX2_init 32 = .ok (.return_, 1) := by decide +kernel
def kX2_init (n : Nat) : jK := jk_aload 0 <| jk_obj <| jk_aload 0 <| jk_int 16 <| jk_newarr 25 (.inr none) <| jk_puta [1, 2, 3, 4, 5, 6, 7, 8] 4 <| jk_aload 0 <| jk_int 300 <| jk_newarr 20 (.inl 0) <| jk_puta [1, 2, 3, 4, 5, 6, 7, 8] 6 <| jk_aload 0 <| jk_iload 1 <| jk_puti [1, 2, 3, 4, 5, 6, 7, 8] 0 <| jk_aload 0 <| jk_iload 2 <| jk_puti [1, 2, 3, 4, 5, 6, 7, 8] 1 <| jk_vret
set_option maxRecDepth 100000 in
set_option maxHeartbeats 4000000 in
theorem tX2_init (l : Launch) (n : Nat) : jr_D l cX2_init 3 "MeetingKit$Device" (Option.none : Option Jvm.ClassFile.FieldType) "<init>" 1 20 (kX2_init n) 0 := by
  unfold kX2_init
  refine js_aload_n dX2_init_0 ?_
  refine js_obj dX2_init_1 tw_176 tw_122 tw_123 (by decide) (by decide) ?_
  refine js_aload_n dX2_init_4 ?_
  refine js_bipush dX2_init_5 ?_
  refine js_anew dX2_init_7 rfl (by decide) tw_177 tw_178 ?_
  refine js_putaF dX2_init_10 jf_4_1_2_3_4_5_6_7_8 (Or.inr ⟨_, rfl⟩) tw_191 (Or.inl rfl) rfl rfl ?_
  refine js_aload_n dX2_init_13 ?_
  refine js_sipush dX2_init_14 ?_
  refine js_newi dX2_init_17 tw_156 ?_
  refine js_putaF dX2_init_19 jf_6_1_2_3_4_5_6_7_8 (Or.inr ⟨_, rfl⟩) tw_208 (Or.inl rfl) rfl rfl ?_
  refine js_aload_n dX2_init_22 ?_
  refine js_iload_n dX2_init_23 ?_
  refine js_putiF dX2_init_24 jf_0_1_2_3_4_5_6_7_8 rfl tw_180 (Or.inl rfl) rfl rfl ?_
  refine js_aload_n dX2_init_27 ?_
  refine js_iload_n dX2_init_28 ?_
  refine js_putiF dX2_init_29 jf_1_1_2_3_4_5_6_7_8 rfl tw_186 (Or.inl rfl) rfl rfl ?_
  exact js_vret dX2_init_32 rfl
def fX2_init (n : Nat) : jF := jm_run 3 3 (kX2_init n)
theorem sX2_init (l : Launch) (n : Nat) : jr_F l (⟨"MeetingKit$Device", "<init>", "(II)V"⟩ : MethodName) cX2_init 3 (Option.none : Option Jvm.ClassFile.FieldType) 1 20 (fX2_init n) := js_met (by decide +kernel) (by decide) (tX2_init l n)
theorem dX1_init_0 : decode cX1_init 0 = .ok (.aload_n 0, 1) := by decide +kernel
theorem dX1_init_1 : decode cX1_init 1 = .ok (.iconst 3, 1) := by decide +kernel
theorem dX1_init_2 : decode cX1_init 2 = .ok (.iload_n 1, 1) := by decide +kernel
theorem dX1_init_3 : decode cX1_init 3 = .ok (.invokespecial 3, 3) := by decide +kernel
theorem dX1_init_6 : decode cX1_init 6 = .ok (.aload_n 0, 1) := by decide +kernel
theorem dX1_init_7 : decode cX1_init 7 = .ok (.iload_n 2, 1) := by decide +kernel
theorem dX1_init_8 : decode cX1_init 8 = .ok (.putfield 9, 3) := by decide +kernel
theorem dX1_init_11 : decode cX1_init 11 = .ok (.return_, 1) := by decide +kernel
def kX1_init (n : Nat) : jK := jk_aload 0 <| jk_int 3 <| jk_iload 1 <| jk_icall (fX2_init n) 2 <| jk_aload 0 <| jk_iload 2 <| jk_puti [1] 8 <| jk_vret
set_option maxRecDepth 100000 in
set_option maxHeartbeats 4000000 in
theorem tX1_init (l : Launch) (n : Nat) : jr_D l cX1_init 3 "MeetingKit$Barrier" (Option.none : Option Jvm.ClassFile.FieldType) "<init>" 2 42 (kX1_init n) 0 := by
  unfold kX1_init
  refine js_aload_n dX1_init_0 ?_
  refine js_iconst dX1_init_1 ?_
  refine js_iload_n dX1_init_2 ?_
  refine js_calli (sX2_init l n) dX1_init_3 (by decide) (by decide) tw_236 tw_174 tw_104 tw_175 rfl (by decide +kernel) ?_
  refine js_aload_n dX1_init_6 ?_
  refine js_iload_n dX1_init_7 ?_
  refine js_putiF dX1_init_8 jf_8_1 rfl tw_237 (Or.inl rfl) rfl rfl ?_
  exact js_vret dX1_init_11 rfl
def fX1_init (n : Nat) : jF := jm_run 3 3 (kX1_init n)
theorem sX1_init (l : Launch) (n : Nat) : jr_F l (⟨"MeetingKit$Barrier", "<init>", "(II)V"⟩ : MethodName) cX1_init 3 (Option.none : Option Jvm.ClassFile.FieldType) 2 42 (fX1_init n) := js_met (by decide +kernel) (by decide) (tX1_init l n)
theorem dX2_stillWaiting_0 : decode cX2_stillWaiting 0 = .ok (.iload_n 1, 1) := by decide +kernel
theorem dX2_stillWaiting_1 : decode cX2_stillWaiting 1 = .ok (.ifCond .lt 20, 3) := by decide +kernel
theorem dX2_stillWaiting_4 : decode cX2_stillWaiting 4 = .ok (.iload_n 1, 1) := by decide +kernel
theorem dX2_stillWaiting_5 : decode cX2_stillWaiting 5 = .ok (.aload_n 0, 1) := by decide +kernel
theorem dX2_stillWaiting_6 : decode cX2_stillWaiting 6 = .ok (.getfield 42, 3) := by decide +kernel
theorem dX2_stillWaiting_9 : decode cX2_stillWaiting 9 = .ok (.if_icmp .ge 12, 3) := by decide +kernel
theorem dX2_stillWaiting_12 : decode cX2_stillWaiting 12 = .ok (.aload_n 0, 1) := by decide +kernel
theorem dX2_stillWaiting_13 : decode cX2_stillWaiting 13 = .ok (.getfield 11, 3) := by decide +kernel
theorem dX2_stillWaiting_16 : decode cX2_stillWaiting 16 = .ok (.iload_n 1, 1) := by decide +kernel
theorem dX2_stillWaiting_17 : decode cX2_stillWaiting 17 = .ok (.aaload, 1) := by decide +kernel
theorem dX2_stillWaiting_18 : decode cX2_stillWaiting 18 = .ok (.ifnonnull 5, 3) := by decide +kernel
theorem dX2_stillWaiting_21 : decode cX2_stillWaiting 21 = .ok (.aconst_null, 1) := by decide +kernel
theorem dX2_stillWaiting_22 : decode cX2_stillWaiting 22 = .ok (.areturn, 1) := by decide +kernel
theorem dX2_stillWaiting_23 : decode cX2_stillWaiting 23 = .ok (.aload_n 0, 1) := by decide +kernel
theorem dX2_stillWaiting_24 : decode cX2_stillWaiting 24 = .ok (.getfield 11, 3) := by decide +kernel
theorem dX2_stillWaiting_27 : decode cX2_stillWaiting 27 = .ok (.iload_n 1, 1) := by decide +kernel
theorem dX2_stillWaiting_28 : decode cX2_stillWaiting 28 = .ok (.aaload, 1) := by decide +kernel
theorem dX2_stillWaiting_29 : decode cX2_stillWaiting 29 = .ok (.getfield 39, 3) := by decide +kernel
theorem dX2_stillWaiting_32 : decode cX2_stillWaiting 32 = .ok (.iconst 1, 1) := by decide +kernel
theorem dX2_stillWaiting_33 : decode cX2_stillWaiting 33 = .ok (.if_icmp .ne 12, 3) := by decide +kernel
theorem dX2_stillWaiting_36 : decode cX2_stillWaiting 36 = .ok (.aload_n 0, 1) := by decide +kernel
theorem dX2_stillWaiting_37 : decode cX2_stillWaiting 37 = .ok (.getfield 11, 3) := by decide +kernel
theorem dX2_stillWaiting_40 : decode cX2_stillWaiting 40 = .ok (.iload_n 1, 1) := by decide +kernel
theorem dX2_stillWaiting_41 : decode cX2_stillWaiting 41 = .ok (.aaload, 1) := by decide +kernel
theorem dX2_stillWaiting_42 : decode cX2_stillWaiting 42 = .ok (.goto 4, 3) := by decide +kernel
theorem dX2_stillWaiting_45 : decode cX2_stillWaiting 45 = .ok (.aconst_null, 1) := by decide +kernel
theorem dX2_stillWaiting_46 : decode cX2_stillWaiting 46 = .ok (.areturn, 1) := by decide +kernel
def kX2_stillWaiting_0 (n : Nat) (K : Nat → jK) : jK := jk_iload 1 <| jk_iflt (K 21) <| jk_iload 1 <| jk_aload 0 <| jk_get [1, 2, 3, 4, 5, 6, 7, 8] 5 <| jk_icmpge (K 21) <| jk_aload 0 <| jk_get [1, 2, 3, 4, 5, 6, 7, 8] 4 <| jk_iload 1 <| jk_xald 25 <| jk_ifnonnull (jk_aload 0 <| jk_get [1, 2, 3, 4, 5, 6, 7, 8] 4 <| jk_iload 1 <| jk_xald 25 <| jk_get [9] 5 <| jk_int 1 <| jk_icmpne (jk_null <| K 46) <| jk_aload 0 <| jk_get [1, 2, 3, 4, 5, 6, 7, 8] 4 <| jk_iload 1 <| jk_xald 25 <| K 46) <| K 21
set_option maxRecDepth 100000 in
set_option maxHeartbeats 4000000 in
theorem tX2_stillWaiting_0 (l : Launch) (n : Nat) {K : Nat → jK} (hK : ∀ b, jr_D l cX2_stillWaiting 2 "MeetingKit$Device" (Option.some (Jvm.ClassFile.FieldType.object "MeetingKit$Step")) "stillWaiting" 0 0 (K b) b) : jr_D l cX2_stillWaiting 2 "MeetingKit$Device" (Option.some (Jvm.ClassFile.FieldType.object "MeetingKit$Step")) "stillWaiting" 0 0 (kX2_stillWaiting_0 n K) 0 := by
  unfold kX2_stillWaiting_0
  refine js_iload_n dX2_stillWaiting_0 ?_
  refine js_iflt (tgt := 21) dX2_stillWaiting_1 (by decide) ?_ ?_
  · exact hK 21
  · refine js_iload_n dX2_stillWaiting_4 ?_
    refine js_aload_n dX2_stillWaiting_5 ?_
    refine js_get dX2_stillWaiting_6 jf_5_1_2_3_4_5_6_7_8 tw_202 (Or.inl rfl) ?_
    refine js_icmpge (tgt := 21) dX2_stillWaiting_9 (by decide) ?_ ?_
    · exact hK 21
    · refine js_aload_n dX2_stillWaiting_12 ?_
      refine js_get dX2_stillWaiting_13 jf_4_1_2_3_4_5_6_7_8 tw_191 (Or.inl rfl) ?_
      refine js_iload_n dX2_stillWaiting_16 ?_
      refine js_aald (by decide) dX2_stillWaiting_17 ?_
      refine js_ifnonnull (tgt := 23) dX2_stillWaiting_18 (by decide) ?_ ?_
      · refine js_aload_n dX2_stillWaiting_23 ?_
        refine js_get dX2_stillWaiting_24 jf_4_1_2_3_4_5_6_7_8 tw_191 (Or.inl rfl) ?_
        refine js_iload_n dX2_stillWaiting_27 ?_
        refine js_aald (by decide) dX2_stillWaiting_28 ?_
        refine js_get dX2_stillWaiting_29 jf_5_9 tw_476 (Or.inl rfl) ?_
        refine js_iconst dX2_stillWaiting_32 ?_
        refine js_icmpne (tgt := 45) dX2_stillWaiting_33 (by decide) ?_ ?_
        · refine js_null dX2_stillWaiting_45 ?_
          exact hK 46
        · refine js_aload_n dX2_stillWaiting_36 ?_
          refine js_get dX2_stillWaiting_37 jf_4_1_2_3_4_5_6_7_8 tw_191 (Or.inl rfl) ?_
          refine js_iload_n dX2_stillWaiting_40 ?_
          refine js_aald (by decide) dX2_stillWaiting_41 ?_
          refine js_goto (tgt := 46) dX2_stillWaiting_42 (by decide) ?_
          exact hK 46
      · exact hK 21
def kX2_stillWaiting_21 (n : Nat) (K : Nat → jK) : jK := jk_kill 0 <| jk_kill 1 <| jk_null <| jk_aret
set_option maxRecDepth 100000 in
set_option maxHeartbeats 4000000 in
theorem tX2_stillWaiting_21 (l : Launch) (n : Nat) {K : Nat → jK} (hK : ∀ b, jr_D l cX2_stillWaiting 2 "MeetingKit$Device" (Option.some (Jvm.ClassFile.FieldType.object "MeetingKit$Step")) "stillWaiting" 0 0 (K b) b) : jr_D l cX2_stillWaiting 2 "MeetingKit$Device" (Option.some (Jvm.ClassFile.FieldType.object "MeetingKit$Step")) "stillWaiting" 0 0 (kX2_stillWaiting_21 n K) 21 := by
  unfold kX2_stillWaiting_21
  refine js_kill ?_
  refine js_kill ?_
  refine js_null dX2_stillWaiting_21 ?_
  exact js_aret dX2_stillWaiting_22 rfl
def kX2_stillWaiting_46 (n : Nat) (K : Nat → jK) : jK := jk_kill 0 <| jk_kill 1 <| jk_aret
set_option maxRecDepth 100000 in
set_option maxHeartbeats 4000000 in
theorem tX2_stillWaiting_46 (l : Launch) (n : Nat) {K : Nat → jK} (hK : ∀ b, jr_D l cX2_stillWaiting 2 "MeetingKit$Device" (Option.some (Jvm.ClassFile.FieldType.object "MeetingKit$Step")) "stillWaiting" 0 0 (K b) b) : jr_D l cX2_stillWaiting 2 "MeetingKit$Device" (Option.some (Jvm.ClassFile.FieldType.object "MeetingKit$Step")) "stillWaiting" 0 0 (kX2_stillWaiting_46 n K) 46 := by
  unfold kX2_stillWaiting_46
  refine js_kill ?_
  refine js_kill ?_
  exact js_aret dX2_stillWaiting_46 rfl
def kX2_stillWaiting_b (n : Nat) (K : Nat → jK) (b : Nat) : jK := if b = 0 then kX2_stillWaiting_0 n K else if b = 21 then kX2_stillWaiting_21 n K else if b = 46 then kX2_stillWaiting_46 n K else jk_none
def kX2_stillWaiting (n : Nat) : jK := jk_fix (kX2_stillWaiting_b n) n 0
theorem tX2_stillWaiting (l : Launch) (n : Nat) : jr_D l cX2_stillWaiting 2 "MeetingKit$Device" (Option.some (Jvm.ClassFile.FieldType.object "MeetingKit$Step")) "stillWaiting" 0 0 (kX2_stillWaiting n) 0 := js_fix (F := kX2_stillWaiting_b n) (fun K hK b => js_blk (tX2_stillWaiting_0 l n hK) (js_blk (tX2_stillWaiting_21 l n hK) (js_blk (tX2_stillWaiting_46 l n hK) (js_none)))) n 0
def fX2_stillWaiting (n : Nat) : jF := jm_run 2 2 (kX2_stillWaiting n)
theorem sX2_stillWaiting (l : Launch) (n : Nat) : jr_F l (⟨"MeetingKit$Device", "stillWaiting", "(I)LMeetingKit$Step;"⟩ : MethodName) cX2_stillWaiting 2 (Option.some (Jvm.ClassFile.FieldType.object "MeetingKit$Step")) 0 0 (fX2_stillWaiting n) := js_met (by decide +kernel) (by decide) (tX2_stillWaiting l n)
theorem dX2_endAll_0 : decode cX2_endAll 0 = .ok (.iconst 0, 1) := by decide +kernel
theorem dX2_endAll_1 : decode cX2_endAll 1 = .ok (.istore_n 2, 1) := by decide +kernel
theorem dX2_endAll_2 : decode cX2_endAll 2 = .ok (.iload_n 2, 1) := by decide +kernel
theorem dX2_endAll_3 : decode cX2_endAll 3 = .ok (.aload_n 0, 1) := by decide +kernel
theorem dX2_endAll_4 : decode cX2_endAll 4 = .ok (.getfield 42, 3) := by decide +kernel
theorem dX2_endAll_7 : decode cX2_endAll 7 = .ok (.if_icmp .ge 24, 3) := by decide +kernel
theorem dX2_endAll_10 : decode cX2_endAll 10 = .ok (.aload_n 0, 1) := by decide +kernel
theorem dX2_endAll_11 : decode cX2_endAll 11 = .ok (.iload_n 2, 1) := by decide +kernel
theorem dX2_endAll_12 : decode cX2_endAll 12 = .ok (.invokevirtual 79, 3) := by decide +kernel
theorem dX2_endAll_15 : decode cX2_endAll 15 = .ok (.astore_n 3, 1) := by decide +kernel
theorem dX2_endAll_16 : decode cX2_endAll 16 = .ok (.aload_n 3, 1) := by decide +kernel
theorem dX2_endAll_17 : decode cX2_endAll 17 = .ok (.ifnull 8, 3) := by decide +kernel
theorem dX2_endAll_20 : decode cX2_endAll 20 = .ok (.aload_n 3, 1) := by decide +kernel
theorem dX2_endAll_21 : decode cX2_endAll 21 = .ok (.iload_n 1, 1) := by decide +kernel
theorem dX2_endAll_22 : decode cX2_endAll 22 = .ok (.putfield 39, 3) := by decide +kernel
theorem dX2_endAll_25 : decode cX2_endAll 25 = .ok (.iinc 2 1, 3) := by decide +kernel
theorem dX2_endAll_28 : decode cX2_endAll 28 = .ok (.goto (-26), 3) := by decide +kernel
theorem dX2_endAll_31 : decode cX2_endAll 31 = .ok (.return_, 1) := by decide +kernel
def kX2_endAll_0 (n : Nat) (K : Nat → jK) : jK := jk_int 0 <| jk_istore 2 <| K 2
set_option maxRecDepth 100000 in
set_option maxHeartbeats 4000000 in
theorem tX2_endAll_0 (l : Launch) (n : Nat) {K : Nat → jK} (hK : ∀ b, jr_D l cX2_endAll 4 "MeetingKit$Device" (Option.none : Option Jvm.ClassFile.FieldType) "endAll" 1 21 (K b) b) : jr_D l cX2_endAll 4 "MeetingKit$Device" (Option.none : Option Jvm.ClassFile.FieldType) "endAll" 1 21 (kX2_endAll_0 n K) 0 := by
  unfold kX2_endAll_0
  refine js_iconst dX2_endAll_0 ?_
  refine js_istore_n dX2_endAll_1 (by decide) ?_
  exact hK 2
def kX2_endAll_2 (n : Nat) (K : Nat → jK) : jK := jk_kill 3 <| jk_iload 2 <| jk_aload 0 <| jk_get [1, 2, 3, 4, 5, 6, 7, 8] 5 <| jk_icmpge (jk_vret) <| jk_aload 0 <| jk_iload 2 <| jk_vcall [(1, fX2_stillWaiting n), (2, fX2_stillWaiting n), (3, fX2_stillWaiting n), (4, fX2_stillWaiting n), (5, fX2_stillWaiting n), (6, fX2_stillWaiting n), (7, fX2_stillWaiting n), (8, fX2_stillWaiting n)] 1 <| jk_astore 3 <| jk_aload 3 <| jk_ifnull (K 25) <| jk_aload 3 <| jk_iload 1 <| jk_puti [9] 5 <| K 25
set_option maxRecDepth 100000 in
set_option maxHeartbeats 4000000 in
theorem tX2_endAll_2 (l : Launch) (n : Nat) {K : Nat → jK} (hK : ∀ b, jr_D l cX2_endAll 4 "MeetingKit$Device" (Option.none : Option Jvm.ClassFile.FieldType) "endAll" 1 21 (K b) b) : jr_D l cX2_endAll 4 "MeetingKit$Device" (Option.none : Option Jvm.ClassFile.FieldType) "endAll" 1 21 (kX2_endAll_2 n K) 2 := by
  unfold kX2_endAll_2
  refine js_kill ?_
  refine js_iload_n dX2_endAll_2 ?_
  refine js_aload_n dX2_endAll_3 ?_
  refine js_get dX2_endAll_4 jf_5_1_2_3_4_5_6_7_8 tw_202 (Or.inl rfl) ?_
  refine js_icmpge (tgt := 31) dX2_endAll_7 (by decide) ?_ ?_
  · exact js_vret dX2_endAll_31 rfl
  · refine js_aload_n dX2_endAll_10 ?_
    refine js_iload_n dX2_endAll_11 ?_
    refine js_callv dX2_endAll_12 (⟨⟨_, _, _, _, _, _, _, ⟨rfl, (show (1 : Nat) < 20 by decide), sX2_stillWaiting l n, by decide, by decide, tw_584, tw_104, tw_574⟩, Or.inr ⟨⟨"MeetingKit$Device", "stillWaiting", "(I)LMeetingKit$Step;"⟩, "MeetingKit$Device", by decide +kernel, by decide +kernel, by decide +kernel, tw_573, tw_575, tw_576, Or.inl ⟨_, _, _, tw_574, tw_584⟩⟩⟩, ⟨⟨_, _, _, _, _, _, _, ⟨rfl, (show (2 : Nat) < 20 by decide), sX2_stillWaiting l n, by decide, by decide, tw_584, tw_104, tw_574⟩, Or.inr ⟨⟨"MeetingKit$Device", "stillWaiting", "(I)LMeetingKit$Step;"⟩, "MeetingKit$Device", by decide +kernel, by decide +kernel, by decide +kernel, tw_573, tw_575, tw_577, Or.inl ⟨_, _, _, tw_574, tw_584⟩⟩⟩, ⟨⟨_, _, _, _, _, _, _, ⟨rfl, (show (3 : Nat) < 20 by decide), sX2_stillWaiting l n, by decide, by decide, tw_584, tw_104, tw_574⟩, Or.inr ⟨⟨"MeetingKit$Device", "stillWaiting", "(I)LMeetingKit$Step;"⟩, "MeetingKit$Device", by decide +kernel, by decide +kernel, by decide +kernel, tw_573, tw_575, tw_578, Or.inl ⟨_, _, _, tw_574, tw_584⟩⟩⟩, ⟨⟨_, _, _, _, _, _, _, ⟨rfl, (show (4 : Nat) < 20 by decide), sX2_stillWaiting l n, by decide, by decide, tw_584, tw_104, tw_574⟩, Or.inr ⟨⟨"MeetingKit$Device", "stillWaiting", "(I)LMeetingKit$Step;"⟩, "MeetingKit$Device", by decide +kernel, by decide +kernel, by decide +kernel, tw_573, tw_575, tw_579, Or.inl ⟨_, _, _, tw_574, tw_584⟩⟩⟩, ⟨⟨_, _, _, _, _, _, _, ⟨rfl, (show (5 : Nat) < 20 by decide), sX2_stillWaiting l n, by decide, by decide, tw_584, tw_104, tw_574⟩, Or.inr ⟨⟨"MeetingKit$Device", "stillWaiting", "(I)LMeetingKit$Step;"⟩, "MeetingKit$Device", by decide +kernel, by decide +kernel, by decide +kernel, tw_573, tw_575, tw_580, Or.inl ⟨_, _, _, tw_574, tw_584⟩⟩⟩, ⟨⟨_, _, _, _, _, _, _, ⟨rfl, (show (6 : Nat) < 20 by decide), sX2_stillWaiting l n, by decide, by decide, tw_584, tw_104, tw_574⟩, Or.inr ⟨⟨"MeetingKit$Device", "stillWaiting", "(I)LMeetingKit$Step;"⟩, "MeetingKit$Device", by decide +kernel, by decide +kernel, by decide +kernel, tw_573, tw_575, tw_581, Or.inl ⟨_, _, _, tw_574, tw_584⟩⟩⟩, ⟨⟨_, _, _, _, _, _, _, ⟨rfl, (show (7 : Nat) < 20 by decide), sX2_stillWaiting l n, by decide, by decide, tw_584, tw_104, tw_574⟩, Or.inr ⟨⟨"MeetingKit$Device", "stillWaiting", "(I)LMeetingKit$Step;"⟩, "MeetingKit$Device", by decide +kernel, by decide +kernel, by decide +kernel, tw_573, tw_575, tw_582, Or.inl ⟨_, _, _, tw_574, tw_584⟩⟩⟩, ⟨⟨_, _, _, _, _, _, _, ⟨rfl, (show (8 : Nat) < 20 by decide), sX2_stillWaiting l n, by decide, by decide, tw_584, tw_104, tw_574⟩, Or.inr ⟨⟨"MeetingKit$Device", "stillWaiting", "(I)LMeetingKit$Step;"⟩, "MeetingKit$Device", by decide +kernel, by decide +kernel, by decide +kernel, tw_573, tw_575, tw_583, Or.inl ⟨_, _, _, tw_574, tw_584⟩⟩⟩, trivial⟩⟩⟩⟩⟩⟩⟩⟩) ?_
    refine js_astore_n dX2_endAll_15 (by decide) ?_
    refine js_aload_n dX2_endAll_16 ?_
    refine js_ifnull (tgt := 25) dX2_endAll_17 (by decide) ?_ ?_
    · exact hK 25
    · refine js_aload_n dX2_endAll_20 ?_
      refine js_iload_n dX2_endAll_21 ?_
      refine js_puti dX2_endAll_22 jf_5_9 rfl tw_476 (Or.inl rfl) ?_
      exact hK 25
def kX2_endAll_25 (n : Nat) (K : Nat → jK) : jK := jk_kill 3 <| jk_iinc 2 1 <| K 2
set_option maxRecDepth 100000 in
set_option maxHeartbeats 4000000 in
theorem tX2_endAll_25 (l : Launch) (n : Nat) {K : Nat → jK} (hK : ∀ b, jr_D l cX2_endAll 4 "MeetingKit$Device" (Option.none : Option Jvm.ClassFile.FieldType) "endAll" 1 21 (K b) b) : jr_D l cX2_endAll 4 "MeetingKit$Device" (Option.none : Option Jvm.ClassFile.FieldType) "endAll" 1 21 (kX2_endAll_25 n K) 25 := by
  unfold kX2_endAll_25
  refine js_kill ?_
  refine js_iinc dX2_endAll_25 (by decide) ?_
  refine js_goto (tgt := 2) dX2_endAll_28 (by decide) ?_
  exact hK 2
def kX2_endAll_b (n : Nat) (K : Nat → jK) (b : Nat) : jK := if b = 0 then kX2_endAll_0 n K else if b = 2 then kX2_endAll_2 n K else if b = 25 then kX2_endAll_25 n K else jk_none
def kX2_endAll (n : Nat) : jK := jk_fix (kX2_endAll_b n) n 0
theorem tX2_endAll (l : Launch) (n : Nat) : jr_D l cX2_endAll 4 "MeetingKit$Device" (Option.none : Option Jvm.ClassFile.FieldType) "endAll" 1 21 (kX2_endAll n) 0 := js_fix (F := kX2_endAll_b n) (fun K hK b => js_blk (tX2_endAll_0 l n hK) (js_blk (tX2_endAll_2 l n hK) (js_blk (tX2_endAll_25 l n hK) (js_none)))) n 0
def fX2_endAll (n : Nat) : jF := jm_run 2 4 (kX2_endAll n)
theorem sX2_endAll (l : Launch) (n : Nat) : jr_F l (⟨"MeetingKit$Device", "endAll", "(I)V"⟩ : MethodName) cX2_endAll 4 (Option.none : Option Jvm.ClassFile.FieldType) 1 21 (fX2_endAll n) := js_met (by decide +kernel) (by decide) (tX2_endAll l n)
theorem dX1_come_0 : decode cX1_come 0 = .ok (.aload_n 0, 1) := by decide +kernel
theorem dX1_come_1 : decode cX1_come 1 = .ok (.getfield 28, 3) := by decide +kernel
theorem dX1_come_4 : decode cX1_come 4 = .ok (.ifCond .eq 5, 3) := by decide +kernel
theorem dX1_come_7 : decode cX1_come 7 = .ok (.iconst 5, 1) := by decide +kernel
theorem dX1_come_8 : decode cX1_come 8 = .ok (.ireturn, 1) := by decide +kernel
theorem dX1_come_9 : decode cX1_come 9 = .ok (.aload_n 1, 1) := by decide +kernel
theorem dX1_come_10 : decode cX1_come 10 = .ok (.aload_n 0, 1) := by decide +kernel
theorem dX1_come_11 : decode cX1_come 11 = .ok (.getfield 35, 3) := by decide +kernel
theorem dX1_come_14 : decode cX1_come 14 = .ok (.putfield 32, 3) := by decide +kernel
theorem dX1_come_17 : decode cX1_come 17 = .ok (.aload_n 0, 1) := by decide +kernel
theorem dX1_come_18 : decode cX1_come 18 = .ok (.getfield 35, 3) := by decide +kernel
theorem dX1_come_21 : decode cX1_come 21 = .ok (.iconst 1, 1) := by decide +kernel
theorem dX1_come_22 : decode cX1_come 22 = .ok (.iadd, 1) := by decide +kernel
theorem dX1_come_23 : decode cX1_come 23 = .ok (.aload_n 0, 1) := by decide +kernel
theorem dX1_come_24 : decode cX1_come 24 = .ok (.getfield 9, 3) := by decide +kernel
theorem dX1_come_27 : decode cX1_come 27 = .ok (.if_icmp .ge 5, 3) := by decide +kernel
theorem dX1_come_30 : decode cX1_come 30 = .ok (.iconst 1, 1) := by decide +kernel
theorem dX1_come_31 : decode cX1_come 31 = .ok (.ireturn, 1) := by decide +kernel
theorem dX1_come_32 : decode cX1_come 32 = .ok (.aload_n 0, 1) := by decide +kernel
theorem dX1_come_33 : decode cX1_come 33 = .ok (.iconst 0, 1) := by decide +kernel
theorem dX1_come_34 : decode cX1_come 34 = .ok (.invokevirtual 24, 3) := by decide +kernel
theorem dX1_come_37 : decode cX1_come 37 = .ok (.iconst 0, 1) := by decide +kernel
theorem dX1_come_38 : decode cX1_come 38 = .ok (.ireturn, 1) := by decide +kernel
def kX1_come (n : Nat) : jK := jk_aload 0 <| jk_get [1] 9 <| jk_ifeq (jk_aload 1 <| jk_aload 0 <| jk_get [1] 5 <| jk_puti [9] 6 <| jk_aload 0 <| jk_get [1] 5 <| jk_int 1 <| jk_iadd <| jk_aload 0 <| jk_get [1] 8 <| jk_icmpge (jk_aload 0 <| jk_int 0 <| jk_vcall [(1, fX2_endAll n)] 1 <| jk_int 0 <| jk_iret) <| jk_int 1 <| jk_iret) <| jk_int 5 <| jk_iret
set_option maxRecDepth 100000 in
set_option maxHeartbeats 4000000 in
theorem tX1_come (l : Launch) (n : Nat) : jr_D l cX1_come 2 "MeetingKit$Barrier" (Option.some Jvm.ClassFile.FieldType.int) "come" 2 44 (kX1_come n) 0 := by
  unfold kX1_come
  refine js_aload_n dX1_come_0 ?_
  refine js_get dX1_come_1 jf_9_1 tw_238 (Or.inl rfl) ?_
  refine js_ifeq (tgt := 9) dX1_come_4 (by decide) ?_ ?_
  · refine js_aload_n dX1_come_9 ?_
    refine js_aload_n dX1_come_10 ?_
    refine js_get dX1_come_11 jf_5_1 tw_196 (Or.inr tw_197) ?_
    refine js_puti dX1_come_14 jf_6_9 rfl tw_480 (Or.inl rfl) ?_
    refine js_aload_n dX1_come_17 ?_
    refine js_get dX1_come_18 jf_5_1 tw_196 (Or.inr tw_197) ?_
    refine js_iconst dX1_come_21 ?_
    refine js_iadd dX1_come_22 ?_
    refine js_aload_n dX1_come_23 ?_
    refine js_get dX1_come_24 jf_8_1 tw_237 (Or.inl rfl) ?_
    refine js_icmpge (tgt := 32) dX1_come_27 (by decide) ?_ ?_
    · refine js_aload_n dX1_come_32 ?_
      refine js_iconst dX1_come_33 ?_
      refine js_callv dX1_come_34 (⟨⟨_, _, _, _, _, _, _, ⟨rfl, (show (1 : Nat) < 20 by decide), sX2_endAll l n, by decide, by decide, tw_572, tw_104, tw_571⟩, Or.inr ⟨⟨"MeetingKit$Barrier", "endAll", "(I)V"⟩, "MeetingKit$Device", by decide +kernel, by decide +kernel, by decide +kernel, tw_567, tw_568, tw_570, Or.inl ⟨_, _, _, tw_571, tw_572⟩⟩⟩, trivial⟩) ?_
      refine js_iconst dX1_come_37 ?_
      exact js_iret dX1_come_38 rfl
    · refine js_iconst dX1_come_30 ?_
      exact js_iret dX1_come_31 rfl
  · refine js_iconst dX1_come_7 ?_
    exact js_iret dX1_come_8 rfl
def fX1_come (n : Nat) : jF := jm_run 2 2 (kX1_come n)
theorem sX1_come (l : Launch) (n : Nat) : jr_F l (⟨"MeetingKit$Barrier", "come", "(LMeetingKit$Step;)I"⟩ : MethodName) cX1_come 2 (Option.some Jvm.ClassFile.FieldType.int) 2 44 (fX1_come n) := js_met (by decide +kernel) (by decide) (tX1_come l n)
theorem dX1_perform_0 : decode cX1_perform 0 = .ok (.aload_n 1, 1) := by decide +kernel
theorem dX1_perform_1 : decode cX1_perform 1 = .ok (.getfield 15, 3) := by decide +kernel
theorem dX1_perform_4 : decode cX1_perform 4 = .ok (.tableswitch 64 0 2 #[28, 34, 46], 28) := by decide +kernel
theorem dX1_perform_32 : decode cX1_perform 32 = .ok (.aload_n 0, 1) := by decide +kernel
theorem dX1_perform_33 : decode cX1_perform 33 = .ok (.aload_n 1, 1) := by decide +kernel
theorem dX1_perform_34 : decode cX1_perform 34 = .ok (.invokevirtual 20, 3) := by decide +kernel
theorem dX1_perform_37 : decode cX1_perform 37 = .ok (.ireturn, 1) := by decide +kernel
theorem dX1_perform_38 : decode cX1_perform 38 = .ok (.aload_n 0, 1) := by decide +kernel
theorem dX1_perform_39 : decode cX1_perform 39 = .ok (.iconst 5, 1) := by decide +kernel
theorem dX1_perform_40 : decode cX1_perform 40 = .ok (.invokevirtual 24, 3) := by decide +kernel
theorem dX1_perform_43 : decode cX1_perform 43 = .ok (.aload_n 0, 1) := by decide +kernel
theorem dX1_perform_44 : decode cX1_perform 44 = .ok (.iconst 0, 1) := by decide +kernel
theorem dX1_perform_45 : decode cX1_perform 45 = .ok (.putfield 28, 3) := by decide +kernel
theorem dX1_perform_48 : decode cX1_perform 48 = .ok (.iconst 0, 1) := by decide +kernel
theorem dX1_perform_49 : decode cX1_perform 49 = .ok (.ireturn, 1) := by decide +kernel
theorem dX1_perform_50 : decode cX1_perform 50 = .ok (.aload_n 1, 1) := by decide +kernel
theorem dX1_perform_51 : decode cX1_perform 51 = .ok (.aload_n 0, 1) := by decide +kernel
theorem dX1_perform_52 : decode cX1_perform 52 = .ok (.getfield 28, 3) := by decide +kernel
theorem dX1_perform_55 : decode cX1_perform 55 = .ok (.ifCond .eq 7, 3) := by decide +kernel
theorem dX1_perform_58 : decode cX1_perform 58 = .ok (.iconst 1, 1) := by decide +kernel
theorem dX1_perform_59 : decode cX1_perform 59 = .ok (.goto 4, 3) := by decide +kernel
theorem dX1_perform_62 : decode cX1_perform 62 = .ok (.iconst 0, 1) := by decide +kernel
theorem dX1_perform_63 : decode cX1_perform 63 = .ok (.putfield 32, 3) := by decide +kernel
theorem dX1_perform_66 : decode cX1_perform 66 = .ok (.iconst 0, 1) := by decide +kernel
theorem dX1_perform_67 : decode cX1_perform 67 = .ok (.ireturn, 1) := by decide +kernel
theorem dX1_perform_68 : decode cX1_perform 68 = .ok (.bipush 6, 2) := by decide +kernel
theorem dX1_perform_70 : decode cX1_perform 70 = .ok (.ireturn, 1) := by decide +kernel
def kX1_perform_0 (n : Nat) (K : Nat → jK) : jK := jk_aload 1 <| jk_get [9] 2 <| jk_sw [(0, (jk_aload 0 <| jk_aload 1 <| jk_vcall [(1, fX1_come n)] 1 <| jk_iret)), (1, (jk_aload 0 <| jk_int 5 <| jk_vcall [(1, fX2_endAll n)] 1 <| jk_aload 0 <| jk_int 0 <| jk_putz [1] 9 <| jk_int 0 <| jk_iret)), (2, (jk_aload 1 <| jk_aload 0 <| jk_get [1] 9 <| jk_ifeq (jk_int 0 <| K 63) <| jk_int 1 <| K 63))] (jk_int 6 <| jk_iret)
set_option maxRecDepth 100000 in
set_option maxHeartbeats 4000000 in
theorem tX1_perform_0 (l : Launch) (n : Nat) {K : Nat → jK} (hK : ∀ b, jr_D l cX1_perform 2 "MeetingKit$Barrier" (Option.some Jvm.ClassFile.FieldType.int) "perform" 3 65 (K b) b) : jr_D l cX1_perform 2 "MeetingKit$Barrier" (Option.some Jvm.ClassFile.FieldType.int) "perform" 3 65 (kX1_perform_0 n K) 0 := by
  unfold kX1_perform_0
  refine js_aload_n dX1_perform_0 ?_
  refine js_get dX1_perform_1 jf_2_9 tw_457 (Or.inl rfl) ?_
  refine js_tsw (td := 68) dX1_perform_4 rfl (by decide) ?_ ?_
  · refine js_bipush dX1_perform_68 ?_
    exact js_iret dX1_perform_70 rfl
  · refine ⟨rfl, ⟨32, by decide, ?_⟩, rfl, ⟨38, by decide, ?_⟩, rfl, ⟨50, by decide, ?_⟩, trivial⟩
    · refine js_aload_n dX1_perform_32 ?_
      refine js_aload_n dX1_perform_33 ?_
      refine js_callv dX1_perform_34 (⟨⟨_, _, _, _, _, _, _, ⟨rfl, (show (1 : Nat) < 20 by decide), sX1_come l n, by decide, by decide, tw_748, tw_106, tw_747⟩, Or.inl ⟨by decide +kernel, by decide +kernel, by decide +kernel, tw_745, tw_35⟩⟩, trivial⟩) ?_
      exact js_iret dX1_perform_37 rfl
    · refine js_aload_n dX1_perform_38 ?_
      refine js_iconst dX1_perform_39 ?_
      refine js_callv dX1_perform_40 (⟨⟨_, _, _, _, _, _, _, ⟨rfl, (show (1 : Nat) < 20 by decide), sX2_endAll l n, by decide, by decide, tw_572, tw_104, tw_571⟩, Or.inr ⟨⟨"MeetingKit$Barrier", "endAll", "(I)V"⟩, "MeetingKit$Device", by decide +kernel, by decide +kernel, by decide +kernel, tw_567, tw_568, tw_570, Or.inl ⟨_, _, _, tw_571, tw_572⟩⟩⟩, trivial⟩) ?_
      refine js_aload_n dX1_perform_43 ?_
      refine js_iconst dX1_perform_44 ?_
      refine js_putz dX1_perform_45 jf_9_1 rfl tw_238 (Or.inl rfl) ?_
      refine js_iconst dX1_perform_48 ?_
      exact js_iret dX1_perform_49 rfl
    · refine js_aload_n dX1_perform_50 ?_
      refine js_aload_n dX1_perform_51 ?_
      refine js_get dX1_perform_52 jf_9_1 tw_238 (Or.inl rfl) ?_
      refine js_ifeq (tgt := 62) dX1_perform_55 (by decide) ?_ ?_
      · refine js_iconst dX1_perform_62 ?_
        exact hK 63
      · refine js_iconst dX1_perform_58 ?_
        refine js_goto (tgt := 63) dX1_perform_59 (by decide) ?_
        exact hK 63
def kX1_perform_63 (n : Nat) (K : Nat → jK) : jK := jk_kill 0 <| jk_kill 1 <| jk_puti [9] 6 <| jk_int 0 <| jk_iret
set_option maxRecDepth 100000 in
set_option maxHeartbeats 4000000 in
theorem tX1_perform_63 (l : Launch) (n : Nat) {K : Nat → jK} (hK : ∀ b, jr_D l cX1_perform 2 "MeetingKit$Barrier" (Option.some Jvm.ClassFile.FieldType.int) "perform" 3 65 (K b) b) : jr_D l cX1_perform 2 "MeetingKit$Barrier" (Option.some Jvm.ClassFile.FieldType.int) "perform" 3 65 (kX1_perform_63 n K) 63 := by
  unfold kX1_perform_63
  refine js_kill ?_
  refine js_kill ?_
  refine js_puti dX1_perform_63 jf_6_9 rfl tw_480 (Or.inl rfl) ?_
  refine js_iconst dX1_perform_66 ?_
  exact js_iret dX1_perform_67 rfl
def kX1_perform_b (n : Nat) (K : Nat → jK) (b : Nat) : jK := if b = 0 then kX1_perform_0 n K else if b = 63 then kX1_perform_63 n K else jk_none
def kX1_perform (n : Nat) : jK := jk_fix (kX1_perform_b n) n 0
theorem tX1_perform (l : Launch) (n : Nat) : jr_D l cX1_perform 2 "MeetingKit$Barrier" (Option.some Jvm.ClassFile.FieldType.int) "perform" 3 65 (kX1_perform n) 0 := js_fix (F := kX1_perform_b n) (fun K hK b => js_blk (tX1_perform_0 l n hK) (js_blk (tX1_perform_63 l n hK) (js_none))) n 0
def fX1_perform (n : Nat) : jF := jm_run 2 2 (kX1_perform n)
theorem sX1_perform (l : Launch) (n : Nat) : jr_F l (⟨"MeetingKit$Barrier", "perform", "(LMeetingKit$Step;)I"⟩ : MethodName) cX1_perform 2 (Option.some Jvm.ClassFile.FieldType.int) 3 65 (fX1_perform n) := js_met (by decide +kernel) (by decide) (tX1_perform l n)
theorem dX1_suffer_0 : decode cX1_suffer 0 = .ok (.aload_n 0, 1) := by decide +kernel
theorem dX1_suffer_1 : decode cX1_suffer 1 = .ok (.iconst 1, 1) := by decide +kernel
theorem dX1_suffer_2 : decode cX1_suffer 2 = .ok (.putfield 28, 3) := by decide +kernel
theorem dX1_suffer_5 : decode cX1_suffer 5 = .ok (.aload_n 0, 1) := by decide +kernel
theorem dX1_suffer_6 : decode cX1_suffer 6 = .ok (.iconst 5, 1) := by decide +kernel
theorem dX1_suffer_7 : decode cX1_suffer 7 = .ok (.invokevirtual 24, 3) := by decide +kernel
theorem dX1_suffer_10 : decode cX1_suffer 10 = .ok (.return_, 1) := by decide +kernel
def kX1_suffer (n : Nat) : jK := jk_aload 0 <| jk_int 1 <| jk_putz [1] 9 <| jk_aload 0 <| jk_int 5 <| jk_vcall [(1, fX2_endAll n)] 1 <| jk_vret
set_option maxRecDepth 100000 in
set_option maxHeartbeats 4000000 in
theorem tX1_suffer (l : Launch) (n : Nat) : jr_D l cX1_suffer 1 "MeetingKit$Barrier" (Option.none : Option Jvm.ClassFile.FieldType) "suffer" 2 44 (kX1_suffer n) 0 := by
  unfold kX1_suffer
  refine js_aload_n dX1_suffer_0 ?_
  refine js_iconst dX1_suffer_1 ?_
  refine js_putz dX1_suffer_2 jf_9_1 rfl tw_238 (Or.inl rfl) ?_
  refine js_aload_n dX1_suffer_5 ?_
  refine js_iconst dX1_suffer_6 ?_
  refine js_callv dX1_suffer_7 (⟨⟨_, _, _, _, _, _, _, ⟨rfl, (show (1 : Nat) < 20 by decide), sX2_endAll l n, by decide, by decide, tw_572, tw_104, tw_571⟩, Or.inr ⟨⟨"MeetingKit$Barrier", "endAll", "(I)V"⟩, "MeetingKit$Device", by decide +kernel, by decide +kernel, by decide +kernel, tw_567, tw_568, tw_570, Or.inl ⟨_, _, _, tw_571, tw_572⟩⟩⟩, trivial⟩) ?_
  exact js_vret dX1_suffer_10 rfl
def fX1_suffer (n : Nat) : jF := jm_run 1 1 (kX1_suffer n)
theorem sX1_suffer (l : Launch) (n : Nat) : jr_F l (⟨"MeetingKit$Barrier", "suffer", "()V"⟩ : MethodName) cX1_suffer 1 (Option.none : Option Jvm.ClassFile.FieldType) 2 44 (fX1_suffer n) := js_met (by decide +kernel) (by decide) (tX1_suffer l n)
theorem dX1_mainState_0 : decode cX1_mainState 0 = .ok (.aload_n 0, 1) := by decide +kernel
theorem dX1_mainState_1 : decode cX1_mainState 1 = .ok (.getfield 35, 3) := by decide +kernel
theorem dX1_mainState_4 : decode cX1_mainState 4 = .ok (.ireturn, 1) := by decide +kernel
def kX1_mainState (n : Nat) : jK := jk_aload 0 <| jk_get [1] 5 <| jk_iret
set_option maxRecDepth 100000 in
set_option maxHeartbeats 4000000 in
theorem tX1_mainState (l : Launch) (n : Nat) : jr_D l cX1_mainState 1 "MeetingKit$Barrier" (Option.some Jvm.ClassFile.FieldType.int) "mainState" 0 0 (kX1_mainState n) 0 := by
  unfold kX1_mainState
  refine js_aload_n dX1_mainState_0 ?_
  refine js_get dX1_mainState_1 jf_5_1 tw_196 (Or.inr tw_197) ?_
  exact js_iret dX1_mainState_4 rfl
def fX1_mainState (n : Nat) : jF := jm_run 1 1 (kX1_mainState n)
theorem sX1_mainState (l : Launch) (n : Nat) : jr_F l (⟨"MeetingKit$Barrier", "mainState", "()I"⟩ : MethodName) cX1_mainState 1 (Option.some Jvm.ClassFile.FieldType.int) 0 0 (fX1_mainState n) := js_met (by decide +kernel) (by decide) (tX1_mainState l n)
theorem dX1_sideState_0 : decode cX1_sideState 0 = .ok (.aload_n 0, 1) := by decide +kernel
theorem dX1_sideState_1 : decode cX1_sideState 1 = .ok (.getfield 28, 3) := by decide +kernel
theorem dX1_sideState_4 : decode cX1_sideState 4 = .ok (.ifCond .eq 7, 3) := by decide +kernel
theorem dX1_sideState_7 : decode cX1_sideState 7 = .ok (.iconst 1, 1) := by decide +kernel
theorem dX1_sideState_8 : decode cX1_sideState 8 = .ok (.goto 4, 3) := by decide +kernel
theorem dX1_sideState_11 : decode cX1_sideState 11 = .ok (.iconst 0, 1) := by decide +kernel
theorem dX1_sideState_12 : decode cX1_sideState 12 = .ok (.ireturn, 1) := by decide +kernel
def kX1_sideState_0 (n : Nat) (K : Nat → jK) : jK := jk_aload 0 <| jk_get [1] 9 <| jk_ifeq (jk_int 0 <| K 12) <| jk_int 1 <| K 12
set_option maxRecDepth 100000 in
set_option maxHeartbeats 4000000 in
theorem tX1_sideState_0 (l : Launch) (n : Nat) {K : Nat → jK} (hK : ∀ b, jr_D l cX1_sideState 1 "MeetingKit$Barrier" (Option.some Jvm.ClassFile.FieldType.int) "sideState" 0 0 (K b) b) : jr_D l cX1_sideState 1 "MeetingKit$Barrier" (Option.some Jvm.ClassFile.FieldType.int) "sideState" 0 0 (kX1_sideState_0 n K) 0 := by
  unfold kX1_sideState_0
  refine js_aload_n dX1_sideState_0 ?_
  refine js_get dX1_sideState_1 jf_9_1 tw_238 (Or.inl rfl) ?_
  refine js_ifeq (tgt := 11) dX1_sideState_4 (by decide) ?_ ?_
  · refine js_iconst dX1_sideState_11 ?_
    exact hK 12
  · refine js_iconst dX1_sideState_7 ?_
    refine js_goto (tgt := 12) dX1_sideState_8 (by decide) ?_
    exact hK 12
def kX1_sideState_12 (n : Nat) (K : Nat → jK) : jK := jk_kill 0 <| jk_iret
set_option maxRecDepth 100000 in
set_option maxHeartbeats 4000000 in
theorem tX1_sideState_12 (l : Launch) (n : Nat) {K : Nat → jK} (hK : ∀ b, jr_D l cX1_sideState 1 "MeetingKit$Barrier" (Option.some Jvm.ClassFile.FieldType.int) "sideState" 0 0 (K b) b) : jr_D l cX1_sideState 1 "MeetingKit$Barrier" (Option.some Jvm.ClassFile.FieldType.int) "sideState" 0 0 (kX1_sideState_12 n K) 12 := by
  unfold kX1_sideState_12
  refine js_kill ?_
  exact js_iret dX1_sideState_12 rfl
def kX1_sideState_b (n : Nat) (K : Nat → jK) (b : Nat) : jK := if b = 0 then kX1_sideState_0 n K else if b = 12 then kX1_sideState_12 n K else jk_none
def kX1_sideState (n : Nat) : jK := jk_fix (kX1_sideState_b n) n 0
theorem tX1_sideState (l : Launch) (n : Nat) : jr_D l cX1_sideState 1 "MeetingKit$Barrier" (Option.some Jvm.ClassFile.FieldType.int) "sideState" 0 0 (kX1_sideState n) 0 := js_fix (F := kX1_sideState_b n) (fun K hK b => js_blk (tX1_sideState_0 l n hK) (js_blk (tX1_sideState_12 l n hK) (js_none))) n 0
def fX1_sideState (n : Nat) : jF := jm_run 1 1 (kX1_sideState n)
theorem sX1_sideState (l : Launch) (n : Nat) : jr_F l (⟨"MeetingKit$Barrier", "sideState", "()I"⟩ : MethodName) cX1_sideState 1 (Option.some Jvm.ClassFile.FieldType.int) 0 0 (fX1_sideState n) := js_met (by decide +kernel) (by decide) (tX1_sideState l n)
theorem dX2_letOthersGo_0 : decode cX2_letOthersGo 0 = .ok (.return_, 1) := by decide +kernel
def kX2_letOthersGo (n : Nat) : jK := jk_vret
set_option maxRecDepth 100000 in
set_option maxHeartbeats 4000000 in
theorem tX2_letOthersGo (l : Launch) (n : Nat) : jr_D l cX2_letOthersGo 1 "MeetingKit$Device" (Option.none : Option Jvm.ClassFile.FieldType) "letOthersGo" 0 0 (kX2_letOthersGo n) 0 := by
  unfold kX2_letOthersGo
  exact js_vret dX2_letOthersGo_0 rfl
def fX2_letOthersGo (n : Nat) : jF := jm_run 1 1 (kX2_letOthersGo n)
theorem sX2_letOthersGo (l : Launch) (n : Nat) : jr_F l (⟨"MeetingKit$Device", "letOthersGo", "()V"⟩ : MethodName) cX2_letOthersGo 1 (Option.none : Option Jvm.ClassFile.FieldType) 0 0 (fX2_letOthersGo n) := js_met (by decide +kernel) (by decide) (tX2_letOthersGo l n)
theorem dX2_suffer_0 : decode cX2_suffer 0 = .ok (.return_, 1) := by decide +kernel
def kX2_suffer (n : Nat) : jK := jk_vret
set_option maxRecDepth 100000 in
set_option maxHeartbeats 4000000 in
theorem tX2_suffer (l : Launch) (n : Nat) : jr_D l cX2_suffer 1 "MeetingKit$Device" (Option.none : Option Jvm.ClassFile.FieldType) "suffer" 0 0 (kX2_suffer n) 0 := by
  unfold kX2_suffer
  exact js_vret dX2_suffer_0 rfl
def fX2_suffer (n : Nat) : jF := jm_run 1 1 (kX2_suffer n)
theorem sX2_suffer (l : Launch) (n : Nat) : jr_F l (⟨"MeetingKit$Device", "suffer", "()V"⟩ : MethodName) cX2_suffer 1 (Option.none : Option Jvm.ClassFile.FieldType) 0 0 (fX2_suffer n) := js_met (by decide +kernel) (by decide) (tX2_suffer l n)
theorem dX2_mainState_0 : decode cX2_mainState 0 = .ok (.iconst 0, 1) := by decide +kernel
theorem dX2_mainState_1 : decode cX2_mainState 1 = .ok (.ireturn, 1) := by decide +kernel
def kX2_mainState (n : Nat) : jK := jk_int 0 <| jk_iret
set_option maxRecDepth 100000 in
set_option maxHeartbeats 4000000 in
theorem tX2_mainState (l : Launch) (n : Nat) : jr_D l cX2_mainState 1 "MeetingKit$Device" (Option.some Jvm.ClassFile.FieldType.int) "mainState" 0 0 (kX2_mainState n) 0 := by
  unfold kX2_mainState
  refine js_iconst dX2_mainState_0 ?_
  exact js_iret dX2_mainState_1 rfl
def fX2_mainState (n : Nat) : jF := jm_run 1 1 (kX2_mainState n)
theorem sX2_mainState (l : Launch) (n : Nat) : jr_F l (⟨"MeetingKit$Device", "mainState", "()I"⟩ : MethodName) cX2_mainState 1 (Option.some Jvm.ClassFile.FieldType.int) 0 0 (fX2_mainState n) := js_met (by decide +kernel) (by decide) (tX2_mainState l n)
theorem dX2_sideState_0 : decode cX2_sideState 0 = .ok (.iconst 0, 1) := by decide +kernel
theorem dX2_sideState_1 : decode cX2_sideState 1 = .ok (.ireturn, 1) := by decide +kernel
def kX2_sideState (n : Nat) : jK := jk_int 0 <| jk_iret
set_option maxRecDepth 100000 in
set_option maxHeartbeats 4000000 in
theorem tX2_sideState (l : Launch) (n : Nat) : jr_D l cX2_sideState 1 "MeetingKit$Device" (Option.some Jvm.ClassFile.FieldType.int) "sideState" 0 0 (kX2_sideState n) 0 := by
  unfold kX2_sideState
  refine js_iconst dX2_sideState_0 ?_
  exact js_iret dX2_sideState_1 rfl
def fX2_sideState (n : Nat) : jF := jm_run 1 1 (kX2_sideState n)
theorem sX2_sideState (l : Launch) (n : Nat) : jr_F l (⟨"MeetingKit$Device", "sideState", "()I"⟩ : MethodName) cX2_sideState 1 (Option.some Jvm.ClassFile.FieldType.int) 0 0 (fX2_sideState n) := js_met (by decide +kernel) (by decide) (tX2_sideState l n)
theorem dX2_waiter_0 : decode cX2_waiter 0 = .ok (.iload_n 1, 1) := by decide +kernel
theorem dX2_waiter_1 : decode cX2_waiter 1 = .ok (.ifCond .lt 20, 3) := by decide +kernel
theorem dX2_waiter_4 : decode cX2_waiter 4 = .ok (.iload_n 1, 1) := by decide +kernel
theorem dX2_waiter_5 : decode cX2_waiter 5 = .ok (.aload_n 0, 1) := by decide +kernel
theorem dX2_waiter_6 : decode cX2_waiter 6 = .ok (.getfield 42, 3) := by decide +kernel
theorem dX2_waiter_9 : decode cX2_waiter 9 = .ok (.if_icmp .ge 12, 3) := by decide +kernel
theorem dX2_waiter_12 : decode cX2_waiter 12 = .ok (.aload_n 0, 1) := by decide +kernel
theorem dX2_waiter_13 : decode cX2_waiter 13 = .ok (.getfield 11, 3) := by decide +kernel
theorem dX2_waiter_16 : decode cX2_waiter 16 = .ok (.iload_n 1, 1) := by decide +kernel
theorem dX2_waiter_17 : decode cX2_waiter 17 = .ok (.aaload, 1) := by decide +kernel
theorem dX2_waiter_18 : decode cX2_waiter 18 = .ok (.goto 4, 3) := by decide +kernel
theorem dX2_waiter_21 : decode cX2_waiter 21 = .ok (.aconst_null, 1) := by decide +kernel
theorem dX2_waiter_22 : decode cX2_waiter 22 = .ok (.areturn, 1) := by decide +kernel
def kX2_waiter_0 (n : Nat) (K : Nat → jK) : jK := jk_iload 1 <| jk_iflt (K 21) <| jk_iload 1 <| jk_aload 0 <| jk_get [1, 2, 3, 4, 5, 6, 7, 8] 5 <| jk_icmpge (K 21) <| jk_aload 0 <| jk_get [1, 2, 3, 4, 5, 6, 7, 8] 4 <| jk_iload 1 <| jk_xald 25 <| K 22
set_option maxRecDepth 100000 in
set_option maxHeartbeats 4000000 in
theorem tX2_waiter_0 (l : Launch) (n : Nat) {K : Nat → jK} (hK : ∀ b, jr_D l cX2_waiter 2 "MeetingKit$Device" (Option.some (Jvm.ClassFile.FieldType.object "MeetingKit$Step")) "waiter" 0 0 (K b) b) : jr_D l cX2_waiter 2 "MeetingKit$Device" (Option.some (Jvm.ClassFile.FieldType.object "MeetingKit$Step")) "waiter" 0 0 (kX2_waiter_0 n K) 0 := by
  unfold kX2_waiter_0
  refine js_iload_n dX2_waiter_0 ?_
  refine js_iflt (tgt := 21) dX2_waiter_1 (by decide) ?_ ?_
  · exact hK 21
  · refine js_iload_n dX2_waiter_4 ?_
    refine js_aload_n dX2_waiter_5 ?_
    refine js_get dX2_waiter_6 jf_5_1_2_3_4_5_6_7_8 tw_202 (Or.inl rfl) ?_
    refine js_icmpge (tgt := 21) dX2_waiter_9 (by decide) ?_ ?_
    · exact hK 21
    · refine js_aload_n dX2_waiter_12 ?_
      refine js_get dX2_waiter_13 jf_4_1_2_3_4_5_6_7_8 tw_191 (Or.inl rfl) ?_
      refine js_iload_n dX2_waiter_16 ?_
      refine js_aald (by decide) dX2_waiter_17 ?_
      refine js_goto (tgt := 22) dX2_waiter_18 (by decide) ?_
      exact hK 22
def kX2_waiter_21 (n : Nat) (K : Nat → jK) : jK := jk_kill 0 <| jk_kill 1 <| jk_null <| K 22
set_option maxRecDepth 100000 in
set_option maxHeartbeats 4000000 in
theorem tX2_waiter_21 (l : Launch) (n : Nat) {K : Nat → jK} (hK : ∀ b, jr_D l cX2_waiter 2 "MeetingKit$Device" (Option.some (Jvm.ClassFile.FieldType.object "MeetingKit$Step")) "waiter" 0 0 (K b) b) : jr_D l cX2_waiter 2 "MeetingKit$Device" (Option.some (Jvm.ClassFile.FieldType.object "MeetingKit$Step")) "waiter" 0 0 (kX2_waiter_21 n K) 21 := by
  unfold kX2_waiter_21
  refine js_kill ?_
  refine js_kill ?_
  refine js_null dX2_waiter_21 ?_
  exact hK 22
def kX2_waiter_22 (n : Nat) (K : Nat → jK) : jK := jk_kill 0 <| jk_kill 1 <| jk_aret
set_option maxRecDepth 100000 in
set_option maxHeartbeats 4000000 in
theorem tX2_waiter_22 (l : Launch) (n : Nat) {K : Nat → jK} (hK : ∀ b, jr_D l cX2_waiter 2 "MeetingKit$Device" (Option.some (Jvm.ClassFile.FieldType.object "MeetingKit$Step")) "waiter" 0 0 (K b) b) : jr_D l cX2_waiter 2 "MeetingKit$Device" (Option.some (Jvm.ClassFile.FieldType.object "MeetingKit$Step")) "waiter" 0 0 (kX2_waiter_22 n K) 22 := by
  unfold kX2_waiter_22
  refine js_kill ?_
  refine js_kill ?_
  exact js_aret dX2_waiter_22 rfl
def kX2_waiter_b (n : Nat) (K : Nat → jK) (b : Nat) : jK := if b = 0 then kX2_waiter_0 n K else if b = 21 then kX2_waiter_21 n K else if b = 22 then kX2_waiter_22 n K else jk_none
def kX2_waiter (n : Nat) : jK := jk_fix (kX2_waiter_b n) n 0
theorem tX2_waiter (l : Launch) (n : Nat) : jr_D l cX2_waiter 2 "MeetingKit$Device" (Option.some (Jvm.ClassFile.FieldType.object "MeetingKit$Step")) "waiter" 0 0 (kX2_waiter n) 0 := js_fix (F := kX2_waiter_b n) (fun K hK b => js_blk (tX2_waiter_0 l n hK) (js_blk (tX2_waiter_21 l n hK) (js_blk (tX2_waiter_22 l n hK) (js_none)))) n 0
def fX2_waiter (n : Nat) : jF := jm_run 2 2 (kX2_waiter n)
theorem sX2_waiter (l : Launch) (n : Nat) : jr_F l (⟨"MeetingKit$Device", "waiter", "(I)LMeetingKit$Step;"⟩ : MethodName) cX2_waiter 2 (Option.some (Jvm.ClassFile.FieldType.object "MeetingKit$Step")) 0 0 (fX2_waiter n) := js_met (by decide +kernel) (by decide) (tX2_waiter l n)
theorem dX10_passWith_0 : decode cX10_passWith 0 = .ok (.aload_n 0, 1) := by decide +kernel
theorem dX10_passWith_1 : decode cX10_passWith 1 = .ok (.iconst 0, 1) := by decide +kernel
theorem dX10_passWith_2 : decode cX10_passWith 2 = .ok (.putfield 9, 3) := by decide +kernel
theorem dX10_passWith_5 : decode cX10_passWith 5 = .ok (.aload_n 0, 1) := by decide +kernel
theorem dX10_passWith_6 : decode cX10_passWith 6 = .ok (.iload_n 1, 1) := by decide +kernel
theorem dX10_passWith_7 : decode cX10_passWith 7 = .ok (.putfield 32, 3) := by decide +kernel
theorem dX10_passWith_10 : decode cX10_passWith 10 = .ok (.return_, 1) := by decide +kernel
def kX10_passWith (n : Nat) : jK := jk_aload 0 <| jk_int 0 <| jk_puti [9] 5 <| jk_aload 0 <| jk_iload 1 <| jk_puti [9] 6 <| jk_vret
set_option maxRecDepth 100000 in
set_option maxHeartbeats 4000000 in
theorem tX10_passWith (l : Launch) (n : Nat) : jr_D l cX10_passWith 2 "MeetingKit$Step" (Option.none : Option Jvm.ClassFile.FieldType) "passWith" 0 0 (kX10_passWith n) 0 := by
  unfold kX10_passWith
  refine js_aload_n dX10_passWith_0 ?_
  refine js_iconst dX10_passWith_1 ?_
  refine js_puti dX10_passWith_2 jf_5_9 rfl tw_475 (Or.inl rfl) ?_
  refine js_aload_n dX10_passWith_5 ?_
  refine js_iload_n dX10_passWith_6 ?_
  refine js_puti dX10_passWith_7 jf_6_9 rfl tw_478 (Or.inl rfl) ?_
  exact js_vret dX10_passWith_10 rfl
def fX10_passWith (n : Nat) : jF := jm_run 2 2 (kX10_passWith n)
theorem sX10_passWith (l : Launch) (n : Nat) : jr_F l (⟨"MeetingKit$Step", "passWith", "(I)V"⟩ : MethodName) cX10_passWith 2 (Option.none : Option Jvm.ClassFile.FieldType) 0 0 (fX10_passWith n) := js_met (by decide +kernel) (by decide) (tX10_passWith l n)
theorem dX3_perform_0 : decode cX3_perform 0 = .ok (.aload_n 1, 1) := by decide +kernel
theorem dX3_perform_1 : decode cX3_perform 1 = .ok (.getfield 9, 3) := by decide +kernel
theorem dX3_perform_4 : decode cX3_perform 4 = .ok (.ifCond .eq 6, 3) := by decide +kernel
theorem dX3_perform_7 : decode cX3_perform 7 = .ok (.bipush 6, 2) := by decide +kernel
theorem dX3_perform_9 : decode cX3_perform 9 = .ok (.ireturn, 1) := by decide +kernel
theorem dX3_perform_10 : decode cX3_perform 10 = .ok (.aload_n 0, 1) := by decide +kernel
theorem dX3_perform_11 : decode cX3_perform 11 = .ok (.iconst 0, 1) := by decide +kernel
theorem dX3_perform_12 : decode cX3_perform 12 = .ok (.invokevirtual 15, 3) := by decide +kernel
theorem dX3_perform_15 : decode cX3_perform 15 = .ok (.astore_n 2, 1) := by decide +kernel
theorem dX3_perform_16 : decode cX3_perform 16 = .ok (.aload_n 2, 1) := by decide +kernel
theorem dX3_perform_17 : decode cX3_perform 17 = .ok (.ifnonnull 5, 3) := by decide +kernel
theorem dX3_perform_20 : decode cX3_perform 20 = .ok (.iconst 1, 1) := by decide +kernel
theorem dX3_perform_21 : decode cX3_perform 21 = .ok (.ireturn, 1) := by decide +kernel
theorem dX3_perform_22 : decode cX3_perform 22 = .ok (.aload_n 1, 1) := by decide +kernel
theorem dX3_perform_23 : decode cX3_perform 23 = .ok (.aload_n 2, 1) := by decide +kernel
theorem dX3_perform_24 : decode cX3_perform 24 = .ok (.getfield 21, 3) := by decide +kernel
theorem dX3_perform_27 : decode cX3_perform 27 = .ok (.putfield 24, 3) := by decide +kernel
theorem dX3_perform_30 : decode cX3_perform 30 = .ok (.aload_n 2, 1) := by decide +kernel
theorem dX3_perform_31 : decode cX3_perform 31 = .ok (.aload_n 1, 1) := by decide +kernel
theorem dX3_perform_32 : decode cX3_perform 32 = .ok (.getfield 21, 3) := by decide +kernel
theorem dX3_perform_35 : decode cX3_perform 35 = .ok (.invokevirtual 27, 3) := by decide +kernel
theorem dX3_perform_38 : decode cX3_perform 38 = .ok (.iconst 0, 1) := by decide +kernel
theorem dX3_perform_39 : decode cX3_perform 39 = .ok (.ireturn, 1) := by decide +kernel
def kX3_perform (n : Nat) : jK := jk_aload 1 <| jk_get [9] 2 <| jk_ifeq (jk_aload 0 <| jk_int 0 <| jk_vcall [(2, fX2_waiter n)] 1 <| jk_astore 2 <| jk_aload 2 <| jk_ifnonnull (jk_aload 1 <| jk_aload 2 <| jk_get [9] 3 <| jk_puti [9] 6 <| jk_aload 2 <| jk_aload 1 <| jk_get [9] 3 <| jk_vcall [(9, fX10_passWith n)] 1 <| jk_int 0 <| jk_iret) <| jk_int 1 <| jk_iret) <| jk_int 6 <| jk_iret
set_option maxRecDepth 100000 in
set_option maxHeartbeats 4000000 in
theorem tX3_perform (l : Launch) (n : Nat) : jr_D l cX3_perform 3 "MeetingKit$Exchange" (Option.some Jvm.ClassFile.FieldType.int) "perform" 1 21 (kX3_perform n) 0 := by
  unfold kX3_perform
  refine js_aload_n dX3_perform_0 ?_
  refine js_get dX3_perform_1 jf_2_9 tw_458 (Or.inl rfl) ?_
  refine js_ifeq (tgt := 10) dX3_perform_4 (by decide) ?_ ?_
  · refine js_aload_n dX3_perform_10 ?_
    refine js_iconst dX3_perform_11 ?_
    refine js_callv dX3_perform_12 (⟨⟨_, _, _, _, _, _, _, ⟨rfl, (show (2 : Nat) < 20 by decide), sX2_waiter l n, by decide, by decide, tw_655, tw_104, tw_654⟩, Or.inr ⟨⟨"MeetingKit$Exchange", "waiter", "(I)LMeetingKit$Step;"⟩, "MeetingKit$Device", by decide +kernel, by decide +kernel, by decide +kernel, tw_752, tw_753, tw_754, Or.inl ⟨_, _, _, tw_654, tw_655⟩⟩⟩, trivial⟩) ?_
    refine js_astore_n dX3_perform_15 (by decide) ?_
    refine js_aload_n dX3_perform_16 ?_
    refine js_ifnonnull (tgt := 22) dX3_perform_17 (by decide) ?_ ?_
    · refine js_aload_n dX3_perform_22 ?_
      refine js_aload_n dX3_perform_23 ?_
      refine js_get dX3_perform_24 jf_3_9 tw_468 (Or.inl rfl) ?_
      refine js_puti dX3_perform_27 jf_6_9 rfl tw_479 (Or.inl rfl) ?_
      refine js_aload_n dX3_perform_30 ?_
      refine js_aload_n dX3_perform_31 ?_
      refine js_get dX3_perform_32 jf_3_9 tw_468 (Or.inl rfl) ?_
      refine js_callv dX3_perform_35 (⟨⟨_, _, _, _, _, _, _, ⟨rfl, (show (9 : Nat) < 20 by decide), sX10_passWith l n, by decide, by decide, tw_631, tw_115, tw_629⟩, Or.inl ⟨by decide +kernel, by decide +kernel, by decide +kernel, tw_755, tw_630⟩⟩, trivial⟩) ?_
      refine js_iconst dX3_perform_38 ?_
      exact js_iret dX3_perform_39 rfl
    · refine js_iconst dX3_perform_20 ?_
      exact js_iret dX3_perform_21 rfl
  · refine js_bipush dX3_perform_7 ?_
    exact js_iret dX3_perform_9 rfl
def fX3_perform (n : Nat) : jF := jm_run 2 3 (kX3_perform n)
theorem sX3_perform (l : Launch) (n : Nat) : jr_F l (⟨"MeetingKit$Exchange", "perform", "(LMeetingKit$Step;)I"⟩ : MethodName) cX3_perform 3 (Option.some Jvm.ClassFile.FieldType.int) 1 21 (fX3_perform n) := js_met (by decide +kernel) (by decide) (tX3_perform l n)
theorem dX2_firstWithAct_0 : decode cX2_firstWithAct 0 = .ok (.iconst 0, 1) := by decide +kernel
theorem dX2_firstWithAct_1 : decode cX2_firstWithAct 1 = .ok (.istore_n 2, 1) := by decide +kernel
theorem dX2_firstWithAct_2 : decode cX2_firstWithAct 2 = .ok (.iload_n 2, 1) := by decide +kernel
theorem dX2_firstWithAct_3 : decode cX2_firstWithAct 3 = .ok (.aload_n 0, 1) := by decide +kernel
theorem dX2_firstWithAct_4 : decode cX2_firstWithAct 4 = .ok (.getfield 42, 3) := by decide +kernel
theorem dX2_firstWithAct_7 : decode cX2_firstWithAct 7 = .ok (.if_icmp .ge 29, 3) := by decide +kernel
theorem dX2_firstWithAct_10 : decode cX2_firstWithAct 10 = .ok (.aload_n 0, 1) := by decide +kernel
theorem dX2_firstWithAct_11 : decode cX2_firstWithAct 11 = .ok (.iload_n 2, 1) := by decide +kernel
theorem dX2_firstWithAct_12 : decode cX2_firstWithAct 12 = .ok (.invokevirtual 79, 3) := by decide +kernel
theorem dX2_firstWithAct_15 : decode cX2_firstWithAct 15 = .ok (.astore_n 3, 1) := by decide +kernel
theorem dX2_firstWithAct_16 : decode cX2_firstWithAct 16 = .ok (.aload_n 3, 1) := by decide +kernel
theorem dX2_firstWithAct_17 : decode cX2_firstWithAct 17 = .ok (.ifnull 13, 3) := by decide +kernel
theorem dX2_firstWithAct_20 : decode cX2_firstWithAct 20 = .ok (.aload_n 3, 1) := by decide +kernel
theorem dX2_firstWithAct_21 : decode cX2_firstWithAct 21 = .ok (.getfield 83, 3) := by decide +kernel
theorem dX2_firstWithAct_24 : decode cX2_firstWithAct 24 = .ok (.iload_n 1, 1) := by decide +kernel
theorem dX2_firstWithAct_25 : decode cX2_firstWithAct 25 = .ok (.if_icmp .ne 5, 3) := by decide +kernel
theorem dX2_firstWithAct_28 : decode cX2_firstWithAct 28 = .ok (.aload_n 3, 1) := by decide +kernel
theorem dX2_firstWithAct_29 : decode cX2_firstWithAct 29 = .ok (.areturn, 1) := by decide +kernel
theorem dX2_firstWithAct_30 : decode cX2_firstWithAct 30 = .ok (.iinc 2 1, 3) := by decide +kernel
theorem dX2_firstWithAct_33 : decode cX2_firstWithAct 33 = .ok (.goto (-31), 3) := by decide +kernel
theorem dX2_firstWithAct_36 : decode cX2_firstWithAct 36 = .ok (.aconst_null, 1) := by decide +kernel
theorem dX2_firstWithAct_37 : decode cX2_firstWithAct 37 = .ok (.areturn, 1) := by decide +kernel
def kX2_firstWithAct_0 (n : Nat) (K : Nat → jK) : jK := jk_int 0 <| jk_istore 2 <| K 2
set_option maxRecDepth 100000 in
set_option maxHeartbeats 4000000 in
theorem tX2_firstWithAct_0 (l : Launch) (n : Nat) {K : Nat → jK} (hK : ∀ b, jr_D l cX2_firstWithAct 4 "MeetingKit$Device" (Option.some (Jvm.ClassFile.FieldType.object "MeetingKit$Step")) "firstWithAct" 1 21 (K b) b) : jr_D l cX2_firstWithAct 4 "MeetingKit$Device" (Option.some (Jvm.ClassFile.FieldType.object "MeetingKit$Step")) "firstWithAct" 1 21 (kX2_firstWithAct_0 n K) 0 := by
  unfold kX2_firstWithAct_0
  refine js_iconst dX2_firstWithAct_0 ?_
  refine js_istore_n dX2_firstWithAct_1 (by decide) ?_
  exact hK 2
def kX2_firstWithAct_2 (n : Nat) (K : Nat → jK) : jK := jk_kill 3 <| jk_iload 2 <| jk_aload 0 <| jk_get [1, 2, 3, 4, 5, 6, 7, 8] 5 <| jk_icmpge (jk_null <| jk_aret) <| jk_aload 0 <| jk_iload 2 <| jk_vcall [(1, fX2_stillWaiting n), (2, fX2_stillWaiting n), (3, fX2_stillWaiting n), (4, fX2_stillWaiting n), (5, fX2_stillWaiting n), (6, fX2_stillWaiting n), (7, fX2_stillWaiting n), (8, fX2_stillWaiting n)] 1 <| jk_astore 3 <| jk_aload 3 <| jk_ifnull (K 30) <| jk_aload 3 <| jk_get [9] 2 <| jk_iload 1 <| jk_icmpne (K 30) <| jk_aload 3 <| jk_aret
set_option maxRecDepth 100000 in
set_option maxHeartbeats 4000000 in
theorem tX2_firstWithAct_2 (l : Launch) (n : Nat) {K : Nat → jK} (hK : ∀ b, jr_D l cX2_firstWithAct 4 "MeetingKit$Device" (Option.some (Jvm.ClassFile.FieldType.object "MeetingKit$Step")) "firstWithAct" 1 21 (K b) b) : jr_D l cX2_firstWithAct 4 "MeetingKit$Device" (Option.some (Jvm.ClassFile.FieldType.object "MeetingKit$Step")) "firstWithAct" 1 21 (kX2_firstWithAct_2 n K) 2 := by
  unfold kX2_firstWithAct_2
  refine js_kill ?_
  refine js_iload_n dX2_firstWithAct_2 ?_
  refine js_aload_n dX2_firstWithAct_3 ?_
  refine js_get dX2_firstWithAct_4 jf_5_1_2_3_4_5_6_7_8 tw_202 (Or.inl rfl) ?_
  refine js_icmpge (tgt := 36) dX2_firstWithAct_7 (by decide) ?_ ?_
  · refine js_null dX2_firstWithAct_36 ?_
    exact js_aret dX2_firstWithAct_37 rfl
  · refine js_aload_n dX2_firstWithAct_10 ?_
    refine js_iload_n dX2_firstWithAct_11 ?_
    refine js_callv dX2_firstWithAct_12 (⟨⟨_, _, _, _, _, _, _, ⟨rfl, (show (1 : Nat) < 20 by decide), sX2_stillWaiting l n, by decide, by decide, tw_584, tw_104, tw_574⟩, Or.inr ⟨⟨"MeetingKit$Device", "stillWaiting", "(I)LMeetingKit$Step;"⟩, "MeetingKit$Device", by decide +kernel, by decide +kernel, by decide +kernel, tw_573, tw_575, tw_576, Or.inl ⟨_, _, _, tw_574, tw_584⟩⟩⟩, ⟨⟨_, _, _, _, _, _, _, ⟨rfl, (show (2 : Nat) < 20 by decide), sX2_stillWaiting l n, by decide, by decide, tw_584, tw_104, tw_574⟩, Or.inr ⟨⟨"MeetingKit$Device", "stillWaiting", "(I)LMeetingKit$Step;"⟩, "MeetingKit$Device", by decide +kernel, by decide +kernel, by decide +kernel, tw_573, tw_575, tw_577, Or.inl ⟨_, _, _, tw_574, tw_584⟩⟩⟩, ⟨⟨_, _, _, _, _, _, _, ⟨rfl, (show (3 : Nat) < 20 by decide), sX2_stillWaiting l n, by decide, by decide, tw_584, tw_104, tw_574⟩, Or.inr ⟨⟨"MeetingKit$Device", "stillWaiting", "(I)LMeetingKit$Step;"⟩, "MeetingKit$Device", by decide +kernel, by decide +kernel, by decide +kernel, tw_573, tw_575, tw_578, Or.inl ⟨_, _, _, tw_574, tw_584⟩⟩⟩, ⟨⟨_, _, _, _, _, _, _, ⟨rfl, (show (4 : Nat) < 20 by decide), sX2_stillWaiting l n, by decide, by decide, tw_584, tw_104, tw_574⟩, Or.inr ⟨⟨"MeetingKit$Device", "stillWaiting", "(I)LMeetingKit$Step;"⟩, "MeetingKit$Device", by decide +kernel, by decide +kernel, by decide +kernel, tw_573, tw_575, tw_579, Or.inl ⟨_, _, _, tw_574, tw_584⟩⟩⟩, ⟨⟨_, _, _, _, _, _, _, ⟨rfl, (show (5 : Nat) < 20 by decide), sX2_stillWaiting l n, by decide, by decide, tw_584, tw_104, tw_574⟩, Or.inr ⟨⟨"MeetingKit$Device", "stillWaiting", "(I)LMeetingKit$Step;"⟩, "MeetingKit$Device", by decide +kernel, by decide +kernel, by decide +kernel, tw_573, tw_575, tw_580, Or.inl ⟨_, _, _, tw_574, tw_584⟩⟩⟩, ⟨⟨_, _, _, _, _, _, _, ⟨rfl, (show (6 : Nat) < 20 by decide), sX2_stillWaiting l n, by decide, by decide, tw_584, tw_104, tw_574⟩, Or.inr ⟨⟨"MeetingKit$Device", "stillWaiting", "(I)LMeetingKit$Step;"⟩, "MeetingKit$Device", by decide +kernel, by decide +kernel, by decide +kernel, tw_573, tw_575, tw_581, Or.inl ⟨_, _, _, tw_574, tw_584⟩⟩⟩, ⟨⟨_, _, _, _, _, _, _, ⟨rfl, (show (7 : Nat) < 20 by decide), sX2_stillWaiting l n, by decide, by decide, tw_584, tw_104, tw_574⟩, Or.inr ⟨⟨"MeetingKit$Device", "stillWaiting", "(I)LMeetingKit$Step;"⟩, "MeetingKit$Device", by decide +kernel, by decide +kernel, by decide +kernel, tw_573, tw_575, tw_582, Or.inl ⟨_, _, _, tw_574, tw_584⟩⟩⟩, ⟨⟨_, _, _, _, _, _, _, ⟨rfl, (show (8 : Nat) < 20 by decide), sX2_stillWaiting l n, by decide, by decide, tw_584, tw_104, tw_574⟩, Or.inr ⟨⟨"MeetingKit$Device", "stillWaiting", "(I)LMeetingKit$Step;"⟩, "MeetingKit$Device", by decide +kernel, by decide +kernel, by decide +kernel, tw_573, tw_575, tw_583, Or.inl ⟨_, _, _, tw_574, tw_584⟩⟩⟩, trivial⟩⟩⟩⟩⟩⟩⟩⟩) ?_
    refine js_astore_n dX2_firstWithAct_15 (by decide) ?_
    refine js_aload_n dX2_firstWithAct_16 ?_
    refine js_ifnull (tgt := 30) dX2_firstWithAct_17 (by decide) ?_ ?_
    · exact hK 30
    · refine js_aload_n dX2_firstWithAct_20 ?_
      refine js_get dX2_firstWithAct_21 jf_2_9 tw_465 (Or.inl rfl) ?_
      refine js_iload_n dX2_firstWithAct_24 ?_
      refine js_icmpne (tgt := 30) dX2_firstWithAct_25 (by decide) ?_ ?_
      · exact hK 30
      · refine js_aload_n dX2_firstWithAct_28 ?_
        exact js_aret dX2_firstWithAct_29 rfl
def kX2_firstWithAct_30 (n : Nat) (K : Nat → jK) : jK := jk_kill 3 <| jk_iinc 2 1 <| K 2
set_option maxRecDepth 100000 in
set_option maxHeartbeats 4000000 in
theorem tX2_firstWithAct_30 (l : Launch) (n : Nat) {K : Nat → jK} (hK : ∀ b, jr_D l cX2_firstWithAct 4 "MeetingKit$Device" (Option.some (Jvm.ClassFile.FieldType.object "MeetingKit$Step")) "firstWithAct" 1 21 (K b) b) : jr_D l cX2_firstWithAct 4 "MeetingKit$Device" (Option.some (Jvm.ClassFile.FieldType.object "MeetingKit$Step")) "firstWithAct" 1 21 (kX2_firstWithAct_30 n K) 30 := by
  unfold kX2_firstWithAct_30
  refine js_kill ?_
  refine js_iinc dX2_firstWithAct_30 (by decide) ?_
  refine js_goto (tgt := 2) dX2_firstWithAct_33 (by decide) ?_
  exact hK 2
def kX2_firstWithAct_b (n : Nat) (K : Nat → jK) (b : Nat) : jK := if b = 0 then kX2_firstWithAct_0 n K else if b = 2 then kX2_firstWithAct_2 n K else if b = 30 then kX2_firstWithAct_30 n K else jk_none
def kX2_firstWithAct (n : Nat) : jK := jk_fix (kX2_firstWithAct_b n) n 0
theorem tX2_firstWithAct (l : Launch) (n : Nat) : jr_D l cX2_firstWithAct 4 "MeetingKit$Device" (Option.some (Jvm.ClassFile.FieldType.object "MeetingKit$Step")) "firstWithAct" 1 21 (kX2_firstWithAct n) 0 := js_fix (F := kX2_firstWithAct_b n) (fun K hK b => js_blk (tX2_firstWithAct_0 l n hK) (js_blk (tX2_firstWithAct_2 l n hK) (js_blk (tX2_firstWithAct_30 l n hK) (js_none)))) n 0
def fX2_firstWithAct (n : Nat) : jF := jm_run 2 4 (kX2_firstWithAct n)
theorem sX2_firstWithAct (l : Launch) (n : Nat) : jr_F l (⟨"MeetingKit$Device", "firstWithAct", "(I)LMeetingKit$Step;"⟩ : MethodName) cX2_firstWithAct 4 (Option.some (Jvm.ClassFile.FieldType.object "MeetingKit$Step")) 1 21 (fX2_firstWithAct n) := js_met (by decide +kernel) (by decide) (tX2_firstWithAct l n)
theorem dX4_lay_0 : decode cX4_lay 0 = .ok (.aload_n 0, 1) := by decide +kernel
theorem dX4_lay_1 : decode cX4_lay 1 = .ok (.getfield 52, 3) := by decide +kernel
theorem dX4_lay_4 : decode cX4_lay 4 = .ok (.aload_n 0, 1) := by decide +kernel
theorem dX4_lay_5 : decode cX4_lay 5 = .ok (.getfield 21, 3) := by decide +kernel
theorem dX4_lay_8 : decode cX4_lay 8 = .ok (.if_icmp .lt 5, 3) := by decide +kernel
theorem dX4_lay_11 : decode cX4_lay 11 = .ok (.iconst 0, 1) := by decide +kernel
theorem dX4_lay_12 : decode cX4_lay 12 = .ok (.ireturn, 1) := by decide +kernel
theorem dX4_lay_13 : decode cX4_lay 13 = .ok (.aload_n 0, 1) := by decide +kernel
theorem dX4_lay_14 : decode cX4_lay 14 = .ok (.getfield 9, 3) := by decide +kernel
theorem dX4_lay_17 : decode cX4_lay 17 = .ok (.aload_n 0, 1) := by decide +kernel
theorem dX4_lay_18 : decode cX4_lay 18 = .ok (.getfield 52, 3) := by decide +kernel
theorem dX4_lay_21 : decode cX4_lay 21 = .ok (.iload_n 1, 1) := by decide +kernel
theorem dX4_lay_22 : decode cX4_lay 22 = .ok (.iastore, 1) := by decide +kernel
theorem dX4_lay_23 : decode cX4_lay 23 = .ok (.aload_n 0, 1) := by decide +kernel
theorem dX4_lay_24 : decode cX4_lay 24 = .ok (.dup, 1) := by decide +kernel
theorem dX4_lay_25 : decode cX4_lay 25 = .ok (.getfield 52, 3) := by decide +kernel
theorem dX4_lay_28 : decode cX4_lay 28 = .ok (.iconst 1, 1) := by decide +kernel
theorem dX4_lay_29 : decode cX4_lay 29 = .ok (.iadd, 1) := by decide +kernel
theorem dX4_lay_30 : decode cX4_lay 30 = .ok (.putfield 52, 3) := by decide +kernel
theorem dX4_lay_33 : decode cX4_lay 33 = .ok (.iconst 1, 1) := by decide +kernel
theorem dX4_lay_34 : decode cX4_lay 34 = .ok (.ireturn, 1) := by decide +kernel
def kX4_lay (n : Nat) : jK := jk_aload 0 <| jk_get [3] 10 <| jk_aload 0 <| jk_get [3] 8 <| jk_icmplt (jk_aload 0 <| jk_get [3] 9 <| jk_aload 0 <| jk_get [3] 10 <| jk_iload 1 <| jk_iast <| jk_aload 0 <| jk_dup <| jk_get [3] 10 <| jk_int 1 <| jk_iadd <| jk_puti [3] 10 <| jk_int 1 <| jk_zret) <| jk_int 0 <| jk_zret
set_option maxRecDepth 100000 in
set_option maxHeartbeats 4000000 in
theorem tX4_lay (l : Launch) (n : Nat) : jr_D l cX4_lay 2 "MeetingKit$HandOver" (Option.some Jvm.ClassFile.FieldType.boolean) "lay" 0 0 (kX4_lay n) 0 := by
  unfold kX4_lay
  refine js_aload_n dX4_lay_0 ?_
  refine js_get dX4_lay_1 jf_10_3 tw_303 (Or.inl rfl) ?_
  refine js_aload_n dX4_lay_4 ?_
  refine js_get dX4_lay_5 jf_8_3 tw_301 (Or.inl rfl) ?_
  refine js_icmplt (tgt := 13) dX4_lay_8 (by decide) ?_ ?_
  · refine js_aload_n dX4_lay_13 ?_
    refine js_get dX4_lay_14 jf_9_3 tw_302 (Or.inl rfl) ?_
    refine js_aload_n dX4_lay_17 ?_
    refine js_get dX4_lay_18 jf_10_3 tw_303 (Or.inl rfl) ?_
    refine js_iload_n dX4_lay_21 ?_
    refine js_iast dX4_lay_22 ?_
    refine js_aload_n dX4_lay_23 ?_
    refine js_dup dX4_lay_24 ?_
    refine js_get dX4_lay_25 jf_10_3 tw_303 (Or.inl rfl) ?_
    refine js_iconst dX4_lay_28 ?_
    refine js_iadd dX4_lay_29 ?_
    refine js_puti dX4_lay_30 jf_10_3 rfl tw_303 (Or.inl rfl) ?_
    refine js_iconst dX4_lay_33 ?_
    exact js_zret dX4_lay_34 rfl
  · refine js_iconst dX4_lay_11 ?_
    exact js_zret dX4_lay_12 rfl
def fX4_lay (n : Nat) : jF := jm_run 2 2 (kX4_lay n)
theorem sX4_lay (l : Launch) (n : Nat) : jr_F l (⟨"MeetingKit$HandOver", "lay", "(I)Z"⟩ : MethodName) cX4_lay 2 (Option.some Jvm.ClassFile.FieldType.boolean) 0 0 (fX4_lay n) := js_met (by decide +kernel) (by decide) (tX4_lay l n)
theorem dX4_put_0 : decode cX4_put 0 = .ok (.aload_n 0, 1) := by decide +kernel
theorem dX4_put_1 : decode cX4_put 1 = .ok (.iconst 1, 1) := by decide +kernel
theorem dX4_put_2 : decode cX4_put 2 = .ok (.invokevirtual 37, 3) := by decide +kernel
theorem dX4_put_5 : decode cX4_put 5 = .ok (.astore_n 2, 1) := by decide +kernel
theorem dX4_put_6 : decode cX4_put 6 = .ok (.aload_n 2, 1) := by decide +kernel
theorem dX4_put_7 : decode cX4_put 7 = .ok (.ifnull 13, 3) := by decide +kernel
theorem dX4_put_10 : decode cX4_put 10 = .ok (.aload_n 2, 1) := by decide +kernel
theorem dX4_put_11 : decode cX4_put 11 = .ok (.aload_n 1, 1) := by decide +kernel
theorem dX4_put_12 : decode cX4_put 12 = .ok (.getfield 41, 3) := by decide +kernel
theorem dX4_put_15 : decode cX4_put 15 = .ok (.invokevirtual 44, 3) := by decide +kernel
theorem dX4_put_18 : decode cX4_put 18 = .ok (.iconst 0, 1) := by decide +kernel
theorem dX4_put_19 : decode cX4_put 19 = .ok (.ireturn, 1) := by decide +kernel
theorem dX4_put_20 : decode cX4_put 20 = .ok (.aload_n 0, 1) := by decide +kernel
theorem dX4_put_21 : decode cX4_put 21 = .ok (.aload_n 1, 1) := by decide +kernel
theorem dX4_put_22 : decode cX4_put 22 = .ok (.getfield 41, 3) := by decide +kernel
theorem dX4_put_25 : decode cX4_put 25 = .ok (.invokevirtual 48, 3) := by decide +kernel
theorem dX4_put_28 : decode cX4_put 28 = .ok (.ifCond .eq 7, 3) := by decide +kernel
theorem dX4_put_31 : decode cX4_put 31 = .ok (.iconst 0, 1) := by decide +kernel
theorem dX4_put_32 : decode cX4_put 32 = .ok (.goto 4, 3) := by decide +kernel
theorem dX4_put_35 : decode cX4_put 35 = .ok (.iconst 1, 1) := by decide +kernel
theorem dX4_put_36 : decode cX4_put 36 = .ok (.ireturn, 1) := by decide +kernel
def kX4_put_0 (n : Nat) (K : Nat → jK) : jK := jk_aload 0 <| jk_int 1 <| jk_vcall [(3, fX2_firstWithAct n)] 1 <| jk_astore 2 <| jk_aload 2 <| jk_ifnull (jk_aload 0 <| jk_aload 1 <| jk_get [9] 3 <| jk_vcall [(3, fX4_lay n)] 1 <| jk_ifeq (jk_int 1 <| K 36) <| jk_int 0 <| K 36) <| jk_aload 2 <| jk_aload 1 <| jk_get [9] 3 <| jk_vcall [(9, fX10_passWith n)] 1 <| jk_int 0 <| jk_iret
set_option maxRecDepth 100000 in
set_option maxHeartbeats 4000000 in
theorem tX4_put_0 (l : Launch) (n : Nat) {K : Nat → jK} (hK : ∀ b, jr_D l cX4_put 3 "MeetingKit$HandOver" (Option.some Jvm.ClassFile.FieldType.int) "put" 2 44 (K b) b) : jr_D l cX4_put 3 "MeetingKit$HandOver" (Option.some Jvm.ClassFile.FieldType.int) "put" 2 44 (kX4_put_0 n K) 0 := by
  unfold kX4_put_0
  refine js_aload_n dX4_put_0 ?_
  refine js_iconst dX4_put_1 ?_
  refine js_callv dX4_put_2 (⟨⟨_, _, _, _, _, _, _, ⟨rfl, (show (3 : Nat) < 20 by decide), sX2_firstWithAct l n, by decide, by decide, tw_607, tw_104, tw_606⟩, Or.inr ⟨⟨"MeetingKit$HandOver", "firstWithAct", "(I)LMeetingKit$Step;"⟩, "MeetingKit$Device", by decide +kernel, by decide +kernel, by decide +kernel, tw_763, tw_764, tw_765, Or.inl ⟨_, _, _, tw_606, tw_607⟩⟩⟩, trivial⟩) ?_
  refine js_astore_n dX4_put_5 (by decide) ?_
  refine js_aload_n dX4_put_6 ?_
  refine js_ifnull (tgt := 20) dX4_put_7 (by decide) ?_ ?_
  · refine js_aload_n dX4_put_20 ?_
    refine js_aload_n dX4_put_21 ?_
    refine js_get dX4_put_22 jf_3_9 tw_470 (Or.inl rfl) ?_
    refine js_callv dX4_put_25 (⟨⟨_, _, _, _, _, _, _, ⟨rfl, (show (3 : Nat) < 20 by decide), sX4_lay l n, by decide, by decide, tw_770, tw_109, tw_769⟩, Or.inl ⟨by decide +kernel, by decide +kernel, by decide +kernel, tw_767, tw_37⟩⟩, trivial⟩) ?_
    refine js_ifeq (tgt := 35) dX4_put_28 (by decide) ?_ ?_
    · refine js_iconst dX4_put_35 ?_
      exact hK 36
    · refine js_iconst dX4_put_31 ?_
      refine js_goto (tgt := 36) dX4_put_32 (by decide) ?_
      exact hK 36
  · refine js_aload_n dX4_put_10 ?_
    refine js_aload_n dX4_put_11 ?_
    refine js_get dX4_put_12 jf_3_9 tw_470 (Or.inl rfl) ?_
    refine js_callv dX4_put_15 (⟨⟨_, _, _, _, _, _, _, ⟨rfl, (show (9 : Nat) < 20 by decide), sX10_passWith l n, by decide, by decide, tw_631, tw_115, tw_629⟩, Or.inl ⟨by decide +kernel, by decide +kernel, by decide +kernel, tw_766, tw_630⟩⟩, trivial⟩) ?_
    refine js_iconst dX4_put_18 ?_
    exact js_iret dX4_put_19 rfl
def kX4_put_36 (n : Nat) (K : Nat → jK) : jK := jk_kill 0 <| jk_kill 1 <| jk_kill 2 <| jk_iret
set_option maxRecDepth 100000 in
set_option maxHeartbeats 4000000 in
theorem tX4_put_36 (l : Launch) (n : Nat) {K : Nat → jK} (hK : ∀ b, jr_D l cX4_put 3 "MeetingKit$HandOver" (Option.some Jvm.ClassFile.FieldType.int) "put" 2 44 (K b) b) : jr_D l cX4_put 3 "MeetingKit$HandOver" (Option.some Jvm.ClassFile.FieldType.int) "put" 2 44 (kX4_put_36 n K) 36 := by
  unfold kX4_put_36
  refine js_kill ?_
  refine js_kill ?_
  refine js_kill ?_
  exact js_iret dX4_put_36 rfl
def kX4_put_b (n : Nat) (K : Nat → jK) (b : Nat) : jK := if b = 0 then kX4_put_0 n K else if b = 36 then kX4_put_36 n K else jk_none
def kX4_put (n : Nat) : jK := jk_fix (kX4_put_b n) n 0
theorem tX4_put (l : Launch) (n : Nat) : jr_D l cX4_put 3 "MeetingKit$HandOver" (Option.some Jvm.ClassFile.FieldType.int) "put" 2 44 (kX4_put n) 0 := js_fix (F := kX4_put_b n) (fun K hK b => js_blk (tX4_put_0 l n hK) (js_blk (tX4_put_36 l n hK) (js_none))) n 0
def fX4_put (n : Nat) : jF := jm_run 2 3 (kX4_put n)
theorem sX4_put (l : Launch) (n : Nat) : jr_F l (⟨"MeetingKit$HandOver", "put", "(LMeetingKit$Step;)I"⟩ : MethodName) cX4_put 3 (Option.some Jvm.ClassFile.FieldType.int) 2 44 (fX4_put n) := js_met (by decide +kernel) (by decide) (tX4_put l n)
theorem dX4_pickUp_0 : decode cX4_pickUp 0 = .ok (.aload_n 0, 1) := by decide +kernel
theorem dX4_pickUp_1 : decode cX4_pickUp 1 = .ok (.getfield 9, 3) := by decide +kernel
theorem dX4_pickUp_4 : decode cX4_pickUp 4 = .ok (.iconst 0, 1) := by decide +kernel
theorem dX4_pickUp_5 : decode cX4_pickUp 5 = .ok (.iaload, 1) := by decide +kernel
theorem dX4_pickUp_6 : decode cX4_pickUp 6 = .ok (.istore_n 1, 1) := by decide +kernel
theorem dX4_pickUp_7 : decode cX4_pickUp 7 = .ok (.iconst 1, 1) := by decide +kernel
theorem dX4_pickUp_8 : decode cX4_pickUp 8 = .ok (.istore_n 2, 1) := by decide +kernel
theorem dX4_pickUp_9 : decode cX4_pickUp 9 = .ok (.iload_n 2, 1) := by decide +kernel
theorem dX4_pickUp_10 : decode cX4_pickUp 10 = .ok (.aload_n 0, 1) := by decide +kernel
theorem dX4_pickUp_11 : decode cX4_pickUp 11 = .ok (.getfield 52, 3) := by decide +kernel
theorem dX4_pickUp_14 : decode cX4_pickUp 14 = .ok (.if_icmp .ge 23, 3) := by decide +kernel
theorem dX4_pickUp_17 : decode cX4_pickUp 17 = .ok (.aload_n 0, 1) := by decide +kernel
theorem dX4_pickUp_18 : decode cX4_pickUp 18 = .ok (.getfield 9, 3) := by decide +kernel
theorem dX4_pickUp_21 : decode cX4_pickUp 21 = .ok (.iload_n 2, 1) := by decide +kernel
theorem dX4_pickUp_22 : decode cX4_pickUp 22 = .ok (.iconst 1, 1) := by decide +kernel
theorem dX4_pickUp_23 : decode cX4_pickUp 23 = .ok (.isub, 1) := by decide +kernel
theorem dX4_pickUp_24 : decode cX4_pickUp 24 = .ok (.aload_n 0, 1) := by decide +kernel
theorem dX4_pickUp_25 : decode cX4_pickUp 25 = .ok (.getfield 9, 3) := by decide +kernel
theorem dX4_pickUp_28 : decode cX4_pickUp 28 = .ok (.iload_n 2, 1) := by decide +kernel
theorem dX4_pickUp_29 : decode cX4_pickUp 29 = .ok (.iaload, 1) := by decide +kernel
theorem dX4_pickUp_30 : decode cX4_pickUp 30 = .ok (.iastore, 1) := by decide +kernel
theorem dX4_pickUp_31 : decode cX4_pickUp 31 = .ok (.iinc 2 1, 3) := by decide +kernel
theorem dX4_pickUp_34 : decode cX4_pickUp 34 = .ok (.goto (-25), 3) := by decide +kernel
theorem dX4_pickUp_37 : decode cX4_pickUp 37 = .ok (.aload_n 0, 1) := by decide +kernel
theorem dX4_pickUp_38 : decode cX4_pickUp 38 = .ok (.dup, 1) := by decide +kernel
theorem dX4_pickUp_39 : decode cX4_pickUp 39 = .ok (.getfield 52, 3) := by decide +kernel
theorem dX4_pickUp_42 : decode cX4_pickUp 42 = .ok (.iconst 1, 1) := by decide +kernel
theorem dX4_pickUp_43 : decode cX4_pickUp 43 = .ok (.isub, 1) := by decide +kernel
theorem dX4_pickUp_44 : decode cX4_pickUp 44 = .ok (.putfield 52, 3) := by decide +kernel
theorem dX4_pickUp_47 : decode cX4_pickUp 47 = .ok (.iload_n 1, 1) := by decide +kernel
theorem dX4_pickUp_48 : decode cX4_pickUp 48 = .ok (.ireturn, 1) := by decide +kernel
def kX4_pickUp_0 (n : Nat) (K : Nat → jK) : jK := jk_aload 0 <| jk_get [3] 9 <| jk_int 0 <| jk_iald <| jk_istore 1 <| jk_int 1 <| jk_istore 2 <| K 9
set_option maxRecDepth 100000 in
set_option maxHeartbeats 4000000 in
theorem tX4_pickUp_0 (l : Launch) (n : Nat) {K : Nat → jK} (hK : ∀ b, jr_D l cX4_pickUp 3 "MeetingKit$HandOver" (Option.some Jvm.ClassFile.FieldType.int) "pickUp" 0 0 (K b) b) : jr_D l cX4_pickUp 3 "MeetingKit$HandOver" (Option.some Jvm.ClassFile.FieldType.int) "pickUp" 0 0 (kX4_pickUp_0 n K) 0 := by
  unfold kX4_pickUp_0
  refine js_aload_n dX4_pickUp_0 ?_
  refine js_get dX4_pickUp_1 jf_9_3 tw_302 (Or.inl rfl) ?_
  refine js_iconst dX4_pickUp_4 ?_
  refine js_iald dX4_pickUp_5 ?_
  refine js_istore_n dX4_pickUp_6 (by decide) ?_
  refine js_iconst dX4_pickUp_7 ?_
  refine js_istore_n dX4_pickUp_8 (by decide) ?_
  exact hK 9
def kX4_pickUp_9 (n : Nat) (K : Nat → jK) : jK := jk_iload 2 <| jk_aload 0 <| jk_get [3] 10 <| jk_icmpge (jk_aload 0 <| jk_dup <| jk_get [3] 10 <| jk_int 1 <| jk_isub <| jk_puti [3] 10 <| jk_iload 1 <| jk_iret) <| jk_aload 0 <| jk_get [3] 9 <| jk_iload 2 <| jk_int 1 <| jk_isub <| jk_aload 0 <| jk_get [3] 9 <| jk_iload 2 <| jk_iald <| jk_iast <| jk_iinc 2 1 <| K 9
set_option maxRecDepth 100000 in
set_option maxHeartbeats 4000000 in
theorem tX4_pickUp_9 (l : Launch) (n : Nat) {K : Nat → jK} (hK : ∀ b, jr_D l cX4_pickUp 3 "MeetingKit$HandOver" (Option.some Jvm.ClassFile.FieldType.int) "pickUp" 0 0 (K b) b) : jr_D l cX4_pickUp 3 "MeetingKit$HandOver" (Option.some Jvm.ClassFile.FieldType.int) "pickUp" 0 0 (kX4_pickUp_9 n K) 9 := by
  unfold kX4_pickUp_9
  refine js_iload_n dX4_pickUp_9 ?_
  refine js_aload_n dX4_pickUp_10 ?_
  refine js_get dX4_pickUp_11 jf_10_3 tw_303 (Or.inl rfl) ?_
  refine js_icmpge (tgt := 37) dX4_pickUp_14 (by decide) ?_ ?_
  · refine js_aload_n dX4_pickUp_37 ?_
    refine js_dup dX4_pickUp_38 ?_
    refine js_get dX4_pickUp_39 jf_10_3 tw_303 (Or.inl rfl) ?_
    refine js_iconst dX4_pickUp_42 ?_
    refine js_isub dX4_pickUp_43 ?_
    refine js_puti dX4_pickUp_44 jf_10_3 rfl tw_303 (Or.inl rfl) ?_
    refine js_iload_n dX4_pickUp_47 ?_
    exact js_iret dX4_pickUp_48 rfl
  · refine js_aload_n dX4_pickUp_17 ?_
    refine js_get dX4_pickUp_18 jf_9_3 tw_302 (Or.inl rfl) ?_
    refine js_iload_n dX4_pickUp_21 ?_
    refine js_iconst dX4_pickUp_22 ?_
    refine js_isub dX4_pickUp_23 ?_
    refine js_aload_n dX4_pickUp_24 ?_
    refine js_get dX4_pickUp_25 jf_9_3 tw_302 (Or.inl rfl) ?_
    refine js_iload_n dX4_pickUp_28 ?_
    refine js_iald dX4_pickUp_29 ?_
    refine js_iast dX4_pickUp_30 ?_
    refine js_iinc dX4_pickUp_31 (by decide) ?_
    refine js_goto (tgt := 9) dX4_pickUp_34 (by decide) ?_
    exact hK 9
def kX4_pickUp_b (n : Nat) (K : Nat → jK) (b : Nat) : jK := if b = 0 then kX4_pickUp_0 n K else if b = 9 then kX4_pickUp_9 n K else jk_none
def kX4_pickUp (n : Nat) : jK := jk_fix (kX4_pickUp_b n) n 0
theorem tX4_pickUp (l : Launch) (n : Nat) : jr_D l cX4_pickUp 3 "MeetingKit$HandOver" (Option.some Jvm.ClassFile.FieldType.int) "pickUp" 0 0 (kX4_pickUp n) 0 := js_fix (F := kX4_pickUp_b n) (fun K hK b => js_blk (tX4_pickUp_0 l n hK) (js_blk (tX4_pickUp_9 l n hK) (js_none))) n 0
def fX4_pickUp (n : Nat) : jF := jm_run 1 3 (kX4_pickUp n)
theorem sX4_pickUp (l : Launch) (n : Nat) : jr_F l (⟨"MeetingKit$HandOver", "pickUp", "()I"⟩ : MethodName) cX4_pickUp 3 (Option.some Jvm.ClassFile.FieldType.int) 0 0 (fX4_pickUp n) := js_met (by decide +kernel) (by decide) (tX4_pickUp l n)
theorem dX4_take_0 : decode cX4_take 0 = .ok (.aload_n 0, 1) := by decide +kernel
theorem dX4_take_1 : decode cX4_take 1 = .ok (.iconst 0, 1) := by decide +kernel
theorem dX4_take_2 : decode cX4_take 2 = .ok (.invokevirtual 37, 3) := by decide +kernel
theorem dX4_take_5 : decode cX4_take 5 = .ok (.astore_n 2, 1) := by decide +kernel
theorem dX4_take_6 : decode cX4_take 6 = .ok (.aload_n 0, 1) := by decide +kernel
theorem dX4_take_7 : decode cX4_take 7 = .ok (.getfield 52, 3) := by decide +kernel
theorem dX4_take_10 : decode cX4_take 10 = .ok (.ifCond .le 33, 3) := by decide +kernel
theorem dX4_take_13 : decode cX4_take 13 = .ok (.aload_n 1, 1) := by decide +kernel
theorem dX4_take_14 : decode cX4_take 14 = .ok (.aload_n 0, 1) := by decide +kernel
theorem dX4_take_15 : decode cX4_take 15 = .ok (.invokevirtual 55, 3) := by decide +kernel
theorem dX4_take_18 : decode cX4_take 18 = .ok (.putfield 59, 3) := by decide +kernel
theorem dX4_take_21 : decode cX4_take 21 = .ok (.aload_n 2, 1) := by decide +kernel
theorem dX4_take_22 : decode cX4_take 22 = .ok (.ifnull 19, 3) := by decide +kernel
theorem dX4_take_25 : decode cX4_take 25 = .ok (.aload_n 0, 1) := by decide +kernel
theorem dX4_take_26 : decode cX4_take 26 = .ok (.aload_n 2, 1) := by decide +kernel
theorem dX4_take_27 : decode cX4_take 27 = .ok (.getfield 41, 3) := by decide +kernel
theorem dX4_take_30 : decode cX4_take 30 = .ok (.invokevirtual 48, 3) := by decide +kernel
theorem dX4_take_33 : decode cX4_take 33 = .ok (.ifCond .eq 8, 3) := by decide +kernel
theorem dX4_take_36 : decode cX4_take 36 = .ok (.aload_n 2, 1) := by decide +kernel
theorem dX4_take_37 : decode cX4_take 37 = .ok (.iconst 0, 1) := by decide +kernel
theorem dX4_take_38 : decode cX4_take 38 = .ok (.invokevirtual 44, 3) := by decide +kernel
theorem dX4_take_41 : decode cX4_take 41 = .ok (.iconst 0, 1) := by decide +kernel
theorem dX4_take_42 : decode cX4_take 42 = .ok (.ireturn, 1) := by decide +kernel
theorem dX4_take_43 : decode cX4_take 43 = .ok (.aload_n 2, 1) := by decide +kernel
theorem dX4_take_44 : decode cX4_take 44 = .ok (.ifnonnull 5, 3) := by decide +kernel
theorem dX4_take_47 : decode cX4_take 47 = .ok (.iconst 1, 1) := by decide +kernel
theorem dX4_take_48 : decode cX4_take 48 = .ok (.ireturn, 1) := by decide +kernel
theorem dX4_take_49 : decode cX4_take 49 = .ok (.aload_n 1, 1) := by decide +kernel
theorem dX4_take_50 : decode cX4_take 50 = .ok (.aload_n 2, 1) := by decide +kernel
theorem dX4_take_51 : decode cX4_take 51 = .ok (.getfield 41, 3) := by decide +kernel
theorem dX4_take_54 : decode cX4_take 54 = .ok (.putfield 59, 3) := by decide +kernel
theorem dX4_take_57 : decode cX4_take 57 = .ok (.aload_n 2, 1) := by decide +kernel
theorem dX4_take_58 : decode cX4_take 58 = .ok (.iconst 0, 1) := by decide +kernel
theorem dX4_take_59 : decode cX4_take 59 = .ok (.invokevirtual 44, 3) := by decide +kernel
theorem dX4_take_62 : decode cX4_take 62 = .ok (.iconst 0, 1) := by decide +kernel
theorem dX4_take_63 : decode cX4_take 63 = .ok (.ireturn, 1) := by decide +kernel
def kX4_take_0 (n : Nat) (K : Nat → jK) : jK := jk_aload 0 <| jk_int 0 <| jk_vcall [(3, fX2_firstWithAct n)] 1 <| jk_astore 2 <| jk_aload 0 <| jk_get [3] 10 <| jk_ifle (jk_aload 2 <| jk_ifnonnull (jk_aload 1 <| jk_aload 2 <| jk_get [9] 3 <| jk_puti [9] 6 <| jk_aload 2 <| jk_int 0 <| jk_vcall [(9, fX10_passWith n)] 1 <| jk_int 0 <| jk_iret) <| jk_int 1 <| jk_iret) <| jk_aload 1 <| jk_aload 0 <| jk_vcall [(3, fX4_pickUp n)] 0 <| jk_puti [9] 6 <| jk_aload 2 <| jk_ifnull (K 41) <| jk_aload 0 <| jk_aload 2 <| jk_get [9] 3 <| jk_vcall [(3, fX4_lay n)] 1 <| jk_ifeq (K 41) <| jk_aload 2 <| jk_int 0 <| jk_vcall [(9, fX10_passWith n)] 1 <| K 41
set_option maxRecDepth 100000 in
set_option maxHeartbeats 4000000 in
theorem tX4_take_0 (l : Launch) (n : Nat) {K : Nat → jK} (hK : ∀ b, jr_D l cX4_take 3 "MeetingKit$HandOver" (Option.some Jvm.ClassFile.FieldType.int) "take" 2 44 (K b) b) : jr_D l cX4_take 3 "MeetingKit$HandOver" (Option.some Jvm.ClassFile.FieldType.int) "take" 2 44 (kX4_take_0 n K) 0 := by
  unfold kX4_take_0
  refine js_aload_n dX4_take_0 ?_
  refine js_iconst dX4_take_1 ?_
  refine js_callv dX4_take_2 (⟨⟨_, _, _, _, _, _, _, ⟨rfl, (show (3 : Nat) < 20 by decide), sX2_firstWithAct l n, by decide, by decide, tw_607, tw_104, tw_606⟩, Or.inr ⟨⟨"MeetingKit$HandOver", "firstWithAct", "(I)LMeetingKit$Step;"⟩, "MeetingKit$Device", by decide +kernel, by decide +kernel, by decide +kernel, tw_763, tw_764, tw_765, Or.inl ⟨_, _, _, tw_606, tw_607⟩⟩⟩, trivial⟩) ?_
  refine js_astore_n dX4_take_5 (by decide) ?_
  refine js_aload_n dX4_take_6 ?_
  refine js_get dX4_take_7 jf_10_3 tw_303 (Or.inl rfl) ?_
  refine js_ifle (tgt := 43) dX4_take_10 (by decide) ?_ ?_
  · refine js_aload_n dX4_take_43 ?_
    refine js_ifnonnull (tgt := 49) dX4_take_44 (by decide) ?_ ?_
    · refine js_aload_n dX4_take_49 ?_
      refine js_aload_n dX4_take_50 ?_
      refine js_get dX4_take_51 jf_3_9 tw_470 (Or.inl rfl) ?_
      refine js_puti dX4_take_54 jf_6_9 rfl tw_485 (Or.inl rfl) ?_
      refine js_aload_n dX4_take_57 ?_
      refine js_iconst dX4_take_58 ?_
      refine js_callv dX4_take_59 (⟨⟨_, _, _, _, _, _, _, ⟨rfl, (show (9 : Nat) < 20 by decide), sX10_passWith l n, by decide, by decide, tw_631, tw_115, tw_629⟩, Or.inl ⟨by decide +kernel, by decide +kernel, by decide +kernel, tw_766, tw_630⟩⟩, trivial⟩) ?_
      refine js_iconst dX4_take_62 ?_
      exact js_iret dX4_take_63 rfl
    · refine js_iconst dX4_take_47 ?_
      exact js_iret dX4_take_48 rfl
  · refine js_aload_n dX4_take_13 ?_
    refine js_aload_n dX4_take_14 ?_
    refine js_callv dX4_take_15 (⟨⟨_, _, _, _, _, _, _, ⟨rfl, (show (3 : Nat) < 20 by decide), sX4_pickUp l n, by decide, by decide, tw_778, tw_109, tw_777⟩, Or.inl ⟨by decide +kernel, by decide +kernel, by decide +kernel, tw_775, tw_39⟩⟩, trivial⟩) ?_
    refine js_puti dX4_take_18 jf_6_9 rfl tw_485 (Or.inl rfl) ?_
    refine js_aload_n dX4_take_21 ?_
    refine js_ifnull (tgt := 41) dX4_take_22 (by decide) ?_ ?_
    · exact hK 41
    · refine js_aload_n dX4_take_25 ?_
      refine js_aload_n dX4_take_26 ?_
      refine js_get dX4_take_27 jf_3_9 tw_470 (Or.inl rfl) ?_
      refine js_callv dX4_take_30 (⟨⟨_, _, _, _, _, _, _, ⟨rfl, (show (3 : Nat) < 20 by decide), sX4_lay l n, by decide, by decide, tw_770, tw_109, tw_769⟩, Or.inl ⟨by decide +kernel, by decide +kernel, by decide +kernel, tw_767, tw_37⟩⟩, trivial⟩) ?_
      refine js_ifeq (tgt := 41) dX4_take_33 (by decide) ?_ ?_
      · exact hK 41
      · refine js_aload_n dX4_take_36 ?_
        refine js_iconst dX4_take_37 ?_
        refine js_callv dX4_take_38 (⟨⟨_, _, _, _, _, _, _, ⟨rfl, (show (9 : Nat) < 20 by decide), sX10_passWith l n, by decide, by decide, tw_631, tw_115, tw_629⟩, Or.inl ⟨by decide +kernel, by decide +kernel, by decide +kernel, tw_766, tw_630⟩⟩, trivial⟩) ?_
        exact hK 41
def kX4_take_41 (n : Nat) (K : Nat → jK) : jK := jk_kill 0 <| jk_kill 1 <| jk_kill 2 <| jk_int 0 <| jk_iret
set_option maxRecDepth 100000 in
set_option maxHeartbeats 4000000 in
theorem tX4_take_41 (l : Launch) (n : Nat) {K : Nat → jK} (hK : ∀ b, jr_D l cX4_take 3 "MeetingKit$HandOver" (Option.some Jvm.ClassFile.FieldType.int) "take" 2 44 (K b) b) : jr_D l cX4_take 3 "MeetingKit$HandOver" (Option.some Jvm.ClassFile.FieldType.int) "take" 2 44 (kX4_take_41 n K) 41 := by
  unfold kX4_take_41
  refine js_kill ?_
  refine js_kill ?_
  refine js_kill ?_
  refine js_iconst dX4_take_41 ?_
  exact js_iret dX4_take_42 rfl
def kX4_take_b (n : Nat) (K : Nat → jK) (b : Nat) : jK := if b = 0 then kX4_take_0 n K else if b = 41 then kX4_take_41 n K else jk_none
def kX4_take (n : Nat) : jK := jk_fix (kX4_take_b n) n 0
theorem tX4_take (l : Launch) (n : Nat) : jr_D l cX4_take 3 "MeetingKit$HandOver" (Option.some Jvm.ClassFile.FieldType.int) "take" 2 44 (kX4_take n) 0 := js_fix (F := kX4_take_b n) (fun K hK b => js_blk (tX4_take_0 l n hK) (js_blk (tX4_take_41 l n hK) (js_none))) n 0
def fX4_take (n : Nat) : jF := jm_run 2 3 (kX4_take n)
theorem sX4_take (l : Launch) (n : Nat) : jr_F l (⟨"MeetingKit$HandOver", "take", "(LMeetingKit$Step;)I"⟩ : MethodName) cX4_take 3 (Option.some Jvm.ClassFile.FieldType.int) 2 44 (fX4_take n) := js_met (by decide +kernel) (by decide) (tX4_take l n)
theorem dX4_perform_0 : decode cX4_perform 0 = .ok (.aload_n 1, 1) := by decide +kernel
theorem dX4_perform_1 : decode cX4_perform 1 = .ok (.getfield 25, 3) := by decide +kernel
theorem dX4_perform_4 : decode cX4_perform 4 = .ok (.lookupswitch 40 #[(0, 28), (1, 34)], 28) := by decide +kernel
theorem dX4_perform_32 : decode cX4_perform 32 = .ok (.aload_n 0, 1) := by decide +kernel
theorem dX4_perform_33 : decode cX4_perform 33 = .ok (.aload_n 1, 1) := by decide +kernel
theorem dX4_perform_34 : decode cX4_perform 34 = .ok (.invokevirtual 30, 3) := by decide +kernel
theorem dX4_perform_37 : decode cX4_perform 37 = .ok (.ireturn, 1) := by decide +kernel
theorem dX4_perform_38 : decode cX4_perform 38 = .ok (.aload_n 0, 1) := by decide +kernel
theorem dX4_perform_39 : decode cX4_perform 39 = .ok (.aload_n 1, 1) := by decide +kernel
theorem dX4_perform_40 : decode cX4_perform 40 = .ok (.invokevirtual 34, 3) := by decide +kernel
theorem dX4_perform_43 : decode cX4_perform 43 = .ok (.ireturn, 1) := by decide +kernel
theorem dX4_perform_44 : decode cX4_perform 44 = .ok (.bipush 6, 2) := by decide +kernel
theorem dX4_perform_46 : decode cX4_perform 46 = .ok (.ireturn, 1) := by decide +kernel
def kX4_perform (n : Nat) : jK := jk_aload 1 <| jk_get [9] 2 <| jk_sw [(0, (jk_aload 0 <| jk_aload 1 <| jk_vcall [(3, fX4_put n)] 1 <| jk_iret)), (1, (jk_aload 0 <| jk_aload 1 <| jk_vcall [(3, fX4_take n)] 1 <| jk_iret))] (jk_int 6 <| jk_iret)
set_option maxRecDepth 100000 in
set_option maxHeartbeats 4000000 in
theorem tX4_perform (l : Launch) (n : Nat) : jr_D l cX4_perform 2 "MeetingKit$HandOver" (Option.some Jvm.ClassFile.FieldType.int) "perform" 3 66 (kX4_perform n) 0 := by
  unfold kX4_perform
  refine js_aload_n dX4_perform_0 ?_
  refine js_get dX4_perform_1 jf_2_9 tw_459 (Or.inl rfl) ?_
  refine js_lsw (td := 44) dX4_perform_4 (by decide) (by decide) ?_ ?_
  · refine js_bipush dX4_perform_44 ?_
    exact js_iret dX4_perform_46 rfl
  · refine ⟨rfl, ⟨32, by decide, ?_⟩, rfl, ⟨38, by decide, ?_⟩, trivial⟩
    · refine js_aload_n dX4_perform_32 ?_
      refine js_aload_n dX4_perform_33 ?_
      refine js_callv dX4_perform_34 (⟨⟨_, _, _, _, _, _, _, ⟨rfl, (show (3 : Nat) < 20 by decide), sX4_put l n, by decide, by decide, tw_762, tw_109, tw_761⟩, Or.inl ⟨by decide +kernel, by decide +kernel, by decide +kernel, tw_759, tw_36⟩⟩, trivial⟩) ?_
      exact js_iret dX4_perform_37 rfl
    · refine js_aload_n dX4_perform_38 ?_
      refine js_aload_n dX4_perform_39 ?_
      refine js_callv dX4_perform_40 (⟨⟨_, _, _, _, _, _, _, ⟨rfl, (show (3 : Nat) < 20 by decide), sX4_take l n, by decide, by decide, tw_774, tw_109, tw_773⟩, Or.inl ⟨by decide +kernel, by decide +kernel, by decide +kernel, tw_771, tw_38⟩⟩, trivial⟩) ?_
      exact js_iret dX4_perform_43 rfl
def fX4_perform (n : Nat) : jF := jm_run 2 2 (kX4_perform n)
theorem sX4_perform (l : Launch) (n : Nat) : jr_F l (⟨"MeetingKit$HandOver", "perform", "(LMeetingKit$Step;)I"⟩ : MethodName) cX4_perform 2 (Option.some Jvm.ClassFile.FieldType.int) 3 66 (fX4_perform n) := js_met (by decide +kernel) (by decide) (tX4_perform l n)
theorem dX5_isFreeFor_0 : decode cX5_isFreeFor 0 = .ok (.aload_n 0, 1) := by decide +kernel
theorem dX5_isFreeFor_1 : decode cX5_isFreeFor 1 = .ok (.getfield 15, 3) := by decide +kernel
theorem dX5_isFreeFor_4 : decode cX5_isFreeFor 4 = .ok (.iconst (-1), 1) := by decide +kernel
theorem dX5_isFreeFor_5 : decode cX5_isFreeFor 5 = .ok (.if_icmp .ne 21, 3) := by decide +kernel
theorem dX5_isFreeFor_8 : decode cX5_isFreeFor 8 = .ok (.aload_n 1, 1) := by decide +kernel
theorem dX5_isFreeFor_9 : decode cX5_isFreeFor 9 = .ok (.getfield 19, 3) := by decide +kernel
theorem dX5_isFreeFor_12 : decode cX5_isFreeFor 12 = .ok (.ifCond .eq 10, 3) := by decide +kernel
theorem dX5_isFreeFor_15 : decode cX5_isFreeFor 15 = .ok (.aload_n 0, 1) := by decide +kernel
theorem dX5_isFreeFor_16 : decode cX5_isFreeFor 16 = .ok (.getfield 58, 3) := by decide +kernel
theorem dX5_isFreeFor_19 : decode cX5_isFreeFor 19 = .ok (.ifCond .ne 7, 3) := by decide +kernel
theorem dX5_isFreeFor_22 : decode cX5_isFreeFor 22 = .ok (.iconst 1, 1) := by decide +kernel
theorem dX5_isFreeFor_23 : decode cX5_isFreeFor 23 = .ok (.goto 4, 3) := by decide +kernel
theorem dX5_isFreeFor_26 : decode cX5_isFreeFor 26 = .ok (.iconst 0, 1) := by decide +kernel
theorem dX5_isFreeFor_27 : decode cX5_isFreeFor 27 = .ok (.ireturn, 1) := by decide +kernel
def kX5_isFreeFor_0 (n : Nat) (K : Nat → jK) : jK := jk_aload 0 <| jk_get [4] 10 <| jk_int (-1) <| jk_icmpne (K 26) <| jk_aload 1 <| jk_get [9] 2 <| jk_ifeq (K 22) <| jk_aload 0 <| jk_get [4] 9 <| jk_ifne (K 26) <| K 22
set_option maxRecDepth 100000 in
set_option maxHeartbeats 4000000 in
theorem tX5_isFreeFor_0 (l : Launch) (n : Nat) {K : Nat → jK} (hK : ∀ b, jr_D l cX5_isFreeFor 2 "MeetingKit$Lock" (Option.some Jvm.ClassFile.FieldType.boolean) "isFreeFor" 0 0 (K b) b) : jr_D l cX5_isFreeFor 2 "MeetingKit$Lock" (Option.some Jvm.ClassFile.FieldType.boolean) "isFreeFor" 0 0 (kX5_isFreeFor_0 n K) 0 := by
  unfold kX5_isFreeFor_0
  refine js_aload_n dX5_isFreeFor_0 ?_
  refine js_get dX5_isFreeFor_1 jf_10_4 tw_275 (Or.inl rfl) ?_
  refine js_iconst dX5_isFreeFor_4 ?_
  refine js_icmpne (tgt := 26) dX5_isFreeFor_5 (by decide) ?_ ?_
  · exact hK 26
  · refine js_aload_n dX5_isFreeFor_8 ?_
    refine js_get dX5_isFreeFor_9 jf_2_9 tw_460 (Or.inl rfl) ?_
    refine js_ifeq (tgt := 22) dX5_isFreeFor_12 (by decide) ?_ ?_
    · exact hK 22
    · refine js_aload_n dX5_isFreeFor_15 ?_
      refine js_get dX5_isFreeFor_16 jf_9_4 tw_274 (Or.inl rfl) ?_
      refine js_ifne (tgt := 26) dX5_isFreeFor_19 (by decide) ?_ ?_
      · exact hK 26
      · exact hK 22
def kX5_isFreeFor_22 (n : Nat) (K : Nat → jK) : jK := jk_kill 0 <| jk_kill 1 <| jk_int 1 <| K 27
set_option maxRecDepth 100000 in
set_option maxHeartbeats 4000000 in
theorem tX5_isFreeFor_22 (l : Launch) (n : Nat) {K : Nat → jK} (hK : ∀ b, jr_D l cX5_isFreeFor 2 "MeetingKit$Lock" (Option.some Jvm.ClassFile.FieldType.boolean) "isFreeFor" 0 0 (K b) b) : jr_D l cX5_isFreeFor 2 "MeetingKit$Lock" (Option.some Jvm.ClassFile.FieldType.boolean) "isFreeFor" 0 0 (kX5_isFreeFor_22 n K) 22 := by
  unfold kX5_isFreeFor_22
  refine js_kill ?_
  refine js_kill ?_
  refine js_iconst dX5_isFreeFor_22 ?_
  refine js_goto (tgt := 27) dX5_isFreeFor_23 (by decide) ?_
  exact hK 27
def kX5_isFreeFor_26 (n : Nat) (K : Nat → jK) : jK := jk_kill 0 <| jk_kill 1 <| jk_int 0 <| K 27
set_option maxRecDepth 100000 in
set_option maxHeartbeats 4000000 in
theorem tX5_isFreeFor_26 (l : Launch) (n : Nat) {K : Nat → jK} (hK : ∀ b, jr_D l cX5_isFreeFor 2 "MeetingKit$Lock" (Option.some Jvm.ClassFile.FieldType.boolean) "isFreeFor" 0 0 (K b) b) : jr_D l cX5_isFreeFor 2 "MeetingKit$Lock" (Option.some Jvm.ClassFile.FieldType.boolean) "isFreeFor" 0 0 (kX5_isFreeFor_26 n K) 26 := by
  unfold kX5_isFreeFor_26
  refine js_kill ?_
  refine js_kill ?_
  refine js_iconst dX5_isFreeFor_26 ?_
  exact hK 27
def kX5_isFreeFor_27 (n : Nat) (K : Nat → jK) : jK := jk_kill 0 <| jk_kill 1 <| jk_zret
set_option maxRecDepth 100000 in
set_option maxHeartbeats 4000000 in
theorem tX5_isFreeFor_27 (l : Launch) (n : Nat) {K : Nat → jK} (hK : ∀ b, jr_D l cX5_isFreeFor 2 "MeetingKit$Lock" (Option.some Jvm.ClassFile.FieldType.boolean) "isFreeFor" 0 0 (K b) b) : jr_D l cX5_isFreeFor 2 "MeetingKit$Lock" (Option.some Jvm.ClassFile.FieldType.boolean) "isFreeFor" 0 0 (kX5_isFreeFor_27 n K) 27 := by
  unfold kX5_isFreeFor_27
  refine js_kill ?_
  refine js_kill ?_
  exact js_zret dX5_isFreeFor_27 rfl
def kX5_isFreeFor_b (n : Nat) (K : Nat → jK) (b : Nat) : jK := if b = 0 then kX5_isFreeFor_0 n K else if b = 22 then kX5_isFreeFor_22 n K else if b = 26 then kX5_isFreeFor_26 n K else if b = 27 then kX5_isFreeFor_27 n K else jk_none
def kX5_isFreeFor (n : Nat) : jK := jk_fix (kX5_isFreeFor_b n) n 0
theorem tX5_isFreeFor (l : Launch) (n : Nat) : jr_D l cX5_isFreeFor 2 "MeetingKit$Lock" (Option.some Jvm.ClassFile.FieldType.boolean) "isFreeFor" 0 0 (kX5_isFreeFor n) 0 := js_fix (F := kX5_isFreeFor_b n) (fun K hK b => js_blk (tX5_isFreeFor_0 l n hK) (js_blk (tX5_isFreeFor_22 l n hK) (js_blk (tX5_isFreeFor_26 l n hK) (js_blk (tX5_isFreeFor_27 l n hK) (js_none))))) n 0
def fX5_isFreeFor (n : Nat) : jF := jm_run 2 2 (kX5_isFreeFor n)
theorem sX5_isFreeFor (l : Launch) (n : Nat) : jr_F l (⟨"MeetingKit$Lock", "isFreeFor", "(LMeetingKit$Step;)Z"⟩ : MethodName) cX5_isFreeFor 2 (Option.some Jvm.ClassFile.FieldType.boolean) 0 0 (fX5_isFreeFor n) := js_met (by decide +kernel) (by decide) (tX5_isFreeFor l n)
theorem dX5_addLooker_0 : decode cX5_addLooker 0 = .ok (.aload_n 0, 1) := by decide +kernel
theorem dX5_addLooker_1 : decode cX5_addLooker 1 = .ok (.getfield 9, 3) := by decide +kernel
theorem dX5_addLooker_4 : decode cX5_addLooker 4 = .ok (.iload_n 1, 1) := by decide +kernel
theorem dX5_addLooker_5 : decode cX5_addLooker 5 = .ok (.iconst 1, 1) := by decide +kernel
theorem dX5_addLooker_6 : decode cX5_addLooker 6 = .ok (.bastore, 1) := by decide +kernel
theorem dX5_addLooker_7 : decode cX5_addLooker 7 = .ok (.aload_n 0, 1) := by decide +kernel
theorem dX5_addLooker_8 : decode cX5_addLooker 8 = .ok (.dup, 1) := by decide +kernel
theorem dX5_addLooker_9 : decode cX5_addLooker 9 = .ok (.getfield 58, 3) := by decide +kernel
theorem dX5_addLooker_12 : decode cX5_addLooker 12 = .ok (.iconst 1, 1) := by decide +kernel
theorem dX5_addLooker_13 : decode cX5_addLooker 13 = .ok (.iadd, 1) := by decide +kernel
theorem dX5_addLooker_14 : decode cX5_addLooker 14 = .ok (.putfield 58, 3) := by decide +kernel
theorem dX5_addLooker_17 : decode cX5_addLooker 17 = .ok (.return_, 1) := by decide +kernel
def kX5_addLooker (n : Nat) : jK := jk_aload 0 <| jk_get [4] 8 <| jk_iload 1 <| jk_int 1 <| jk_zast <| jk_aload 0 <| jk_dup <| jk_get [4] 9 <| jk_int 1 <| jk_iadd <| jk_puti [4] 9 <| jk_vret
set_option maxRecDepth 100000 in
set_option maxHeartbeats 4000000 in
theorem tX5_addLooker (l : Launch) (n : Nat) : jr_D l cX5_addLooker 2 "MeetingKit$Lock" (Option.none : Option Jvm.ClassFile.FieldType) "addLooker" 0 0 (kX5_addLooker n) 0 := by
  unfold kX5_addLooker
  refine js_aload_n dX5_addLooker_0 ?_
  refine js_get dX5_addLooker_1 jf_8_4 tw_273 (Or.inl rfl) ?_
  refine js_iload_n dX5_addLooker_4 ?_
  refine js_iconst dX5_addLooker_5 ?_
  refine js_zast dX5_addLooker_6 ?_
  refine js_aload_n dX5_addLooker_7 ?_
  refine js_dup dX5_addLooker_8 ?_
  refine js_get dX5_addLooker_9 jf_9_4 tw_274 (Or.inl rfl) ?_
  refine js_iconst dX5_addLooker_12 ?_
  refine js_iadd dX5_addLooker_13 ?_
  refine js_puti dX5_addLooker_14 jf_9_4 rfl tw_274 (Or.inl rfl) ?_
  exact js_vret dX5_addLooker_17 rfl
def fX5_addLooker (n : Nat) : jF := jm_run 2 2 (kX5_addLooker n)
theorem sX5_addLooker (l : Launch) (n : Nat) : jr_F l (⟨"MeetingKit$Lock", "addLooker", "(I)V"⟩ : MethodName) cX5_addLooker 2 (Option.none : Option Jvm.ClassFile.FieldType) 0 0 (fX5_addLooker n) := js_met (by decide +kernel) (by decide) (tX5_addLooker l n)
theorem dX5_las_0 : decode cX5_las 0 = .ok (.aload_n 1, 1) := by decide +kernel
theorem dX5_las_1 : decode cX5_las 1 = .ok (.getfield 19, 3) := by decide +kernel
theorem dX5_las_4 : decode cX5_las 4 = .ok (.ifCond .ne 17, 3) := by decide +kernel
theorem dX5_las_7 : decode cX5_las 7 = .ok (.aload_n 0, 1) := by decide +kernel
theorem dX5_las_8 : decode cX5_las 8 = .ok (.aload_n 1, 1) := by decide +kernel
theorem dX5_las_9 : decode cX5_las 9 = .ok (.getfield 28, 3) := by decide +kernel
theorem dX5_las_12 : decode cX5_las 12 = .ok (.getfield 32, 3) := by decide +kernel
theorem dX5_las_15 : decode cX5_las 15 = .ok (.invokevirtual 61, 3) := by decide +kernel
theorem dX5_las_18 : decode cX5_las 18 = .ok (.goto 14, 3) := by decide +kernel
theorem dX5_las_21 : decode cX5_las 21 = .ok (.aload_n 0, 1) := by decide +kernel
theorem dX5_las_22 : decode cX5_las 22 = .ok (.aload_n 1, 1) := by decide +kernel
theorem dX5_las_23 : decode cX5_las 23 = .ok (.getfield 28, 3) := by decide +kernel
theorem dX5_las_26 : decode cX5_las 26 = .ok (.getfield 32, 3) := by decide +kernel
theorem dX5_las_29 : decode cX5_las 29 = .ok (.putfield 15, 3) := by decide +kernel
theorem dX5_las_32 : decode cX5_las 32 = .ok (.return_, 1) := by decide +kernel
def kX5_las_0 (n : Nat) (K : Nat → jK) : jK := jk_aload 1 <| jk_get [9] 2 <| jk_ifne (jk_aload 0 <| jk_aload 1 <| jk_get [9] 0 <| jk_get [0] 0 <| jk_puti [4] 10 <| K 32) <| jk_aload 0 <| jk_aload 1 <| jk_get [9] 0 <| jk_get [0] 0 <| jk_vcall [(4, fX5_addLooker n)] 1 <| K 32
set_option maxRecDepth 100000 in
set_option maxHeartbeats 4000000 in
theorem tX5_las_0 (l : Launch) (n : Nat) {K : Nat → jK} (hK : ∀ b, jr_D l cX5_las 2 "MeetingKit$Lock" (Option.none : Option Jvm.ClassFile.FieldType) nm_A 1 21 (K b) b) : jr_D l cX5_las 2 "MeetingKit$Lock" (Option.none : Option Jvm.ClassFile.FieldType) nm_A 1 21 (kX5_las_0 n K) 0 := by
  unfold kX5_las_0
  refine js_aload_n dX5_las_0 ?_
  refine js_get dX5_las_1 jf_2_9 tw_460 (Or.inl rfl) ?_
  refine js_ifne (tgt := 21) dX5_las_4 (by decide) ?_ ?_
  · refine js_aload_n dX5_las_21 ?_
    refine js_aload_n dX5_las_22 ?_
    refine js_get dX5_las_23 jf_0_9 tw_450 (Or.inl rfl) ?_
    refine js_get dX5_las_26 jf_0_0 tw_397 (Or.inl rfl) ?_
    refine js_puti dX5_las_29 jf_10_4 rfl tw_275 (Or.inl rfl) ?_
    exact hK 32
  · refine js_aload_n dX5_las_7 ?_
    refine js_aload_n dX5_las_8 ?_
    refine js_get dX5_las_9 jf_0_9 tw_450 (Or.inl rfl) ?_
    refine js_get dX5_las_12 jf_0_0 tw_397 (Or.inl rfl) ?_
    refine js_callv dX5_las_15 (⟨⟨_, _, _, _, _, _, _, ⟨rfl, (show (4 : Nat) < 20 by decide), sX5_addLooker l n, by decide, by decide, tw_627, tw_108, tw_626⟩, Or.inl ⟨by decide +kernel, by decide +kernel, by decide +kernel, tw_624, tw_25⟩⟩, trivial⟩) ?_
    refine js_goto (tgt := 32) dX5_las_18 (by decide) ?_
    exact hK 32
def kX5_las_32 (n : Nat) (K : Nat → jK) : jK := jk_kill 0 <| jk_kill 1 <| jk_vret
set_option maxRecDepth 100000 in
set_option maxHeartbeats 4000000 in
theorem tX5_las_32 (l : Launch) (n : Nat) {K : Nat → jK} (hK : ∀ b, jr_D l cX5_las 2 "MeetingKit$Lock" (Option.none : Option Jvm.ClassFile.FieldType) nm_A 1 21 (K b) b) : jr_D l cX5_las 2 "MeetingKit$Lock" (Option.none : Option Jvm.ClassFile.FieldType) nm_A 1 21 (kX5_las_32 n K) 32 := by
  unfold kX5_las_32
  refine js_kill ?_
  refine js_kill ?_
  exact js_vret dX5_las_32 rfl
def kX5_las_b (n : Nat) (K : Nat → jK) (b : Nat) : jK := if b = 0 then kX5_las_0 n K else if b = 32 then kX5_las_32 n K else jk_none
def kX5_las (n : Nat) : jK := jk_fix (kX5_las_b n) n 0
theorem tX5_las (l : Launch) (n : Nat) : jr_D l cX5_las 2 "MeetingKit$Lock" (Option.none : Option Jvm.ClassFile.FieldType) nm_A 1 21 (kX5_las n) 0 := js_fix (F := kX5_las_b n) (fun K hK b => js_blk (tX5_las_0 l n hK) (js_blk (tX5_las_32 l n hK) (js_none))) n 0
def fX5_las (n : Nat) : jF := jm_run 2 2 (kX5_las n)
theorem sX5_las (l : Launch) (n : Nat) : jr_F l (⟨"MeetingKit$Lock", nm_A, "(LMeetingKit$Step;)V"⟩ : MethodName) cX5_las 2 (Option.none : Option Jvm.ClassFile.FieldType) 1 21 (fX5_las n) := js_met (by decide +kernel) (by decide) (tX5_las l n)
theorem dX5_enter_0 : decode cX5_enter 0 = .ok (.aload_n 1, 1) := by decide +kernel
theorem dX5_enter_1 : decode cX5_enter 1 = .ok (.getfield 28, 3) := by decide +kernel
theorem dX5_enter_4 : decode cX5_enter 4 = .ok (.getfield 32, 3) := by decide +kernel
theorem dX5_enter_7 : decode cX5_enter 7 = .ok (.istore_n 2, 1) := by decide +kernel
theorem dX5_enter_8 : decode cX5_enter 8 = .ok (.aload_n 0, 1) := by decide +kernel
theorem dX5_enter_9 : decode cX5_enter 9 = .ok (.getfield 9, 3) := by decide +kernel
theorem dX5_enter_12 : decode cX5_enter 12 = .ok (.iload_n 2, 1) := by decide +kernel
theorem dX5_enter_13 : decode cX5_enter 13 = .ok (.baload, 1) := by decide +kernel
theorem dX5_enter_14 : decode cX5_enter 14 = .ok (.ifCond .ne 11, 3) := by decide +kernel
theorem dX5_enter_17 : decode cX5_enter 17 = .ok (.aload_n 0, 1) := by decide +kernel
theorem dX5_enter_18 : decode cX5_enter 18 = .ok (.getfield 15, 3) := by decide +kernel
theorem dX5_enter_21 : decode cX5_enter 21 = .ok (.iload_n 2, 1) := by decide +kernel
theorem dX5_enter_22 : decode cX5_enter 22 = .ok (.if_icmp .ne 6, 3) := by decide +kernel
theorem dX5_enter_25 : decode cX5_enter 25 = .ok (.bipush 6, 2) := by decide +kernel
theorem dX5_enter_27 : decode cX5_enter 27 = .ok (.ireturn, 1) := by decide +kernel
theorem dX5_enter_28 : decode cX5_enter 28 = .ok (.aload_n 0, 1) := by decide +kernel
theorem dX5_enter_29 : decode cX5_enter 29 = .ok (.getfield 47, 3) := by decide +kernel
theorem dX5_enter_32 : decode cX5_enter 32 = .ok (.ifCond .gt 11, 3) := by decide +kernel
theorem dX5_enter_35 : decode cX5_enter 35 = .ok (.aload_n 0, 1) := by decide +kernel
theorem dX5_enter_36 : decode cX5_enter 36 = .ok (.aload_n 1, 1) := by decide +kernel
theorem dX5_enter_37 : decode cX5_enter 37 = .ok (.invokevirtual 50, 3) := by decide +kernel
theorem dX5_enter_40 : decode cX5_enter 40 = .ok (.ifCond .ne 5, 3) := by decide +kernel
theorem dX5_enter_43 : decode cX5_enter 43 = .ok (.iconst 1, 1) := by decide +kernel
theorem dX5_enter_44 : decode cX5_enter 44 = .ok (.ireturn, 1) := by decide +kernel
theorem dX5_enter_45 : decode cX5_enter 45 = .ok (.aload_n 0, 1) := by decide +kernel
theorem dX5_enter_46 : decode cX5_enter 46 = .ok (.aload_n 1, 1) := by decide +kernel
theorem dX5_enter_47 : decode cX5_enter 47 = .ok (.invokevirtual 54, 3) := by decide +kernel
theorem dX5_enter_50 : decode cX5_enter 50 = .ok (.iconst 0, 1) := by decide +kernel
theorem dX5_enter_51 : decode cX5_enter 51 = .ok (.ireturn, 1) := by decide +kernel
def kX5_enter_0 (n : Nat) (K : Nat → jK) : jK := jk_aload 1 <| jk_get [9] 0 <| jk_get [0] 0 <| jk_istore 2 <| jk_aload 0 <| jk_get [4] 8 <| jk_iload 2 <| jk_xald 21 <| jk_ifne (K 25) <| jk_aload 0 <| jk_get [4] 10 <| jk_iload 2 <| jk_icmpne (jk_aload 0 <| jk_get [4] 5 <| jk_ifgt (K 43) <| jk_aload 0 <| jk_aload 1 <| jk_vcall [(4, fX5_isFreeFor n)] 1 <| jk_ifne (jk_aload 0 <| jk_aload 1 <| jk_vcall [(4, fX5_las n)] 1 <| jk_int 0 <| jk_iret) <| K 43) <| K 25
set_option maxRecDepth 100000 in
set_option maxHeartbeats 4000000 in
theorem tX5_enter_0 (l : Launch) (n : Nat) {K : Nat → jK} (hK : ∀ b, jr_D l cX5_enter 3 "MeetingKit$Lock" (Option.some Jvm.ClassFile.FieldType.int) "enter" 2 42 (K b) b) : jr_D l cX5_enter 3 "MeetingKit$Lock" (Option.some Jvm.ClassFile.FieldType.int) "enter" 2 42 (kX5_enter_0 n K) 0 := by
  unfold kX5_enter_0
  refine js_aload_n dX5_enter_0 ?_
  refine js_get dX5_enter_1 jf_0_9 tw_450 (Or.inl rfl) ?_
  refine js_get dX5_enter_4 jf_0_0 tw_397 (Or.inl rfl) ?_
  refine js_istore_n dX5_enter_7 (by decide) ?_
  refine js_aload_n dX5_enter_8 ?_
  refine js_get dX5_enter_9 jf_8_4 tw_273 (Or.inl rfl) ?_
  refine js_iload_n dX5_enter_12 ?_
  refine js_zald dX5_enter_13 ?_
  refine js_ifne (tgt := 25) dX5_enter_14 (by decide) ?_ ?_
  · exact hK 25
  · refine js_aload_n dX5_enter_17 ?_
    refine js_get dX5_enter_18 jf_10_4 tw_275 (Or.inl rfl) ?_
    refine js_iload_n dX5_enter_21 ?_
    refine js_icmpne (tgt := 28) dX5_enter_22 (by decide) ?_ ?_
    · refine js_aload_n dX5_enter_28 ?_
      refine js_get dX5_enter_29 jf_5_4 tw_198 (Or.inr tw_199) ?_
      refine js_ifgt (tgt := 43) dX5_enter_32 (by decide) ?_ ?_
      · exact hK 43
      · refine js_aload_n dX5_enter_35 ?_
        refine js_aload_n dX5_enter_36 ?_
        refine js_callv dX5_enter_37 (⟨⟨_, _, _, _, _, _, _, ⟨rfl, (show (4 : Nat) < 20 by decide), sX5_isFreeFor l n, by decide, by decide, tw_619, tw_108, tw_618⟩, Or.inl ⟨by decide +kernel, by decide +kernel, by decide +kernel, tw_616, tw_23⟩⟩, trivial⟩) ?_
        refine js_ifne (tgt := 45) dX5_enter_40 (by decide) ?_ ?_
        · refine js_aload_n dX5_enter_45 ?_
          refine js_aload_n dX5_enter_46 ?_
          refine js_callv dX5_enter_47 (⟨⟨_, _, _, _, _, _, _, ⟨rfl, (show (4 : Nat) < 20 by decide), sX5_las l n, by decide, by decide, tw_623, tw_108, tw_622⟩, Or.inl ⟨by decide +kernel, by decide +kernel, by decide +kernel, tw_620, tw_24⟩⟩, trivial⟩) ?_
          refine js_iconst dX5_enter_50 ?_
          exact js_iret dX5_enter_51 rfl
        · exact hK 43
    · exact hK 25
def kX5_enter_25 (n : Nat) (K : Nat → jK) : jK := jk_kill 0 <| jk_kill 1 <| jk_kill 2 <| jk_int 6 <| jk_iret
set_option maxRecDepth 100000 in
set_option maxHeartbeats 4000000 in
theorem tX5_enter_25 (l : Launch) (n : Nat) {K : Nat → jK} (hK : ∀ b, jr_D l cX5_enter 3 "MeetingKit$Lock" (Option.some Jvm.ClassFile.FieldType.int) "enter" 2 42 (K b) b) : jr_D l cX5_enter 3 "MeetingKit$Lock" (Option.some Jvm.ClassFile.FieldType.int) "enter" 2 42 (kX5_enter_25 n K) 25 := by
  unfold kX5_enter_25
  refine js_kill ?_
  refine js_kill ?_
  refine js_kill ?_
  refine js_bipush dX5_enter_25 ?_
  exact js_iret dX5_enter_27 rfl
def kX5_enter_43 (n : Nat) (K : Nat → jK) : jK := jk_kill 0 <| jk_kill 1 <| jk_kill 2 <| jk_int 1 <| jk_iret
set_option maxRecDepth 100000 in
set_option maxHeartbeats 4000000 in
theorem tX5_enter_43 (l : Launch) (n : Nat) {K : Nat → jK} (hK : ∀ b, jr_D l cX5_enter 3 "MeetingKit$Lock" (Option.some Jvm.ClassFile.FieldType.int) "enter" 2 42 (K b) b) : jr_D l cX5_enter 3 "MeetingKit$Lock" (Option.some Jvm.ClassFile.FieldType.int) "enter" 2 42 (kX5_enter_43 n K) 43 := by
  unfold kX5_enter_43
  refine js_kill ?_
  refine js_kill ?_
  refine js_kill ?_
  refine js_iconst dX5_enter_43 ?_
  exact js_iret dX5_enter_44 rfl
def kX5_enter_b (n : Nat) (K : Nat → jK) (b : Nat) : jK := if b = 0 then kX5_enter_0 n K else if b = 25 then kX5_enter_25 n K else if b = 43 then kX5_enter_43 n K else jk_none
def kX5_enter (n : Nat) : jK := jk_fix (kX5_enter_b n) n 0
theorem tX5_enter (l : Launch) (n : Nat) : jr_D l cX5_enter 3 "MeetingKit$Lock" (Option.some Jvm.ClassFile.FieldType.int) "enter" 2 42 (kX5_enter n) 0 := js_fix (F := kX5_enter_b n) (fun K hK b => js_blk (tX5_enter_0 l n hK) (js_blk (tX5_enter_25 l n hK) (js_blk (tX5_enter_43 l n hK) (js_none)))) n 0
def fX5_enter (n : Nat) : jF := jm_run 2 3 (kX5_enter n)
theorem sX5_enter (l : Launch) (n : Nat) : jr_F l (⟨"MeetingKit$Lock", "enter", "(LMeetingKit$Step;)I"⟩ : MethodName) cX5_enter 3 (Option.some Jvm.ClassFile.FieldType.int) 2 42 (fX5_enter n) := js_met (by decide +kernel) (by decide) (tX5_enter l n)
theorem dX5_dropLooker_0 : decode cX5_dropLooker 0 = .ok (.aload_n 0, 1) := by decide +kernel
theorem dX5_dropLooker_1 : decode cX5_dropLooker 1 = .ok (.getfield 9, 3) := by decide +kernel
theorem dX5_dropLooker_4 : decode cX5_dropLooker 4 = .ok (.iload_n 1, 1) := by decide +kernel
theorem dX5_dropLooker_5 : decode cX5_dropLooker 5 = .ok (.iconst 0, 1) := by decide +kernel
theorem dX5_dropLooker_6 : decode cX5_dropLooker 6 = .ok (.bastore, 1) := by decide +kernel
theorem dX5_dropLooker_7 : decode cX5_dropLooker 7 = .ok (.aload_n 0, 1) := by decide +kernel
theorem dX5_dropLooker_8 : decode cX5_dropLooker 8 = .ok (.dup, 1) := by decide +kernel
theorem dX5_dropLooker_9 : decode cX5_dropLooker 9 = .ok (.getfield 58, 3) := by decide +kernel
theorem dX5_dropLooker_12 : decode cX5_dropLooker 12 = .ok (.iconst 1, 1) := by decide +kernel
theorem dX5_dropLooker_13 : decode cX5_dropLooker 13 = .ok (.isub, 1) := by decide +kernel
theorem dX5_dropLooker_14 : decode cX5_dropLooker 14 = .ok (.putfield 58, 3) := by decide +kernel
theorem dX5_dropLooker_17 : decode cX5_dropLooker 17 = .ok (.return_, 1) := by decide +kernel
def kX5_dropLooker (n : Nat) : jK := jk_aload 0 <| jk_get [4] 8 <| jk_iload 1 <| jk_int 0 <| jk_zast <| jk_aload 0 <| jk_dup <| jk_get [4] 9 <| jk_int 1 <| jk_isub <| jk_puti [4] 9 <| jk_vret
set_option maxRecDepth 100000 in
set_option maxHeartbeats 4000000 in
theorem tX5_dropLooker (l : Launch) (n : Nat) : jr_D l cX5_dropLooker 2 "MeetingKit$Lock" (Option.none : Option Jvm.ClassFile.FieldType) "dropLooker" 0 0 (kX5_dropLooker n) 0 := by
  unfold kX5_dropLooker
  refine js_aload_n dX5_dropLooker_0 ?_
  refine js_get dX5_dropLooker_1 jf_8_4 tw_273 (Or.inl rfl) ?_
  refine js_iload_n dX5_dropLooker_4 ?_
  refine js_iconst dX5_dropLooker_5 ?_
  refine js_zast dX5_dropLooker_6 ?_
  refine js_aload_n dX5_dropLooker_7 ?_
  refine js_dup dX5_dropLooker_8 ?_
  refine js_get dX5_dropLooker_9 jf_9_4 tw_274 (Or.inl rfl) ?_
  refine js_iconst dX5_dropLooker_12 ?_
  refine js_isub dX5_dropLooker_13 ?_
  refine js_puti dX5_dropLooker_14 jf_9_4 rfl tw_274 (Or.inl rfl) ?_
  exact js_vret dX5_dropLooker_17 rfl
def fX5_dropLooker (n : Nat) : jF := jm_run 2 2 (kX5_dropLooker n)
theorem sX5_dropLooker (l : Launch) (n : Nat) : jr_F l (⟨"MeetingKit$Lock", "dropLooker", "(I)V"⟩ : MethodName) cX5_dropLooker 2 (Option.none : Option Jvm.ClassFile.FieldType) 0 0 (fX5_dropLooker n) := js_met (by decide +kernel) (by decide) (tX5_dropLooker l n)
theorem dX5_leave_0 : decode cX5_leave 0 = .ok (.aload_n 0, 1) := by decide +kernel
theorem dX5_leave_1 : decode cX5_leave 1 = .ok (.getfield 9, 3) := by decide +kernel
theorem dX5_leave_4 : decode cX5_leave 4 = .ok (.iload_n 1, 1) := by decide +kernel
theorem dX5_leave_5 : decode cX5_leave 5 = .ok (.baload, 1) := by decide +kernel
theorem dX5_leave_6 : decode cX5_leave 6 = .ok (.ifCond .eq 10, 3) := by decide +kernel
theorem dX5_leave_9 : decode cX5_leave 9 = .ok (.aload_n 0, 1) := by decide +kernel
theorem dX5_leave_10 : decode cX5_leave 10 = .ok (.iload_n 1, 1) := by decide +kernel
theorem dX5_leave_11 : decode cX5_leave 11 = .ok (.invokevirtual 65, 3) := by decide +kernel
theorem dX5_leave_14 : decode cX5_leave 14 = .ok (.iconst 0, 1) := by decide +kernel
theorem dX5_leave_15 : decode cX5_leave 15 = .ok (.ireturn, 1) := by decide +kernel
theorem dX5_leave_16 : decode cX5_leave 16 = .ok (.aload_n 0, 1) := by decide +kernel
theorem dX5_leave_17 : decode cX5_leave 17 = .ok (.getfield 15, 3) := by decide +kernel
theorem dX5_leave_20 : decode cX5_leave 20 = .ok (.iload_n 1, 1) := by decide +kernel
theorem dX5_leave_21 : decode cX5_leave 21 = .ok (.if_icmp .ne 10, 3) := by decide +kernel
theorem dX5_leave_24 : decode cX5_leave 24 = .ok (.aload_n 0, 1) := by decide +kernel
theorem dX5_leave_25 : decode cX5_leave 25 = .ok (.iconst (-1), 1) := by decide +kernel
theorem dX5_leave_26 : decode cX5_leave 26 = .ok (.putfield 15, 3) := by decide +kernel
theorem dX5_leave_29 : decode cX5_leave 29 = .ok (.iconst 0, 1) := by decide +kernel
theorem dX5_leave_30 : decode cX5_leave 30 = .ok (.ireturn, 1) := by decide +kernel
theorem dX5_leave_31 : decode cX5_leave 31 = .ok (.bipush 6, 2) := by decide +kernel
theorem dX5_leave_33 : decode cX5_leave 33 = .ok (.ireturn, 1) := by decide +kernel
def kX5_leave (n : Nat) : jK := jk_aload 0 <| jk_get [4] 8 <| jk_iload 1 <| jk_xald 21 <| jk_ifeq (jk_aload 0 <| jk_get [4] 10 <| jk_iload 1 <| jk_icmpne (jk_int 6 <| jk_iret) <| jk_aload 0 <| jk_int (-1) <| jk_puti [4] 10 <| jk_int 0 <| jk_iret) <| jk_aload 0 <| jk_iload 1 <| jk_vcall [(4, fX5_dropLooker n)] 1 <| jk_int 0 <| jk_iret
set_option maxRecDepth 100000 in
set_option maxHeartbeats 4000000 in
theorem tX5_leave (l : Launch) (n : Nat) : jr_D l cX5_leave 2 "MeetingKit$Lock" (Option.some Jvm.ClassFile.FieldType.int) "leave" 1 21 (kX5_leave n) 0 := by
  unfold kX5_leave
  refine js_aload_n dX5_leave_0 ?_
  refine js_get dX5_leave_1 jf_8_4 tw_273 (Or.inl rfl) ?_
  refine js_iload_n dX5_leave_4 ?_
  refine js_zald dX5_leave_5 ?_
  refine js_ifeq (tgt := 16) dX5_leave_6 (by decide) ?_ ?_
  · refine js_aload_n dX5_leave_16 ?_
    refine js_get dX5_leave_17 jf_10_4 tw_275 (Or.inl rfl) ?_
    refine js_iload_n dX5_leave_20 ?_
    refine js_icmpne (tgt := 31) dX5_leave_21 (by decide) ?_ ?_
    · refine js_bipush dX5_leave_31 ?_
      exact js_iret dX5_leave_33 rfl
    · refine js_aload_n dX5_leave_24 ?_
      refine js_iconst dX5_leave_25 ?_
      refine js_puti dX5_leave_26 jf_10_4 rfl tw_275 (Or.inl rfl) ?_
      refine js_iconst dX5_leave_29 ?_
      exact js_iret dX5_leave_30 rfl
  · refine js_aload_n dX5_leave_9 ?_
    refine js_iload_n dX5_leave_10 ?_
    refine js_callv dX5_leave_11 (⟨⟨_, _, _, _, _, _, _, ⟨rfl, (show (4 : Nat) < 20 by decide), sX5_dropLooker l n, by decide, by decide, tw_639, tw_108, tw_638⟩, Or.inl ⟨by decide +kernel, by decide +kernel, by decide +kernel, tw_636, tw_27⟩⟩, trivial⟩) ?_
    refine js_iconst dX5_leave_14 ?_
    exact js_iret dX5_leave_15 rfl
def fX5_leave (n : Nat) : jF := jm_run 2 2 (kX5_leave n)
theorem sX5_leave (l : Launch) (n : Nat) : jr_F l (⟨"MeetingKit$Lock", "leave", "(I)I"⟩ : MethodName) cX5_leave 2 (Option.some Jvm.ClassFile.FieldType.int) 1 21 (fX5_leave n) := js_met (by decide +kernel) (by decide) (tX5_leave l n)
theorem dX5_makeUser_0 : decode cX5_makeUser 0 = .ok (.aload_n 0, 1) := by decide +kernel
theorem dX5_makeUser_1 : decode cX5_makeUser 1 = .ok (.iload_n 1, 1) := by decide +kernel
theorem dX5_makeUser_2 : decode cX5_makeUser 2 = .ok (.invokevirtual 65, 3) := by decide +kernel
theorem dX5_makeUser_5 : decode cX5_makeUser 5 = .ok (.aload_n 0, 1) := by decide +kernel
theorem dX5_makeUser_6 : decode cX5_makeUser 6 = .ok (.iload_n 1, 1) := by decide +kernel
theorem dX5_makeUser_7 : decode cX5_makeUser 7 = .ok (.putfield 15, 3) := by decide +kernel
theorem dX5_makeUser_10 : decode cX5_makeUser 10 = .ok (.return_, 1) := by decide +kernel
def kX5_makeUser (n : Nat) : jK := jk_aload 0 <| jk_iload 1 <| jk_vcall [(4, fX5_dropLooker n)] 1 <| jk_aload 0 <| jk_iload 1 <| jk_puti [4] 10 <| jk_vret
set_option maxRecDepth 100000 in
set_option maxHeartbeats 4000000 in
theorem tX5_makeUser (l : Launch) (n : Nat) : jr_D l cX5_makeUser 2 "MeetingKit$Lock" (Option.none : Option Jvm.ClassFile.FieldType) "makeUser" 1 21 (kX5_makeUser n) 0 := by
  unfold kX5_makeUser
  refine js_aload_n dX5_makeUser_0 ?_
  refine js_iload_n dX5_makeUser_1 ?_
  refine js_callv dX5_makeUser_2 (⟨⟨_, _, _, _, _, _, _, ⟨rfl, (show (4 : Nat) < 20 by decide), sX5_dropLooker l n, by decide, by decide, tw_639, tw_108, tw_638⟩, Or.inl ⟨by decide +kernel, by decide +kernel, by decide +kernel, tw_636, tw_27⟩⟩, trivial⟩) ?_
  refine js_aload_n dX5_makeUser_5 ?_
  refine js_iload_n dX5_makeUser_6 ?_
  refine js_puti dX5_makeUser_7 jf_10_4 rfl tw_275 (Or.inl rfl) ?_
  exact js_vret dX5_makeUser_10 rfl
def fX5_makeUser (n : Nat) : jF := jm_run 2 2 (kX5_makeUser n)
theorem sX5_makeUser (l : Launch) (n : Nat) : jr_F l (⟨"MeetingKit$Lock", "makeUser", "(I)V"⟩ : MethodName) cX5_makeUser 2 (Option.none : Option Jvm.ClassFile.FieldType) 1 21 (fX5_makeUser n) := js_met (by decide +kernel) (by decide) (tX5_makeUser l n)
theorem dX5_upgrade_0 : decode cX5_upgrade 0 = .ok (.aload_n 0, 1) := by decide +kernel
theorem dX5_upgrade_1 : decode cX5_upgrade 1 = .ok (.getfield 9, 3) := by decide +kernel
theorem dX5_upgrade_4 : decode cX5_upgrade 4 = .ok (.iload_n 1, 1) := by decide +kernel
theorem dX5_upgrade_5 : decode cX5_upgrade 5 = .ok (.baload, 1) := by decide +kernel
theorem dX5_upgrade_6 : decode cX5_upgrade 6 = .ok (.ifCond .eq 11, 3) := by decide +kernel
theorem dX5_upgrade_9 : decode cX5_upgrade 9 = .ok (.aload_n 0, 1) := by decide +kernel
theorem dX5_upgrade_10 : decode cX5_upgrade 10 = .ok (.iconst 3, 1) := by decide +kernel
theorem dX5_upgrade_11 : decode cX5_upgrade 11 = .ok (.invokevirtual 68, 3) := by decide +kernel
theorem dX5_upgrade_14 : decode cX5_upgrade 14 = .ok (.ifnull 6, 3) := by decide +kernel
theorem dX5_upgrade_17 : decode cX5_upgrade 17 = .ok (.bipush 6, 2) := by decide +kernel
theorem dX5_upgrade_19 : decode cX5_upgrade 19 = .ok (.ireturn, 1) := by decide +kernel
theorem dX5_upgrade_20 : decode cX5_upgrade 20 = .ok (.aload_n 0, 1) := by decide +kernel
theorem dX5_upgrade_21 : decode cX5_upgrade 21 = .ok (.getfield 58, 3) := by decide +kernel
theorem dX5_upgrade_24 : decode cX5_upgrade 24 = .ok (.iconst 1, 1) := by decide +kernel
theorem dX5_upgrade_25 : decode cX5_upgrade 25 = .ok (.if_icmp .le 5, 3) := by decide +kernel
theorem dX5_upgrade_28 : decode cX5_upgrade 28 = .ok (.iconst 1, 1) := by decide +kernel
theorem dX5_upgrade_29 : decode cX5_upgrade 29 = .ok (.ireturn, 1) := by decide +kernel
theorem dX5_upgrade_30 : decode cX5_upgrade 30 = .ok (.aload_n 0, 1) := by decide +kernel
theorem dX5_upgrade_31 : decode cX5_upgrade 31 = .ok (.iload_n 1, 1) := by decide +kernel
theorem dX5_upgrade_32 : decode cX5_upgrade 32 = .ok (.invokevirtual 72, 3) := by decide +kernel
theorem dX5_upgrade_35 : decode cX5_upgrade 35 = .ok (.iconst 0, 1) := by decide +kernel
theorem dX5_upgrade_36 : decode cX5_upgrade 36 = .ok (.ireturn, 1) := by decide +kernel
def kX5_upgrade_0 (n : Nat) (K : Nat → jK) : jK := jk_aload 0 <| jk_get [4] 8 <| jk_iload 1 <| jk_xald 21 <| jk_ifeq (K 17) <| jk_aload 0 <| jk_int 3 <| jk_vcall [(4, fX2_firstWithAct n)] 1 <| jk_ifnull (jk_aload 0 <| jk_get [4] 9 <| jk_int 1 <| jk_icmple (jk_aload 0 <| jk_iload 1 <| jk_vcall [(4, fX5_makeUser n)] 1 <| jk_int 0 <| jk_iret) <| jk_int 1 <| jk_iret) <| K 17
set_option maxRecDepth 100000 in
set_option maxHeartbeats 4000000 in
theorem tX5_upgrade_0 (l : Launch) (n : Nat) {K : Nat → jK} (hK : ∀ b, jr_D l cX5_upgrade 2 "MeetingKit$Lock" (Option.some Jvm.ClassFile.FieldType.int) "upgrade" 2 44 (K b) b) : jr_D l cX5_upgrade 2 "MeetingKit$Lock" (Option.some Jvm.ClassFile.FieldType.int) "upgrade" 2 44 (kX5_upgrade_0 n K) 0 := by
  unfold kX5_upgrade_0
  refine js_aload_n dX5_upgrade_0 ?_
  refine js_get dX5_upgrade_1 jf_8_4 tw_273 (Or.inl rfl) ?_
  refine js_iload_n dX5_upgrade_4 ?_
  refine js_zald dX5_upgrade_5 ?_
  refine js_ifeq (tgt := 17) dX5_upgrade_6 (by decide) ?_ ?_
  · exact hK 17
  · refine js_aload_n dX5_upgrade_9 ?_
    refine js_iconst dX5_upgrade_10 ?_
    refine js_callv dX5_upgrade_11 (⟨⟨_, _, _, _, _, _, _, ⟨rfl, (show (4 : Nat) < 20 by decide), sX2_firstWithAct l n, by decide, by decide, tw_607, tw_104, tw_606⟩, Or.inr ⟨⟨"MeetingKit$Lock", "firstWithAct", "(I)LMeetingKit$Step;"⟩, "MeetingKit$Device", by decide +kernel, by decide +kernel, by decide +kernel, tw_602, tw_603, tw_605, Or.inl ⟨_, _, _, tw_606, tw_607⟩⟩⟩, trivial⟩) ?_
    refine js_ifnull (tgt := 20) dX5_upgrade_14 (by decide) ?_ ?_
    · refine js_aload_n dX5_upgrade_20 ?_
      refine js_get dX5_upgrade_21 jf_9_4 tw_274 (Or.inl rfl) ?_
      refine js_iconst dX5_upgrade_24 ?_
      refine js_icmple (tgt := 30) dX5_upgrade_25 (by decide) ?_ ?_
      · refine js_aload_n dX5_upgrade_30 ?_
        refine js_iload_n dX5_upgrade_31 ?_
        refine js_callv dX5_upgrade_32 (⟨⟨_, _, _, _, _, _, _, ⟨rfl, (show (4 : Nat) < 20 by decide), sX5_makeUser l n, by decide, by decide, tw_635, tw_108, tw_634⟩, Or.inl ⟨by decide +kernel, by decide +kernel, by decide +kernel, tw_632, tw_26⟩⟩, trivial⟩) ?_
        refine js_iconst dX5_upgrade_35 ?_
        exact js_iret dX5_upgrade_36 rfl
      · refine js_iconst dX5_upgrade_28 ?_
        exact js_iret dX5_upgrade_29 rfl
    · exact hK 17
def kX5_upgrade_17 (n : Nat) (K : Nat → jK) : jK := jk_kill 0 <| jk_kill 1 <| jk_int 6 <| jk_iret
set_option maxRecDepth 100000 in
set_option maxHeartbeats 4000000 in
theorem tX5_upgrade_17 (l : Launch) (n : Nat) {K : Nat → jK} (hK : ∀ b, jr_D l cX5_upgrade 2 "MeetingKit$Lock" (Option.some Jvm.ClassFile.FieldType.int) "upgrade" 2 44 (K b) b) : jr_D l cX5_upgrade 2 "MeetingKit$Lock" (Option.some Jvm.ClassFile.FieldType.int) "upgrade" 2 44 (kX5_upgrade_17 n K) 17 := by
  unfold kX5_upgrade_17
  refine js_kill ?_
  refine js_kill ?_
  refine js_bipush dX5_upgrade_17 ?_
  exact js_iret dX5_upgrade_19 rfl
def kX5_upgrade_b (n : Nat) (K : Nat → jK) (b : Nat) : jK := if b = 0 then kX5_upgrade_0 n K else if b = 17 then kX5_upgrade_17 n K else jk_none
def kX5_upgrade (n : Nat) : jK := jk_fix (kX5_upgrade_b n) n 0
theorem tX5_upgrade (l : Launch) (n : Nat) : jr_D l cX5_upgrade 2 "MeetingKit$Lock" (Option.some Jvm.ClassFile.FieldType.int) "upgrade" 2 44 (kX5_upgrade n) 0 := js_fix (F := kX5_upgrade_b n) (fun K hK b => js_blk (tX5_upgrade_0 l n hK) (js_blk (tX5_upgrade_17 l n hK) (js_none))) n 0
def fX5_upgrade (n : Nat) : jF := jm_run 2 2 (kX5_upgrade n)
theorem sX5_upgrade (l : Launch) (n : Nat) : jr_F l (⟨"MeetingKit$Lock", "upgrade", "(I)I"⟩ : MethodName) cX5_upgrade 2 (Option.some Jvm.ClassFile.FieldType.int) 2 44 (fX5_upgrade n) := js_met (by decide +kernel) (by decide) (tX5_upgrade l n)
theorem dX5_downgrade_0 : decode cX5_downgrade 0 = .ok (.aload_n 0, 1) := by decide +kernel
theorem dX5_downgrade_1 : decode cX5_downgrade 1 = .ok (.getfield 15, 3) := by decide +kernel
theorem dX5_downgrade_4 : decode cX5_downgrade 4 = .ok (.iload_n 1, 1) := by decide +kernel
theorem dX5_downgrade_5 : decode cX5_downgrade 5 = .ok (.if_icmp .eq 6, 3) := by decide +kernel
theorem dX5_downgrade_8 : decode cX5_downgrade 8 = .ok (.bipush 6, 2) := by decide +kernel
theorem dX5_downgrade_10 : decode cX5_downgrade 10 = .ok (.ireturn, 1) := by decide +kernel
theorem dX5_downgrade_11 : decode cX5_downgrade 11 = .ok (.aload_n 0, 1) := by decide +kernel
theorem dX5_downgrade_12 : decode cX5_downgrade 12 = .ok (.iconst (-1), 1) := by decide +kernel
theorem dX5_downgrade_13 : decode cX5_downgrade 13 = .ok (.putfield 15, 3) := by decide +kernel
theorem dX5_downgrade_16 : decode cX5_downgrade 16 = .ok (.aload_n 0, 1) := by decide +kernel
theorem dX5_downgrade_17 : decode cX5_downgrade 17 = .ok (.iload_n 1, 1) := by decide +kernel
theorem dX5_downgrade_18 : decode cX5_downgrade 18 = .ok (.invokevirtual 61, 3) := by decide +kernel
theorem dX5_downgrade_21 : decode cX5_downgrade 21 = .ok (.iconst 0, 1) := by decide +kernel
theorem dX5_downgrade_22 : decode cX5_downgrade 22 = .ok (.ireturn, 1) := by decide +kernel
def kX5_downgrade (n : Nat) : jK := jk_aload 0 <| jk_get [4] 10 <| jk_iload 1 <| jk_icmpeq (jk_aload 0 <| jk_int (-1) <| jk_puti [4] 10 <| jk_aload 0 <| jk_iload 1 <| jk_vcall [(4, fX5_addLooker n)] 1 <| jk_int 0 <| jk_iret) <| jk_int 6 <| jk_iret
set_option maxRecDepth 100000 in
set_option maxHeartbeats 4000000 in
theorem tX5_downgrade (l : Launch) (n : Nat) : jr_D l cX5_downgrade 2 "MeetingKit$Lock" (Option.some Jvm.ClassFile.FieldType.int) "downgrade" 1 21 (kX5_downgrade n) 0 := by
  unfold kX5_downgrade
  refine js_aload_n dX5_downgrade_0 ?_
  refine js_get dX5_downgrade_1 jf_10_4 tw_275 (Or.inl rfl) ?_
  refine js_iload_n dX5_downgrade_4 ?_
  refine js_icmpeq (tgt := 11) dX5_downgrade_5 (by decide) ?_ ?_
  · refine js_aload_n dX5_downgrade_11 ?_
    refine js_iconst dX5_downgrade_12 ?_
    refine js_puti dX5_downgrade_13 jf_10_4 rfl tw_275 (Or.inl rfl) ?_
    refine js_aload_n dX5_downgrade_16 ?_
    refine js_iload_n dX5_downgrade_17 ?_
    refine js_callv dX5_downgrade_18 (⟨⟨_, _, _, _, _, _, _, ⟨rfl, (show (4 : Nat) < 20 by decide), sX5_addLooker l n, by decide, by decide, tw_627, tw_108, tw_626⟩, Or.inl ⟨by decide +kernel, by decide +kernel, by decide +kernel, tw_624, tw_25⟩⟩, trivial⟩) ?_
    refine js_iconst dX5_downgrade_21 ?_
    exact js_iret dX5_downgrade_22 rfl
  · refine js_bipush dX5_downgrade_8 ?_
    exact js_iret dX5_downgrade_10 rfl
def fX5_downgrade (n : Nat) : jF := jm_run 2 2 (kX5_downgrade n)
theorem sX5_downgrade (l : Launch) (n : Nat) : jr_F l (⟨"MeetingKit$Lock", "downgrade", "(I)I"⟩ : MethodName) cX5_downgrade 2 (Option.some Jvm.ClassFile.FieldType.int) 1 21 (fX5_downgrade n) := js_met (by decide +kernel) (by decide) (tX5_downgrade l n)
theorem dX5_perform_0 : decode cX5_perform 0 = .ok (.aload_n 1, 1) := by decide +kernel
theorem dX5_perform_1 : decode cX5_perform 1 = .ok (.getfield 19, 3) := by decide +kernel
theorem dX5_perform_4 : decode cX5_perform 4 = .ok (.tableswitch 78 0 4 #[36, 36, 42, 54, 66], 36) := by decide +kernel
theorem dX5_perform_40 : decode cX5_perform 40 = .ok (.aload_n 0, 1) := by decide +kernel
theorem dX5_perform_41 : decode cX5_perform 41 = .ok (.aload_n 1, 1) := by decide +kernel
theorem dX5_perform_42 : decode cX5_perform 42 = .ok (.invokevirtual 24, 3) := by decide +kernel
theorem dX5_perform_45 : decode cX5_perform 45 = .ok (.ireturn, 1) := by decide +kernel
theorem dX5_perform_46 : decode cX5_perform 46 = .ok (.aload_n 0, 1) := by decide +kernel
theorem dX5_perform_47 : decode cX5_perform 47 = .ok (.aload_n 1, 1) := by decide +kernel
theorem dX5_perform_48 : decode cX5_perform 48 = .ok (.getfield 28, 3) := by decide +kernel
theorem dX5_perform_51 : decode cX5_perform 51 = .ok (.getfield 32, 3) := by decide +kernel
theorem dX5_perform_54 : decode cX5_perform 54 = .ok (.invokevirtual 37, 3) := by decide +kernel
theorem dX5_perform_57 : decode cX5_perform 57 = .ok (.ireturn, 1) := by decide +kernel
theorem dX5_perform_58 : decode cX5_perform 58 = .ok (.aload_n 0, 1) := by decide +kernel
theorem dX5_perform_59 : decode cX5_perform 59 = .ok (.aload_n 1, 1) := by decide +kernel
theorem dX5_perform_60 : decode cX5_perform 60 = .ok (.getfield 28, 3) := by decide +kernel
theorem dX5_perform_63 : decode cX5_perform 63 = .ok (.getfield 32, 3) := by decide +kernel
theorem dX5_perform_66 : decode cX5_perform 66 = .ok (.invokevirtual 41, 3) := by decide +kernel
theorem dX5_perform_69 : decode cX5_perform 69 = .ok (.ireturn, 1) := by decide +kernel
theorem dX5_perform_70 : decode cX5_perform 70 = .ok (.aload_n 0, 1) := by decide +kernel
theorem dX5_perform_71 : decode cX5_perform 71 = .ok (.aload_n 1, 1) := by decide +kernel
theorem dX5_perform_72 : decode cX5_perform 72 = .ok (.getfield 28, 3) := by decide +kernel
theorem dX5_perform_75 : decode cX5_perform 75 = .ok (.getfield 32, 3) := by decide +kernel
theorem dX5_perform_78 : decode cX5_perform 78 = .ok (.invokevirtual 44, 3) := by decide +kernel
theorem dX5_perform_81 : decode cX5_perform 81 = .ok (.ireturn, 1) := by decide +kernel
theorem dX5_perform_82 : decode cX5_perform 82 = .ok (.bipush 6, 2) := by decide +kernel
theorem dX5_perform_84 : decode cX5_perform 84 = .ok (.ireturn, 1) := by decide +kernel
def kX5_perform_0 (n : Nat) (K : Nat → jK) : jK := jk_aload 1 <| jk_get [9] 2 <| jk_sw [(0, (K 40)), (1, (K 40)), (2, (jk_aload 0 <| jk_aload 1 <| jk_get [9] 0 <| jk_get [0] 0 <| jk_vcall [(4, fX5_leave n)] 1 <| jk_iret)), (3, (jk_aload 0 <| jk_aload 1 <| jk_get [9] 0 <| jk_get [0] 0 <| jk_vcall [(4, fX5_upgrade n)] 1 <| jk_iret)), (4, (jk_aload 0 <| jk_aload 1 <| jk_get [9] 0 <| jk_get [0] 0 <| jk_vcall [(4, fX5_downgrade n)] 1 <| jk_iret))] (jk_int 6 <| jk_iret)
set_option maxRecDepth 100000 in
set_option maxHeartbeats 4000000 in
theorem tX5_perform_0 (l : Launch) (n : Nat) {K : Nat → jK} (hK : ∀ b, jr_D l cX5_perform 2 "MeetingKit$Lock" (Option.some Jvm.ClassFile.FieldType.int) "perform" 3 65 (K b) b) : jr_D l cX5_perform 2 "MeetingKit$Lock" (Option.some Jvm.ClassFile.FieldType.int) "perform" 3 65 (kX5_perform_0 n K) 0 := by
  unfold kX5_perform_0
  refine js_aload_n dX5_perform_0 ?_
  refine js_get dX5_perform_1 jf_2_9 tw_460 (Or.inl rfl) ?_
  refine js_tsw (td := 82) dX5_perform_4 rfl (by decide) ?_ ?_
  · refine js_bipush dX5_perform_82 ?_
    exact js_iret dX5_perform_84 rfl
  · refine ⟨rfl, ⟨40, by decide, ?_⟩, rfl, ⟨40, by decide, ?_⟩, rfl, ⟨46, by decide, ?_⟩, rfl, ⟨58, by decide, ?_⟩, rfl, ⟨70, by decide, ?_⟩, trivial⟩
    · exact hK 40
    · exact hK 40
    · refine js_aload_n dX5_perform_46 ?_
      refine js_aload_n dX5_perform_47 ?_
      refine js_get dX5_perform_48 jf_0_9 tw_450 (Or.inl rfl) ?_
      refine js_get dX5_perform_51 jf_0_0 tw_397 (Or.inl rfl) ?_
      refine js_callv dX5_perform_54 (⟨⟨_, _, _, _, _, _, _, ⟨rfl, (show (4 : Nat) < 20 by decide), sX5_leave l n, by decide, by decide, tw_789, tw_108, tw_788⟩, Or.inl ⟨by decide +kernel, by decide +kernel, by decide +kernel, tw_786, tw_41⟩⟩, trivial⟩) ?_
      exact js_iret dX5_perform_57 rfl
    · refine js_aload_n dX5_perform_58 ?_
      refine js_aload_n dX5_perform_59 ?_
      refine js_get dX5_perform_60 jf_0_9 tw_450 (Or.inl rfl) ?_
      refine js_get dX5_perform_63 jf_0_0 tw_397 (Or.inl rfl) ?_
      refine js_callv dX5_perform_66 (⟨⟨_, _, _, _, _, _, _, ⟨rfl, (show (4 : Nat) < 20 by decide), sX5_upgrade l n, by decide, by decide, tw_793, tw_108, tw_792⟩, Or.inl ⟨by decide +kernel, by decide +kernel, by decide +kernel, tw_790, tw_42⟩⟩, trivial⟩) ?_
      exact js_iret dX5_perform_69 rfl
    · refine js_aload_n dX5_perform_70 ?_
      refine js_aload_n dX5_perform_71 ?_
      refine js_get dX5_perform_72 jf_0_9 tw_450 (Or.inl rfl) ?_
      refine js_get dX5_perform_75 jf_0_0 tw_397 (Or.inl rfl) ?_
      refine js_callv dX5_perform_78 (⟨⟨_, _, _, _, _, _, _, ⟨rfl, (show (4 : Nat) < 20 by decide), sX5_downgrade l n, by decide, by decide, tw_797, tw_108, tw_796⟩, Or.inl ⟨by decide +kernel, by decide +kernel, by decide +kernel, tw_794, tw_43⟩⟩, trivial⟩) ?_
      exact js_iret dX5_perform_81 rfl
def kX5_perform_40 (n : Nat) (K : Nat → jK) : jK := jk_aload 0 <| jk_aload 1 <| jk_vcall [(4, fX5_enter n)] 1 <| jk_iret
set_option maxRecDepth 100000 in
set_option maxHeartbeats 4000000 in
theorem tX5_perform_40 (l : Launch) (n : Nat) {K : Nat → jK} (hK : ∀ b, jr_D l cX5_perform 2 "MeetingKit$Lock" (Option.some Jvm.ClassFile.FieldType.int) "perform" 3 65 (K b) b) : jr_D l cX5_perform 2 "MeetingKit$Lock" (Option.some Jvm.ClassFile.FieldType.int) "perform" 3 65 (kX5_perform_40 n K) 40 := by
  unfold kX5_perform_40
  refine js_aload_n dX5_perform_40 ?_
  refine js_aload_n dX5_perform_41 ?_
  refine js_callv dX5_perform_42 (⟨⟨_, _, _, _, _, _, _, ⟨rfl, (show (4 : Nat) < 20 by decide), sX5_enter l n, by decide, by decide, tw_785, tw_108, tw_784⟩, Or.inl ⟨by decide +kernel, by decide +kernel, by decide +kernel, tw_782, tw_40⟩⟩, trivial⟩) ?_
  exact js_iret dX5_perform_45 rfl
def kX5_perform_b (n : Nat) (K : Nat → jK) (b : Nat) : jK := if b = 0 then kX5_perform_0 n K else if b = 40 then kX5_perform_40 n K else jk_none
def kX5_perform (n : Nat) : jK := jk_fix (kX5_perform_b n) n 0
theorem tX5_perform (l : Launch) (n : Nat) : jr_D l cX5_perform 2 "MeetingKit$Lock" (Option.some Jvm.ClassFile.FieldType.int) "perform" 3 65 (kX5_perform n) 0 := js_fix (F := kX5_perform_b n) (fun K hK b => js_blk (tX5_perform_0 l n hK) (js_blk (tX5_perform_40 l n hK) (js_none))) n 0
def fX5_perform (n : Nat) : jF := jm_run 2 2 (kX5_perform n)
theorem sX5_perform (l : Launch) (n : Nat) : jr_F l (⟨"MeetingKit$Lock", "perform", "(LMeetingKit$Step;)I"⟩ : MethodName) cX5_perform 2 (Option.some Jvm.ClassFile.FieldType.int) 3 65 (fX5_perform n) := js_met (by decide +kernel) (by decide) (tX5_perform l n)
theorem dX6_firstPlaceOf_0 : decode cX6_firstPlaceOf 0 = .ok (.iconst 0, 1) := by decide +kernel
theorem dX6_firstPlaceOf_1 : decode cX6_firstPlaceOf 1 = .ok (.istore_n 2, 1) := by decide +kernel
theorem dX6_firstPlaceOf_2 : decode cX6_firstPlaceOf 2 = .ok (.iload_n 2, 1) := by decide +kernel
theorem dX6_firstPlaceOf_3 : decode cX6_firstPlaceOf 3 = .ok (.aload_n 0, 1) := by decide +kernel
theorem dX6_firstPlaceOf_4 : decode cX6_firstPlaceOf 4 = .ok (.getfield 52, 3) := by decide +kernel
theorem dX6_firstPlaceOf_7 : decode cX6_firstPlaceOf 7 = .ok (.if_icmp .ge 37, 3) := by decide +kernel
theorem dX6_firstPlaceOf_10 : decode cX6_firstPlaceOf 10 = .ok (.aload_n 0, 1) := by decide +kernel
theorem dX6_firstPlaceOf_11 : decode cX6_firstPlaceOf 11 = .ok (.iload_n 2, 1) := by decide +kernel
theorem dX6_firstPlaceOf_12 : decode cX6_firstPlaceOf 12 = .ok (.invokevirtual 55, 3) := by decide +kernel
theorem dX6_firstPlaceOf_15 : decode cX6_firstPlaceOf 15 = .ok (.astore_n 3, 1) := by decide +kernel
theorem dX6_firstPlaceOf_16 : decode cX6_firstPlaceOf 16 = .ok (.aload_n 3, 1) := by decide +kernel
theorem dX6_firstPlaceOf_17 : decode cX6_firstPlaceOf 17 = .ok (.ifnull 21, 3) := by decide +kernel
theorem dX6_firstPlaceOf_20 : decode cX6_firstPlaceOf 20 = .ok (.aload_n 0, 1) := by decide +kernel
theorem dX6_firstPlaceOf_21 : decode cX6_firstPlaceOf 21 = .ok (.getfield 9, 3) := by decide +kernel
theorem dX6_firstPlaceOf_24 : decode cX6_firstPlaceOf 24 = .ok (.aload_n 3, 1) := by decide +kernel
theorem dX6_firstPlaceOf_25 : decode cX6_firstPlaceOf 25 = .ok (.getfield 19, 3) := by decide +kernel
theorem dX6_firstPlaceOf_28 : decode cX6_firstPlaceOf 28 = .ok (.getfield 25, 3) := by decide +kernel
theorem dX6_firstPlaceOf_31 : decode cX6_firstPlaceOf 31 = .ok (.iaload, 1) := by decide +kernel
theorem dX6_firstPlaceOf_32 : decode cX6_firstPlaceOf 32 = .ok (.iload_n 1, 1) := by decide +kernel
theorem dX6_firstPlaceOf_33 : decode cX6_firstPlaceOf 33 = .ok (.if_icmp .ne 5, 3) := by decide +kernel
theorem dX6_firstPlaceOf_36 : decode cX6_firstPlaceOf 36 = .ok (.iload_n 2, 1) := by decide +kernel
theorem dX6_firstPlaceOf_37 : decode cX6_firstPlaceOf 37 = .ok (.ireturn, 1) := by decide +kernel
theorem dX6_firstPlaceOf_38 : decode cX6_firstPlaceOf 38 = .ok (.iinc 2 1, 3) := by decide +kernel
theorem dX6_firstPlaceOf_41 : decode cX6_firstPlaceOf 41 = .ok (.goto (-39), 3) := by decide +kernel
theorem dX6_firstPlaceOf_44 : decode cX6_firstPlaceOf 44 = .ok (.iconst (-1), 1) := by decide +kernel
theorem dX6_firstPlaceOf_45 : decode cX6_firstPlaceOf 45 = .ok (.ireturn, 1) := by decide +kernel
def kX6_firstPlaceOf_0 (n : Nat) (K : Nat → jK) : jK := jk_int 0 <| jk_istore 2 <| K 2
set_option maxRecDepth 100000 in
set_option maxHeartbeats 4000000 in
theorem tX6_firstPlaceOf_0 (l : Launch) (n : Nat) {K : Nat → jK} (hK : ∀ b, jr_D l cX6_firstPlaceOf 4 "MeetingKit$Monitor" (Option.some Jvm.ClassFile.FieldType.int) "firstPlaceOf" 1 21 (K b) b) : jr_D l cX6_firstPlaceOf 4 "MeetingKit$Monitor" (Option.some Jvm.ClassFile.FieldType.int) "firstPlaceOf" 1 21 (kX6_firstPlaceOf_0 n K) 0 := by
  unfold kX6_firstPlaceOf_0
  refine js_iconst dX6_firstPlaceOf_0 ?_
  refine js_istore_n dX6_firstPlaceOf_1 (by decide) ?_
  exact hK 2
def kX6_firstPlaceOf_2 (n : Nat) (K : Nat → jK) : jK := jk_kill 3 <| jk_iload 2 <| jk_aload 0 <| jk_get [5] 5 <| jk_icmpge (jk_int (-1) <| jk_iret) <| jk_aload 0 <| jk_iload 2 <| jk_vcall [(5, fX2_stillWaiting n)] 1 <| jk_astore 3 <| jk_aload 3 <| jk_ifnull (K 38) <| jk_aload 0 <| jk_get [5] 8 <| jk_aload 3 <| jk_get [9] 0 <| jk_get [0] 0 <| jk_iald <| jk_iload 1 <| jk_icmpne (K 38) <| jk_iload 2 <| jk_iret
set_option maxRecDepth 100000 in
set_option maxHeartbeats 4000000 in
theorem tX6_firstPlaceOf_2 (l : Launch) (n : Nat) {K : Nat → jK} (hK : ∀ b, jr_D l cX6_firstPlaceOf 4 "MeetingKit$Monitor" (Option.some Jvm.ClassFile.FieldType.int) "firstPlaceOf" 1 21 (K b) b) : jr_D l cX6_firstPlaceOf 4 "MeetingKit$Monitor" (Option.some Jvm.ClassFile.FieldType.int) "firstPlaceOf" 1 21 (kX6_firstPlaceOf_2 n K) 2 := by
  unfold kX6_firstPlaceOf_2
  refine js_kill ?_
  refine js_iload_n dX6_firstPlaceOf_2 ?_
  refine js_aload_n dX6_firstPlaceOf_3 ?_
  refine js_get dX6_firstPlaceOf_4 jf_5_5 tw_200 (Or.inr tw_201) ?_
  refine js_icmpge (tgt := 44) dX6_firstPlaceOf_7 (by decide) ?_ ?_
  · refine js_iconst dX6_firstPlaceOf_44 ?_
    exact js_iret dX6_firstPlaceOf_45 rfl
  · refine js_aload_n dX6_firstPlaceOf_10 ?_
    refine js_iload_n dX6_firstPlaceOf_11 ?_
    refine js_callv dX6_firstPlaceOf_12 (⟨⟨_, _, _, _, _, _, _, ⟨rfl, (show (5 : Nat) < 20 by decide), sX2_stillWaiting l n, by decide, by decide, tw_584, tw_104, tw_574⟩, Or.inr ⟨⟨"MeetingKit$Monitor", "stillWaiting", "(I)LMeetingKit$Step;"⟩, "MeetingKit$Device", by decide +kernel, by decide +kernel, by decide +kernel, tw_647, tw_648, tw_649, Or.inl ⟨_, _, _, tw_574, tw_584⟩⟩⟩, trivial⟩) ?_
    refine js_astore_n dX6_firstPlaceOf_15 (by decide) ?_
    refine js_aload_n dX6_firstPlaceOf_16 ?_
    refine js_ifnull (tgt := 38) dX6_firstPlaceOf_17 (by decide) ?_ ?_
    · exact hK 38
    · refine js_aload_n dX6_firstPlaceOf_20 ?_
      refine js_get dX6_firstPlaceOf_21 jf_8_5 tw_349 (Or.inl rfl) ?_
      refine js_aload_n dX6_firstPlaceOf_24 ?_
      refine js_get dX6_firstPlaceOf_25 jf_0_9 tw_449 (Or.inl rfl) ?_
      refine js_get dX6_firstPlaceOf_28 jf_0_0 tw_396 (Or.inl rfl) ?_
      refine js_iald dX6_firstPlaceOf_31 ?_
      refine js_iload_n dX6_firstPlaceOf_32 ?_
      refine js_icmpne (tgt := 38) dX6_firstPlaceOf_33 (by decide) ?_ ?_
      · exact hK 38
      · refine js_iload_n dX6_firstPlaceOf_36 ?_
        exact js_iret dX6_firstPlaceOf_37 rfl
def kX6_firstPlaceOf_38 (n : Nat) (K : Nat → jK) : jK := jk_kill 3 <| jk_iinc 2 1 <| K 2
set_option maxRecDepth 100000 in
set_option maxHeartbeats 4000000 in
theorem tX6_firstPlaceOf_38 (l : Launch) (n : Nat) {K : Nat → jK} (hK : ∀ b, jr_D l cX6_firstPlaceOf 4 "MeetingKit$Monitor" (Option.some Jvm.ClassFile.FieldType.int) "firstPlaceOf" 1 21 (K b) b) : jr_D l cX6_firstPlaceOf 4 "MeetingKit$Monitor" (Option.some Jvm.ClassFile.FieldType.int) "firstPlaceOf" 1 21 (kX6_firstPlaceOf_38 n K) 38 := by
  unfold kX6_firstPlaceOf_38
  refine js_kill ?_
  refine js_iinc dX6_firstPlaceOf_38 (by decide) ?_
  refine js_goto (tgt := 2) dX6_firstPlaceOf_41 (by decide) ?_
  exact hK 2
def kX6_firstPlaceOf_b (n : Nat) (K : Nat → jK) (b : Nat) : jK := if b = 0 then kX6_firstPlaceOf_0 n K else if b = 2 then kX6_firstPlaceOf_2 n K else if b = 38 then kX6_firstPlaceOf_38 n K else jk_none
def kX6_firstPlaceOf (n : Nat) : jK := jk_fix (kX6_firstPlaceOf_b n) n 0
theorem tX6_firstPlaceOf (l : Launch) (n : Nat) : jr_D l cX6_firstPlaceOf 4 "MeetingKit$Monitor" (Option.some Jvm.ClassFile.FieldType.int) "firstPlaceOf" 1 21 (kX6_firstPlaceOf n) 0 := js_fix (F := kX6_firstPlaceOf_b n) (fun K hK b => js_blk (tX6_firstPlaceOf_0 l n hK) (js_blk (tX6_firstPlaceOf_2 l n hK) (js_blk (tX6_firstPlaceOf_38 l n hK) (js_none)))) n 0
def fX6_firstPlaceOf (n : Nat) : jF := jm_run 2 4 (kX6_firstPlaceOf n)
theorem sX6_firstPlaceOf (l : Launch) (n : Nat) : jr_F l (⟨"MeetingKit$Monitor", "firstPlaceOf", "(I)I"⟩ : MethodName) cX6_firstPlaceOf 4 (Option.some Jvm.ClassFile.FieldType.int) 1 21 (fX6_firstPlaceOf n) := js_met (by decide +kernel) (by decide) (tX6_firstPlaceOf l n)
theorem dX6_enter_0 : decode cX6_enter 0 = .ok (.aload_n 0, 1) := by decide +kernel
theorem dX6_enter_1 : decode cX6_enter 1 = .ok (.getfield 15, 3) := by decide +kernel
theorem dX6_enter_4 : decode cX6_enter 4 = .ok (.iconst (-1), 1) := by decide +kernel
theorem dX6_enter_5 : decode cX6_enter 5 = .ok (.if_icmp .ne 19, 3) := by decide +kernel
theorem dX6_enter_8 : decode cX6_enter 8 = .ok (.aload_n 0, 1) := by decide +kernel
theorem dX6_enter_9 : decode cX6_enter 9 = .ok (.iconst (-1), 1) := by decide +kernel
theorem dX6_enter_10 : decode cX6_enter 10 = .ok (.invokevirtual 42, 3) := by decide +kernel
theorem dX6_enter_13 : decode cX6_enter 13 = .ok (.iconst (-1), 1) := by decide +kernel
theorem dX6_enter_14 : decode cX6_enter 14 = .ok (.if_icmp .ne 10, 3) := by decide +kernel
theorem dX6_enter_17 : decode cX6_enter 17 = .ok (.aload_n 0, 1) := by decide +kernel
theorem dX6_enter_18 : decode cX6_enter 18 = .ok (.iload_n 1, 1) := by decide +kernel
theorem dX6_enter_19 : decode cX6_enter 19 = .ok (.putfield 15, 3) := by decide +kernel
theorem dX6_enter_22 : decode cX6_enter 22 = .ok (.iconst 0, 1) := by decide +kernel
theorem dX6_enter_23 : decode cX6_enter 23 = .ok (.ireturn, 1) := by decide +kernel
theorem dX6_enter_24 : decode cX6_enter 24 = .ok (.aload_n 0, 1) := by decide +kernel
theorem dX6_enter_25 : decode cX6_enter 25 = .ok (.getfield 9, 3) := by decide +kernel
theorem dX6_enter_28 : decode cX6_enter 28 = .ok (.iload_n 1, 1) := by decide +kernel
theorem dX6_enter_29 : decode cX6_enter 29 = .ok (.iconst (-1), 1) := by decide +kernel
theorem dX6_enter_30 : decode cX6_enter 30 = .ok (.iastore, 1) := by decide +kernel
theorem dX6_enter_31 : decode cX6_enter 31 = .ok (.iconst 1, 1) := by decide +kernel
theorem dX6_enter_32 : decode cX6_enter 32 = .ok (.ireturn, 1) := by decide +kernel
def kX6_enter_0 (n : Nat) (K : Nat → jK) : jK := jk_aload 0 <| jk_get [5] 9 <| jk_int (-1) <| jk_icmpne (K 24) <| jk_aload 0 <| jk_int (-1) <| jk_vcall [(5, fX6_firstPlaceOf n)] 1 <| jk_int (-1) <| jk_icmpne (K 24) <| jk_aload 0 <| jk_iload 1 <| jk_puti [5] 9 <| jk_int 0 <| jk_iret
set_option maxRecDepth 100000 in
set_option maxHeartbeats 4000000 in
theorem tX6_enter_0 (l : Launch) (n : Nat) {K : Nat → jK} (hK : ∀ b, jr_D l cX6_enter 2 "MeetingKit$Monitor" (Option.some Jvm.ClassFile.FieldType.int) "enter" 2 44 (K b) b) : jr_D l cX6_enter 2 "MeetingKit$Monitor" (Option.some Jvm.ClassFile.FieldType.int) "enter" 2 44 (kX6_enter_0 n K) 0 := by
  unfold kX6_enter_0
  refine js_aload_n dX6_enter_0 ?_
  refine js_get dX6_enter_1 jf_9_5 tw_350 (Or.inl rfl) ?_
  refine js_iconst dX6_enter_4 ?_
  refine js_icmpne (tgt := 24) dX6_enter_5 (by decide) ?_ ?_
  · exact hK 24
  · refine js_aload_n dX6_enter_8 ?_
    refine js_iconst dX6_enter_9 ?_
    refine js_callv dX6_enter_10 (⟨⟨_, _, _, _, _, _, _, ⟨rfl, (show (5 : Nat) < 20 by decide), sX6_firstPlaceOf l n, by decide, by decide, tw_646, tw_112, tw_645⟩, Or.inl ⟨by decide +kernel, by decide +kernel, by decide +kernel, tw_643, tw_28⟩⟩, trivial⟩) ?_
    refine js_iconst dX6_enter_13 ?_
    refine js_icmpne (tgt := 24) dX6_enter_14 (by decide) ?_ ?_
    · exact hK 24
    · refine js_aload_n dX6_enter_17 ?_
      refine js_iload_n dX6_enter_18 ?_
      refine js_puti dX6_enter_19 jf_9_5 rfl tw_350 (Or.inl rfl) ?_
      refine js_iconst dX6_enter_22 ?_
      exact js_iret dX6_enter_23 rfl
def kX6_enter_24 (n : Nat) (K : Nat → jK) : jK := jk_aload 0 <| jk_get [5] 8 <| jk_iload 1 <| jk_int (-1) <| jk_iast <| jk_int 1 <| jk_iret
set_option maxRecDepth 100000 in
set_option maxHeartbeats 4000000 in
theorem tX6_enter_24 (l : Launch) (n : Nat) {K : Nat → jK} (hK : ∀ b, jr_D l cX6_enter 2 "MeetingKit$Monitor" (Option.some Jvm.ClassFile.FieldType.int) "enter" 2 44 (K b) b) : jr_D l cX6_enter 2 "MeetingKit$Monitor" (Option.some Jvm.ClassFile.FieldType.int) "enter" 2 44 (kX6_enter_24 n K) 24 := by
  unfold kX6_enter_24
  refine js_aload_n dX6_enter_24 ?_
  refine js_get dX6_enter_25 jf_8_5 tw_349 (Or.inl rfl) ?_
  refine js_iload_n dX6_enter_28 ?_
  refine js_iconst dX6_enter_29 ?_
  refine js_iast dX6_enter_30 ?_
  refine js_iconst dX6_enter_31 ?_
  exact js_iret dX6_enter_32 rfl
def kX6_enter_b (n : Nat) (K : Nat → jK) (b : Nat) : jK := if b = 0 then kX6_enter_0 n K else if b = 24 then kX6_enter_24 n K else jk_none
def kX6_enter (n : Nat) : jK := jk_fix (kX6_enter_b n) n 0
theorem tX6_enter (l : Launch) (n : Nat) : jr_D l cX6_enter 2 "MeetingKit$Monitor" (Option.some Jvm.ClassFile.FieldType.int) "enter" 2 44 (kX6_enter n) 0 := js_fix (F := kX6_enter_b n) (fun K hK b => js_blk (tX6_enter_0 l n hK) (js_blk (tX6_enter_24 l n hK) (js_none))) n 0
def fX6_enter (n : Nat) : jF := jm_run 2 2 (kX6_enter n)
theorem sX6_enter (l : Launch) (n : Nat) : jr_F l (⟨"MeetingKit$Monitor", "enter", "(I)I"⟩ : MethodName) cX6_enter 2 (Option.some Jvm.ClassFile.FieldType.int) 2 44 (fX6_enter n) := js_met (by decide +kernel) (by decide) (tX6_enter l n)
theorem dX6_moveToEnd_0 : decode cX6_moveToEnd 0 = .ok (.aload_n 0, 1) := by decide +kernel
theorem dX6_moveToEnd_1 : decode cX6_moveToEnd 1 = .ok (.iload_n 1, 1) := by decide +kernel
theorem dX6_moveToEnd_2 : decode cX6_moveToEnd 2 = .ok (.invokevirtual 59, 3) := by decide +kernel
theorem dX6_moveToEnd_5 : decode cX6_moveToEnd 5 = .ok (.astore_n 2, 1) := by decide +kernel
theorem dX6_moveToEnd_6 : decode cX6_moveToEnd 6 = .ok (.aload_n 2, 1) := by decide +kernel
theorem dX6_moveToEnd_7 : decode cX6_moveToEnd 7 = .ok (.ifnonnull 4, 3) := by decide +kernel
theorem dX6_moveToEnd_10 : decode cX6_moveToEnd 10 = .ok (.return_, 1) := by decide +kernel
theorem dX6_moveToEnd_11 : decode cX6_moveToEnd 11 = .ok (.iload_n 1, 1) := by decide +kernel
theorem dX6_moveToEnd_12 : decode cX6_moveToEnd 12 = .ok (.istore_n 3, 1) := by decide +kernel
theorem dX6_moveToEnd_13 : decode cX6_moveToEnd 13 = .ok (.iload_n 3, 1) := by decide +kernel
theorem dX6_moveToEnd_14 : decode cX6_moveToEnd 14 = .ok (.aload_n 0, 1) := by decide +kernel
theorem dX6_moveToEnd_15 : decode cX6_moveToEnd 15 = .ok (.getfield 52, 3) := by decide +kernel
theorem dX6_moveToEnd_18 : decode cX6_moveToEnd 18 = .ok (.iconst 1, 1) := by decide +kernel
theorem dX6_moveToEnd_19 : decode cX6_moveToEnd 19 = .ok (.isub, 1) := by decide +kernel
theorem dX6_moveToEnd_20 : decode cX6_moveToEnd 20 = .ok (.if_icmp .ge 23, 3) := by decide +kernel
theorem dX6_moveToEnd_23 : decode cX6_moveToEnd 23 = .ok (.aload_n 0, 1) := by decide +kernel
theorem dX6_moveToEnd_24 : decode cX6_moveToEnd 24 = .ok (.getfield 66, 3) := by decide +kernel
theorem dX6_moveToEnd_27 : decode cX6_moveToEnd 27 = .ok (.iload_n 3, 1) := by decide +kernel
theorem dX6_moveToEnd_28 : decode cX6_moveToEnd 28 = .ok (.aload_n 0, 1) := by decide +kernel
theorem dX6_moveToEnd_29 : decode cX6_moveToEnd 29 = .ok (.getfield 66, 3) := by decide +kernel
theorem dX6_moveToEnd_32 : decode cX6_moveToEnd 32 = .ok (.iload_n 3, 1) := by decide +kernel
theorem dX6_moveToEnd_33 : decode cX6_moveToEnd 33 = .ok (.iconst 1, 1) := by decide +kernel
theorem dX6_moveToEnd_34 : decode cX6_moveToEnd 34 = .ok (.iadd, 1) := by decide +kernel
theorem dX6_moveToEnd_35 : decode cX6_moveToEnd 35 = .ok (.aaload, 1) := by decide +kernel
theorem dX6_moveToEnd_36 : decode cX6_moveToEnd 36 = .ok (.aastore, 1) := by decide +kernel
theorem dX6_moveToEnd_37 : decode cX6_moveToEnd 37 = .ok (.iinc 3 1, 3) := by decide +kernel
theorem dX6_moveToEnd_40 : decode cX6_moveToEnd 40 = .ok (.goto (-27), 3) := by decide +kernel
theorem dX6_moveToEnd_43 : decode cX6_moveToEnd 43 = .ok (.aload_n 0, 1) := by decide +kernel
theorem dX6_moveToEnd_44 : decode cX6_moveToEnd 44 = .ok (.getfield 66, 3) := by decide +kernel
theorem dX6_moveToEnd_47 : decode cX6_moveToEnd 47 = .ok (.aload_n 0, 1) := by decide +kernel
theorem dX6_moveToEnd_48 : decode cX6_moveToEnd 48 = .ok (.getfield 52, 3) := by decide +kernel
theorem dX6_moveToEnd_51 : decode cX6_moveToEnd 51 = .ok (.iconst 1, 1) := by decide +kernel
theorem dX6_moveToEnd_52 : decode cX6_moveToEnd 52 = .ok (.isub, 1) := by decide +kernel
theorem dX6_moveToEnd_53 : decode cX6_moveToEnd 53 = .ok (.aload_n 2, 1) := by decide +kernel
theorem dX6_moveToEnd_54 : decode cX6_moveToEnd 54 = .ok (.aastore, 1) := by decide +kernel
theorem dX6_moveToEnd_55 : decode cX6_moveToEnd 55 = .ok (.return_, 1) := by decide +kernel
def kX6_moveToEnd_0 (n : Nat) (K : Nat → jK) : jK := jk_aload 0 <| jk_iload 1 <| jk_vcall [(5, fX2_waiter n)] 1 <| jk_astore 2 <| jk_aload 2 <| jk_ifnonnull (jk_iload 1 <| jk_istore 3 <| K 13) <| jk_vret
set_option maxRecDepth 100000 in
set_option maxHeartbeats 4000000 in
theorem tX6_moveToEnd_0 (l : Launch) (n : Nat) {K : Nat → jK} (hK : ∀ b, jr_D l cX6_moveToEnd 4 "MeetingKit$Monitor" (Option.none : Option Jvm.ClassFile.FieldType) "moveToEnd" 1 21 (K b) b) : jr_D l cX6_moveToEnd 4 "MeetingKit$Monitor" (Option.none : Option Jvm.ClassFile.FieldType) "moveToEnd" 1 21 (kX6_moveToEnd_0 n K) 0 := by
  unfold kX6_moveToEnd_0
  refine js_aload_n dX6_moveToEnd_0 ?_
  refine js_iload_n dX6_moveToEnd_1 ?_
  refine js_callv dX6_moveToEnd_2 (⟨⟨_, _, _, _, _, _, _, ⟨rfl, (show (5 : Nat) < 20 by decide), sX2_waiter l n, by decide, by decide, tw_655, tw_104, tw_654⟩, Or.inr ⟨⟨"MeetingKit$Monitor", "waiter", "(I)LMeetingKit$Step;"⟩, "MeetingKit$Device", by decide +kernel, by decide +kernel, by decide +kernel, tw_650, tw_651, tw_653, Or.inl ⟨_, _, _, tw_654, tw_655⟩⟩⟩, trivial⟩) ?_
  refine js_astore_n dX6_moveToEnd_5 (by decide) ?_
  refine js_aload_n dX6_moveToEnd_6 ?_
  refine js_ifnonnull (tgt := 11) dX6_moveToEnd_7 (by decide) ?_ ?_
  · refine js_iload_n dX6_moveToEnd_11 ?_
    refine js_istore_n dX6_moveToEnd_12 (by decide) ?_
    exact hK 13
  · exact js_vret dX6_moveToEnd_10 rfl
def kX6_moveToEnd_13 (n : Nat) (K : Nat → jK) : jK := jk_kill 1 <| jk_iload 3 <| jk_aload 0 <| jk_get [5] 5 <| jk_int 1 <| jk_isub <| jk_icmpge (jk_aload 0 <| jk_get [5] 4 <| jk_aload 0 <| jk_get [5] 5 <| jk_int 1 <| jk_isub <| jk_aload 2 <| jk_aast 25 <| jk_vret) <| jk_aload 0 <| jk_get [5] 4 <| jk_iload 3 <| jk_aload 0 <| jk_get [5] 4 <| jk_iload 3 <| jk_int 1 <| jk_iadd <| jk_xald 25 <| jk_aast 25 <| jk_iinc 3 1 <| K 13
set_option maxRecDepth 100000 in
set_option maxHeartbeats 4000000 in
theorem tX6_moveToEnd_13 (l : Launch) (n : Nat) {K : Nat → jK} (hK : ∀ b, jr_D l cX6_moveToEnd 4 "MeetingKit$Monitor" (Option.none : Option Jvm.ClassFile.FieldType) "moveToEnd" 1 21 (K b) b) : jr_D l cX6_moveToEnd 4 "MeetingKit$Monitor" (Option.none : Option Jvm.ClassFile.FieldType) "moveToEnd" 1 21 (kX6_moveToEnd_13 n K) 13 := by
  unfold kX6_moveToEnd_13
  refine js_kill ?_
  refine js_iload_n dX6_moveToEnd_13 ?_
  refine js_aload_n dX6_moveToEnd_14 ?_
  refine js_get dX6_moveToEnd_15 jf_5_5 tw_200 (Or.inr tw_201) ?_
  refine js_iconst dX6_moveToEnd_18 ?_
  refine js_isub dX6_moveToEnd_19 ?_
  refine js_icmpge (tgt := 43) dX6_moveToEnd_20 (by decide) ?_ ?_
  · refine js_aload_n dX6_moveToEnd_43 ?_
    refine js_get dX6_moveToEnd_44 jf_4_5 tw_192 (Or.inr tw_193) ?_
    refine js_aload_n dX6_moveToEnd_47 ?_
    refine js_get dX6_moveToEnd_48 jf_5_5 tw_200 (Or.inr tw_201) ?_
    refine js_iconst dX6_moveToEnd_51 ?_
    refine js_isub dX6_moveToEnd_52 ?_
    refine js_aload_n dX6_moveToEnd_53 ?_
    refine js_aast rfl (by decide) may_25 dX6_moveToEnd_54 ?_
    exact js_vret dX6_moveToEnd_55 rfl
  · refine js_aload_n dX6_moveToEnd_23 ?_
    refine js_get dX6_moveToEnd_24 jf_4_5 tw_192 (Or.inr tw_193) ?_
    refine js_iload_n dX6_moveToEnd_27 ?_
    refine js_aload_n dX6_moveToEnd_28 ?_
    refine js_get dX6_moveToEnd_29 jf_4_5 tw_192 (Or.inr tw_193) ?_
    refine js_iload_n dX6_moveToEnd_32 ?_
    refine js_iconst dX6_moveToEnd_33 ?_
    refine js_iadd dX6_moveToEnd_34 ?_
    refine js_aald (by decide) dX6_moveToEnd_35 ?_
    refine js_aast rfl (by decide) may_25 dX6_moveToEnd_36 ?_
    refine js_iinc dX6_moveToEnd_37 (by decide) ?_
    refine js_goto (tgt := 13) dX6_moveToEnd_40 (by decide) ?_
    exact hK 13
def kX6_moveToEnd_b (n : Nat) (K : Nat → jK) (b : Nat) : jK := if b = 0 then kX6_moveToEnd_0 n K else if b = 13 then kX6_moveToEnd_13 n K else jk_none
def kX6_moveToEnd (n : Nat) : jK := jk_fix (kX6_moveToEnd_b n) n 0
theorem tX6_moveToEnd (l : Launch) (n : Nat) : jr_D l cX6_moveToEnd 4 "MeetingKit$Monitor" (Option.none : Option Jvm.ClassFile.FieldType) "moveToEnd" 1 21 (kX6_moveToEnd n) 0 := js_fix (F := kX6_moveToEnd_b n) (fun K hK b => js_blk (tX6_moveToEnd_0 l n hK) (js_blk (tX6_moveToEnd_13 l n hK) (js_none))) n 0
def fX6_moveToEnd (n : Nat) : jF := jm_run 2 4 (kX6_moveToEnd n)
theorem sX6_moveToEnd (l : Launch) (n : Nat) : jr_F l (⟨"MeetingKit$Monitor", "moveToEnd", "(I)V"⟩ : MethodName) cX6_moveToEnd 4 (Option.none : Option Jvm.ClassFile.FieldType) 1 21 (fX6_moveToEnd n) := js_met (by decide +kernel) (by decide) (tX6_moveToEnd l n)
theorem dX6_wake_0 : decode cX6_wake 0 = .ok (.iconst 0, 1) := by decide +kernel
theorem dX6_wake_1 : decode cX6_wake 1 = .ok (.istore_n 3, 1) := by decide +kernel
theorem dX6_wake_2 : decode cX6_wake 2 = .ok (.iconst 0, 1) := by decide +kernel
theorem dX6_wake_3 : decode cX6_wake 3 = .ok (.istore 4, 2) := by decide +kernel
theorem dX6_wake_5 : decode cX6_wake 5 = .ok (.iload 4, 2) := by decide +kernel
theorem dX6_wake_7 : decode cX6_wake 7 = .ok (.iload_n 2, 1) := by decide +kernel
theorem dX6_wake_8 : decode cX6_wake 8 = .ok (.if_icmp .ge 54, 3) := by decide +kernel
theorem dX6_wake_11 : decode cX6_wake 11 = .ok (.aload_n 0, 1) := by decide +kernel
theorem dX6_wake_12 : decode cX6_wake 12 = .ok (.iload_n 1, 1) := by decide +kernel
theorem dX6_wake_13 : decode cX6_wake 13 = .ok (.invokevirtual 42, 3) := by decide +kernel
theorem dX6_wake_16 : decode cX6_wake 16 = .ok (.istore 5, 2) := by decide +kernel
theorem dX6_wake_18 : decode cX6_wake 18 = .ok (.aload_n 0, 1) := by decide +kernel
theorem dX6_wake_19 : decode cX6_wake 19 = .ok (.iload 5, 2) := by decide +kernel
theorem dX6_wake_21 : decode cX6_wake 21 = .ok (.invokevirtual 59, 3) := by decide +kernel
theorem dX6_wake_24 : decode cX6_wake 24 = .ok (.astore 6, 2) := by decide +kernel
theorem dX6_wake_26 : decode cX6_wake 26 = .ok (.aload 6, 2) := by decide +kernel
theorem dX6_wake_28 : decode cX6_wake 28 = .ok (.ifnonnull 5, 3) := by decide +kernel
theorem dX6_wake_31 : decode cX6_wake 31 = .ok (.iload_n 3, 1) := by decide +kernel
theorem dX6_wake_32 : decode cX6_wake 32 = .ok (.ireturn, 1) := by decide +kernel
theorem dX6_wake_33 : decode cX6_wake 33 = .ok (.aload_n 0, 1) := by decide +kernel
theorem dX6_wake_34 : decode cX6_wake 34 = .ok (.iload 5, 2) := by decide +kernel
theorem dX6_wake_36 : decode cX6_wake 36 = .ok (.invokevirtual 62, 3) := by decide +kernel
theorem dX6_wake_39 : decode cX6_wake 39 = .ok (.aload_n 0, 1) := by decide +kernel
theorem dX6_wake_40 : decode cX6_wake 40 = .ok (.getfield 9, 3) := by decide +kernel
theorem dX6_wake_43 : decode cX6_wake 43 = .ok (.aload 6, 2) := by decide +kernel
theorem dX6_wake_45 : decode cX6_wake 45 = .ok (.getfield 19, 3) := by decide +kernel
theorem dX6_wake_48 : decode cX6_wake 48 = .ok (.getfield 25, 3) := by decide +kernel
theorem dX6_wake_51 : decode cX6_wake 51 = .ok (.iconst (-1), 1) := by decide +kernel
theorem dX6_wake_52 : decode cX6_wake 52 = .ok (.iastore, 1) := by decide +kernel
theorem dX6_wake_53 : decode cX6_wake 53 = .ok (.iinc 3 1, 3) := by decide +kernel
theorem dX6_wake_56 : decode cX6_wake 56 = .ok (.iinc 4 1, 3) := by decide +kernel
theorem dX6_wake_59 : decode cX6_wake 59 = .ok (.goto (-54), 3) := by decide +kernel
theorem dX6_wake_62 : decode cX6_wake 62 = .ok (.iload_n 3, 1) := by decide +kernel
theorem dX6_wake_63 : decode cX6_wake 63 = .ok (.ireturn, 1) := by decide +kernel
def kX6_wake_0 (n : Nat) (K : Nat → jK) : jK := jk_int 0 <| jk_istore 3 <| jk_int 0 <| jk_istore 4 <| K 5
set_option maxRecDepth 100000 in
set_option maxHeartbeats 4000000 in
theorem tX6_wake_0 (l : Launch) (n : Nat) {K : Nat → jK} (hK : ∀ b, jr_D l cX6_wake 7 "MeetingKit$Monitor" (Option.some Jvm.ClassFile.FieldType.int) "wake" 2 44 (K b) b) : jr_D l cX6_wake 7 "MeetingKit$Monitor" (Option.some Jvm.ClassFile.FieldType.int) "wake" 2 44 (kX6_wake_0 n K) 0 := by
  unfold kX6_wake_0
  refine js_iconst dX6_wake_0 ?_
  refine js_istore_n dX6_wake_1 (by decide) ?_
  refine js_iconst dX6_wake_2 ?_
  refine js_istore dX6_wake_3 (by decide) ?_
  exact hK 5
def kX6_wake_5 (n : Nat) (K : Nat → jK) : jK := jk_kill 5 <| jk_kill 6 <| jk_iload 4 <| jk_iload 2 <| jk_icmpge (jk_iload 3 <| jk_iret) <| jk_aload 0 <| jk_iload 1 <| jk_vcall [(5, fX6_firstPlaceOf n)] 1 <| jk_istore 5 <| jk_aload 0 <| jk_iload 5 <| jk_vcall [(5, fX2_waiter n)] 1 <| jk_astore 6 <| jk_aload 6 <| jk_ifnonnull (jk_aload 0 <| jk_iload 5 <| jk_vcall [(5, fX6_moveToEnd n)] 1 <| jk_aload 0 <| jk_get [5] 8 <| jk_aload 6 <| jk_get [9] 0 <| jk_get [0] 0 <| jk_int (-1) <| jk_iast <| jk_iinc 3 1 <| jk_iinc 4 1 <| K 5) <| jk_iload 3 <| jk_iret
set_option maxRecDepth 100000 in
set_option maxHeartbeats 4000000 in
theorem tX6_wake_5 (l : Launch) (n : Nat) {K : Nat → jK} (hK : ∀ b, jr_D l cX6_wake 7 "MeetingKit$Monitor" (Option.some Jvm.ClassFile.FieldType.int) "wake" 2 44 (K b) b) : jr_D l cX6_wake 7 "MeetingKit$Monitor" (Option.some Jvm.ClassFile.FieldType.int) "wake" 2 44 (kX6_wake_5 n K) 5 := by
  unfold kX6_wake_5
  refine js_kill ?_
  refine js_kill ?_
  refine js_iload dX6_wake_5 ?_
  refine js_iload_n dX6_wake_7 ?_
  refine js_icmpge (tgt := 62) dX6_wake_8 (by decide) ?_ ?_
  · refine js_iload_n dX6_wake_62 ?_
    exact js_iret dX6_wake_63 rfl
  · refine js_aload_n dX6_wake_11 ?_
    refine js_iload_n dX6_wake_12 ?_
    refine js_callv dX6_wake_13 (⟨⟨_, _, _, _, _, _, _, ⟨rfl, (show (5 : Nat) < 20 by decide), sX6_firstPlaceOf l n, by decide, by decide, tw_646, tw_112, tw_645⟩, Or.inl ⟨by decide +kernel, by decide +kernel, by decide +kernel, tw_643, tw_28⟩⟩, trivial⟩) ?_
    refine js_istore dX6_wake_16 (by decide) ?_
    refine js_aload_n dX6_wake_18 ?_
    refine js_iload dX6_wake_19 ?_
    refine js_callv dX6_wake_21 (⟨⟨_, _, _, _, _, _, _, ⟨rfl, (show (5 : Nat) < 20 by decide), sX2_waiter l n, by decide, by decide, tw_655, tw_104, tw_654⟩, Or.inr ⟨⟨"MeetingKit$Monitor", "waiter", "(I)LMeetingKit$Step;"⟩, "MeetingKit$Device", by decide +kernel, by decide +kernel, by decide +kernel, tw_650, tw_651, tw_653, Or.inl ⟨_, _, _, tw_654, tw_655⟩⟩⟩, trivial⟩) ?_
    refine js_astore dX6_wake_24 (by decide) ?_
    refine js_aload dX6_wake_26 ?_
    refine js_ifnonnull (tgt := 33) dX6_wake_28 (by decide) ?_ ?_
    · refine js_aload_n dX6_wake_33 ?_
      refine js_iload dX6_wake_34 ?_
      refine js_callv dX6_wake_36 (⟨⟨_, _, _, _, _, _, _, ⟨rfl, (show (5 : Nat) < 20 by decide), sX6_moveToEnd l n, by decide, by decide, tw_816, tw_112, tw_815⟩, Or.inl ⟨by decide +kernel, by decide +kernel, by decide +kernel, tw_813, tw_47⟩⟩, trivial⟩) ?_
      refine js_aload_n dX6_wake_39 ?_
      refine js_get dX6_wake_40 jf_8_5 tw_349 (Or.inl rfl) ?_
      refine js_aload dX6_wake_43 ?_
      refine js_get dX6_wake_45 jf_0_9 tw_449 (Or.inl rfl) ?_
      refine js_get dX6_wake_48 jf_0_0 tw_396 (Or.inl rfl) ?_
      refine js_iconst dX6_wake_51 ?_
      refine js_iast dX6_wake_52 ?_
      refine js_iinc dX6_wake_53 (by decide) ?_
      refine js_iinc dX6_wake_56 (by decide) ?_
      refine js_goto (tgt := 5) dX6_wake_59 (by decide) ?_
      exact hK 5
    · refine js_iload_n dX6_wake_31 ?_
      exact js_iret dX6_wake_32 rfl
def kX6_wake_b (n : Nat) (K : Nat → jK) (b : Nat) : jK := if b = 0 then kX6_wake_0 n K else if b = 5 then kX6_wake_5 n K else jk_none
def kX6_wake (n : Nat) : jK := jk_fix (kX6_wake_b n) n 0
theorem tX6_wake (l : Launch) (n : Nat) : jr_D l cX6_wake 7 "MeetingKit$Monitor" (Option.some Jvm.ClassFile.FieldType.int) "wake" 2 44 (kX6_wake n) 0 := js_fix (F := kX6_wake_b n) (fun K hK b => js_blk (tX6_wake_0 l n hK) (js_blk (tX6_wake_5 l n hK) (js_none))) n 0
def fX6_wake (n : Nat) : jF := jm_run 3 7 (kX6_wake n)
theorem sX6_wake (l : Launch) (n : Nat) : jr_F l (⟨"MeetingKit$Monitor", "wake", "(II)I"⟩ : MethodName) cX6_wake 7 (Option.some Jvm.ClassFile.FieldType.int) 2 44 (fX6_wake n) := js_met (by decide +kernel) (by decide) (tX6_wake l n)
