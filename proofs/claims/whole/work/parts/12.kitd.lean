theorem dX11_closeDevices_0 : decode cX11_closeDevices 0 = .ok (.iconst 0, 1) := by decide +kernel
theorem dX11_closeDevices_1 : decode cX11_closeDevices 1 = .ok (.istore_n 1, 1) := by decide +kernel
theorem dX11_closeDevices_2 : decode cX11_closeDevices 2 = .ok (.iload_n 1, 1) := by decide +kernel
theorem dX11_closeDevices_3 : decode cX11_closeDevices 3 = .ok (.aload_n 0, 1) := by decide +kernel
theorem dX11_closeDevices_4 : decode cX11_closeDevices 4 = .ok (.getfield 25, 3) := by decide +kernel
theorem dX11_closeDevices_7 : decode cX11_closeDevices 7 = .ok (.if_icmp .ge 47, 3) := by decide +kernel
theorem dX11_closeDevices_10 : decode cX11_closeDevices 10 = .ok (.aload_n 0, 1) := by decide +kernel
theorem dX11_closeDevices_11 : decode cX11_closeDevices 11 = .ok (.getfield 17, 3) := by decide +kernel
theorem dX11_closeDevices_14 : decode cX11_closeDevices 14 = .ok (.iload_n 1, 1) := by decide +kernel
theorem dX11_closeDevices_15 : decode cX11_closeDevices 15 = .ok (.aaload, 1) := by decide +kernel
theorem dX11_closeDevices_16 : decode cX11_closeDevices 16 = .ok (.ifnull 32, 3) := by decide +kernel
theorem dX11_closeDevices_19 : decode cX11_closeDevices 19 = .ok (.aload_n 0, 1) := by decide +kernel
theorem dX11_closeDevices_20 : decode cX11_closeDevices 20 = .ok (.getfield 17, 3) := by decide +kernel
theorem dX11_closeDevices_23 : decode cX11_closeDevices 23 = .ok (.iload_n 1, 1) := by decide +kernel
theorem dX11_closeDevices_24 : decode cX11_closeDevices 24 = .ok (.aaload, 1) := by decide +kernel
theorem dX11_closeDevices_25 : decode cX11_closeDevices 25 = .ok (.getfield 74, 3) := by decide +kernel
theorem dX11_closeDevices_28 : decode cX11_closeDevices 28 = .ok (.aload_n 0, 1) := by decide +kernel
theorem dX11_closeDevices_29 : decode cX11_closeDevices 29 = .ok (.getfield 80, 3) := by decide +kernel
theorem dX11_closeDevices_32 : decode cX11_closeDevices 32 = .ok (.if_icmp .ne 16, 3) := by decide +kernel
theorem dX11_closeDevices_35 : decode cX11_closeDevices 35 = .ok (.aload_n 0, 1) := by decide +kernel
theorem dX11_closeDevices_36 : decode cX11_closeDevices 36 = .ok (.getfield 17, 3) := by decide +kernel
theorem dX11_closeDevices_39 : decode cX11_closeDevices 39 = .ok (.iload_n 1, 1) := by decide +kernel
theorem dX11_closeDevices_40 : decode cX11_closeDevices 40 = .ok (.aaload, 1) := by decide +kernel
theorem dX11_closeDevices_41 : decode cX11_closeDevices 41 = .ok (.aload_n 0, 1) := by decide +kernel
theorem dX11_closeDevices_42 : decode cX11_closeDevices 42 = .ok (.getfield 80, 3) := by decide +kernel
theorem dX11_closeDevices_45 : decode cX11_closeDevices 45 = .ok (.invokevirtual 210, 3) := by decide +kernel
theorem dX11_closeDevices_48 : decode cX11_closeDevices 48 = .ok (.iinc 1 1, 3) := by decide +kernel
theorem dX11_closeDevices_51 : decode cX11_closeDevices 51 = .ok (.goto (-49), 3) := by decide +kernel
theorem dX11_closeDevices_54 : decode cX11_closeDevices 54 = .ok (.return_, 1) := by decide +kernel
def kX11_closeDevices_0 (n : Nat) (K : Nat → jK) : jK := jk_int 0 <| jk_istore 1 <| K 2
set_option maxRecDepth 100000 in
set_option maxHeartbeats 4000000 in
theorem tX11_closeDevices_0 (l : Launch) (n : Nat) {K : Nat → jK} (hK : ∀ b, jr_D l cX11_closeDevices 2 "MeetingKit" (Option.none : Option Jvm.ClassFile.FieldType) "closeDevices" 3 67 (K b) b) : jr_D l cX11_closeDevices 2 "MeetingKit" (Option.none : Option Jvm.ClassFile.FieldType) "closeDevices" 3 67 (kX11_closeDevices_0 n K) 0 := by
  unfold kX11_closeDevices_0
  refine js_iconst dX11_closeDevices_0 ?_
  refine js_istore_n dX11_closeDevices_1 (by decide) ?_
  exact hK 2
def kX11_closeDevices_2 (n : Nat) (K : Nat → jK) : jK := jk_iload 1 <| jk_aload 0 <| jk_get [10] 3 <| jk_icmpge (jk_vret) <| jk_aload 0 <| jk_get [10] 2 <| jk_iload 1 <| jk_xald 24 <| jk_ifnull (K 48) <| jk_aload 0 <| jk_get [10] 2 <| jk_iload 1 <| jk_xald 24 <| jk_get [1, 2, 3, 4, 5, 6, 7, 8] 2 <| jk_aload 0 <| jk_get [10] 8 <| jk_icmpne (K 48) <| jk_aload 0 <| jk_get [10] 2 <| jk_iload 1 <| jk_xald 24 <| jk_aload 0 <| jk_get [10] 8 <| jk_vcall [(1, fX2_shut n), (2, fX2_shut n), (3, fX2_shut n), (4, fX2_shut n), (5, fX2_shut n), (6, fX2_shut n), (7, fX2_shut n), (8, fX2_shut n)] 1 <| K 48
set_option maxRecDepth 100000 in
set_option maxHeartbeats 4000000 in
theorem tX11_closeDevices_2 (l : Launch) (n : Nat) {K : Nat → jK} (hK : ∀ b, jr_D l cX11_closeDevices 2 "MeetingKit" (Option.none : Option Jvm.ClassFile.FieldType) "closeDevices" 3 67 (K b) b) : jr_D l cX11_closeDevices 2 "MeetingKit" (Option.none : Option Jvm.ClassFile.FieldType) "closeDevices" 3 67 (kX11_closeDevices_2 n K) 2 := by
  unfold kX11_closeDevices_2
  refine js_iload_n dX11_closeDevices_2 ?_
  refine js_aload_n dX11_closeDevices_3 ?_
  refine js_get dX11_closeDevices_4 jf_3_10 tw_131 (Or.inl rfl) ?_
  refine js_icmpge (tgt := 54) dX11_closeDevices_7 (by decide) ?_ ?_
  · exact js_vret dX11_closeDevices_54 rfl
  · refine js_aload_n dX11_closeDevices_10 ?_
    refine js_get dX11_closeDevices_11 jf_2_10 tw_130 (Or.inl rfl) ?_
    refine js_iload_n dX11_closeDevices_14 ?_
    refine js_aald (by decide) dX11_closeDevices_15 ?_
    refine js_ifnull (tgt := 48) dX11_closeDevices_16 (by decide) ?_ ?_
    · exact hK 48
    · refine js_aload_n dX11_closeDevices_19 ?_
      refine js_get dX11_closeDevices_20 jf_2_10 tw_130 (Or.inl rfl) ?_
      refine js_iload_n dX11_closeDevices_23 ?_
      refine js_aald (by decide) dX11_closeDevices_24 ?_
      refine js_get dX11_closeDevices_25 jf_2_1_2_3_4_5_6_7_8 tw_188 (Or.inl rfl) ?_
      refine js_aload_n dX11_closeDevices_28 ?_
      refine js_get dX11_closeDevices_29 jf_8_10 tw_136 (Or.inl rfl) ?_
      refine js_icmpne (tgt := 48) dX11_closeDevices_32 (by decide) ?_ ?_
      · exact hK 48
      · refine js_aload_n dX11_closeDevices_35 ?_
        refine js_get dX11_closeDevices_36 jf_2_10 tw_130 (Or.inl rfl) ?_
        refine js_iload_n dX11_closeDevices_39 ?_
        refine js_aald (by decide) dX11_closeDevices_40 ?_
        refine js_aload_n dX11_closeDevices_41 ?_
        refine js_get dX11_closeDevices_42 jf_8_10 tw_136 (Or.inl rfl) ?_
        refine js_callv dX11_closeDevices_45 (⟨⟨_, _, _, _, _, _, _, ⟨rfl, (show (1 : Nat) < 20 by decide), sX2_shut l n, by decide, by decide, tw_709, tw_104, tw_699⟩, Or.inr ⟨⟨"MeetingKit$Device", "shut", "(I)V"⟩, "MeetingKit$Device", by decide +kernel, by decide +kernel, by decide +kernel, tw_698, tw_700, tw_701, Or.inl ⟨_, _, _, tw_699, tw_709⟩⟩⟩, ⟨⟨_, _, _, _, _, _, _, ⟨rfl, (show (2 : Nat) < 20 by decide), sX2_shut l n, by decide, by decide, tw_709, tw_104, tw_699⟩, Or.inr ⟨⟨"MeetingKit$Device", "shut", "(I)V"⟩, "MeetingKit$Device", by decide +kernel, by decide +kernel, by decide +kernel, tw_698, tw_700, tw_702, Or.inl ⟨_, _, _, tw_699, tw_709⟩⟩⟩, ⟨⟨_, _, _, _, _, _, _, ⟨rfl, (show (3 : Nat) < 20 by decide), sX2_shut l n, by decide, by decide, tw_709, tw_104, tw_699⟩, Or.inr ⟨⟨"MeetingKit$Device", "shut", "(I)V"⟩, "MeetingKit$Device", by decide +kernel, by decide +kernel, by decide +kernel, tw_698, tw_700, tw_703, Or.inl ⟨_, _, _, tw_699, tw_709⟩⟩⟩, ⟨⟨_, _, _, _, _, _, _, ⟨rfl, (show (4 : Nat) < 20 by decide), sX2_shut l n, by decide, by decide, tw_709, tw_104, tw_699⟩, Or.inr ⟨⟨"MeetingKit$Device", "shut", "(I)V"⟩, "MeetingKit$Device", by decide +kernel, by decide +kernel, by decide +kernel, tw_698, tw_700, tw_704, Or.inl ⟨_, _, _, tw_699, tw_709⟩⟩⟩, ⟨⟨_, _, _, _, _, _, _, ⟨rfl, (show (5 : Nat) < 20 by decide), sX2_shut l n, by decide, by decide, tw_709, tw_104, tw_699⟩, Or.inr ⟨⟨"MeetingKit$Device", "shut", "(I)V"⟩, "MeetingKit$Device", by decide +kernel, by decide +kernel, by decide +kernel, tw_698, tw_700, tw_705, Or.inl ⟨_, _, _, tw_699, tw_709⟩⟩⟩, ⟨⟨_, _, _, _, _, _, _, ⟨rfl, (show (6 : Nat) < 20 by decide), sX2_shut l n, by decide, by decide, tw_709, tw_104, tw_699⟩, Or.inr ⟨⟨"MeetingKit$Device", "shut", "(I)V"⟩, "MeetingKit$Device", by decide +kernel, by decide +kernel, by decide +kernel, tw_698, tw_700, tw_706, Or.inl ⟨_, _, _, tw_699, tw_709⟩⟩⟩, ⟨⟨_, _, _, _, _, _, _, ⟨rfl, (show (7 : Nat) < 20 by decide), sX2_shut l n, by decide, by decide, tw_709, tw_104, tw_699⟩, Or.inr ⟨⟨"MeetingKit$Device", "shut", "(I)V"⟩, "MeetingKit$Device", by decide +kernel, by decide +kernel, by decide +kernel, tw_698, tw_700, tw_707, Or.inl ⟨_, _, _, tw_699, tw_709⟩⟩⟩, ⟨⟨_, _, _, _, _, _, _, ⟨rfl, (show (8 : Nat) < 20 by decide), sX2_shut l n, by decide, by decide, tw_709, tw_104, tw_699⟩, Or.inr ⟨⟨"MeetingKit$Device", "shut", "(I)V"⟩, "MeetingKit$Device", by decide +kernel, by decide +kernel, by decide +kernel, tw_698, tw_700, tw_708, Or.inl ⟨_, _, _, tw_699, tw_709⟩⟩⟩, trivial⟩⟩⟩⟩⟩⟩⟩⟩) ?_
        exact hK 48
def kX11_closeDevices_48 (n : Nat) (K : Nat → jK) : jK := jk_iinc 1 1 <| K 2
set_option maxRecDepth 100000 in
set_option maxHeartbeats 4000000 in
theorem tX11_closeDevices_48 (l : Launch) (n : Nat) {K : Nat → jK} (hK : ∀ b, jr_D l cX11_closeDevices 2 "MeetingKit" (Option.none : Option Jvm.ClassFile.FieldType) "closeDevices" 3 67 (K b) b) : jr_D l cX11_closeDevices 2 "MeetingKit" (Option.none : Option Jvm.ClassFile.FieldType) "closeDevices" 3 67 (kX11_closeDevices_48 n K) 48 := by
  unfold kX11_closeDevices_48
  refine js_iinc dX11_closeDevices_48 (by decide) ?_
  refine js_goto (tgt := 2) dX11_closeDevices_51 (by decide) ?_
  exact hK 2
def kX11_closeDevices_b (n : Nat) (K : Nat → jK) (b : Nat) : jK := if b = 0 then kX11_closeDevices_0 n K else if b = 2 then kX11_closeDevices_2 n K else if b = 48 then kX11_closeDevices_48 n K else jk_none
def kX11_closeDevices (n : Nat) : jK := jk_fix (kX11_closeDevices_b n) n 0
theorem tX11_closeDevices (l : Launch) (n : Nat) : jr_D l cX11_closeDevices 2 "MeetingKit" (Option.none : Option Jvm.ClassFile.FieldType) "closeDevices" 3 67 (kX11_closeDevices n) 0 := js_fix (F := kX11_closeDevices_b n) (fun K hK b => js_blk (tX11_closeDevices_0 l n hK) (js_blk (tX11_closeDevices_2 l n hK) (js_blk (tX11_closeDevices_48 l n hK) (js_none)))) n 0
def fX11_closeDevices (n : Nat) : jF := jm_run 1 2 (kX11_closeDevices n)
theorem sX11_closeDevices (l : Launch) (n : Nat) : jr_F l (⟨"MeetingKit", "closeDevices", "()V"⟩ : MethodName) cX11_closeDevices 2 (Option.none : Option Jvm.ClassFile.FieldType) 3 67 (fX11_closeDevices n) := js_met (by decide +kernel) (by decide) (tX11_closeDevices l n)
theorem dX11_endPatience_0 : decode cX11_endPatience 0 = .ok (.iconst 0, 1) := by decide +kernel
theorem dX11_endPatience_1 : decode cX11_endPatience 1 = .ok (.istore_n 1, 1) := by decide +kernel
theorem dX11_endPatience_2 : decode cX11_endPatience 2 = .ok (.iload_n 1, 1) := by decide +kernel
theorem dX11_endPatience_3 : decode cX11_endPatience 3 = .ok (.aload_n 0, 1) := by decide +kernel
theorem dX11_endPatience_4 : decode cX11_endPatience 4 = .ok (.getfield 39, 3) := by decide +kernel
theorem dX11_endPatience_7 : decode cX11_endPatience 7 = .ok (.if_icmp .ge 72, 3) := by decide +kernel
theorem dX11_endPatience_10 : decode cX11_endPatience 10 = .ok (.aload_n 0, 1) := by decide +kernel
theorem dX11_endPatience_11 : decode cX11_endPatience 11 = .ok (.getfield 11, 3) := by decide +kernel
theorem dX11_endPatience_14 : decode cX11_endPatience 14 = .ok (.iload_n 1, 1) := by decide +kernel
theorem dX11_endPatience_15 : decode cX11_endPatience 15 = .ok (.aaload, 1) := by decide +kernel
theorem dX11_endPatience_16 : decode cX11_endPatience 16 = .ok (.ifnonnull 7, 3) := by decide +kernel
theorem dX11_endPatience_19 : decode cX11_endPatience 19 = .ok (.aconst_null, 1) := by decide +kernel
theorem dX11_endPatience_20 : decode cX11_endPatience 20 = .ok (.goto 12, 3) := by decide +kernel
theorem dX11_endPatience_23 : decode cX11_endPatience 23 = .ok (.aload_n 0, 1) := by decide +kernel
theorem dX11_endPatience_24 : decode cX11_endPatience 24 = .ok (.getfield 11, 3) := by decide +kernel
theorem dX11_endPatience_27 : decode cX11_endPatience 27 = .ok (.iload_n 1, 1) := by decide +kernel
theorem dX11_endPatience_28 : decode cX11_endPatience 28 = .ok (.aaload, 1) := by decide +kernel
theorem dX11_endPatience_29 : decode cX11_endPatience 29 = .ok (.getfield 102, 3) := by decide +kernel
theorem dX11_endPatience_32 : decode cX11_endPatience 32 = .ok (.astore_n 2, 1) := by decide +kernel
theorem dX11_endPatience_33 : decode cX11_endPatience 33 = .ok (.aload_n 2, 1) := by decide +kernel
theorem dX11_endPatience_34 : decode cX11_endPatience 34 = .ok (.ifnull 39, 3) := by decide +kernel
theorem dX11_endPatience_37 : decode cX11_endPatience 37 = .ok (.aload_n 2, 1) := by decide +kernel
theorem dX11_endPatience_38 : decode cX11_endPatience 38 = .ok (.getfield 213, 3) := by decide +kernel
theorem dX11_endPatience_41 : decode cX11_endPatience 41 = .ok (.ifCond .le 32, 3) := by decide +kernel
theorem dX11_endPatience_44 : decode cX11_endPatience 44 = .ok (.aload_n 0, 1) := by decide +kernel
theorem dX11_endPatience_45 : decode cX11_endPatience 45 = .ok (.getfield 80, 3) := by decide +kernel
theorem dX11_endPatience_48 : decode cX11_endPatience 48 = .ok (.aload_n 2, 1) := by decide +kernel
theorem dX11_endPatience_49 : decode cX11_endPatience 49 = .ok (.getfield 127, 3) := by decide +kernel
theorem dX11_endPatience_52 : decode cX11_endPatience 52 = .ok (.isub, 1) := by decide +kernel
theorem dX11_endPatience_53 : decode cX11_endPatience 53 = .ok (.aload_n 2, 1) := by decide +kernel
theorem dX11_endPatience_54 : decode cX11_endPatience 54 = .ok (.getfield 213, 3) := by decide +kernel
theorem dX11_endPatience_57 : decode cX11_endPatience 57 = .ok (.if_icmp .lt 16, 3) := by decide +kernel
theorem dX11_endPatience_60 : decode cX11_endPatience 60 = .ok (.aload_n 2, 1) := by decide +kernel
theorem dX11_endPatience_61 : decode cX11_endPatience 61 = .ok (.getfield 106, 3) := by decide +kernel
theorem dX11_endPatience_64 : decode cX11_endPatience 64 = .ok (.aload_n 2, 1) := by decide +kernel
theorem dX11_endPatience_65 : decode cX11_endPatience 65 = .ok (.iconst 3, 1) := by decide +kernel
theorem dX11_endPatience_66 : decode cX11_endPatience 66 = .ok (.aload_n 0, 1) := by decide +kernel
theorem dX11_endPatience_67 : decode cX11_endPatience 67 = .ok (.getfield 80, 3) := by decide +kernel
theorem dX11_endPatience_70 : decode cX11_endPatience 70 = .ok (.invokevirtual 206, 3) := by decide +kernel
theorem dX11_endPatience_73 : decode cX11_endPatience 73 = .ok (.iinc 1 1, 3) := by decide +kernel
theorem dX11_endPatience_76 : decode cX11_endPatience 76 = .ok (.goto (-74), 3) := by decide +kernel
theorem dX11_endPatience_79 : decode cX11_endPatience 79 = .ok (.return_, 1) := by decide +kernel
def kX11_endPatience_0 (n : Nat) (K : Nat → jK) : jK := jk_int 0 <| jk_istore 1 <| K 2
set_option maxRecDepth 100000 in
set_option maxHeartbeats 4000000 in
theorem tX11_endPatience_0 (l : Launch) (n : Nat) {K : Nat → jK} (hK : ∀ b, jr_D l cX11_endPatience 3 "MeetingKit" (Option.none : Option Jvm.ClassFile.FieldType) "endPatience" 5 108 (K b) b) : jr_D l cX11_endPatience 3 "MeetingKit" (Option.none : Option Jvm.ClassFile.FieldType) "endPatience" 5 108 (kX11_endPatience_0 n K) 0 := by
  unfold kX11_endPatience_0
  refine js_iconst dX11_endPatience_0 ?_
  refine js_istore_n dX11_endPatience_1 (by decide) ?_
  exact hK 2
def kX11_endPatience_2 (n : Nat) (K : Nat → jK) : jK := jk_kill 2 <| jk_iload 1 <| jk_aload 0 <| jk_get [10] 1 <| jk_icmpge (jk_vret) <| jk_aload 0 <| jk_get [10] 0 <| jk_iload 1 <| jk_xald 23 <| jk_ifnonnull (jk_aload 0 <| jk_get [10] 0 <| jk_iload 1 <| jk_xald 23 <| jk_get [0] 4 <| K 32) <| jk_null <| K 32
set_option maxRecDepth 100000 in
set_option maxHeartbeats 4000000 in
theorem tX11_endPatience_2 (l : Launch) (n : Nat) {K : Nat → jK} (hK : ∀ b, jr_D l cX11_endPatience 3 "MeetingKit" (Option.none : Option Jvm.ClassFile.FieldType) "endPatience" 5 108 (K b) b) : jr_D l cX11_endPatience 3 "MeetingKit" (Option.none : Option Jvm.ClassFile.FieldType) "endPatience" 5 108 (kX11_endPatience_2 n K) 2 := by
  unfold kX11_endPatience_2
  refine js_kill ?_
  refine js_iload_n dX11_endPatience_2 ?_
  refine js_aload_n dX11_endPatience_3 ?_
  refine js_get dX11_endPatience_4 jf_1_10 tw_129 (Or.inl rfl) ?_
  refine js_icmpge (tgt := 79) dX11_endPatience_7 (by decide) ?_ ?_
  · exact js_vret dX11_endPatience_79 rfl
  · refine js_aload_n dX11_endPatience_10 ?_
    refine js_get dX11_endPatience_11 jf_0_10 tw_128 (Or.inl rfl) ?_
    refine js_iload_n dX11_endPatience_14 ?_
    refine js_aald (by decide) dX11_endPatience_15 ?_
    refine js_ifnonnull (tgt := 23) dX11_endPatience_16 (by decide) ?_ ?_
    · refine js_aload_n dX11_endPatience_23 ?_
      refine js_get dX11_endPatience_24 jf_0_10 tw_128 (Or.inl rfl) ?_
      refine js_iload_n dX11_endPatience_27 ?_
      refine js_aald (by decide) dX11_endPatience_28 ?_
      refine js_get dX11_endPatience_29 jf_4_0 tw_408 (Or.inl rfl) ?_
      exact hK 32
    · refine js_null dX11_endPatience_19 ?_
      refine js_goto (tgt := 32) dX11_endPatience_20 (by decide) ?_
      exact hK 32
def kX11_endPatience_32 (n : Nat) (K : Nat → jK) : jK := jk_kill 2 <| jk_astore 2 <| jk_aload 2 <| jk_ifnull (K 73) <| jk_aload 2 <| jk_get [9] 4 <| jk_ifle (K 73) <| jk_aload 0 <| jk_get [10] 8 <| jk_aload 2 <| jk_get [9] 7 <| jk_isub <| jk_aload 2 <| jk_get [9] 4 <| jk_icmplt (K 73) <| jk_aload 2 <| jk_get [9] 1 <| jk_aload 2 <| jk_int 3 <| jk_aload 0 <| jk_get [10] 8 <| jk_vcall [(1, fX2_giveUp n), (2, fX2_giveUp n), (3, fX2_giveUp n), (4, fX2_giveUp n), (5, fX2_giveUp n), (6, fX2_giveUp n), (7, fX2_giveUp n), (8, fX2_giveUp n)] 3 <| K 73
set_option maxRecDepth 100000 in
set_option maxHeartbeats 4000000 in
theorem tX11_endPatience_32 (l : Launch) (n : Nat) {K : Nat → jK} (hK : ∀ b, jr_D l cX11_endPatience 3 "MeetingKit" (Option.none : Option Jvm.ClassFile.FieldType) "endPatience" 5 108 (K b) b) : jr_D l cX11_endPatience 3 "MeetingKit" (Option.none : Option Jvm.ClassFile.FieldType) "endPatience" 5 108 (kX11_endPatience_32 n K) 32 := by
  unfold kX11_endPatience_32
  refine js_kill ?_
  refine js_astore_n dX11_endPatience_32 (by decide) ?_
  refine js_aload_n dX11_endPatience_33 ?_
  refine js_ifnull (tgt := 73) dX11_endPatience_34 (by decide) ?_ ?_
  · exact hK 73
  · refine js_aload_n dX11_endPatience_37 ?_
    refine js_get dX11_endPatience_38 jf_4_9 tw_474 (Or.inl rfl) ?_
    refine js_ifle (tgt := 73) dX11_endPatience_41 (by decide) ?_ ?_
    · exact hK 73
    · refine js_aload_n dX11_endPatience_44 ?_
      refine js_get dX11_endPatience_45 jf_8_10 tw_136 (Or.inl rfl) ?_
      refine js_aload_n dX11_endPatience_48 ?_
      refine js_get dX11_endPatience_49 jf_7_9 tw_489 (Or.inl rfl) ?_
      refine js_isub dX11_endPatience_52 ?_
      refine js_aload_n dX11_endPatience_53 ?_
      refine js_get dX11_endPatience_54 jf_4_9 tw_474 (Or.inl rfl) ?_
      refine js_icmplt (tgt := 73) dX11_endPatience_57 (by decide) ?_ ?_
      · exact hK 73
      · refine js_aload_n dX11_endPatience_60 ?_
        refine js_get dX11_endPatience_61 jf_1_9 tw_455 (Or.inl rfl) ?_
        refine js_aload_n dX11_endPatience_64 ?_
        refine js_iconst dX11_endPatience_65 ?_
        refine js_aload_n dX11_endPatience_66 ?_
        refine js_get dX11_endPatience_67 jf_8_10 tw_136 (Or.inl rfl) ?_
        refine js_callv dX11_endPatience_70 (⟨⟨_, _, _, _, _, _, _, ⟨rfl, (show (1 : Nat) < 20 by decide), sX2_giveUp l n, by decide, by decide, tw_560, tw_104, tw_550⟩, Or.inr ⟨⟨"MeetingKit$Device", "giveUp", "(LMeetingKit$Step;II)V"⟩, "MeetingKit$Device", by decide +kernel, by decide +kernel, by decide +kernel, tw_549, tw_551, tw_552, Or.inl ⟨_, _, _, tw_550, tw_560⟩⟩⟩, ⟨⟨_, _, _, _, _, _, _, ⟨rfl, (show (2 : Nat) < 20 by decide), sX2_giveUp l n, by decide, by decide, tw_560, tw_104, tw_550⟩, Or.inr ⟨⟨"MeetingKit$Device", "giveUp", "(LMeetingKit$Step;II)V"⟩, "MeetingKit$Device", by decide +kernel, by decide +kernel, by decide +kernel, tw_549, tw_551, tw_553, Or.inl ⟨_, _, _, tw_550, tw_560⟩⟩⟩, ⟨⟨_, _, _, _, _, _, _, ⟨rfl, (show (3 : Nat) < 20 by decide), sX2_giveUp l n, by decide, by decide, tw_560, tw_104, tw_550⟩, Or.inr ⟨⟨"MeetingKit$Device", "giveUp", "(LMeetingKit$Step;II)V"⟩, "MeetingKit$Device", by decide +kernel, by decide +kernel, by decide +kernel, tw_549, tw_551, tw_554, Or.inl ⟨_, _, _, tw_550, tw_560⟩⟩⟩, ⟨⟨_, _, _, _, _, _, _, ⟨rfl, (show (4 : Nat) < 20 by decide), sX2_giveUp l n, by decide, by decide, tw_560, tw_104, tw_550⟩, Or.inr ⟨⟨"MeetingKit$Device", "giveUp", "(LMeetingKit$Step;II)V"⟩, "MeetingKit$Device", by decide +kernel, by decide +kernel, by decide +kernel, tw_549, tw_551, tw_555, Or.inl ⟨_, _, _, tw_550, tw_560⟩⟩⟩, ⟨⟨_, _, _, _, _, _, _, ⟨rfl, (show (5 : Nat) < 20 by decide), sX2_giveUp l n, by decide, by decide, tw_560, tw_104, tw_550⟩, Or.inr ⟨⟨"MeetingKit$Device", "giveUp", "(LMeetingKit$Step;II)V"⟩, "MeetingKit$Device", by decide +kernel, by decide +kernel, by decide +kernel, tw_549, tw_551, tw_556, Or.inl ⟨_, _, _, tw_550, tw_560⟩⟩⟩, ⟨⟨_, _, _, _, _, _, _, ⟨rfl, (show (6 : Nat) < 20 by decide), sX2_giveUp l n, by decide, by decide, tw_560, tw_104, tw_550⟩, Or.inr ⟨⟨"MeetingKit$Device", "giveUp", "(LMeetingKit$Step;II)V"⟩, "MeetingKit$Device", by decide +kernel, by decide +kernel, by decide +kernel, tw_549, tw_551, tw_557, Or.inl ⟨_, _, _, tw_550, tw_560⟩⟩⟩, ⟨⟨_, _, _, _, _, _, _, ⟨rfl, (show (7 : Nat) < 20 by decide), sX2_giveUp l n, by decide, by decide, tw_560, tw_104, tw_550⟩, Or.inr ⟨⟨"MeetingKit$Device", "giveUp", "(LMeetingKit$Step;II)V"⟩, "MeetingKit$Device", by decide +kernel, by decide +kernel, by decide +kernel, tw_549, tw_551, tw_558, Or.inl ⟨_, _, _, tw_550, tw_560⟩⟩⟩, ⟨⟨_, _, _, _, _, _, _, ⟨rfl, (show (8 : Nat) < 20 by decide), sX2_giveUp l n, by decide, by decide, tw_560, tw_104, tw_550⟩, Or.inr ⟨⟨"MeetingKit$Device", "giveUp", "(LMeetingKit$Step;II)V"⟩, "MeetingKit$Device", by decide +kernel, by decide +kernel, by decide +kernel, tw_549, tw_551, tw_559, Or.inl ⟨_, _, _, tw_550, tw_560⟩⟩⟩, trivial⟩⟩⟩⟩⟩⟩⟩⟩) ?_
        exact hK 73
def kX11_endPatience_73 (n : Nat) (K : Nat → jK) : jK := jk_kill 2 <| jk_iinc 1 1 <| K 2
set_option maxRecDepth 100000 in
set_option maxHeartbeats 4000000 in
theorem tX11_endPatience_73 (l : Launch) (n : Nat) {K : Nat → jK} (hK : ∀ b, jr_D l cX11_endPatience 3 "MeetingKit" (Option.none : Option Jvm.ClassFile.FieldType) "endPatience" 5 108 (K b) b) : jr_D l cX11_endPatience 3 "MeetingKit" (Option.none : Option Jvm.ClassFile.FieldType) "endPatience" 5 108 (kX11_endPatience_73 n K) 73 := by
  unfold kX11_endPatience_73
  refine js_kill ?_
  refine js_iinc dX11_endPatience_73 (by decide) ?_
  refine js_goto (tgt := 2) dX11_endPatience_76 (by decide) ?_
  exact hK 2
def kX11_endPatience_b (n : Nat) (K : Nat → jK) (b : Nat) : jK := if b = 0 then kX11_endPatience_0 n K else if b = 2 then kX11_endPatience_2 n K else if b = 32 then kX11_endPatience_32 n K else if b = 73 then kX11_endPatience_73 n K else jk_none
def kX11_endPatience (n : Nat) : jK := jk_fix (kX11_endPatience_b n) n 0
theorem tX11_endPatience (l : Launch) (n : Nat) : jr_D l cX11_endPatience 3 "MeetingKit" (Option.none : Option Jvm.ClassFile.FieldType) "endPatience" 5 108 (kX11_endPatience n) 0 := js_fix (F := kX11_endPatience_b n) (fun K hK b => js_blk (tX11_endPatience_0 l n hK) (js_blk (tX11_endPatience_2 l n hK) (js_blk (tX11_endPatience_32 l n hK) (js_blk (tX11_endPatience_73 l n hK) (js_none))))) n 0
def fX11_endPatience (n : Nat) : jF := jm_run 1 3 (kX11_endPatience n)
theorem sX11_endPatience (l : Launch) (n : Nat) : jr_F l (⟨"MeetingKit", "endPatience", "()V"⟩ : MethodName) cX11_endPatience 3 (Option.none : Option Jvm.ClassFile.FieldType) 5 108 (fX11_endPatience n) := js_met (by decide +kernel) (by decide) (tX11_endPatience l n)
theorem dX11_beginSteps_0 : decode cX11_beginSteps 0 = .ok (.iconst 0, 1) := by decide +kernel
theorem dX11_beginSteps_1 : decode cX11_beginSteps 1 = .ok (.istore_n 1, 1) := by decide +kernel
theorem dX11_beginSteps_2 : decode cX11_beginSteps 2 = .ok (.iload_n 1, 1) := by decide +kernel
theorem dX11_beginSteps_3 : decode cX11_beginSteps 3 = .ok (.aload_n 0, 1) := by decide +kernel
theorem dX11_beginSteps_4 : decode cX11_beginSteps 4 = .ok (.getfield 39, 3) := by decide +kernel
theorem dX11_beginSteps_7 : decode cX11_beginSteps 7 = .ok (.if_icmp .ge 52, 3) := by decide +kernel
theorem dX11_beginSteps_10 : decode cX11_beginSteps 10 = .ok (.aload_n 0, 1) := by decide +kernel
theorem dX11_beginSteps_11 : decode cX11_beginSteps 11 = .ok (.getfield 11, 3) := by decide +kernel
theorem dX11_beginSteps_14 : decode cX11_beginSteps 14 = .ok (.iload_n 1, 1) := by decide +kernel
theorem dX11_beginSteps_15 : decode cX11_beginSteps 15 = .ok (.aaload, 1) := by decide +kernel
theorem dX11_beginSteps_16 : decode cX11_beginSteps 16 = .ok (.ifnonnull 7, 3) := by decide +kernel
theorem dX11_beginSteps_19 : decode cX11_beginSteps 19 = .ok (.aconst_null, 1) := by decide +kernel
theorem dX11_beginSteps_20 : decode cX11_beginSteps 20 = .ok (.goto 16, 3) := by decide +kernel
theorem dX11_beginSteps_23 : decode cX11_beginSteps 23 = .ok (.aload_n 0, 1) := by decide +kernel
theorem dX11_beginSteps_24 : decode cX11_beginSteps 24 = .ok (.getfield 11, 3) := by decide +kernel
theorem dX11_beginSteps_27 : decode cX11_beginSteps 27 = .ok (.iload_n 1, 1) := by decide +kernel
theorem dX11_beginSteps_28 : decode cX11_beginSteps 28 = .ok (.aaload, 1) := by decide +kernel
theorem dX11_beginSteps_29 : decode cX11_beginSteps 29 = .ok (.aload_n 0, 1) := by decide +kernel
theorem dX11_beginSteps_30 : decode cX11_beginSteps 30 = .ok (.getfield 80, 3) := by decide +kernel
theorem dX11_beginSteps_33 : decode cX11_beginSteps 33 = .ok (.invokevirtual 216, 3) := by decide +kernel
theorem dX11_beginSteps_36 : decode cX11_beginSteps 36 = .ok (.astore_n 2, 1) := by decide +kernel
theorem dX11_beginSteps_37 : decode cX11_beginSteps 37 = .ok (.aload_n 2, 1) := by decide +kernel
theorem dX11_beginSteps_38 : decode cX11_beginSteps 38 = .ok (.ifnull 15, 3) := by decide +kernel
theorem dX11_beginSteps_41 : decode cX11_beginSteps 41 = .ok (.aload_n 2, 1) := by decide +kernel
theorem dX11_beginSteps_42 : decode cX11_beginSteps 42 = .ok (.getfield 106, 3) := by decide +kernel
theorem dX11_beginSteps_45 : decode cX11_beginSteps 45 = .ok (.aload_n 2, 1) := by decide +kernel
theorem dX11_beginSteps_46 : decode cX11_beginSteps 46 = .ok (.aload_n 0, 1) := by decide +kernel
theorem dX11_beginSteps_47 : decode cX11_beginSteps 47 = .ok (.getfield 80, 3) := by decide +kernel
theorem dX11_beginSteps_50 : decode cX11_beginSteps 50 = .ok (.invokevirtual 219, 3) := by decide +kernel
theorem dX11_beginSteps_53 : decode cX11_beginSteps 53 = .ok (.iinc 1 1, 3) := by decide +kernel
theorem dX11_beginSteps_56 : decode cX11_beginSteps 56 = .ok (.goto (-54), 3) := by decide +kernel
theorem dX11_beginSteps_59 : decode cX11_beginSteps 59 = .ok (.return_, 1) := by decide +kernel
def kX11_beginSteps_0 (n : Nat) (K : Nat → jK) : jK := jk_int 0 <| jk_istore 1 <| K 2
set_option maxRecDepth 100000 in
set_option maxHeartbeats 4000000 in
theorem tX11_beginSteps_0 (l : Launch) (n : Nat) {K : Nat → jK} (hK : ∀ b, jr_D l cX11_beginSteps 3 "MeetingKit" (Option.none : Option Jvm.ClassFile.FieldType) "beginSteps" 6 135 (K b) b) : jr_D l cX11_beginSteps 3 "MeetingKit" (Option.none : Option Jvm.ClassFile.FieldType) "beginSteps" 6 135 (kX11_beginSteps_0 n K) 0 := by
  unfold kX11_beginSteps_0
  refine js_iconst dX11_beginSteps_0 ?_
  refine js_istore_n dX11_beginSteps_1 (by decide) ?_
  exact hK 2
def kX11_beginSteps_2 (n : Nat) (K : Nat → jK) : jK := jk_kill 2 <| jk_iload 1 <| jk_aload 0 <| jk_get [10] 1 <| jk_icmpge (jk_vret) <| jk_aload 0 <| jk_get [10] 0 <| jk_iload 1 <| jk_xald 23 <| jk_ifnonnull (jk_aload 0 <| jk_get [10] 0 <| jk_iload 1 <| jk_xald 23 <| jk_aload 0 <| jk_get [10] 8 <| jk_vcall [(0, fX0_nextStep n)] 1 <| K 36) <| jk_null <| K 36
set_option maxRecDepth 100000 in
set_option maxHeartbeats 4000000 in
theorem tX11_beginSteps_2 (l : Launch) (n : Nat) {K : Nat → jK} (hK : ∀ b, jr_D l cX11_beginSteps 3 "MeetingKit" (Option.none : Option Jvm.ClassFile.FieldType) "beginSteps" 6 135 (K b) b) : jr_D l cX11_beginSteps 3 "MeetingKit" (Option.none : Option Jvm.ClassFile.FieldType) "beginSteps" 6 135 (kX11_beginSteps_2 n K) 2 := by
  unfold kX11_beginSteps_2
  refine js_kill ?_
  refine js_iload_n dX11_beginSteps_2 ?_
  refine js_aload_n dX11_beginSteps_3 ?_
  refine js_get dX11_beginSteps_4 jf_1_10 tw_129 (Or.inl rfl) ?_
  refine js_icmpge (tgt := 59) dX11_beginSteps_7 (by decide) ?_ ?_
  · exact js_vret dX11_beginSteps_59 rfl
  · refine js_aload_n dX11_beginSteps_10 ?_
    refine js_get dX11_beginSteps_11 jf_0_10 tw_128 (Or.inl rfl) ?_
    refine js_iload_n dX11_beginSteps_14 ?_
    refine js_aald (by decide) dX11_beginSteps_15 ?_
    refine js_ifnonnull (tgt := 23) dX11_beginSteps_16 (by decide) ?_ ?_
    · refine js_aload_n dX11_beginSteps_23 ?_
      refine js_get dX11_beginSteps_24 jf_0_10 tw_128 (Or.inl rfl) ?_
      refine js_iload_n dX11_beginSteps_27 ?_
      refine js_aald (by decide) dX11_beginSteps_28 ?_
      refine js_aload_n dX11_beginSteps_29 ?_
      refine js_get dX11_beginSteps_30 jf_8_10 tw_136 (Or.inl rfl) ?_
      refine js_callv dX11_beginSteps_33 (⟨⟨_, _, _, _, _, _, _, ⟨rfl, (show (0 : Nat) < 20 by decide), sX0_nextStep l n, by decide, by decide, tw_722, tw_114, tw_720⟩, Or.inl ⟨by decide +kernel, by decide +kernel, by decide +kernel, tw_719, tw_721⟩⟩, trivial⟩) ?_
      exact hK 36
    · refine js_null dX11_beginSteps_19 ?_
      refine js_goto (tgt := 36) dX11_beginSteps_20 (by decide) ?_
      exact hK 36
def kX11_beginSteps_36 (n : Nat) (K : Nat → jK) : jK := jk_kill 2 <| jk_astore 2 <| jk_aload 2 <| jk_ifnull (K 53) <| jk_aload 2 <| jk_get [9] 1 <| jk_aload 2 <| jk_aload 0 <| jk_get [10] 8 <| jk_vcall [(1, fX2_serve n), (2, fX2_serve n), (3, fX2_serve n), (4, fX2_serve n), (5, fX2_serve n), (6, fX2_serve n), (7, fX2_serve n), (8, fX2_serve n)] 2 <| K 53
set_option maxRecDepth 100000 in
set_option maxHeartbeats 4000000 in
theorem tX11_beginSteps_36 (l : Launch) (n : Nat) {K : Nat → jK} (hK : ∀ b, jr_D l cX11_beginSteps 3 "MeetingKit" (Option.none : Option Jvm.ClassFile.FieldType) "beginSteps" 6 135 (K b) b) : jr_D l cX11_beginSteps 3 "MeetingKit" (Option.none : Option Jvm.ClassFile.FieldType) "beginSteps" 6 135 (kX11_beginSteps_36 n K) 36 := by
  unfold kX11_beginSteps_36
  refine js_kill ?_
  refine js_astore_n dX11_beginSteps_36 (by decide) ?_
  refine js_aload_n dX11_beginSteps_37 ?_
  refine js_ifnull (tgt := 53) dX11_beginSteps_38 (by decide) ?_ ?_
  · exact hK 53
  · refine js_aload_n dX11_beginSteps_41 ?_
    refine js_get dX11_beginSteps_42 jf_1_9 tw_455 (Or.inl rfl) ?_
    refine js_aload_n dX11_beginSteps_45 ?_
    refine js_aload_n dX11_beginSteps_46 ?_
    refine js_get dX11_beginSteps_47 jf_8_10 tw_136 (Or.inl rfl) ?_
    refine js_callv dX11_beginSteps_50 (⟨⟨_, _, _, _, _, _, _, ⟨rfl, (show (1 : Nat) < 20 by decide), sX2_serve l n, by decide, by decide, tw_738, tw_104, tw_728⟩, Or.inr ⟨⟨"MeetingKit$Device", "serve", "(LMeetingKit$Step;I)V"⟩, "MeetingKit$Device", by decide +kernel, by decide +kernel, by decide +kernel, tw_727, tw_729, tw_730, Or.inl ⟨_, _, _, tw_728, tw_738⟩⟩⟩, ⟨⟨_, _, _, _, _, _, _, ⟨rfl, (show (2 : Nat) < 20 by decide), sX2_serve l n, by decide, by decide, tw_738, tw_104, tw_728⟩, Or.inr ⟨⟨"MeetingKit$Device", "serve", "(LMeetingKit$Step;I)V"⟩, "MeetingKit$Device", by decide +kernel, by decide +kernel, by decide +kernel, tw_727, tw_729, tw_731, Or.inl ⟨_, _, _, tw_728, tw_738⟩⟩⟩, ⟨⟨_, _, _, _, _, _, _, ⟨rfl, (show (3 : Nat) < 20 by decide), sX2_serve l n, by decide, by decide, tw_738, tw_104, tw_728⟩, Or.inr ⟨⟨"MeetingKit$Device", "serve", "(LMeetingKit$Step;I)V"⟩, "MeetingKit$Device", by decide +kernel, by decide +kernel, by decide +kernel, tw_727, tw_729, tw_732, Or.inl ⟨_, _, _, tw_728, tw_738⟩⟩⟩, ⟨⟨_, _, _, _, _, _, _, ⟨rfl, (show (4 : Nat) < 20 by decide), sX2_serve l n, by decide, by decide, tw_738, tw_104, tw_728⟩, Or.inr ⟨⟨"MeetingKit$Device", "serve", "(LMeetingKit$Step;I)V"⟩, "MeetingKit$Device", by decide +kernel, by decide +kernel, by decide +kernel, tw_727, tw_729, tw_733, Or.inl ⟨_, _, _, tw_728, tw_738⟩⟩⟩, ⟨⟨_, _, _, _, _, _, _, ⟨rfl, (show (5 : Nat) < 20 by decide), sX2_serve l n, by decide, by decide, tw_738, tw_104, tw_728⟩, Or.inr ⟨⟨"MeetingKit$Device", "serve", "(LMeetingKit$Step;I)V"⟩, "MeetingKit$Device", by decide +kernel, by decide +kernel, by decide +kernel, tw_727, tw_729, tw_734, Or.inl ⟨_, _, _, tw_728, tw_738⟩⟩⟩, ⟨⟨_, _, _, _, _, _, _, ⟨rfl, (show (6 : Nat) < 20 by decide), sX2_serve l n, by decide, by decide, tw_738, tw_104, tw_728⟩, Or.inr ⟨⟨"MeetingKit$Device", "serve", "(LMeetingKit$Step;I)V"⟩, "MeetingKit$Device", by decide +kernel, by decide +kernel, by decide +kernel, tw_727, tw_729, tw_735, Or.inl ⟨_, _, _, tw_728, tw_738⟩⟩⟩, ⟨⟨_, _, _, _, _, _, _, ⟨rfl, (show (7 : Nat) < 20 by decide), sX2_serve l n, by decide, by decide, tw_738, tw_104, tw_728⟩, Or.inr ⟨⟨"MeetingKit$Device", "serve", "(LMeetingKit$Step;I)V"⟩, "MeetingKit$Device", by decide +kernel, by decide +kernel, by decide +kernel, tw_727, tw_729, tw_736, Or.inl ⟨_, _, _, tw_728, tw_738⟩⟩⟩, ⟨⟨_, _, _, _, _, _, _, ⟨rfl, (show (8 : Nat) < 20 by decide), sX2_serve l n, by decide, by decide, tw_738, tw_104, tw_728⟩, Or.inr ⟨⟨"MeetingKit$Device", "serve", "(LMeetingKit$Step;I)V"⟩, "MeetingKit$Device", by decide +kernel, by decide +kernel, by decide +kernel, tw_727, tw_729, tw_737, Or.inl ⟨_, _, _, tw_728, tw_738⟩⟩⟩, trivial⟩⟩⟩⟩⟩⟩⟩⟩) ?_
    exact hK 53
def kX11_beginSteps_53 (n : Nat) (K : Nat → jK) : jK := jk_kill 2 <| jk_iinc 1 1 <| K 2
set_option maxRecDepth 100000 in
set_option maxHeartbeats 4000000 in
theorem tX11_beginSteps_53 (l : Launch) (n : Nat) {K : Nat → jK} (hK : ∀ b, jr_D l cX11_beginSteps 3 "MeetingKit" (Option.none : Option Jvm.ClassFile.FieldType) "beginSteps" 6 135 (K b) b) : jr_D l cX11_beginSteps 3 "MeetingKit" (Option.none : Option Jvm.ClassFile.FieldType) "beginSteps" 6 135 (kX11_beginSteps_53 n K) 53 := by
  unfold kX11_beginSteps_53
  refine js_kill ?_
  refine js_iinc dX11_beginSteps_53 (by decide) ?_
  refine js_goto (tgt := 2) dX11_beginSteps_56 (by decide) ?_
  exact hK 2
def kX11_beginSteps_b (n : Nat) (K : Nat → jK) (b : Nat) : jK := if b = 0 then kX11_beginSteps_0 n K else if b = 2 then kX11_beginSteps_2 n K else if b = 36 then kX11_beginSteps_36 n K else if b = 53 then kX11_beginSteps_53 n K else jk_none
def kX11_beginSteps (n : Nat) : jK := jk_fix (kX11_beginSteps_b n) n 0
theorem tX11_beginSteps (l : Launch) (n : Nat) : jr_D l cX11_beginSteps 3 "MeetingKit" (Option.none : Option Jvm.ClassFile.FieldType) "beginSteps" 6 135 (kX11_beginSteps n) 0 := js_fix (F := kX11_beginSteps_b n) (fun K hK b => js_blk (tX11_beginSteps_0 l n hK) (js_blk (tX11_beginSteps_2 l n hK) (js_blk (tX11_beginSteps_36 l n hK) (js_blk (tX11_beginSteps_53 l n hK) (js_none))))) n 0
def fX11_beginSteps (n : Nat) : jF := jm_run 1 3 (kX11_beginSteps n)
theorem sX11_beginSteps (l : Launch) (n : Nat) : jr_F l (⟨"MeetingKit", "beginSteps", "()V"⟩ : MethodName) cX11_beginSteps 3 (Option.none : Option Jvm.ClassFile.FieldType) 6 135 (fX11_beginSteps n) := js_met (by decide +kernel) (by decide) (tX11_beginSteps l n)
theorem dX11_run_0 : decode cX11_run 0 = .ok (.iload_n 1, 1) := by decide +kernel
theorem dX11_run_1 : decode cX11_run 1 = .ok (.aload_n 0, 1) := by decide +kernel
theorem dX11_run_2 : decode cX11_run 2 = .ok (.getfield 80, 3) := by decide +kernel
theorem dX11_run_5 : decode cX11_run 5 = .ok (.if_icmp .lt 10, 3) := by decide +kernel
theorem dX11_run_8 : decode cX11_run 8 = .ok (.iload_n 1, 1) := by decide +kernel
theorem dX11_run_9 : decode cX11_run 9 = .ok (.sipush 5000, 3) := by decide +kernel
theorem dX11_run_12 : decode cX11_run 12 = .ok (.if_icmp .le 5, 3) := by decide +kernel
theorem dX11_run_15 : decode cX11_run 15 = .ok (.iconst (-1), 1) := by decide +kernel
theorem dX11_run_16 : decode cX11_run 16 = .ok (.ireturn, 1) := by decide +kernel
theorem dX11_run_17 : decode cX11_run 17 = .ok (.iconst 0, 1) := by decide +kernel
theorem dX11_run_18 : decode cX11_run 18 = .ok (.istore_n 2, 1) := by decide +kernel
theorem dX11_run_19 : decode cX11_run 19 = .ok (.iload_n 2, 1) := by decide +kernel
theorem dX11_run_20 : decode cX11_run 20 = .ok (.sipush 5000, 3) := by decide +kernel
theorem dX11_run_23 : decode cX11_run 23 = .ok (.if_icmp .ge 67, 3) := by decide +kernel
theorem dX11_run_26 : decode cX11_run 26 = .ok (.aload_n 0, 1) := by decide +kernel
theorem dX11_run_27 : decode cX11_run 27 = .ok (.getfield 80, 3) := by decide +kernel
theorem dX11_run_30 : decode cX11_run 30 = .ok (.iload_n 1, 1) := by decide +kernel
theorem dX11_run_31 : decode cX11_run 31 = .ok (.if_icmp .ge 59, 3) := by decide +kernel
theorem dX11_run_34 : decode cX11_run 34 = .ok (.aload_n 0, 1) := by decide +kernel
theorem dX11_run_35 : decode cX11_run 35 = .ok (.invokevirtual 83, 3) := by decide +kernel
theorem dX11_run_38 : decode cX11_run 38 = .ok (.istore_n 3, 1) := by decide +kernel
theorem dX11_run_39 : decode cX11_run 39 = .ok (.iload_n 3, 1) := by decide +kernel
theorem dX11_run_40 : decode cX11_run 40 = .ok (.ldc 57, 2) := by decide +kernel
theorem dX11_run_42 : decode cX11_run 42 = .ok (.if_icmp .ne 8, 3) := by decide +kernel
theorem dX11_run_45 : decode cX11_run 45 = .ok (.aload_n 0, 1) := by decide +kernel
theorem dX11_run_46 : decode cX11_run 46 = .ok (.getfield 80, 3) := by decide +kernel
theorem dX11_run_49 : decode cX11_run 49 = .ok (.ireturn, 1) := by decide +kernel
theorem dX11_run_50 : decode cX11_run 50 = .ok (.iload_n 3, 1) := by decide +kernel
theorem dX11_run_51 : decode cX11_run 51 = .ok (.iload_n 1, 1) := by decide +kernel
theorem dX11_run_52 : decode cX11_run 52 = .ok (.if_icmp .le 11, 3) := by decide +kernel
theorem dX11_run_55 : decode cX11_run 55 = .ok (.aload_n 0, 1) := by decide +kernel
theorem dX11_run_56 : decode cX11_run 56 = .ok (.iload_n 1, 1) := by decide +kernel
theorem dX11_run_57 : decode cX11_run 57 = .ok (.putfield 80, 3) := by decide +kernel
theorem dX11_run_60 : decode cX11_run 60 = .ok (.goto 24, 3) := by decide +kernel
theorem dX11_run_63 : decode cX11_run 63 = .ok (.aload_n 0, 1) := by decide +kernel
theorem dX11_run_64 : decode cX11_run 64 = .ok (.iload_n 3, 1) := by decide +kernel
theorem dX11_run_65 : decode cX11_run 65 = .ok (.putfield 80, 3) := by decide +kernel
theorem dX11_run_68 : decode cX11_run 68 = .ok (.aload_n 0, 1) := by decide +kernel
theorem dX11_run_69 : decode cX11_run 69 = .ok (.invokevirtual 87, 3) := by decide +kernel
theorem dX11_run_72 : decode cX11_run 72 = .ok (.aload_n 0, 1) := by decide +kernel
theorem dX11_run_73 : decode cX11_run 73 = .ok (.invokevirtual 90, 3) := by decide +kernel
theorem dX11_run_76 : decode cX11_run 76 = .ok (.aload_n 0, 1) := by decide +kernel
theorem dX11_run_77 : decode cX11_run 77 = .ok (.invokevirtual 93, 3) := by decide +kernel
theorem dX11_run_80 : decode cX11_run 80 = .ok (.aload_n 0, 1) := by decide +kernel
theorem dX11_run_81 : decode cX11_run 81 = .ok (.invokevirtual 96, 3) := by decide +kernel
theorem dX11_run_84 : decode cX11_run 84 = .ok (.iinc 2 1, 3) := by decide +kernel
theorem dX11_run_87 : decode cX11_run 87 = .ok (.goto (-68), 3) := by decide +kernel
theorem dX11_run_90 : decode cX11_run 90 = .ok (.aload_n 0, 1) := by decide +kernel
theorem dX11_run_91 : decode cX11_run 91 = .ok (.getfield 80, 3) := by decide +kernel
theorem dX11_run_94 : decode cX11_run 94 = .ok (.ireturn, 1) := by decide +kernel
def kX11_run_0 (n : Nat) (K : Nat → jK) : jK := jk_iload 1 <| jk_aload 0 <| jk_get [10] 8 <| jk_icmplt (K 15) <| jk_iload 1 <| jk_int 5000 <| jk_icmple (jk_int 0 <| jk_istore 2 <| K 19) <| K 15
set_option maxRecDepth 100000 in
set_option maxHeartbeats 4000000 in
theorem tX11_run_0 (l : Launch) (n : Nat) {K : Nat → jK} (hK : ∀ b, jr_D l cX11_run 4 "MeetingKit" (Option.some Jvm.ClassFile.FieldType.int) "run" 7 157 (K b) b) : jr_D l cX11_run 4 "MeetingKit" (Option.some Jvm.ClassFile.FieldType.int) "run" 7 157 (kX11_run_0 n K) 0 := by
  unfold kX11_run_0
  refine js_iload_n dX11_run_0 ?_
  refine js_aload_n dX11_run_1 ?_
  refine js_get dX11_run_2 jf_8_10 tw_136 (Or.inl rfl) ?_
  refine js_icmplt (tgt := 15) dX11_run_5 (by decide) ?_ ?_
  · exact hK 15
  · refine js_iload_n dX11_run_8 ?_
    refine js_sipush dX11_run_9 ?_
    refine js_icmple (tgt := 17) dX11_run_12 (by decide) ?_ ?_
    · refine js_iconst dX11_run_17 ?_
      refine js_istore_n dX11_run_18 (by decide) ?_
      exact hK 19
    · exact hK 15
def kX11_run_15 (n : Nat) (K : Nat → jK) : jK := jk_kill 0 <| jk_kill 1 <| jk_int (-1) <| jk_iret
set_option maxRecDepth 100000 in
set_option maxHeartbeats 4000000 in
theorem tX11_run_15 (l : Launch) (n : Nat) {K : Nat → jK} (hK : ∀ b, jr_D l cX11_run 4 "MeetingKit" (Option.some Jvm.ClassFile.FieldType.int) "run" 7 157 (K b) b) : jr_D l cX11_run 4 "MeetingKit" (Option.some Jvm.ClassFile.FieldType.int) "run" 7 157 (kX11_run_15 n K) 15 := by
  unfold kX11_run_15
  refine js_kill ?_
  refine js_kill ?_
  refine js_iconst dX11_run_15 ?_
  exact js_iret dX11_run_16 rfl
def kX11_run_19 (n : Nat) (K : Nat → jK) : jK := jk_kill 3 <| jk_iload 2 <| jk_int 5000 <| jk_icmpge (K 90) <| jk_aload 0 <| jk_get [10] 8 <| jk_iload 1 <| jk_icmpge (K 90) <| jk_aload 0 <| jk_vcall [(10, fX11_nextLivelyBeat n)] 0 <| jk_istore 3 <| jk_iload 3 <| jk_int 1000000 <| jk_icmpne (jk_iload 3 <| jk_iload 1 <| jk_icmple (jk_aload 0 <| jk_iload 3 <| jk_puti [10] 8 <| jk_aload 0 <| jk_vcall [(10, fX11_interruptThreads n)] 0 <| jk_aload 0 <| jk_vcall [(10, fX11_closeDevices n)] 0 <| jk_aload 0 <| jk_vcall [(10, fX11_endPatience n)] 0 <| jk_aload 0 <| jk_vcall [(10, fX11_beginSteps n)] 0 <| K 84) <| jk_aload 0 <| jk_iload 1 <| jk_puti [10] 8 <| K 84) <| jk_aload 0 <| jk_get [10] 8 <| jk_iret
set_option maxRecDepth 100000 in
set_option maxHeartbeats 4000000 in
theorem tX11_run_19 (l : Launch) (n : Nat) {K : Nat → jK} (hK : ∀ b, jr_D l cX11_run 4 "MeetingKit" (Option.some Jvm.ClassFile.FieldType.int) "run" 7 157 (K b) b) : jr_D l cX11_run 4 "MeetingKit" (Option.some Jvm.ClassFile.FieldType.int) "run" 7 157 (kX11_run_19 n K) 19 := by
  unfold kX11_run_19
  refine js_kill ?_
  refine js_iload_n dX11_run_19 ?_
  refine js_sipush dX11_run_20 ?_
  refine js_icmpge (tgt := 90) dX11_run_23 (by decide) ?_ ?_
  · exact hK 90
  · refine js_aload_n dX11_run_26 ?_
    refine js_get dX11_run_27 jf_8_10 tw_136 (Or.inl rfl) ?_
    refine js_iload_n dX11_run_30 ?_
    refine js_icmpge (tgt := 90) dX11_run_31 (by decide) ?_ ?_
    · exact hK 90
    · refine js_aload_n dX11_run_34 ?_
      refine js_callv dX11_run_35 (⟨⟨_, _, _, _, _, _, _, ⟨rfl, (show (10 : Nat) < 20 by decide), sX11_nextLivelyBeat l n, by decide, by decide, tw_538, tw_102, tw_537⟩, Or.inl ⟨by decide +kernel, by decide +kernel, by decide +kernel, tw_535, tw_20⟩⟩, trivial⟩) ?_
      refine js_istore_n dX11_run_38 (by decide) ?_
      refine js_iload_n dX11_run_39 ?_
      refine js_ldc dX11_run_40 tw_441 ?_
      refine js_icmpne (tgt := 50) dX11_run_42 (by decide) ?_ ?_
      · refine js_iload_n dX11_run_50 ?_
        refine js_iload_n dX11_run_51 ?_
        refine js_icmple (tgt := 63) dX11_run_52 (by decide) ?_ ?_
        · refine js_aload_n dX11_run_63 ?_
          refine js_iload_n dX11_run_64 ?_
          refine js_puti dX11_run_65 jf_8_10 rfl tw_136 (Or.inl rfl) ?_
          refine js_aload_n dX11_run_68 ?_
          refine js_callv dX11_run_69 (⟨⟨_, _, _, _, _, _, _, ⟨rfl, (show (10 : Nat) < 20 by decide), sX11_interruptThreads l n, by decide, by decide, tw_548, tw_102, tw_547⟩, Or.inl ⟨by decide +kernel, by decide +kernel, by decide +kernel, tw_545, tw_21⟩⟩, trivial⟩) ?_
          refine js_aload_n dX11_run_72 ?_
          refine js_callv dX11_run_73 (⟨⟨_, _, _, _, _, _, _, ⟨rfl, (show (10 : Nat) < 20 by decide), sX11_closeDevices l n, by decide, by decide, tw_697, tw_102, tw_696⟩, Or.inl ⟨by decide +kernel, by decide +kernel, by decide +kernel, tw_694, tw_32⟩⟩, trivial⟩) ?_
          refine js_aload_n dX11_run_76 ?_
          refine js_callv dX11_run_77 (⟨⟨_, _, _, _, _, _, _, ⟨rfl, (show (10 : Nat) < 20 by decide), sX11_endPatience l n, by decide, by decide, tw_714, tw_102, tw_713⟩, Or.inl ⟨by decide +kernel, by decide +kernel, by decide +kernel, tw_711, tw_33⟩⟩, trivial⟩) ?_
          refine js_aload_n dX11_run_80 ?_
          refine js_callv dX11_run_81 (⟨⟨_, _, _, _, _, _, _, ⟨rfl, (show (10 : Nat) < 20 by decide), sX11_beginSteps l n, by decide, by decide, tw_718, tw_102, tw_717⟩, Or.inl ⟨by decide +kernel, by decide +kernel, by decide +kernel, tw_715, tw_34⟩⟩, trivial⟩) ?_
          exact hK 84
        · refine js_aload_n dX11_run_55 ?_
          refine js_iload_n dX11_run_56 ?_
          refine js_puti dX11_run_57 jf_8_10 rfl tw_136 (Or.inl rfl) ?_
          refine js_goto (tgt := 84) dX11_run_60 (by decide) ?_
          exact hK 84
      · refine js_aload_n dX11_run_45 ?_
        refine js_get dX11_run_46 jf_8_10 tw_136 (Or.inl rfl) ?_
        exact js_iret dX11_run_49 rfl
def kX11_run_84 (n : Nat) (K : Nat → jK) : jK := jk_kill 3 <| jk_iinc 2 1 <| K 19
set_option maxRecDepth 100000 in
set_option maxHeartbeats 4000000 in
theorem tX11_run_84 (l : Launch) (n : Nat) {K : Nat → jK} (hK : ∀ b, jr_D l cX11_run 4 "MeetingKit" (Option.some Jvm.ClassFile.FieldType.int) "run" 7 157 (K b) b) : jr_D l cX11_run 4 "MeetingKit" (Option.some Jvm.ClassFile.FieldType.int) "run" 7 157 (kX11_run_84 n K) 84 := by
  unfold kX11_run_84
  refine js_kill ?_
  refine js_iinc dX11_run_84 (by decide) ?_
  refine js_goto (tgt := 19) dX11_run_87 (by decide) ?_
  exact hK 19
def kX11_run_90 (n : Nat) (K : Nat → jK) : jK := jk_kill 1 <| jk_kill 2 <| jk_kill 3 <| jk_aload 0 <| jk_get [10] 8 <| jk_iret
set_option maxRecDepth 100000 in
set_option maxHeartbeats 4000000 in
theorem tX11_run_90 (l : Launch) (n : Nat) {K : Nat → jK} (hK : ∀ b, jr_D l cX11_run 4 "MeetingKit" (Option.some Jvm.ClassFile.FieldType.int) "run" 7 157 (K b) b) : jr_D l cX11_run 4 "MeetingKit" (Option.some Jvm.ClassFile.FieldType.int) "run" 7 157 (kX11_run_90 n K) 90 := by
  unfold kX11_run_90
  refine js_kill ?_
  refine js_kill ?_
  refine js_kill ?_
  refine js_aload_n dX11_run_90 ?_
  refine js_get dX11_run_91 jf_8_10 tw_136 (Or.inl rfl) ?_
  exact js_iret dX11_run_94 rfl
def kX11_run_b (n : Nat) (K : Nat → jK) (b : Nat) : jK := if b = 0 then kX11_run_0 n K else if b = 15 then kX11_run_15 n K else if b = 19 then kX11_run_19 n K else if b = 84 then kX11_run_84 n K else if b = 90 then kX11_run_90 n K else jk_none
def kX11_run (n : Nat) : jK := jk_fix (kX11_run_b n) n 0
theorem tX11_run (l : Launch) (n : Nat) : jr_D l cX11_run 4 "MeetingKit" (Option.some Jvm.ClassFile.FieldType.int) "run" 7 157 (kX11_run n) 0 := js_fix (F := kX11_run_b n) (fun K hK b => js_blk (tX11_run_0 l n hK) (js_blk (tX11_run_15 l n hK) (js_blk (tX11_run_19 l n hK) (js_blk (tX11_run_84 l n hK) (js_blk (tX11_run_90 l n hK) (js_none)))))) n 0
def fX11_run (n : Nat) : jF := jm_run 2 4 (kX11_run n)
theorem sX11_run (l : Launch) (n : Nat) : jr_F l (⟨"MeetingKit", "run", "(I)I"⟩ : MethodName) cX11_run 4 (Option.some Jvm.ClassFile.FieldType.int) 7 157 (fX11_run n) := js_met (by decide +kernel) (by decide) (tX11_run l n)
theorem dX11_tell_0 : decode cX11_tell 0 = .ok (.aload_n 0, 1) := by decide +kernel
theorem dX11_tell_1 : decode cX11_tell 1 = .ok (.iload_n 1, 1) := by decide +kernel
theorem dX11_tell_2 : decode cX11_tell 2 = .ok (.invokevirtual 45, 3) := by decide +kernel
theorem dX11_tell_5 : decode cX11_tell 5 = .ok (.astore_n 3, 1) := by decide +kernel
theorem dX11_tell_6 : decode cX11_tell 6 = .ok (.aload_n 3, 1) := by decide +kernel
theorem dX11_tell_7 : decode cX11_tell 7 = .ok (.ifnonnull 5, 3) := by decide +kernel
theorem dX11_tell_10 : decode cX11_tell 10 = .ok (.iconst (-1), 1) := by decide +kernel
theorem dX11_tell_11 : decode cX11_tell 11 = .ok (.ireturn, 1) := by decide +kernel
theorem dX11_tell_12 : decode cX11_tell 12 = .ok (.iload_n 2, 1) := by decide +kernel
theorem dX11_tell_13 : decode cX11_tell 13 = .ok (.tableswitch 76 0 3 #[31, 36, 41, 63], 31) := by decide +kernel
theorem dX11_tell_44 : decode cX11_tell 44 = .ok (.aload_n 3, 1) := by decide +kernel
theorem dX11_tell_45 : decode cX11_tell 45 = .ok (.getfield 53, 3) := by decide +kernel
theorem dX11_tell_48 : decode cX11_tell 48 = .ok (.ireturn, 1) := by decide +kernel
theorem dX11_tell_49 : decode cX11_tell 49 = .ok (.aload_n 3, 1) := by decide +kernel
theorem dX11_tell_50 : decode cX11_tell 50 = .ok (.getfield 99, 3) := by decide +kernel
theorem dX11_tell_53 : decode cX11_tell 53 = .ok (.ireturn, 1) := by decide +kernel
theorem dX11_tell_54 : decode cX11_tell 54 = .ok (.aload_n 3, 1) := by decide +kernel
theorem dX11_tell_55 : decode cX11_tell 55 = .ok (.getfield 102, 3) := by decide +kernel
theorem dX11_tell_58 : decode cX11_tell 58 = .ok (.ifnonnull 7, 3) := by decide +kernel
theorem dX11_tell_61 : decode cX11_tell 61 = .ok (.iconst (-1), 1) := by decide +kernel
theorem dX11_tell_62 : decode cX11_tell 62 = .ok (.goto 13, 3) := by decide +kernel
theorem dX11_tell_65 : decode cX11_tell 65 = .ok (.aload_n 3, 1) := by decide +kernel
theorem dX11_tell_66 : decode cX11_tell 66 = .ok (.getfield 102, 3) := by decide +kernel
theorem dX11_tell_69 : decode cX11_tell 69 = .ok (.getfield 106, 3) := by decide +kernel
theorem dX11_tell_72 : decode cX11_tell 72 = .ok (.getfield 110, 3) := by decide +kernel
theorem dX11_tell_75 : decode cX11_tell 75 = .ok (.ireturn, 1) := by decide +kernel
theorem dX11_tell_76 : decode cX11_tell 76 = .ok (.aload_n 3, 1) := by decide +kernel
theorem dX11_tell_77 : decode cX11_tell 77 = .ok (.getfield 113, 3) := by decide +kernel
theorem dX11_tell_80 : decode cX11_tell 80 = .ok (.ifCond .eq 7, 3) := by decide +kernel
theorem dX11_tell_83 : decode cX11_tell 83 = .ok (.iconst 1, 1) := by decide +kernel
theorem dX11_tell_84 : decode cX11_tell 84 = .ok (.goto 4, 3) := by decide +kernel
theorem dX11_tell_87 : decode cX11_tell 87 = .ok (.iconst 0, 1) := by decide +kernel
theorem dX11_tell_88 : decode cX11_tell 88 = .ok (.ireturn, 1) := by decide +kernel
theorem dX11_tell_89 : decode cX11_tell 89 = .ok (.iconst (-1), 1) := by decide +kernel
theorem dX11_tell_90 : decode cX11_tell 90 = .ok (.ireturn, 1) := by decide +kernel
def kX11_tell_0 (n : Nat) (K : Nat → jK) : jK := jk_aload 0 <| jk_iload 1 <| jk_vcall [(10, fX11_actorAt n)] 1 <| jk_astore 3 <| jk_aload 3 <| jk_ifnonnull (jk_iload 2 <| jk_sw [(0, (jk_aload 3 <| jk_get [0] 2 <| jk_iret)), (1, (jk_aload 3 <| jk_get [0] 3 <| jk_iret)), (2, (jk_aload 3 <| jk_get [0] 4 <| jk_ifnonnull (jk_aload 3 <| jk_get [0] 4 <| jk_get [9] 1 <| jk_get [1, 2, 3, 4, 5, 6, 7, 8] 1 <| K 75) <| jk_int (-1) <| K 75)), (3, (jk_aload 3 <| jk_get [0] 5 <| jk_ifeq (jk_int 0 <| K 88) <| jk_int 1 <| K 88))] (jk_int (-1) <| jk_iret)) <| jk_int (-1) <| jk_iret
set_option maxRecDepth 100000 in
set_option maxHeartbeats 4000000 in
theorem tX11_tell_0 (l : Launch) (n : Nat) {K : Nat → jK} (hK : ∀ b, jr_D l cX11_tell 4 "MeetingKit" (Option.some Jvm.ClassFile.FieldType.int) "tell" 1 21 (K b) b) : jr_D l cX11_tell 4 "MeetingKit" (Option.some Jvm.ClassFile.FieldType.int) "tell" 1 21 (kX11_tell_0 n K) 0 := by
  unfold kX11_tell_0
  refine js_aload_n dX11_tell_0 ?_
  refine js_iload_n dX11_tell_1 ?_
  refine js_callv dX11_tell_2 (⟨⟨_, _, _, _, _, _, _, ⟨rfl, (show (10 : Nat) < 20 by decide), sX11_actorAt l n, by decide, by decide, tw_435, tw_102, tw_434⟩, Or.inl ⟨by decide +kernel, by decide +kernel, by decide +kernel, tw_432, tw_16⟩⟩, trivial⟩) ?_
  refine js_astore_n dX11_tell_5 (by decide) ?_
  refine js_aload_n dX11_tell_6 ?_
  refine js_ifnonnull (tgt := 12) dX11_tell_7 (by decide) ?_ ?_
  · refine js_iload_n dX11_tell_12 ?_
    refine js_tsw (td := 89) dX11_tell_13 rfl (by decide) ?_ ?_
    · refine js_iconst dX11_tell_89 ?_
      exact js_iret dX11_tell_90 rfl
    · refine ⟨rfl, ⟨44, by decide, ?_⟩, rfl, ⟨49, by decide, ?_⟩, rfl, ⟨54, by decide, ?_⟩, rfl, ⟨76, by decide, ?_⟩, trivial⟩
      · refine js_aload_n dX11_tell_44 ?_
        refine js_get dX11_tell_45 jf_2_0 tw_403 (Or.inl rfl) ?_
        exact js_iret dX11_tell_48 rfl
      · refine js_aload_n dX11_tell_49 ?_
        refine js_get dX11_tell_50 jf_3_0 tw_405 (Or.inl rfl) ?_
        exact js_iret dX11_tell_53 rfl
      · refine js_aload_n dX11_tell_54 ?_
        refine js_get dX11_tell_55 jf_4_0 tw_408 (Or.inl rfl) ?_
        refine js_ifnonnull (tgt := 65) dX11_tell_58 (by decide) ?_ ?_
        · refine js_aload_n dX11_tell_65 ?_
          refine js_get dX11_tell_66 jf_4_0 tw_408 (Or.inl rfl) ?_
          refine js_get dX11_tell_69 jf_1_9 tw_455 (Or.inl rfl) ?_
          refine js_get dX11_tell_72 jf_1_1_2_3_4_5_6_7_8 tw_187 (Or.inl rfl) ?_
          exact hK 75
        · refine js_iconst dX11_tell_61 ?_
          refine js_goto (tgt := 75) dX11_tell_62 (by decide) ?_
          exact hK 75
      · refine js_aload_n dX11_tell_76 ?_
        refine js_get dX11_tell_77 jf_5_0 tw_410 (Or.inl rfl) ?_
        refine js_ifeq (tgt := 87) dX11_tell_80 (by decide) ?_ ?_
        · refine js_iconst dX11_tell_87 ?_
          exact hK 88
        · refine js_iconst dX11_tell_83 ?_
          refine js_goto (tgt := 88) dX11_tell_84 (by decide) ?_
          exact hK 88
  · refine js_iconst dX11_tell_10 ?_
    exact js_iret dX11_tell_11 rfl
def kX11_tell_75 (n : Nat) (K : Nat → jK) : jK := jk_kill 0 <| jk_kill 1 <| jk_kill 2 <| jk_kill 3 <| jk_iret
set_option maxRecDepth 100000 in
set_option maxHeartbeats 4000000 in
theorem tX11_tell_75 (l : Launch) (n : Nat) {K : Nat → jK} (hK : ∀ b, jr_D l cX11_tell 4 "MeetingKit" (Option.some Jvm.ClassFile.FieldType.int) "tell" 1 21 (K b) b) : jr_D l cX11_tell 4 "MeetingKit" (Option.some Jvm.ClassFile.FieldType.int) "tell" 1 21 (kX11_tell_75 n K) 75 := by
  unfold kX11_tell_75
  refine js_kill ?_
  refine js_kill ?_
  refine js_kill ?_
  refine js_kill ?_
  exact js_iret dX11_tell_75 rfl
def kX11_tell_88 (n : Nat) (K : Nat → jK) : jK := jk_kill 0 <| jk_kill 1 <| jk_kill 2 <| jk_kill 3 <| jk_iret
set_option maxRecDepth 100000 in
set_option maxHeartbeats 4000000 in
theorem tX11_tell_88 (l : Launch) (n : Nat) {K : Nat → jK} (hK : ∀ b, jr_D l cX11_tell 4 "MeetingKit" (Option.some Jvm.ClassFile.FieldType.int) "tell" 1 21 (K b) b) : jr_D l cX11_tell 4 "MeetingKit" (Option.some Jvm.ClassFile.FieldType.int) "tell" 1 21 (kX11_tell_88 n K) 88 := by
  unfold kX11_tell_88
  refine js_kill ?_
  refine js_kill ?_
  refine js_kill ?_
  refine js_kill ?_
  exact js_iret dX11_tell_88 rfl
def kX11_tell_b (n : Nat) (K : Nat → jK) (b : Nat) : jK := if b = 0 then kX11_tell_0 n K else if b = 75 then kX11_tell_75 n K else if b = 88 then kX11_tell_88 n K else jk_none
def kX11_tell (n : Nat) : jK := jk_fix (kX11_tell_b n) n 0
theorem tX11_tell (l : Launch) (n : Nat) : jr_D l cX11_tell 4 "MeetingKit" (Option.some Jvm.ClassFile.FieldType.int) "tell" 1 21 (kX11_tell n) 0 := js_fix (F := kX11_tell_b n) (fun K hK b => js_blk (tX11_tell_0 l n hK) (js_blk (tX11_tell_75 l n hK) (js_blk (tX11_tell_88 l n hK) (js_none)))) n 0
def fX11_tell (n : Nat) : jF := jm_run 3 4 (kX11_tell n)
theorem sX11_tell (l : Launch) (n : Nat) : jr_F l (⟨"MeetingKit", "tell", "(II)I"⟩ : MethodName) cX11_tell 4 (Option.some Jvm.ClassFile.FieldType.int) 1 21 (fX11_tell n) := js_met (by decide +kernel) (by decide) (tX11_tell l n)
theorem dX11_outcome_0 : decode cX11_outcome 0 = .ok (.aload_n 0, 1) := by decide +kernel
theorem dX11_outcome_1 : decode cX11_outcome 1 = .ok (.iload_n 1, 1) := by decide +kernel
theorem dX11_outcome_2 : decode cX11_outcome 2 = .ok (.invokevirtual 45, 3) := by decide +kernel
theorem dX11_outcome_5 : decode cX11_outcome 5 = .ok (.astore 4, 2) := by decide +kernel
theorem dX11_outcome_7 : decode cX11_outcome 7 = .ok (.aload 4, 2) := by decide +kernel
theorem dX11_outcome_9 : decode cX11_outcome 9 = .ok (.ifnonnull 7, 3) := by decide +kernel
theorem dX11_outcome_12 : decode cX11_outcome 12 = .ok (.aconst_null, 1) := by decide +kernel
theorem dX11_outcome_13 : decode cX11_outcome 13 = .ok (.goto 9, 3) := by decide +kernel
theorem dX11_outcome_16 : decode cX11_outcome 16 = .ok (.aload 4, 2) := by decide +kernel
theorem dX11_outcome_18 : decode cX11_outcome 18 = .ok (.iload_n 2, 1) := by decide +kernel
theorem dX11_outcome_19 : decode cX11_outcome 19 = .ok (.invokevirtual 117, 3) := by decide +kernel
theorem dX11_outcome_22 : decode cX11_outcome 22 = .ok (.astore 5, 2) := by decide +kernel
theorem dX11_outcome_24 : decode cX11_outcome 24 = .ok (.aload 5, 2) := by decide +kernel
theorem dX11_outcome_26 : decode cX11_outcome 26 = .ok (.ifnonnull 5, 3) := by decide +kernel
theorem dX11_outcome_29 : decode cX11_outcome 29 = .ok (.iconst (-1), 1) := by decide +kernel
theorem dX11_outcome_30 : decode cX11_outcome 30 = .ok (.ireturn, 1) := by decide +kernel
theorem dX11_outcome_31 : decode cX11_outcome 31 = .ok (.iload_n 3, 1) := by decide +kernel
theorem dX11_outcome_32 : decode cX11_outcome 32 = .ok (.tableswitch 68 0 3 #[32, 38, 56, 62], 32) := by decide +kernel
theorem dX11_outcome_64 : decode cX11_outcome 64 = .ok (.aload 5, 2) := by decide +kernel
theorem dX11_outcome_66 : decode cX11_outcome 66 = .ok (.getfield 121, 3) := by decide +kernel
theorem dX11_outcome_69 : decode cX11_outcome 69 = .ok (.ireturn, 1) := by decide +kernel
theorem dX11_outcome_70 : decode cX11_outcome 70 = .ok (.aload 5, 2) := by decide +kernel
theorem dX11_outcome_72 : decode cX11_outcome 72 = .ok (.getfield 121, 3) := by decide +kernel
theorem dX11_outcome_75 : decode cX11_outcome 75 = .ok (.ifCond .ne 11, 3) := by decide +kernel
theorem dX11_outcome_78 : decode cX11_outcome 78 = .ok (.aload 5, 2) := by decide +kernel
theorem dX11_outcome_80 : decode cX11_outcome 80 = .ok (.getfield 124, 3) := by decide +kernel
theorem dX11_outcome_83 : decode cX11_outcome 83 = .ok (.goto 4, 3) := by decide +kernel
theorem dX11_outcome_86 : decode cX11_outcome 86 = .ok (.iconst 0, 1) := by decide +kernel
theorem dX11_outcome_87 : decode cX11_outcome 87 = .ok (.ireturn, 1) := by decide +kernel
theorem dX11_outcome_88 : decode cX11_outcome 88 = .ok (.aload 5, 2) := by decide +kernel
theorem dX11_outcome_90 : decode cX11_outcome 90 = .ok (.getfield 127, 3) := by decide +kernel
theorem dX11_outcome_93 : decode cX11_outcome 93 = .ok (.ireturn, 1) := by decide +kernel
theorem dX11_outcome_94 : decode cX11_outcome 94 = .ok (.aload 5, 2) := by decide +kernel
theorem dX11_outcome_96 : decode cX11_outcome 96 = .ok (.getfield 130, 3) := by decide +kernel
theorem dX11_outcome_99 : decode cX11_outcome 99 = .ok (.ireturn, 1) := by decide +kernel
theorem dX11_outcome_100 : decode cX11_outcome 100 = .ok (.iconst (-1), 1) := by decide +kernel
theorem dX11_outcome_101 : decode cX11_outcome 101 = .ok (.ireturn, 1) := by decide +kernel
def kX11_outcome_0 (n : Nat) (K : Nat → jK) : jK := jk_aload 0 <| jk_iload 1 <| jk_vcall [(10, fX11_actorAt n)] 1 <| jk_astore 4 <| jk_aload 4 <| jk_ifnonnull (jk_aload 4 <| jk_iload 2 <| jk_vcall [(0, fX0_stepAt n)] 1 <| K 22) <| jk_null <| K 22
set_option maxRecDepth 100000 in
set_option maxHeartbeats 4000000 in
theorem tX11_outcome_0 (l : Launch) (n : Nat) {K : Nat → jK} (hK : ∀ b, jr_D l cX11_outcome 6 "MeetingKit" (Option.some Jvm.ClassFile.FieldType.int) "outcome" 1 21 (K b) b) : jr_D l cX11_outcome 6 "MeetingKit" (Option.some Jvm.ClassFile.FieldType.int) "outcome" 1 21 (kX11_outcome_0 n K) 0 := by
  unfold kX11_outcome_0
  refine js_aload_n dX11_outcome_0 ?_
  refine js_iload_n dX11_outcome_1 ?_
  refine js_callv dX11_outcome_2 (⟨⟨_, _, _, _, _, _, _, ⟨rfl, (show (10 : Nat) < 20 by decide), sX11_actorAt l n, by decide, by decide, tw_435, tw_102, tw_434⟩, Or.inl ⟨by decide +kernel, by decide +kernel, by decide +kernel, tw_432, tw_16⟩⟩, trivial⟩) ?_
  refine js_astore dX11_outcome_5 (by decide) ?_
  refine js_aload dX11_outcome_7 ?_
  refine js_ifnonnull (tgt := 16) dX11_outcome_9 (by decide) ?_ ?_
  · refine js_aload dX11_outcome_16 ?_
    refine js_iload_n dX11_outcome_18 ?_
    refine js_callv dX11_outcome_19 (⟨⟨_, _, _, _, _, _, _, ⟨rfl, (show (0 : Nat) < 20 by decide), sX0_stepAt l n, by decide, by decide, tw_726, tw_114, tw_724⟩, Or.inl ⟨by decide +kernel, by decide +kernel, by decide +kernel, tw_890, tw_725⟩⟩, trivial⟩) ?_
    exact hK 22
  · refine js_null dX11_outcome_12 ?_
    refine js_goto (tgt := 22) dX11_outcome_13 (by decide) ?_
    exact hK 22
def kX11_outcome_22 (n : Nat) (K : Nat → jK) : jK := jk_kill 0 <| jk_kill 1 <| jk_kill 2 <| jk_kill 4 <| jk_astore 5 <| jk_aload 5 <| jk_ifnonnull (jk_iload 3 <| jk_sw [(0, (jk_aload 5 <| jk_get [9] 5 <| jk_iret)), (1, (jk_aload 5 <| jk_get [9] 5 <| jk_ifne (jk_int 0 <| K 87) <| jk_aload 5 <| jk_get [9] 6 <| K 87)), (2, (jk_aload 5 <| jk_get [9] 7 <| jk_iret)), (3, (jk_aload 5 <| jk_get [9] 8 <| jk_iret))] (jk_int (-1) <| jk_iret)) <| jk_int (-1) <| jk_iret
set_option maxRecDepth 100000 in
set_option maxHeartbeats 4000000 in
theorem tX11_outcome_22 (l : Launch) (n : Nat) {K : Nat → jK} (hK : ∀ b, jr_D l cX11_outcome 6 "MeetingKit" (Option.some Jvm.ClassFile.FieldType.int) "outcome" 1 21 (K b) b) : jr_D l cX11_outcome 6 "MeetingKit" (Option.some Jvm.ClassFile.FieldType.int) "outcome" 1 21 (kX11_outcome_22 n K) 22 := by
  unfold kX11_outcome_22
  refine js_kill ?_
  refine js_kill ?_
  refine js_kill ?_
  refine js_kill ?_
  refine js_astore dX11_outcome_22 (by decide) ?_
  refine js_aload dX11_outcome_24 ?_
  refine js_ifnonnull (tgt := 31) dX11_outcome_26 (by decide) ?_ ?_
  · refine js_iload_n dX11_outcome_31 ?_
    refine js_tsw (td := 100) dX11_outcome_32 rfl (by decide) ?_ ?_
    · refine js_iconst dX11_outcome_100 ?_
      exact js_iret dX11_outcome_101 rfl
    · refine ⟨rfl, ⟨64, by decide, ?_⟩, rfl, ⟨70, by decide, ?_⟩, rfl, ⟨88, by decide, ?_⟩, rfl, ⟨94, by decide, ?_⟩, trivial⟩
      · refine js_aload dX11_outcome_64 ?_
        refine js_get dX11_outcome_66 jf_5_9 tw_477 (Or.inl rfl) ?_
        exact js_iret dX11_outcome_69 rfl
      · refine js_aload dX11_outcome_70 ?_
        refine js_get dX11_outcome_72 jf_5_9 tw_477 (Or.inl rfl) ?_
        refine js_ifne (tgt := 86) dX11_outcome_75 (by decide) ?_ ?_
        · refine js_iconst dX11_outcome_86 ?_
          exact hK 87
        · refine js_aload dX11_outcome_78 ?_
          refine js_get dX11_outcome_80 jf_6_9 tw_486 (Or.inl rfl) ?_
          refine js_goto (tgt := 87) dX11_outcome_83 (by decide) ?_
          exact hK 87
      · refine js_aload dX11_outcome_88 ?_
        refine js_get dX11_outcome_90 jf_7_9 tw_489 (Or.inl rfl) ?_
        exact js_iret dX11_outcome_93 rfl
      · refine js_aload dX11_outcome_94 ?_
        refine js_get dX11_outcome_96 jf_8_9 tw_490 (Or.inl rfl) ?_
        exact js_iret dX11_outcome_99 rfl
  · refine js_iconst dX11_outcome_29 ?_
    exact js_iret dX11_outcome_30 rfl
def kX11_outcome_87 (n : Nat) (K : Nat → jK) : jK := jk_kill 0 <| jk_kill 1 <| jk_kill 2 <| jk_kill 3 <| jk_kill 4 <| jk_kill 5 <| jk_iret
set_option maxRecDepth 100000 in
set_option maxHeartbeats 4000000 in
theorem tX11_outcome_87 (l : Launch) (n : Nat) {K : Nat → jK} (hK : ∀ b, jr_D l cX11_outcome 6 "MeetingKit" (Option.some Jvm.ClassFile.FieldType.int) "outcome" 1 21 (K b) b) : jr_D l cX11_outcome 6 "MeetingKit" (Option.some Jvm.ClassFile.FieldType.int) "outcome" 1 21 (kX11_outcome_87 n K) 87 := by
  unfold kX11_outcome_87
  refine js_kill ?_
  refine js_kill ?_
  refine js_kill ?_
  refine js_kill ?_
  refine js_kill ?_
  refine js_kill ?_
  exact js_iret dX11_outcome_87 rfl
def kX11_outcome_b (n : Nat) (K : Nat → jK) (b : Nat) : jK := if b = 0 then kX11_outcome_0 n K else if b = 22 then kX11_outcome_22 n K else if b = 87 then kX11_outcome_87 n K else jk_none
def kX11_outcome (n : Nat) : jK := jk_fix (kX11_outcome_b n) n 0
theorem tX11_outcome (l : Launch) (n : Nat) : jr_D l cX11_outcome 6 "MeetingKit" (Option.some Jvm.ClassFile.FieldType.int) "outcome" 1 21 (kX11_outcome n) 0 := js_fix (F := kX11_outcome_b n) (fun K hK b => js_blk (tX11_outcome_0 l n hK) (js_blk (tX11_outcome_22 l n hK) (js_blk (tX11_outcome_87 l n hK) (js_none)))) n 0
def fX11_outcome (n : Nat) : jF := jm_run 4 6 (kX11_outcome n)
theorem sX11_outcome (l : Launch) (n : Nat) : jr_F l (⟨"MeetingKit", "outcome", "(III)I"⟩ : MethodName) cX11_outcome 6 (Option.some Jvm.ClassFile.FieldType.int) 1 21 (fX11_outcome n) := js_met (by decide +kernel) (by decide) (tX11_outcome l n)
theorem dX11_state_0 : decode cX11_state 0 = .ok (.aload_n 0, 1) := by decide +kernel
theorem dX11_state_1 : decode cX11_state 1 = .ok (.iload_n 1, 1) := by decide +kernel
theorem dX11_state_2 : decode cX11_state 2 = .ok (.invokevirtual 49, 3) := by decide +kernel
theorem dX11_state_5 : decode cX11_state 5 = .ok (.astore_n 3, 1) := by decide +kernel
theorem dX11_state_6 : decode cX11_state 6 = .ok (.aload_n 3, 1) := by decide +kernel
theorem dX11_state_7 : decode cX11_state 7 = .ok (.ifnonnull 5, 3) := by decide +kernel
theorem dX11_state_10 : decode cX11_state 10 = .ok (.iconst (-1), 1) := by decide +kernel
theorem dX11_state_11 : decode cX11_state 11 = .ok (.ireturn, 1) := by decide +kernel
theorem dX11_state_12 : decode cX11_state 12 = .ok (.iload_n 2, 1) := by decide +kernel
theorem dX11_state_13 : decode cX11_state 13 = .ok (.tableswitch 68 0 4 #[35, 40, 45, 58, 63], 35) := by decide +kernel
theorem dX11_state_48 : decode cX11_state 48 = .ok (.aload_n 3, 1) := by decide +kernel
theorem dX11_state_49 : decode cX11_state 49 = .ok (.getfield 133, 3) := by decide +kernel
theorem dX11_state_52 : decode cX11_state 52 = .ok (.ireturn, 1) := by decide +kernel
theorem dX11_state_53 : decode cX11_state 53 = .ok (.aload_n 3, 1) := by decide +kernel
theorem dX11_state_54 : decode cX11_state 54 = .ok (.getfield 136, 3) := by decide +kernel
theorem dX11_state_57 : decode cX11_state 57 = .ok (.ireturn, 1) := by decide +kernel
theorem dX11_state_58 : decode cX11_state 58 = .ok (.aload_n 3, 1) := by decide +kernel
theorem dX11_state_59 : decode cX11_state 59 = .ok (.getfield 139, 3) := by decide +kernel
theorem dX11_state_62 : decode cX11_state 62 = .ok (.ifCond .eq 7, 3) := by decide +kernel
theorem dX11_state_65 : decode cX11_state 65 = .ok (.iconst 1, 1) := by decide +kernel
theorem dX11_state_66 : decode cX11_state 66 = .ok (.goto 4, 3) := by decide +kernel
theorem dX11_state_69 : decode cX11_state 69 = .ok (.iconst 0, 1) := by decide +kernel
theorem dX11_state_70 : decode cX11_state 70 = .ok (.ireturn, 1) := by decide +kernel
theorem dX11_state_71 : decode cX11_state 71 = .ok (.aload_n 3, 1) := by decide +kernel
theorem dX11_state_72 : decode cX11_state 72 = .ok (.invokevirtual 142, 3) := by decide +kernel
theorem dX11_state_75 : decode cX11_state 75 = .ok (.ireturn, 1) := by decide +kernel
theorem dX11_state_76 : decode cX11_state 76 = .ok (.aload_n 3, 1) := by decide +kernel
theorem dX11_state_77 : decode cX11_state 77 = .ok (.invokevirtual 145, 3) := by decide +kernel
theorem dX11_state_80 : decode cX11_state 80 = .ok (.ireturn, 1) := by decide +kernel
theorem dX11_state_81 : decode cX11_state 81 = .ok (.iconst (-1), 1) := by decide +kernel
theorem dX11_state_82 : decode cX11_state 82 = .ok (.ireturn, 1) := by decide +kernel
def kX11_state_0 (n : Nat) (K : Nat → jK) : jK := jk_aload 0 <| jk_iload 1 <| jk_vcall [(10, fX11_deviceAt n)] 1 <| jk_astore 3 <| jk_aload 3 <| jk_ifnonnull (jk_iload 2 <| jk_sw [(0, (jk_aload 3 <| jk_get [1, 2, 3, 4, 5, 6, 7, 8] 0 <| jk_iret)), (1, (jk_aload 3 <| jk_get [1, 2, 3, 4, 5, 6, 7, 8] 5 <| jk_iret)), (2, (jk_aload 3 <| jk_get [1, 2, 3, 4, 5, 6, 7, 8] 3 <| jk_ifeq (jk_int 0 <| K 70) <| jk_int 1 <| K 70)), (3, (jk_aload 3 <| jk_vcall [(1, fX1_mainState n), (2, fX2_mainState n), (3, fX4_mainState n), (4, fX5_mainState n), (5, fX6_mainState n), (6, fX7_mainState n), (7, fX8_mainState n), (8, fX9_mainState n)] 0 <| jk_iret)), (4, (jk_aload 3 <| jk_vcall [(1, fX1_sideState n), (2, fX2_sideState n), (3, fX2_sideState n), (4, fX5_sideState n), (5, fX6_sideState n), (6, fX2_sideState n), (7, fX8_sideState n), (8, fX9_sideState n)] 0 <| jk_iret))] (jk_int (-1) <| jk_iret)) <| jk_int (-1) <| jk_iret
set_option maxRecDepth 100000 in
set_option maxHeartbeats 4000000 in
theorem tX11_state_0 (l : Launch) (n : Nat) {K : Nat → jK} (hK : ∀ b, jr_D l cX11_state 4 "MeetingKit" (Option.some Jvm.ClassFile.FieldType.int) "state" 2 43 (K b) b) : jr_D l cX11_state 4 "MeetingKit" (Option.some Jvm.ClassFile.FieldType.int) "state" 2 43 (kX11_state_0 n K) 0 := by
  unfold kX11_state_0
  refine js_aload_n dX11_state_0 ?_
  refine js_iload_n dX11_state_1 ?_
  refine js_callv dX11_state_2 (⟨⟨_, _, _, _, _, _, _, ⟨rfl, (show (10 : Nat) < 20 by decide), sX11_deviceAt l n, by decide, by decide, tw_439, tw_102, tw_438⟩, Or.inl ⟨by decide +kernel, by decide +kernel, by decide +kernel, tw_436, tw_17⟩⟩, trivial⟩) ?_
  refine js_astore_n dX11_state_5 (by decide) ?_
  refine js_aload_n dX11_state_6 ?_
  refine js_ifnonnull (tgt := 12) dX11_state_7 (by decide) ?_ ?_
  · refine js_iload_n dX11_state_12 ?_
    refine js_tsw (td := 81) dX11_state_13 rfl (by decide) ?_ ?_
    · refine js_iconst dX11_state_81 ?_
      exact js_iret dX11_state_82 rfl
    · refine ⟨rfl, ⟨48, by decide, ?_⟩, rfl, ⟨53, by decide, ?_⟩, rfl, ⟨58, by decide, ?_⟩, rfl, ⟨71, by decide, ?_⟩, rfl, ⟨76, by decide, ?_⟩, trivial⟩
      · refine js_aload_n dX11_state_48 ?_
        refine js_get dX11_state_49 jf_0_1_2_3_4_5_6_7_8 tw_185 (Or.inl rfl) ?_
        exact js_iret dX11_state_52 rfl
      · refine js_aload_n dX11_state_53 ?_
        refine js_get dX11_state_54 jf_5_1_2_3_4_5_6_7_8 tw_207 (Or.inl rfl) ?_
        exact js_iret dX11_state_57 rfl
      · refine js_aload_n dX11_state_58 ?_
        refine js_get dX11_state_59 jf_3_1_2_3_4_5_6_7_8 tw_190 (Or.inl rfl) ?_
        refine js_ifeq (tgt := 69) dX11_state_62 (by decide) ?_ ?_
        · refine js_iconst dX11_state_69 ?_
          exact hK 70
        · refine js_iconst dX11_state_65 ?_
          refine js_goto (tgt := 70) dX11_state_66 (by decide) ?_
          exact hK 70
      · refine js_aload_n dX11_state_71 ?_
        refine js_callv dX11_state_72 (⟨⟨_, _, _, _, _, _, _, ⟨rfl, (show (1 : Nat) < 20 by decide), sX1_mainState l n, by decide, by decide, tw_900, tw_106, tw_899⟩, Or.inr ⟨⟨"MeetingKit$Device", "mainState", "()I"⟩, "MeetingKit$Device", by decide +kernel, by decide +kernel, by decide +kernel, tw_895, tw_897, tw_898, Or.inl ⟨_, _, _, tw_896, tw_920⟩⟩⟩, ⟨⟨_, _, _, _, _, _, _, ⟨rfl, (show (2 : Nat) < 20 by decide), sX2_mainState l n, by decide, by decide, tw_920, tw_104, tw_896⟩, Or.inr ⟨⟨"MeetingKit$Device", "mainState", "()I"⟩, "MeetingKit$Device", by decide +kernel, by decide +kernel, by decide +kernel, tw_895, tw_897, tw_901, Or.inl ⟨_, _, _, tw_896, tw_920⟩⟩⟩, ⟨⟨_, _, _, _, _, _, _, ⟨rfl, (show (3 : Nat) < 20 by decide), sX4_mainState l n, by decide, by decide, tw_904, tw_109, tw_903⟩, Or.inr ⟨⟨"MeetingKit$Device", "mainState", "()I"⟩, "MeetingKit$Device", by decide +kernel, by decide +kernel, by decide +kernel, tw_895, tw_897, tw_902, Or.inl ⟨_, _, _, tw_896, tw_920⟩⟩⟩, ⟨⟨_, _, _, _, _, _, _, ⟨rfl, (show (4 : Nat) < 20 by decide), sX5_mainState l n, by decide, by decide, tw_907, tw_108, tw_906⟩, Or.inr ⟨⟨"MeetingKit$Device", "mainState", "()I"⟩, "MeetingKit$Device", by decide +kernel, by decide +kernel, by decide +kernel, tw_895, tw_897, tw_905, Or.inl ⟨_, _, _, tw_896, tw_920⟩⟩⟩, ⟨⟨_, _, _, _, _, _, _, ⟨rfl, (show (5 : Nat) < 20 by decide), sX6_mainState l n, by decide, by decide, tw_910, tw_112, tw_909⟩, Or.inr ⟨⟨"MeetingKit$Device", "mainState", "()I"⟩, "MeetingKit$Device", by decide +kernel, by decide +kernel, by decide +kernel, tw_895, tw_897, tw_908, Or.inl ⟨_, _, _, tw_896, tw_920⟩⟩⟩, ⟨⟨_, _, _, _, _, _, _, ⟨rfl, (show (6 : Nat) < 20 by decide), sX7_mainState l n, by decide, by decide, tw_913, tw_105, tw_912⟩, Or.inr ⟨⟨"MeetingKit$Device", "mainState", "()I"⟩, "MeetingKit$Device", by decide +kernel, by decide +kernel, by decide +kernel, tw_895, tw_897, tw_911, Or.inl ⟨_, _, _, tw_896, tw_920⟩⟩⟩, ⟨⟨_, _, _, _, _, _, _, ⟨rfl, (show (7 : Nat) < 20 by decide), sX8_mainState l n, by decide, by decide, tw_916, tw_111, tw_915⟩, Or.inr ⟨⟨"MeetingKit$Device", "mainState", "()I"⟩, "MeetingKit$Device", by decide +kernel, by decide +kernel, by decide +kernel, tw_895, tw_897, tw_914, Or.inl ⟨_, _, _, tw_896, tw_920⟩⟩⟩, ⟨⟨_, _, _, _, _, _, _, ⟨rfl, (show (8 : Nat) < 20 by decide), sX9_mainState l n, by decide, by decide, tw_919, tw_113, tw_918⟩, Or.inr ⟨⟨"MeetingKit$Device", "mainState", "()I"⟩, "MeetingKit$Device", by decide +kernel, by decide +kernel, by decide +kernel, tw_895, tw_897, tw_917, Or.inl ⟨_, _, _, tw_896, tw_920⟩⟩⟩, trivial⟩⟩⟩⟩⟩⟩⟩⟩) ?_
        exact js_iret dX11_state_75 rfl
      · refine js_aload_n dX11_state_76 ?_
        refine js_callv dX11_state_77 (⟨⟨_, _, _, _, _, _, _, ⟨rfl, (show (1 : Nat) < 20 by decide), sX1_sideState l n, by decide, by decide, tw_926, tw_106, tw_925⟩, Or.inr ⟨⟨"MeetingKit$Device", "sideState", "()I"⟩, "MeetingKit$Device", by decide +kernel, by decide +kernel, by decide +kernel, tw_921, tw_923, tw_924, Or.inl ⟨_, _, _, tw_922, tw_942⟩⟩⟩, ⟨⟨_, _, _, _, _, _, _, ⟨rfl, (show (2 : Nat) < 20 by decide), sX2_sideState l n, by decide, by decide, tw_942, tw_104, tw_922⟩, Or.inr ⟨⟨"MeetingKit$Device", "sideState", "()I"⟩, "MeetingKit$Device", by decide +kernel, by decide +kernel, by decide +kernel, tw_921, tw_923, tw_927, Or.inl ⟨_, _, _, tw_922, tw_942⟩⟩⟩, ⟨⟨_, _, _, _, _, _, _, ⟨rfl, (show (3 : Nat) < 20 by decide), sX2_sideState l n, by decide, by decide, tw_942, tw_104, tw_922⟩, Or.inr ⟨⟨"MeetingKit$Device", "sideState", "()I"⟩, "MeetingKit$Device", by decide +kernel, by decide +kernel, by decide +kernel, tw_921, tw_923, tw_928, Or.inl ⟨_, _, _, tw_922, tw_942⟩⟩⟩, ⟨⟨_, _, _, _, _, _, _, ⟨rfl, (show (4 : Nat) < 20 by decide), sX5_sideState l n, by decide, by decide, tw_931, tw_108, tw_930⟩, Or.inr ⟨⟨"MeetingKit$Device", "sideState", "()I"⟩, "MeetingKit$Device", by decide +kernel, by decide +kernel, by decide +kernel, tw_921, tw_923, tw_929, Or.inl ⟨_, _, _, tw_922, tw_942⟩⟩⟩, ⟨⟨_, _, _, _, _, _, _, ⟨rfl, (show (5 : Nat) < 20 by decide), sX6_sideState l n, by decide, by decide, tw_934, tw_112, tw_933⟩, Or.inr ⟨⟨"MeetingKit$Device", "sideState", "()I"⟩, "MeetingKit$Device", by decide +kernel, by decide +kernel, by decide +kernel, tw_921, tw_923, tw_932, Or.inl ⟨_, _, _, tw_922, tw_942⟩⟩⟩, ⟨⟨_, _, _, _, _, _, _, ⟨rfl, (show (6 : Nat) < 20 by decide), sX2_sideState l n, by decide, by decide, tw_942, tw_104, tw_922⟩, Or.inr ⟨⟨"MeetingKit$Device", "sideState", "()I"⟩, "MeetingKit$Device", by decide +kernel, by decide +kernel, by decide +kernel, tw_921, tw_923, tw_935, Or.inl ⟨_, _, _, tw_922, tw_942⟩⟩⟩, ⟨⟨_, _, _, _, _, _, _, ⟨rfl, (show (7 : Nat) < 20 by decide), sX8_sideState l n, by decide, by decide, tw_938, tw_111, tw_937⟩, Or.inr ⟨⟨"MeetingKit$Device", "sideState", "()I"⟩, "MeetingKit$Device", by decide +kernel, by decide +kernel, by decide +kernel, tw_921, tw_923, tw_936, Or.inl ⟨_, _, _, tw_922, tw_942⟩⟩⟩, ⟨⟨_, _, _, _, _, _, _, ⟨rfl, (show (8 : Nat) < 20 by decide), sX9_sideState l n, by decide, by decide, tw_941, tw_113, tw_940⟩, Or.inr ⟨⟨"MeetingKit$Device", "sideState", "()I"⟩, "MeetingKit$Device", by decide +kernel, by decide +kernel, by decide +kernel, tw_921, tw_923, tw_939, Or.inl ⟨_, _, _, tw_922, tw_942⟩⟩⟩, trivial⟩⟩⟩⟩⟩⟩⟩⟩) ?_
        exact js_iret dX11_state_80 rfl
  · refine js_iconst dX11_state_10 ?_
    exact js_iret dX11_state_11 rfl
def kX11_state_70 (n : Nat) (K : Nat → jK) : jK := jk_kill 0 <| jk_kill 1 <| jk_kill 2 <| jk_kill 3 <| jk_iret
set_option maxRecDepth 100000 in
set_option maxHeartbeats 4000000 in
theorem tX11_state_70 (l : Launch) (n : Nat) {K : Nat → jK} (hK : ∀ b, jr_D l cX11_state 4 "MeetingKit" (Option.some Jvm.ClassFile.FieldType.int) "state" 2 43 (K b) b) : jr_D l cX11_state 4 "MeetingKit" (Option.some Jvm.ClassFile.FieldType.int) "state" 2 43 (kX11_state_70 n K) 70 := by
  unfold kX11_state_70
  refine js_kill ?_
  refine js_kill ?_
  refine js_kill ?_
  refine js_kill ?_
  exact js_iret dX11_state_70 rfl
def kX11_state_b (n : Nat) (K : Nat → jK) (b : Nat) : jK := if b = 0 then kX11_state_0 n K else if b = 70 then kX11_state_70 n K else jk_none
def kX11_state (n : Nat) : jK := jk_fix (kX11_state_b n) n 0
theorem tX11_state (l : Launch) (n : Nat) : jr_D l cX11_state 4 "MeetingKit" (Option.some Jvm.ClassFile.FieldType.int) "state" 2 43 (kX11_state n) 0 := js_fix (F := kX11_state_b n) (fun K hK b => js_blk (tX11_state_0 l n hK) (js_blk (tX11_state_70 l n hK) (js_none))) n 0
def fX11_state (n : Nat) : jF := jm_run 3 4 (kX11_state n)
theorem sX11_state (l : Launch) (n : Nat) : jr_F l (⟨"MeetingKit", "state", "(II)I"⟩ : MethodName) cX11_state 4 (Option.some Jvm.ClassFile.FieldType.int) 2 43 (fX11_state n) := js_met (by decide +kernel) (by decide) (tX11_state l n)
theorem dX11_waiting_0 : decode cX11_waiting 0 = .ok (.aload_n 0, 1) := by decide +kernel
theorem dX11_waiting_1 : decode cX11_waiting 1 = .ok (.iload_n 1, 1) := by decide +kernel
theorem dX11_waiting_2 : decode cX11_waiting 2 = .ok (.invokevirtual 49, 3) := by decide +kernel
theorem dX11_waiting_5 : decode cX11_waiting 5 = .ok (.astore_n 3, 1) := by decide +kernel
theorem dX11_waiting_6 : decode cX11_waiting 6 = .ok (.aload_n 3, 1) := by decide +kernel
theorem dX11_waiting_7 : decode cX11_waiting 7 = .ok (.ifnonnull 7, 3) := by decide +kernel
theorem dX11_waiting_10 : decode cX11_waiting 10 = .ok (.aconst_null, 1) := by decide +kernel
theorem dX11_waiting_11 : decode cX11_waiting 11 = .ok (.goto 8, 3) := by decide +kernel
theorem dX11_waiting_14 : decode cX11_waiting 14 = .ok (.aload_n 3, 1) := by decide +kernel
theorem dX11_waiting_15 : decode cX11_waiting 15 = .ok (.iload_n 2, 1) := by decide +kernel
theorem dX11_waiting_16 : decode cX11_waiting 16 = .ok (.invokevirtual 148, 3) := by decide +kernel
theorem dX11_waiting_19 : decode cX11_waiting 19 = .ok (.astore 4, 2) := by decide +kernel
theorem dX11_waiting_21 : decode cX11_waiting 21 = .ok (.aload 4, 2) := by decide +kernel
theorem dX11_waiting_23 : decode cX11_waiting 23 = .ok (.ifnonnull 7, 3) := by decide +kernel
theorem dX11_waiting_26 : decode cX11_waiting 26 = .ok (.iconst (-1), 1) := by decide +kernel
theorem dX11_waiting_27 : decode cX11_waiting 27 = .ok (.goto 11, 3) := by decide +kernel
theorem dX11_waiting_30 : decode cX11_waiting 30 = .ok (.aload 4, 2) := by decide +kernel
theorem dX11_waiting_32 : decode cX11_waiting 32 = .ok (.getfield 151, 3) := by decide +kernel
theorem dX11_waiting_35 : decode cX11_waiting 35 = .ok (.getfield 155, 3) := by decide +kernel
theorem dX11_waiting_38 : decode cX11_waiting 38 = .ok (.ireturn, 1) := by decide +kernel
def kX11_waiting_0 (n : Nat) (K : Nat → jK) : jK := jk_aload 0 <| jk_iload 1 <| jk_vcall [(10, fX11_deviceAt n)] 1 <| jk_astore 3 <| jk_aload 3 <| jk_ifnonnull (jk_aload 3 <| jk_iload 2 <| jk_vcall [(1, fX2_waiter n), (2, fX2_waiter n), (3, fX2_waiter n), (4, fX2_waiter n), (5, fX2_waiter n), (6, fX2_waiter n), (7, fX2_waiter n), (8, fX2_waiter n)] 1 <| K 19) <| jk_null <| K 19
set_option maxRecDepth 100000 in
set_option maxHeartbeats 4000000 in
theorem tX11_waiting_0 (l : Launch) (n : Nat) {K : Nat → jK} (hK : ∀ b, jr_D l cX11_waiting 5 "MeetingKit" (Option.some Jvm.ClassFile.FieldType.int) "waiting" 1 21 (K b) b) : jr_D l cX11_waiting 5 "MeetingKit" (Option.some Jvm.ClassFile.FieldType.int) "waiting" 1 21 (kX11_waiting_0 n K) 0 := by
  unfold kX11_waiting_0
  refine js_aload_n dX11_waiting_0 ?_
  refine js_iload_n dX11_waiting_1 ?_
  refine js_callv dX11_waiting_2 (⟨⟨_, _, _, _, _, _, _, ⟨rfl, (show (10 : Nat) < 20 by decide), sX11_deviceAt l n, by decide, by decide, tw_439, tw_102, tw_438⟩, Or.inl ⟨by decide +kernel, by decide +kernel, by decide +kernel, tw_436, tw_17⟩⟩, trivial⟩) ?_
  refine js_astore_n dX11_waiting_5 (by decide) ?_
  refine js_aload_n dX11_waiting_6 ?_
  refine js_ifnonnull (tgt := 14) dX11_waiting_7 (by decide) ?_ ?_
  · refine js_aload_n dX11_waiting_14 ?_
    refine js_iload_n dX11_waiting_15 ?_
    refine js_callv dX11_waiting_16 (⟨⟨_, _, _, _, _, _, _, ⟨rfl, (show (1 : Nat) < 20 by decide), sX2_waiter l n, by decide, by decide, tw_655, tw_104, tw_654⟩, Or.inr ⟨⟨"MeetingKit$Device", "waiter", "(I)LMeetingKit$Step;"⟩, "MeetingKit$Device", by decide +kernel, by decide +kernel, by decide +kernel, tw_947, tw_1302, tw_1303, Or.inl ⟨_, _, _, tw_654, tw_655⟩⟩⟩, ⟨⟨_, _, _, _, _, _, _, ⟨rfl, (show (2 : Nat) < 20 by decide), sX2_waiter l n, by decide, by decide, tw_655, tw_104, tw_654⟩, Or.inr ⟨⟨"MeetingKit$Device", "waiter", "(I)LMeetingKit$Step;"⟩, "MeetingKit$Device", by decide +kernel, by decide +kernel, by decide +kernel, tw_947, tw_1302, tw_1304, Or.inl ⟨_, _, _, tw_654, tw_655⟩⟩⟩, ⟨⟨_, _, _, _, _, _, _, ⟨rfl, (show (3 : Nat) < 20 by decide), sX2_waiter l n, by decide, by decide, tw_655, tw_104, tw_654⟩, Or.inr ⟨⟨"MeetingKit$Device", "waiter", "(I)LMeetingKit$Step;"⟩, "MeetingKit$Device", by decide +kernel, by decide +kernel, by decide +kernel, tw_947, tw_1302, tw_1305, Or.inl ⟨_, _, _, tw_654, tw_655⟩⟩⟩, ⟨⟨_, _, _, _, _, _, _, ⟨rfl, (show (4 : Nat) < 20 by decide), sX2_waiter l n, by decide, by decide, tw_655, tw_104, tw_654⟩, Or.inr ⟨⟨"MeetingKit$Device", "waiter", "(I)LMeetingKit$Step;"⟩, "MeetingKit$Device", by decide +kernel, by decide +kernel, by decide +kernel, tw_947, tw_1302, tw_1306, Or.inl ⟨_, _, _, tw_654, tw_655⟩⟩⟩, ⟨⟨_, _, _, _, _, _, _, ⟨rfl, (show (5 : Nat) < 20 by decide), sX2_waiter l n, by decide, by decide, tw_655, tw_104, tw_654⟩, Or.inr ⟨⟨"MeetingKit$Device", "waiter", "(I)LMeetingKit$Step;"⟩, "MeetingKit$Device", by decide +kernel, by decide +kernel, by decide +kernel, tw_947, tw_1302, tw_1307, Or.inl ⟨_, _, _, tw_654, tw_655⟩⟩⟩, ⟨⟨_, _, _, _, _, _, _, ⟨rfl, (show (6 : Nat) < 20 by decide), sX2_waiter l n, by decide, by decide, tw_655, tw_104, tw_654⟩, Or.inr ⟨⟨"MeetingKit$Device", "waiter", "(I)LMeetingKit$Step;"⟩, "MeetingKit$Device", by decide +kernel, by decide +kernel, by decide +kernel, tw_947, tw_1302, tw_1308, Or.inl ⟨_, _, _, tw_654, tw_655⟩⟩⟩, ⟨⟨_, _, _, _, _, _, _, ⟨rfl, (show (7 : Nat) < 20 by decide), sX2_waiter l n, by decide, by decide, tw_655, tw_104, tw_654⟩, Or.inr ⟨⟨"MeetingKit$Device", "waiter", "(I)LMeetingKit$Step;"⟩, "MeetingKit$Device", by decide +kernel, by decide +kernel, by decide +kernel, tw_947, tw_1302, tw_1309, Or.inl ⟨_, _, _, tw_654, tw_655⟩⟩⟩, ⟨⟨_, _, _, _, _, _, _, ⟨rfl, (show (8 : Nat) < 20 by decide), sX2_waiter l n, by decide, by decide, tw_655, tw_104, tw_654⟩, Or.inr ⟨⟨"MeetingKit$Device", "waiter", "(I)LMeetingKit$Step;"⟩, "MeetingKit$Device", by decide +kernel, by decide +kernel, by decide +kernel, tw_947, tw_1302, tw_1310, Or.inl ⟨_, _, _, tw_654, tw_655⟩⟩⟩, trivial⟩⟩⟩⟩⟩⟩⟩⟩) ?_
    exact hK 19
  · refine js_null dX11_waiting_10 ?_
    refine js_goto (tgt := 19) dX11_waiting_11 (by decide) ?_
    exact hK 19
def kX11_waiting_19 (n : Nat) (K : Nat → jK) : jK := jk_kill 0 <| jk_kill 1 <| jk_kill 2 <| jk_kill 3 <| jk_astore 4 <| jk_aload 4 <| jk_ifnonnull (jk_aload 4 <| jk_get [9] 0 <| jk_get [0] 0 <| K 38) <| jk_int (-1) <| K 38
set_option maxRecDepth 100000 in
set_option maxHeartbeats 4000000 in
theorem tX11_waiting_19 (l : Launch) (n : Nat) {K : Nat → jK} (hK : ∀ b, jr_D l cX11_waiting 5 "MeetingKit" (Option.some Jvm.ClassFile.FieldType.int) "waiting" 1 21 (K b) b) : jr_D l cX11_waiting 5 "MeetingKit" (Option.some Jvm.ClassFile.FieldType.int) "waiting" 1 21 (kX11_waiting_19 n K) 19 := by
  unfold kX11_waiting_19
  refine js_kill ?_
  refine js_kill ?_
  refine js_kill ?_
  refine js_kill ?_
  refine js_astore dX11_waiting_19 (by decide) ?_
  refine js_aload dX11_waiting_21 ?_
  refine js_ifnonnull (tgt := 30) dX11_waiting_23 (by decide) ?_ ?_
  · refine js_aload dX11_waiting_30 ?_
    refine js_get dX11_waiting_32 jf_0_9 tw_453 (Or.inl rfl) ?_
    refine js_get dX11_waiting_35 jf_0_0 tw_399 (Or.inl rfl) ?_
    exact hK 38
  · refine js_iconst dX11_waiting_26 ?_
    refine js_goto (tgt := 38) dX11_waiting_27 (by decide) ?_
    exact hK 38
def kX11_waiting_38 (n : Nat) (K : Nat → jK) : jK := jk_kill 0 <| jk_kill 1 <| jk_kill 2 <| jk_kill 3 <| jk_kill 4 <| jk_iret
set_option maxRecDepth 100000 in
set_option maxHeartbeats 4000000 in
theorem tX11_waiting_38 (l : Launch) (n : Nat) {K : Nat → jK} (hK : ∀ b, jr_D l cX11_waiting 5 "MeetingKit" (Option.some Jvm.ClassFile.FieldType.int) "waiting" 1 21 (K b) b) : jr_D l cX11_waiting 5 "MeetingKit" (Option.some Jvm.ClassFile.FieldType.int) "waiting" 1 21 (kX11_waiting_38 n K) 38 := by
  unfold kX11_waiting_38
  refine js_kill ?_
  refine js_kill ?_
  refine js_kill ?_
  refine js_kill ?_
  refine js_kill ?_
  exact js_iret dX11_waiting_38 rfl
def kX11_waiting_b (n : Nat) (K : Nat → jK) (b : Nat) : jK := if b = 0 then kX11_waiting_0 n K else if b = 19 then kX11_waiting_19 n K else if b = 38 then kX11_waiting_38 n K else jk_none
def kX11_waiting (n : Nat) : jK := jk_fix (kX11_waiting_b n) n 0
theorem tX11_waiting (l : Launch) (n : Nat) : jr_D l cX11_waiting 5 "MeetingKit" (Option.some Jvm.ClassFile.FieldType.int) "waiting" 1 21 (kX11_waiting n) 0 := js_fix (F := kX11_waiting_b n) (fun K hK b => js_blk (tX11_waiting_0 l n hK) (js_blk (tX11_waiting_19 l n hK) (js_blk (tX11_waiting_38 l n hK) (js_none)))) n 0
def fX11_waiting (n : Nat) : jF := jm_run 3 5 (kX11_waiting n)
theorem sX11_waiting (l : Launch) (n : Nat) : jr_F l (⟨"MeetingKit", "waiting", "(II)I"⟩ : MethodName) cX11_waiting 5 (Option.some Jvm.ClassFile.FieldType.int) 1 21 (fX11_waiting n) := js_met (by decide +kernel) (by decide) (tX11_waiting l n)
theorem dX11_passed_0 : decode cX11_passed 0 = .ok (.aload_n 0, 1) := by decide +kernel
theorem dX11_passed_1 : decode cX11_passed 1 = .ok (.iload_n 1, 1) := by decide +kernel
theorem dX11_passed_2 : decode cX11_passed 2 = .ok (.invokevirtual 49, 3) := by decide +kernel
theorem dX11_passed_5 : decode cX11_passed 5 = .ok (.astore_n 3, 1) := by decide +kernel
theorem dX11_passed_6 : decode cX11_passed 6 = .ok (.aload_n 3, 1) := by decide +kernel
theorem dX11_passed_7 : decode cX11_passed 7 = .ok (.ifnull 15, 3) := by decide +kernel
theorem dX11_passed_10 : decode cX11_passed 10 = .ok (.iload_n 2, 1) := by decide +kernel
theorem dX11_passed_11 : decode cX11_passed 11 = .ok (.ifCond .lt 11, 3) := by decide +kernel
theorem dX11_passed_14 : decode cX11_passed 14 = .ok (.iload_n 2, 1) := by decide +kernel
theorem dX11_passed_15 : decode cX11_passed 15 = .ok (.aload_n 3, 1) := by decide +kernel
theorem dX11_passed_16 : decode cX11_passed 16 = .ok (.getfield 156, 3) := by decide +kernel
theorem dX11_passed_19 : decode cX11_passed 19 = .ok (.if_icmp .lt 5, 3) := by decide +kernel
theorem dX11_passed_22 : decode cX11_passed 22 = .ok (.iconst (-1), 1) := by decide +kernel
theorem dX11_passed_23 : decode cX11_passed 23 = .ok (.ireturn, 1) := by decide +kernel
theorem dX11_passed_24 : decode cX11_passed 24 = .ok (.aload_n 3, 1) := by decide +kernel
theorem dX11_passed_25 : decode cX11_passed 25 = .ok (.getfield 159, 3) := by decide +kernel
theorem dX11_passed_28 : decode cX11_passed 28 = .ok (.iload_n 2, 1) := by decide +kernel
theorem dX11_passed_29 : decode cX11_passed 29 = .ok (.iaload, 1) := by decide +kernel
theorem dX11_passed_30 : decode cX11_passed 30 = .ok (.ireturn, 1) := by decide +kernel
def kX11_passed_0 (n : Nat) (K : Nat → jK) : jK := jk_aload 0 <| jk_iload 1 <| jk_vcall [(10, fX11_deviceAt n)] 1 <| jk_astore 3 <| jk_aload 3 <| jk_ifnull (K 22) <| jk_iload 2 <| jk_iflt (K 22) <| jk_iload 2 <| jk_aload 3 <| jk_get [1, 2, 3, 4, 5, 6, 7, 8] 7 <| jk_icmplt (jk_aload 3 <| jk_get [1, 2, 3, 4, 5, 6, 7, 8] 6 <| jk_iload 2 <| jk_iald <| jk_iret) <| K 22
set_option maxRecDepth 100000 in
set_option maxHeartbeats 4000000 in
theorem tX11_passed_0 (l : Launch) (n : Nat) {K : Nat → jK} (hK : ∀ b, jr_D l cX11_passed 4 "MeetingKit" (Option.some Jvm.ClassFile.FieldType.int) "passed" 1 21 (K b) b) : jr_D l cX11_passed 4 "MeetingKit" (Option.some Jvm.ClassFile.FieldType.int) "passed" 1 21 (kX11_passed_0 n K) 0 := by
  unfold kX11_passed_0
  refine js_aload_n dX11_passed_0 ?_
  refine js_iload_n dX11_passed_1 ?_
  refine js_callv dX11_passed_2 (⟨⟨_, _, _, _, _, _, _, ⟨rfl, (show (10 : Nat) < 20 by decide), sX11_deviceAt l n, by decide, by decide, tw_439, tw_102, tw_438⟩, Or.inl ⟨by decide +kernel, by decide +kernel, by decide +kernel, tw_436, tw_17⟩⟩, trivial⟩) ?_
  refine js_astore_n dX11_passed_5 (by decide) ?_
  refine js_aload_n dX11_passed_6 ?_
  refine js_ifnull (tgt := 22) dX11_passed_7 (by decide) ?_ ?_
  · exact hK 22
  · refine js_iload_n dX11_passed_10 ?_
    refine js_iflt (tgt := 22) dX11_passed_11 (by decide) ?_ ?_
    · exact hK 22
    · refine js_iload_n dX11_passed_14 ?_
      refine js_aload_n dX11_passed_15 ?_
      refine js_get dX11_passed_16 jf_7_1_2_3_4_5_6_7_8 tw_210 (Or.inl rfl) ?_
      refine js_icmplt (tgt := 24) dX11_passed_19 (by decide) ?_ ?_
      · refine js_aload_n dX11_passed_24 ?_
        refine js_get dX11_passed_25 jf_6_1_2_3_4_5_6_7_8 tw_209 (Or.inl rfl) ?_
        refine js_iload_n dX11_passed_28 ?_
        refine js_iald dX11_passed_29 ?_
        exact js_iret dX11_passed_30 rfl
      · exact hK 22
def kX11_passed_22 (n : Nat) (K : Nat → jK) : jK := jk_kill 0 <| jk_kill 1 <| jk_kill 2 <| jk_kill 3 <| jk_int (-1) <| jk_iret
set_option maxRecDepth 100000 in
set_option maxHeartbeats 4000000 in
theorem tX11_passed_22 (l : Launch) (n : Nat) {K : Nat → jK} (hK : ∀ b, jr_D l cX11_passed 4 "MeetingKit" (Option.some Jvm.ClassFile.FieldType.int) "passed" 1 21 (K b) b) : jr_D l cX11_passed 4 "MeetingKit" (Option.some Jvm.ClassFile.FieldType.int) "passed" 1 21 (kX11_passed_22 n K) 22 := by
  unfold kX11_passed_22
  refine js_kill ?_
  refine js_kill ?_
  refine js_kill ?_
  refine js_kill ?_
  refine js_iconst dX11_passed_22 ?_
  exact js_iret dX11_passed_23 rfl
def kX11_passed_b (n : Nat) (K : Nat → jK) (b : Nat) : jK := if b = 0 then kX11_passed_0 n K else if b = 22 then kX11_passed_22 n K else jk_none
def kX11_passed (n : Nat) : jK := jk_fix (kX11_passed_b n) n 0
theorem tX11_passed (l : Launch) (n : Nat) : jr_D l cX11_passed 4 "MeetingKit" (Option.some Jvm.ClassFile.FieldType.int) "passed" 1 21 (kX11_passed n) 0 := js_fix (F := kX11_passed_b n) (fun K hK b => js_blk (tX11_passed_0 l n hK) (js_blk (tX11_passed_22 l n hK) (js_none))) n 0
def fX11_passed (n : Nat) : jF := jm_run 3 4 (kX11_passed n)
theorem sX11_passed (l : Launch) (n : Nat) : jr_F l (⟨"MeetingKit", "passed", "(II)I"⟩ : MethodName) cX11_passed 4 (Option.some Jvm.ClassFile.FieldType.int) 1 21 (fX11_passed n) := js_met (by decide +kernel) (by decide) (tX11_passed l n)
theorem dX11_stuck_0 : decode cX11_stuck 0 = .ok (.aload_n 0, 1) := by decide +kernel
theorem dX11_stuck_1 : decode cX11_stuck 1 = .ok (.invokevirtual 83, 3) := by decide +kernel
theorem dX11_stuck_4 : decode cX11_stuck 4 = .ok (.ldc 57, 2) := by decide +kernel
theorem dX11_stuck_6 : decode cX11_stuck 6 = .ok (.if_icmp .eq 5, 3) := by decide +kernel
theorem dX11_stuck_9 : decode cX11_stuck 9 = .ok (.iconst (-1), 1) := by decide +kernel
theorem dX11_stuck_10 : decode cX11_stuck 10 = .ok (.ireturn, 1) := by decide +kernel
theorem dX11_stuck_11 : decode cX11_stuck 11 = .ok (.iconst 0, 1) := by decide +kernel
theorem dX11_stuck_12 : decode cX11_stuck 12 = .ok (.istore_n 2, 1) := by decide +kernel
theorem dX11_stuck_13 : decode cX11_stuck 13 = .ok (.iconst 0, 1) := by decide +kernel
theorem dX11_stuck_14 : decode cX11_stuck 14 = .ok (.istore_n 3, 1) := by decide +kernel
theorem dX11_stuck_15 : decode cX11_stuck 15 = .ok (.iload_n 3, 1) := by decide +kernel
theorem dX11_stuck_16 : decode cX11_stuck 16 = .ok (.aload_n 0, 1) := by decide +kernel
theorem dX11_stuck_17 : decode cX11_stuck 17 = .ok (.getfield 39, 3) := by decide +kernel
theorem dX11_stuck_20 : decode cX11_stuck 20 = .ok (.if_icmp .ge 40, 3) := by decide +kernel
theorem dX11_stuck_23 : decode cX11_stuck 23 = .ok (.aload_n 0, 1) := by decide +kernel
theorem dX11_stuck_24 : decode cX11_stuck 24 = .ok (.getfield 11, 3) := by decide +kernel
theorem dX11_stuck_27 : decode cX11_stuck 27 = .ok (.iload_n 3, 1) := by decide +kernel
theorem dX11_stuck_28 : decode cX11_stuck 28 = .ok (.aaload, 1) := by decide +kernel
theorem dX11_stuck_29 : decode cX11_stuck 29 = .ok (.ifnull 25, 3) := by decide +kernel
theorem dX11_stuck_32 : decode cX11_stuck 32 = .ok (.aload_n 0, 1) := by decide +kernel
theorem dX11_stuck_33 : decode cX11_stuck 33 = .ok (.getfield 11, 3) := by decide +kernel
theorem dX11_stuck_36 : decode cX11_stuck 36 = .ok (.iload_n 3, 1) := by decide +kernel
theorem dX11_stuck_37 : decode cX11_stuck 37 = .ok (.aaload, 1) := by decide +kernel
theorem dX11_stuck_38 : decode cX11_stuck 38 = .ok (.getfield 102, 3) := by decide +kernel
theorem dX11_stuck_41 : decode cX11_stuck 41 = .ok (.ifnull 13, 3) := by decide +kernel
theorem dX11_stuck_44 : decode cX11_stuck 44 = .ok (.iload_n 2, 1) := by decide +kernel
theorem dX11_stuck_45 : decode cX11_stuck 45 = .ok (.iload_n 1, 1) := by decide +kernel
theorem dX11_stuck_46 : decode cX11_stuck 46 = .ok (.if_icmp .ne 5, 3) := by decide +kernel
theorem dX11_stuck_49 : decode cX11_stuck 49 = .ok (.iload_n 3, 1) := by decide +kernel
theorem dX11_stuck_50 : decode cX11_stuck 50 = .ok (.ireturn, 1) := by decide +kernel
theorem dX11_stuck_51 : decode cX11_stuck 51 = .ok (.iinc 2 1, 3) := by decide +kernel
theorem dX11_stuck_54 : decode cX11_stuck 54 = .ok (.iinc 3 1, 3) := by decide +kernel
theorem dX11_stuck_57 : decode cX11_stuck 57 = .ok (.goto (-42), 3) := by decide +kernel
theorem dX11_stuck_60 : decode cX11_stuck 60 = .ok (.iconst (-1), 1) := by decide +kernel
theorem dX11_stuck_61 : decode cX11_stuck 61 = .ok (.ireturn, 1) := by decide +kernel
def kX11_stuck_0 (n : Nat) (K : Nat → jK) : jK := jk_aload 0 <| jk_vcall [(10, fX11_nextLivelyBeat n)] 0 <| jk_int 1000000 <| jk_icmpeq (jk_int 0 <| jk_istore 2 <| jk_int 0 <| jk_istore 3 <| K 15) <| jk_int (-1) <| jk_iret
set_option maxRecDepth 100000 in
set_option maxHeartbeats 4000000 in
theorem tX11_stuck_0 (l : Launch) (n : Nat) {K : Nat → jK} (hK : ∀ b, jr_D l cX11_stuck 4 "MeetingKit" (Option.some Jvm.ClassFile.FieldType.int) "stuck" 2 43 (K b) b) : jr_D l cX11_stuck 4 "MeetingKit" (Option.some Jvm.ClassFile.FieldType.int) "stuck" 2 43 (kX11_stuck_0 n K) 0 := by
  unfold kX11_stuck_0
  refine js_aload_n dX11_stuck_0 ?_
  refine js_callv dX11_stuck_1 (⟨⟨_, _, _, _, _, _, _, ⟨rfl, (show (10 : Nat) < 20 by decide), sX11_nextLivelyBeat l n, by decide, by decide, tw_538, tw_102, tw_537⟩, Or.inl ⟨by decide +kernel, by decide +kernel, by decide +kernel, tw_535, tw_20⟩⟩, trivial⟩) ?_
  refine js_ldc dX11_stuck_4 tw_441 ?_
  refine js_icmpeq (tgt := 11) dX11_stuck_6 (by decide) ?_ ?_
  · refine js_iconst dX11_stuck_11 ?_
    refine js_istore_n dX11_stuck_12 (by decide) ?_
    refine js_iconst dX11_stuck_13 ?_
    refine js_istore_n dX11_stuck_14 (by decide) ?_
    exact hK 15
  · refine js_iconst dX11_stuck_9 ?_
    exact js_iret dX11_stuck_10 rfl
def kX11_stuck_15 (n : Nat) (K : Nat → jK) : jK := jk_iload 3 <| jk_aload 0 <| jk_get [10] 1 <| jk_icmpge (jk_int (-1) <| jk_iret) <| jk_aload 0 <| jk_get [10] 0 <| jk_iload 3 <| jk_xald 23 <| jk_ifnull (K 54) <| jk_aload 0 <| jk_get [10] 0 <| jk_iload 3 <| jk_xald 23 <| jk_get [0] 4 <| jk_ifnull (K 54) <| jk_iload 2 <| jk_iload 1 <| jk_icmpne (jk_iinc 2 1 <| K 54) <| jk_iload 3 <| jk_iret
set_option maxRecDepth 100000 in
set_option maxHeartbeats 4000000 in
theorem tX11_stuck_15 (l : Launch) (n : Nat) {K : Nat → jK} (hK : ∀ b, jr_D l cX11_stuck 4 "MeetingKit" (Option.some Jvm.ClassFile.FieldType.int) "stuck" 2 43 (K b) b) : jr_D l cX11_stuck 4 "MeetingKit" (Option.some Jvm.ClassFile.FieldType.int) "stuck" 2 43 (kX11_stuck_15 n K) 15 := by
  unfold kX11_stuck_15
  refine js_iload_n dX11_stuck_15 ?_
  refine js_aload_n dX11_stuck_16 ?_
  refine js_get dX11_stuck_17 jf_1_10 tw_129 (Or.inl rfl) ?_
  refine js_icmpge (tgt := 60) dX11_stuck_20 (by decide) ?_ ?_
  · refine js_iconst dX11_stuck_60 ?_
    exact js_iret dX11_stuck_61 rfl
  · refine js_aload_n dX11_stuck_23 ?_
    refine js_get dX11_stuck_24 jf_0_10 tw_128 (Or.inl rfl) ?_
    refine js_iload_n dX11_stuck_27 ?_
    refine js_aald (by decide) dX11_stuck_28 ?_
    refine js_ifnull (tgt := 54) dX11_stuck_29 (by decide) ?_ ?_
    · exact hK 54
    · refine js_aload_n dX11_stuck_32 ?_
      refine js_get dX11_stuck_33 jf_0_10 tw_128 (Or.inl rfl) ?_
      refine js_iload_n dX11_stuck_36 ?_
      refine js_aald (by decide) dX11_stuck_37 ?_
      refine js_get dX11_stuck_38 jf_4_0 tw_408 (Or.inl rfl) ?_
      refine js_ifnull (tgt := 54) dX11_stuck_41 (by decide) ?_ ?_
      · exact hK 54
      · refine js_iload_n dX11_stuck_44 ?_
        refine js_iload_n dX11_stuck_45 ?_
        refine js_icmpne (tgt := 51) dX11_stuck_46 (by decide) ?_ ?_
        · refine js_iinc dX11_stuck_51 (by decide) ?_
          exact hK 54
        · refine js_iload_n dX11_stuck_49 ?_
          exact js_iret dX11_stuck_50 rfl
def kX11_stuck_54 (n : Nat) (K : Nat → jK) : jK := jk_iinc 3 1 <| K 15
set_option maxRecDepth 100000 in
set_option maxHeartbeats 4000000 in
theorem tX11_stuck_54 (l : Launch) (n : Nat) {K : Nat → jK} (hK : ∀ b, jr_D l cX11_stuck 4 "MeetingKit" (Option.some Jvm.ClassFile.FieldType.int) "stuck" 2 43 (K b) b) : jr_D l cX11_stuck 4 "MeetingKit" (Option.some Jvm.ClassFile.FieldType.int) "stuck" 2 43 (kX11_stuck_54 n K) 54 := by
  unfold kX11_stuck_54
  refine js_iinc dX11_stuck_54 (by decide) ?_
  refine js_goto (tgt := 15) dX11_stuck_57 (by decide) ?_
  exact hK 15
def kX11_stuck_b (n : Nat) (K : Nat → jK) (b : Nat) : jK := if b = 0 then kX11_stuck_0 n K else if b = 15 then kX11_stuck_15 n K else if b = 54 then kX11_stuck_54 n K else jk_none
def kX11_stuck (n : Nat) : jK := jk_fix (kX11_stuck_b n) n 0
theorem tX11_stuck (l : Launch) (n : Nat) : jr_D l cX11_stuck 4 "MeetingKit" (Option.some Jvm.ClassFile.FieldType.int) "stuck" 2 43 (kX11_stuck n) 0 := js_fix (F := kX11_stuck_b n) (fun K hK b => js_blk (tX11_stuck_0 l n hK) (js_blk (tX11_stuck_15 l n hK) (js_blk (tX11_stuck_54 l n hK) (js_none)))) n 0
def fX11_stuck (n : Nat) : jF := jm_run 2 4 (kX11_stuck n)
theorem sX11_stuck (l : Launch) (n : Nat) : jr_F l (⟨"MeetingKit", "stuck", "(I)I"⟩ : MethodName) cX11_stuck 4 (Option.some Jvm.ClassFile.FieldType.int) 2 43 (fX11_stuck n) := js_met (by decide +kernel) (by decide) (tX11_stuck l n)
