theorem dX12_begins_0 : decode cX12_begins 0 = .ok (.aload_n 0, 1) := by decide +kernel
theorem dX12_begins_1 : decode cX12_begins 1 = .ok (.getfield 13, 3) := by decide +kernel
theorem dX12_begins_4 : decode cX12_begins 4 = .ok (.iload_n 1, 1) := by decide +kernel
theorem dX12_begins_5 : decode cX12_begins 5 = .ok (.dup2, 1) := by decide +kernel
theorem dX12_begins_6 : decode cX12_begins 6 = .ok (.iaload, 1) := by decide +kernel
theorem dX12_begins_7 : decode cX12_begins 7 = .ok (.iconst 1, 1) := by decide +kernel
theorem dX12_begins_8 : decode cX12_begins 8 = .ok (.iadd, 1) := by decide +kernel
theorem dX12_begins_9 : decode cX12_begins 9 = .ok (.iastore, 1) := by decide +kernel
theorem dX12_begins_10 : decode cX12_begins 10 = .ok (.aload_n 0, 1) := by decide +kernel
theorem dX12_begins_11 : decode cX12_begins 11 = .ok (.iload_n 1, 1) := by decide +kernel
theorem dX12_begins_12 : decode cX12_begins 12 = .ok (.invokevirtual 146, 3) := by decide +kernel
theorem dX12_begins_15 : decode cX12_begins 15 = .ok (.istore_n 2, 1) := by decide +kernel
theorem dX12_begins_16 : decode cX12_begins 16 = .ok (.aload_n 0, 1) := by decide +kernel
theorem dX12_begins_17 : decode cX12_begins 17 = .ok (.getfield 31, 3) := by decide +kernel
theorem dX12_begins_20 : decode cX12_begins 20 = .ok (.iload_n 2, 1) := by decide +kernel
theorem dX12_begins_21 : decode cX12_begins 21 = .ok (.iaload, 1) := by decide +kernel
theorem dX12_begins_22 : decode cX12_begins 22 = .ok (.istore_n 3, 1) := by decide +kernel
theorem dX12_begins_23 : decode cX12_begins 23 = .ok (.aload_n 0, 1) := by decide +kernel
theorem dX12_begins_24 : decode cX12_begins 24 = .ok (.getfield 49, 3) := by decide +kernel
theorem dX12_begins_27 : decode cX12_begins 27 = .ok (.iload_n 2, 1) := by decide +kernel
theorem dX12_begins_28 : decode cX12_begins 28 = .ok (.aload_n 0, 1) := by decide +kernel
theorem dX12_begins_29 : decode cX12_begins 29 = .ok (.getfield 130, 3) := by decide +kernel
theorem dX12_begins_32 : decode cX12_begins 32 = .ok (.iastore, 1) := by decide +kernel
theorem dX12_begins_33 : decode cX12_begins 33 = .ok (.aload_n 0, 1) := by decide +kernel
theorem dX12_begins_34 : decode cX12_begins 34 = .ok (.getfield 61, 3) := by decide +kernel
theorem dX12_begins_37 : decode cX12_begins 37 = .ok (.iload_n 3, 1) := by decide +kernel
theorem dX12_begins_38 : decode cX12_begins 38 = .ok (.iaload, 1) := by decide +kernel
theorem dX12_begins_39 : decode cX12_begins 39 = .ok (.iconst 1, 1) := by decide +kernel
theorem dX12_begins_40 : decode cX12_begins 40 = .ok (.if_icmp .ne 11, 3) := by decide +kernel
theorem dX12_begins_43 : decode cX12_begins 43 = .ok (.aload_n 0, 1) := by decide +kernel
theorem dX12_begins_44 : decode cX12_begins 44 = .ok (.iload_n 1, 1) := by decide +kernel
theorem dX12_begins_45 : decode cX12_begins 45 = .ok (.iconst 4, 1) := by decide +kernel
theorem dX12_begins_46 : decode cX12_begins 46 = .ok (.iconst 0, 1) := by decide +kernel
theorem dX12_begins_47 : decode cX12_begins 47 = .ok (.invokevirtual 149, 3) := by decide +kernel
theorem dX12_begins_50 : decode cX12_begins 50 = .ok (.return_, 1) := by decide +kernel
theorem dX12_begins_51 : decode cX12_begins 51 = .ok (.aload_n 0, 1) := by decide +kernel
theorem dX12_begins_52 : decode cX12_begins 52 = .ok (.getfield 34, 3) := by decide +kernel
theorem dX12_begins_55 : decode cX12_begins 55 = .ok (.iload_n 2, 1) := by decide +kernel
theorem dX12_begins_56 : decode cX12_begins 56 = .ok (.iaload, 1) := by decide +kernel
theorem dX12_begins_57 : decode cX12_begins 57 = .ok (.istore 4, 2) := by decide +kernel
theorem dX12_begins_59 : decode cX12_begins 59 = .ok (.aload_n 0, 1) := by decide +kernel
theorem dX12_begins_60 : decode cX12_begins 60 = .ok (.getfield 37, 3) := by decide +kernel
theorem dX12_begins_63 : decode cX12_begins 63 = .ok (.iload_n 2, 1) := by decide +kernel
theorem dX12_begins_64 : decode cX12_begins 64 = .ok (.iaload, 1) := by decide +kernel
theorem dX12_begins_65 : decode cX12_begins 65 = .ok (.istore 5, 2) := by decide +kernel
theorem dX12_begins_67 : decode cX12_begins 67 = .ok (.aload_n 0, 1) := by decide +kernel
theorem dX12_begins_68 : decode cX12_begins 68 = .ok (.getfield 55, 3) := by decide +kernel
theorem dX12_begins_71 : decode cX12_begins 71 = .ok (.iload_n 3, 1) := by decide +kernel
theorem dX12_begins_72 : decode cX12_begins 72 = .ok (.iaload, 1) := by decide +kernel
theorem dX12_begins_73 : decode cX12_begins 73 = .ok (.tableswitch 179 0 10 #[59, 59, 72, 83, 94, 107, 118, 131, 144, 157, 168], 59) := by decide +kernel
theorem dX12_begins_132 : decode cX12_begins 132 = .ok (.aload_n 0, 1) := by decide +kernel
theorem dX12_begins_133 : decode cX12_begins 133 = .ok (.iload_n 3, 1) := by decide +kernel
theorem dX12_begins_134 : decode cX12_begins 134 = .ok (.iload_n 1, 1) := by decide +kernel
theorem dX12_begins_135 : decode cX12_begins 135 = .ok (.iload 4, 2) := by decide +kernel
theorem dX12_begins_137 : decode cX12_begins 137 = .ok (.iload 5, 2) := by decide +kernel
theorem dX12_begins_139 : decode cX12_begins 139 = .ok (.invokevirtual 212, 3) := by decide +kernel
theorem dX12_begins_142 : decode cX12_begins 142 = .ok (.goto 120, 3) := by decide +kernel
theorem dX12_begins_145 : decode cX12_begins 145 = .ok (.aload_n 0, 1) := by decide +kernel
theorem dX12_begins_146 : decode cX12_begins 146 = .ok (.iload_n 3, 1) := by decide +kernel
theorem dX12_begins_147 : decode cX12_begins 147 = .ok (.iload_n 1, 1) := by decide +kernel
theorem dX12_begins_148 : decode cX12_begins 148 = .ok (.iload 4, 2) := by decide +kernel
theorem dX12_begins_150 : decode cX12_begins 150 = .ok (.invokevirtual 216, 3) := by decide +kernel
theorem dX12_begins_153 : decode cX12_begins 153 = .ok (.goto 109, 3) := by decide +kernel
theorem dX12_begins_156 : decode cX12_begins 156 = .ok (.aload_n 0, 1) := by decide +kernel
theorem dX12_begins_157 : decode cX12_begins 157 = .ok (.iload_n 3, 1) := by decide +kernel
theorem dX12_begins_158 : decode cX12_begins 158 = .ok (.iload_n 1, 1) := by decide +kernel
theorem dX12_begins_159 : decode cX12_begins 159 = .ok (.iload 4, 2) := by decide +kernel
theorem dX12_begins_161 : decode cX12_begins 161 = .ok (.invokevirtual 219, 3) := by decide +kernel
theorem dX12_begins_164 : decode cX12_begins 164 = .ok (.goto 98, 3) := by decide +kernel
theorem dX12_begins_167 : decode cX12_begins 167 = .ok (.aload_n 0, 1) := by decide +kernel
theorem dX12_begins_168 : decode cX12_begins 168 = .ok (.iload_n 3, 1) := by decide +kernel
theorem dX12_begins_169 : decode cX12_begins 169 = .ok (.iload_n 1, 1) := by decide +kernel
theorem dX12_begins_170 : decode cX12_begins 170 = .ok (.iload 4, 2) := by decide +kernel
theorem dX12_begins_172 : decode cX12_begins 172 = .ok (.iload 5, 2) := by decide +kernel
theorem dX12_begins_174 : decode cX12_begins 174 = .ok (.invokevirtual 222, 3) := by decide +kernel
theorem dX12_begins_177 : decode cX12_begins 177 = .ok (.goto 85, 3) := by decide +kernel
theorem dX12_begins_180 : decode cX12_begins 180 = .ok (.aload_n 0, 1) := by decide +kernel
theorem dX12_begins_181 : decode cX12_begins 181 = .ok (.iload_n 3, 1) := by decide +kernel
theorem dX12_begins_182 : decode cX12_begins 182 = .ok (.iload_n 1, 1) := by decide +kernel
theorem dX12_begins_183 : decode cX12_begins 183 = .ok (.iload 4, 2) := by decide +kernel
theorem dX12_begins_185 : decode cX12_begins 185 = .ok (.invokevirtual 225, 3) := by decide +kernel
theorem dX12_begins_188 : decode cX12_begins 188 = .ok (.goto 74, 3) := by decide +kernel
theorem dX12_begins_191 : decode cX12_begins 191 = .ok (.aload_n 0, 1) := by decide +kernel
theorem dX12_begins_192 : decode cX12_begins 192 = .ok (.iload_n 3, 1) := by decide +kernel
theorem dX12_begins_193 : decode cX12_begins 193 = .ok (.iload_n 1, 1) := by decide +kernel
theorem dX12_begins_194 : decode cX12_begins 194 = .ok (.iload 4, 2) := by decide +kernel
theorem dX12_begins_196 : decode cX12_begins 196 = .ok (.iload 5, 2) := by decide +kernel
theorem dX12_begins_198 : decode cX12_begins 198 = .ok (.invokevirtual 228, 3) := by decide +kernel
theorem dX12_begins_201 : decode cX12_begins 201 = .ok (.goto 61, 3) := by decide +kernel
theorem dX12_begins_204 : decode cX12_begins 204 = .ok (.aload_n 0, 1) := by decide +kernel
theorem dX12_begins_205 : decode cX12_begins 205 = .ok (.iload_n 3, 1) := by decide +kernel
theorem dX12_begins_206 : decode cX12_begins 206 = .ok (.iload_n 1, 1) := by decide +kernel
theorem dX12_begins_207 : decode cX12_begins 207 = .ok (.iload 4, 2) := by decide +kernel
theorem dX12_begins_209 : decode cX12_begins 209 = .ok (.iload 5, 2) := by decide +kernel
theorem dX12_begins_211 : decode cX12_begins 211 = .ok (.invokevirtual 231, 3) := by decide +kernel
theorem dX12_begins_214 : decode cX12_begins 214 = .ok (.goto 48, 3) := by decide +kernel
theorem dX12_begins_217 : decode cX12_begins 217 = .ok (.aload_n 0, 1) := by decide +kernel
theorem dX12_begins_218 : decode cX12_begins 218 = .ok (.iload_n 3, 1) := by decide +kernel
theorem dX12_begins_219 : decode cX12_begins 219 = .ok (.iload_n 1, 1) := by decide +kernel
theorem dX12_begins_220 : decode cX12_begins 220 = .ok (.iload 4, 2) := by decide +kernel
theorem dX12_begins_222 : decode cX12_begins 222 = .ok (.iload 5, 2) := by decide +kernel
theorem dX12_begins_224 : decode cX12_begins 224 = .ok (.invokevirtual 234, 3) := by decide +kernel
theorem dX12_begins_227 : decode cX12_begins 227 = .ok (.goto 35, 3) := by decide +kernel
theorem dX12_begins_230 : decode cX12_begins 230 = .ok (.aload_n 0, 1) := by decide +kernel
theorem dX12_begins_231 : decode cX12_begins 231 = .ok (.iload_n 3, 1) := by decide +kernel
theorem dX12_begins_232 : decode cX12_begins 232 = .ok (.iload_n 1, 1) := by decide +kernel
theorem dX12_begins_233 : decode cX12_begins 233 = .ok (.iload 4, 2) := by decide +kernel
theorem dX12_begins_235 : decode cX12_begins 235 = .ok (.invokevirtual 237, 3) := by decide +kernel
theorem dX12_begins_238 : decode cX12_begins 238 = .ok (.goto 24, 3) := by decide +kernel
theorem dX12_begins_241 : decode cX12_begins 241 = .ok (.aload_n 0, 1) := by decide +kernel
theorem dX12_begins_242 : decode cX12_begins 242 = .ok (.iload_n 3, 1) := by decide +kernel
theorem dX12_begins_243 : decode cX12_begins 243 = .ok (.iload_n 1, 1) := by decide +kernel
theorem dX12_begins_244 : decode cX12_begins 244 = .ok (.iload 4, 2) := by decide +kernel
theorem dX12_begins_246 : decode cX12_begins 246 = .ok (.invokevirtual 240, 3) := by decide +kernel
theorem dX12_begins_249 : decode cX12_begins 249 = .ok (.goto 13, 3) := by decide +kernel
theorem dX12_begins_252 : decode cX12_begins 252 = .ok (.aload_n 0, 1) := by decide +kernel
theorem dX12_begins_253 : decode cX12_begins 253 = .ok (.iload_n 3, 1) := by decide +kernel
theorem dX12_begins_254 : decode cX12_begins 254 = .ok (.iload_n 1, 1) := by decide +kernel
theorem dX12_begins_255 : decode cX12_begins 255 = .ok (.iload 4, 2) := by decide +kernel
theorem dX12_begins_257 : decode cX12_begins 257 = .ok (.iload 5, 2) := by decide +kernel
theorem dX12_begins_259 : decode cX12_begins 259 = .ok (.invokevirtual 243, 3) := by decide +kernel
theorem dX12_begins_262 : decode cX12_begins 262 = .ok (.aload_n 0, 1) := by decide +kernel
theorem dX12_begins_263 : decode cX12_begins 263 = .ok (.iload_n 3, 1) := by decide +kernel
theorem dX12_begins_264 : decode cX12_begins 264 = .ok (.invokevirtual 168, 3) := by decide +kernel
theorem dX12_begins_267 : decode cX12_begins 267 = .ok (.return_, 1) := by decide +kernel
def kX12_begins_0 (n : Nat) (K : Nat → jK) : jK := jk_aload 0 <| jk_get [11] 4 <| jk_iload 1 <| jk_dup2 <| jk_iald <| jk_int 1 <| jk_iadd <| jk_iast <| jk_aload 0 <| jk_iload 1 <| jk_vcall [(11, fX12_stepOf n)] 1 <| jk_istore 2 <| jk_aload 0 <| jk_get [11] 10 <| jk_iload 2 <| jk_iald <| jk_istore 3 <| jk_aload 0 <| jk_get [11] 16 <| jk_iload 2 <| jk_aload 0 <| jk_get [11] 2 <| jk_iast <| jk_aload 0 <| jk_get [11] 20 <| jk_iload 3 <| jk_iald <| jk_int 1 <| jk_icmpne (jk_aload 0 <| jk_get [11] 11 <| jk_iload 2 <| jk_iald <| jk_istore 4 <| jk_aload 0 <| jk_get [11] 12 <| jk_iload 2 <| jk_iald <| jk_istore 5 <| jk_aload 0 <| jk_get [11] 18 <| jk_iload 3 <| jk_iald <| jk_sw [(0, (K 132)), (1, (K 132)), (2, (jk_aload 0 <| jk_iload 3 <| jk_iload 1 <| jk_iload 4 <| jk_vcall [(11, fX12_gate n)] 3 <| K 262)), (3, (jk_aload 0 <| jk_iload 3 <| jk_iload 1 <| jk_iload 4 <| jk_vcall [(11, fX12_barrier n)] 3 <| K 262)), (4, (jk_aload 0 <| jk_iload 3 <| jk_iload 1 <| jk_iload 4 <| jk_iload 5 <| jk_vcall [(11, fX12_exchange n)] 4 <| K 262)), (5, (jk_aload 0 <| jk_iload 3 <| jk_iload 1 <| jk_iload 4 <| jk_vcall [(11, fX12_lock n)] 3 <| K 262)), (6, (jk_aload 0 <| jk_iload 3 <| jk_iload 1 <| jk_iload 4 <| jk_iload 5 <| jk_vcall [(11, fX12_handOver n)] 4 <| K 262)), (7, (jk_aload 0 <| jk_iload 3 <| jk_iload 1 <| jk_iload 4 <| jk_iload 5 <| jk_vcall [(11, fX12_tickets n)] 4 <| K 262)), (8, (jk_aload 0 <| jk_iload 3 <| jk_iload 1 <| jk_iload 4 <| jk_iload 5 <| jk_vcall [(11, fX12_cell n)] 4 <| K 262)), (9, (jk_aload 0 <| jk_iload 3 <| jk_iload 1 <| jk_iload 4 <| jk_vcall [(11, fX12_phaser n)] 3 <| K 262)), (10, (jk_aload 0 <| jk_iload 3 <| jk_iload 1 <| jk_iload 4 <| jk_vcall [(11, fX12_pause n)] 3 <| K 262))] (jk_aload 0 <| jk_iload 3 <| jk_iload 1 <| jk_iload 4 <| jk_iload 5 <| jk_vcall [(11, fX12_monitor n)] 4 <| K 262)) <| jk_aload 0 <| jk_iload 1 <| jk_int 4 <| jk_int 0 <| jk_vcall [(11, fX12_ends n)] 3 <| jk_vret
set_option maxRecDepth 100000 in
set_option maxHeartbeats 4000000 in
theorem tX12_begins_0 (l : Launch) (n : Nat) {K : Nat → jK} (hK : ∀ b, jr_D l cX12_begins 6 "MeetingKitModel" (Option.none : Option Jvm.ClassFile.FieldType) "begins" 7 160 (K b) b) : jr_D l cX12_begins 6 "MeetingKitModel" (Option.none : Option Jvm.ClassFile.FieldType) "begins" 7 160 (kX12_begins_0 n K) 0 := by
  unfold kX12_begins_0
  refine js_aload_n dX12_begins_0 ?_
  refine js_get dX12_begins_1 jf_4_11 tw_966 (Or.inl rfl) ?_
  refine js_iload_n dX12_begins_4 ?_
  refine js_dup2 dX12_begins_5 ?_
  refine js_iald dX12_begins_6 ?_
  refine js_iconst dX12_begins_7 ?_
  refine js_iadd dX12_begins_8 ?_
  refine js_iast dX12_begins_9 ?_
  refine js_aload_n dX12_begins_10 ?_
  refine js_iload_n dX12_begins_11 ?_
  refine js_callv dX12_begins_12 (⟨⟨_, _, _, _, _, _, _, ⟨rfl, (show (11 : Nat) < 20 by decide), sX12_stepOf l n, by decide, by decide, tw_1128, tw_103, tw_1127⟩, Or.inl ⟨by decide +kernel, by decide +kernel, by decide +kernel, tw_1125, tw_63⟩⟩, trivial⟩) ?_
  refine js_istore_n dX12_begins_15 (by decide) ?_
  refine js_aload_n dX12_begins_16 ?_
  refine js_get dX12_begins_17 jf_10_11 tw_972 (Or.inl rfl) ?_
  refine js_iload_n dX12_begins_20 ?_
  refine js_iald dX12_begins_21 ?_
  refine js_istore_n dX12_begins_22 (by decide) ?_
  refine js_aload_n dX12_begins_23 ?_
  refine js_get dX12_begins_24 jf_16_11 tw_978 (Or.inl rfl) ?_
  refine js_iload_n dX12_begins_27 ?_
  refine js_aload_n dX12_begins_28 ?_
  refine js_get dX12_begins_29 jf_2_11 tw_964 (Or.inl rfl) ?_
  refine js_iast dX12_begins_32 ?_
  refine js_aload_n dX12_begins_33 ?_
  refine js_get dX12_begins_34 jf_20_11 tw_982 (Or.inl rfl) ?_
  refine js_iload_n dX12_begins_37 ?_
  refine js_iald dX12_begins_38 ?_
  refine js_iconst dX12_begins_39 ?_
  refine js_icmpne (tgt := 51) dX12_begins_40 (by decide) ?_ ?_
  · refine js_aload_n dX12_begins_51 ?_
    refine js_get dX12_begins_52 jf_11_11 tw_973 (Or.inl rfl) ?_
    refine js_iload_n dX12_begins_55 ?_
    refine js_iald dX12_begins_56 ?_
    refine js_istore dX12_begins_57 (by decide) ?_
    refine js_aload_n dX12_begins_59 ?_
    refine js_get dX12_begins_60 jf_12_11 tw_974 (Or.inl rfl) ?_
    refine js_iload_n dX12_begins_63 ?_
    refine js_iald dX12_begins_64 ?_
    refine js_istore dX12_begins_65 (by decide) ?_
    refine js_aload_n dX12_begins_67 ?_
    refine js_get dX12_begins_68 jf_18_11 tw_980 (Or.inl rfl) ?_
    refine js_iload_n dX12_begins_71 ?_
    refine js_iald dX12_begins_72 ?_
    refine js_tsw (td := 252) dX12_begins_73 rfl (by decide) ?_ ?_
    · refine js_aload_n dX12_begins_252 ?_
      refine js_iload_n dX12_begins_253 ?_
      refine js_iload_n dX12_begins_254 ?_
      refine js_iload dX12_begins_255 ?_
      refine js_iload dX12_begins_257 ?_
      refine js_callv dX12_begins_259 (⟨⟨_, _, _, _, _, _, _, ⟨rfl, (show (11 : Nat) < 20 by decide), sX12_monitor l n, by decide, by decide, tw_1260, tw_103, tw_1259⟩, Or.inl ⟨by decide +kernel, by decide +kernel, by decide +kernel, tw_1257, tw_96⟩⟩, trivial⟩) ?_
      exact hK 262
    · refine ⟨rfl, ⟨132, by decide, ?_⟩, rfl, ⟨132, by decide, ?_⟩, rfl, ⟨145, by decide, ?_⟩, rfl, ⟨156, by decide, ?_⟩, rfl, ⟨167, by decide, ?_⟩, rfl, ⟨180, by decide, ?_⟩, rfl, ⟨191, by decide, ?_⟩, rfl, ⟨204, by decide, ?_⟩, rfl, ⟨217, by decide, ?_⟩, rfl, ⟨230, by decide, ?_⟩, rfl, ⟨241, by decide, ?_⟩, trivial⟩
      · exact hK 132
      · exact hK 132
      · refine js_aload_n dX12_begins_145 ?_
        refine js_iload_n dX12_begins_146 ?_
        refine js_iload_n dX12_begins_147 ?_
        refine js_iload dX12_begins_148 ?_
        refine js_callv dX12_begins_150 (⟨⟨_, _, _, _, _, _, _, ⟨rfl, (show (11 : Nat) < 20 by decide), sX12_gate l n, by decide, by decide, tw_1212, tw_103, tw_1211⟩, Or.inl ⟨by decide +kernel, by decide +kernel, by decide +kernel, tw_1209, tw_84⟩⟩, trivial⟩) ?_
        refine js_goto (tgt := 262) dX12_begins_153 (by decide) ?_
        exact hK 262
      · refine js_aload_n dX12_begins_156 ?_
        refine js_iload_n dX12_begins_157 ?_
        refine js_iload_n dX12_begins_158 ?_
        refine js_iload dX12_begins_159 ?_
        refine js_callv dX12_begins_161 (⟨⟨_, _, _, _, _, _, _, ⟨rfl, (show (11 : Nat) < 20 by decide), sX12_barrier l n, by decide, by decide, tw_1216, tw_103, tw_1215⟩, Or.inl ⟨by decide +kernel, by decide +kernel, by decide +kernel, tw_1213, tw_85⟩⟩, trivial⟩) ?_
        refine js_goto (tgt := 262) dX12_begins_164 (by decide) ?_
        exact hK 262
      · refine js_aload_n dX12_begins_167 ?_
        refine js_iload_n dX12_begins_168 ?_
        refine js_iload_n dX12_begins_169 ?_
        refine js_iload dX12_begins_170 ?_
        refine js_iload dX12_begins_172 ?_
        refine js_callv dX12_begins_174 (⟨⟨_, _, _, _, _, _, _, ⟨rfl, (show (11 : Nat) < 20 by decide), sX12_exchange l n, by decide, by decide, tw_1220, tw_103, tw_1219⟩, Or.inl ⟨by decide +kernel, by decide +kernel, by decide +kernel, tw_1217, tw_86⟩⟩, trivial⟩) ?_
        refine js_goto (tgt := 262) dX12_begins_177 (by decide) ?_
        exact hK 262
      · refine js_aload_n dX12_begins_180 ?_
        refine js_iload_n dX12_begins_181 ?_
        refine js_iload_n dX12_begins_182 ?_
        refine js_iload dX12_begins_183 ?_
        refine js_callv dX12_begins_185 (⟨⟨_, _, _, _, _, _, _, ⟨rfl, (show (11 : Nat) < 20 by decide), sX12_lock l n, by decide, by decide, tw_1224, tw_103, tw_1223⟩, Or.inl ⟨by decide +kernel, by decide +kernel, by decide +kernel, tw_1221, tw_87⟩⟩, trivial⟩) ?_
        refine js_goto (tgt := 262) dX12_begins_188 (by decide) ?_
        exact hK 262
      · refine js_aload_n dX12_begins_191 ?_
        refine js_iload_n dX12_begins_192 ?_
        refine js_iload_n dX12_begins_193 ?_
        refine js_iload dX12_begins_194 ?_
        refine js_iload dX12_begins_196 ?_
        refine js_callv dX12_begins_198 (⟨⟨_, _, _, _, _, _, _, ⟨rfl, (show (11 : Nat) < 20 by decide), sX12_handOver l n, by decide, by decide, tw_1228, tw_103, tw_1227⟩, Or.inl ⟨by decide +kernel, by decide +kernel, by decide +kernel, tw_1225, tw_88⟩⟩, trivial⟩) ?_
        refine js_goto (tgt := 262) dX12_begins_201 (by decide) ?_
        exact hK 262
      · refine js_aload_n dX12_begins_204 ?_
        refine js_iload_n dX12_begins_205 ?_
        refine js_iload_n dX12_begins_206 ?_
        refine js_iload dX12_begins_207 ?_
        refine js_iload dX12_begins_209 ?_
        refine js_callv dX12_begins_211 (⟨⟨_, _, _, _, _, _, _, ⟨rfl, (show (11 : Nat) < 20 by decide), sX12_tickets l n, by decide, by decide, tw_1236, tw_103, tw_1235⟩, Or.inl ⟨by decide +kernel, by decide +kernel, by decide +kernel, tw_1233, tw_90⟩⟩, trivial⟩) ?_
        refine js_goto (tgt := 262) dX12_begins_214 (by decide) ?_
        exact hK 262
      · refine js_aload_n dX12_begins_217 ?_
        refine js_iload_n dX12_begins_218 ?_
        refine js_iload_n dX12_begins_219 ?_
        refine js_iload dX12_begins_220 ?_
        refine js_iload dX12_begins_222 ?_
        refine js_callv dX12_begins_224 (⟨⟨_, _, _, _, _, _, _, ⟨rfl, (show (11 : Nat) < 20 by decide), sX12_cell l n, by decide, by decide, tw_1240, tw_103, tw_1239⟩, Or.inl ⟨by decide +kernel, by decide +kernel, by decide +kernel, tw_1237, tw_91⟩⟩, trivial⟩) ?_
        refine js_goto (tgt := 262) dX12_begins_227 (by decide) ?_
        exact hK 262
      · refine js_aload_n dX12_begins_230 ?_
        refine js_iload_n dX12_begins_231 ?_
        refine js_iload_n dX12_begins_232 ?_
        refine js_iload dX12_begins_233 ?_
        refine js_callv dX12_begins_235 (⟨⟨_, _, _, _, _, _, _, ⟨rfl, (show (11 : Nat) < 20 by decide), sX12_phaser l n, by decide, by decide, tw_1244, tw_103, tw_1243⟩, Or.inl ⟨by decide +kernel, by decide +kernel, by decide +kernel, tw_1241, tw_92⟩⟩, trivial⟩) ?_
        refine js_goto (tgt := 262) dX12_begins_238 (by decide) ?_
        exact hK 262
      · refine js_aload_n dX12_begins_241 ?_
        refine js_iload_n dX12_begins_242 ?_
        refine js_iload_n dX12_begins_243 ?_
        refine js_iload dX12_begins_244 ?_
        refine js_callv dX12_begins_246 (⟨⟨_, _, _, _, _, _, _, ⟨rfl, (show (11 : Nat) < 20 by decide), sX12_pause l n, by decide, by decide, tw_1256, tw_103, tw_1255⟩, Or.inl ⟨by decide +kernel, by decide +kernel, by decide +kernel, tw_1253, tw_95⟩⟩, trivial⟩) ?_
        refine js_goto (tgt := 262) dX12_begins_249 (by decide) ?_
        exact hK 262
  · refine js_aload_n dX12_begins_43 ?_
    refine js_iload_n dX12_begins_44 ?_
    refine js_iconst dX12_begins_45 ?_
    refine js_iconst dX12_begins_46 ?_
    refine js_callv dX12_begins_47 (⟨⟨_, _, _, _, _, _, _, ⟨rfl, (show (11 : Nat) < 20 by decide), sX12_ends l n, by decide, by decide, tw_1148, tw_103, tw_1147⟩, Or.inl ⟨by decide +kernel, by decide +kernel, by decide +kernel, tw_1145, tw_68⟩⟩, trivial⟩) ?_
    exact js_vret dX12_begins_50 rfl
def kX12_begins_132 (n : Nat) (K : Nat → jK) : jK := jk_kill 2 <| jk_aload 0 <| jk_iload 3 <| jk_iload 1 <| jk_iload 4 <| jk_iload 5 <| jk_vcall [(11, fX12_permits n)] 4 <| K 262
set_option maxRecDepth 100000 in
set_option maxHeartbeats 4000000 in
theorem tX12_begins_132 (l : Launch) (n : Nat) {K : Nat → jK} (hK : ∀ b, jr_D l cX12_begins 6 "MeetingKitModel" (Option.none : Option Jvm.ClassFile.FieldType) "begins" 7 160 (K b) b) : jr_D l cX12_begins 6 "MeetingKitModel" (Option.none : Option Jvm.ClassFile.FieldType) "begins" 7 160 (kX12_begins_132 n K) 132 := by
  unfold kX12_begins_132
  refine js_kill ?_
  refine js_aload_n dX12_begins_132 ?_
  refine js_iload_n dX12_begins_133 ?_
  refine js_iload_n dX12_begins_134 ?_
  refine js_iload dX12_begins_135 ?_
  refine js_iload dX12_begins_137 ?_
  refine js_callv dX12_begins_139 (⟨⟨_, _, _, _, _, _, _, ⟨rfl, (show (11 : Nat) < 20 by decide), sX12_permits l n, by decide, by decide, tw_1200, tw_103, tw_1199⟩, Or.inl ⟨by decide +kernel, by decide +kernel, by decide +kernel, tw_1197, tw_81⟩⟩, trivial⟩) ?_
  refine js_goto (tgt := 262) dX12_begins_142 (by decide) ?_
  exact hK 262
def kX12_begins_262 (n : Nat) (K : Nat → jK) : jK := jk_kill 1 <| jk_kill 2 <| jk_kill 4 <| jk_kill 5 <| jk_aload 0 <| jk_iload 3 <| jk_vcall [(11, fX12_letsGo n)] 1 <| jk_vret
set_option maxRecDepth 100000 in
set_option maxHeartbeats 4000000 in
theorem tX12_begins_262 (l : Launch) (n : Nat) {K : Nat → jK} (hK : ∀ b, jr_D l cX12_begins 6 "MeetingKitModel" (Option.none : Option Jvm.ClassFile.FieldType) "begins" 7 160 (K b) b) : jr_D l cX12_begins 6 "MeetingKitModel" (Option.none : Option Jvm.ClassFile.FieldType) "begins" 7 160 (kX12_begins_262 n K) 262 := by
  unfold kX12_begins_262
  refine js_kill ?_
  refine js_kill ?_
  refine js_kill ?_
  refine js_kill ?_
  refine js_aload_n dX12_begins_262 ?_
  refine js_iload_n dX12_begins_263 ?_
  refine js_callv dX12_begins_264 (⟨⟨_, _, _, _, _, _, _, ⟨rfl, (show (11 : Nat) < 20 by decide), sX12_letsGo l n, by decide, by decide, tw_1156, tw_103, tw_1155⟩, Or.inl ⟨by decide +kernel, by decide +kernel, by decide +kernel, tw_1153, tw_70⟩⟩, trivial⟩) ?_
  exact js_vret dX12_begins_267 rfl
def kX12_begins_b (n : Nat) (K : Nat → jK) (b : Nat) : jK := if b = 0 then kX12_begins_0 n K else if b = 132 then kX12_begins_132 n K else if b = 262 then kX12_begins_262 n K else jk_none
def kX12_begins (n : Nat) : jK := jk_fix (kX12_begins_b n) n 0
theorem tX12_begins (l : Launch) (n : Nat) : jr_D l cX12_begins 6 "MeetingKitModel" (Option.none : Option Jvm.ClassFile.FieldType) "begins" 7 160 (kX12_begins n) 0 := js_fix (F := kX12_begins_b n) (fun K hK b => js_blk (tX12_begins_0 l n hK) (js_blk (tX12_begins_132 l n hK) (js_blk (tX12_begins_262 l n hK) (js_none)))) n 0
def fX12_begins (n : Nat) : jF := jm_run 2 6 (kX12_begins n)
theorem sX12_begins (l : Launch) (n : Nat) : jr_F l (⟨"MeetingKitModel", "begins", "(I)V"⟩ : MethodName) cX12_begins 6 (Option.none : Option Jvm.ClassFile.FieldType) 7 160 (fX12_begins n) := js_met (by decide +kernel) (by decide) (tX12_begins l n)
theorem dX12_isOver_0 : decode cX12_isOver 0 = .ok (.aload_n 0, 1) := by decide +kernel
theorem dX12_isOver_1 : decode cX12_isOver 1 = .ok (.iload_n 1, 1) := by decide +kernel
theorem dX12_isOver_2 : decode cX12_isOver 2 = .ok (.invokevirtual 146, 3) := by decide +kernel
theorem dX12_isOver_5 : decode cX12_isOver 5 = .ok (.istore_n 2, 1) := by decide +kernel
theorem dX12_isOver_6 : decode cX12_isOver 6 = .ok (.aload_n 0, 1) := by decide +kernel
theorem dX12_isOver_7 : decode cX12_isOver 7 = .ok (.getfield 40, 3) := by decide +kernel
theorem dX12_isOver_10 : decode cX12_isOver 10 = .ok (.iload_n 2, 1) := by decide +kernel
theorem dX12_isOver_11 : decode cX12_isOver 11 = .ok (.iaload, 1) := by decide +kernel
theorem dX12_isOver_12 : decode cX12_isOver 12 = .ok (.ifCond .le 27, 3) := by decide +kernel
theorem dX12_isOver_15 : decode cX12_isOver 15 = .ok (.aload_n 0, 1) := by decide +kernel
theorem dX12_isOver_16 : decode cX12_isOver 16 = .ok (.getfield 130, 3) := by decide +kernel
theorem dX12_isOver_19 : decode cX12_isOver 19 = .ok (.aload_n 0, 1) := by decide +kernel
theorem dX12_isOver_20 : decode cX12_isOver 20 = .ok (.getfield 49, 3) := by decide +kernel
theorem dX12_isOver_23 : decode cX12_isOver 23 = .ok (.iload_n 2, 1) := by decide +kernel
theorem dX12_isOver_24 : decode cX12_isOver 24 = .ok (.iaload, 1) := by decide +kernel
theorem dX12_isOver_25 : decode cX12_isOver 25 = .ok (.isub, 1) := by decide +kernel
theorem dX12_isOver_26 : decode cX12_isOver 26 = .ok (.aload_n 0, 1) := by decide +kernel
theorem dX12_isOver_27 : decode cX12_isOver 27 = .ok (.getfield 40, 3) := by decide +kernel
theorem dX12_isOver_30 : decode cX12_isOver 30 = .ok (.iload_n 2, 1) := by decide +kernel
theorem dX12_isOver_31 : decode cX12_isOver 31 = .ok (.iaload, 1) := by decide +kernel
theorem dX12_isOver_32 : decode cX12_isOver 32 = .ok (.if_icmp .lt 7, 3) := by decide +kernel
theorem dX12_isOver_35 : decode cX12_isOver 35 = .ok (.iconst 1, 1) := by decide +kernel
theorem dX12_isOver_36 : decode cX12_isOver 36 = .ok (.goto 4, 3) := by decide +kernel
theorem dX12_isOver_39 : decode cX12_isOver 39 = .ok (.iconst 0, 1) := by decide +kernel
theorem dX12_isOver_40 : decode cX12_isOver 40 = .ok (.ireturn, 1) := by decide +kernel
def kX12_isOver_0 (n : Nat) (K : Nat → jK) : jK := jk_aload 0 <| jk_iload 1 <| jk_vcall [(11, fX12_stepOf n)] 1 <| jk_istore 2 <| jk_aload 0 <| jk_get [11] 13 <| jk_iload 2 <| jk_iald <| jk_ifle (K 39) <| jk_aload 0 <| jk_get [11] 2 <| jk_aload 0 <| jk_get [11] 16 <| jk_iload 2 <| jk_iald <| jk_isub <| jk_aload 0 <| jk_get [11] 13 <| jk_iload 2 <| jk_iald <| jk_icmplt (K 39) <| jk_int 1 <| K 40
set_option maxRecDepth 100000 in
set_option maxHeartbeats 4000000 in
theorem tX12_isOver_0 (l : Launch) (n : Nat) {K : Nat → jK} (hK : ∀ b, jr_D l cX12_isOver 3 "MeetingKitModel" (Option.some Jvm.ClassFile.FieldType.boolean) "isOver" 1 21 (K b) b) : jr_D l cX12_isOver 3 "MeetingKitModel" (Option.some Jvm.ClassFile.FieldType.boolean) "isOver" 1 21 (kX12_isOver_0 n K) 0 := by
  unfold kX12_isOver_0
  refine js_aload_n dX12_isOver_0 ?_
  refine js_iload_n dX12_isOver_1 ?_
  refine js_callv dX12_isOver_2 (⟨⟨_, _, _, _, _, _, _, ⟨rfl, (show (11 : Nat) < 20 by decide), sX12_stepOf l n, by decide, by decide, tw_1128, tw_103, tw_1127⟩, Or.inl ⟨by decide +kernel, by decide +kernel, by decide +kernel, tw_1125, tw_63⟩⟩, trivial⟩) ?_
  refine js_istore_n dX12_isOver_5 (by decide) ?_
  refine js_aload_n dX12_isOver_6 ?_
  refine js_get dX12_isOver_7 jf_13_11 tw_975 (Or.inl rfl) ?_
  refine js_iload_n dX12_isOver_10 ?_
  refine js_iald dX12_isOver_11 ?_
  refine js_ifle (tgt := 39) dX12_isOver_12 (by decide) ?_ ?_
  · exact hK 39
  · refine js_aload_n dX12_isOver_15 ?_
    refine js_get dX12_isOver_16 jf_2_11 tw_964 (Or.inl rfl) ?_
    refine js_aload_n dX12_isOver_19 ?_
    refine js_get dX12_isOver_20 jf_16_11 tw_978 (Or.inl rfl) ?_
    refine js_iload_n dX12_isOver_23 ?_
    refine js_iald dX12_isOver_24 ?_
    refine js_isub dX12_isOver_25 ?_
    refine js_aload_n dX12_isOver_26 ?_
    refine js_get dX12_isOver_27 jf_13_11 tw_975 (Or.inl rfl) ?_
    refine js_iload_n dX12_isOver_30 ?_
    refine js_iald dX12_isOver_31 ?_
    refine js_icmplt (tgt := 39) dX12_isOver_32 (by decide) ?_ ?_
    · exact hK 39
    · refine js_iconst dX12_isOver_35 ?_
      refine js_goto (tgt := 40) dX12_isOver_36 (by decide) ?_
      exact hK 40
def kX12_isOver_39 (n : Nat) (K : Nat → jK) : jK := jk_kill 0 <| jk_kill 1 <| jk_kill 2 <| jk_int 0 <| K 40
set_option maxRecDepth 100000 in
set_option maxHeartbeats 4000000 in
theorem tX12_isOver_39 (l : Launch) (n : Nat) {K : Nat → jK} (hK : ∀ b, jr_D l cX12_isOver 3 "MeetingKitModel" (Option.some Jvm.ClassFile.FieldType.boolean) "isOver" 1 21 (K b) b) : jr_D l cX12_isOver 3 "MeetingKitModel" (Option.some Jvm.ClassFile.FieldType.boolean) "isOver" 1 21 (kX12_isOver_39 n K) 39 := by
  unfold kX12_isOver_39
  refine js_kill ?_
  refine js_kill ?_
  refine js_kill ?_
  refine js_iconst dX12_isOver_39 ?_
  exact hK 40
def kX12_isOver_40 (n : Nat) (K : Nat → jK) : jK := jk_kill 0 <| jk_kill 1 <| jk_kill 2 <| jk_zret
set_option maxRecDepth 100000 in
set_option maxHeartbeats 4000000 in
theorem tX12_isOver_40 (l : Launch) (n : Nat) {K : Nat → jK} (hK : ∀ b, jr_D l cX12_isOver 3 "MeetingKitModel" (Option.some Jvm.ClassFile.FieldType.boolean) "isOver" 1 21 (K b) b) : jr_D l cX12_isOver 3 "MeetingKitModel" (Option.some Jvm.ClassFile.FieldType.boolean) "isOver" 1 21 (kX12_isOver_40 n K) 40 := by
  unfold kX12_isOver_40
  refine js_kill ?_
  refine js_kill ?_
  refine js_kill ?_
  exact js_zret dX12_isOver_40 rfl
def kX12_isOver_b (n : Nat) (K : Nat → jK) (b : Nat) : jK := if b = 0 then kX12_isOver_0 n K else if b = 39 then kX12_isOver_39 n K else if b = 40 then kX12_isOver_40 n K else jk_none
def kX12_isOver (n : Nat) : jK := jk_fix (kX12_isOver_b n) n 0
theorem tX12_isOver (l : Launch) (n : Nat) : jr_D l cX12_isOver 3 "MeetingKitModel" (Option.some Jvm.ClassFile.FieldType.boolean) "isOver" 1 21 (kX12_isOver n) 0 := js_fix (F := kX12_isOver_b n) (fun K hK b => js_blk (tX12_isOver_0 l n hK) (js_blk (tX12_isOver_39 l n hK) (js_blk (tX12_isOver_40 l n hK) (js_none)))) n 0
def fX12_isOver (n : Nat) : jF := jm_run 2 3 (kX12_isOver n)
theorem sX12_isOver (l : Launch) (n : Nat) : jr_F l (⟨"MeetingKitModel", "isOver", "(I)Z"⟩ : MethodName) cX12_isOver 3 (Option.some Jvm.ClassFile.FieldType.boolean) 1 21 (fX12_isOver n) := js_met (by decide +kernel) (by decide) (tX12_isOver l n)
theorem dX12_doesBeat_0 : decode cX12_doesBeat 0 = .ok (.aload_n 0, 1) := by decide +kernel
theorem dX12_doesBeat_1 : decode cX12_doesBeat 1 = .ok (.dup, 1) := by decide +kernel
theorem dX12_doesBeat_2 : decode cX12_doesBeat 2 = .ok (.getfield 130, 3) := by decide +kernel
theorem dX12_doesBeat_5 : decode cX12_doesBeat 5 = .ok (.iconst 1, 1) := by decide +kernel
theorem dX12_doesBeat_6 : decode cX12_doesBeat 6 = .ok (.iadd, 1) := by decide +kernel
theorem dX12_doesBeat_7 : decode cX12_doesBeat 7 = .ok (.putfield 130, 3) := by decide +kernel
theorem dX12_doesBeat_10 : decode cX12_doesBeat 10 = .ok (.iconst 0, 1) := by decide +kernel
theorem dX12_doesBeat_11 : decode cX12_doesBeat 11 = .ok (.istore_n 1, 1) := by decide +kernel
theorem dX12_doesBeat_12 : decode cX12_doesBeat 12 = .ok (.iload_n 1, 1) := by decide +kernel
theorem dX12_doesBeat_13 : decode cX12_doesBeat 13 = .ok (.aload_n 0, 1) := by decide +kernel
theorem dX12_doesBeat_14 : decode cX12_doesBeat 14 = .ok (.getfield 125, 3) := by decide +kernel
theorem dX12_doesBeat_17 : decode cX12_doesBeat 17 = .ok (.if_icmp .ge 49, 3) := by decide +kernel
theorem dX12_doesBeat_20 : decode cX12_doesBeat 20 = .ok (.aload_n 0, 1) := by decide +kernel
theorem dX12_doesBeat_21 : decode cX12_doesBeat 21 = .ok (.iload_n 1, 1) := by decide +kernel
theorem dX12_doesBeat_22 : decode cX12_doesBeat 22 = .ok (.aload_n 0, 1) := by decide +kernel
theorem dX12_doesBeat_23 : decode cX12_doesBeat 23 = .ok (.getfield 130, 3) := by decide +kernel
theorem dX12_doesBeat_26 : decode cX12_doesBeat 26 = .ok (.invokevirtual 140, 3) := by decide +kernel
theorem dX12_doesBeat_29 : decode cX12_doesBeat 29 = .ok (.ifCond .ne 6, 3) := by decide +kernel
theorem dX12_doesBeat_32 : decode cX12_doesBeat 32 = .ok (.goto 28, 3) := by decide +kernel
theorem dX12_doesBeat_35 : decode cX12_doesBeat 35 = .ok (.aload_n 0, 1) := by decide +kernel
theorem dX12_doesBeat_36 : decode cX12_doesBeat 36 = .ok (.getfield 16, 3) := by decide +kernel
theorem dX12_doesBeat_39 : decode cX12_doesBeat 39 = .ok (.iload_n 1, 1) := by decide +kernel
theorem dX12_doesBeat_40 : decode cX12_doesBeat 40 = .ok (.iaload, 1) := by decide +kernel
theorem dX12_doesBeat_41 : decode cX12_doesBeat 41 = .ok (.ifCond .lt 12, 3) := by decide +kernel
theorem dX12_doesBeat_44 : decode cX12_doesBeat 44 = .ok (.aload_n 0, 1) := by decide +kernel
theorem dX12_doesBeat_45 : decode cX12_doesBeat 45 = .ok (.iload_n 1, 1) := by decide +kernel
theorem dX12_doesBeat_46 : decode cX12_doesBeat 46 = .ok (.iconst 2, 1) := by decide +kernel
theorem dX12_doesBeat_47 : decode cX12_doesBeat 47 = .ok (.invokevirtual 246, 3) := by decide +kernel
theorem dX12_doesBeat_50 : decode cX12_doesBeat 50 = .ok (.goto 10, 3) := by decide +kernel
theorem dX12_doesBeat_53 : decode cX12_doesBeat 53 = .ok (.aload_n 0, 1) := by decide +kernel
theorem dX12_doesBeat_54 : decode cX12_doesBeat 54 = .ok (.getfield 19, 3) := by decide +kernel
theorem dX12_doesBeat_57 : decode cX12_doesBeat 57 = .ok (.iload_n 1, 1) := by decide +kernel
theorem dX12_doesBeat_58 : decode cX12_doesBeat 58 = .ok (.iconst 1, 1) := by decide +kernel
theorem dX12_doesBeat_59 : decode cX12_doesBeat 59 = .ok (.iastore, 1) := by decide +kernel
theorem dX12_doesBeat_60 : decode cX12_doesBeat 60 = .ok (.iinc 1 1, 3) := by decide +kernel
theorem dX12_doesBeat_63 : decode cX12_doesBeat 63 = .ok (.goto (-51), 3) := by decide +kernel
theorem dX12_doesBeat_66 : decode cX12_doesBeat 66 = .ok (.iconst 0, 1) := by decide +kernel
theorem dX12_doesBeat_67 : decode cX12_doesBeat 67 = .ok (.istore_n 1, 1) := by decide +kernel
theorem dX12_doesBeat_68 : decode cX12_doesBeat 68 = .ok (.iload_n 1, 1) := by decide +kernel
theorem dX12_doesBeat_69 : decode cX12_doesBeat 69 = .ok (.aload_n 0, 1) := by decide +kernel
theorem dX12_doesBeat_70 : decode cX12_doesBeat 70 = .ok (.getfield 113, 3) := by decide +kernel
theorem dX12_doesBeat_73 : decode cX12_doesBeat 73 = .ok (.if_icmp .ge 38, 3) := by decide +kernel
theorem dX12_doesBeat_76 : decode cX12_doesBeat 76 = .ok (.aload_n 0, 1) := by decide +kernel
theorem dX12_doesBeat_77 : decode cX12_doesBeat 77 = .ok (.getfield 64, 3) := by decide +kernel
theorem dX12_doesBeat_80 : decode cX12_doesBeat 80 = .ok (.iload_n 1, 1) := by decide +kernel
theorem dX12_doesBeat_81 : decode cX12_doesBeat 81 = .ok (.iaload, 1) := by decide +kernel
theorem dX12_doesBeat_82 : decode cX12_doesBeat 82 = .ok (.aload_n 0, 1) := by decide +kernel
theorem dX12_doesBeat_83 : decode cX12_doesBeat 83 = .ok (.getfield 130, 3) := by decide +kernel
theorem dX12_doesBeat_86 : decode cX12_doesBeat 86 = .ok (.if_icmp .eq 6, 3) := by decide +kernel
theorem dX12_doesBeat_89 : decode cX12_doesBeat 89 = .ok (.goto 16, 3) := by decide +kernel
theorem dX12_doesBeat_92 : decode cX12_doesBeat 92 = .ok (.aload_n 0, 1) := by decide +kernel
theorem dX12_doesBeat_93 : decode cX12_doesBeat 93 = .ok (.getfield 61, 3) := by decide +kernel
theorem dX12_doesBeat_96 : decode cX12_doesBeat 96 = .ok (.iload_n 1, 1) := by decide +kernel
theorem dX12_doesBeat_97 : decode cX12_doesBeat 97 = .ok (.iconst 1, 1) := by decide +kernel
theorem dX12_doesBeat_98 : decode cX12_doesBeat 98 = .ok (.iastore, 1) := by decide +kernel
theorem dX12_doesBeat_99 : decode cX12_doesBeat 99 = .ok (.aload_n 0, 1) := by decide +kernel
theorem dX12_doesBeat_100 : decode cX12_doesBeat 100 = .ok (.iload_n 1, 1) := by decide +kernel
theorem dX12_doesBeat_101 : decode cX12_doesBeat 101 = .ok (.iconst 4, 1) := by decide +kernel
theorem dX12_doesBeat_102 : decode cX12_doesBeat 102 = .ok (.invokevirtual 153, 3) := by decide +kernel
theorem dX12_doesBeat_105 : decode cX12_doesBeat 105 = .ok (.iinc 1 1, 3) := by decide +kernel
theorem dX12_doesBeat_108 : decode cX12_doesBeat 108 = .ok (.goto (-40), 3) := by decide +kernel
theorem dX12_doesBeat_111 : decode cX12_doesBeat 111 = .ok (.iconst 0, 1) := by decide +kernel
theorem dX12_doesBeat_112 : decode cX12_doesBeat 112 = .ok (.istore_n 1, 1) := by decide +kernel
theorem dX12_doesBeat_113 : decode cX12_doesBeat 113 = .ok (.iload_n 1, 1) := by decide +kernel
theorem dX12_doesBeat_114 : decode cX12_doesBeat 114 = .ok (.aload_n 0, 1) := by decide +kernel
theorem dX12_doesBeat_115 : decode cX12_doesBeat 115 = .ok (.getfield 125, 3) := by decide +kernel
theorem dX12_doesBeat_118 : decode cX12_doesBeat 118 = .ok (.if_icmp .ge 32, 3) := by decide +kernel
theorem dX12_doesBeat_121 : decode cX12_doesBeat 121 = .ok (.aload_n 0, 1) := by decide +kernel
theorem dX12_doesBeat_122 : decode cX12_doesBeat 122 = .ok (.getfield 16, 3) := by decide +kernel
theorem dX12_doesBeat_125 : decode cX12_doesBeat 125 = .ok (.iload_n 1, 1) := by decide +kernel
theorem dX12_doesBeat_126 : decode cX12_doesBeat 126 = .ok (.iaload, 1) := by decide +kernel
theorem dX12_doesBeat_127 : decode cX12_doesBeat 127 = .ok (.ifCond .lt 17, 3) := by decide +kernel
theorem dX12_doesBeat_130 : decode cX12_doesBeat 130 = .ok (.aload_n 0, 1) := by decide +kernel
theorem dX12_doesBeat_131 : decode cX12_doesBeat 131 = .ok (.iload_n 1, 1) := by decide +kernel
theorem dX12_doesBeat_132 : decode cX12_doesBeat 132 = .ok (.invokevirtual 249, 3) := by decide +kernel
theorem dX12_doesBeat_135 : decode cX12_doesBeat 135 = .ok (.ifCond .eq 9, 3) := by decide +kernel
theorem dX12_doesBeat_138 : decode cX12_doesBeat 138 = .ok (.aload_n 0, 1) := by decide +kernel
theorem dX12_doesBeat_139 : decode cX12_doesBeat 139 = .ok (.iload_n 1, 1) := by decide +kernel
theorem dX12_doesBeat_140 : decode cX12_doesBeat 140 = .ok (.iconst 3, 1) := by decide +kernel
theorem dX12_doesBeat_141 : decode cX12_doesBeat 141 = .ok (.invokevirtual 246, 3) := by decide +kernel
theorem dX12_doesBeat_144 : decode cX12_doesBeat 144 = .ok (.iinc 1 1, 3) := by decide +kernel
theorem dX12_doesBeat_147 : decode cX12_doesBeat 147 = .ok (.goto (-34), 3) := by decide +kernel
theorem dX12_doesBeat_150 : decode cX12_doesBeat 150 = .ok (.iconst 0, 1) := by decide +kernel
theorem dX12_doesBeat_151 : decode cX12_doesBeat 151 = .ok (.istore_n 1, 1) := by decide +kernel
theorem dX12_doesBeat_152 : decode cX12_doesBeat 152 = .ok (.iload_n 1, 1) := by decide +kernel
theorem dX12_doesBeat_153 : decode cX12_doesBeat 153 = .ok (.aload_n 0, 1) := by decide +kernel
theorem dX12_doesBeat_154 : decode cX12_doesBeat 154 = .ok (.getfield 125, 3) := by decide +kernel
theorem dX12_doesBeat_157 : decode cX12_doesBeat 157 = .ok (.if_icmp .ge 51, 3) := by decide +kernel
theorem dX12_doesBeat_160 : decode cX12_doesBeat 160 = .ok (.aload_n 0, 1) := by decide +kernel
theorem dX12_doesBeat_161 : decode cX12_doesBeat 161 = .ok (.getfield 16, 3) := by decide +kernel
theorem dX12_doesBeat_164 : decode cX12_doesBeat 164 = .ok (.iload_n 1, 1) := by decide +kernel
theorem dX12_doesBeat_165 : decode cX12_doesBeat 165 = .ok (.iaload, 1) := by decide +kernel
theorem dX12_doesBeat_166 : decode cX12_doesBeat 166 = .ok (.ifCond .ge 36, 3) := by decide +kernel
theorem dX12_doesBeat_169 : decode cX12_doesBeat 169 = .ok (.aload_n 0, 1) := by decide +kernel
theorem dX12_doesBeat_170 : decode cX12_doesBeat 170 = .ok (.getfield 13, 3) := by decide +kernel
theorem dX12_doesBeat_173 : decode cX12_doesBeat 173 = .ok (.iload_n 1, 1) := by decide +kernel
theorem dX12_doesBeat_174 : decode cX12_doesBeat 174 = .ok (.iaload, 1) := by decide +kernel
theorem dX12_doesBeat_175 : decode cX12_doesBeat 175 = .ok (.aload_n 0, 1) := by decide +kernel
theorem dX12_doesBeat_176 : decode cX12_doesBeat 176 = .ok (.getfield 7, 3) := by decide +kernel
theorem dX12_doesBeat_179 : decode cX12_doesBeat 179 = .ok (.iload_n 1, 1) := by decide +kernel
theorem dX12_doesBeat_180 : decode cX12_doesBeat 180 = .ok (.iaload, 1) := by decide +kernel
theorem dX12_doesBeat_181 : decode cX12_doesBeat 181 = .ok (.if_icmp .ge 21, 3) := by decide +kernel
theorem dX12_doesBeat_184 : decode cX12_doesBeat 184 = .ok (.aload_n 0, 1) := by decide +kernel
theorem dX12_doesBeat_185 : decode cX12_doesBeat 185 = .ok (.getfield 22, 3) := by decide +kernel
theorem dX12_doesBeat_188 : decode cX12_doesBeat 188 = .ok (.iload_n 1, 1) := by decide +kernel
theorem dX12_doesBeat_189 : decode cX12_doesBeat 189 = .ok (.iaload, 1) := by decide +kernel
theorem dX12_doesBeat_190 : decode cX12_doesBeat 190 = .ok (.aload_n 0, 1) := by decide +kernel
theorem dX12_doesBeat_191 : decode cX12_doesBeat 191 = .ok (.getfield 130, 3) := by decide +kernel
theorem dX12_doesBeat_194 : decode cX12_doesBeat 194 = .ok (.if_icmp .eq 8, 3) := by decide +kernel
theorem dX12_doesBeat_197 : decode cX12_doesBeat 197 = .ok (.aload_n 0, 1) := by decide +kernel
theorem dX12_doesBeat_198 : decode cX12_doesBeat 198 = .ok (.iload_n 1, 1) := by decide +kernel
theorem dX12_doesBeat_199 : decode cX12_doesBeat 199 = .ok (.invokevirtual 252, 3) := by decide +kernel
theorem dX12_doesBeat_202 : decode cX12_doesBeat 202 = .ok (.iinc 1 1, 3) := by decide +kernel
theorem dX12_doesBeat_205 : decode cX12_doesBeat 205 = .ok (.goto (-53), 3) := by decide +kernel
theorem dX12_doesBeat_208 : decode cX12_doesBeat 208 = .ok (.return_, 1) := by decide +kernel
def kX12_doesBeat_0 (n : Nat) (K : Nat → jK) : jK := jk_aload 0 <| jk_dup <| jk_get [11] 2 <| jk_int 1 <| jk_iadd <| jk_puti [11] 2 <| jk_int 0 <| jk_istore 1 <| K 12
set_option maxRecDepth 100000 in
set_option maxHeartbeats 4000000 in
theorem tX12_doesBeat_0 (l : Launch) (n : Nat) {K : Nat → jK} (hK : ∀ b, jr_D l cX12_doesBeat 2 "MeetingKitModel" (Option.none : Option Jvm.ClassFile.FieldType) "doesBeat" 8 185 (K b) b) : jr_D l cX12_doesBeat 2 "MeetingKitModel" (Option.none : Option Jvm.ClassFile.FieldType) "doesBeat" 8 185 (kX12_doesBeat_0 n K) 0 := by
  unfold kX12_doesBeat_0
  refine js_aload_n dX12_doesBeat_0 ?_
  refine js_dup dX12_doesBeat_1 ?_
  refine js_get dX12_doesBeat_2 jf_2_11 tw_964 (Or.inl rfl) ?_
  refine js_iconst dX12_doesBeat_5 ?_
  refine js_iadd dX12_doesBeat_6 ?_
  refine js_puti dX12_doesBeat_7 jf_2_11 rfl tw_964 (Or.inl rfl) ?_
  refine js_iconst dX12_doesBeat_10 ?_
  refine js_istore_n dX12_doesBeat_11 (by decide) ?_
  exact hK 12
def kX12_doesBeat_12 (n : Nat) (K : Nat → jK) : jK := jk_iload 1 <| jk_aload 0 <| jk_get [11] 0 <| jk_icmpge (jk_int 0 <| jk_istore 1 <| K 68) <| jk_aload 0 <| jk_iload 1 <| jk_aload 0 <| jk_get [11] 2 <| jk_vcall [(11, fX12_isPlanned n)] 2 <| jk_ifne (jk_aload 0 <| jk_get [11] 5 <| jk_iload 1 <| jk_iald <| jk_iflt (jk_aload 0 <| jk_get [11] 6 <| jk_iload 1 <| jk_int 1 <| jk_iast <| K 60) <| jk_aload 0 <| jk_iload 1 <| jk_int 2 <| jk_vcall [(11, fX12_gives n)] 2 <| K 60) <| K 60
set_option maxRecDepth 100000 in
set_option maxHeartbeats 4000000 in
theorem tX12_doesBeat_12 (l : Launch) (n : Nat) {K : Nat → jK} (hK : ∀ b, jr_D l cX12_doesBeat 2 "MeetingKitModel" (Option.none : Option Jvm.ClassFile.FieldType) "doesBeat" 8 185 (K b) b) : jr_D l cX12_doesBeat 2 "MeetingKitModel" (Option.none : Option Jvm.ClassFile.FieldType) "doesBeat" 8 185 (kX12_doesBeat_12 n K) 12 := by
  unfold kX12_doesBeat_12
  refine js_iload_n dX12_doesBeat_12 ?_
  refine js_aload_n dX12_doesBeat_13 ?_
  refine js_get dX12_doesBeat_14 jf_0_11 tw_962 (Or.inl rfl) ?_
  refine js_icmpge (tgt := 66) dX12_doesBeat_17 (by decide) ?_ ?_
  · refine js_iconst dX12_doesBeat_66 ?_
    refine js_istore_n dX12_doesBeat_67 (by decide) ?_
    exact hK 68
  · refine js_aload_n dX12_doesBeat_20 ?_
    refine js_iload_n dX12_doesBeat_21 ?_
    refine js_aload_n dX12_doesBeat_22 ?_
    refine js_get dX12_doesBeat_23 jf_2_11 tw_964 (Or.inl rfl) ?_
    refine js_callv dX12_doesBeat_26 (⟨⟨_, _, _, _, _, _, _, ⟨rfl, (show (11 : Nat) < 20 by decide), sX12_isPlanned l n, by decide, by decide, tw_1112, tw_103, tw_1111⟩, Or.inl ⟨by decide +kernel, by decide +kernel, by decide +kernel, tw_1109, tw_61⟩⟩, trivial⟩) ?_
    refine js_ifne (tgt := 35) dX12_doesBeat_29 (by decide) ?_ ?_
    · refine js_aload_n dX12_doesBeat_35 ?_
      refine js_get dX12_doesBeat_36 jf_5_11 tw_967 (Or.inl rfl) ?_
      refine js_iload_n dX12_doesBeat_39 ?_
      refine js_iald dX12_doesBeat_40 ?_
      refine js_iflt (tgt := 53) dX12_doesBeat_41 (by decide) ?_ ?_
      · refine js_aload_n dX12_doesBeat_53 ?_
        refine js_get dX12_doesBeat_54 jf_6_11 tw_968 (Or.inl rfl) ?_
        refine js_iload_n dX12_doesBeat_57 ?_
        refine js_iconst dX12_doesBeat_58 ?_
        refine js_iast dX12_doesBeat_59 ?_
        exact hK 60
      · refine js_aload_n dX12_doesBeat_44 ?_
        refine js_iload_n dX12_doesBeat_45 ?_
        refine js_iconst dX12_doesBeat_46 ?_
        refine js_callv dX12_doesBeat_47 (⟨⟨_, _, _, _, _, _, _, ⟨rfl, (show (11 : Nat) < 20 by decide), sX12_gives l n, by decide, by decide, tw_1136, tw_103, tw_1135⟩, Or.inl ⟨by decide +kernel, by decide +kernel, by decide +kernel, tw_1133, tw_65⟩⟩, trivial⟩) ?_
        refine js_goto (tgt := 60) dX12_doesBeat_50 (by decide) ?_
        exact hK 60
    · refine js_goto (tgt := 60) dX12_doesBeat_32 (by decide) ?_
      exact hK 60
def kX12_doesBeat_60 (n : Nat) (K : Nat → jK) : jK := jk_iinc 1 1 <| K 12
set_option maxRecDepth 100000 in
set_option maxHeartbeats 4000000 in
theorem tX12_doesBeat_60 (l : Launch) (n : Nat) {K : Nat → jK} (hK : ∀ b, jr_D l cX12_doesBeat 2 "MeetingKitModel" (Option.none : Option Jvm.ClassFile.FieldType) "doesBeat" 8 185 (K b) b) : jr_D l cX12_doesBeat 2 "MeetingKitModel" (Option.none : Option Jvm.ClassFile.FieldType) "doesBeat" 8 185 (kX12_doesBeat_60 n K) 60 := by
  unfold kX12_doesBeat_60
  refine js_iinc dX12_doesBeat_60 (by decide) ?_
  refine js_goto (tgt := 12) dX12_doesBeat_63 (by decide) ?_
  exact hK 12
def kX12_doesBeat_68 (n : Nat) (K : Nat → jK) : jK := jk_iload 1 <| jk_aload 0 <| jk_get [11] 1 <| jk_icmpge (jk_int 0 <| jk_istore 1 <| K 113) <| jk_aload 0 <| jk_get [11] 21 <| jk_iload 1 <| jk_iald <| jk_aload 0 <| jk_get [11] 2 <| jk_icmpeq (jk_aload 0 <| jk_get [11] 20 <| jk_iload 1 <| jk_int 1 <| jk_iast <| jk_aload 0 <| jk_iload 1 <| jk_int 4 <| jk_vcall [(11, fX12_allEnd n)] 2 <| K 105) <| K 105
set_option maxRecDepth 100000 in
set_option maxHeartbeats 4000000 in
theorem tX12_doesBeat_68 (l : Launch) (n : Nat) {K : Nat → jK} (hK : ∀ b, jr_D l cX12_doesBeat 2 "MeetingKitModel" (Option.none : Option Jvm.ClassFile.FieldType) "doesBeat" 8 185 (K b) b) : jr_D l cX12_doesBeat 2 "MeetingKitModel" (Option.none : Option Jvm.ClassFile.FieldType) "doesBeat" 8 185 (kX12_doesBeat_68 n K) 68 := by
  unfold kX12_doesBeat_68
  refine js_iload_n dX12_doesBeat_68 ?_
  refine js_aload_n dX12_doesBeat_69 ?_
  refine js_get dX12_doesBeat_70 jf_1_11 tw_963 (Or.inl rfl) ?_
  refine js_icmpge (tgt := 111) dX12_doesBeat_73 (by decide) ?_ ?_
  · refine js_iconst dX12_doesBeat_111 ?_
    refine js_istore_n dX12_doesBeat_112 (by decide) ?_
    exact hK 113
  · refine js_aload_n dX12_doesBeat_76 ?_
    refine js_get dX12_doesBeat_77 jf_21_11 tw_983 (Or.inl rfl) ?_
    refine js_iload_n dX12_doesBeat_80 ?_
    refine js_iald dX12_doesBeat_81 ?_
    refine js_aload_n dX12_doesBeat_82 ?_
    refine js_get dX12_doesBeat_83 jf_2_11 tw_964 (Or.inl rfl) ?_
    refine js_icmpeq (tgt := 92) dX12_doesBeat_86 (by decide) ?_ ?_
    · refine js_aload_n dX12_doesBeat_92 ?_
      refine js_get dX12_doesBeat_93 jf_20_11 tw_982 (Or.inl rfl) ?_
      refine js_iload_n dX12_doesBeat_96 ?_
      refine js_iconst dX12_doesBeat_97 ?_
      refine js_iast dX12_doesBeat_98 ?_
      refine js_aload_n dX12_doesBeat_99 ?_
      refine js_iload_n dX12_doesBeat_100 ?_
      refine js_iconst dX12_doesBeat_101 ?_
      refine js_callv dX12_doesBeat_102 (⟨⟨_, _, _, _, _, _, _, ⟨rfl, (show (11 : Nat) < 20 by decide), sX12_allEnd l n, by decide, by decide, tw_1152, tw_103, tw_1151⟩, Or.inl ⟨by decide +kernel, by decide +kernel, by decide +kernel, tw_1149, tw_69⟩⟩, trivial⟩) ?_
      exact hK 105
    · refine js_goto (tgt := 105) dX12_doesBeat_89 (by decide) ?_
      exact hK 105
def kX12_doesBeat_105 (n : Nat) (K : Nat → jK) : jK := jk_iinc 1 1 <| K 68
set_option maxRecDepth 100000 in
set_option maxHeartbeats 4000000 in
theorem tX12_doesBeat_105 (l : Launch) (n : Nat) {K : Nat → jK} (hK : ∀ b, jr_D l cX12_doesBeat 2 "MeetingKitModel" (Option.none : Option Jvm.ClassFile.FieldType) "doesBeat" 8 185 (K b) b) : jr_D l cX12_doesBeat 2 "MeetingKitModel" (Option.none : Option Jvm.ClassFile.FieldType) "doesBeat" 8 185 (kX12_doesBeat_105 n K) 105 := by
  unfold kX12_doesBeat_105
  refine js_iinc dX12_doesBeat_105 (by decide) ?_
  refine js_goto (tgt := 68) dX12_doesBeat_108 (by decide) ?_
  exact hK 68
def kX12_doesBeat_113 (n : Nat) (K : Nat → jK) : jK := jk_iload 1 <| jk_aload 0 <| jk_get [11] 0 <| jk_icmpge (jk_int 0 <| jk_istore 1 <| K 152) <| jk_aload 0 <| jk_get [11] 5 <| jk_iload 1 <| jk_iald <| jk_iflt (K 144) <| jk_aload 0 <| jk_iload 1 <| jk_vcall [(11, fX12_isOver n)] 1 <| jk_ifeq (K 144) <| jk_aload 0 <| jk_iload 1 <| jk_int 3 <| jk_vcall [(11, fX12_gives n)] 2 <| K 144
set_option maxRecDepth 100000 in
set_option maxHeartbeats 4000000 in
theorem tX12_doesBeat_113 (l : Launch) (n : Nat) {K : Nat → jK} (hK : ∀ b, jr_D l cX12_doesBeat 2 "MeetingKitModel" (Option.none : Option Jvm.ClassFile.FieldType) "doesBeat" 8 185 (K b) b) : jr_D l cX12_doesBeat 2 "MeetingKitModel" (Option.none : Option Jvm.ClassFile.FieldType) "doesBeat" 8 185 (kX12_doesBeat_113 n K) 113 := by
  unfold kX12_doesBeat_113
  refine js_iload_n dX12_doesBeat_113 ?_
  refine js_aload_n dX12_doesBeat_114 ?_
  refine js_get dX12_doesBeat_115 jf_0_11 tw_962 (Or.inl rfl) ?_
  refine js_icmpge (tgt := 150) dX12_doesBeat_118 (by decide) ?_ ?_
  · refine js_iconst dX12_doesBeat_150 ?_
    refine js_istore_n dX12_doesBeat_151 (by decide) ?_
    exact hK 152
  · refine js_aload_n dX12_doesBeat_121 ?_
    refine js_get dX12_doesBeat_122 jf_5_11 tw_967 (Or.inl rfl) ?_
    refine js_iload_n dX12_doesBeat_125 ?_
    refine js_iald dX12_doesBeat_126 ?_
    refine js_iflt (tgt := 144) dX12_doesBeat_127 (by decide) ?_ ?_
    · exact hK 144
    · refine js_aload_n dX12_doesBeat_130 ?_
      refine js_iload_n dX12_doesBeat_131 ?_
      refine js_callv dX12_doesBeat_132 (⟨⟨_, _, _, _, _, _, _, ⟨rfl, (show (11 : Nat) < 20 by decide), sX12_isOver l n, by decide, by decide, tw_1192, tw_103, tw_1191⟩, Or.inl ⟨by decide +kernel, by decide +kernel, by decide +kernel, tw_1189, tw_79⟩⟩, trivial⟩) ?_
      refine js_ifeq (tgt := 144) dX12_doesBeat_135 (by decide) ?_ ?_
      · exact hK 144
      · refine js_aload_n dX12_doesBeat_138 ?_
        refine js_iload_n dX12_doesBeat_139 ?_
        refine js_iconst dX12_doesBeat_140 ?_
        refine js_callv dX12_doesBeat_141 (⟨⟨_, _, _, _, _, _, _, ⟨rfl, (show (11 : Nat) < 20 by decide), sX12_gives l n, by decide, by decide, tw_1136, tw_103, tw_1135⟩, Or.inl ⟨by decide +kernel, by decide +kernel, by decide +kernel, tw_1133, tw_65⟩⟩, trivial⟩) ?_
        exact hK 144
def kX12_doesBeat_144 (n : Nat) (K : Nat → jK) : jK := jk_iinc 1 1 <| K 113
set_option maxRecDepth 100000 in
set_option maxHeartbeats 4000000 in
theorem tX12_doesBeat_144 (l : Launch) (n : Nat) {K : Nat → jK} (hK : ∀ b, jr_D l cX12_doesBeat 2 "MeetingKitModel" (Option.none : Option Jvm.ClassFile.FieldType) "doesBeat" 8 185 (K b) b) : jr_D l cX12_doesBeat 2 "MeetingKitModel" (Option.none : Option Jvm.ClassFile.FieldType) "doesBeat" 8 185 (kX12_doesBeat_144 n K) 144 := by
  unfold kX12_doesBeat_144
  refine js_iinc dX12_doesBeat_144 (by decide) ?_
  refine js_goto (tgt := 113) dX12_doesBeat_147 (by decide) ?_
  exact hK 113
def kX12_doesBeat_152 (n : Nat) (K : Nat → jK) : jK := jk_iload 1 <| jk_aload 0 <| jk_get [11] 0 <| jk_icmpge (jk_vret) <| jk_aload 0 <| jk_get [11] 5 <| jk_iload 1 <| jk_iald <| jk_ifge (K 202) <| jk_aload 0 <| jk_get [11] 4 <| jk_iload 1 <| jk_iald <| jk_aload 0 <| jk_get [11] 3 <| jk_iload 1 <| jk_iald <| jk_icmpge (K 202) <| jk_aload 0 <| jk_get [11] 7 <| jk_iload 1 <| jk_iald <| jk_aload 0 <| jk_get [11] 2 <| jk_icmpeq (K 202) <| jk_aload 0 <| jk_iload 1 <| jk_vcall [(11, fX12_begins n)] 1 <| K 202
set_option maxRecDepth 100000 in
set_option maxHeartbeats 4000000 in
theorem tX12_doesBeat_152 (l : Launch) (n : Nat) {K : Nat → jK} (hK : ∀ b, jr_D l cX12_doesBeat 2 "MeetingKitModel" (Option.none : Option Jvm.ClassFile.FieldType) "doesBeat" 8 185 (K b) b) : jr_D l cX12_doesBeat 2 "MeetingKitModel" (Option.none : Option Jvm.ClassFile.FieldType) "doesBeat" 8 185 (kX12_doesBeat_152 n K) 152 := by
  unfold kX12_doesBeat_152
  refine js_iload_n dX12_doesBeat_152 ?_
  refine js_aload_n dX12_doesBeat_153 ?_
  refine js_get dX12_doesBeat_154 jf_0_11 tw_962 (Or.inl rfl) ?_
  refine js_icmpge (tgt := 208) dX12_doesBeat_157 (by decide) ?_ ?_
  · exact js_vret dX12_doesBeat_208 rfl
  · refine js_aload_n dX12_doesBeat_160 ?_
    refine js_get dX12_doesBeat_161 jf_5_11 tw_967 (Or.inl rfl) ?_
    refine js_iload_n dX12_doesBeat_164 ?_
    refine js_iald dX12_doesBeat_165 ?_
    refine js_ifge (tgt := 202) dX12_doesBeat_166 (by decide) ?_ ?_
    · exact hK 202
    · refine js_aload_n dX12_doesBeat_169 ?_
      refine js_get dX12_doesBeat_170 jf_4_11 tw_966 (Or.inl rfl) ?_
      refine js_iload_n dX12_doesBeat_173 ?_
      refine js_iald dX12_doesBeat_174 ?_
      refine js_aload_n dX12_doesBeat_175 ?_
      refine js_get dX12_doesBeat_176 jf_3_11 tw_965 (Or.inl rfl) ?_
      refine js_iload_n dX12_doesBeat_179 ?_
      refine js_iald dX12_doesBeat_180 ?_
      refine js_icmpge (tgt := 202) dX12_doesBeat_181 (by decide) ?_ ?_
      · exact hK 202
      · refine js_aload_n dX12_doesBeat_184 ?_
        refine js_get dX12_doesBeat_185 jf_7_11 tw_969 (Or.inl rfl) ?_
        refine js_iload_n dX12_doesBeat_188 ?_
        refine js_iald dX12_doesBeat_189 ?_
        refine js_aload_n dX12_doesBeat_190 ?_
        refine js_get dX12_doesBeat_191 jf_2_11 tw_964 (Or.inl rfl) ?_
        refine js_icmpeq (tgt := 202) dX12_doesBeat_194 (by decide) ?_ ?_
        · exact hK 202
        · refine js_aload_n dX12_doesBeat_197 ?_
          refine js_iload_n dX12_doesBeat_198 ?_
          refine js_callv dX12_doesBeat_199 (⟨⟨_, _, _, _, _, _, _, ⟨rfl, (show (11 : Nat) < 20 by decide), sX12_begins l n, by decide, by decide, tw_1196, tw_103, tw_1195⟩, Or.inl ⟨by decide +kernel, by decide +kernel, by decide +kernel, tw_1193, tw_80⟩⟩, trivial⟩) ?_
          exact hK 202
def kX12_doesBeat_202 (n : Nat) (K : Nat → jK) : jK := jk_iinc 1 1 <| K 152
set_option maxRecDepth 100000 in
set_option maxHeartbeats 4000000 in
theorem tX12_doesBeat_202 (l : Launch) (n : Nat) {K : Nat → jK} (hK : ∀ b, jr_D l cX12_doesBeat 2 "MeetingKitModel" (Option.none : Option Jvm.ClassFile.FieldType) "doesBeat" 8 185 (K b) b) : jr_D l cX12_doesBeat 2 "MeetingKitModel" (Option.none : Option Jvm.ClassFile.FieldType) "doesBeat" 8 185 (kX12_doesBeat_202 n K) 202 := by
  unfold kX12_doesBeat_202
  refine js_iinc dX12_doesBeat_202 (by decide) ?_
  refine js_goto (tgt := 152) dX12_doesBeat_205 (by decide) ?_
  exact hK 152
def kX12_doesBeat_b (n : Nat) (K : Nat → jK) (b : Nat) : jK := if b = 0 then kX12_doesBeat_0 n K else if b = 12 then kX12_doesBeat_12 n K else if b = 60 then kX12_doesBeat_60 n K else if b = 68 then kX12_doesBeat_68 n K else if b = 105 then kX12_doesBeat_105 n K else if b = 113 then kX12_doesBeat_113 n K else if b = 144 then kX12_doesBeat_144 n K else if b = 152 then kX12_doesBeat_152 n K else if b = 202 then kX12_doesBeat_202 n K else jk_none
def kX12_doesBeat (n : Nat) : jK := jk_fix (kX12_doesBeat_b n) n 0
theorem tX12_doesBeat (l : Launch) (n : Nat) : jr_D l cX12_doesBeat 2 "MeetingKitModel" (Option.none : Option Jvm.ClassFile.FieldType) "doesBeat" 8 185 (kX12_doesBeat n) 0 := js_fix (F := kX12_doesBeat_b n) (fun K hK b => js_blk (tX12_doesBeat_0 l n hK) (js_blk (tX12_doesBeat_12 l n hK) (js_blk (tX12_doesBeat_60 l n hK) (js_blk (tX12_doesBeat_68 l n hK) (js_blk (tX12_doesBeat_105 l n hK) (js_blk (tX12_doesBeat_113 l n hK) (js_blk (tX12_doesBeat_144 l n hK) (js_blk (tX12_doesBeat_152 l n hK) (js_blk (tX12_doesBeat_202 l n hK) (js_none)))))))))) n 0
def fX12_doesBeat (n : Nat) : jF := jm_run 1 2 (kX12_doesBeat n)
theorem sX12_doesBeat (l : Launch) (n : Nat) : jr_F l (⟨"MeetingKitModel", "doesBeat", "()V"⟩ : MethodName) cX12_doesBeat 2 (Option.none : Option Jvm.ClassFile.FieldType) 8 185 (fX12_doesBeat n) := js_met (by decide +kernel) (by decide) (tX12_doesBeat l n)
theorem dX12_canHappen_0 : decode cX12_canHappen 0 = .ok (.iconst 0, 1) := by decide +kernel
theorem dX12_canHappen_1 : decode cX12_canHappen 1 = .ok (.istore_n 1, 1) := by decide +kernel
theorem dX12_canHappen_2 : decode cX12_canHappen 2 = .ok (.iconst 0, 1) := by decide +kernel
theorem dX12_canHappen_3 : decode cX12_canHappen 3 = .ok (.istore_n 2, 1) := by decide +kernel
theorem dX12_canHappen_4 : decode cX12_canHappen 4 = .ok (.iload_n 2, 1) := by decide +kernel
theorem dX12_canHappen_5 : decode cX12_canHappen 5 = .ok (.aload_n 0, 1) := by decide +kernel
theorem dX12_canHappen_6 : decode cX12_canHappen 6 = .ok (.getfield 125, 3) := by decide +kernel
theorem dX12_canHappen_9 : decode cX12_canHappen 9 = .ok (.if_icmp .ge 59, 3) := by decide +kernel
theorem dX12_canHappen_12 : decode cX12_canHappen 12 = .ok (.iload_n 1, 1) := by decide +kernel
theorem dX12_canHappen_13 : decode cX12_canHappen 13 = .ok (.ifCond .ne 43, 3) := by decide +kernel
theorem dX12_canHappen_16 : decode cX12_canHappen 16 = .ok (.aload_n 0, 1) := by decide +kernel
theorem dX12_canHappen_17 : decode cX12_canHappen 17 = .ok (.getfield 16, 3) := by decide +kernel
theorem dX12_canHappen_20 : decode cX12_canHappen 20 = .ok (.iload_n 2, 1) := by decide +kernel
theorem dX12_canHappen_21 : decode cX12_canHappen 21 = .ok (.iaload, 1) := by decide +kernel
theorem dX12_canHappen_22 : decode cX12_canHappen 22 = .ok (.ifCond .ge 21, 3) := by decide +kernel
theorem dX12_canHappen_25 : decode cX12_canHappen 25 = .ok (.aload_n 0, 1) := by decide +kernel
theorem dX12_canHappen_26 : decode cX12_canHappen 26 = .ok (.getfield 13, 3) := by decide +kernel
theorem dX12_canHappen_29 : decode cX12_canHappen 29 = .ok (.iload_n 2, 1) := by decide +kernel
theorem dX12_canHappen_30 : decode cX12_canHappen 30 = .ok (.iaload, 1) := by decide +kernel
theorem dX12_canHappen_31 : decode cX12_canHappen 31 = .ok (.aload_n 0, 1) := by decide +kernel
theorem dX12_canHappen_32 : decode cX12_canHappen 32 = .ok (.getfield 7, 3) := by decide +kernel
theorem dX12_canHappen_35 : decode cX12_canHappen 35 = .ok (.iload_n 2, 1) := by decide +kernel
theorem dX12_canHappen_36 : decode cX12_canHappen 36 = .ok (.iaload, 1) := by decide +kernel
theorem dX12_canHappen_37 : decode cX12_canHappen 37 = .ok (.if_icmp .ge 23, 3) := by decide +kernel
theorem dX12_canHappen_40 : decode cX12_canHappen 40 = .ok (.goto 16, 3) := by decide +kernel
theorem dX12_canHappen_43 : decode cX12_canHappen 43 = .ok (.aload_n 0, 1) := by decide +kernel
theorem dX12_canHappen_44 : decode cX12_canHappen 44 = .ok (.getfield 40, 3) := by decide +kernel
theorem dX12_canHappen_47 : decode cX12_canHappen 47 = .ok (.aload_n 0, 1) := by decide +kernel
theorem dX12_canHappen_48 : decode cX12_canHappen 48 = .ok (.iload_n 2, 1) := by decide +kernel
theorem dX12_canHappen_49 : decode cX12_canHappen 49 = .ok (.invokevirtual 146, 3) := by decide +kernel
theorem dX12_canHappen_52 : decode cX12_canHappen 52 = .ok (.iaload, 1) := by decide +kernel
theorem dX12_canHappen_53 : decode cX12_canHappen 53 = .ok (.ifCond .le 7, 3) := by decide +kernel
theorem dX12_canHappen_56 : decode cX12_canHappen 56 = .ok (.iconst 1, 1) := by decide +kernel
theorem dX12_canHappen_57 : decode cX12_canHappen 57 = .ok (.goto 4, 3) := by decide +kernel
theorem dX12_canHappen_60 : decode cX12_canHappen 60 = .ok (.iconst 0, 1) := by decide +kernel
theorem dX12_canHappen_61 : decode cX12_canHappen 61 = .ok (.istore_n 1, 1) := by decide +kernel
theorem dX12_canHappen_62 : decode cX12_canHappen 62 = .ok (.iinc 2 1, 3) := by decide +kernel
theorem dX12_canHappen_65 : decode cX12_canHappen 65 = .ok (.goto (-61), 3) := by decide +kernel
theorem dX12_canHappen_68 : decode cX12_canHappen 68 = .ok (.iconst 0, 1) := by decide +kernel
theorem dX12_canHappen_69 : decode cX12_canHappen 69 = .ok (.istore_n 2, 1) := by decide +kernel
theorem dX12_canHappen_70 : decode cX12_canHappen 70 = .ok (.iload_n 2, 1) := by decide +kernel
theorem dX12_canHappen_71 : decode cX12_canHappen 71 = .ok (.aload_n 0, 1) := by decide +kernel
theorem dX12_canHappen_72 : decode cX12_canHappen 72 = .ok (.getfield 113, 3) := by decide +kernel
theorem dX12_canHappen_75 : decode cX12_canHappen 75 = .ok (.if_icmp .ge 32, 3) := by decide +kernel
theorem dX12_canHappen_78 : decode cX12_canHappen 78 = .ok (.iload_n 1, 1) := by decide +kernel
theorem dX12_canHappen_79 : decode cX12_canHappen 79 = .ok (.ifCond .ne 16, 3) := by decide +kernel
theorem dX12_canHappen_82 : decode cX12_canHappen 82 = .ok (.aload_n 0, 1) := by decide +kernel
theorem dX12_canHappen_83 : decode cX12_canHappen 83 = .ok (.getfield 64, 3) := by decide +kernel
theorem dX12_canHappen_86 : decode cX12_canHappen 86 = .ok (.iload_n 2, 1) := by decide +kernel
theorem dX12_canHappen_87 : decode cX12_canHappen 87 = .ok (.iaload, 1) := by decide +kernel
theorem dX12_canHappen_88 : decode cX12_canHappen 88 = .ok (.aload_n 0, 1) := by decide +kernel
theorem dX12_canHappen_89 : decode cX12_canHappen 89 = .ok (.getfield 130, 3) := by decide +kernel
theorem dX12_canHappen_92 : decode cX12_canHappen 92 = .ok (.if_icmp .le 7, 3) := by decide +kernel
theorem dX12_canHappen_95 : decode cX12_canHappen 95 = .ok (.iconst 1, 1) := by decide +kernel
theorem dX12_canHappen_96 : decode cX12_canHappen 96 = .ok (.goto 4, 3) := by decide +kernel
theorem dX12_canHappen_99 : decode cX12_canHappen 99 = .ok (.iconst 0, 1) := by decide +kernel
theorem dX12_canHappen_100 : decode cX12_canHappen 100 = .ok (.istore_n 1, 1) := by decide +kernel
theorem dX12_canHappen_101 : decode cX12_canHappen 101 = .ok (.iinc 2 1, 3) := by decide +kernel
theorem dX12_canHappen_104 : decode cX12_canHappen 104 = .ok (.goto (-34), 3) := by decide +kernel
theorem dX12_canHappen_107 : decode cX12_canHappen 107 = .ok (.iconst 0, 1) := by decide +kernel
theorem dX12_canHappen_108 : decode cX12_canHappen 108 = .ok (.istore_n 2, 1) := by decide +kernel
theorem dX12_canHappen_109 : decode cX12_canHappen 109 = .ok (.iload_n 2, 1) := by decide +kernel
theorem dX12_canHappen_110 : decode cX12_canHappen 110 = .ok (.aload_n 0, 1) := by decide +kernel
theorem dX12_canHappen_111 : decode cX12_canHappen 111 = .ok (.getfield 143, 3) := by decide +kernel
theorem dX12_canHappen_114 : decode cX12_canHappen 114 = .ok (.if_icmp .ge 32, 3) := by decide +kernel
theorem dX12_canHappen_117 : decode cX12_canHappen 117 = .ok (.iload_n 1, 1) := by decide +kernel
theorem dX12_canHappen_118 : decode cX12_canHappen 118 = .ok (.ifCond .ne 16, 3) := by decide +kernel
theorem dX12_canHappen_121 : decode cX12_canHappen 121 = .ok (.aload_n 0, 1) := by decide +kernel
theorem dX12_canHappen_122 : decode cX12_canHappen 122 = .ok (.getfield 107, 3) := by decide +kernel
theorem dX12_canHappen_125 : decode cX12_canHappen 125 = .ok (.iload_n 2, 1) := by decide +kernel
theorem dX12_canHappen_126 : decode cX12_canHappen 126 = .ok (.iaload, 1) := by decide +kernel
theorem dX12_canHappen_127 : decode cX12_canHappen 127 = .ok (.aload_n 0, 1) := by decide +kernel
theorem dX12_canHappen_128 : decode cX12_canHappen 128 = .ok (.getfield 130, 3) := by decide +kernel
theorem dX12_canHappen_131 : decode cX12_canHappen 131 = .ok (.if_icmp .le 7, 3) := by decide +kernel
theorem dX12_canHappen_134 : decode cX12_canHappen 134 = .ok (.iconst 1, 1) := by decide +kernel
theorem dX12_canHappen_135 : decode cX12_canHappen 135 = .ok (.goto 4, 3) := by decide +kernel
theorem dX12_canHappen_138 : decode cX12_canHappen 138 = .ok (.iconst 0, 1) := by decide +kernel
theorem dX12_canHappen_139 : decode cX12_canHappen 139 = .ok (.istore_n 1, 1) := by decide +kernel
theorem dX12_canHappen_140 : decode cX12_canHappen 140 = .ok (.iinc 2 1, 3) := by decide +kernel
theorem dX12_canHappen_143 : decode cX12_canHappen 143 = .ok (.goto (-34), 3) := by decide +kernel
theorem dX12_canHappen_146 : decode cX12_canHappen 146 = .ok (.iload_n 1, 1) := by decide +kernel
theorem dX12_canHappen_147 : decode cX12_canHappen 147 = .ok (.ireturn, 1) := by decide +kernel
def kX12_canHappen_0 (n : Nat) (K : Nat → jK) : jK := jk_int 0 <| jk_istore 1 <| jk_int 0 <| jk_istore 2 <| K 4
set_option maxRecDepth 100000 in
set_option maxHeartbeats 4000000 in
theorem tX12_canHappen_0 (l : Launch) (n : Nat) {K : Nat → jK} (hK : ∀ b, jr_D l cX12_canHappen 3 "MeetingKitModel" (Option.some Jvm.ClassFile.FieldType.boolean) "canHappen" 1 21 (K b) b) : jr_D l cX12_canHappen 3 "MeetingKitModel" (Option.some Jvm.ClassFile.FieldType.boolean) "canHappen" 1 21 (kX12_canHappen_0 n K) 0 := by
  unfold kX12_canHappen_0
  refine js_iconst dX12_canHappen_0 ?_
  refine js_istore_n dX12_canHappen_1 (by decide) ?_
  refine js_iconst dX12_canHappen_2 ?_
  refine js_istore_n dX12_canHappen_3 (by decide) ?_
  exact hK 4
def kX12_canHappen_4 (n : Nat) (K : Nat → jK) : jK := jk_iload 2 <| jk_aload 0 <| jk_get [11] 0 <| jk_icmpge (jk_int 0 <| jk_istore 2 <| K 70) <| jk_iload 1 <| jk_ifne (K 56) <| jk_aload 0 <| jk_get [11] 5 <| jk_iload 2 <| jk_iald <| jk_ifge (jk_aload 0 <| jk_get [11] 13 <| jk_aload 0 <| jk_iload 2 <| jk_vcall [(11, fX12_stepOf n)] 1 <| jk_iald <| jk_ifle (K 60) <| K 56) <| jk_aload 0 <| jk_get [11] 4 <| jk_iload 2 <| jk_iald <| jk_aload 0 <| jk_get [11] 3 <| jk_iload 2 <| jk_iald <| jk_icmpge (K 60) <| K 56
set_option maxRecDepth 100000 in
set_option maxHeartbeats 4000000 in
theorem tX12_canHappen_4 (l : Launch) (n : Nat) {K : Nat → jK} (hK : ∀ b, jr_D l cX12_canHappen 3 "MeetingKitModel" (Option.some Jvm.ClassFile.FieldType.boolean) "canHappen" 1 21 (K b) b) : jr_D l cX12_canHappen 3 "MeetingKitModel" (Option.some Jvm.ClassFile.FieldType.boolean) "canHappen" 1 21 (kX12_canHappen_4 n K) 4 := by
  unfold kX12_canHappen_4
  refine js_iload_n dX12_canHappen_4 ?_
  refine js_aload_n dX12_canHappen_5 ?_
  refine js_get dX12_canHappen_6 jf_0_11 tw_962 (Or.inl rfl) ?_
  refine js_icmpge (tgt := 68) dX12_canHappen_9 (by decide) ?_ ?_
  · refine js_iconst dX12_canHappen_68 ?_
    refine js_istore_n dX12_canHappen_69 (by decide) ?_
    exact hK 70
  · refine js_iload_n dX12_canHappen_12 ?_
    refine js_ifne (tgt := 56) dX12_canHappen_13 (by decide) ?_ ?_
    · exact hK 56
    · refine js_aload_n dX12_canHappen_16 ?_
      refine js_get dX12_canHappen_17 jf_5_11 tw_967 (Or.inl rfl) ?_
      refine js_iload_n dX12_canHappen_20 ?_
      refine js_iald dX12_canHappen_21 ?_
      refine js_ifge (tgt := 43) dX12_canHappen_22 (by decide) ?_ ?_
      · refine js_aload_n dX12_canHappen_43 ?_
        refine js_get dX12_canHappen_44 jf_13_11 tw_975 (Or.inl rfl) ?_
        refine js_aload_n dX12_canHappen_47 ?_
        refine js_iload_n dX12_canHappen_48 ?_
        refine js_callv dX12_canHappen_49 (⟨⟨_, _, _, _, _, _, _, ⟨rfl, (show (11 : Nat) < 20 by decide), sX12_stepOf l n, by decide, by decide, tw_1128, tw_103, tw_1127⟩, Or.inl ⟨by decide +kernel, by decide +kernel, by decide +kernel, tw_1125, tw_63⟩⟩, trivial⟩) ?_
        refine js_iald dX12_canHappen_52 ?_
        refine js_ifle (tgt := 60) dX12_canHappen_53 (by decide) ?_ ?_
        · exact hK 60
        · exact hK 56
      · refine js_aload_n dX12_canHappen_25 ?_
        refine js_get dX12_canHappen_26 jf_4_11 tw_966 (Or.inl rfl) ?_
        refine js_iload_n dX12_canHappen_29 ?_
        refine js_iald dX12_canHappen_30 ?_
        refine js_aload_n dX12_canHappen_31 ?_
        refine js_get dX12_canHappen_32 jf_3_11 tw_965 (Or.inl rfl) ?_
        refine js_iload_n dX12_canHappen_35 ?_
        refine js_iald dX12_canHappen_36 ?_
        refine js_icmpge (tgt := 60) dX12_canHappen_37 (by decide) ?_ ?_
        · exact hK 60
        · refine js_goto (tgt := 56) dX12_canHappen_40 (by decide) ?_
          exact hK 56
def kX12_canHappen_56 (n : Nat) (K : Nat → jK) : jK := jk_kill 1 <| jk_int 1 <| K 61
set_option maxRecDepth 100000 in
set_option maxHeartbeats 4000000 in
theorem tX12_canHappen_56 (l : Launch) (n : Nat) {K : Nat → jK} (hK : ∀ b, jr_D l cX12_canHappen 3 "MeetingKitModel" (Option.some Jvm.ClassFile.FieldType.boolean) "canHappen" 1 21 (K b) b) : jr_D l cX12_canHappen 3 "MeetingKitModel" (Option.some Jvm.ClassFile.FieldType.boolean) "canHappen" 1 21 (kX12_canHappen_56 n K) 56 := by
  unfold kX12_canHappen_56
  refine js_kill ?_
  refine js_iconst dX12_canHappen_56 ?_
  refine js_goto (tgt := 61) dX12_canHappen_57 (by decide) ?_
  exact hK 61
def kX12_canHappen_60 (n : Nat) (K : Nat → jK) : jK := jk_kill 1 <| jk_int 0 <| K 61
set_option maxRecDepth 100000 in
set_option maxHeartbeats 4000000 in
theorem tX12_canHappen_60 (l : Launch) (n : Nat) {K : Nat → jK} (hK : ∀ b, jr_D l cX12_canHappen 3 "MeetingKitModel" (Option.some Jvm.ClassFile.FieldType.boolean) "canHappen" 1 21 (K b) b) : jr_D l cX12_canHappen 3 "MeetingKitModel" (Option.some Jvm.ClassFile.FieldType.boolean) "canHappen" 1 21 (kX12_canHappen_60 n K) 60 := by
  unfold kX12_canHappen_60
  refine js_kill ?_
  refine js_iconst dX12_canHappen_60 ?_
  exact hK 61
def kX12_canHappen_61 (n : Nat) (K : Nat → jK) : jK := jk_kill 1 <| jk_istore 1 <| jk_iinc 2 1 <| K 4
set_option maxRecDepth 100000 in
set_option maxHeartbeats 4000000 in
theorem tX12_canHappen_61 (l : Launch) (n : Nat) {K : Nat → jK} (hK : ∀ b, jr_D l cX12_canHappen 3 "MeetingKitModel" (Option.some Jvm.ClassFile.FieldType.boolean) "canHappen" 1 21 (K b) b) : jr_D l cX12_canHappen 3 "MeetingKitModel" (Option.some Jvm.ClassFile.FieldType.boolean) "canHappen" 1 21 (kX12_canHappen_61 n K) 61 := by
  unfold kX12_canHappen_61
  refine js_kill ?_
  refine js_istore_n dX12_canHappen_61 (by decide) ?_
  refine js_iinc dX12_canHappen_62 (by decide) ?_
  refine js_goto (tgt := 4) dX12_canHappen_65 (by decide) ?_
  exact hK 4
def kX12_canHappen_70 (n : Nat) (K : Nat → jK) : jK := jk_iload 2 <| jk_aload 0 <| jk_get [11] 1 <| jk_icmpge (jk_int 0 <| jk_istore 2 <| K 109) <| jk_iload 1 <| jk_ifne (K 95) <| jk_aload 0 <| jk_get [11] 21 <| jk_iload 2 <| jk_iald <| jk_aload 0 <| jk_get [11] 2 <| jk_icmple (jk_int 0 <| K 100) <| K 95
set_option maxRecDepth 100000 in
set_option maxHeartbeats 4000000 in
theorem tX12_canHappen_70 (l : Launch) (n : Nat) {K : Nat → jK} (hK : ∀ b, jr_D l cX12_canHappen 3 "MeetingKitModel" (Option.some Jvm.ClassFile.FieldType.boolean) "canHappen" 1 21 (K b) b) : jr_D l cX12_canHappen 3 "MeetingKitModel" (Option.some Jvm.ClassFile.FieldType.boolean) "canHappen" 1 21 (kX12_canHappen_70 n K) 70 := by
  unfold kX12_canHappen_70
  refine js_iload_n dX12_canHappen_70 ?_
  refine js_aload_n dX12_canHappen_71 ?_
  refine js_get dX12_canHappen_72 jf_1_11 tw_963 (Or.inl rfl) ?_
  refine js_icmpge (tgt := 107) dX12_canHappen_75 (by decide) ?_ ?_
  · refine js_iconst dX12_canHappen_107 ?_
    refine js_istore_n dX12_canHappen_108 (by decide) ?_
    exact hK 109
  · refine js_iload_n dX12_canHappen_78 ?_
    refine js_ifne (tgt := 95) dX12_canHappen_79 (by decide) ?_ ?_
    · exact hK 95
    · refine js_aload_n dX12_canHappen_82 ?_
      refine js_get dX12_canHappen_83 jf_21_11 tw_983 (Or.inl rfl) ?_
      refine js_iload_n dX12_canHappen_86 ?_
      refine js_iald dX12_canHappen_87 ?_
      refine js_aload_n dX12_canHappen_88 ?_
      refine js_get dX12_canHappen_89 jf_2_11 tw_964 (Or.inl rfl) ?_
      refine js_icmple (tgt := 99) dX12_canHappen_92 (by decide) ?_ ?_
      · refine js_iconst dX12_canHappen_99 ?_
        exact hK 100
      · exact hK 95
def kX12_canHappen_95 (n : Nat) (K : Nat → jK) : jK := jk_kill 1 <| jk_int 1 <| K 100
set_option maxRecDepth 100000 in
set_option maxHeartbeats 4000000 in
theorem tX12_canHappen_95 (l : Launch) (n : Nat) {K : Nat → jK} (hK : ∀ b, jr_D l cX12_canHappen 3 "MeetingKitModel" (Option.some Jvm.ClassFile.FieldType.boolean) "canHappen" 1 21 (K b) b) : jr_D l cX12_canHappen 3 "MeetingKitModel" (Option.some Jvm.ClassFile.FieldType.boolean) "canHappen" 1 21 (kX12_canHappen_95 n K) 95 := by
  unfold kX12_canHappen_95
  refine js_kill ?_
  refine js_iconst dX12_canHappen_95 ?_
  refine js_goto (tgt := 100) dX12_canHappen_96 (by decide) ?_
  exact hK 100
def kX12_canHappen_100 (n : Nat) (K : Nat → jK) : jK := jk_kill 1 <| jk_istore 1 <| jk_iinc 2 1 <| K 70
set_option maxRecDepth 100000 in
set_option maxHeartbeats 4000000 in
theorem tX12_canHappen_100 (l : Launch) (n : Nat) {K : Nat → jK} (hK : ∀ b, jr_D l cX12_canHappen 3 "MeetingKitModel" (Option.some Jvm.ClassFile.FieldType.boolean) "canHappen" 1 21 (K b) b) : jr_D l cX12_canHappen 3 "MeetingKitModel" (Option.some Jvm.ClassFile.FieldType.boolean) "canHappen" 1 21 (kX12_canHappen_100 n K) 100 := by
  unfold kX12_canHappen_100
  refine js_kill ?_
  refine js_istore_n dX12_canHappen_100 (by decide) ?_
  refine js_iinc dX12_canHappen_101 (by decide) ?_
  refine js_goto (tgt := 70) dX12_canHappen_104 (by decide) ?_
  exact hK 70
def kX12_canHappen_109 (n : Nat) (K : Nat → jK) : jK := jk_iload 2 <| jk_aload 0 <| jk_get [11] 38 <| jk_icmpge (jk_iload 1 <| jk_zret) <| jk_iload 1 <| jk_ifne (K 134) <| jk_aload 0 <| jk_get [11] 35 <| jk_iload 2 <| jk_iald <| jk_aload 0 <| jk_get [11] 2 <| jk_icmple (jk_int 0 <| K 139) <| K 134
set_option maxRecDepth 100000 in
set_option maxHeartbeats 4000000 in
theorem tX12_canHappen_109 (l : Launch) (n : Nat) {K : Nat → jK} (hK : ∀ b, jr_D l cX12_canHappen 3 "MeetingKitModel" (Option.some Jvm.ClassFile.FieldType.boolean) "canHappen" 1 21 (K b) b) : jr_D l cX12_canHappen 3 "MeetingKitModel" (Option.some Jvm.ClassFile.FieldType.boolean) "canHappen" 1 21 (kX12_canHappen_109 n K) 109 := by
  unfold kX12_canHappen_109
  refine js_iload_n dX12_canHappen_109 ?_
  refine js_aload_n dX12_canHappen_110 ?_
  refine js_get dX12_canHappen_111 jf_38_11 tw_1000 (Or.inl rfl) ?_
  refine js_icmpge (tgt := 146) dX12_canHappen_114 (by decide) ?_ ?_
  · refine js_iload_n dX12_canHappen_146 ?_
    exact js_zret dX12_canHappen_147 rfl
  · refine js_iload_n dX12_canHappen_117 ?_
    refine js_ifne (tgt := 134) dX12_canHappen_118 (by decide) ?_ ?_
    · exact hK 134
    · refine js_aload_n dX12_canHappen_121 ?_
      refine js_get dX12_canHappen_122 jf_35_11 tw_997 (Or.inl rfl) ?_
      refine js_iload_n dX12_canHappen_125 ?_
      refine js_iald dX12_canHappen_126 ?_
      refine js_aload_n dX12_canHappen_127 ?_
      refine js_get dX12_canHappen_128 jf_2_11 tw_964 (Or.inl rfl) ?_
      refine js_icmple (tgt := 138) dX12_canHappen_131 (by decide) ?_ ?_
      · refine js_iconst dX12_canHappen_138 ?_
        exact hK 139
      · exact hK 134
def kX12_canHappen_134 (n : Nat) (K : Nat → jK) : jK := jk_kill 1 <| jk_int 1 <| K 139
set_option maxRecDepth 100000 in
set_option maxHeartbeats 4000000 in
theorem tX12_canHappen_134 (l : Launch) (n : Nat) {K : Nat → jK} (hK : ∀ b, jr_D l cX12_canHappen 3 "MeetingKitModel" (Option.some Jvm.ClassFile.FieldType.boolean) "canHappen" 1 21 (K b) b) : jr_D l cX12_canHappen 3 "MeetingKitModel" (Option.some Jvm.ClassFile.FieldType.boolean) "canHappen" 1 21 (kX12_canHappen_134 n K) 134 := by
  unfold kX12_canHappen_134
  refine js_kill ?_
  refine js_iconst dX12_canHappen_134 ?_
  refine js_goto (tgt := 139) dX12_canHappen_135 (by decide) ?_
  exact hK 139
def kX12_canHappen_139 (n : Nat) (K : Nat → jK) : jK := jk_kill 1 <| jk_istore 1 <| jk_iinc 2 1 <| K 109
set_option maxRecDepth 100000 in
set_option maxHeartbeats 4000000 in
theorem tX12_canHappen_139 (l : Launch) (n : Nat) {K : Nat → jK} (hK : ∀ b, jr_D l cX12_canHappen 3 "MeetingKitModel" (Option.some Jvm.ClassFile.FieldType.boolean) "canHappen" 1 21 (K b) b) : jr_D l cX12_canHappen 3 "MeetingKitModel" (Option.some Jvm.ClassFile.FieldType.boolean) "canHappen" 1 21 (kX12_canHappen_139 n K) 139 := by
  unfold kX12_canHappen_139
  refine js_kill ?_
  refine js_istore_n dX12_canHappen_139 (by decide) ?_
  refine js_iinc dX12_canHappen_140 (by decide) ?_
  refine js_goto (tgt := 109) dX12_canHappen_143 (by decide) ?_
  exact hK 109
def kX12_canHappen_b (n : Nat) (K : Nat → jK) (b : Nat) : jK := if b = 0 then kX12_canHappen_0 n K else if b = 4 then kX12_canHappen_4 n K else if b = 56 then kX12_canHappen_56 n K else if b = 60 then kX12_canHappen_60 n K else if b = 61 then kX12_canHappen_61 n K else if b = 70 then kX12_canHappen_70 n K else if b = 95 then kX12_canHappen_95 n K else if b = 100 then kX12_canHappen_100 n K else if b = 109 then kX12_canHappen_109 n K else if b = 134 then kX12_canHappen_134 n K else if b = 139 then kX12_canHappen_139 n K else jk_none
def kX12_canHappen (n : Nat) : jK := jk_fix (kX12_canHappen_b n) n 0
theorem tX12_canHappen (l : Launch) (n : Nat) : jr_D l cX12_canHappen 3 "MeetingKitModel" (Option.some Jvm.ClassFile.FieldType.boolean) "canHappen" 1 21 (kX12_canHappen n) 0 := js_fix (F := kX12_canHappen_b n) (fun K hK b => js_blk (tX12_canHappen_0 l n hK) (js_blk (tX12_canHappen_4 l n hK) (js_blk (tX12_canHappen_56 l n hK) (js_blk (tX12_canHappen_60 l n hK) (js_blk (tX12_canHappen_61 l n hK) (js_blk (tX12_canHappen_70 l n hK) (js_blk (tX12_canHappen_95 l n hK) (js_blk (tX12_canHappen_100 l n hK) (js_blk (tX12_canHappen_109 l n hK) (js_blk (tX12_canHappen_134 l n hK) (js_blk (tX12_canHappen_139 l n hK) (js_none)))))))))))) n 0
def fX12_canHappen (n : Nat) : jF := jm_run 1 3 (kX12_canHappen n)
theorem sX12_canHappen (l : Launch) (n : Nat) : jr_F l (⟨"MeetingKitModel", "canHappen", "()Z"⟩ : MethodName) cX12_canHappen 3 (Option.some Jvm.ClassFile.FieldType.boolean) 1 21 (fX12_canHappen n) := js_met (by decide +kernel) (by decide) (tX12_canHappen l n)
theorem dX12_run_0 : decode cX12_run 0 = .ok (.iload_n 1, 1) := by decide +kernel
theorem dX12_run_1 : decode cX12_run 1 = .ok (.aload_n 0, 1) := by decide +kernel
theorem dX12_run_2 : decode cX12_run 2 = .ok (.getfield 130, 3) := by decide +kernel
theorem dX12_run_5 : decode cX12_run 5 = .ok (.if_icmp .lt 10, 3) := by decide +kernel
theorem dX12_run_8 : decode cX12_run 8 = .ok (.iload_n 1, 1) := by decide +kernel
theorem dX12_run_9 : decode cX12_run 9 = .ok (.sipush 5000, 3) := by decide +kernel
theorem dX12_run_12 : decode cX12_run 12 = .ok (.if_icmp .le 5, 3) := by decide +kernel
theorem dX12_run_15 : decode cX12_run 15 = .ok (.iconst (-1), 1) := by decide +kernel
theorem dX12_run_16 : decode cX12_run 16 = .ok (.ireturn, 1) := by decide +kernel
theorem dX12_run_17 : decode cX12_run 17 = .ok (.aload_n 0, 1) := by decide +kernel
theorem dX12_run_18 : decode cX12_run 18 = .ok (.getfield 130, 3) := by decide +kernel
theorem dX12_run_21 : decode cX12_run 21 = .ok (.iload_n 1, 1) := by decide +kernel
theorem dX12_run_22 : decode cX12_run 22 = .ok (.if_icmp .ge 17, 3) := by decide +kernel
theorem dX12_run_25 : decode cX12_run 25 = .ok (.aload_n 0, 1) := by decide +kernel
theorem dX12_run_26 : decode cX12_run 26 = .ok (.invokevirtual 255, 3) := by decide +kernel
theorem dX12_run_29 : decode cX12_run 29 = .ok (.ifCond .eq 10, 3) := by decide +kernel
theorem dX12_run_32 : decode cX12_run 32 = .ok (.aload_n 0, 1) := by decide +kernel
theorem dX12_run_33 : decode cX12_run 33 = .ok (.invokevirtual 259, 3) := by decide +kernel
theorem dX12_run_36 : decode cX12_run 36 = .ok (.goto (-19), 3) := by decide +kernel
theorem dX12_run_39 : decode cX12_run 39 = .ok (.aload_n 0, 1) := by decide +kernel
theorem dX12_run_40 : decode cX12_run 40 = .ok (.getfield 130, 3) := by decide +kernel
theorem dX12_run_43 : decode cX12_run 43 = .ok (.ireturn, 1) := by decide +kernel
def kX12_run_0 (n : Nat) (K : Nat → jK) : jK := jk_iload 1 <| jk_aload 0 <| jk_get [11] 2 <| jk_icmplt (K 15) <| jk_iload 1 <| jk_int 5000 <| jk_icmple (K 17) <| K 15
set_option maxRecDepth 100000 in
set_option maxHeartbeats 4000000 in
theorem tX12_run_0 (l : Launch) (n : Nat) {K : Nat → jK} (hK : ∀ b, jr_D l cX12_run 2 "MeetingKitModel" (Option.some Jvm.ClassFile.FieldType.int) "run" 9 206 (K b) b) : jr_D l cX12_run 2 "MeetingKitModel" (Option.some Jvm.ClassFile.FieldType.int) "run" 9 206 (kX12_run_0 n K) 0 := by
  unfold kX12_run_0
  refine js_iload_n dX12_run_0 ?_
  refine js_aload_n dX12_run_1 ?_
  refine js_get dX12_run_2 jf_2_11 tw_964 (Or.inl rfl) ?_
  refine js_icmplt (tgt := 15) dX12_run_5 (by decide) ?_ ?_
  · exact hK 15
  · refine js_iload_n dX12_run_8 ?_
    refine js_sipush dX12_run_9 ?_
    refine js_icmple (tgt := 17) dX12_run_12 (by decide) ?_ ?_
    · exact hK 17
    · exact hK 15
def kX12_run_15 (n : Nat) (K : Nat → jK) : jK := jk_kill 0 <| jk_kill 1 <| jk_int (-1) <| jk_iret
set_option maxRecDepth 100000 in
set_option maxHeartbeats 4000000 in
theorem tX12_run_15 (l : Launch) (n : Nat) {K : Nat → jK} (hK : ∀ b, jr_D l cX12_run 2 "MeetingKitModel" (Option.some Jvm.ClassFile.FieldType.int) "run" 9 206 (K b) b) : jr_D l cX12_run 2 "MeetingKitModel" (Option.some Jvm.ClassFile.FieldType.int) "run" 9 206 (kX12_run_15 n K) 15 := by
  unfold kX12_run_15
  refine js_kill ?_
  refine js_kill ?_
  refine js_iconst dX12_run_15 ?_
  exact js_iret dX12_run_16 rfl
def kX12_run_17 (n : Nat) (K : Nat → jK) : jK := jk_aload 0 <| jk_get [11] 2 <| jk_iload 1 <| jk_icmpge (K 39) <| jk_aload 0 <| jk_vcall [(11, fX12_canHappen n)] 0 <| jk_ifeq (K 39) <| jk_aload 0 <| jk_vcall [(11, fX12_doesBeat n)] 0 <| K 17
set_option maxRecDepth 100000 in
set_option maxHeartbeats 4000000 in
theorem tX12_run_17 (l : Launch) (n : Nat) {K : Nat → jK} (hK : ∀ b, jr_D l cX12_run 2 "MeetingKitModel" (Option.some Jvm.ClassFile.FieldType.int) "run" 9 206 (K b) b) : jr_D l cX12_run 2 "MeetingKitModel" (Option.some Jvm.ClassFile.FieldType.int) "run" 9 206 (kX12_run_17 n K) 17 := by
  unfold kX12_run_17
  refine js_aload_n dX12_run_17 ?_
  refine js_get dX12_run_18 jf_2_11 tw_964 (Or.inl rfl) ?_
  refine js_iload_n dX12_run_21 ?_
  refine js_icmpge (tgt := 39) dX12_run_22 (by decide) ?_ ?_
  · exact hK 39
  · refine js_aload_n dX12_run_25 ?_
    refine js_callv dX12_run_26 (⟨⟨_, _, _, _, _, _, _, ⟨rfl, (show (11 : Nat) < 20 by decide), sX12_canHappen l n, by decide, by decide, tw_1124, tw_103, tw_1123⟩, Or.inl ⟨by decide +kernel, by decide +kernel, by decide +kernel, tw_1121, tw_62⟩⟩, trivial⟩) ?_
    refine js_ifeq (tgt := 39) dX12_run_29 (by decide) ?_ ?_
    · exact hK 39
    · refine js_aload_n dX12_run_32 ?_
      refine js_callv dX12_run_33 (⟨⟨_, _, _, _, _, _, _, ⟨rfl, (show (11 : Nat) < 20 by decide), sX12_doesBeat l n, by decide, by decide, tw_1132, tw_103, tw_1131⟩, Or.inl ⟨by decide +kernel, by decide +kernel, by decide +kernel, tw_1129, tw_64⟩⟩, trivial⟩) ?_
      refine js_goto (tgt := 17) dX12_run_36 (by decide) ?_
      exact hK 17
def kX12_run_39 (n : Nat) (K : Nat → jK) : jK := jk_kill 1 <| jk_aload 0 <| jk_get [11] 2 <| jk_iret
set_option maxRecDepth 100000 in
set_option maxHeartbeats 4000000 in
theorem tX12_run_39 (l : Launch) (n : Nat) {K : Nat → jK} (hK : ∀ b, jr_D l cX12_run 2 "MeetingKitModel" (Option.some Jvm.ClassFile.FieldType.int) "run" 9 206 (K b) b) : jr_D l cX12_run 2 "MeetingKitModel" (Option.some Jvm.ClassFile.FieldType.int) "run" 9 206 (kX12_run_39 n K) 39 := by
  unfold kX12_run_39
  refine js_kill ?_
  refine js_aload_n dX12_run_39 ?_
  refine js_get dX12_run_40 jf_2_11 tw_964 (Or.inl rfl) ?_
  exact js_iret dX12_run_43 rfl
def kX12_run_b (n : Nat) (K : Nat → jK) (b : Nat) : jK := if b = 0 then kX12_run_0 n K else if b = 15 then kX12_run_15 n K else if b = 17 then kX12_run_17 n K else if b = 39 then kX12_run_39 n K else jk_none
def kX12_run (n : Nat) : jK := jk_fix (kX12_run_b n) n 0
theorem tX12_run (l : Launch) (n : Nat) : jr_D l cX12_run 2 "MeetingKitModel" (Option.some Jvm.ClassFile.FieldType.int) "run" 9 206 (kX12_run n) 0 := js_fix (F := kX12_run_b n) (fun K hK b => js_blk (tX12_run_0 l n hK) (js_blk (tX12_run_15 l n hK) (js_blk (tX12_run_17 l n hK) (js_blk (tX12_run_39 l n hK) (js_none))))) n 0
def fX12_run (n : Nat) : jF := jm_run 2 2 (kX12_run n)
theorem sX12_run (l : Launch) (n : Nat) : jr_F l (⟨"MeetingKitModel", "run", "(I)I"⟩ : MethodName) cX12_run 2 (Option.some Jvm.ClassFile.FieldType.int) 9 206 (fX12_run n) := js_met (by decide +kernel) (by decide) (tX12_run l n)
theorem dX12_tell_0 : decode cX12_tell 0 = .ok (.iload_n 1, 1) := by decide +kernel
theorem dX12_tell_1 : decode cX12_tell 1 = .ok (.aload_n 0, 1) := by decide +kernel
theorem dX12_tell_2 : decode cX12_tell 2 = .ok (.getfield 125, 3) := by decide +kernel
theorem dX12_tell_5 : decode cX12_tell 5 = .ok (.invokestatic 117, 3) := by decide +kernel
theorem dX12_tell_8 : decode cX12_tell 8 = .ok (.ifCond .ne 5, 3) := by decide +kernel
theorem dX12_tell_11 : decode cX12_tell 11 = .ok (.iconst (-1), 1) := by decide +kernel
theorem dX12_tell_12 : decode cX12_tell 12 = .ok (.ireturn, 1) := by decide +kernel
theorem dX12_tell_13 : decode cX12_tell 13 = .ok (.iload_n 2, 1) := by decide +kernel
theorem dX12_tell_14 : decode cX12_tell 14 = .ok (.tableswitch 58 0 3 #[30, 37, 44, 51], 30) := by decide +kernel
theorem dX12_tell_44 : decode cX12_tell 44 = .ok (.aload_n 0, 1) := by decide +kernel
theorem dX12_tell_45 : decode cX12_tell 45 = .ok (.getfield 7, 3) := by decide +kernel
theorem dX12_tell_48 : decode cX12_tell 48 = .ok (.iload_n 1, 1) := by decide +kernel
theorem dX12_tell_49 : decode cX12_tell 49 = .ok (.iaload, 1) := by decide +kernel
theorem dX12_tell_50 : decode cX12_tell 50 = .ok (.ireturn, 1) := by decide +kernel
theorem dX12_tell_51 : decode cX12_tell 51 = .ok (.aload_n 0, 1) := by decide +kernel
theorem dX12_tell_52 : decode cX12_tell 52 = .ok (.getfield 13, 3) := by decide +kernel
theorem dX12_tell_55 : decode cX12_tell 55 = .ok (.iload_n 1, 1) := by decide +kernel
theorem dX12_tell_56 : decode cX12_tell 56 = .ok (.iaload, 1) := by decide +kernel
theorem dX12_tell_57 : decode cX12_tell 57 = .ok (.ireturn, 1) := by decide +kernel
theorem dX12_tell_58 : decode cX12_tell 58 = .ok (.aload_n 0, 1) := by decide +kernel
theorem dX12_tell_59 : decode cX12_tell 59 = .ok (.getfield 16, 3) := by decide +kernel
theorem dX12_tell_62 : decode cX12_tell 62 = .ok (.iload_n 1, 1) := by decide +kernel
theorem dX12_tell_63 : decode cX12_tell 63 = .ok (.iaload, 1) := by decide +kernel
theorem dX12_tell_64 : decode cX12_tell 64 = .ok (.ireturn, 1) := by decide +kernel
theorem dX12_tell_65 : decode cX12_tell 65 = .ok (.aload_n 0, 1) := by decide +kernel
theorem dX12_tell_66 : decode cX12_tell 66 = .ok (.getfield 19, 3) := by decide +kernel
theorem dX12_tell_69 : decode cX12_tell 69 = .ok (.iload_n 1, 1) := by decide +kernel
theorem dX12_tell_70 : decode cX12_tell 70 = .ok (.iaload, 1) := by decide +kernel
theorem dX12_tell_71 : decode cX12_tell 71 = .ok (.ireturn, 1) := by decide +kernel
theorem dX12_tell_72 : decode cX12_tell 72 = .ok (.iconst (-1), 1) := by decide +kernel
theorem dX12_tell_73 : decode cX12_tell 73 = .ok (.ireturn, 1) := by decide +kernel
def kX12_tell (n : Nat) : jK := jk_iload 1 <| jk_aload 0 <| jk_get [11] 0 <| jk_call (fX12_isIn n) 2 <| jk_ifne (jk_iload 2 <| jk_sw [(0, (jk_aload 0 <| jk_get [11] 3 <| jk_iload 1 <| jk_iald <| jk_iret)), (1, (jk_aload 0 <| jk_get [11] 4 <| jk_iload 1 <| jk_iald <| jk_iret)), (2, (jk_aload 0 <| jk_get [11] 5 <| jk_iload 1 <| jk_iald <| jk_iret)), (3, (jk_aload 0 <| jk_get [11] 6 <| jk_iload 1 <| jk_iald <| jk_iret))] (jk_int (-1) <| jk_iret)) <| jk_int (-1) <| jk_iret
set_option maxRecDepth 100000 in
set_option maxHeartbeats 4000000 in
theorem tX12_tell (l : Launch) (n : Nat) : jr_D l cX12_tell 3 "MeetingKitModel" (Option.some Jvm.ClassFile.FieldType.int) "tell" 1 21 (kX12_tell n) 0 := by
  unfold kX12_tell
  refine js_iload_n dX12_tell_0 ?_
  refine js_aload_n dX12_tell_1 ?_
  refine js_get dX12_tell_2 jf_0_11 tw_962 (Or.inl rfl) ?_
  refine js_calls (sX12_isIn l n) dX12_tell_5 (by decide) (by decide) tw_1085 tw_1086 tw_103 tw_1087 (by decide +kernel) ?_
  refine js_ifne (tgt := 13) dX12_tell_8 (by decide) ?_ ?_
  · refine js_iload_n dX12_tell_13 ?_
    refine js_tsw (td := 72) dX12_tell_14 rfl (by decide) ?_ ?_
    · refine js_iconst dX12_tell_72 ?_
      exact js_iret dX12_tell_73 rfl
    · refine ⟨rfl, ⟨44, by decide, ?_⟩, rfl, ⟨51, by decide, ?_⟩, rfl, ⟨58, by decide, ?_⟩, rfl, ⟨65, by decide, ?_⟩, trivial⟩
      · refine js_aload_n dX12_tell_44 ?_
        refine js_get dX12_tell_45 jf_3_11 tw_965 (Or.inl rfl) ?_
        refine js_iload_n dX12_tell_48 ?_
        refine js_iald dX12_tell_49 ?_
        exact js_iret dX12_tell_50 rfl
      · refine js_aload_n dX12_tell_51 ?_
        refine js_get dX12_tell_52 jf_4_11 tw_966 (Or.inl rfl) ?_
        refine js_iload_n dX12_tell_55 ?_
        refine js_iald dX12_tell_56 ?_
        exact js_iret dX12_tell_57 rfl
      · refine js_aload_n dX12_tell_58 ?_
        refine js_get dX12_tell_59 jf_5_11 tw_967 (Or.inl rfl) ?_
        refine js_iload_n dX12_tell_62 ?_
        refine js_iald dX12_tell_63 ?_
        exact js_iret dX12_tell_64 rfl
      · refine js_aload_n dX12_tell_65 ?_
        refine js_get dX12_tell_66 jf_6_11 tw_968 (Or.inl rfl) ?_
        refine js_iload_n dX12_tell_69 ?_
        refine js_iald dX12_tell_70 ?_
        exact js_iret dX12_tell_71 rfl
  · refine js_iconst dX12_tell_11 ?_
    exact js_iret dX12_tell_12 rfl
def fX12_tell (n : Nat) : jF := jm_run 3 3 (kX12_tell n)
theorem sX12_tell (l : Launch) (n : Nat) : jr_F l (⟨"MeetingKitModel", "tell", "(II)I"⟩ : MethodName) cX12_tell 3 (Option.some Jvm.ClassFile.FieldType.int) 1 21 (fX12_tell n) := js_met (by decide +kernel) (by decide) (tX12_tell l n)
theorem dX12_outcome_0 : decode cX12_outcome 0 = .ok (.iload_n 1, 1) := by decide +kernel
theorem dX12_outcome_1 : decode cX12_outcome 1 = .ok (.aload_n 0, 1) := by decide +kernel
theorem dX12_outcome_2 : decode cX12_outcome 2 = .ok (.getfield 125, 3) := by decide +kernel
theorem dX12_outcome_5 : decode cX12_outcome 5 = .ok (.invokestatic 117, 3) := by decide +kernel
theorem dX12_outcome_8 : decode cX12_outcome 8 = .ok (.ifCond .eq 16, 3) := by decide +kernel
theorem dX12_outcome_11 : decode cX12_outcome 11 = .ok (.iload_n 2, 1) := by decide +kernel
theorem dX12_outcome_12 : decode cX12_outcome 12 = .ok (.aload_n 0, 1) := by decide +kernel
theorem dX12_outcome_13 : decode cX12_outcome 13 = .ok (.getfield 7, 3) := by decide +kernel
theorem dX12_outcome_16 : decode cX12_outcome 16 = .ok (.iload_n 1, 1) := by decide +kernel
theorem dX12_outcome_17 : decode cX12_outcome 17 = .ok (.iaload, 1) := by decide +kernel
theorem dX12_outcome_18 : decode cX12_outcome 18 = .ok (.invokestatic 117, 3) := by decide +kernel
theorem dX12_outcome_21 : decode cX12_outcome 21 = .ok (.ifCond .ne 5, 3) := by decide +kernel
theorem dX12_outcome_24 : decode cX12_outcome 24 = .ok (.iconst (-1), 1) := by decide +kernel
theorem dX12_outcome_25 : decode cX12_outcome 25 = .ok (.ireturn, 1) := by decide +kernel
theorem dX12_outcome_26 : decode cX12_outcome 26 = .ok (.bipush 20, 2) := by decide +kernel
theorem dX12_outcome_28 : decode cX12_outcome 28 = .ok (.iload_n 1, 1) := by decide +kernel
theorem dX12_outcome_29 : decode cX12_outcome 29 = .ok (.imul, 1) := by decide +kernel
theorem dX12_outcome_30 : decode cX12_outcome 30 = .ok (.iload_n 2, 1) := by decide +kernel
theorem dX12_outcome_31 : decode cX12_outcome 31 = .ok (.iadd, 1) := by decide +kernel
theorem dX12_outcome_32 : decode cX12_outcome 32 = .ok (.istore 4, 2) := by decide +kernel
theorem dX12_outcome_34 : decode cX12_outcome 34 = .ok (.iload_n 3, 1) := by decide +kernel
theorem dX12_outcome_35 : decode cX12_outcome 35 = .ok (.tableswitch 61 0 3 #[29, 37, 45, 53], 29) := by decide +kernel
theorem dX12_outcome_64 : decode cX12_outcome 64 = .ok (.aload_n 0, 1) := by decide +kernel
theorem dX12_outcome_65 : decode cX12_outcome 65 = .ok (.getfield 43, 3) := by decide +kernel
theorem dX12_outcome_68 : decode cX12_outcome 68 = .ok (.iload 4, 2) := by decide +kernel
theorem dX12_outcome_70 : decode cX12_outcome 70 = .ok (.iaload, 1) := by decide +kernel
theorem dX12_outcome_71 : decode cX12_outcome 71 = .ok (.ireturn, 1) := by decide +kernel
theorem dX12_outcome_72 : decode cX12_outcome 72 = .ok (.aload_n 0, 1) := by decide +kernel
theorem dX12_outcome_73 : decode cX12_outcome 73 = .ok (.getfield 46, 3) := by decide +kernel
theorem dX12_outcome_76 : decode cX12_outcome 76 = .ok (.iload 4, 2) := by decide +kernel
theorem dX12_outcome_78 : decode cX12_outcome 78 = .ok (.iaload, 1) := by decide +kernel
theorem dX12_outcome_79 : decode cX12_outcome 79 = .ok (.ireturn, 1) := by decide +kernel
theorem dX12_outcome_80 : decode cX12_outcome 80 = .ok (.aload_n 0, 1) := by decide +kernel
theorem dX12_outcome_81 : decode cX12_outcome 81 = .ok (.getfield 49, 3) := by decide +kernel
theorem dX12_outcome_84 : decode cX12_outcome 84 = .ok (.iload 4, 2) := by decide +kernel
theorem dX12_outcome_86 : decode cX12_outcome 86 = .ok (.iaload, 1) := by decide +kernel
theorem dX12_outcome_87 : decode cX12_outcome 87 = .ok (.ireturn, 1) := by decide +kernel
theorem dX12_outcome_88 : decode cX12_outcome 88 = .ok (.aload_n 0, 1) := by decide +kernel
theorem dX12_outcome_89 : decode cX12_outcome 89 = .ok (.getfield 52, 3) := by decide +kernel
theorem dX12_outcome_92 : decode cX12_outcome 92 = .ok (.iload 4, 2) := by decide +kernel
theorem dX12_outcome_94 : decode cX12_outcome 94 = .ok (.iaload, 1) := by decide +kernel
theorem dX12_outcome_95 : decode cX12_outcome 95 = .ok (.ireturn, 1) := by decide +kernel
theorem dX12_outcome_96 : decode cX12_outcome 96 = .ok (.iconst (-1), 1) := by decide +kernel
theorem dX12_outcome_97 : decode cX12_outcome 97 = .ok (.ireturn, 1) := by decide +kernel
def kX12_outcome_0 (n : Nat) (K : Nat → jK) : jK := jk_iload 1 <| jk_aload 0 <| jk_get [11] 0 <| jk_call (fX12_isIn n) 2 <| jk_ifeq (K 24) <| jk_iload 2 <| jk_aload 0 <| jk_get [11] 3 <| jk_iload 1 <| jk_iald <| jk_call (fX12_isIn n) 2 <| jk_ifne (jk_int 20 <| jk_iload 1 <| jk_imul <| jk_iload 2 <| jk_iadd <| jk_istore 4 <| jk_iload 3 <| jk_sw [(0, (jk_aload 0 <| jk_get [11] 14 <| jk_iload 4 <| jk_iald <| jk_iret)), (1, (jk_aload 0 <| jk_get [11] 15 <| jk_iload 4 <| jk_iald <| jk_iret)), (2, (jk_aload 0 <| jk_get [11] 16 <| jk_iload 4 <| jk_iald <| jk_iret)), (3, (jk_aload 0 <| jk_get [11] 17 <| jk_iload 4 <| jk_iald <| jk_iret))] (jk_int (-1) <| jk_iret)) <| K 24
set_option maxRecDepth 100000 in
set_option maxHeartbeats 4000000 in
theorem tX12_outcome_0 (l : Launch) (n : Nat) {K : Nat → jK} (hK : ∀ b, jr_D l cX12_outcome 5 "MeetingKitModel" (Option.some Jvm.ClassFile.FieldType.int) "outcome" 1 21 (K b) b) : jr_D l cX12_outcome 5 "MeetingKitModel" (Option.some Jvm.ClassFile.FieldType.int) "outcome" 1 21 (kX12_outcome_0 n K) 0 := by
  unfold kX12_outcome_0
  refine js_iload_n dX12_outcome_0 ?_
  refine js_aload_n dX12_outcome_1 ?_
  refine js_get dX12_outcome_2 jf_0_11 tw_962 (Or.inl rfl) ?_
  refine js_calls (sX12_isIn l n) dX12_outcome_5 (by decide) (by decide) tw_1085 tw_1086 tw_103 tw_1087 (by decide +kernel) ?_
  refine js_ifeq (tgt := 24) dX12_outcome_8 (by decide) ?_ ?_
  · exact hK 24
  · refine js_iload_n dX12_outcome_11 ?_
    refine js_aload_n dX12_outcome_12 ?_
    refine js_get dX12_outcome_13 jf_3_11 tw_965 (Or.inl rfl) ?_
    refine js_iload_n dX12_outcome_16 ?_
    refine js_iald dX12_outcome_17 ?_
    refine js_calls (sX12_isIn l n) dX12_outcome_18 (by decide) (by decide) tw_1085 tw_1086 tw_103 tw_1087 (by decide +kernel) ?_
    refine js_ifne (tgt := 26) dX12_outcome_21 (by decide) ?_ ?_
    · refine js_bipush dX12_outcome_26 ?_
      refine js_iload_n dX12_outcome_28 ?_
      refine js_imul dX12_outcome_29 ?_
      refine js_iload_n dX12_outcome_30 ?_
      refine js_iadd dX12_outcome_31 ?_
      refine js_istore dX12_outcome_32 (by decide) ?_
      refine js_iload_n dX12_outcome_34 ?_
      refine js_tsw (td := 96) dX12_outcome_35 rfl (by decide) ?_ ?_
      · refine js_iconst dX12_outcome_96 ?_
        exact js_iret dX12_outcome_97 rfl
      · refine ⟨rfl, ⟨64, by decide, ?_⟩, rfl, ⟨72, by decide, ?_⟩, rfl, ⟨80, by decide, ?_⟩, rfl, ⟨88, by decide, ?_⟩, trivial⟩
        · refine js_aload_n dX12_outcome_64 ?_
          refine js_get dX12_outcome_65 jf_14_11 tw_976 (Or.inl rfl) ?_
          refine js_iload dX12_outcome_68 ?_
          refine js_iald dX12_outcome_70 ?_
          exact js_iret dX12_outcome_71 rfl
        · refine js_aload_n dX12_outcome_72 ?_
          refine js_get dX12_outcome_73 jf_15_11 tw_977 (Or.inl rfl) ?_
          refine js_iload dX12_outcome_76 ?_
          refine js_iald dX12_outcome_78 ?_
          exact js_iret dX12_outcome_79 rfl
        · refine js_aload_n dX12_outcome_80 ?_
          refine js_get dX12_outcome_81 jf_16_11 tw_978 (Or.inl rfl) ?_
          refine js_iload dX12_outcome_84 ?_
          refine js_iald dX12_outcome_86 ?_
          exact js_iret dX12_outcome_87 rfl
        · refine js_aload_n dX12_outcome_88 ?_
          refine js_get dX12_outcome_89 jf_17_11 tw_979 (Or.inl rfl) ?_
          refine js_iload dX12_outcome_92 ?_
          refine js_iald dX12_outcome_94 ?_
          exact js_iret dX12_outcome_95 rfl
    · exact hK 24
def kX12_outcome_24 (n : Nat) (K : Nat → jK) : jK := jk_kill 0 <| jk_kill 1 <| jk_kill 2 <| jk_kill 3 <| jk_int (-1) <| jk_iret
set_option maxRecDepth 100000 in
set_option maxHeartbeats 4000000 in
theorem tX12_outcome_24 (l : Launch) (n : Nat) {K : Nat → jK} (hK : ∀ b, jr_D l cX12_outcome 5 "MeetingKitModel" (Option.some Jvm.ClassFile.FieldType.int) "outcome" 1 21 (K b) b) : jr_D l cX12_outcome 5 "MeetingKitModel" (Option.some Jvm.ClassFile.FieldType.int) "outcome" 1 21 (kX12_outcome_24 n K) 24 := by
  unfold kX12_outcome_24
  refine js_kill ?_
  refine js_kill ?_
  refine js_kill ?_
  refine js_kill ?_
  refine js_iconst dX12_outcome_24 ?_
  exact js_iret dX12_outcome_25 rfl
def kX12_outcome_b (n : Nat) (K : Nat → jK) (b : Nat) : jK := if b = 0 then kX12_outcome_0 n K else if b = 24 then kX12_outcome_24 n K else jk_none
def kX12_outcome (n : Nat) : jK := jk_fix (kX12_outcome_b n) n 0
theorem tX12_outcome (l : Launch) (n : Nat) : jr_D l cX12_outcome 5 "MeetingKitModel" (Option.some Jvm.ClassFile.FieldType.int) "outcome" 1 21 (kX12_outcome n) 0 := js_fix (F := kX12_outcome_b n) (fun K hK b => js_blk (tX12_outcome_0 l n hK) (js_blk (tX12_outcome_24 l n hK) (js_none))) n 0
def fX12_outcome (n : Nat) : jF := jm_run 4 5 (kX12_outcome n)
theorem sX12_outcome (l : Launch) (n : Nat) : jr_F l (⟨"MeetingKitModel", "outcome", "(III)I"⟩ : MethodName) cX12_outcome 5 (Option.some Jvm.ClassFile.FieldType.int) 1 21 (fX12_outcome n) := js_met (by decide +kernel) (by decide) (tX12_outcome l n)
theorem dX12_partyCount_0 : decode cX12_partyCount 0 = .ok (.iconst 0, 1) := by decide +kernel
theorem dX12_partyCount_1 : decode cX12_partyCount 1 = .ok (.istore_n 2, 1) := by decide +kernel
theorem dX12_partyCount_2 : decode cX12_partyCount 2 = .ok (.iconst 0, 1) := by decide +kernel
theorem dX12_partyCount_3 : decode cX12_partyCount 3 = .ok (.istore_n 3, 1) := by decide +kernel
theorem dX12_partyCount_4 : decode cX12_partyCount 4 = .ok (.iload_n 3, 1) := by decide +kernel
theorem dX12_partyCount_5 : decode cX12_partyCount 5 = .ok (.bipush 16, 2) := by decide +kernel
theorem dX12_partyCount_7 : decode cX12_partyCount 7 = .ok (.if_icmp .ge 32, 3) := by decide +kernel
theorem dX12_partyCount_10 : decode cX12_partyCount 10 = .ok (.iload_n 2, 1) := by decide +kernel
theorem dX12_partyCount_11 : decode cX12_partyCount 11 = .ok (.aload_n 0, 1) := by decide +kernel
theorem dX12_partyCount_12 : decode cX12_partyCount 12 = .ok (.getfield 91, 3) := by decide +kernel
theorem dX12_partyCount_15 : decode cX12_partyCount 15 = .ok (.bipush 16, 2) := by decide +kernel
theorem dX12_partyCount_17 : decode cX12_partyCount 17 = .ok (.iload_n 1, 1) := by decide +kernel
theorem dX12_partyCount_18 : decode cX12_partyCount 18 = .ok (.imul, 1) := by decide +kernel
theorem dX12_partyCount_19 : decode cX12_partyCount 19 = .ok (.iload_n 3, 1) := by decide +kernel
theorem dX12_partyCount_20 : decode cX12_partyCount 20 = .ok (.iadd, 1) := by decide +kernel
theorem dX12_partyCount_21 : decode cX12_partyCount 21 = .ok (.iaload, 1) := by decide +kernel
theorem dX12_partyCount_22 : decode cX12_partyCount 22 = .ok (.iconst 1, 1) := by decide +kernel
theorem dX12_partyCount_23 : decode cX12_partyCount 23 = .ok (.if_icmp .ne 7, 3) := by decide +kernel
theorem dX12_partyCount_26 : decode cX12_partyCount 26 = .ok (.iconst 1, 1) := by decide +kernel
theorem dX12_partyCount_27 : decode cX12_partyCount 27 = .ok (.goto 4, 3) := by decide +kernel
theorem dX12_partyCount_30 : decode cX12_partyCount 30 = .ok (.iconst 0, 1) := by decide +kernel
theorem dX12_partyCount_31 : decode cX12_partyCount 31 = .ok (.iadd, 1) := by decide +kernel
theorem dX12_partyCount_32 : decode cX12_partyCount 32 = .ok (.istore_n 2, 1) := by decide +kernel
theorem dX12_partyCount_33 : decode cX12_partyCount 33 = .ok (.iinc 3 1, 3) := by decide +kernel
theorem dX12_partyCount_36 : decode cX12_partyCount 36 = .ok (.goto (-32), 3) := by decide +kernel
theorem dX12_partyCount_39 : decode cX12_partyCount 39 = .ok (.iload_n 2, 1) := by decide +kernel
theorem dX12_partyCount_40 : decode cX12_partyCount 40 = .ok (.ireturn, 1) := by decide +kernel
def kX12_partyCount_0 (n : Nat) (K : Nat → jK) : jK := jk_int 0 <| jk_istore 2 <| jk_int 0 <| jk_istore 3 <| K 4
set_option maxRecDepth 100000 in
set_option maxHeartbeats 4000000 in
theorem tX12_partyCount_0 (l : Launch) (n : Nat) {K : Nat → jK} (hK : ∀ b, jr_D l cX12_partyCount 4 "MeetingKitModel" (Option.some Jvm.ClassFile.FieldType.int) "partyCount" 0 0 (K b) b) : jr_D l cX12_partyCount 4 "MeetingKitModel" (Option.some Jvm.ClassFile.FieldType.int) "partyCount" 0 0 (kX12_partyCount_0 n K) 0 := by
  unfold kX12_partyCount_0
  refine js_iconst dX12_partyCount_0 ?_
  refine js_istore_n dX12_partyCount_1 (by decide) ?_
  refine js_iconst dX12_partyCount_2 ?_
  refine js_istore_n dX12_partyCount_3 (by decide) ?_
  exact hK 4
def kX12_partyCount_4 (n : Nat) (K : Nat → jK) : jK := jk_iload 3 <| jk_int 16 <| jk_icmpge (jk_iload 2 <| jk_iret) <| jk_iload 2 <| jk_aload 0 <| jk_get [11] 30 <| jk_int 16 <| jk_iload 1 <| jk_imul <| jk_iload 3 <| jk_iadd <| jk_iald <| jk_int 1 <| jk_icmpne (jk_int 0 <| K 31) <| jk_int 1 <| K 31
set_option maxRecDepth 100000 in
set_option maxHeartbeats 4000000 in
theorem tX12_partyCount_4 (l : Launch) (n : Nat) {K : Nat → jK} (hK : ∀ b, jr_D l cX12_partyCount 4 "MeetingKitModel" (Option.some Jvm.ClassFile.FieldType.int) "partyCount" 0 0 (K b) b) : jr_D l cX12_partyCount 4 "MeetingKitModel" (Option.some Jvm.ClassFile.FieldType.int) "partyCount" 0 0 (kX12_partyCount_4 n K) 4 := by
  unfold kX12_partyCount_4
  refine js_iload_n dX12_partyCount_4 ?_
  refine js_bipush dX12_partyCount_5 ?_
  refine js_icmpge (tgt := 39) dX12_partyCount_7 (by decide) ?_ ?_
  · refine js_iload_n dX12_partyCount_39 ?_
    exact js_iret dX12_partyCount_40 rfl
  · refine js_iload_n dX12_partyCount_10 ?_
    refine js_aload_n dX12_partyCount_11 ?_
    refine js_get dX12_partyCount_12 jf_30_11 tw_992 (Or.inl rfl) ?_
    refine js_bipush dX12_partyCount_15 ?_
    refine js_iload_n dX12_partyCount_17 ?_
    refine js_imul dX12_partyCount_18 ?_
    refine js_iload_n dX12_partyCount_19 ?_
    refine js_iadd dX12_partyCount_20 ?_
    refine js_iald dX12_partyCount_21 ?_
    refine js_iconst dX12_partyCount_22 ?_
    refine js_icmpne (tgt := 30) dX12_partyCount_23 (by decide) ?_ ?_
    · refine js_iconst dX12_partyCount_30 ?_
      exact hK 31
    · refine js_iconst dX12_partyCount_26 ?_
      refine js_goto (tgt := 31) dX12_partyCount_27 (by decide) ?_
      exact hK 31
def kX12_partyCount_31 (n : Nat) (K : Nat → jK) : jK := jk_kill 2 <| jk_iadd <| jk_istore 2 <| jk_iinc 3 1 <| K 4
set_option maxRecDepth 100000 in
set_option maxHeartbeats 4000000 in
theorem tX12_partyCount_31 (l : Launch) (n : Nat) {K : Nat → jK} (hK : ∀ b, jr_D l cX12_partyCount 4 "MeetingKitModel" (Option.some Jvm.ClassFile.FieldType.int) "partyCount" 0 0 (K b) b) : jr_D l cX12_partyCount 4 "MeetingKitModel" (Option.some Jvm.ClassFile.FieldType.int) "partyCount" 0 0 (kX12_partyCount_31 n K) 31 := by
  unfold kX12_partyCount_31
  refine js_kill ?_
  refine js_iadd dX12_partyCount_31 ?_
  refine js_istore_n dX12_partyCount_32 (by decide) ?_
  refine js_iinc dX12_partyCount_33 (by decide) ?_
  refine js_goto (tgt := 4) dX12_partyCount_36 (by decide) ?_
  exact hK 4
def kX12_partyCount_b (n : Nat) (K : Nat → jK) (b : Nat) : jK := if b = 0 then kX12_partyCount_0 n K else if b = 4 then kX12_partyCount_4 n K else if b = 31 then kX12_partyCount_31 n K else jk_none
def kX12_partyCount (n : Nat) : jK := jk_fix (kX12_partyCount_b n) n 0
theorem tX12_partyCount (l : Launch) (n : Nat) : jr_D l cX12_partyCount 4 "MeetingKitModel" (Option.some Jvm.ClassFile.FieldType.int) "partyCount" 0 0 (kX12_partyCount n) 0 := js_fix (F := kX12_partyCount_b n) (fun K hK b => js_blk (tX12_partyCount_0 l n hK) (js_blk (tX12_partyCount_4 l n hK) (js_blk (tX12_partyCount_31 l n hK) (js_none)))) n 0
def fX12_partyCount (n : Nat) : jF := jm_run 2 4 (kX12_partyCount n)
theorem sX12_partyCount (l : Launch) (n : Nat) : jr_F l (⟨"MeetingKitModel", "partyCount", "(I)I"⟩ : MethodName) cX12_partyCount 4 (Option.some Jvm.ClassFile.FieldType.int) 0 0 (fX12_partyCount n) := js_met (by decide +kernel) (by decide) (tX12_partyCount l n)
theorem dX12_third_0 : decode cX12_third 0 = .ok (.aload_n 0, 1) := by decide +kernel
theorem dX12_third_1 : decode cX12_third 1 = .ok (.getfield 55, 3) := by decide +kernel
theorem dX12_third_4 : decode cX12_third 4 = .ok (.iload_n 1, 1) := by decide +kernel
theorem dX12_third_5 : decode cX12_third 5 = .ok (.iaload, 1) := by decide +kernel
theorem dX12_third_6 : decode cX12_third 6 = .ok (.tableswitch 87 3 11 #[50, 57, 59, 87, 87, 65, 87, 65, 72], 50) := by decide +kernel
theorem dX12_third_56 : decode cX12_third 56 = .ok (.aload_n 0, 1) := by decide +kernel
theorem dX12_third_57 : decode cX12_third 57 = .ok (.getfield 70, 3) := by decide +kernel
theorem dX12_third_60 : decode cX12_third 60 = .ok (.iload_n 1, 1) := by decide +kernel
theorem dX12_third_61 : decode cX12_third 61 = .ok (.iaload, 1) := by decide +kernel
theorem dX12_third_62 : decode cX12_third 62 = .ok (.ireturn, 1) := by decide +kernel
theorem dX12_third_63 : decode cX12_third 63 = .ok (.iconst 0, 1) := by decide +kernel
theorem dX12_third_64 : decode cX12_third 64 = .ok (.ireturn, 1) := by decide +kernel
theorem dX12_third_65 : decode cX12_third 65 = .ok (.aload_n 0, 1) := by decide +kernel
theorem dX12_third_66 : decode cX12_third 66 = .ok (.iload_n 1, 1) := by decide +kernel
theorem dX12_third_67 : decode cX12_third 67 = .ok (.invokevirtual 183, 3) := by decide +kernel
theorem dX12_third_70 : decode cX12_third 70 = .ok (.ireturn, 1) := by decide +kernel
theorem dX12_third_71 : decode cX12_third 71 = .ok (.aload_n 0, 1) := by decide +kernel
theorem dX12_third_72 : decode cX12_third 72 = .ok (.getfield 76, 3) := by decide +kernel
theorem dX12_third_75 : decode cX12_third 75 = .ok (.iload_n 1, 1) := by decide +kernel
theorem dX12_third_76 : decode cX12_third 76 = .ok (.iaload, 1) := by decide +kernel
theorem dX12_third_77 : decode cX12_third 77 = .ok (.ireturn, 1) := by decide +kernel
theorem dX12_third_78 : decode cX12_third 78 = .ok (.aload_n 0, 1) := by decide +kernel
theorem dX12_third_79 : decode cX12_third 79 = .ok (.getfield 79, 3) := by decide +kernel
theorem dX12_third_82 : decode cX12_third 82 = .ok (.iload_n 1, 1) := by decide +kernel
theorem dX12_third_83 : decode cX12_third 83 = .ok (.iaload, 1) := by decide +kernel
theorem dX12_third_84 : decode cX12_third 84 = .ok (.ifCond .ge 7, 3) := by decide +kernel
theorem dX12_third_87 : decode cX12_third 87 = .ok (.iconst 0, 1) := by decide +kernel
theorem dX12_third_88 : decode cX12_third 88 = .ok (.goto 4, 3) := by decide +kernel
theorem dX12_third_91 : decode cX12_third 91 = .ok (.iconst 1, 1) := by decide +kernel
theorem dX12_third_92 : decode cX12_third 92 = .ok (.ireturn, 1) := by decide +kernel
theorem dX12_third_93 : decode cX12_third 93 = .ok (.aload_n 0, 1) := by decide +kernel
theorem dX12_third_94 : decode cX12_third 94 = .ok (.getfield 73, 3) := by decide +kernel
theorem dX12_third_97 : decode cX12_third 97 = .ok (.iload_n 1, 1) := by decide +kernel
theorem dX12_third_98 : decode cX12_third 98 = .ok (.iaload, 1) := by decide +kernel
theorem dX12_third_99 : decode cX12_third 99 = .ok (.ireturn, 1) := by decide +kernel
def kX12_third_0 (n : Nat) (K : Nat → jK) : jK := jk_aload 0 <| jk_get [11] 18 <| jk_iload 1 <| jk_iald <| jk_sw [(3, (jk_aload 0 <| jk_get [11] 23 <| jk_iload 1 <| jk_iald <| jk_iret)), (4, (jk_int 0 <| jk_iret)), (5, (jk_aload 0 <| jk_iload 1 <| jk_vcall [(11, fX12_lookers n)] 1 <| jk_iret)), (6, (K 93)), (7, (K 93)), (8, (K 71)), (9, (K 93)), (10, (K 71)), (11, (jk_aload 0 <| jk_get [11] 26 <| jk_iload 1 <| jk_iald <| jk_ifge (jk_int 1 <| K 92) <| jk_int 0 <| K 92))] (K 93)
set_option maxRecDepth 100000 in
set_option maxHeartbeats 4000000 in
theorem tX12_third_0 (l : Launch) (n : Nat) {K : Nat → jK} (hK : ∀ b, jr_D l cX12_third 2 "MeetingKitModel" (Option.some Jvm.ClassFile.FieldType.int) "third" 1 23 (K b) b) : jr_D l cX12_third 2 "MeetingKitModel" (Option.some Jvm.ClassFile.FieldType.int) "third" 1 23 (kX12_third_0 n K) 0 := by
  unfold kX12_third_0
  refine js_aload_n dX12_third_0 ?_
  refine js_get dX12_third_1 jf_18_11 tw_980 (Or.inl rfl) ?_
  refine js_iload_n dX12_third_4 ?_
  refine js_iald dX12_third_5 ?_
  refine js_tsw (td := 93) dX12_third_6 rfl (by decide) ?_ ?_
  · exact hK 93
  · refine ⟨rfl, ⟨56, by decide, ?_⟩, rfl, ⟨63, by decide, ?_⟩, rfl, ⟨65, by decide, ?_⟩, rfl, ⟨93, by decide, ?_⟩, rfl, ⟨93, by decide, ?_⟩, rfl, ⟨71, by decide, ?_⟩, rfl, ⟨93, by decide, ?_⟩, rfl, ⟨71, by decide, ?_⟩, rfl, ⟨78, by decide, ?_⟩, trivial⟩
    · refine js_aload_n dX12_third_56 ?_
      refine js_get dX12_third_57 jf_23_11 tw_985 (Or.inl rfl) ?_
      refine js_iload_n dX12_third_60 ?_
      refine js_iald dX12_third_61 ?_
      exact js_iret dX12_third_62 rfl
    · refine js_iconst dX12_third_63 ?_
      exact js_iret dX12_third_64 rfl
    · refine js_aload_n dX12_third_65 ?_
      refine js_iload_n dX12_third_66 ?_
      refine js_callv dX12_third_67 (⟨⟨_, _, _, _, _, _, _, ⟨rfl, (show (11 : Nat) < 20 by decide), sX12_lookers l n, by decide, by decide, tw_1180, tw_103, tw_1179⟩, Or.inl ⟨by decide +kernel, by decide +kernel, by decide +kernel, tw_1177, tw_76⟩⟩, trivial⟩) ?_
      exact js_iret dX12_third_70 rfl
    · exact hK 93
    · exact hK 93
    · exact hK 71
    · exact hK 93
    · exact hK 71
    · refine js_aload_n dX12_third_78 ?_
      refine js_get dX12_third_79 jf_26_11 tw_988 (Or.inl rfl) ?_
      refine js_iload_n dX12_third_82 ?_
      refine js_iald dX12_third_83 ?_
      refine js_ifge (tgt := 91) dX12_third_84 (by decide) ?_ ?_
      · refine js_iconst dX12_third_91 ?_
        exact hK 92
      · refine js_iconst dX12_third_87 ?_
        refine js_goto (tgt := 92) dX12_third_88 (by decide) ?_
        exact hK 92
def kX12_third_71 (n : Nat) (K : Nat → jK) : jK := jk_aload 0 <| jk_get [11] 25 <| jk_iload 1 <| jk_iald <| jk_iret
set_option maxRecDepth 100000 in
set_option maxHeartbeats 4000000 in
theorem tX12_third_71 (l : Launch) (n : Nat) {K : Nat → jK} (hK : ∀ b, jr_D l cX12_third 2 "MeetingKitModel" (Option.some Jvm.ClassFile.FieldType.int) "third" 1 23 (K b) b) : jr_D l cX12_third 2 "MeetingKitModel" (Option.some Jvm.ClassFile.FieldType.int) "third" 1 23 (kX12_third_71 n K) 71 := by
  unfold kX12_third_71
  refine js_aload_n dX12_third_71 ?_
  refine js_get dX12_third_72 jf_25_11 tw_987 (Or.inl rfl) ?_
  refine js_iload_n dX12_third_75 ?_
  refine js_iald dX12_third_76 ?_
  exact js_iret dX12_third_77 rfl
def kX12_third_92 (n : Nat) (K : Nat → jK) : jK := jk_kill 0 <| jk_kill 1 <| jk_iret
set_option maxRecDepth 100000 in
set_option maxHeartbeats 4000000 in
theorem tX12_third_92 (l : Launch) (n : Nat) {K : Nat → jK} (hK : ∀ b, jr_D l cX12_third 2 "MeetingKitModel" (Option.some Jvm.ClassFile.FieldType.int) "third" 1 23 (K b) b) : jr_D l cX12_third 2 "MeetingKitModel" (Option.some Jvm.ClassFile.FieldType.int) "third" 1 23 (kX12_third_92 n K) 92 := by
  unfold kX12_third_92
  refine js_kill ?_
  refine js_kill ?_
  exact js_iret dX12_third_92 rfl
def kX12_third_93 (n : Nat) (K : Nat → jK) : jK := jk_aload 0 <| jk_get [11] 24 <| jk_iload 1 <| jk_iald <| jk_iret
set_option maxRecDepth 100000 in
set_option maxHeartbeats 4000000 in
theorem tX12_third_93 (l : Launch) (n : Nat) {K : Nat → jK} (hK : ∀ b, jr_D l cX12_third 2 "MeetingKitModel" (Option.some Jvm.ClassFile.FieldType.int) "third" 1 23 (K b) b) : jr_D l cX12_third 2 "MeetingKitModel" (Option.some Jvm.ClassFile.FieldType.int) "third" 1 23 (kX12_third_93 n K) 93 := by
  unfold kX12_third_93
  refine js_aload_n dX12_third_93 ?_
  refine js_get dX12_third_94 jf_24_11 tw_986 (Or.inl rfl) ?_
  refine js_iload_n dX12_third_97 ?_
  refine js_iald dX12_third_98 ?_
  exact js_iret dX12_third_99 rfl
def kX12_third_b (n : Nat) (K : Nat → jK) (b : Nat) : jK := if b = 0 then kX12_third_0 n K else if b = 71 then kX12_third_71 n K else if b = 92 then kX12_third_92 n K else if b = 93 then kX12_third_93 n K else jk_none
def kX12_third (n : Nat) : jK := jk_fix (kX12_third_b n) n 0
theorem tX12_third (l : Launch) (n : Nat) : jr_D l cX12_third 2 "MeetingKitModel" (Option.some Jvm.ClassFile.FieldType.int) "third" 1 23 (kX12_third n) 0 := js_fix (F := kX12_third_b n) (fun K hK b => js_blk (tX12_third_0 l n hK) (js_blk (tX12_third_71 l n hK) (js_blk (tX12_third_92 l n hK) (js_blk (tX12_third_93 l n hK) (js_none))))) n 0
def fX12_third (n : Nat) : jF := jm_run 2 2 (kX12_third n)
theorem sX12_third (l : Launch) (n : Nat) : jr_F l (⟨"MeetingKitModel", "third", "(I)I"⟩ : MethodName) cX12_third 2 (Option.some Jvm.ClassFile.FieldType.int) 1 23 (fX12_third n) := js_met (by decide +kernel) (by decide) (tX12_third l n)
theorem dX12_fourth_0 : decode cX12_fourth 0 = .ok (.aload_n 0, 1) := by decide +kernel
theorem dX12_fourth_1 : decode cX12_fourth 1 = .ok (.getfield 55, 3) := by decide +kernel
theorem dX12_fourth_4 : decode cX12_fourth 4 = .ok (.iload_n 1, 1) := by decide +kernel
theorem dX12_fourth_5 : decode cX12_fourth 5 = .ok (.iaload, 1) := by decide +kernel
theorem dX12_fourth_6 : decode cX12_fourth 6 = .ok (.tableswitch 77 3 11 #[50, 77, 57, 77, 64, 64, 71, 77, 57], 50) := by decide +kernel
theorem dX12_fourth_56 : decode cX12_fourth 56 = .ok (.aload_n 0, 1) := by decide +kernel
theorem dX12_fourth_57 : decode cX12_fourth 57 = .ok (.getfield 76, 3) := by decide +kernel
theorem dX12_fourth_60 : decode cX12_fourth 60 = .ok (.iload_n 1, 1) := by decide +kernel
theorem dX12_fourth_61 : decode cX12_fourth 61 = .ok (.iaload, 1) := by decide +kernel
theorem dX12_fourth_62 : decode cX12_fourth 62 = .ok (.ireturn, 1) := by decide +kernel
theorem dX12_fourth_63 : decode cX12_fourth 63 = .ok (.aload_n 0, 1) := by decide +kernel
theorem dX12_fourth_64 : decode cX12_fourth 64 = .ok (.getfield 79, 3) := by decide +kernel
theorem dX12_fourth_67 : decode cX12_fourth 67 = .ok (.iload_n 1, 1) := by decide +kernel
theorem dX12_fourth_68 : decode cX12_fourth 68 = .ok (.iaload, 1) := by decide +kernel
theorem dX12_fourth_69 : decode cX12_fourth 69 = .ok (.ireturn, 1) := by decide +kernel
theorem dX12_fourth_70 : decode cX12_fourth 70 = .ok (.aload_n 0, 1) := by decide +kernel
theorem dX12_fourth_71 : decode cX12_fourth 71 = .ok (.getfield 82, 3) := by decide +kernel
theorem dX12_fourth_74 : decode cX12_fourth 74 = .ok (.iload_n 1, 1) := by decide +kernel
theorem dX12_fourth_75 : decode cX12_fourth 75 = .ok (.iaload, 1) := by decide +kernel
theorem dX12_fourth_76 : decode cX12_fourth 76 = .ok (.ireturn, 1) := by decide +kernel
theorem dX12_fourth_77 : decode cX12_fourth 77 = .ok (.aload_n 0, 1) := by decide +kernel
theorem dX12_fourth_78 : decode cX12_fourth 78 = .ok (.iload_n 1, 1) := by decide +kernel
theorem dX12_fourth_79 : decode cX12_fourth 79 = .ok (.invokevirtual 262, 3) := by decide +kernel
theorem dX12_fourth_82 : decode cX12_fourth 82 = .ok (.ireturn, 1) := by decide +kernel
theorem dX12_fourth_83 : decode cX12_fourth 83 = .ok (.iconst 0, 1) := by decide +kernel
theorem dX12_fourth_84 : decode cX12_fourth 84 = .ok (.ireturn, 1) := by decide +kernel
def kX12_fourth_0 (n : Nat) (K : Nat → jK) : jK := jk_aload 0 <| jk_get [11] 18 <| jk_iload 1 <| jk_iald <| jk_sw [(3, (jk_aload 0 <| jk_get [11] 25 <| jk_iload 1 <| jk_iald <| jk_iret)), (4, (K 83)), (5, (K 63)), (6, (K 83)), (7, (K 70)), (8, (K 70)), (9, (jk_aload 0 <| jk_iload 1 <| jk_vcall [(11, fX12_partyCount n)] 1 <| jk_iret)), (10, (K 83)), (11, (K 63))] (K 83)
set_option maxRecDepth 100000 in
set_option maxHeartbeats 4000000 in
theorem tX12_fourth_0 (l : Launch) (n : Nat) {K : Nat → jK} (hK : ∀ b, jr_D l cX12_fourth 2 "MeetingKitModel" (Option.some Jvm.ClassFile.FieldType.int) "fourth" 1 23 (K b) b) : jr_D l cX12_fourth 2 "MeetingKitModel" (Option.some Jvm.ClassFile.FieldType.int) "fourth" 1 23 (kX12_fourth_0 n K) 0 := by
  unfold kX12_fourth_0
  refine js_aload_n dX12_fourth_0 ?_
  refine js_get dX12_fourth_1 jf_18_11 tw_980 (Or.inl rfl) ?_
  refine js_iload_n dX12_fourth_4 ?_
  refine js_iald dX12_fourth_5 ?_
  refine js_tsw (td := 83) dX12_fourth_6 rfl (by decide) ?_ ?_
  · exact hK 83
  · refine ⟨rfl, ⟨56, by decide, ?_⟩, rfl, ⟨83, by decide, ?_⟩, rfl, ⟨63, by decide, ?_⟩, rfl, ⟨83, by decide, ?_⟩, rfl, ⟨70, by decide, ?_⟩, rfl, ⟨70, by decide, ?_⟩, rfl, ⟨77, by decide, ?_⟩, rfl, ⟨83, by decide, ?_⟩, rfl, ⟨63, by decide, ?_⟩, trivial⟩
    · refine js_aload_n dX12_fourth_56 ?_
      refine js_get dX12_fourth_57 jf_25_11 tw_987 (Or.inl rfl) ?_
      refine js_iload_n dX12_fourth_60 ?_
      refine js_iald dX12_fourth_61 ?_
      exact js_iret dX12_fourth_62 rfl
    · exact hK 83
    · exact hK 63
    · exact hK 83
    · exact hK 70
    · exact hK 70
    · refine js_aload_n dX12_fourth_77 ?_
      refine js_iload_n dX12_fourth_78 ?_
      refine js_callv dX12_fourth_79 (⟨⟨_, _, _, _, _, _, _, ⟨rfl, (show (11 : Nat) < 20 by decide), sX12_partyCount l n, by decide, by decide, tw_1288, tw_103, tw_1287⟩, Or.inl ⟨by decide +kernel, by decide +kernel, by decide +kernel, tw_1285, tw_100⟩⟩, trivial⟩) ?_
      exact js_iret dX12_fourth_82 rfl
    · exact hK 83
    · exact hK 63
def kX12_fourth_63 (n : Nat) (K : Nat → jK) : jK := jk_aload 0 <| jk_get [11] 26 <| jk_iload 1 <| jk_iald <| jk_iret
set_option maxRecDepth 100000 in
set_option maxHeartbeats 4000000 in
theorem tX12_fourth_63 (l : Launch) (n : Nat) {K : Nat → jK} (hK : ∀ b, jr_D l cX12_fourth 2 "MeetingKitModel" (Option.some Jvm.ClassFile.FieldType.int) "fourth" 1 23 (K b) b) : jr_D l cX12_fourth 2 "MeetingKitModel" (Option.some Jvm.ClassFile.FieldType.int) "fourth" 1 23 (kX12_fourth_63 n K) 63 := by
  unfold kX12_fourth_63
  refine js_aload_n dX12_fourth_63 ?_
  refine js_get dX12_fourth_64 jf_26_11 tw_988 (Or.inl rfl) ?_
  refine js_iload_n dX12_fourth_67 ?_
  refine js_iald dX12_fourth_68 ?_
  exact js_iret dX12_fourth_69 rfl
def kX12_fourth_70 (n : Nat) (K : Nat → jK) : jK := jk_aload 0 <| jk_get [11] 27 <| jk_iload 1 <| jk_iald <| jk_iret
set_option maxRecDepth 100000 in
set_option maxHeartbeats 4000000 in
theorem tX12_fourth_70 (l : Launch) (n : Nat) {K : Nat → jK} (hK : ∀ b, jr_D l cX12_fourth 2 "MeetingKitModel" (Option.some Jvm.ClassFile.FieldType.int) "fourth" 1 23 (K b) b) : jr_D l cX12_fourth 2 "MeetingKitModel" (Option.some Jvm.ClassFile.FieldType.int) "fourth" 1 23 (kX12_fourth_70 n K) 70 := by
  unfold kX12_fourth_70
  refine js_aload_n dX12_fourth_70 ?_
  refine js_get dX12_fourth_71 jf_27_11 tw_989 (Or.inl rfl) ?_
  refine js_iload_n dX12_fourth_74 ?_
  refine js_iald dX12_fourth_75 ?_
  exact js_iret dX12_fourth_76 rfl
def kX12_fourth_83 (n : Nat) (K : Nat → jK) : jK := jk_kill 0 <| jk_kill 1 <| jk_int 0 <| jk_iret
set_option maxRecDepth 100000 in
set_option maxHeartbeats 4000000 in
theorem tX12_fourth_83 (l : Launch) (n : Nat) {K : Nat → jK} (hK : ∀ b, jr_D l cX12_fourth 2 "MeetingKitModel" (Option.some Jvm.ClassFile.FieldType.int) "fourth" 1 23 (K b) b) : jr_D l cX12_fourth 2 "MeetingKitModel" (Option.some Jvm.ClassFile.FieldType.int) "fourth" 1 23 (kX12_fourth_83 n K) 83 := by
  unfold kX12_fourth_83
  refine js_kill ?_
  refine js_kill ?_
  refine js_iconst dX12_fourth_83 ?_
  exact js_iret dX12_fourth_84 rfl
def kX12_fourth_b (n : Nat) (K : Nat → jK) (b : Nat) : jK := if b = 0 then kX12_fourth_0 n K else if b = 63 then kX12_fourth_63 n K else if b = 70 then kX12_fourth_70 n K else if b = 83 then kX12_fourth_83 n K else jk_none
def kX12_fourth (n : Nat) : jK := jk_fix (kX12_fourth_b n) n 0
theorem tX12_fourth (l : Launch) (n : Nat) : jr_D l cX12_fourth 2 "MeetingKitModel" (Option.some Jvm.ClassFile.FieldType.int) "fourth" 1 23 (kX12_fourth n) 0 := js_fix (F := kX12_fourth_b n) (fun K hK b => js_blk (tX12_fourth_0 l n hK) (js_blk (tX12_fourth_63 l n hK) (js_blk (tX12_fourth_70 l n hK) (js_blk (tX12_fourth_83 l n hK) (js_none))))) n 0
def fX12_fourth (n : Nat) : jF := jm_run 2 2 (kX12_fourth n)
theorem sX12_fourth (l : Launch) (n : Nat) : jr_F l (⟨"MeetingKitModel", "fourth", "(I)I"⟩ : MethodName) cX12_fourth 2 (Option.some Jvm.ClassFile.FieldType.int) 1 23 (fX12_fourth n) := js_met (by decide +kernel) (by decide) (tX12_fourth l n)
theorem dX12_state_0 : decode cX12_state 0 = .ok (.iload_n 1, 1) := by decide +kernel
theorem dX12_state_1 : decode cX12_state 1 = .ok (.aload_n 0, 1) := by decide +kernel
theorem dX12_state_2 : decode cX12_state 2 = .ok (.getfield 113, 3) := by decide +kernel
theorem dX12_state_5 : decode cX12_state 5 = .ok (.invokestatic 117, 3) := by decide +kernel
theorem dX12_state_8 : decode cX12_state 8 = .ok (.ifCond .ne 5, 3) := by decide +kernel
theorem dX12_state_11 : decode cX12_state 11 = .ok (.iconst (-1), 1) := by decide +kernel
theorem dX12_state_12 : decode cX12_state 12 = .ok (.ireturn, 1) := by decide +kernel
theorem dX12_state_13 : decode cX12_state 13 = .ok (.iload_n 2, 1) := by decide +kernel
theorem dX12_state_14 : decode cX12_state 14 = .ok (.tableswitch 67 0 4 #[34, 41, 48, 55, 61], 34) := by decide +kernel
theorem dX12_state_48 : decode cX12_state 48 = .ok (.aload_n 0, 1) := by decide +kernel
theorem dX12_state_49 : decode cX12_state 49 = .ok (.getfield 55, 3) := by decide +kernel
theorem dX12_state_52 : decode cX12_state 52 = .ok (.iload_n 1, 1) := by decide +kernel
theorem dX12_state_53 : decode cX12_state 53 = .ok (.iaload, 1) := by decide +kernel
theorem dX12_state_54 : decode cX12_state 54 = .ok (.ireturn, 1) := by decide +kernel
theorem dX12_state_55 : decode cX12_state 55 = .ok (.aload_n 0, 1) := by decide +kernel
theorem dX12_state_56 : decode cX12_state 56 = .ok (.getfield 70, 3) := by decide +kernel
theorem dX12_state_59 : decode cX12_state 59 = .ok (.iload_n 1, 1) := by decide +kernel
theorem dX12_state_60 : decode cX12_state 60 = .ok (.iaload, 1) := by decide +kernel
theorem dX12_state_61 : decode cX12_state 61 = .ok (.ireturn, 1) := by decide +kernel
theorem dX12_state_62 : decode cX12_state 62 = .ok (.aload_n 0, 1) := by decide +kernel
theorem dX12_state_63 : decode cX12_state 63 = .ok (.getfield 61, 3) := by decide +kernel
theorem dX12_state_66 : decode cX12_state 66 = .ok (.iload_n 1, 1) := by decide +kernel
theorem dX12_state_67 : decode cX12_state 67 = .ok (.iaload, 1) := by decide +kernel
theorem dX12_state_68 : decode cX12_state 68 = .ok (.ireturn, 1) := by decide +kernel
theorem dX12_state_69 : decode cX12_state 69 = .ok (.aload_n 0, 1) := by decide +kernel
theorem dX12_state_70 : decode cX12_state 70 = .ok (.iload_n 1, 1) := by decide +kernel
theorem dX12_state_71 : decode cX12_state 71 = .ok (.invokevirtual 265, 3) := by decide +kernel
theorem dX12_state_74 : decode cX12_state 74 = .ok (.ireturn, 1) := by decide +kernel
theorem dX12_state_75 : decode cX12_state 75 = .ok (.aload_n 0, 1) := by decide +kernel
theorem dX12_state_76 : decode cX12_state 76 = .ok (.iload_n 1, 1) := by decide +kernel
theorem dX12_state_77 : decode cX12_state 77 = .ok (.invokevirtual 268, 3) := by decide +kernel
theorem dX12_state_80 : decode cX12_state 80 = .ok (.ireturn, 1) := by decide +kernel
theorem dX12_state_81 : decode cX12_state 81 = .ok (.iconst (-1), 1) := by decide +kernel
theorem dX12_state_82 : decode cX12_state 82 = .ok (.ireturn, 1) := by decide +kernel
def kX12_state (n : Nat) : jK := jk_iload 1 <| jk_aload 0 <| jk_get [11] 1 <| jk_call (fX12_isIn n) 2 <| jk_ifne (jk_iload 2 <| jk_sw [(0, (jk_aload 0 <| jk_get [11] 18 <| jk_iload 1 <| jk_iald <| jk_iret)), (1, (jk_aload 0 <| jk_get [11] 23 <| jk_iload 1 <| jk_iald <| jk_iret)), (2, (jk_aload 0 <| jk_get [11] 20 <| jk_iload 1 <| jk_iald <| jk_iret)), (3, (jk_aload 0 <| jk_iload 1 <| jk_vcall [(11, fX12_third n)] 1 <| jk_iret)), (4, (jk_aload 0 <| jk_iload 1 <| jk_vcall [(11, fX12_fourth n)] 1 <| jk_iret))] (jk_int (-1) <| jk_iret)) <| jk_int (-1) <| jk_iret
set_option maxRecDepth 100000 in
set_option maxHeartbeats 4000000 in
theorem tX12_state (l : Launch) (n : Nat) : jr_D l cX12_state 3 "MeetingKitModel" (Option.some Jvm.ClassFile.FieldType.int) "state" 2 44 (kX12_state n) 0 := by
  unfold kX12_state
  refine js_iload_n dX12_state_0 ?_
  refine js_aload_n dX12_state_1 ?_
  refine js_get dX12_state_2 jf_1_11 tw_963 (Or.inl rfl) ?_
  refine js_calls (sX12_isIn l n) dX12_state_5 (by decide) (by decide) tw_1085 tw_1086 tw_103 tw_1087 (by decide +kernel) ?_
  refine js_ifne (tgt := 13) dX12_state_8 (by decide) ?_ ?_
  · refine js_iload_n dX12_state_13 ?_
    refine js_tsw (td := 81) dX12_state_14 rfl (by decide) ?_ ?_
    · refine js_iconst dX12_state_81 ?_
      exact js_iret dX12_state_82 rfl
    · refine ⟨rfl, ⟨48, by decide, ?_⟩, rfl, ⟨55, by decide, ?_⟩, rfl, ⟨62, by decide, ?_⟩, rfl, ⟨69, by decide, ?_⟩, rfl, ⟨75, by decide, ?_⟩, trivial⟩
      · refine js_aload_n dX12_state_48 ?_
        refine js_get dX12_state_49 jf_18_11 tw_980 (Or.inl rfl) ?_
        refine js_iload_n dX12_state_52 ?_
        refine js_iald dX12_state_53 ?_
        exact js_iret dX12_state_54 rfl
      · refine js_aload_n dX12_state_55 ?_
        refine js_get dX12_state_56 jf_23_11 tw_985 (Or.inl rfl) ?_
        refine js_iload_n dX12_state_59 ?_
        refine js_iald dX12_state_60 ?_
        exact js_iret dX12_state_61 rfl
      · refine js_aload_n dX12_state_62 ?_
        refine js_get dX12_state_63 jf_20_11 tw_982 (Or.inl rfl) ?_
        refine js_iload_n dX12_state_66 ?_
        refine js_iald dX12_state_67 ?_
        exact js_iret dX12_state_68 rfl
      · refine js_aload_n dX12_state_69 ?_
        refine js_iload_n dX12_state_70 ?_
        refine js_callv dX12_state_71 (⟨⟨_, _, _, _, _, _, _, ⟨rfl, (show (11 : Nat) < 20 by decide), sX12_third l n, by decide, by decide, tw_1280, tw_103, tw_1279⟩, Or.inl ⟨by decide +kernel, by decide +kernel, by decide +kernel, tw_1277, tw_98⟩⟩, trivial⟩) ?_
        exact js_iret dX12_state_74 rfl
      · refine js_aload_n dX12_state_75 ?_
        refine js_iload_n dX12_state_76 ?_
        refine js_callv dX12_state_77 (⟨⟨_, _, _, _, _, _, _, ⟨rfl, (show (11 : Nat) < 20 by decide), sX12_fourth l n, by decide, by decide, tw_1284, tw_103, tw_1283⟩, Or.inl ⟨by decide +kernel, by decide +kernel, by decide +kernel, tw_1281, tw_99⟩⟩, trivial⟩) ?_
        exact js_iret dX12_state_80 rfl
  · refine js_iconst dX12_state_11 ?_
    exact js_iret dX12_state_12 rfl
def fX12_state (n : Nat) : jF := jm_run 3 3 (kX12_state n)
theorem sX12_state (l : Launch) (n : Nat) : jr_F l (⟨"MeetingKitModel", "state", "(II)I"⟩ : MethodName) cX12_state 3 (Option.some Jvm.ClassFile.FieldType.int) 2 44 (fX12_state n) := js_met (by decide +kernel) (by decide) (tX12_state l n)
theorem dX12_waiting_0 : decode cX12_waiting 0 = .ok (.iload_n 1, 1) := by decide +kernel
theorem dX12_waiting_1 : decode cX12_waiting 1 = .ok (.aload_n 0, 1) := by decide +kernel
theorem dX12_waiting_2 : decode cX12_waiting 2 = .ok (.getfield 113, 3) := by decide +kernel
theorem dX12_waiting_5 : decode cX12_waiting 5 = .ok (.invokestatic 117, 3) := by decide +kernel
theorem dX12_waiting_8 : decode cX12_waiting 8 = .ok (.ifCond .eq 25, 3) := by decide +kernel
theorem dX12_waiting_11 : decode cX12_waiting 11 = .ok (.iload_n 2, 1) := by decide +kernel
theorem dX12_waiting_12 : decode cX12_waiting 12 = .ok (.aload_n 0, 1) := by decide +kernel
theorem dX12_waiting_13 : decode cX12_waiting 13 = .ok (.getfield 70, 3) := by decide +kernel
theorem dX12_waiting_16 : decode cX12_waiting 16 = .ok (.iload_n 1, 1) := by decide +kernel
theorem dX12_waiting_17 : decode cX12_waiting 17 = .ok (.iaload, 1) := by decide +kernel
theorem dX12_waiting_18 : decode cX12_waiting 18 = .ok (.invokestatic 117, 3) := by decide +kernel
theorem dX12_waiting_21 : decode cX12_waiting 21 = .ok (.ifCond .eq 12, 3) := by decide +kernel
theorem dX12_waiting_24 : decode cX12_waiting 24 = .ok (.aload_n 0, 1) := by decide +kernel
theorem dX12_waiting_25 : decode cX12_waiting 25 = .ok (.iload_n 1, 1) := by decide +kernel
theorem dX12_waiting_26 : decode cX12_waiting 26 = .ok (.iload_n 2, 1) := by decide +kernel
theorem dX12_waiting_27 : decode cX12_waiting 27 = .ok (.invokevirtual 157, 3) := by decide +kernel
theorem dX12_waiting_30 : decode cX12_waiting 30 = .ok (.goto 4, 3) := by decide +kernel
theorem dX12_waiting_33 : decode cX12_waiting 33 = .ok (.iconst (-1), 1) := by decide +kernel
theorem dX12_waiting_34 : decode cX12_waiting 34 = .ok (.ireturn, 1) := by decide +kernel
def kX12_waiting_0 (n : Nat) (K : Nat → jK) : jK := jk_iload 1 <| jk_aload 0 <| jk_get [11] 1 <| jk_call (fX12_isIn n) 2 <| jk_ifeq (K 33) <| jk_iload 2 <| jk_aload 0 <| jk_get [11] 23 <| jk_iload 1 <| jk_iald <| jk_call (fX12_isIn n) 2 <| jk_ifeq (K 33) <| jk_aload 0 <| jk_iload 1 <| jk_iload 2 <| jk_vcall [(11, fX12_inLine n)] 2 <| K 34
set_option maxRecDepth 100000 in
set_option maxHeartbeats 4000000 in
theorem tX12_waiting_0 (l : Launch) (n : Nat) {K : Nat → jK} (hK : ∀ b, jr_D l cX12_waiting 3 "MeetingKitModel" (Option.some Jvm.ClassFile.FieldType.int) "waiting" 1 22 (K b) b) : jr_D l cX12_waiting 3 "MeetingKitModel" (Option.some Jvm.ClassFile.FieldType.int) "waiting" 1 22 (kX12_waiting_0 n K) 0 := by
  unfold kX12_waiting_0
  refine js_iload_n dX12_waiting_0 ?_
  refine js_aload_n dX12_waiting_1 ?_
  refine js_get dX12_waiting_2 jf_1_11 tw_963 (Or.inl rfl) ?_
  refine js_calls (sX12_isIn l n) dX12_waiting_5 (by decide) (by decide) tw_1085 tw_1086 tw_103 tw_1087 (by decide +kernel) ?_
  refine js_ifeq (tgt := 33) dX12_waiting_8 (by decide) ?_ ?_
  · exact hK 33
  · refine js_iload_n dX12_waiting_11 ?_
    refine js_aload_n dX12_waiting_12 ?_
    refine js_get dX12_waiting_13 jf_23_11 tw_985 (Or.inl rfl) ?_
    refine js_iload_n dX12_waiting_16 ?_
    refine js_iald dX12_waiting_17 ?_
    refine js_calls (sX12_isIn l n) dX12_waiting_18 (by decide) (by decide) tw_1085 tw_1086 tw_103 tw_1087 (by decide +kernel) ?_
    refine js_ifeq (tgt := 33) dX12_waiting_21 (by decide) ?_ ?_
    · exact hK 33
    · refine js_aload_n dX12_waiting_24 ?_
      refine js_iload_n dX12_waiting_25 ?_
      refine js_iload_n dX12_waiting_26 ?_
      refine js_callv dX12_waiting_27 (⟨⟨_, _, _, _, _, _, _, ⟨rfl, (show (11 : Nat) < 20 by decide), sX12_inLine l n, by decide, by decide, tw_1144, tw_103, tw_1143⟩, Or.inl ⟨by decide +kernel, by decide +kernel, by decide +kernel, tw_1141, tw_67⟩⟩, trivial⟩) ?_
      refine js_goto (tgt := 34) dX12_waiting_30 (by decide) ?_
      exact hK 34
def kX12_waiting_33 (n : Nat) (K : Nat → jK) : jK := jk_kill 0 <| jk_kill 1 <| jk_kill 2 <| jk_int (-1) <| K 34
set_option maxRecDepth 100000 in
set_option maxHeartbeats 4000000 in
theorem tX12_waiting_33 (l : Launch) (n : Nat) {K : Nat → jK} (hK : ∀ b, jr_D l cX12_waiting 3 "MeetingKitModel" (Option.some Jvm.ClassFile.FieldType.int) "waiting" 1 22 (K b) b) : jr_D l cX12_waiting 3 "MeetingKitModel" (Option.some Jvm.ClassFile.FieldType.int) "waiting" 1 22 (kX12_waiting_33 n K) 33 := by
  unfold kX12_waiting_33
  refine js_kill ?_
  refine js_kill ?_
  refine js_kill ?_
  refine js_iconst dX12_waiting_33 ?_
  exact hK 34
def kX12_waiting_34 (n : Nat) (K : Nat → jK) : jK := jk_kill 0 <| jk_kill 1 <| jk_kill 2 <| jk_iret
set_option maxRecDepth 100000 in
set_option maxHeartbeats 4000000 in
theorem tX12_waiting_34 (l : Launch) (n : Nat) {K : Nat → jK} (hK : ∀ b, jr_D l cX12_waiting 3 "MeetingKitModel" (Option.some Jvm.ClassFile.FieldType.int) "waiting" 1 22 (K b) b) : jr_D l cX12_waiting 3 "MeetingKitModel" (Option.some Jvm.ClassFile.FieldType.int) "waiting" 1 22 (kX12_waiting_34 n K) 34 := by
  unfold kX12_waiting_34
  refine js_kill ?_
  refine js_kill ?_
  refine js_kill ?_
  exact js_iret dX12_waiting_34 rfl
def kX12_waiting_b (n : Nat) (K : Nat → jK) (b : Nat) : jK := if b = 0 then kX12_waiting_0 n K else if b = 33 then kX12_waiting_33 n K else if b = 34 then kX12_waiting_34 n K else jk_none
def kX12_waiting (n : Nat) : jK := jk_fix (kX12_waiting_b n) n 0
theorem tX12_waiting (l : Launch) (n : Nat) : jr_D l cX12_waiting 3 "MeetingKitModel" (Option.some Jvm.ClassFile.FieldType.int) "waiting" 1 22 (kX12_waiting n) 0 := js_fix (F := kX12_waiting_b n) (fun K hK b => js_blk (tX12_waiting_0 l n hK) (js_blk (tX12_waiting_33 l n hK) (js_blk (tX12_waiting_34 l n hK) (js_none)))) n 0
def fX12_waiting (n : Nat) : jF := jm_run 3 3 (kX12_waiting n)
theorem sX12_waiting (l : Launch) (n : Nat) : jr_F l (⟨"MeetingKitModel", "waiting", "(II)I"⟩ : MethodName) cX12_waiting 3 (Option.some Jvm.ClassFile.FieldType.int) 1 22 (fX12_waiting n) := js_met (by decide +kernel) (by decide) (tX12_waiting l n)
theorem dX12_passed_0 : decode cX12_passed 0 = .ok (.iload_n 1, 1) := by decide +kernel
theorem dX12_passed_1 : decode cX12_passed 1 = .ok (.aload_n 0, 1) := by decide +kernel
theorem dX12_passed_2 : decode cX12_passed 2 = .ok (.getfield 113, 3) := by decide +kernel
theorem dX12_passed_5 : decode cX12_passed 5 = .ok (.invokestatic 117, 3) := by decide +kernel
theorem dX12_passed_8 : decode cX12_passed 8 = .ok (.ifCond .eq 31, 3) := by decide +kernel
theorem dX12_passed_11 : decode cX12_passed 11 = .ok (.iload_n 2, 1) := by decide +kernel
theorem dX12_passed_12 : decode cX12_passed 12 = .ok (.aload_n 0, 1) := by decide +kernel
theorem dX12_passed_13 : decode cX12_passed 13 = .ok (.getfield 104, 3) := by decide +kernel
theorem dX12_passed_16 : decode cX12_passed 16 = .ok (.iload_n 1, 1) := by decide +kernel
theorem dX12_passed_17 : decode cX12_passed 17 = .ok (.iaload, 1) := by decide +kernel
theorem dX12_passed_18 : decode cX12_passed 18 = .ok (.invokestatic 117, 3) := by decide +kernel
theorem dX12_passed_21 : decode cX12_passed 21 = .ok (.ifCond .eq 18, 3) := by decide +kernel
theorem dX12_passed_24 : decode cX12_passed 24 = .ok (.aload_n 0, 1) := by decide +kernel
theorem dX12_passed_25 : decode cX12_passed 25 = .ok (.getfield 100, 3) := by decide +kernel
theorem dX12_passed_28 : decode cX12_passed 28 = .ok (.sipush 300, 3) := by decide +kernel
theorem dX12_passed_31 : decode cX12_passed 31 = .ok (.iload_n 1, 1) := by decide +kernel
theorem dX12_passed_32 : decode cX12_passed 32 = .ok (.imul, 1) := by decide +kernel
theorem dX12_passed_33 : decode cX12_passed 33 = .ok (.iload_n 2, 1) := by decide +kernel
theorem dX12_passed_34 : decode cX12_passed 34 = .ok (.iadd, 1) := by decide +kernel
theorem dX12_passed_35 : decode cX12_passed 35 = .ok (.baload, 1) := by decide +kernel
theorem dX12_passed_36 : decode cX12_passed 36 = .ok (.goto 4, 3) := by decide +kernel
theorem dX12_passed_39 : decode cX12_passed 39 = .ok (.iconst (-1), 1) := by decide +kernel
theorem dX12_passed_40 : decode cX12_passed 40 = .ok (.ireturn, 1) := by decide +kernel
def kX12_passed_0 (n : Nat) (K : Nat → jK) : jK := jk_iload 1 <| jk_aload 0 <| jk_get [11] 1 <| jk_call (fX12_isIn n) 2 <| jk_ifeq (K 39) <| jk_iload 2 <| jk_aload 0 <| jk_get [11] 34 <| jk_iload 1 <| jk_iald <| jk_call (fX12_isIn n) 2 <| jk_ifeq (K 39) <| jk_aload 0 <| jk_get [11] 33 <| jk_int 300 <| jk_iload 1 <| jk_imul <| jk_iload 2 <| jk_iadd <| jk_xald 22 <| K 40
set_option maxRecDepth 100000 in
set_option maxHeartbeats 4000000 in
theorem tX12_passed_0 (l : Launch) (n : Nat) {K : Nat → jK} (hK : ∀ b, jr_D l cX12_passed 3 "MeetingKitModel" (Option.some Jvm.ClassFile.FieldType.int) "passed" 1 21 (K b) b) : jr_D l cX12_passed 3 "MeetingKitModel" (Option.some Jvm.ClassFile.FieldType.int) "passed" 1 21 (kX12_passed_0 n K) 0 := by
  unfold kX12_passed_0
  refine js_iload_n dX12_passed_0 ?_
  refine js_aload_n dX12_passed_1 ?_
  refine js_get dX12_passed_2 jf_1_11 tw_963 (Or.inl rfl) ?_
  refine js_calls (sX12_isIn l n) dX12_passed_5 (by decide) (by decide) tw_1085 tw_1086 tw_103 tw_1087 (by decide +kernel) ?_
  refine js_ifeq (tgt := 39) dX12_passed_8 (by decide) ?_ ?_
  · exact hK 39
  · refine js_iload_n dX12_passed_11 ?_
    refine js_aload_n dX12_passed_12 ?_
    refine js_get dX12_passed_13 jf_34_11 tw_996 (Or.inl rfl) ?_
    refine js_iload_n dX12_passed_16 ?_
    refine js_iald dX12_passed_17 ?_
    refine js_calls (sX12_isIn l n) dX12_passed_18 (by decide) (by decide) tw_1085 tw_1086 tw_103 tw_1087 (by decide +kernel) ?_
    refine js_ifeq (tgt := 39) dX12_passed_21 (by decide) ?_ ?_
    · exact hK 39
    · refine js_aload_n dX12_passed_24 ?_
      refine js_get dX12_passed_25 jf_33_11 tw_995 (Or.inl rfl) ?_
      refine js_sipush dX12_passed_28 ?_
      refine js_iload_n dX12_passed_31 ?_
      refine js_imul dX12_passed_32 ?_
      refine js_iload_n dX12_passed_33 ?_
      refine js_iadd dX12_passed_34 ?_
      refine js_bald dX12_passed_35 ?_
      refine js_goto (tgt := 40) dX12_passed_36 (by decide) ?_
      exact hK 40
def kX12_passed_39 (n : Nat) (K : Nat → jK) : jK := jk_kill 0 <| jk_kill 1 <| jk_kill 2 <| jk_int (-1) <| K 40
set_option maxRecDepth 100000 in
set_option maxHeartbeats 4000000 in
theorem tX12_passed_39 (l : Launch) (n : Nat) {K : Nat → jK} (hK : ∀ b, jr_D l cX12_passed 3 "MeetingKitModel" (Option.some Jvm.ClassFile.FieldType.int) "passed" 1 21 (K b) b) : jr_D l cX12_passed 3 "MeetingKitModel" (Option.some Jvm.ClassFile.FieldType.int) "passed" 1 21 (kX12_passed_39 n K) 39 := by
  unfold kX12_passed_39
  refine js_kill ?_
  refine js_kill ?_
  refine js_kill ?_
  refine js_iconst dX12_passed_39 ?_
  exact hK 40
def kX12_passed_40 (n : Nat) (K : Nat → jK) : jK := jk_kill 0 <| jk_kill 1 <| jk_kill 2 <| jk_iret
set_option maxRecDepth 100000 in
set_option maxHeartbeats 4000000 in
theorem tX12_passed_40 (l : Launch) (n : Nat) {K : Nat → jK} (hK : ∀ b, jr_D l cX12_passed 3 "MeetingKitModel" (Option.some Jvm.ClassFile.FieldType.int) "passed" 1 21 (K b) b) : jr_D l cX12_passed 3 "MeetingKitModel" (Option.some Jvm.ClassFile.FieldType.int) "passed" 1 21 (kX12_passed_40 n K) 40 := by
  unfold kX12_passed_40
  refine js_kill ?_
  refine js_kill ?_
  refine js_kill ?_
  exact js_iret dX12_passed_40 rfl
def kX12_passed_b (n : Nat) (K : Nat → jK) (b : Nat) : jK := if b = 0 then kX12_passed_0 n K else if b = 39 then kX12_passed_39 n K else if b = 40 then kX12_passed_40 n K else jk_none
def kX12_passed (n : Nat) : jK := jk_fix (kX12_passed_b n) n 0
theorem tX12_passed (l : Launch) (n : Nat) : jr_D l cX12_passed 3 "MeetingKitModel" (Option.some Jvm.ClassFile.FieldType.int) "passed" 1 21 (kX12_passed n) 0 := js_fix (F := kX12_passed_b n) (fun K hK b => js_blk (tX12_passed_0 l n hK) (js_blk (tX12_passed_39 l n hK) (js_blk (tX12_passed_40 l n hK) (js_none)))) n 0
def fX12_passed (n : Nat) : jF := jm_run 3 3 (kX12_passed n)
theorem sX12_passed (l : Launch) (n : Nat) : jr_F l (⟨"MeetingKitModel", "passed", "(II)I"⟩ : MethodName) cX12_passed 3 (Option.some Jvm.ClassFile.FieldType.int) 1 21 (fX12_passed n) := js_met (by decide +kernel) (by decide) (tX12_passed l n)
theorem dX12_stuck_0 : decode cX12_stuck 0 = .ok (.aload_n 0, 1) := by decide +kernel
theorem dX12_stuck_1 : decode cX12_stuck 1 = .ok (.invokevirtual 255, 3) := by decide +kernel
theorem dX12_stuck_4 : decode cX12_stuck 4 = .ok (.ifCond .ne 7, 3) := by decide +kernel
theorem dX12_stuck_7 : decode cX12_stuck 7 = .ok (.iload_n 1, 1) := by decide +kernel
theorem dX12_stuck_8 : decode cX12_stuck 8 = .ok (.ifCond .ge 5, 3) := by decide +kernel
theorem dX12_stuck_11 : decode cX12_stuck 11 = .ok (.iconst (-1), 1) := by decide +kernel
theorem dX12_stuck_12 : decode cX12_stuck 12 = .ok (.ireturn, 1) := by decide +kernel
theorem dX12_stuck_13 : decode cX12_stuck 13 = .ok (.iload_n 1, 1) := by decide +kernel
theorem dX12_stuck_14 : decode cX12_stuck 14 = .ok (.istore_n 2, 1) := by decide +kernel
theorem dX12_stuck_15 : decode cX12_stuck 15 = .ok (.iconst 0, 1) := by decide +kernel
theorem dX12_stuck_16 : decode cX12_stuck 16 = .ok (.istore_n 3, 1) := by decide +kernel
theorem dX12_stuck_17 : decode cX12_stuck 17 = .ok (.iload_n 3, 1) := by decide +kernel
theorem dX12_stuck_18 : decode cX12_stuck 18 = .ok (.aload_n 0, 1) := by decide +kernel
theorem dX12_stuck_19 : decode cX12_stuck 19 = .ok (.getfield 125, 3) := by decide +kernel
theorem dX12_stuck_22 : decode cX12_stuck 22 = .ok (.if_icmp .ge 30, 3) := by decide +kernel
theorem dX12_stuck_25 : decode cX12_stuck 25 = .ok (.aload_n 0, 1) := by decide +kernel
theorem dX12_stuck_26 : decode cX12_stuck 26 = .ok (.getfield 16, 3) := by decide +kernel
theorem dX12_stuck_29 : decode cX12_stuck 29 = .ok (.iload_n 3, 1) := by decide +kernel
theorem dX12_stuck_30 : decode cX12_stuck 30 = .ok (.iaload, 1) := by decide +kernel
theorem dX12_stuck_31 : decode cX12_stuck 31 = .ok (.ifCond .ge 6, 3) := by decide +kernel
theorem dX12_stuck_34 : decode cX12_stuck 34 = .ok (.goto 12, 3) := by decide +kernel
theorem dX12_stuck_37 : decode cX12_stuck 37 = .ok (.iload_n 2, 1) := by decide +kernel
theorem dX12_stuck_38 : decode cX12_stuck 38 = .ok (.ifCond .ne 5, 3) := by decide +kernel
theorem dX12_stuck_41 : decode cX12_stuck 41 = .ok (.iload_n 3, 1) := by decide +kernel
theorem dX12_stuck_42 : decode cX12_stuck 42 = .ok (.ireturn, 1) := by decide +kernel
theorem dX12_stuck_43 : decode cX12_stuck 43 = .ok (.iinc 2 (-1), 3) := by decide +kernel
theorem dX12_stuck_46 : decode cX12_stuck 46 = .ok (.iinc 3 1, 3) := by decide +kernel
theorem dX12_stuck_49 : decode cX12_stuck 49 = .ok (.goto (-32), 3) := by decide +kernel
theorem dX12_stuck_52 : decode cX12_stuck 52 = .ok (.iconst (-1), 1) := by decide +kernel
theorem dX12_stuck_53 : decode cX12_stuck 53 = .ok (.ireturn, 1) := by decide +kernel
def kX12_stuck_0 (n : Nat) (K : Nat → jK) : jK := jk_aload 0 <| jk_vcall [(11, fX12_canHappen n)] 0 <| jk_ifne (K 11) <| jk_iload 1 <| jk_ifge (jk_iload 1 <| jk_istore 2 <| jk_int 0 <| jk_istore 3 <| K 17) <| K 11
set_option maxRecDepth 100000 in
set_option maxHeartbeats 4000000 in
theorem tX12_stuck_0 (l : Launch) (n : Nat) {K : Nat → jK} (hK : ∀ b, jr_D l cX12_stuck 4 "MeetingKitModel" (Option.some Jvm.ClassFile.FieldType.int) "stuck" 2 43 (K b) b) : jr_D l cX12_stuck 4 "MeetingKitModel" (Option.some Jvm.ClassFile.FieldType.int) "stuck" 2 43 (kX12_stuck_0 n K) 0 := by
  unfold kX12_stuck_0
  refine js_aload_n dX12_stuck_0 ?_
  refine js_callv dX12_stuck_1 (⟨⟨_, _, _, _, _, _, _, ⟨rfl, (show (11 : Nat) < 20 by decide), sX12_canHappen l n, by decide, by decide, tw_1124, tw_103, tw_1123⟩, Or.inl ⟨by decide +kernel, by decide +kernel, by decide +kernel, tw_1121, tw_62⟩⟩, trivial⟩) ?_
  refine js_ifne (tgt := 11) dX12_stuck_4 (by decide) ?_ ?_
  · exact hK 11
  · refine js_iload_n dX12_stuck_7 ?_
    refine js_ifge (tgt := 13) dX12_stuck_8 (by decide) ?_ ?_
    · refine js_iload_n dX12_stuck_13 ?_
      refine js_istore_n dX12_stuck_14 (by decide) ?_
      refine js_iconst dX12_stuck_15 ?_
      refine js_istore_n dX12_stuck_16 (by decide) ?_
      exact hK 17
    · exact hK 11
def kX12_stuck_11 (n : Nat) (K : Nat → jK) : jK := jk_kill 0 <| jk_kill 1 <| jk_int (-1) <| jk_iret
set_option maxRecDepth 100000 in
set_option maxHeartbeats 4000000 in
theorem tX12_stuck_11 (l : Launch) (n : Nat) {K : Nat → jK} (hK : ∀ b, jr_D l cX12_stuck 4 "MeetingKitModel" (Option.some Jvm.ClassFile.FieldType.int) "stuck" 2 43 (K b) b) : jr_D l cX12_stuck 4 "MeetingKitModel" (Option.some Jvm.ClassFile.FieldType.int) "stuck" 2 43 (kX12_stuck_11 n K) 11 := by
  unfold kX12_stuck_11
  refine js_kill ?_
  refine js_kill ?_
  refine js_iconst dX12_stuck_11 ?_
  exact js_iret dX12_stuck_12 rfl
def kX12_stuck_17 (n : Nat) (K : Nat → jK) : jK := jk_kill 1 <| jk_iload 3 <| jk_aload 0 <| jk_get [11] 0 <| jk_icmpge (jk_int (-1) <| jk_iret) <| jk_aload 0 <| jk_get [11] 5 <| jk_iload 3 <| jk_iald <| jk_ifge (jk_iload 2 <| jk_ifne (jk_iinc 2 (-1) <| K 46) <| jk_iload 3 <| jk_iret) <| K 46
set_option maxRecDepth 100000 in
set_option maxHeartbeats 4000000 in
theorem tX12_stuck_17 (l : Launch) (n : Nat) {K : Nat → jK} (hK : ∀ b, jr_D l cX12_stuck 4 "MeetingKitModel" (Option.some Jvm.ClassFile.FieldType.int) "stuck" 2 43 (K b) b) : jr_D l cX12_stuck 4 "MeetingKitModel" (Option.some Jvm.ClassFile.FieldType.int) "stuck" 2 43 (kX12_stuck_17 n K) 17 := by
  unfold kX12_stuck_17
  refine js_kill ?_
  refine js_iload_n dX12_stuck_17 ?_
  refine js_aload_n dX12_stuck_18 ?_
  refine js_get dX12_stuck_19 jf_0_11 tw_962 (Or.inl rfl) ?_
  refine js_icmpge (tgt := 52) dX12_stuck_22 (by decide) ?_ ?_
  · refine js_iconst dX12_stuck_52 ?_
    exact js_iret dX12_stuck_53 rfl
  · refine js_aload_n dX12_stuck_25 ?_
    refine js_get dX12_stuck_26 jf_5_11 tw_967 (Or.inl rfl) ?_
    refine js_iload_n dX12_stuck_29 ?_
    refine js_iald dX12_stuck_30 ?_
    refine js_ifge (tgt := 37) dX12_stuck_31 (by decide) ?_ ?_
    · refine js_iload_n dX12_stuck_37 ?_
      refine js_ifne (tgt := 43) dX12_stuck_38 (by decide) ?_ ?_
      · refine js_iinc dX12_stuck_43 (by decide) ?_
        exact hK 46
      · refine js_iload_n dX12_stuck_41 ?_
        exact js_iret dX12_stuck_42 rfl
    · refine js_goto (tgt := 46) dX12_stuck_34 (by decide) ?_
      exact hK 46
def kX12_stuck_46 (n : Nat) (K : Nat → jK) : jK := jk_kill 1 <| jk_iinc 3 1 <| K 17
set_option maxRecDepth 100000 in
set_option maxHeartbeats 4000000 in
theorem tX12_stuck_46 (l : Launch) (n : Nat) {K : Nat → jK} (hK : ∀ b, jr_D l cX12_stuck 4 "MeetingKitModel" (Option.some Jvm.ClassFile.FieldType.int) "stuck" 2 43 (K b) b) : jr_D l cX12_stuck 4 "MeetingKitModel" (Option.some Jvm.ClassFile.FieldType.int) "stuck" 2 43 (kX12_stuck_46 n K) 46 := by
  unfold kX12_stuck_46
  refine js_kill ?_
  refine js_iinc dX12_stuck_46 (by decide) ?_
  refine js_goto (tgt := 17) dX12_stuck_49 (by decide) ?_
  exact hK 17
def kX12_stuck_b (n : Nat) (K : Nat → jK) (b : Nat) : jK := if b = 0 then kX12_stuck_0 n K else if b = 11 then kX12_stuck_11 n K else if b = 17 then kX12_stuck_17 n K else if b = 46 then kX12_stuck_46 n K else jk_none
def kX12_stuck (n : Nat) : jK := jk_fix (kX12_stuck_b n) n 0
theorem tX12_stuck (l : Launch) (n : Nat) : jr_D l cX12_stuck 4 "MeetingKitModel" (Option.some Jvm.ClassFile.FieldType.int) "stuck" 2 43 (kX12_stuck n) 0 := js_fix (F := kX12_stuck_b n) (fun K hK b => js_blk (tX12_stuck_0 l n hK) (js_blk (tX12_stuck_11 l n hK) (js_blk (tX12_stuck_17 l n hK) (js_blk (tX12_stuck_46 l n hK) (js_none))))) n 0
def fX12_stuck (n : Nat) : jF := jm_run 2 4 (kX12_stuck n)
theorem sX12_stuck (l : Launch) (n : Nat) : jr_F l (⟨"MeetingKitModel", "stuck", "(I)I"⟩ : MethodName) cX12_stuck 4 (Option.some Jvm.ClassFile.FieldType.int) 2 43 (fX12_stuck n) := js_met (by decide +kernel) (by decide) (tX12_stuck l n)
