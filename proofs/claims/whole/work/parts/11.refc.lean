theorem dX12_puts_0 : decode cX12_puts 0 = .ok (.aload_n 0, 1) := by decide +kernel
theorem dX12_puts_1 : decode cX12_puts 1 = .ok (.getfield 97, 3) := by decide +kernel
theorem dX12_puts_4 : decode cX12_puts 4 = .ok (.bipush 8, 2) := by decide +kernel
theorem dX12_puts_6 : decode cX12_puts 6 = .ok (.iload_n 1, 1) := by decide +kernel
theorem dX12_puts_7 : decode cX12_puts 7 = .ok (.imul, 1) := by decide +kernel
theorem dX12_puts_8 : decode cX12_puts 8 = .ok (.aload_n 0, 1) := by decide +kernel
theorem dX12_puts_9 : decode cX12_puts 9 = .ok (.getfield 73, 3) := by decide +kernel
theorem dX12_puts_12 : decode cX12_puts 12 = .ok (.iload_n 1, 1) := by decide +kernel
theorem dX12_puts_13 : decode cX12_puts 13 = .ok (.iaload, 1) := by decide +kernel
theorem dX12_puts_14 : decode cX12_puts 14 = .ok (.iadd, 1) := by decide +kernel
theorem dX12_puts_15 : decode cX12_puts 15 = .ok (.iload_n 2, 1) := by decide +kernel
theorem dX12_puts_16 : decode cX12_puts 16 = .ok (.iastore, 1) := by decide +kernel
theorem dX12_puts_17 : decode cX12_puts 17 = .ok (.aload_n 0, 1) := by decide +kernel
theorem dX12_puts_18 : decode cX12_puts 18 = .ok (.getfield 73, 3) := by decide +kernel
theorem dX12_puts_21 : decode cX12_puts 21 = .ok (.iload_n 1, 1) := by decide +kernel
theorem dX12_puts_22 : decode cX12_puts 22 = .ok (.dup2, 1) := by decide +kernel
theorem dX12_puts_23 : decode cX12_puts 23 = .ok (.iaload, 1) := by decide +kernel
theorem dX12_puts_24 : decode cX12_puts 24 = .ok (.iconst 1, 1) := by decide +kernel
theorem dX12_puts_25 : decode cX12_puts 25 = .ok (.iadd, 1) := by decide +kernel
theorem dX12_puts_26 : decode cX12_puts 26 = .ok (.iastore, 1) := by decide +kernel
theorem dX12_puts_27 : decode cX12_puts 27 = .ok (.return_, 1) := by decide +kernel
def kX12_puts (n : Nat) : jK := jk_aload 0 <| jk_get [11] 32 <| jk_int 8 <| jk_iload 1 <| jk_imul <| jk_aload 0 <| jk_get [11] 24 <| jk_iload 1 <| jk_iald <| jk_iadd <| jk_iload 2 <| jk_iast <| jk_aload 0 <| jk_get [11] 24 <| jk_iload 1 <| jk_dup2 <| jk_iald <| jk_int 1 <| jk_iadd <| jk_iast <| jk_vret
set_option maxRecDepth 100000 in
set_option maxHeartbeats 4000000 in
theorem tX12_puts (l : Launch) (n : Nat) : jr_D l cX12_puts 3 "MeetingKitModel" (Option.none : Option Jvm.ClassFile.FieldType) "puts" 0 0 (kX12_puts n) 0 := by
  unfold kX12_puts
  refine js_aload_n dX12_puts_0 ?_
  refine js_get dX12_puts_1 jf_32_11 tw_994 (Or.inl rfl) ?_
  refine js_bipush dX12_puts_4 ?_
  refine js_iload_n dX12_puts_6 ?_
  refine js_imul dX12_puts_7 ?_
  refine js_aload_n dX12_puts_8 ?_
  refine js_get dX12_puts_9 jf_24_11 tw_986 (Or.inl rfl) ?_
  refine js_iload_n dX12_puts_12 ?_
  refine js_iald dX12_puts_13 ?_
  refine js_iadd dX12_puts_14 ?_
  refine js_iload_n dX12_puts_15 ?_
  refine js_iast dX12_puts_16 ?_
  refine js_aload_n dX12_puts_17 ?_
  refine js_get dX12_puts_18 jf_24_11 tw_986 (Or.inl rfl) ?_
  refine js_iload_n dX12_puts_21 ?_
  refine js_dup2 dX12_puts_22 ?_
  refine js_iald dX12_puts_23 ?_
  refine js_iconst dX12_puts_24 ?_
  refine js_iadd dX12_puts_25 ?_
  refine js_iast dX12_puts_26 ?_
  exact js_vret dX12_puts_27 rfl
def fX12_puts (n : Nat) : jF := jm_run 3 3 (kX12_puts n)
theorem sX12_puts (l : Launch) (n : Nat) : jr_F l (⟨"MeetingKitModel", "puts", "(II)V"⟩ : MethodName) cX12_puts 3 (Option.none : Option Jvm.ClassFile.FieldType) 0 0 (fX12_puts n) := js_met (by decide +kernel) (by decide) (tX12_puts l n)
theorem dX12_handOver_0 : decode cX12_handOver 0 = .ok (.aload_n 0, 1) := by decide +kernel
theorem dX12_handOver_1 : decode cX12_handOver 1 = .ok (.getfield 70, 3) := by decide +kernel
theorem dX12_handOver_4 : decode cX12_handOver 4 = .ok (.iload_n 1, 1) := by decide +kernel
theorem dX12_handOver_5 : decode cX12_handOver 5 = .ok (.iaload, 1) := by decide +kernel
theorem dX12_handOver_6 : decode cX12_handOver 6 = .ok (.ifCond .le 12, 3) := by decide +kernel
theorem dX12_handOver_9 : decode cX12_handOver 9 = .ok (.aload_n 0, 1) := by decide +kernel
theorem dX12_handOver_10 : decode cX12_handOver 10 = .ok (.iload_n 1, 1) := by decide +kernel
theorem dX12_handOver_11 : decode cX12_handOver 11 = .ok (.iconst 0, 1) := by decide +kernel
theorem dX12_handOver_12 : decode cX12_handOver 12 = .ok (.invokevirtual 157, 3) := by decide +kernel
theorem dX12_handOver_15 : decode cX12_handOver 15 = .ok (.goto 4, 3) := by decide +kernel
theorem dX12_handOver_18 : decode cX12_handOver 18 = .ok (.iconst (-1), 1) := by decide +kernel
theorem dX12_handOver_19 : decode cX12_handOver 19 = .ok (.istore 5, 2) := by decide +kernel
theorem dX12_handOver_21 : decode cX12_handOver 21 = .ok (.iload_n 3, 1) := by decide +kernel
theorem dX12_handOver_22 : decode cX12_handOver 22 = .ok (.iconst 1, 1) := by decide +kernel
theorem dX12_handOver_23 : decode cX12_handOver 23 = .ok (.if_icmp .le 11, 3) := by decide +kernel
theorem dX12_handOver_26 : decode cX12_handOver 26 = .ok (.aload_n 0, 1) := by decide +kernel
theorem dX12_handOver_27 : decode cX12_handOver 27 = .ok (.iload_n 2, 1) := by decide +kernel
theorem dX12_handOver_28 : decode cX12_handOver 28 = .ok (.invokevirtual 192, 3) := by decide +kernel
theorem dX12_handOver_31 : decode cX12_handOver 31 = .ok (.goto 231, 3) := by decide +kernel
theorem dX12_handOver_34 : decode cX12_handOver 34 = .ok (.iload_n 3, 1) := by decide +kernel
theorem dX12_handOver_35 : decode cX12_handOver 35 = .ok (.ifCond .ne 76, 3) := by decide +kernel
theorem dX12_handOver_38 : decode cX12_handOver 38 = .ok (.iload 5, 2) := by decide +kernel
theorem dX12_handOver_40 : decode cX12_handOver 40 = .ok (.ifCond .lt 30, 3) := by decide +kernel
theorem dX12_handOver_43 : decode cX12_handOver 43 = .ok (.aload_n 0, 1) := by decide +kernel
theorem dX12_handOver_44 : decode cX12_handOver 44 = .ok (.iload 5, 2) := by decide +kernel
theorem dX12_handOver_46 : decode cX12_handOver 46 = .ok (.invokevirtual 186, 3) := by decide +kernel
theorem dX12_handOver_49 : decode cX12_handOver 49 = .ok (.iconst 1, 1) := by decide +kernel
theorem dX12_handOver_50 : decode cX12_handOver 50 = .ok (.if_icmp .ne 20, 3) := by decide +kernel
theorem dX12_handOver_53 : decode cX12_handOver 53 = .ok (.aload_n 0, 1) := by decide +kernel
theorem dX12_handOver_54 : decode cX12_handOver 54 = .ok (.iload_n 2, 1) := by decide +kernel
theorem dX12_handOver_55 : decode cX12_handOver 55 = .ok (.iconst 0, 1) := by decide +kernel
theorem dX12_handOver_56 : decode cX12_handOver 56 = .ok (.invokevirtual 165, 3) := by decide +kernel
theorem dX12_handOver_59 : decode cX12_handOver 59 = .ok (.aload_n 0, 1) := by decide +kernel
theorem dX12_handOver_60 : decode cX12_handOver 60 = .ok (.iload 5, 2) := by decide +kernel
theorem dX12_handOver_62 : decode cX12_handOver 62 = .ok (.iload 4, 2) := by decide +kernel
theorem dX12_handOver_64 : decode cX12_handOver 64 = .ok (.invokevirtual 174, 3) := by decide +kernel
theorem dX12_handOver_67 : decode cX12_handOver 67 = .ok (.goto 195, 3) := by decide +kernel
theorem dX12_handOver_70 : decode cX12_handOver 70 = .ok (.aload_n 0, 1) := by decide +kernel
theorem dX12_handOver_71 : decode cX12_handOver 71 = .ok (.getfield 73, 3) := by decide +kernel
theorem dX12_handOver_74 : decode cX12_handOver 74 = .ok (.iload_n 1, 1) := by decide +kernel
theorem dX12_handOver_75 : decode cX12_handOver 75 = .ok (.iaload, 1) := by decide +kernel
theorem dX12_handOver_76 : decode cX12_handOver 76 = .ok (.aload_n 0, 1) := by decide +kernel
theorem dX12_handOver_77 : decode cX12_handOver 77 = .ok (.getfield 58, 3) := by decide +kernel
theorem dX12_handOver_80 : decode cX12_handOver 80 = .ok (.iload_n 1, 1) := by decide +kernel
theorem dX12_handOver_81 : decode cX12_handOver 81 = .ok (.iaload, 1) := by decide +kernel
theorem dX12_handOver_82 : decode cX12_handOver 82 = .ok (.if_icmp .ge 19, 3) := by decide +kernel
theorem dX12_handOver_85 : decode cX12_handOver 85 = .ok (.aload_n 0, 1) := by decide +kernel
theorem dX12_handOver_86 : decode cX12_handOver 86 = .ok (.iload_n 1, 1) := by decide +kernel
theorem dX12_handOver_87 : decode cX12_handOver 87 = .ok (.iload 4, 2) := by decide +kernel
theorem dX12_handOver_89 : decode cX12_handOver 89 = .ok (.invokevirtual 198, 3) := by decide +kernel
theorem dX12_handOver_92 : decode cX12_handOver 92 = .ok (.aload_n 0, 1) := by decide +kernel
theorem dX12_handOver_93 : decode cX12_handOver 93 = .ok (.iload_n 2, 1) := by decide +kernel
theorem dX12_handOver_94 : decode cX12_handOver 94 = .ok (.iconst 0, 1) := by decide +kernel
theorem dX12_handOver_95 : decode cX12_handOver 95 = .ok (.invokevirtual 165, 3) := by decide +kernel
theorem dX12_handOver_98 : decode cX12_handOver 98 = .ok (.goto 164, 3) := by decide +kernel
theorem dX12_handOver_101 : decode cX12_handOver 101 = .ok (.aload_n 0, 1) := by decide +kernel
theorem dX12_handOver_102 : decode cX12_handOver 102 = .ok (.iload_n 2, 1) := by decide +kernel
theorem dX12_handOver_103 : decode cX12_handOver 103 = .ok (.invokevirtual 195, 3) := by decide +kernel
theorem dX12_handOver_106 : decode cX12_handOver 106 = .ok (.istore 6, 2) := by decide +kernel
theorem dX12_handOver_108 : decode cX12_handOver 108 = .ok (.goto 154, 3) := by decide +kernel
theorem dX12_handOver_111 : decode cX12_handOver 111 = .ok (.aload_n 0, 1) := by decide +kernel
theorem dX12_handOver_112 : decode cX12_handOver 112 = .ok (.getfield 73, 3) := by decide +kernel
theorem dX12_handOver_115 : decode cX12_handOver 115 = .ok (.iload_n 1, 1) := by decide +kernel
theorem dX12_handOver_116 : decode cX12_handOver 116 = .ok (.iaload, 1) := by decide +kernel
theorem dX12_handOver_117 : decode cX12_handOver 117 = .ok (.ifCond .le 103, 3) := by decide +kernel
theorem dX12_handOver_120 : decode cX12_handOver 120 = .ok (.aload_n 0, 1) := by decide +kernel
theorem dX12_handOver_121 : decode cX12_handOver 121 = .ok (.getfield 97, 3) := by decide +kernel
theorem dX12_handOver_124 : decode cX12_handOver 124 = .ok (.bipush 8, 2) := by decide +kernel
theorem dX12_handOver_126 : decode cX12_handOver 126 = .ok (.iload_n 1, 1) := by decide +kernel
theorem dX12_handOver_127 : decode cX12_handOver 127 = .ok (.imul, 1) := by decide +kernel
theorem dX12_handOver_128 : decode cX12_handOver 128 = .ok (.iaload, 1) := by decide +kernel
theorem dX12_handOver_129 : decode cX12_handOver 129 = .ok (.istore 6, 2) := by decide +kernel
theorem dX12_handOver_131 : decode cX12_handOver 131 = .ok (.aload_n 0, 1) := by decide +kernel
theorem dX12_handOver_132 : decode cX12_handOver 132 = .ok (.getfield 73, 3) := by decide +kernel
theorem dX12_handOver_135 : decode cX12_handOver 135 = .ok (.iload_n 1, 1) := by decide +kernel
theorem dX12_handOver_136 : decode cX12_handOver 136 = .ok (.dup2, 1) := by decide +kernel
theorem dX12_handOver_137 : decode cX12_handOver 137 = .ok (.iaload, 1) := by decide +kernel
theorem dX12_handOver_138 : decode cX12_handOver 138 = .ok (.iconst 1, 1) := by decide +kernel
theorem dX12_handOver_139 : decode cX12_handOver 139 = .ok (.isub, 1) := by decide +kernel
theorem dX12_handOver_140 : decode cX12_handOver 140 = .ok (.iastore, 1) := by decide +kernel
theorem dX12_handOver_141 : decode cX12_handOver 141 = .ok (.iconst 0, 1) := by decide +kernel
theorem dX12_handOver_142 : decode cX12_handOver 142 = .ok (.istore 7, 2) := by decide +kernel
theorem dX12_handOver_144 : decode cX12_handOver 144 = .ok (.iload 7, 2) := by decide +kernel
theorem dX12_handOver_146 : decode cX12_handOver 146 = .ok (.aload_n 0, 1) := by decide +kernel
theorem dX12_handOver_147 : decode cX12_handOver 147 = .ok (.getfield 73, 3) := by decide +kernel
theorem dX12_handOver_150 : decode cX12_handOver 150 = .ok (.iload_n 1, 1) := by decide +kernel
theorem dX12_handOver_151 : decode cX12_handOver 151 = .ok (.iaload, 1) := by decide +kernel
theorem dX12_handOver_152 : decode cX12_handOver 152 = .ok (.if_icmp .ge 35, 3) := by decide +kernel
theorem dX12_handOver_155 : decode cX12_handOver 155 = .ok (.aload_n 0, 1) := by decide +kernel
theorem dX12_handOver_156 : decode cX12_handOver 156 = .ok (.getfield 97, 3) := by decide +kernel
theorem dX12_handOver_159 : decode cX12_handOver 159 = .ok (.bipush 8, 2) := by decide +kernel
theorem dX12_handOver_161 : decode cX12_handOver 161 = .ok (.iload_n 1, 1) := by decide +kernel
theorem dX12_handOver_162 : decode cX12_handOver 162 = .ok (.imul, 1) := by decide +kernel
theorem dX12_handOver_163 : decode cX12_handOver 163 = .ok (.iload 7, 2) := by decide +kernel
theorem dX12_handOver_165 : decode cX12_handOver 165 = .ok (.iadd, 1) := by decide +kernel
theorem dX12_handOver_166 : decode cX12_handOver 166 = .ok (.aload_n 0, 1) := by decide +kernel
theorem dX12_handOver_167 : decode cX12_handOver 167 = .ok (.getfield 97, 3) := by decide +kernel
theorem dX12_handOver_170 : decode cX12_handOver 170 = .ok (.bipush 8, 2) := by decide +kernel
theorem dX12_handOver_172 : decode cX12_handOver 172 = .ok (.iload_n 1, 1) := by decide +kernel
theorem dX12_handOver_173 : decode cX12_handOver 173 = .ok (.imul, 1) := by decide +kernel
theorem dX12_handOver_174 : decode cX12_handOver 174 = .ok (.iload 7, 2) := by decide +kernel
theorem dX12_handOver_176 : decode cX12_handOver 176 = .ok (.iadd, 1) := by decide +kernel
theorem dX12_handOver_177 : decode cX12_handOver 177 = .ok (.iconst 1, 1) := by decide +kernel
theorem dX12_handOver_178 : decode cX12_handOver 178 = .ok (.iadd, 1) := by decide +kernel
theorem dX12_handOver_179 : decode cX12_handOver 179 = .ok (.iaload, 1) := by decide +kernel
theorem dX12_handOver_180 : decode cX12_handOver 180 = .ok (.iastore, 1) := by decide +kernel
theorem dX12_handOver_181 : decode cX12_handOver 181 = .ok (.iinc 7 1, 3) := by decide +kernel
theorem dX12_handOver_184 : decode cX12_handOver 184 = .ok (.goto (-40), 3) := by decide +kernel
theorem dX12_handOver_187 : decode cX12_handOver 187 = .ok (.aload_n 0, 1) := by decide +kernel
theorem dX12_handOver_188 : decode cX12_handOver 188 = .ok (.iload_n 2, 1) := by decide +kernel
theorem dX12_handOver_189 : decode cX12_handOver 189 = .ok (.iload 6, 2) := by decide +kernel
theorem dX12_handOver_191 : decode cX12_handOver 191 = .ok (.invokevirtual 165, 3) := by decide +kernel
theorem dX12_handOver_194 : decode cX12_handOver 194 = .ok (.iload 5, 2) := by decide +kernel
theorem dX12_handOver_196 : decode cX12_handOver 196 = .ok (.ifCond .lt 21, 3) := by decide +kernel
theorem dX12_handOver_199 : decode cX12_handOver 199 = .ok (.aload_n 0, 1) := by decide +kernel
theorem dX12_handOver_200 : decode cX12_handOver 200 = .ok (.iload_n 1, 1) := by decide +kernel
theorem dX12_handOver_201 : decode cX12_handOver 201 = .ok (.aload_n 0, 1) := by decide +kernel
theorem dX12_handOver_202 : decode cX12_handOver 202 = .ok (.iload 5, 2) := by decide +kernel
theorem dX12_handOver_204 : decode cX12_handOver 204 = .ok (.invokevirtual 171, 3) := by decide +kernel
theorem dX12_handOver_207 : decode cX12_handOver 207 = .ok (.invokevirtual 198, 3) := by decide +kernel
theorem dX12_handOver_210 : decode cX12_handOver 210 = .ok (.aload_n 0, 1) := by decide +kernel
theorem dX12_handOver_211 : decode cX12_handOver 211 = .ok (.iload 5, 2) := by decide +kernel
theorem dX12_handOver_213 : decode cX12_handOver 213 = .ok (.iconst 0, 1) := by decide +kernel
theorem dX12_handOver_214 : decode cX12_handOver 214 = .ok (.invokevirtual 174, 3) := by decide +kernel
theorem dX12_handOver_217 : decode cX12_handOver 217 = .ok (.goto 45, 3) := by decide +kernel
theorem dX12_handOver_220 : decode cX12_handOver 220 = .ok (.iload 5, 2) := by decide +kernel
theorem dX12_handOver_222 : decode cX12_handOver 222 = .ok (.ifCond .lt 33, 3) := by decide +kernel
theorem dX12_handOver_225 : decode cX12_handOver 225 = .ok (.aload_n 0, 1) := by decide +kernel
theorem dX12_handOver_226 : decode cX12_handOver 226 = .ok (.iload 5, 2) := by decide +kernel
theorem dX12_handOver_228 : decode cX12_handOver 228 = .ok (.invokevirtual 186, 3) := by decide +kernel
theorem dX12_handOver_231 : decode cX12_handOver 231 = .ok (.ifCond .ne 24, 3) := by decide +kernel
theorem dX12_handOver_234 : decode cX12_handOver 234 = .ok (.aload_n 0, 1) := by decide +kernel
theorem dX12_handOver_235 : decode cX12_handOver 235 = .ok (.iload_n 2, 1) := by decide +kernel
theorem dX12_handOver_236 : decode cX12_handOver 236 = .ok (.aload_n 0, 1) := by decide +kernel
theorem dX12_handOver_237 : decode cX12_handOver 237 = .ok (.iload 5, 2) := by decide +kernel
theorem dX12_handOver_239 : decode cX12_handOver 239 = .ok (.invokevirtual 171, 3) := by decide +kernel
theorem dX12_handOver_242 : decode cX12_handOver 242 = .ok (.invokevirtual 165, 3) := by decide +kernel
theorem dX12_handOver_245 : decode cX12_handOver 245 = .ok (.aload_n 0, 1) := by decide +kernel
theorem dX12_handOver_246 : decode cX12_handOver 246 = .ok (.iload 5, 2) := by decide +kernel
theorem dX12_handOver_248 : decode cX12_handOver 248 = .ok (.iconst 0, 1) := by decide +kernel
theorem dX12_handOver_249 : decode cX12_handOver 249 = .ok (.invokevirtual 174, 3) := by decide +kernel
theorem dX12_handOver_252 : decode cX12_handOver 252 = .ok (.goto 10, 3) := by decide +kernel
theorem dX12_handOver_255 : decode cX12_handOver 255 = .ok (.aload_n 0, 1) := by decide +kernel
theorem dX12_handOver_256 : decode cX12_handOver 256 = .ok (.iload_n 2, 1) := by decide +kernel
theorem dX12_handOver_257 : decode cX12_handOver 257 = .ok (.invokevirtual 195, 3) := by decide +kernel
theorem dX12_handOver_260 : decode cX12_handOver 260 = .ok (.istore 6, 2) := by decide +kernel
theorem dX12_handOver_262 : decode cX12_handOver 262 = .ok (.return_, 1) := by decide +kernel
def kX12_handOver_0 (n : Nat) (K : Nat → jK) : jK := jk_aload 0 <| jk_get [11] 23 <| jk_iload 1 <| jk_iald <| jk_ifle (jk_int (-1) <| K 19) <| jk_aload 0 <| jk_iload 1 <| jk_int 0 <| jk_vcall [(11, fX12_inLine n)] 2 <| K 19
set_option maxRecDepth 100000 in
set_option maxHeartbeats 4000000 in
theorem tX12_handOver_0 (l : Launch) (n : Nat) {K : Nat → jK} (hK : ∀ b, jr_D l cX12_handOver 8 "MeetingKitModel" (Option.none : Option Jvm.ClassFile.FieldType) "handOver" 4 90 (K b) b) : jr_D l cX12_handOver 8 "MeetingKitModel" (Option.none : Option Jvm.ClassFile.FieldType) "handOver" 4 90 (kX12_handOver_0 n K) 0 := by
  unfold kX12_handOver_0
  refine js_aload_n dX12_handOver_0 ?_
  refine js_get dX12_handOver_1 jf_23_11 tw_985 (Or.inl rfl) ?_
  refine js_iload_n dX12_handOver_4 ?_
  refine js_iald dX12_handOver_5 ?_
  refine js_ifle (tgt := 18) dX12_handOver_6 (by decide) ?_ ?_
  · refine js_iconst dX12_handOver_18 ?_
    exact hK 19
  · refine js_aload_n dX12_handOver_9 ?_
    refine js_iload_n dX12_handOver_10 ?_
    refine js_iconst dX12_handOver_11 ?_
    refine js_callv dX12_handOver_12 (⟨⟨_, _, _, _, _, _, _, ⟨rfl, (show (11 : Nat) < 20 by decide), sX12_inLine l n, by decide, by decide, tw_1144, tw_103, tw_1143⟩, Or.inl ⟨by decide +kernel, by decide +kernel, by decide +kernel, tw_1141, tw_67⟩⟩, trivial⟩) ?_
    refine js_goto (tgt := 19) dX12_handOver_15 (by decide) ?_
    exact hK 19
def kX12_handOver_19 (n : Nat) (K : Nat → jK) : jK := jk_istore 5 <| jk_iload 3 <| jk_int 1 <| jk_icmple (jk_iload 3 <| jk_ifne (jk_aload 0 <| jk_get [11] 24 <| jk_iload 1 <| jk_iald <| jk_ifle (jk_iload 5 <| jk_iflt (K 255) <| jk_aload 0 <| jk_iload 5 <| jk_vcall [(11, fX12_actOf n)] 1 <| jk_ifne (K 255) <| jk_aload 0 <| jk_iload 2 <| jk_aload 0 <| jk_iload 5 <| jk_vcall [(11, fX12_numberOf n)] 1 <| jk_vcall [(11, fX12_passes n)] 2 <| jk_aload 0 <| jk_iload 5 <| jk_int 0 <| jk_vcall [(11, fX12_goes n)] 2 <| K 262) <| jk_aload 0 <| jk_get [11] 32 <| jk_int 8 <| jk_iload 1 <| jk_imul <| jk_iald <| jk_istore 6 <| jk_aload 0 <| jk_get [11] 24 <| jk_iload 1 <| jk_dup2 <| jk_iald <| jk_int 1 <| jk_isub <| jk_iast <| jk_int 0 <| jk_istore 7 <| K 144) <| jk_iload 5 <| jk_iflt (K 70) <| jk_aload 0 <| jk_iload 5 <| jk_vcall [(11, fX12_actOf n)] 1 <| jk_int 1 <| jk_icmpne (K 70) <| jk_aload 0 <| jk_iload 2 <| jk_int 0 <| jk_vcall [(11, fX12_passes n)] 2 <| jk_aload 0 <| jk_iload 5 <| jk_iload 4 <| jk_vcall [(11, fX12_goes n)] 2 <| K 262) <| jk_aload 0 <| jk_iload 2 <| jk_vcall [(11, fX12_misuse n)] 1 <| K 262
set_option maxRecDepth 100000 in
set_option maxHeartbeats 4000000 in
theorem tX12_handOver_19 (l : Launch) (n : Nat) {K : Nat → jK} (hK : ∀ b, jr_D l cX12_handOver 8 "MeetingKitModel" (Option.none : Option Jvm.ClassFile.FieldType) "handOver" 4 90 (K b) b) : jr_D l cX12_handOver 8 "MeetingKitModel" (Option.none : Option Jvm.ClassFile.FieldType) "handOver" 4 90 (kX12_handOver_19 n K) 19 := by
  unfold kX12_handOver_19
  refine js_istore dX12_handOver_19 (by decide) ?_
  refine js_iload_n dX12_handOver_21 ?_
  refine js_iconst dX12_handOver_22 ?_
  refine js_icmple (tgt := 34) dX12_handOver_23 (by decide) ?_ ?_
  · refine js_iload_n dX12_handOver_34 ?_
    refine js_ifne (tgt := 111) dX12_handOver_35 (by decide) ?_ ?_
    · refine js_aload_n dX12_handOver_111 ?_
      refine js_get dX12_handOver_112 jf_24_11 tw_986 (Or.inl rfl) ?_
      refine js_iload_n dX12_handOver_115 ?_
      refine js_iald dX12_handOver_116 ?_
      refine js_ifle (tgt := 220) dX12_handOver_117 (by decide) ?_ ?_
      · refine js_iload dX12_handOver_220 ?_
        refine js_iflt (tgt := 255) dX12_handOver_222 (by decide) ?_ ?_
        · exact hK 255
        · refine js_aload_n dX12_handOver_225 ?_
          refine js_iload dX12_handOver_226 ?_
          refine js_callv dX12_handOver_228 (⟨⟨_, _, _, _, _, _, _, ⟨rfl, (show (11 : Nat) < 20 by decide), sX12_actOf l n, by decide, by decide, tw_1184, tw_103, tw_1183⟩, Or.inl ⟨by decide +kernel, by decide +kernel, by decide +kernel, tw_1181, tw_77⟩⟩, trivial⟩) ?_
          refine js_ifne (tgt := 255) dX12_handOver_231 (by decide) ?_ ?_
          · exact hK 255
          · refine js_aload_n dX12_handOver_234 ?_
            refine js_iload_n dX12_handOver_235 ?_
            refine js_aload_n dX12_handOver_236 ?_
            refine js_iload dX12_handOver_237 ?_
            refine js_callv dX12_handOver_239 (⟨⟨_, _, _, _, _, _, _, ⟨rfl, (show (11 : Nat) < 20 by decide), sX12_numberOf l n, by decide, by decide, tw_1164, tw_103, tw_1163⟩, Or.inl ⟨by decide +kernel, by decide +kernel, by decide +kernel, tw_1161, tw_72⟩⟩, trivial⟩) ?_
            refine js_callv dX12_handOver_242 (⟨⟨_, _, _, _, _, _, _, ⟨rfl, (show (11 : Nat) < 20 by decide), sX12_passes l n, by decide, by decide, tw_1172, tw_103, tw_1171⟩, Or.inl ⟨by decide +kernel, by decide +kernel, by decide +kernel, tw_1169, tw_74⟩⟩, trivial⟩) ?_
            refine js_aload_n dX12_handOver_245 ?_
            refine js_iload dX12_handOver_246 ?_
            refine js_iconst dX12_handOver_248 ?_
            refine js_callv dX12_handOver_249 (⟨⟨_, _, _, _, _, _, _, ⟨rfl, (show (11 : Nat) < 20 by decide), sX12_goes l n, by decide, by decide, tw_1168, tw_103, tw_1167⟩, Or.inl ⟨by decide +kernel, by decide +kernel, by decide +kernel, tw_1165, tw_73⟩⟩, trivial⟩) ?_
            refine js_goto (tgt := 262) dX12_handOver_252 (by decide) ?_
            exact hK 262
      · refine js_aload_n dX12_handOver_120 ?_
        refine js_get dX12_handOver_121 jf_32_11 tw_994 (Or.inl rfl) ?_
        refine js_bipush dX12_handOver_124 ?_
        refine js_iload_n dX12_handOver_126 ?_
        refine js_imul dX12_handOver_127 ?_
        refine js_iald dX12_handOver_128 ?_
        refine js_istore dX12_handOver_129 (by decide) ?_
        refine js_aload_n dX12_handOver_131 ?_
        refine js_get dX12_handOver_132 jf_24_11 tw_986 (Or.inl rfl) ?_
        refine js_iload_n dX12_handOver_135 ?_
        refine js_dup2 dX12_handOver_136 ?_
        refine js_iald dX12_handOver_137 ?_
        refine js_iconst dX12_handOver_138 ?_
        refine js_isub dX12_handOver_139 ?_
        refine js_iast dX12_handOver_140 ?_
        refine js_iconst dX12_handOver_141 ?_
        refine js_istore dX12_handOver_142 (by decide) ?_
        exact hK 144
    · refine js_iload dX12_handOver_38 ?_
      refine js_iflt (tgt := 70) dX12_handOver_40 (by decide) ?_ ?_
      · exact hK 70
      · refine js_aload_n dX12_handOver_43 ?_
        refine js_iload dX12_handOver_44 ?_
        refine js_callv dX12_handOver_46 (⟨⟨_, _, _, _, _, _, _, ⟨rfl, (show (11 : Nat) < 20 by decide), sX12_actOf l n, by decide, by decide, tw_1184, tw_103, tw_1183⟩, Or.inl ⟨by decide +kernel, by decide +kernel, by decide +kernel, tw_1181, tw_77⟩⟩, trivial⟩) ?_
        refine js_iconst dX12_handOver_49 ?_
        refine js_icmpne (tgt := 70) dX12_handOver_50 (by decide) ?_ ?_
        · exact hK 70
        · refine js_aload_n dX12_handOver_53 ?_
          refine js_iload_n dX12_handOver_54 ?_
          refine js_iconst dX12_handOver_55 ?_
          refine js_callv dX12_handOver_56 (⟨⟨_, _, _, _, _, _, _, ⟨rfl, (show (11 : Nat) < 20 by decide), sX12_passes l n, by decide, by decide, tw_1172, tw_103, tw_1171⟩, Or.inl ⟨by decide +kernel, by decide +kernel, by decide +kernel, tw_1169, tw_74⟩⟩, trivial⟩) ?_
          refine js_aload_n dX12_handOver_59 ?_
          refine js_iload dX12_handOver_60 ?_
          refine js_iload dX12_handOver_62 ?_
          refine js_callv dX12_handOver_64 (⟨⟨_, _, _, _, _, _, _, ⟨rfl, (show (11 : Nat) < 20 by decide), sX12_goes l n, by decide, by decide, tw_1168, tw_103, tw_1167⟩, Or.inl ⟨by decide +kernel, by decide +kernel, by decide +kernel, tw_1165, tw_73⟩⟩, trivial⟩) ?_
          refine js_goto (tgt := 262) dX12_handOver_67 (by decide) ?_
          exact hK 262
  · refine js_aload_n dX12_handOver_26 ?_
    refine js_iload_n dX12_handOver_27 ?_
    refine js_callv dX12_handOver_28 (⟨⟨_, _, _, _, _, _, _, ⟨rfl, (show (11 : Nat) < 20 by decide), sX12_misuse l n, by decide, by decide, tw_1204, tw_103, tw_1203⟩, Or.inl ⟨by decide +kernel, by decide +kernel, by decide +kernel, tw_1201, tw_82⟩⟩, trivial⟩) ?_
    refine js_goto (tgt := 262) dX12_handOver_31 (by decide) ?_
    exact hK 262
def kX12_handOver_70 (n : Nat) (K : Nat → jK) : jK := jk_kill 3 <| jk_kill 5 <| jk_aload 0 <| jk_get [11] 24 <| jk_iload 1 <| jk_iald <| jk_aload 0 <| jk_get [11] 19 <| jk_iload 1 <| jk_iald <| jk_icmpge (jk_aload 0 <| jk_iload 2 <| jk_vcall [(11, fX12_waits n)] 1 <| jk_istore 6 <| K 262) <| jk_aload 0 <| jk_iload 1 <| jk_iload 4 <| jk_vcall [(11, fX12_puts n)] 2 <| jk_aload 0 <| jk_iload 2 <| jk_int 0 <| jk_vcall [(11, fX12_passes n)] 2 <| K 262
set_option maxRecDepth 100000 in
set_option maxHeartbeats 4000000 in
theorem tX12_handOver_70 (l : Launch) (n : Nat) {K : Nat → jK} (hK : ∀ b, jr_D l cX12_handOver 8 "MeetingKitModel" (Option.none : Option Jvm.ClassFile.FieldType) "handOver" 4 90 (K b) b) : jr_D l cX12_handOver 8 "MeetingKitModel" (Option.none : Option Jvm.ClassFile.FieldType) "handOver" 4 90 (kX12_handOver_70 n K) 70 := by
  unfold kX12_handOver_70
  refine js_kill ?_
  refine js_kill ?_
  refine js_aload_n dX12_handOver_70 ?_
  refine js_get dX12_handOver_71 jf_24_11 tw_986 (Or.inl rfl) ?_
  refine js_iload_n dX12_handOver_74 ?_
  refine js_iald dX12_handOver_75 ?_
  refine js_aload_n dX12_handOver_76 ?_
  refine js_get dX12_handOver_77 jf_19_11 tw_981 (Or.inl rfl) ?_
  refine js_iload_n dX12_handOver_80 ?_
  refine js_iald dX12_handOver_81 ?_
  refine js_icmpge (tgt := 101) dX12_handOver_82 (by decide) ?_ ?_
  · refine js_aload_n dX12_handOver_101 ?_
    refine js_iload_n dX12_handOver_102 ?_
    refine js_callv dX12_handOver_103 (⟨⟨_, _, _, _, _, _, _, ⟨rfl, (show (11 : Nat) < 20 by decide), sX12_waits l n, by decide, by decide, tw_1208, tw_103, tw_1207⟩, Or.inl ⟨by decide +kernel, by decide +kernel, by decide +kernel, tw_1205, tw_83⟩⟩, trivial⟩) ?_
    refine js_istore dX12_handOver_106 (by decide) ?_
    refine js_goto (tgt := 262) dX12_handOver_108 (by decide) ?_
    exact hK 262
  · refine js_aload_n dX12_handOver_85 ?_
    refine js_iload_n dX12_handOver_86 ?_
    refine js_iload dX12_handOver_87 ?_
    refine js_callv dX12_handOver_89 (⟨⟨_, _, _, _, _, _, _, ⟨rfl, (show (11 : Nat) < 20 by decide), sX12_puts l n, by decide, by decide, tw_1232, tw_103, tw_1231⟩, Or.inl ⟨by decide +kernel, by decide +kernel, by decide +kernel, tw_1229, tw_89⟩⟩, trivial⟩) ?_
    refine js_aload_n dX12_handOver_92 ?_
    refine js_iload_n dX12_handOver_93 ?_
    refine js_iconst dX12_handOver_94 ?_
    refine js_callv dX12_handOver_95 (⟨⟨_, _, _, _, _, _, _, ⟨rfl, (show (11 : Nat) < 20 by decide), sX12_passes l n, by decide, by decide, tw_1172, tw_103, tw_1171⟩, Or.inl ⟨by decide +kernel, by decide +kernel, by decide +kernel, tw_1169, tw_74⟩⟩, trivial⟩) ?_
    refine js_goto (tgt := 262) dX12_handOver_98 (by decide) ?_
    exact hK 262
def kX12_handOver_144 (n : Nat) (K : Nat → jK) : jK := jk_kill 3 <| jk_kill 4 <| jk_iload 7 <| jk_aload 0 <| jk_get [11] 24 <| jk_iload 1 <| jk_iald <| jk_icmpge (jk_aload 0 <| jk_iload 2 <| jk_iload 6 <| jk_vcall [(11, fX12_passes n)] 2 <| jk_iload 5 <| jk_iflt (K 217) <| jk_aload 0 <| jk_iload 1 <| jk_aload 0 <| jk_iload 5 <| jk_vcall [(11, fX12_numberOf n)] 1 <| jk_vcall [(11, fX12_puts n)] 2 <| jk_aload 0 <| jk_iload 5 <| jk_int 0 <| jk_vcall [(11, fX12_goes n)] 2 <| K 217) <| jk_aload 0 <| jk_get [11] 32 <| jk_int 8 <| jk_iload 1 <| jk_imul <| jk_iload 7 <| jk_iadd <| jk_aload 0 <| jk_get [11] 32 <| jk_int 8 <| jk_iload 1 <| jk_imul <| jk_iload 7 <| jk_iadd <| jk_int 1 <| jk_iadd <| jk_iald <| jk_iast <| jk_iinc 7 1 <| K 144
set_option maxRecDepth 100000 in
set_option maxHeartbeats 4000000 in
theorem tX12_handOver_144 (l : Launch) (n : Nat) {K : Nat → jK} (hK : ∀ b, jr_D l cX12_handOver 8 "MeetingKitModel" (Option.none : Option Jvm.ClassFile.FieldType) "handOver" 4 90 (K b) b) : jr_D l cX12_handOver 8 "MeetingKitModel" (Option.none : Option Jvm.ClassFile.FieldType) "handOver" 4 90 (kX12_handOver_144 n K) 144 := by
  unfold kX12_handOver_144
  refine js_kill ?_
  refine js_kill ?_
  refine js_iload dX12_handOver_144 ?_
  refine js_aload_n dX12_handOver_146 ?_
  refine js_get dX12_handOver_147 jf_24_11 tw_986 (Or.inl rfl) ?_
  refine js_iload_n dX12_handOver_150 ?_
  refine js_iald dX12_handOver_151 ?_
  refine js_icmpge (tgt := 187) dX12_handOver_152 (by decide) ?_ ?_
  · refine js_aload_n dX12_handOver_187 ?_
    refine js_iload_n dX12_handOver_188 ?_
    refine js_iload dX12_handOver_189 ?_
    refine js_callv dX12_handOver_191 (⟨⟨_, _, _, _, _, _, _, ⟨rfl, (show (11 : Nat) < 20 by decide), sX12_passes l n, by decide, by decide, tw_1172, tw_103, tw_1171⟩, Or.inl ⟨by decide +kernel, by decide +kernel, by decide +kernel, tw_1169, tw_74⟩⟩, trivial⟩) ?_
    refine js_iload dX12_handOver_194 ?_
    refine js_iflt (tgt := 217) dX12_handOver_196 (by decide) ?_ ?_
    · exact hK 217
    · refine js_aload_n dX12_handOver_199 ?_
      refine js_iload_n dX12_handOver_200 ?_
      refine js_aload_n dX12_handOver_201 ?_
      refine js_iload dX12_handOver_202 ?_
      refine js_callv dX12_handOver_204 (⟨⟨_, _, _, _, _, _, _, ⟨rfl, (show (11 : Nat) < 20 by decide), sX12_numberOf l n, by decide, by decide, tw_1164, tw_103, tw_1163⟩, Or.inl ⟨by decide +kernel, by decide +kernel, by decide +kernel, tw_1161, tw_72⟩⟩, trivial⟩) ?_
      refine js_callv dX12_handOver_207 (⟨⟨_, _, _, _, _, _, _, ⟨rfl, (show (11 : Nat) < 20 by decide), sX12_puts l n, by decide, by decide, tw_1232, tw_103, tw_1231⟩, Or.inl ⟨by decide +kernel, by decide +kernel, by decide +kernel, tw_1229, tw_89⟩⟩, trivial⟩) ?_
      refine js_aload_n dX12_handOver_210 ?_
      refine js_iload dX12_handOver_211 ?_
      refine js_iconst dX12_handOver_213 ?_
      refine js_callv dX12_handOver_214 (⟨⟨_, _, _, _, _, _, _, ⟨rfl, (show (11 : Nat) < 20 by decide), sX12_goes l n, by decide, by decide, tw_1168, tw_103, tw_1167⟩, Or.inl ⟨by decide +kernel, by decide +kernel, by decide +kernel, tw_1165, tw_73⟩⟩, trivial⟩) ?_
      exact hK 217
  · refine js_aload_n dX12_handOver_155 ?_
    refine js_get dX12_handOver_156 jf_32_11 tw_994 (Or.inl rfl) ?_
    refine js_bipush dX12_handOver_159 ?_
    refine js_iload_n dX12_handOver_161 ?_
    refine js_imul dX12_handOver_162 ?_
    refine js_iload dX12_handOver_163 ?_
    refine js_iadd dX12_handOver_165 ?_
    refine js_aload_n dX12_handOver_166 ?_
    refine js_get dX12_handOver_167 jf_32_11 tw_994 (Or.inl rfl) ?_
    refine js_bipush dX12_handOver_170 ?_
    refine js_iload_n dX12_handOver_172 ?_
    refine js_imul dX12_handOver_173 ?_
    refine js_iload dX12_handOver_174 ?_
    refine js_iadd dX12_handOver_176 ?_
    refine js_iconst dX12_handOver_177 ?_
    refine js_iadd dX12_handOver_178 ?_
    refine js_iald dX12_handOver_179 ?_
    refine js_iast dX12_handOver_180 ?_
    refine js_iinc dX12_handOver_181 (by decide) ?_
    refine js_goto (tgt := 144) dX12_handOver_184 (by decide) ?_
    exact hK 144
def kX12_handOver_217 (n : Nat) (K : Nat → jK) : jK := jk_kill 0 <| jk_kill 1 <| jk_kill 2 <| jk_kill 3 <| jk_kill 4 <| jk_kill 5 <| jk_kill 6 <| jk_kill 7 <| K 262
set_option maxRecDepth 100000 in
set_option maxHeartbeats 4000000 in
theorem tX12_handOver_217 (l : Launch) (n : Nat) {K : Nat → jK} (hK : ∀ b, jr_D l cX12_handOver 8 "MeetingKitModel" (Option.none : Option Jvm.ClassFile.FieldType) "handOver" 4 90 (K b) b) : jr_D l cX12_handOver 8 "MeetingKitModel" (Option.none : Option Jvm.ClassFile.FieldType) "handOver" 4 90 (kX12_handOver_217 n K) 217 := by
  unfold kX12_handOver_217
  refine js_kill ?_
  refine js_kill ?_
  refine js_kill ?_
  refine js_kill ?_
  refine js_kill ?_
  refine js_kill ?_
  refine js_kill ?_
  refine js_kill ?_
  refine js_goto (tgt := 262) dX12_handOver_217 (by decide) ?_
  exact hK 262
def kX12_handOver_255 (n : Nat) (K : Nat → jK) : jK := jk_kill 1 <| jk_kill 3 <| jk_kill 4 <| jk_kill 5 <| jk_aload 0 <| jk_iload 2 <| jk_vcall [(11, fX12_waits n)] 1 <| jk_istore 6 <| K 262
set_option maxRecDepth 100000 in
set_option maxHeartbeats 4000000 in
theorem tX12_handOver_255 (l : Launch) (n : Nat) {K : Nat → jK} (hK : ∀ b, jr_D l cX12_handOver 8 "MeetingKitModel" (Option.none : Option Jvm.ClassFile.FieldType) "handOver" 4 90 (K b) b) : jr_D l cX12_handOver 8 "MeetingKitModel" (Option.none : Option Jvm.ClassFile.FieldType) "handOver" 4 90 (kX12_handOver_255 n K) 255 := by
  unfold kX12_handOver_255
  refine js_kill ?_
  refine js_kill ?_
  refine js_kill ?_
  refine js_kill ?_
  refine js_aload_n dX12_handOver_255 ?_
  refine js_iload_n dX12_handOver_256 ?_
  refine js_callv dX12_handOver_257 (⟨⟨_, _, _, _, _, _, _, ⟨rfl, (show (11 : Nat) < 20 by decide), sX12_waits l n, by decide, by decide, tw_1208, tw_103, tw_1207⟩, Or.inl ⟨by decide +kernel, by decide +kernel, by decide +kernel, tw_1205, tw_83⟩⟩, trivial⟩) ?_
  refine js_istore dX12_handOver_260 (by decide) ?_
  exact hK 262
def kX12_handOver_262 (n : Nat) (K : Nat → jK) : jK := jk_kill 0 <| jk_kill 1 <| jk_kill 2 <| jk_kill 3 <| jk_kill 4 <| jk_kill 5 <| jk_kill 6 <| jk_kill 7 <| jk_vret
set_option maxRecDepth 100000 in
set_option maxHeartbeats 4000000 in
theorem tX12_handOver_262 (l : Launch) (n : Nat) {K : Nat → jK} (hK : ∀ b, jr_D l cX12_handOver 8 "MeetingKitModel" (Option.none : Option Jvm.ClassFile.FieldType) "handOver" 4 90 (K b) b) : jr_D l cX12_handOver 8 "MeetingKitModel" (Option.none : Option Jvm.ClassFile.FieldType) "handOver" 4 90 (kX12_handOver_262 n K) 262 := by
  unfold kX12_handOver_262
  refine js_kill ?_
  refine js_kill ?_
  refine js_kill ?_
  refine js_kill ?_
  refine js_kill ?_
  refine js_kill ?_
  refine js_kill ?_
  refine js_kill ?_
  exact js_vret dX12_handOver_262 rfl
def kX12_handOver_b (n : Nat) (K : Nat → jK) (b : Nat) : jK := if b = 0 then kX12_handOver_0 n K else if b = 19 then kX12_handOver_19 n K else if b = 70 then kX12_handOver_70 n K else if b = 144 then kX12_handOver_144 n K else if b = 217 then kX12_handOver_217 n K else if b = 255 then kX12_handOver_255 n K else if b = 262 then kX12_handOver_262 n K else jk_none
def kX12_handOver (n : Nat) : jK := jk_fix (kX12_handOver_b n) n 0
theorem tX12_handOver (l : Launch) (n : Nat) : jr_D l cX12_handOver 8 "MeetingKitModel" (Option.none : Option Jvm.ClassFile.FieldType) "handOver" 4 90 (kX12_handOver n) 0 := js_fix (F := kX12_handOver_b n) (fun K hK b => js_blk (tX12_handOver_0 l n hK) (js_blk (tX12_handOver_19 l n hK) (js_blk (tX12_handOver_70 l n hK) (js_blk (tX12_handOver_144 l n hK) (js_blk (tX12_handOver_217 l n hK) (js_blk (tX12_handOver_255 l n hK) (js_blk (tX12_handOver_262 l n hK) (js_none)))))))) n 0
def fX12_handOver (n : Nat) : jF := jm_run 5 8 (kX12_handOver n)
theorem sX12_handOver (l : Launch) (n : Nat) : jr_F l (⟨"MeetingKitModel", "handOver", "(IIII)V"⟩ : MethodName) cX12_handOver 8 (Option.none : Option Jvm.ClassFile.FieldType) 4 90 (fX12_handOver n) := js_met (by decide +kernel) (by decide) (tX12_handOver l n)
theorem dX12_tickets_0 : decode cX12_tickets 0 = .ok (.iload_n 3, 1) := by decide +kernel
theorem dX12_tickets_1 : decode cX12_tickets 1 = .ok (.ifCond .ne 29, 3) := by decide +kernel
theorem dX12_tickets_4 : decode cX12_tickets 4 = .ok (.aload_n 0, 1) := by decide +kernel
theorem dX12_tickets_5 : decode cX12_tickets 5 = .ok (.getfield 73, 3) := by decide +kernel
theorem dX12_tickets_8 : decode cX12_tickets 8 = .ok (.iload_n 1, 1) := by decide +kernel
theorem dX12_tickets_9 : decode cX12_tickets 9 = .ok (.dup2, 1) := by decide +kernel
theorem dX12_tickets_10 : decode cX12_tickets 10 = .ok (.iaload, 1) := by decide +kernel
theorem dX12_tickets_11 : decode cX12_tickets 11 = .ok (.iconst 1, 1) := by decide +kernel
theorem dX12_tickets_12 : decode cX12_tickets 12 = .ok (.iadd, 1) := by decide +kernel
theorem dX12_tickets_13 : decode cX12_tickets 13 = .ok (.iastore, 1) := by decide +kernel
theorem dX12_tickets_14 : decode cX12_tickets 14 = .ok (.aload_n 0, 1) := by decide +kernel
theorem dX12_tickets_15 : decode cX12_tickets 15 = .ok (.iload_n 2, 1) := by decide +kernel
theorem dX12_tickets_16 : decode cX12_tickets 16 = .ok (.aload_n 0, 1) := by decide +kernel
theorem dX12_tickets_17 : decode cX12_tickets 17 = .ok (.getfield 73, 3) := by decide +kernel
theorem dX12_tickets_20 : decode cX12_tickets 20 = .ok (.iload_n 1, 1) := by decide +kernel
theorem dX12_tickets_21 : decode cX12_tickets 21 = .ok (.iaload, 1) := by decide +kernel
theorem dX12_tickets_22 : decode cX12_tickets 22 = .ok (.iconst 1, 1) := by decide +kernel
theorem dX12_tickets_23 : decode cX12_tickets 23 = .ok (.isub, 1) := by decide +kernel
theorem dX12_tickets_24 : decode cX12_tickets 24 = .ok (.invokevirtual 165, 3) := by decide +kernel
theorem dX12_tickets_27 : decode cX12_tickets 27 = .ok (.goto 116, 3) := by decide +kernel
theorem dX12_tickets_30 : decode cX12_tickets 30 = .ok (.iload_n 3, 1) := by decide +kernel
theorem dX12_tickets_31 : decode cX12_tickets 31 = .ok (.iconst 1, 1) := by decide +kernel
theorem dX12_tickets_32 : decode cX12_tickets 32 = .ok (.if_icmp .ne 49, 3) := by decide +kernel
theorem dX12_tickets_35 : decode cX12_tickets 35 = .ok (.iload 4, 2) := by decide +kernel
theorem dX12_tickets_37 : decode cX12_tickets 37 = .ok (.ifCond .lt 44, 3) := by decide +kernel
theorem dX12_tickets_40 : decode cX12_tickets 40 = .ok (.iload 4, 2) := by decide +kernel
theorem dX12_tickets_42 : decode cX12_tickets 42 = .ok (.aload_n 0, 1) := by decide +kernel
theorem dX12_tickets_43 : decode cX12_tickets 43 = .ok (.getfield 73, 3) := by decide +kernel
theorem dX12_tickets_46 : decode cX12_tickets 46 = .ok (.iload_n 1, 1) := by decide +kernel
theorem dX12_tickets_47 : decode cX12_tickets 47 = .ok (.iaload, 1) := by decide +kernel
theorem dX12_tickets_48 : decode cX12_tickets 48 = .ok (.if_icmp .ge 33, 3) := by decide +kernel
theorem dX12_tickets_51 : decode cX12_tickets 51 = .ok (.iload 4, 2) := by decide +kernel
theorem dX12_tickets_53 : decode cX12_tickets 53 = .ok (.aload_n 0, 1) := by decide +kernel
theorem dX12_tickets_54 : decode cX12_tickets 54 = .ok (.getfield 82, 3) := by decide +kernel
theorem dX12_tickets_57 : decode cX12_tickets 57 = .ok (.iload_n 1, 1) := by decide +kernel
theorem dX12_tickets_58 : decode cX12_tickets 58 = .ok (.iaload, 1) := by decide +kernel
theorem dX12_tickets_59 : decode cX12_tickets 59 = .ok (.if_icmp .ge 12, 3) := by decide +kernel
theorem dX12_tickets_62 : decode cX12_tickets 62 = .ok (.aload_n 0, 1) := by decide +kernel
theorem dX12_tickets_63 : decode cX12_tickets 63 = .ok (.iload_n 2, 1) := by decide +kernel
theorem dX12_tickets_64 : decode cX12_tickets 64 = .ok (.iconst 0, 1) := by decide +kernel
theorem dX12_tickets_65 : decode cX12_tickets 65 = .ok (.invokevirtual 165, 3) := by decide +kernel
theorem dX12_tickets_68 : decode cX12_tickets 68 = .ok (.goto 75, 3) := by decide +kernel
theorem dX12_tickets_71 : decode cX12_tickets 71 = .ok (.aload_n 0, 1) := by decide +kernel
theorem dX12_tickets_72 : decode cX12_tickets 72 = .ok (.iload_n 2, 1) := by decide +kernel
theorem dX12_tickets_73 : decode cX12_tickets 73 = .ok (.invokevirtual 195, 3) := by decide +kernel
theorem dX12_tickets_76 : decode cX12_tickets 76 = .ok (.istore 5, 2) := by decide +kernel
theorem dX12_tickets_78 : decode cX12_tickets 78 = .ok (.goto 65, 3) := by decide +kernel
theorem dX12_tickets_81 : decode cX12_tickets 81 = .ok (.iload_n 3, 1) := by decide +kernel
theorem dX12_tickets_82 : decode cX12_tickets 82 = .ok (.iconst 2, 1) := by decide +kernel
theorem dX12_tickets_83 : decode cX12_tickets 83 = .ok (.if_icmp .eq 11, 3) := by decide +kernel
theorem dX12_tickets_86 : decode cX12_tickets 86 = .ok (.aload_n 0, 1) := by decide +kernel
theorem dX12_tickets_87 : decode cX12_tickets 87 = .ok (.iload_n 2, 1) := by decide +kernel
theorem dX12_tickets_88 : decode cX12_tickets 88 = .ok (.invokevirtual 192, 3) := by decide +kernel
theorem dX12_tickets_91 : decode cX12_tickets 91 = .ok (.goto 52, 3) := by decide +kernel
theorem dX12_tickets_94 : decode cX12_tickets 94 = .ok (.aload_n 0, 1) := by decide +kernel
theorem dX12_tickets_95 : decode cX12_tickets 95 = .ok (.getfield 82, 3) := by decide +kernel
theorem dX12_tickets_98 : decode cX12_tickets 98 = .ok (.iload_n 1, 1) := by decide +kernel
theorem dX12_tickets_99 : decode cX12_tickets 99 = .ok (.iaload, 1) := by decide +kernel
theorem dX12_tickets_100 : decode cX12_tickets 100 = .ok (.aload_n 0, 1) := by decide +kernel
theorem dX12_tickets_101 : decode cX12_tickets 101 = .ok (.getfield 73, 3) := by decide +kernel
theorem dX12_tickets_104 : decode cX12_tickets 104 = .ok (.iload_n 1, 1) := by decide +kernel
theorem dX12_tickets_105 : decode cX12_tickets 105 = .ok (.iaload, 1) := by decide +kernel
theorem dX12_tickets_106 : decode cX12_tickets 106 = .ok (.if_icmp .ne 14, 3) := by decide +kernel
theorem dX12_tickets_109 : decode cX12_tickets 109 = .ok (.aload_n 0, 1) := by decide +kernel
theorem dX12_tickets_110 : decode cX12_tickets 110 = .ok (.iload_n 2, 1) := by decide +kernel
theorem dX12_tickets_111 : decode cX12_tickets 111 = .ok (.bipush 7, 2) := by decide +kernel
theorem dX12_tickets_113 : decode cX12_tickets 113 = .ok (.iconst 0, 1) := by decide +kernel
theorem dX12_tickets_114 : decode cX12_tickets 114 = .ok (.invokevirtual 149, 3) := by decide +kernel
theorem dX12_tickets_117 : decode cX12_tickets 117 = .ok (.goto 26, 3) := by decide +kernel
theorem dX12_tickets_120 : decode cX12_tickets 120 = .ok (.aload_n 0, 1) := by decide +kernel
theorem dX12_tickets_121 : decode cX12_tickets 121 = .ok (.getfield 82, 3) := by decide +kernel
theorem dX12_tickets_124 : decode cX12_tickets 124 = .ok (.iload_n 1, 1) := by decide +kernel
theorem dX12_tickets_125 : decode cX12_tickets 125 = .ok (.dup2, 1) := by decide +kernel
theorem dX12_tickets_126 : decode cX12_tickets 126 = .ok (.iaload, 1) := by decide +kernel
theorem dX12_tickets_127 : decode cX12_tickets 127 = .ok (.iconst 1, 1) := by decide +kernel
theorem dX12_tickets_128 : decode cX12_tickets 128 = .ok (.iadd, 1) := by decide +kernel
theorem dX12_tickets_129 : decode cX12_tickets 129 = .ok (.iastore, 1) := by decide +kernel
theorem dX12_tickets_130 : decode cX12_tickets 130 = .ok (.aload_n 0, 1) := by decide +kernel
theorem dX12_tickets_131 : decode cX12_tickets 131 = .ok (.iload_n 2, 1) := by decide +kernel
theorem dX12_tickets_132 : decode cX12_tickets 132 = .ok (.aload_n 0, 1) := by decide +kernel
theorem dX12_tickets_133 : decode cX12_tickets 133 = .ok (.getfield 82, 3) := by decide +kernel
theorem dX12_tickets_136 : decode cX12_tickets 136 = .ok (.iload_n 1, 1) := by decide +kernel
theorem dX12_tickets_137 : decode cX12_tickets 137 = .ok (.iaload, 1) := by decide +kernel
theorem dX12_tickets_138 : decode cX12_tickets 138 = .ok (.iconst 1, 1) := by decide +kernel
theorem dX12_tickets_139 : decode cX12_tickets 139 = .ok (.isub, 1) := by decide +kernel
theorem dX12_tickets_140 : decode cX12_tickets 140 = .ok (.invokevirtual 165, 3) := by decide +kernel
theorem dX12_tickets_143 : decode cX12_tickets 143 = .ok (.return_, 1) := by decide +kernel
def kX12_tickets_0 (n : Nat) (K : Nat → jK) : jK := jk_iload 3 <| jk_ifne (jk_iload 3 <| jk_int 1 <| jk_icmpne (K 81) <| jk_iload 4 <| jk_iflt (K 81) <| jk_iload 4 <| jk_aload 0 <| jk_get [11] 24 <| jk_iload 1 <| jk_iald <| jk_icmpge (K 81) <| jk_iload 4 <| jk_aload 0 <| jk_get [11] 27 <| jk_iload 1 <| jk_iald <| jk_icmpge (jk_aload 0 <| jk_iload 2 <| jk_vcall [(11, fX12_waits n)] 1 <| jk_istore 5 <| K 143) <| jk_aload 0 <| jk_iload 2 <| jk_int 0 <| jk_vcall [(11, fX12_passes n)] 2 <| K 143) <| jk_aload 0 <| jk_get [11] 24 <| jk_iload 1 <| jk_dup2 <| jk_iald <| jk_int 1 <| jk_iadd <| jk_iast <| jk_aload 0 <| jk_iload 2 <| jk_aload 0 <| jk_get [11] 24 <| jk_iload 1 <| jk_iald <| jk_int 1 <| jk_isub <| jk_vcall [(11, fX12_passes n)] 2 <| K 143
set_option maxRecDepth 100000 in
set_option maxHeartbeats 4000000 in
theorem tX12_tickets_0 (l : Launch) (n : Nat) {K : Nat → jK} (hK : ∀ b, jr_D l cX12_tickets 6 "MeetingKitModel" (Option.none : Option Jvm.ClassFile.FieldType) "tickets" 4 90 (K b) b) : jr_D l cX12_tickets 6 "MeetingKitModel" (Option.none : Option Jvm.ClassFile.FieldType) "tickets" 4 90 (kX12_tickets_0 n K) 0 := by
  unfold kX12_tickets_0
  refine js_iload_n dX12_tickets_0 ?_
  refine js_ifne (tgt := 30) dX12_tickets_1 (by decide) ?_ ?_
  · refine js_iload_n dX12_tickets_30 ?_
    refine js_iconst dX12_tickets_31 ?_
    refine js_icmpne (tgt := 81) dX12_tickets_32 (by decide) ?_ ?_
    · exact hK 81
    · refine js_iload dX12_tickets_35 ?_
      refine js_iflt (tgt := 81) dX12_tickets_37 (by decide) ?_ ?_
      · exact hK 81
      · refine js_iload dX12_tickets_40 ?_
        refine js_aload_n dX12_tickets_42 ?_
        refine js_get dX12_tickets_43 jf_24_11 tw_986 (Or.inl rfl) ?_
        refine js_iload_n dX12_tickets_46 ?_
        refine js_iald dX12_tickets_47 ?_
        refine js_icmpge (tgt := 81) dX12_tickets_48 (by decide) ?_ ?_
        · exact hK 81
        · refine js_iload dX12_tickets_51 ?_
          refine js_aload_n dX12_tickets_53 ?_
          refine js_get dX12_tickets_54 jf_27_11 tw_989 (Or.inl rfl) ?_
          refine js_iload_n dX12_tickets_57 ?_
          refine js_iald dX12_tickets_58 ?_
          refine js_icmpge (tgt := 71) dX12_tickets_59 (by decide) ?_ ?_
          · refine js_aload_n dX12_tickets_71 ?_
            refine js_iload_n dX12_tickets_72 ?_
            refine js_callv dX12_tickets_73 (⟨⟨_, _, _, _, _, _, _, ⟨rfl, (show (11 : Nat) < 20 by decide), sX12_waits l n, by decide, by decide, tw_1208, tw_103, tw_1207⟩, Or.inl ⟨by decide +kernel, by decide +kernel, by decide +kernel, tw_1205, tw_83⟩⟩, trivial⟩) ?_
            refine js_istore dX12_tickets_76 (by decide) ?_
            refine js_goto (tgt := 143) dX12_tickets_78 (by decide) ?_
            exact hK 143
          · refine js_aload_n dX12_tickets_62 ?_
            refine js_iload_n dX12_tickets_63 ?_
            refine js_iconst dX12_tickets_64 ?_
            refine js_callv dX12_tickets_65 (⟨⟨_, _, _, _, _, _, _, ⟨rfl, (show (11 : Nat) < 20 by decide), sX12_passes l n, by decide, by decide, tw_1172, tw_103, tw_1171⟩, Or.inl ⟨by decide +kernel, by decide +kernel, by decide +kernel, tw_1169, tw_74⟩⟩, trivial⟩) ?_
            refine js_goto (tgt := 143) dX12_tickets_68 (by decide) ?_
            exact hK 143
  · refine js_aload_n dX12_tickets_4 ?_
    refine js_get dX12_tickets_5 jf_24_11 tw_986 (Or.inl rfl) ?_
    refine js_iload_n dX12_tickets_8 ?_
    refine js_dup2 dX12_tickets_9 ?_
    refine js_iald dX12_tickets_10 ?_
    refine js_iconst dX12_tickets_11 ?_
    refine js_iadd dX12_tickets_12 ?_
    refine js_iast dX12_tickets_13 ?_
    refine js_aload_n dX12_tickets_14 ?_
    refine js_iload_n dX12_tickets_15 ?_
    refine js_aload_n dX12_tickets_16 ?_
    refine js_get dX12_tickets_17 jf_24_11 tw_986 (Or.inl rfl) ?_
    refine js_iload_n dX12_tickets_20 ?_
    refine js_iald dX12_tickets_21 ?_
    refine js_iconst dX12_tickets_22 ?_
    refine js_isub dX12_tickets_23 ?_
    refine js_callv dX12_tickets_24 (⟨⟨_, _, _, _, _, _, _, ⟨rfl, (show (11 : Nat) < 20 by decide), sX12_passes l n, by decide, by decide, tw_1172, tw_103, tw_1171⟩, Or.inl ⟨by decide +kernel, by decide +kernel, by decide +kernel, tw_1169, tw_74⟩⟩, trivial⟩) ?_
    refine js_goto (tgt := 143) dX12_tickets_27 (by decide) ?_
    exact hK 143
def kX12_tickets_81 (n : Nat) (K : Nat → jK) : jK := jk_kill 4 <| jk_iload 3 <| jk_int 2 <| jk_icmpeq (jk_aload 0 <| jk_get [11] 27 <| jk_iload 1 <| jk_iald <| jk_aload 0 <| jk_get [11] 24 <| jk_iload 1 <| jk_iald <| jk_icmpne (jk_aload 0 <| jk_get [11] 27 <| jk_iload 1 <| jk_dup2 <| jk_iald <| jk_int 1 <| jk_iadd <| jk_iast <| jk_aload 0 <| jk_iload 2 <| jk_aload 0 <| jk_get [11] 27 <| jk_iload 1 <| jk_iald <| jk_int 1 <| jk_isub <| jk_vcall [(11, fX12_passes n)] 2 <| K 143) <| jk_aload 0 <| jk_iload 2 <| jk_int 7 <| jk_int 0 <| jk_vcall [(11, fX12_ends n)] 3 <| K 143) <| jk_aload 0 <| jk_iload 2 <| jk_vcall [(11, fX12_misuse n)] 1 <| K 143
set_option maxRecDepth 100000 in
set_option maxHeartbeats 4000000 in
theorem tX12_tickets_81 (l : Launch) (n : Nat) {K : Nat → jK} (hK : ∀ b, jr_D l cX12_tickets 6 "MeetingKitModel" (Option.none : Option Jvm.ClassFile.FieldType) "tickets" 4 90 (K b) b) : jr_D l cX12_tickets 6 "MeetingKitModel" (Option.none : Option Jvm.ClassFile.FieldType) "tickets" 4 90 (kX12_tickets_81 n K) 81 := by
  unfold kX12_tickets_81
  refine js_kill ?_
  refine js_iload_n dX12_tickets_81 ?_
  refine js_iconst dX12_tickets_82 ?_
  refine js_icmpeq (tgt := 94) dX12_tickets_83 (by decide) ?_ ?_
  · refine js_aload_n dX12_tickets_94 ?_
    refine js_get dX12_tickets_95 jf_27_11 tw_989 (Or.inl rfl) ?_
    refine js_iload_n dX12_tickets_98 ?_
    refine js_iald dX12_tickets_99 ?_
    refine js_aload_n dX12_tickets_100 ?_
    refine js_get dX12_tickets_101 jf_24_11 tw_986 (Or.inl rfl) ?_
    refine js_iload_n dX12_tickets_104 ?_
    refine js_iald dX12_tickets_105 ?_
    refine js_icmpne (tgt := 120) dX12_tickets_106 (by decide) ?_ ?_
    · refine js_aload_n dX12_tickets_120 ?_
      refine js_get dX12_tickets_121 jf_27_11 tw_989 (Or.inl rfl) ?_
      refine js_iload_n dX12_tickets_124 ?_
      refine js_dup2 dX12_tickets_125 ?_
      refine js_iald dX12_tickets_126 ?_
      refine js_iconst dX12_tickets_127 ?_
      refine js_iadd dX12_tickets_128 ?_
      refine js_iast dX12_tickets_129 ?_
      refine js_aload_n dX12_tickets_130 ?_
      refine js_iload_n dX12_tickets_131 ?_
      refine js_aload_n dX12_tickets_132 ?_
      refine js_get dX12_tickets_133 jf_27_11 tw_989 (Or.inl rfl) ?_
      refine js_iload_n dX12_tickets_136 ?_
      refine js_iald dX12_tickets_137 ?_
      refine js_iconst dX12_tickets_138 ?_
      refine js_isub dX12_tickets_139 ?_
      refine js_callv dX12_tickets_140 (⟨⟨_, _, _, _, _, _, _, ⟨rfl, (show (11 : Nat) < 20 by decide), sX12_passes l n, by decide, by decide, tw_1172, tw_103, tw_1171⟩, Or.inl ⟨by decide +kernel, by decide +kernel, by decide +kernel, tw_1169, tw_74⟩⟩, trivial⟩) ?_
      exact hK 143
    · refine js_aload_n dX12_tickets_109 ?_
      refine js_iload_n dX12_tickets_110 ?_
      refine js_bipush dX12_tickets_111 ?_
      refine js_iconst dX12_tickets_113 ?_
      refine js_callv dX12_tickets_114 (⟨⟨_, _, _, _, _, _, _, ⟨rfl, (show (11 : Nat) < 20 by decide), sX12_ends l n, by decide, by decide, tw_1148, tw_103, tw_1147⟩, Or.inl ⟨by decide +kernel, by decide +kernel, by decide +kernel, tw_1145, tw_68⟩⟩, trivial⟩) ?_
      refine js_goto (tgt := 143) dX12_tickets_117 (by decide) ?_
      exact hK 143
  · refine js_aload_n dX12_tickets_86 ?_
    refine js_iload_n dX12_tickets_87 ?_
    refine js_callv dX12_tickets_88 (⟨⟨_, _, _, _, _, _, _, ⟨rfl, (show (11 : Nat) < 20 by decide), sX12_misuse l n, by decide, by decide, tw_1204, tw_103, tw_1203⟩, Or.inl ⟨by decide +kernel, by decide +kernel, by decide +kernel, tw_1201, tw_82⟩⟩, trivial⟩) ?_
    refine js_goto (tgt := 143) dX12_tickets_91 (by decide) ?_
    exact hK 143
def kX12_tickets_143 (n : Nat) (K : Nat → jK) : jK := jk_kill 0 <| jk_kill 1 <| jk_kill 2 <| jk_kill 3 <| jk_kill 4 <| jk_kill 5 <| jk_vret
set_option maxRecDepth 100000 in
set_option maxHeartbeats 4000000 in
theorem tX12_tickets_143 (l : Launch) (n : Nat) {K : Nat → jK} (hK : ∀ b, jr_D l cX12_tickets 6 "MeetingKitModel" (Option.none : Option Jvm.ClassFile.FieldType) "tickets" 4 90 (K b) b) : jr_D l cX12_tickets 6 "MeetingKitModel" (Option.none : Option Jvm.ClassFile.FieldType) "tickets" 4 90 (kX12_tickets_143 n K) 143 := by
  unfold kX12_tickets_143
  refine js_kill ?_
  refine js_kill ?_
  refine js_kill ?_
  refine js_kill ?_
  refine js_kill ?_
  refine js_kill ?_
  exact js_vret dX12_tickets_143 rfl
def kX12_tickets_b (n : Nat) (K : Nat → jK) (b : Nat) : jK := if b = 0 then kX12_tickets_0 n K else if b = 81 then kX12_tickets_81 n K else if b = 143 then kX12_tickets_143 n K else jk_none
def kX12_tickets (n : Nat) : jK := jk_fix (kX12_tickets_b n) n 0
theorem tX12_tickets (l : Launch) (n : Nat) : jr_D l cX12_tickets 6 "MeetingKitModel" (Option.none : Option Jvm.ClassFile.FieldType) "tickets" 4 90 (kX12_tickets n) 0 := js_fix (F := kX12_tickets_b n) (fun K hK b => js_blk (tX12_tickets_0 l n hK) (js_blk (tX12_tickets_81 l n hK) (js_blk (tX12_tickets_143 l n hK) (js_none)))) n 0
def fX12_tickets (n : Nat) : jF := jm_run 5 6 (kX12_tickets n)
theorem sX12_tickets (l : Launch) (n : Nat) : jr_F l (⟨"MeetingKitModel", "tickets", "(IIII)V"⟩ : MethodName) cX12_tickets 6 (Option.none : Option Jvm.ClassFile.FieldType) 4 90 (fX12_tickets n) := js_met (by decide +kernel) (by decide) (tX12_tickets l n)
theorem dX12_cell_0 : decode cX12_cell 0 = .ok (.iload_n 3, 1) := by decide +kernel
theorem dX12_cell_1 : decode cX12_cell 1 = .ok (.iconst 1, 1) := by decide +kernel
theorem dX12_cell_2 : decode cX12_cell 2 = .ok (.if_icmp .gt 17, 3) := by decide +kernel
theorem dX12_cell_5 : decode cX12_cell 5 = .ok (.iload_n 3, 1) := by decide +kernel
theorem dX12_cell_6 : decode cX12_cell 6 = .ok (.ifCond .ne 21, 3) := by decide +kernel
theorem dX12_cell_9 : decode cX12_cell 9 = .ok (.aload_n 0, 1) := by decide +kernel
theorem dX12_cell_10 : decode cX12_cell 10 = .ok (.getfield 76, 3) := by decide +kernel
theorem dX12_cell_13 : decode cX12_cell 13 = .ok (.iload_n 1, 1) := by decide +kernel
theorem dX12_cell_14 : decode cX12_cell 14 = .ok (.iaload, 1) := by decide +kernel
theorem dX12_cell_15 : decode cX12_cell 15 = .ok (.iconst 1, 1) := by decide +kernel
theorem dX12_cell_16 : decode cX12_cell 16 = .ok (.if_icmp .ne 11, 3) := by decide +kernel
theorem dX12_cell_19 : decode cX12_cell 19 = .ok (.aload_n 0, 1) := by decide +kernel
theorem dX12_cell_20 : decode cX12_cell 20 = .ok (.iload_n 2, 1) := by decide +kernel
theorem dX12_cell_21 : decode cX12_cell 21 = .ok (.invokevirtual 192, 3) := by decide +kernel
theorem dX12_cell_24 : decode cX12_cell 24 = .ok (.goto 62, 3) := by decide +kernel
theorem dX12_cell_27 : decode cX12_cell 27 = .ok (.iload_n 3, 1) := by decide +kernel
theorem dX12_cell_28 : decode cX12_cell 28 = .ok (.ifCond .ne 27, 3) := by decide +kernel
theorem dX12_cell_31 : decode cX12_cell 31 = .ok (.aload_n 0, 1) := by decide +kernel
theorem dX12_cell_32 : decode cX12_cell 32 = .ok (.getfield 76, 3) := by decide +kernel
theorem dX12_cell_35 : decode cX12_cell 35 = .ok (.iload_n 1, 1) := by decide +kernel
theorem dX12_cell_36 : decode cX12_cell 36 = .ok (.iconst 1, 1) := by decide +kernel
theorem dX12_cell_37 : decode cX12_cell 37 = .ok (.iastore, 1) := by decide +kernel
theorem dX12_cell_38 : decode cX12_cell 38 = .ok (.aload_n 0, 1) := by decide +kernel
theorem dX12_cell_39 : decode cX12_cell 39 = .ok (.getfield 82, 3) := by decide +kernel
theorem dX12_cell_42 : decode cX12_cell 42 = .ok (.iload_n 1, 1) := by decide +kernel
theorem dX12_cell_43 : decode cX12_cell 43 = .ok (.iload 4, 2) := by decide +kernel
theorem dX12_cell_45 : decode cX12_cell 45 = .ok (.iastore, 1) := by decide +kernel
theorem dX12_cell_46 : decode cX12_cell 46 = .ok (.aload_n 0, 1) := by decide +kernel
theorem dX12_cell_47 : decode cX12_cell 47 = .ok (.iload_n 2, 1) := by decide +kernel
theorem dX12_cell_48 : decode cX12_cell 48 = .ok (.iconst 0, 1) := by decide +kernel
theorem dX12_cell_49 : decode cX12_cell 49 = .ok (.invokevirtual 165, 3) := by decide +kernel
theorem dX12_cell_52 : decode cX12_cell 52 = .ok (.goto 34, 3) := by decide +kernel
theorem dX12_cell_55 : decode cX12_cell 55 = .ok (.aload_n 0, 1) := by decide +kernel
theorem dX12_cell_56 : decode cX12_cell 56 = .ok (.getfield 76, 3) := by decide +kernel
theorem dX12_cell_59 : decode cX12_cell 59 = .ok (.iload_n 1, 1) := by decide +kernel
theorem dX12_cell_60 : decode cX12_cell 60 = .ok (.iaload, 1) := by decide +kernel
theorem dX12_cell_61 : decode cX12_cell 61 = .ok (.iconst 1, 1) := by decide +kernel
theorem dX12_cell_62 : decode cX12_cell 62 = .ok (.if_icmp .ne 17, 3) := by decide +kernel
theorem dX12_cell_65 : decode cX12_cell 65 = .ok (.aload_n 0, 1) := by decide +kernel
theorem dX12_cell_66 : decode cX12_cell 66 = .ok (.iload_n 2, 1) := by decide +kernel
theorem dX12_cell_67 : decode cX12_cell 67 = .ok (.aload_n 0, 1) := by decide +kernel
theorem dX12_cell_68 : decode cX12_cell 68 = .ok (.getfield 82, 3) := by decide +kernel
theorem dX12_cell_71 : decode cX12_cell 71 = .ok (.iload_n 1, 1) := by decide +kernel
theorem dX12_cell_72 : decode cX12_cell 72 = .ok (.iaload, 1) := by decide +kernel
theorem dX12_cell_73 : decode cX12_cell 73 = .ok (.invokevirtual 165, 3) := by decide +kernel
theorem dX12_cell_76 : decode cX12_cell 76 = .ok (.goto 10, 3) := by decide +kernel
theorem dX12_cell_79 : decode cX12_cell 79 = .ok (.aload_n 0, 1) := by decide +kernel
theorem dX12_cell_80 : decode cX12_cell 80 = .ok (.iload_n 2, 1) := by decide +kernel
theorem dX12_cell_81 : decode cX12_cell 81 = .ok (.invokevirtual 195, 3) := by decide +kernel
theorem dX12_cell_84 : decode cX12_cell 84 = .ok (.istore 5, 2) := by decide +kernel
theorem dX12_cell_86 : decode cX12_cell 86 = .ok (.return_, 1) := by decide +kernel
def kX12_cell_0 (n : Nat) (K : Nat → jK) : jK := jk_iload 3 <| jk_int 1 <| jk_icmpgt (K 19) <| jk_iload 3 <| jk_ifne (K 27) <| jk_aload 0 <| jk_get [11] 25 <| jk_iload 1 <| jk_iald <| jk_int 1 <| jk_icmpne (K 27) <| K 19
set_option maxRecDepth 100000 in
set_option maxHeartbeats 4000000 in
theorem tX12_cell_0 (l : Launch) (n : Nat) {K : Nat → jK} (hK : ∀ b, jr_D l cX12_cell 6 "MeetingKitModel" (Option.none : Option Jvm.ClassFile.FieldType) "cell" 4 90 (K b) b) : jr_D l cX12_cell 6 "MeetingKitModel" (Option.none : Option Jvm.ClassFile.FieldType) "cell" 4 90 (kX12_cell_0 n K) 0 := by
  unfold kX12_cell_0
  refine js_iload_n dX12_cell_0 ?_
  refine js_iconst dX12_cell_1 ?_
  refine js_icmpgt (tgt := 19) dX12_cell_2 (by decide) ?_ ?_
  · exact hK 19
  · refine js_iload_n dX12_cell_5 ?_
    refine js_ifne (tgt := 27) dX12_cell_6 (by decide) ?_ ?_
    · exact hK 27
    · refine js_aload_n dX12_cell_9 ?_
      refine js_get dX12_cell_10 jf_25_11 tw_987 (Or.inl rfl) ?_
      refine js_iload_n dX12_cell_13 ?_
      refine js_iald dX12_cell_14 ?_
      refine js_iconst dX12_cell_15 ?_
      refine js_icmpne (tgt := 27) dX12_cell_16 (by decide) ?_ ?_
      · exact hK 27
      · exact hK 19
def kX12_cell_19 (n : Nat) (K : Nat → jK) : jK := jk_kill 1 <| jk_kill 3 <| jk_kill 4 <| jk_aload 0 <| jk_iload 2 <| jk_vcall [(11, fX12_misuse n)] 1 <| K 86
set_option maxRecDepth 100000 in
set_option maxHeartbeats 4000000 in
theorem tX12_cell_19 (l : Launch) (n : Nat) {K : Nat → jK} (hK : ∀ b, jr_D l cX12_cell 6 "MeetingKitModel" (Option.none : Option Jvm.ClassFile.FieldType) "cell" 4 90 (K b) b) : jr_D l cX12_cell 6 "MeetingKitModel" (Option.none : Option Jvm.ClassFile.FieldType) "cell" 4 90 (kX12_cell_19 n K) 19 := by
  unfold kX12_cell_19
  refine js_kill ?_
  refine js_kill ?_
  refine js_kill ?_
  refine js_aload_n dX12_cell_19 ?_
  refine js_iload_n dX12_cell_20 ?_
  refine js_callv dX12_cell_21 (⟨⟨_, _, _, _, _, _, _, ⟨rfl, (show (11 : Nat) < 20 by decide), sX12_misuse l n, by decide, by decide, tw_1204, tw_103, tw_1203⟩, Or.inl ⟨by decide +kernel, by decide +kernel, by decide +kernel, tw_1201, tw_82⟩⟩, trivial⟩) ?_
  refine js_goto (tgt := 86) dX12_cell_24 (by decide) ?_
  exact hK 86
def kX12_cell_27 (n : Nat) (K : Nat → jK) : jK := jk_iload 3 <| jk_ifne (jk_aload 0 <| jk_get [11] 25 <| jk_iload 1 <| jk_iald <| jk_int 1 <| jk_icmpne (jk_aload 0 <| jk_iload 2 <| jk_vcall [(11, fX12_waits n)] 1 <| jk_istore 5 <| K 86) <| jk_aload 0 <| jk_iload 2 <| jk_aload 0 <| jk_get [11] 27 <| jk_iload 1 <| jk_iald <| jk_vcall [(11, fX12_passes n)] 2 <| K 86) <| jk_aload 0 <| jk_get [11] 25 <| jk_iload 1 <| jk_int 1 <| jk_iast <| jk_aload 0 <| jk_get [11] 27 <| jk_iload 1 <| jk_iload 4 <| jk_iast <| jk_aload 0 <| jk_iload 2 <| jk_int 0 <| jk_vcall [(11, fX12_passes n)] 2 <| K 86
set_option maxRecDepth 100000 in
set_option maxHeartbeats 4000000 in
theorem tX12_cell_27 (l : Launch) (n : Nat) {K : Nat → jK} (hK : ∀ b, jr_D l cX12_cell 6 "MeetingKitModel" (Option.none : Option Jvm.ClassFile.FieldType) "cell" 4 90 (K b) b) : jr_D l cX12_cell 6 "MeetingKitModel" (Option.none : Option Jvm.ClassFile.FieldType) "cell" 4 90 (kX12_cell_27 n K) 27 := by
  unfold kX12_cell_27
  refine js_iload_n dX12_cell_27 ?_
  refine js_ifne (tgt := 55) dX12_cell_28 (by decide) ?_ ?_
  · refine js_aload_n dX12_cell_55 ?_
    refine js_get dX12_cell_56 jf_25_11 tw_987 (Or.inl rfl) ?_
    refine js_iload_n dX12_cell_59 ?_
    refine js_iald dX12_cell_60 ?_
    refine js_iconst dX12_cell_61 ?_
    refine js_icmpne (tgt := 79) dX12_cell_62 (by decide) ?_ ?_
    · refine js_aload_n dX12_cell_79 ?_
      refine js_iload_n dX12_cell_80 ?_
      refine js_callv dX12_cell_81 (⟨⟨_, _, _, _, _, _, _, ⟨rfl, (show (11 : Nat) < 20 by decide), sX12_waits l n, by decide, by decide, tw_1208, tw_103, tw_1207⟩, Or.inl ⟨by decide +kernel, by decide +kernel, by decide +kernel, tw_1205, tw_83⟩⟩, trivial⟩) ?_
      refine js_istore dX12_cell_84 (by decide) ?_
      exact hK 86
    · refine js_aload_n dX12_cell_65 ?_
      refine js_iload_n dX12_cell_66 ?_
      refine js_aload_n dX12_cell_67 ?_
      refine js_get dX12_cell_68 jf_27_11 tw_989 (Or.inl rfl) ?_
      refine js_iload_n dX12_cell_71 ?_
      refine js_iald dX12_cell_72 ?_
      refine js_callv dX12_cell_73 (⟨⟨_, _, _, _, _, _, _, ⟨rfl, (show (11 : Nat) < 20 by decide), sX12_passes l n, by decide, by decide, tw_1172, tw_103, tw_1171⟩, Or.inl ⟨by decide +kernel, by decide +kernel, by decide +kernel, tw_1169, tw_74⟩⟩, trivial⟩) ?_
      refine js_goto (tgt := 86) dX12_cell_76 (by decide) ?_
      exact hK 86
  · refine js_aload_n dX12_cell_31 ?_
    refine js_get dX12_cell_32 jf_25_11 tw_987 (Or.inl rfl) ?_
    refine js_iload_n dX12_cell_35 ?_
    refine js_iconst dX12_cell_36 ?_
    refine js_iast dX12_cell_37 ?_
    refine js_aload_n dX12_cell_38 ?_
    refine js_get dX12_cell_39 jf_27_11 tw_989 (Or.inl rfl) ?_
    refine js_iload_n dX12_cell_42 ?_
    refine js_iload dX12_cell_43 ?_
    refine js_iast dX12_cell_45 ?_
    refine js_aload_n dX12_cell_46 ?_
    refine js_iload_n dX12_cell_47 ?_
    refine js_iconst dX12_cell_48 ?_
    refine js_callv dX12_cell_49 (⟨⟨_, _, _, _, _, _, _, ⟨rfl, (show (11 : Nat) < 20 by decide), sX12_passes l n, by decide, by decide, tw_1172, tw_103, tw_1171⟩, Or.inl ⟨by decide +kernel, by decide +kernel, by decide +kernel, tw_1169, tw_74⟩⟩, trivial⟩) ?_
    refine js_goto (tgt := 86) dX12_cell_52 (by decide) ?_
    exact hK 86
def kX12_cell_86 (n : Nat) (K : Nat → jK) : jK := jk_kill 0 <| jk_kill 1 <| jk_kill 2 <| jk_kill 3 <| jk_kill 4 <| jk_kill 5 <| jk_vret
set_option maxRecDepth 100000 in
set_option maxHeartbeats 4000000 in
theorem tX12_cell_86 (l : Launch) (n : Nat) {K : Nat → jK} (hK : ∀ b, jr_D l cX12_cell 6 "MeetingKitModel" (Option.none : Option Jvm.ClassFile.FieldType) "cell" 4 90 (K b) b) : jr_D l cX12_cell 6 "MeetingKitModel" (Option.none : Option Jvm.ClassFile.FieldType) "cell" 4 90 (kX12_cell_86 n K) 86 := by
  unfold kX12_cell_86
  refine js_kill ?_
  refine js_kill ?_
  refine js_kill ?_
  refine js_kill ?_
  refine js_kill ?_
  refine js_kill ?_
  exact js_vret dX12_cell_86 rfl
def kX12_cell_b (n : Nat) (K : Nat → jK) (b : Nat) : jK := if b = 0 then kX12_cell_0 n K else if b = 19 then kX12_cell_19 n K else if b = 27 then kX12_cell_27 n K else if b = 86 then kX12_cell_86 n K else jk_none
def kX12_cell (n : Nat) : jK := jk_fix (kX12_cell_b n) n 0
theorem tX12_cell (l : Launch) (n : Nat) : jr_D l cX12_cell 6 "MeetingKitModel" (Option.none : Option Jvm.ClassFile.FieldType) "cell" 4 90 (kX12_cell n) 0 := js_fix (F := kX12_cell_b n) (fun K hK b => js_blk (tX12_cell_0 l n hK) (js_blk (tX12_cell_19 l n hK) (js_blk (tX12_cell_27 l n hK) (js_blk (tX12_cell_86 l n hK) (js_none))))) n 0
def fX12_cell (n : Nat) : jF := jm_run 5 6 (kX12_cell n)
theorem sX12_cell (l : Launch) (n : Nat) : jr_F l (⟨"MeetingKitModel", "cell", "(IIII)V"⟩ : MethodName) cX12_cell 6 (Option.none : Option Jvm.ClassFile.FieldType) 4 90 (fX12_cell n) := js_met (by decide +kernel) (by decide) (tX12_cell l n)
theorem dX12_areThere_0 : decode cX12_areThere 0 = .ok (.iconst 0, 1) := by decide +kernel
theorem dX12_areThere_1 : decode cX12_areThere 1 = .ok (.istore_n 3, 1) := by decide +kernel
theorem dX12_areThere_2 : decode cX12_areThere 2 = .ok (.iconst 0, 1) := by decide +kernel
theorem dX12_areThere_3 : decode cX12_areThere 3 = .ok (.istore 4, 2) := by decide +kernel
theorem dX12_areThere_5 : decode cX12_areThere 5 = .ok (.iconst 0, 1) := by decide +kernel
theorem dX12_areThere_6 : decode cX12_areThere 6 = .ok (.istore 5, 2) := by decide +kernel
theorem dX12_areThere_8 : decode cX12_areThere 8 = .ok (.iload 5, 2) := by decide +kernel
theorem dX12_areThere_10 : decode cX12_areThere 10 = .ok (.bipush 16, 2) := by decide +kernel
theorem dX12_areThere_12 : decode cX12_areThere 12 = .ok (.if_icmp .ge 48, 3) := by decide +kernel
theorem dX12_areThere_15 : decode cX12_areThere 15 = .ok (.aload_n 0, 1) := by decide +kernel
theorem dX12_areThere_16 : decode cX12_areThere 16 = .ok (.getfield 91, 3) := by decide +kernel
theorem dX12_areThere_19 : decode cX12_areThere 19 = .ok (.bipush 16, 2) := by decide +kernel
theorem dX12_areThere_21 : decode cX12_areThere 21 = .ok (.iload_n 1, 1) := by decide +kernel
theorem dX12_areThere_22 : decode cX12_areThere 22 = .ok (.imul, 1) := by decide +kernel
theorem dX12_areThere_23 : decode cX12_areThere 23 = .ok (.iload 5, 2) := by decide +kernel
theorem dX12_areThere_25 : decode cX12_areThere 25 = .ok (.iadd, 1) := by decide +kernel
theorem dX12_areThere_26 : decode cX12_areThere 26 = .ok (.iaload, 1) := by decide +kernel
theorem dX12_areThere_27 : decode cX12_areThere 27 = .ok (.iconst 1, 1) := by decide +kernel
theorem dX12_areThere_28 : decode cX12_areThere 28 = .ok (.if_icmp .eq 6, 3) := by decide +kernel
theorem dX12_areThere_31 : decode cX12_areThere 31 = .ok (.goto 23, 3) := by decide +kernel
theorem dX12_areThere_34 : decode cX12_areThere 34 = .ok (.iinc 3 1, 3) := by decide +kernel
theorem dX12_areThere_37 : decode cX12_areThere 37 = .ok (.iload 4, 2) := by decide +kernel
theorem dX12_areThere_39 : decode cX12_areThere 39 = .ok (.aload_n 0, 1) := by decide +kernel
theorem dX12_areThere_40 : decode cX12_areThere 40 = .ok (.getfield 94, 3) := by decide +kernel
theorem dX12_areThere_43 : decode cX12_areThere 43 = .ok (.bipush 16, 2) := by decide +kernel
theorem dX12_areThere_45 : decode cX12_areThere 45 = .ok (.iload_n 1, 1) := by decide +kernel
theorem dX12_areThere_46 : decode cX12_areThere 46 = .ok (.imul, 1) := by decide +kernel
theorem dX12_areThere_47 : decode cX12_areThere 47 = .ok (.iload 5, 2) := by decide +kernel
theorem dX12_areThere_49 : decode cX12_areThere 49 = .ok (.iadd, 1) := by decide +kernel
theorem dX12_areThere_50 : decode cX12_areThere 50 = .ok (.iaload, 1) := by decide +kernel
theorem dX12_areThere_51 : decode cX12_areThere 51 = .ok (.iadd, 1) := by decide +kernel
theorem dX12_areThere_52 : decode cX12_areThere 52 = .ok (.istore 4, 2) := by decide +kernel
theorem dX12_areThere_54 : decode cX12_areThere 54 = .ok (.iinc 5 1, 3) := by decide +kernel
theorem dX12_areThere_57 : decode cX12_areThere 57 = .ok (.goto (-49), 3) := by decide +kernel
theorem dX12_areThere_60 : decode cX12_areThere 60 = .ok (.iload_n 2, 1) := by decide +kernel
theorem dX12_areThere_61 : decode cX12_areThere 61 = .ok (.ifCond .eq 21, 3) := by decide +kernel
theorem dX12_areThere_64 : decode cX12_areThere 64 = .ok (.iload_n 3, 1) := by decide +kernel
theorem dX12_areThere_65 : decode cX12_areThere 65 = .ok (.ifCond .le 13, 3) := by decide +kernel
theorem dX12_areThere_68 : decode cX12_areThere 68 = .ok (.iload 4, 2) := by decide +kernel
theorem dX12_areThere_70 : decode cX12_areThere 70 = .ok (.iload_n 3, 1) := by decide +kernel
theorem dX12_areThere_71 : decode cX12_areThere 71 = .ok (.if_icmp .ne 7, 3) := by decide +kernel
theorem dX12_areThere_74 : decode cX12_areThere 74 = .ok (.iconst 1, 1) := by decide +kernel
theorem dX12_areThere_75 : decode cX12_areThere 75 = .ok (.goto 17, 3) := by decide +kernel
theorem dX12_areThere_78 : decode cX12_areThere 78 = .ok (.iconst 0, 1) := by decide +kernel
theorem dX12_areThere_79 : decode cX12_areThere 79 = .ok (.goto 13, 3) := by decide +kernel
theorem dX12_areThere_82 : decode cX12_areThere 82 = .ok (.iload 4, 2) := by decide +kernel
theorem dX12_areThere_84 : decode cX12_areThere 84 = .ok (.ifCond .le 7, 3) := by decide +kernel
theorem dX12_areThere_87 : decode cX12_areThere 87 = .ok (.iconst 1, 1) := by decide +kernel
theorem dX12_areThere_88 : decode cX12_areThere 88 = .ok (.goto 4, 3) := by decide +kernel
theorem dX12_areThere_91 : decode cX12_areThere 91 = .ok (.iconst 0, 1) := by decide +kernel
theorem dX12_areThere_92 : decode cX12_areThere 92 = .ok (.ireturn, 1) := by decide +kernel
def kX12_areThere_0 (n : Nat) (K : Nat → jK) : jK := jk_int 0 <| jk_istore 3 <| jk_int 0 <| jk_istore 4 <| jk_int 0 <| jk_istore 5 <| K 8
set_option maxRecDepth 100000 in
set_option maxHeartbeats 4000000 in
theorem tX12_areThere_0 (l : Launch) (n : Nat) {K : Nat → jK} (hK : ∀ b, jr_D l cX12_areThere 6 "MeetingKitModel" (Option.some Jvm.ClassFile.FieldType.boolean) "areThere" 0 0 (K b) b) : jr_D l cX12_areThere 6 "MeetingKitModel" (Option.some Jvm.ClassFile.FieldType.boolean) "areThere" 0 0 (kX12_areThere_0 n K) 0 := by
  unfold kX12_areThere_0
  refine js_iconst dX12_areThere_0 ?_
  refine js_istore_n dX12_areThere_1 (by decide) ?_
  refine js_iconst dX12_areThere_2 ?_
  refine js_istore dX12_areThere_3 (by decide) ?_
  refine js_iconst dX12_areThere_5 ?_
  refine js_istore dX12_areThere_6 (by decide) ?_
  exact hK 8
def kX12_areThere_8 (n : Nat) (K : Nat → jK) : jK := jk_iload 5 <| jk_int 16 <| jk_icmpge (jk_iload 2 <| jk_ifeq (jk_iload 4 <| jk_ifle (jk_int 0 <| K 92) <| jk_int 1 <| K 92) <| jk_iload 3 <| jk_ifle (K 78) <| jk_iload 4 <| jk_iload 3 <| jk_icmpne (K 78) <| jk_int 1 <| K 92) <| jk_aload 0 <| jk_get [11] 30 <| jk_int 16 <| jk_iload 1 <| jk_imul <| jk_iload 5 <| jk_iadd <| jk_iald <| jk_int 1 <| jk_icmpeq (jk_iinc 3 1 <| jk_iload 4 <| jk_aload 0 <| jk_get [11] 31 <| jk_int 16 <| jk_iload 1 <| jk_imul <| jk_iload 5 <| jk_iadd <| jk_iald <| jk_iadd <| jk_istore 4 <| K 54) <| K 54
set_option maxRecDepth 100000 in
set_option maxHeartbeats 4000000 in
theorem tX12_areThere_8 (l : Launch) (n : Nat) {K : Nat → jK} (hK : ∀ b, jr_D l cX12_areThere 6 "MeetingKitModel" (Option.some Jvm.ClassFile.FieldType.boolean) "areThere" 0 0 (K b) b) : jr_D l cX12_areThere 6 "MeetingKitModel" (Option.some Jvm.ClassFile.FieldType.boolean) "areThere" 0 0 (kX12_areThere_8 n K) 8 := by
  unfold kX12_areThere_8
  refine js_iload dX12_areThere_8 ?_
  refine js_bipush dX12_areThere_10 ?_
  refine js_icmpge (tgt := 60) dX12_areThere_12 (by decide) ?_ ?_
  · refine js_iload_n dX12_areThere_60 ?_
    refine js_ifeq (tgt := 82) dX12_areThere_61 (by decide) ?_ ?_
    · refine js_iload dX12_areThere_82 ?_
      refine js_ifle (tgt := 91) dX12_areThere_84 (by decide) ?_ ?_
      · refine js_iconst dX12_areThere_91 ?_
        exact hK 92
      · refine js_iconst dX12_areThere_87 ?_
        refine js_goto (tgt := 92) dX12_areThere_88 (by decide) ?_
        exact hK 92
    · refine js_iload_n dX12_areThere_64 ?_
      refine js_ifle (tgt := 78) dX12_areThere_65 (by decide) ?_ ?_
      · exact hK 78
      · refine js_iload dX12_areThere_68 ?_
        refine js_iload_n dX12_areThere_70 ?_
        refine js_icmpne (tgt := 78) dX12_areThere_71 (by decide) ?_ ?_
        · exact hK 78
        · refine js_iconst dX12_areThere_74 ?_
          refine js_goto (tgt := 92) dX12_areThere_75 (by decide) ?_
          exact hK 92
  · refine js_aload_n dX12_areThere_15 ?_
    refine js_get dX12_areThere_16 jf_30_11 tw_992 (Or.inl rfl) ?_
    refine js_bipush dX12_areThere_19 ?_
    refine js_iload_n dX12_areThere_21 ?_
    refine js_imul dX12_areThere_22 ?_
    refine js_iload dX12_areThere_23 ?_
    refine js_iadd dX12_areThere_25 ?_
    refine js_iald dX12_areThere_26 ?_
    refine js_iconst dX12_areThere_27 ?_
    refine js_icmpeq (tgt := 34) dX12_areThere_28 (by decide) ?_ ?_
    · refine js_iinc dX12_areThere_34 (by decide) ?_
      refine js_iload dX12_areThere_37 ?_
      refine js_aload_n dX12_areThere_39 ?_
      refine js_get dX12_areThere_40 jf_31_11 tw_993 (Or.inl rfl) ?_
      refine js_bipush dX12_areThere_43 ?_
      refine js_iload_n dX12_areThere_45 ?_
      refine js_imul dX12_areThere_46 ?_
      refine js_iload dX12_areThere_47 ?_
      refine js_iadd dX12_areThere_49 ?_
      refine js_iald dX12_areThere_50 ?_
      refine js_iadd dX12_areThere_51 ?_
      refine js_istore dX12_areThere_52 (by decide) ?_
      exact hK 54
    · refine js_goto (tgt := 54) dX12_areThere_31 (by decide) ?_
      exact hK 54
def kX12_areThere_54 (n : Nat) (K : Nat → jK) : jK := jk_iinc 5 1 <| K 8
set_option maxRecDepth 100000 in
set_option maxHeartbeats 4000000 in
theorem tX12_areThere_54 (l : Launch) (n : Nat) {K : Nat → jK} (hK : ∀ b, jr_D l cX12_areThere 6 "MeetingKitModel" (Option.some Jvm.ClassFile.FieldType.boolean) "areThere" 0 0 (K b) b) : jr_D l cX12_areThere 6 "MeetingKitModel" (Option.some Jvm.ClassFile.FieldType.boolean) "areThere" 0 0 (kX12_areThere_54 n K) 54 := by
  unfold kX12_areThere_54
  refine js_iinc dX12_areThere_54 (by decide) ?_
  refine js_goto (tgt := 8) dX12_areThere_57 (by decide) ?_
  exact hK 8
def kX12_areThere_78 (n : Nat) (K : Nat → jK) : jK := jk_kill 0 <| jk_kill 1 <| jk_kill 2 <| jk_kill 3 <| jk_kill 4 <| jk_kill 5 <| jk_int 0 <| K 92
set_option maxRecDepth 100000 in
set_option maxHeartbeats 4000000 in
theorem tX12_areThere_78 (l : Launch) (n : Nat) {K : Nat → jK} (hK : ∀ b, jr_D l cX12_areThere 6 "MeetingKitModel" (Option.some Jvm.ClassFile.FieldType.boolean) "areThere" 0 0 (K b) b) : jr_D l cX12_areThere 6 "MeetingKitModel" (Option.some Jvm.ClassFile.FieldType.boolean) "areThere" 0 0 (kX12_areThere_78 n K) 78 := by
  unfold kX12_areThere_78
  refine js_kill ?_
  refine js_kill ?_
  refine js_kill ?_
  refine js_kill ?_
  refine js_kill ?_
  refine js_kill ?_
  refine js_iconst dX12_areThere_78 ?_
  refine js_goto (tgt := 92) dX12_areThere_79 (by decide) ?_
  exact hK 92
def kX12_areThere_92 (n : Nat) (K : Nat → jK) : jK := jk_kill 0 <| jk_kill 1 <| jk_kill 2 <| jk_kill 3 <| jk_kill 4 <| jk_kill 5 <| jk_zret
set_option maxRecDepth 100000 in
set_option maxHeartbeats 4000000 in
theorem tX12_areThere_92 (l : Launch) (n : Nat) {K : Nat → jK} (hK : ∀ b, jr_D l cX12_areThere 6 "MeetingKitModel" (Option.some Jvm.ClassFile.FieldType.boolean) "areThere" 0 0 (K b) b) : jr_D l cX12_areThere 6 "MeetingKitModel" (Option.some Jvm.ClassFile.FieldType.boolean) "areThere" 0 0 (kX12_areThere_92 n K) 92 := by
  unfold kX12_areThere_92
  refine js_kill ?_
  refine js_kill ?_
  refine js_kill ?_
  refine js_kill ?_
  refine js_kill ?_
  refine js_kill ?_
  exact js_zret dX12_areThere_92 rfl
def kX12_areThere_b (n : Nat) (K : Nat → jK) (b : Nat) : jK := if b = 0 then kX12_areThere_0 n K else if b = 8 then kX12_areThere_8 n K else if b = 54 then kX12_areThere_54 n K else if b = 78 then kX12_areThere_78 n K else if b = 92 then kX12_areThere_92 n K else jk_none
def kX12_areThere (n : Nat) : jK := jk_fix (kX12_areThere_b n) n 0
theorem tX12_areThere (l : Launch) (n : Nat) : jr_D l cX12_areThere 6 "MeetingKitModel" (Option.some Jvm.ClassFile.FieldType.boolean) "areThere" 0 0 (kX12_areThere n) 0 := js_fix (F := kX12_areThere_b n) (fun K hK b => js_blk (tX12_areThere_0 l n hK) (js_blk (tX12_areThere_8 l n hK) (js_blk (tX12_areThere_54 l n hK) (js_blk (tX12_areThere_78 l n hK) (js_blk (tX12_areThere_92 l n hK) (js_none)))))) n 0
def fX12_areThere (n : Nat) : jF := jm_run 3 6 (kX12_areThere n)
theorem sX12_areThere (l : Launch) (n : Nat) : jr_F l (⟨"MeetingKitModel", "areThere", "(IZ)Z"⟩ : MethodName) cX12_areThere 6 (Option.some Jvm.ClassFile.FieldType.boolean) 0 0 (fX12_areThere n) := js_met (by decide +kernel) (by decide) (tX12_areThere l n)
theorem dX12_rises_0 : decode cX12_rises 0 = .ok (.aload_n 0, 1) := by decide +kernel
theorem dX12_rises_1 : decode cX12_rises 1 = .ok (.iload_n 1, 1) := by decide +kernel
theorem dX12_rises_2 : decode cX12_rises 2 = .ok (.iconst 1, 1) := by decide +kernel
theorem dX12_rises_3 : decode cX12_rises 3 = .ok (.invokevirtual 201, 3) := by decide +kernel
theorem dX12_rises_6 : decode cX12_rises 6 = .ok (.istore_n 3, 1) := by decide +kernel
theorem dX12_rises_7 : decode cX12_rises 7 = .ok (.iload_n 3, 1) := by decide +kernel
theorem dX12_rises_8 : decode cX12_rises 8 = .ok (.ifCond .eq 64, 3) := by decide +kernel
theorem dX12_rises_11 : decode cX12_rises 11 = .ok (.aload_n 0, 1) := by decide +kernel
theorem dX12_rises_12 : decode cX12_rises 12 = .ok (.getfield 73, 3) := by decide +kernel
theorem dX12_rises_15 : decode cX12_rises 15 = .ok (.iload_n 1, 1) := by decide +kernel
theorem dX12_rises_16 : decode cX12_rises 16 = .ok (.dup2, 1) := by decide +kernel
theorem dX12_rises_17 : decode cX12_rises 17 = .ok (.iaload, 1) := by decide +kernel
theorem dX12_rises_18 : decode cX12_rises 18 = .ok (.iconst 1, 1) := by decide +kernel
theorem dX12_rises_19 : decode cX12_rises 19 = .ok (.iadd, 1) := by decide +kernel
theorem dX12_rises_20 : decode cX12_rises 20 = .ok (.iastore, 1) := by decide +kernel
theorem dX12_rises_21 : decode cX12_rises 21 = .ok (.bipush 16, 2) := by decide +kernel
theorem dX12_rises_23 : decode cX12_rises 23 = .ok (.iload_n 1, 1) := by decide +kernel
theorem dX12_rises_24 : decode cX12_rises 24 = .ok (.imul, 1) := by decide +kernel
theorem dX12_rises_25 : decode cX12_rises 25 = .ok (.istore 4, 2) := by decide +kernel
theorem dX12_rises_27 : decode cX12_rises 27 = .ok (.iload 4, 2) := by decide +kernel
theorem dX12_rises_29 : decode cX12_rises 29 = .ok (.bipush 16, 2) := by decide +kernel
theorem dX12_rises_31 : decode cX12_rises 31 = .ok (.iload_n 1, 1) := by decide +kernel
theorem dX12_rises_32 : decode cX12_rises 32 = .ok (.imul, 1) := by decide +kernel
theorem dX12_rises_33 : decode cX12_rises 33 = .ok (.bipush 16, 2) := by decide +kernel
theorem dX12_rises_35 : decode cX12_rises 35 = .ok (.iadd, 1) := by decide +kernel
theorem dX12_rises_36 : decode cX12_rises 36 = .ok (.if_icmp .ge 36, 3) := by decide +kernel
theorem dX12_rises_39 : decode cX12_rises 39 = .ok (.aload_n 0, 1) := by decide +kernel
theorem dX12_rises_40 : decode cX12_rises 40 = .ok (.getfield 94, 3) := by decide +kernel
theorem dX12_rises_43 : decode cX12_rises 43 = .ok (.iload 4, 2) := by decide +kernel
theorem dX12_rises_45 : decode cX12_rises 45 = .ok (.iconst 0, 1) := by decide +kernel
theorem dX12_rises_46 : decode cX12_rises 46 = .ok (.iastore, 1) := by decide +kernel
theorem dX12_rises_47 : decode cX12_rises 47 = .ok (.aload_n 0, 1) := by decide +kernel
theorem dX12_rises_48 : decode cX12_rises 48 = .ok (.getfield 91, 3) := by decide +kernel
theorem dX12_rises_51 : decode cX12_rises 51 = .ok (.iload 4, 2) := by decide +kernel
theorem dX12_rises_53 : decode cX12_rises 53 = .ok (.iaload, 1) := by decide +kernel
theorem dX12_rises_54 : decode cX12_rises 54 = .ok (.iconst 2, 1) := by decide +kernel
theorem dX12_rises_55 : decode cX12_rises 55 = .ok (.if_icmp .ne 11, 3) := by decide +kernel
theorem dX12_rises_58 : decode cX12_rises 58 = .ok (.aload_n 0, 1) := by decide +kernel
theorem dX12_rises_59 : decode cX12_rises 59 = .ok (.getfield 91, 3) := by decide +kernel
theorem dX12_rises_62 : decode cX12_rises 62 = .ok (.iload 4, 2) := by decide +kernel
theorem dX12_rises_64 : decode cX12_rises 64 = .ok (.iconst 1, 1) := by decide +kernel
theorem dX12_rises_65 : decode cX12_rises 65 = .ok (.iastore, 1) := by decide +kernel
theorem dX12_rises_66 : decode cX12_rises 66 = .ok (.iinc 4 1, 3) := by decide +kernel
theorem dX12_rises_69 : decode cX12_rises 69 = .ok (.goto (-42), 3) := by decide +kernel
theorem dX12_rises_72 : decode cX12_rises 72 = .ok (.aload_n 0, 1) := by decide +kernel
theorem dX12_rises_73 : decode cX12_rises 73 = .ok (.iload_n 2, 1) := by decide +kernel
theorem dX12_rises_74 : decode cX12_rises 74 = .ok (.aload_n 0, 1) := by decide +kernel
theorem dX12_rises_75 : decode cX12_rises 75 = .ok (.getfield 73, 3) := by decide +kernel
theorem dX12_rises_78 : decode cX12_rises 78 = .ok (.iload_n 1, 1) := by decide +kernel
theorem dX12_rises_79 : decode cX12_rises 79 = .ok (.iaload, 1) := by decide +kernel
theorem dX12_rises_80 : decode cX12_rises 80 = .ok (.invokevirtual 165, 3) := by decide +kernel
theorem dX12_rises_83 : decode cX12_rises 83 = .ok (.iload_n 3, 1) := by decide +kernel
theorem dX12_rises_84 : decode cX12_rises 84 = .ok (.ifCond .eq 31, 3) := by decide +kernel
theorem dX12_rises_87 : decode cX12_rises 87 = .ok (.aload_n 0, 1) := by decide +kernel
theorem dX12_rises_88 : decode cX12_rises 88 = .ok (.getfield 70, 3) := by decide +kernel
theorem dX12_rises_91 : decode cX12_rises 91 = .ok (.iload_n 1, 1) := by decide +kernel
theorem dX12_rises_92 : decode cX12_rises 92 = .ok (.iaload, 1) := by decide +kernel
theorem dX12_rises_93 : decode cX12_rises 93 = .ok (.ifCond .le 22, 3) := by decide +kernel
theorem dX12_rises_96 : decode cX12_rises 96 = .ok (.aload_n 0, 1) := by decide +kernel
theorem dX12_rises_97 : decode cX12_rises 97 = .ok (.aload_n 0, 1) := by decide +kernel
theorem dX12_rises_98 : decode cX12_rises 98 = .ok (.iload_n 1, 1) := by decide +kernel
theorem dX12_rises_99 : decode cX12_rises 99 = .ok (.iconst 0, 1) := by decide +kernel
theorem dX12_rises_100 : decode cX12_rises 100 = .ok (.invokevirtual 157, 3) := by decide +kernel
theorem dX12_rises_103 : decode cX12_rises 103 = .ok (.aload_n 0, 1) := by decide +kernel
theorem dX12_rises_104 : decode cX12_rises 104 = .ok (.getfield 73, 3) := by decide +kernel
theorem dX12_rises_107 : decode cX12_rises 107 = .ok (.iload_n 1, 1) := by decide +kernel
theorem dX12_rises_108 : decode cX12_rises 108 = .ok (.iaload, 1) := by decide +kernel
theorem dX12_rises_109 : decode cX12_rises 109 = .ok (.invokevirtual 174, 3) := by decide +kernel
theorem dX12_rises_112 : decode cX12_rises 112 = .ok (.goto (-29), 3) := by decide +kernel
theorem dX12_rises_115 : decode cX12_rises 115 = .ok (.return_, 1) := by decide +kernel
def kX12_rises_0 (n : Nat) (K : Nat → jK) : jK := jk_aload 0 <| jk_iload 1 <| jk_int 1 <| jk_vcall [(11, fX12_areThere n)] 2 <| jk_istore 3 <| jk_iload 3 <| jk_ifeq (K 72) <| jk_aload 0 <| jk_get [11] 24 <| jk_iload 1 <| jk_dup2 <| jk_iald <| jk_int 1 <| jk_iadd <| jk_iast <| jk_int 16 <| jk_iload 1 <| jk_imul <| jk_istore 4 <| K 27
set_option maxRecDepth 100000 in
set_option maxHeartbeats 4000000 in
theorem tX12_rises_0 (l : Launch) (n : Nat) {K : Nat → jK} (hK : ∀ b, jr_D l cX12_rises 5 "MeetingKitModel" (Option.none : Option Jvm.ClassFile.FieldType) "rises" 4 90 (K b) b) : jr_D l cX12_rises 5 "MeetingKitModel" (Option.none : Option Jvm.ClassFile.FieldType) "rises" 4 90 (kX12_rises_0 n K) 0 := by
  unfold kX12_rises_0
  refine js_aload_n dX12_rises_0 ?_
  refine js_iload_n dX12_rises_1 ?_
  refine js_iconst dX12_rises_2 ?_
  refine js_callv dX12_rises_3 (⟨⟨_, _, _, _, _, _, _, ⟨rfl, (show (11 : Nat) < 20 by decide), sX12_areThere l n, by decide, by decide, tw_1248, tw_103, tw_1247⟩, Or.inl ⟨by decide +kernel, by decide +kernel, by decide +kernel, tw_1245, tw_93⟩⟩, trivial⟩) ?_
  refine js_istore_n dX12_rises_6 (by decide) ?_
  refine js_iload_n dX12_rises_7 ?_
  refine js_ifeq (tgt := 72) dX12_rises_8 (by decide) ?_ ?_
  · exact hK 72
  · refine js_aload_n dX12_rises_11 ?_
    refine js_get dX12_rises_12 jf_24_11 tw_986 (Or.inl rfl) ?_
    refine js_iload_n dX12_rises_15 ?_
    refine js_dup2 dX12_rises_16 ?_
    refine js_iald dX12_rises_17 ?_
    refine js_iconst dX12_rises_18 ?_
    refine js_iadd dX12_rises_19 ?_
    refine js_iast dX12_rises_20 ?_
    refine js_bipush dX12_rises_21 ?_
    refine js_iload_n dX12_rises_23 ?_
    refine js_imul dX12_rises_24 ?_
    refine js_istore dX12_rises_25 (by decide) ?_
    exact hK 27
def kX12_rises_27 (n : Nat) (K : Nat → jK) : jK := jk_iload 4 <| jk_int 16 <| jk_iload 1 <| jk_imul <| jk_int 16 <| jk_iadd <| jk_icmpge (K 72) <| jk_aload 0 <| jk_get [11] 31 <| jk_iload 4 <| jk_int 0 <| jk_iast <| jk_aload 0 <| jk_get [11] 30 <| jk_iload 4 <| jk_iald <| jk_int 2 <| jk_icmpne (K 66) <| jk_aload 0 <| jk_get [11] 30 <| jk_iload 4 <| jk_int 1 <| jk_iast <| K 66
set_option maxRecDepth 100000 in
set_option maxHeartbeats 4000000 in
theorem tX12_rises_27 (l : Launch) (n : Nat) {K : Nat → jK} (hK : ∀ b, jr_D l cX12_rises 5 "MeetingKitModel" (Option.none : Option Jvm.ClassFile.FieldType) "rises" 4 90 (K b) b) : jr_D l cX12_rises 5 "MeetingKitModel" (Option.none : Option Jvm.ClassFile.FieldType) "rises" 4 90 (kX12_rises_27 n K) 27 := by
  unfold kX12_rises_27
  refine js_iload dX12_rises_27 ?_
  refine js_bipush dX12_rises_29 ?_
  refine js_iload_n dX12_rises_31 ?_
  refine js_imul dX12_rises_32 ?_
  refine js_bipush dX12_rises_33 ?_
  refine js_iadd dX12_rises_35 ?_
  refine js_icmpge (tgt := 72) dX12_rises_36 (by decide) ?_ ?_
  · exact hK 72
  · refine js_aload_n dX12_rises_39 ?_
    refine js_get dX12_rises_40 jf_31_11 tw_993 (Or.inl rfl) ?_
    refine js_iload dX12_rises_43 ?_
    refine js_iconst dX12_rises_45 ?_
    refine js_iast dX12_rises_46 ?_
    refine js_aload_n dX12_rises_47 ?_
    refine js_get dX12_rises_48 jf_30_11 tw_992 (Or.inl rfl) ?_
    refine js_iload dX12_rises_51 ?_
    refine js_iald dX12_rises_53 ?_
    refine js_iconst dX12_rises_54 ?_
    refine js_icmpne (tgt := 66) dX12_rises_55 (by decide) ?_ ?_
    · exact hK 66
    · refine js_aload_n dX12_rises_58 ?_
      refine js_get dX12_rises_59 jf_30_11 tw_992 (Or.inl rfl) ?_
      refine js_iload dX12_rises_62 ?_
      refine js_iconst dX12_rises_64 ?_
      refine js_iast dX12_rises_65 ?_
      exact hK 66
def kX12_rises_66 (n : Nat) (K : Nat → jK) : jK := jk_iinc 4 1 <| K 27
set_option maxRecDepth 100000 in
set_option maxHeartbeats 4000000 in
theorem tX12_rises_66 (l : Launch) (n : Nat) {K : Nat → jK} (hK : ∀ b, jr_D l cX12_rises 5 "MeetingKitModel" (Option.none : Option Jvm.ClassFile.FieldType) "rises" 4 90 (K b) b) : jr_D l cX12_rises 5 "MeetingKitModel" (Option.none : Option Jvm.ClassFile.FieldType) "rises" 4 90 (kX12_rises_66 n K) 66 := by
  unfold kX12_rises_66
  refine js_iinc dX12_rises_66 (by decide) ?_
  refine js_goto (tgt := 27) dX12_rises_69 (by decide) ?_
  exact hK 27
def kX12_rises_72 (n : Nat) (K : Nat → jK) : jK := jk_kill 4 <| jk_aload 0 <| jk_iload 2 <| jk_aload 0 <| jk_get [11] 24 <| jk_iload 1 <| jk_iald <| jk_vcall [(11, fX12_passes n)] 2 <| K 83
set_option maxRecDepth 100000 in
set_option maxHeartbeats 4000000 in
theorem tX12_rises_72 (l : Launch) (n : Nat) {K : Nat → jK} (hK : ∀ b, jr_D l cX12_rises 5 "MeetingKitModel" (Option.none : Option Jvm.ClassFile.FieldType) "rises" 4 90 (K b) b) : jr_D l cX12_rises 5 "MeetingKitModel" (Option.none : Option Jvm.ClassFile.FieldType) "rises" 4 90 (kX12_rises_72 n K) 72 := by
  unfold kX12_rises_72
  refine js_kill ?_
  refine js_aload_n dX12_rises_72 ?_
  refine js_iload_n dX12_rises_73 ?_
  refine js_aload_n dX12_rises_74 ?_
  refine js_get dX12_rises_75 jf_24_11 tw_986 (Or.inl rfl) ?_
  refine js_iload_n dX12_rises_78 ?_
  refine js_iald dX12_rises_79 ?_
  refine js_callv dX12_rises_80 (⟨⟨_, _, _, _, _, _, _, ⟨rfl, (show (11 : Nat) < 20 by decide), sX12_passes l n, by decide, by decide, tw_1172, tw_103, tw_1171⟩, Or.inl ⟨by decide +kernel, by decide +kernel, by decide +kernel, tw_1169, tw_74⟩⟩, trivial⟩) ?_
  exact hK 83
def kX12_rises_83 (n : Nat) (K : Nat → jK) : jK := jk_kill 2 <| jk_kill 4 <| jk_iload 3 <| jk_ifeq (K 115) <| jk_aload 0 <| jk_get [11] 23 <| jk_iload 1 <| jk_iald <| jk_ifle (K 115) <| jk_aload 0 <| jk_aload 0 <| jk_iload 1 <| jk_int 0 <| jk_vcall [(11, fX12_inLine n)] 2 <| jk_aload 0 <| jk_get [11] 24 <| jk_iload 1 <| jk_iald <| jk_vcall [(11, fX12_goes n)] 2 <| K 83
set_option maxRecDepth 100000 in
set_option maxHeartbeats 4000000 in
theorem tX12_rises_83 (l : Launch) (n : Nat) {K : Nat → jK} (hK : ∀ b, jr_D l cX12_rises 5 "MeetingKitModel" (Option.none : Option Jvm.ClassFile.FieldType) "rises" 4 90 (K b) b) : jr_D l cX12_rises 5 "MeetingKitModel" (Option.none : Option Jvm.ClassFile.FieldType) "rises" 4 90 (kX12_rises_83 n K) 83 := by
  unfold kX12_rises_83
  refine js_kill ?_
  refine js_kill ?_
  refine js_iload_n dX12_rises_83 ?_
  refine js_ifeq (tgt := 115) dX12_rises_84 (by decide) ?_ ?_
  · exact hK 115
  · refine js_aload_n dX12_rises_87 ?_
    refine js_get dX12_rises_88 jf_23_11 tw_985 (Or.inl rfl) ?_
    refine js_iload_n dX12_rises_91 ?_
    refine js_iald dX12_rises_92 ?_
    refine js_ifle (tgt := 115) dX12_rises_93 (by decide) ?_ ?_
    · exact hK 115
    · refine js_aload_n dX12_rises_96 ?_
      refine js_aload_n dX12_rises_97 ?_
      refine js_iload_n dX12_rises_98 ?_
      refine js_iconst dX12_rises_99 ?_
      refine js_callv dX12_rises_100 (⟨⟨_, _, _, _, _, _, _, ⟨rfl, (show (11 : Nat) < 20 by decide), sX12_inLine l n, by decide, by decide, tw_1144, tw_103, tw_1143⟩, Or.inl ⟨by decide +kernel, by decide +kernel, by decide +kernel, tw_1141, tw_67⟩⟩, trivial⟩) ?_
      refine js_aload_n dX12_rises_103 ?_
      refine js_get dX12_rises_104 jf_24_11 tw_986 (Or.inl rfl) ?_
      refine js_iload_n dX12_rises_107 ?_
      refine js_iald dX12_rises_108 ?_
      refine js_callv dX12_rises_109 (⟨⟨_, _, _, _, _, _, _, ⟨rfl, (show (11 : Nat) < 20 by decide), sX12_goes l n, by decide, by decide, tw_1168, tw_103, tw_1167⟩, Or.inl ⟨by decide +kernel, by decide +kernel, by decide +kernel, tw_1165, tw_73⟩⟩, trivial⟩) ?_
      refine js_goto (tgt := 83) dX12_rises_112 (by decide) ?_
      exact hK 83
def kX12_rises_115 (n : Nat) (K : Nat → jK) : jK := jk_kill 0 <| jk_kill 1 <| jk_kill 2 <| jk_kill 3 <| jk_kill 4 <| jk_vret
set_option maxRecDepth 100000 in
set_option maxHeartbeats 4000000 in
theorem tX12_rises_115 (l : Launch) (n : Nat) {K : Nat → jK} (hK : ∀ b, jr_D l cX12_rises 5 "MeetingKitModel" (Option.none : Option Jvm.ClassFile.FieldType) "rises" 4 90 (K b) b) : jr_D l cX12_rises 5 "MeetingKitModel" (Option.none : Option Jvm.ClassFile.FieldType) "rises" 4 90 (kX12_rises_115 n K) 115 := by
  unfold kX12_rises_115
  refine js_kill ?_
  refine js_kill ?_
  refine js_kill ?_
  refine js_kill ?_
  refine js_kill ?_
  exact js_vret dX12_rises_115 rfl
def kX12_rises_b (n : Nat) (K : Nat → jK) (b : Nat) : jK := if b = 0 then kX12_rises_0 n K else if b = 27 then kX12_rises_27 n K else if b = 66 then kX12_rises_66 n K else if b = 72 then kX12_rises_72 n K else if b = 83 then kX12_rises_83 n K else if b = 115 then kX12_rises_115 n K else jk_none
def kX12_rises (n : Nat) : jK := jk_fix (kX12_rises_b n) n 0
theorem tX12_rises (l : Launch) (n : Nat) : jr_D l cX12_rises 5 "MeetingKitModel" (Option.none : Option Jvm.ClassFile.FieldType) "rises" 4 90 (kX12_rises n) 0 := js_fix (F := kX12_rises_b n) (fun K hK b => js_blk (tX12_rises_0 l n hK) (js_blk (tX12_rises_27 l n hK) (js_blk (tX12_rises_66 l n hK) (js_blk (tX12_rises_72 l n hK) (js_blk (tX12_rises_83 l n hK) (js_blk (tX12_rises_115 l n hK) (js_none))))))) n 0
def fX12_rises (n : Nat) : jF := jm_run 3 5 (kX12_rises n)
theorem sX12_rises (l : Launch) (n : Nat) : jr_F l (⟨"MeetingKitModel", "rises", "(II)V"⟩ : MethodName) cX12_rises 5 (Option.none : Option Jvm.ClassFile.FieldType) 4 90 (fX12_rises n) := js_met (by decide +kernel) (by decide) (tX12_rises l n)
theorem dX12_phaser_0 : decode cX12_phaser 0 = .ok (.bipush 16, 2) := by decide +kernel
theorem dX12_phaser_2 : decode cX12_phaser 2 = .ok (.iload_n 1, 1) := by decide +kernel
theorem dX12_phaser_3 : decode cX12_phaser 3 = .ok (.imul, 1) := by decide +kernel
theorem dX12_phaser_4 : decode cX12_phaser 4 = .ok (.iload_n 2, 1) := by decide +kernel
theorem dX12_phaser_5 : decode cX12_phaser 5 = .ok (.iadd, 1) := by decide +kernel
theorem dX12_phaser_6 : decode cX12_phaser 6 = .ok (.istore 4, 2) := by decide +kernel
theorem dX12_phaser_8 : decode cX12_phaser 8 = .ok (.iload_n 3, 1) := by decide +kernel
theorem dX12_phaser_9 : decode cX12_phaser 9 = .ok (.ifCond .ne 21, 3) := by decide +kernel
theorem dX12_phaser_12 : decode cX12_phaser 12 = .ok (.aload_n 0, 1) := by decide +kernel
theorem dX12_phaser_13 : decode cX12_phaser 13 = .ok (.getfield 91, 3) := by decide +kernel
theorem dX12_phaser_16 : decode cX12_phaser 16 = .ok (.iload 4, 2) := by decide +kernel
theorem dX12_phaser_18 : decode cX12_phaser 18 = .ok (.iaload, 1) := by decide +kernel
theorem dX12_phaser_19 : decode cX12_phaser 19 = .ok (.ifCond .ne 7, 3) := by decide +kernel
theorem dX12_phaser_22 : decode cX12_phaser 22 = .ok (.iconst 1, 1) := by decide +kernel
theorem dX12_phaser_23 : decode cX12_phaser 23 = .ok (.goto 61, 3) := by decide +kernel
theorem dX12_phaser_26 : decode cX12_phaser 26 = .ok (.iconst 0, 1) := by decide +kernel
theorem dX12_phaser_27 : decode cX12_phaser 27 = .ok (.goto 57, 3) := by decide +kernel
theorem dX12_phaser_30 : decode cX12_phaser 30 = .ok (.iload_n 3, 1) := by decide +kernel
theorem dX12_phaser_31 : decode cX12_phaser 31 = .ok (.iconst 1, 1) := by decide +kernel
theorem dX12_phaser_32 : decode cX12_phaser 32 = .ok (.if_icmp .ne 32, 3) := by decide +kernel
theorem dX12_phaser_35 : decode cX12_phaser 35 = .ok (.aload_n 0, 1) := by decide +kernel
theorem dX12_phaser_36 : decode cX12_phaser 36 = .ok (.getfield 91, 3) := by decide +kernel
theorem dX12_phaser_39 : decode cX12_phaser 39 = .ok (.iload 4, 2) := by decide +kernel
theorem dX12_phaser_41 : decode cX12_phaser 41 = .ok (.iaload, 1) := by decide +kernel
theorem dX12_phaser_42 : decode cX12_phaser 42 = .ok (.iconst 1, 1) := by decide +kernel
theorem dX12_phaser_43 : decode cX12_phaser 43 = .ok (.if_icmp .ne 17, 3) := by decide +kernel
theorem dX12_phaser_46 : decode cX12_phaser 46 = .ok (.aload_n 0, 1) := by decide +kernel
theorem dX12_phaser_47 : decode cX12_phaser 47 = .ok (.getfield 94, 3) := by decide +kernel
theorem dX12_phaser_50 : decode cX12_phaser 50 = .ok (.iload 4, 2) := by decide +kernel
theorem dX12_phaser_52 : decode cX12_phaser 52 = .ok (.iaload, 1) := by decide +kernel
theorem dX12_phaser_53 : decode cX12_phaser 53 = .ok (.ifCond .ne 7, 3) := by decide +kernel
theorem dX12_phaser_56 : decode cX12_phaser 56 = .ok (.iconst 1, 1) := by decide +kernel
theorem dX12_phaser_57 : decode cX12_phaser 57 = .ok (.goto 27, 3) := by decide +kernel
theorem dX12_phaser_60 : decode cX12_phaser 60 = .ok (.iconst 0, 1) := by decide +kernel
theorem dX12_phaser_61 : decode cX12_phaser 61 = .ok (.goto 23, 3) := by decide +kernel
theorem dX12_phaser_64 : decode cX12_phaser 64 = .ok (.iload_n 3, 1) := by decide +kernel
theorem dX12_phaser_65 : decode cX12_phaser 65 = .ok (.iconst 2, 1) := by decide +kernel
theorem dX12_phaser_66 : decode cX12_phaser 66 = .ok (.if_icmp .ne 17, 3) := by decide +kernel
theorem dX12_phaser_69 : decode cX12_phaser 69 = .ok (.aload_n 0, 1) := by decide +kernel
theorem dX12_phaser_70 : decode cX12_phaser 70 = .ok (.getfield 91, 3) := by decide +kernel
theorem dX12_phaser_73 : decode cX12_phaser 73 = .ok (.iload 4, 2) := by decide +kernel
theorem dX12_phaser_75 : decode cX12_phaser 75 = .ok (.iaload, 1) := by decide +kernel
theorem dX12_phaser_76 : decode cX12_phaser 76 = .ok (.ifCond .eq 7, 3) := by decide +kernel
theorem dX12_phaser_79 : decode cX12_phaser 79 = .ok (.iconst 1, 1) := by decide +kernel
theorem dX12_phaser_80 : decode cX12_phaser 80 = .ok (.goto 4, 3) := by decide +kernel
theorem dX12_phaser_83 : decode cX12_phaser 83 = .ok (.iconst 0, 1) := by decide +kernel
theorem dX12_phaser_84 : decode cX12_phaser 84 = .ok (.istore 5, 2) := by decide +kernel
theorem dX12_phaser_86 : decode cX12_phaser 86 = .ok (.iload 5, 2) := by decide +kernel
theorem dX12_phaser_88 : decode cX12_phaser 88 = .ok (.ifCond .ne 11, 3) := by decide +kernel
theorem dX12_phaser_91 : decode cX12_phaser 91 = .ok (.aload_n 0, 1) := by decide +kernel
theorem dX12_phaser_92 : decode cX12_phaser 92 = .ok (.iload_n 2, 1) := by decide +kernel
theorem dX12_phaser_93 : decode cX12_phaser 93 = .ok (.invokevirtual 192, 3) := by decide +kernel
theorem dX12_phaser_96 : decode cX12_phaser 96 = .ok (.goto 105, 3) := by decide +kernel
theorem dX12_phaser_99 : decode cX12_phaser 99 = .ok (.iload_n 3, 1) := by decide +kernel
theorem dX12_phaser_100 : decode cX12_phaser 100 = .ok (.ifCond .ne 38, 3) := by decide +kernel
theorem dX12_phaser_103 : decode cX12_phaser 103 = .ok (.aload_n 0, 1) := by decide +kernel
theorem dX12_phaser_104 : decode cX12_phaser 104 = .ok (.getfield 91, 3) := by decide +kernel
theorem dX12_phaser_107 : decode cX12_phaser 107 = .ok (.iload 4, 2) := by decide +kernel
theorem dX12_phaser_109 : decode cX12_phaser 109 = .ok (.aload_n 0, 1) := by decide +kernel
theorem dX12_phaser_110 : decode cX12_phaser 110 = .ok (.iload_n 1, 1) := by decide +kernel
theorem dX12_phaser_111 : decode cX12_phaser 111 = .ok (.iconst 0, 1) := by decide +kernel
theorem dX12_phaser_112 : decode cX12_phaser 112 = .ok (.invokevirtual 201, 3) := by decide +kernel
theorem dX12_phaser_115 : decode cX12_phaser 115 = .ok (.ifCond .eq 7, 3) := by decide +kernel
theorem dX12_phaser_118 : decode cX12_phaser 118 = .ok (.iconst 2, 1) := by decide +kernel
theorem dX12_phaser_119 : decode cX12_phaser 119 = .ok (.goto 4, 3) := by decide +kernel
theorem dX12_phaser_122 : decode cX12_phaser 122 = .ok (.iconst 1, 1) := by decide +kernel
theorem dX12_phaser_123 : decode cX12_phaser 123 = .ok (.iastore, 1) := by decide +kernel
theorem dX12_phaser_124 : decode cX12_phaser 124 = .ok (.aload_n 0, 1) := by decide +kernel
theorem dX12_phaser_125 : decode cX12_phaser 125 = .ok (.iload_n 2, 1) := by decide +kernel
theorem dX12_phaser_126 : decode cX12_phaser 126 = .ok (.aload_n 0, 1) := by decide +kernel
theorem dX12_phaser_127 : decode cX12_phaser 127 = .ok (.getfield 73, 3) := by decide +kernel
theorem dX12_phaser_130 : decode cX12_phaser 130 = .ok (.iload_n 1, 1) := by decide +kernel
theorem dX12_phaser_131 : decode cX12_phaser 131 = .ok (.iaload, 1) := by decide +kernel
theorem dX12_phaser_132 : decode cX12_phaser 132 = .ok (.invokevirtual 165, 3) := by decide +kernel
theorem dX12_phaser_135 : decode cX12_phaser 135 = .ok (.goto 66, 3) := by decide +kernel
theorem dX12_phaser_138 : decode cX12_phaser 138 = .ok (.iload_n 3, 1) := by decide +kernel
theorem dX12_phaser_139 : decode cX12_phaser 139 = .ok (.iconst 1, 1) := by decide +kernel
theorem dX12_phaser_140 : decode cX12_phaser 140 = .ok (.if_icmp .ne 39, 3) := by decide +kernel
theorem dX12_phaser_143 : decode cX12_phaser 143 = .ok (.aload_n 0, 1) := by decide +kernel
theorem dX12_phaser_144 : decode cX12_phaser 144 = .ok (.getfield 94, 3) := by decide +kernel
theorem dX12_phaser_147 : decode cX12_phaser 147 = .ok (.iload 4, 2) := by decide +kernel
theorem dX12_phaser_149 : decode cX12_phaser 149 = .ok (.iconst 1, 1) := by decide +kernel
theorem dX12_phaser_150 : decode cX12_phaser 150 = .ok (.iastore, 1) := by decide +kernel
theorem dX12_phaser_151 : decode cX12_phaser 151 = .ok (.aload_n 0, 1) := by decide +kernel
theorem dX12_phaser_152 : decode cX12_phaser 152 = .ok (.iload_n 1, 1) := by decide +kernel
theorem dX12_phaser_153 : decode cX12_phaser 153 = .ok (.iconst 1, 1) := by decide +kernel
theorem dX12_phaser_154 : decode cX12_phaser 154 = .ok (.invokevirtual 201, 3) := by decide +kernel
theorem dX12_phaser_157 : decode cX12_phaser 157 = .ok (.ifCond .eq 12, 3) := by decide +kernel
theorem dX12_phaser_160 : decode cX12_phaser 160 = .ok (.aload_n 0, 1) := by decide +kernel
theorem dX12_phaser_161 : decode cX12_phaser 161 = .ok (.iload_n 1, 1) := by decide +kernel
theorem dX12_phaser_162 : decode cX12_phaser 162 = .ok (.iload_n 2, 1) := by decide +kernel
theorem dX12_phaser_163 : decode cX12_phaser 163 = .ok (.invokevirtual 205, 3) := by decide +kernel
theorem dX12_phaser_166 : decode cX12_phaser 166 = .ok (.goto 35, 3) := by decide +kernel
theorem dX12_phaser_169 : decode cX12_phaser 169 = .ok (.aload_n 0, 1) := by decide +kernel
theorem dX12_phaser_170 : decode cX12_phaser 170 = .ok (.iload_n 2, 1) := by decide +kernel
theorem dX12_phaser_171 : decode cX12_phaser 171 = .ok (.invokevirtual 195, 3) := by decide +kernel
theorem dX12_phaser_174 : decode cX12_phaser 174 = .ok (.istore 6, 2) := by decide +kernel
theorem dX12_phaser_176 : decode cX12_phaser 176 = .ok (.goto 25, 3) := by decide +kernel
theorem dX12_phaser_179 : decode cX12_phaser 179 = .ok (.aload_n 0, 1) := by decide +kernel
theorem dX12_phaser_180 : decode cX12_phaser 180 = .ok (.getfield 91, 3) := by decide +kernel
theorem dX12_phaser_183 : decode cX12_phaser 183 = .ok (.iload 4, 2) := by decide +kernel
theorem dX12_phaser_185 : decode cX12_phaser 185 = .ok (.iconst 0, 1) := by decide +kernel
theorem dX12_phaser_186 : decode cX12_phaser 186 = .ok (.iastore, 1) := by decide +kernel
theorem dX12_phaser_187 : decode cX12_phaser 187 = .ok (.aload_n 0, 1) := by decide +kernel
theorem dX12_phaser_188 : decode cX12_phaser 188 = .ok (.getfield 94, 3) := by decide +kernel
theorem dX12_phaser_191 : decode cX12_phaser 191 = .ok (.iload 4, 2) := by decide +kernel
theorem dX12_phaser_193 : decode cX12_phaser 193 = .ok (.iconst 0, 1) := by decide +kernel
theorem dX12_phaser_194 : decode cX12_phaser 194 = .ok (.iastore, 1) := by decide +kernel
theorem dX12_phaser_195 : decode cX12_phaser 195 = .ok (.aload_n 0, 1) := by decide +kernel
theorem dX12_phaser_196 : decode cX12_phaser 196 = .ok (.iload_n 1, 1) := by decide +kernel
theorem dX12_phaser_197 : decode cX12_phaser 197 = .ok (.iload_n 2, 1) := by decide +kernel
theorem dX12_phaser_198 : decode cX12_phaser 198 = .ok (.invokevirtual 205, 3) := by decide +kernel
theorem dX12_phaser_201 : decode cX12_phaser 201 = .ok (.return_, 1) := by decide +kernel
def kX12_phaser_0 (n : Nat) (K : Nat → jK) : jK := jk_int 16 <| jk_iload 1 <| jk_imul <| jk_iload 2 <| jk_iadd <| jk_istore 4 <| jk_iload 3 <| jk_ifne (jk_iload 3 <| jk_int 1 <| jk_icmpne (jk_iload 3 <| jk_int 2 <| jk_icmpne (K 83) <| jk_aload 0 <| jk_get [11] 30 <| jk_iload 4 <| jk_iald <| jk_ifeq (K 83) <| jk_int 1 <| K 84) <| jk_aload 0 <| jk_get [11] 30 <| jk_iload 4 <| jk_iald <| jk_int 1 <| jk_icmpne (K 60) <| jk_aload 0 <| jk_get [11] 31 <| jk_iload 4 <| jk_iald <| jk_ifne (K 60) <| jk_int 1 <| K 84) <| jk_aload 0 <| jk_get [11] 30 <| jk_iload 4 <| jk_iald <| jk_ifne (jk_int 0 <| K 84) <| jk_int 1 <| K 84
set_option maxRecDepth 100000 in
set_option maxHeartbeats 4000000 in
theorem tX12_phaser_0 (l : Launch) (n : Nat) {K : Nat → jK} (hK : ∀ b, jr_D l cX12_phaser 7 "MeetingKitModel" (Option.none : Option Jvm.ClassFile.FieldType) "phaser" 5 114 (K b) b) : jr_D l cX12_phaser 7 "MeetingKitModel" (Option.none : Option Jvm.ClassFile.FieldType) "phaser" 5 114 (kX12_phaser_0 n K) 0 := by
  unfold kX12_phaser_0
  refine js_bipush dX12_phaser_0 ?_
  refine js_iload_n dX12_phaser_2 ?_
  refine js_imul dX12_phaser_3 ?_
  refine js_iload_n dX12_phaser_4 ?_
  refine js_iadd dX12_phaser_5 ?_
  refine js_istore dX12_phaser_6 (by decide) ?_
  refine js_iload_n dX12_phaser_8 ?_
  refine js_ifne (tgt := 30) dX12_phaser_9 (by decide) ?_ ?_
  · refine js_iload_n dX12_phaser_30 ?_
    refine js_iconst dX12_phaser_31 ?_
    refine js_icmpne (tgt := 64) dX12_phaser_32 (by decide) ?_ ?_
    · refine js_iload_n dX12_phaser_64 ?_
      refine js_iconst dX12_phaser_65 ?_
      refine js_icmpne (tgt := 83) dX12_phaser_66 (by decide) ?_ ?_
      · exact hK 83
      · refine js_aload_n dX12_phaser_69 ?_
        refine js_get dX12_phaser_70 jf_30_11 tw_992 (Or.inl rfl) ?_
        refine js_iload dX12_phaser_73 ?_
        refine js_iald dX12_phaser_75 ?_
        refine js_ifeq (tgt := 83) dX12_phaser_76 (by decide) ?_ ?_
        · exact hK 83
        · refine js_iconst dX12_phaser_79 ?_
          refine js_goto (tgt := 84) dX12_phaser_80 (by decide) ?_
          exact hK 84
    · refine js_aload_n dX12_phaser_35 ?_
      refine js_get dX12_phaser_36 jf_30_11 tw_992 (Or.inl rfl) ?_
      refine js_iload dX12_phaser_39 ?_
      refine js_iald dX12_phaser_41 ?_
      refine js_iconst dX12_phaser_42 ?_
      refine js_icmpne (tgt := 60) dX12_phaser_43 (by decide) ?_ ?_
      · exact hK 60
      · refine js_aload_n dX12_phaser_46 ?_
        refine js_get dX12_phaser_47 jf_31_11 tw_993 (Or.inl rfl) ?_
        refine js_iload dX12_phaser_50 ?_
        refine js_iald dX12_phaser_52 ?_
        refine js_ifne (tgt := 60) dX12_phaser_53 (by decide) ?_ ?_
        · exact hK 60
        · refine js_iconst dX12_phaser_56 ?_
          refine js_goto (tgt := 84) dX12_phaser_57 (by decide) ?_
          exact hK 84
  · refine js_aload_n dX12_phaser_12 ?_
    refine js_get dX12_phaser_13 jf_30_11 tw_992 (Or.inl rfl) ?_
    refine js_iload dX12_phaser_16 ?_
    refine js_iald dX12_phaser_18 ?_
    refine js_ifne (tgt := 26) dX12_phaser_19 (by decide) ?_ ?_
    · refine js_iconst dX12_phaser_26 ?_
      refine js_goto (tgt := 84) dX12_phaser_27 (by decide) ?_
      exact hK 84
    · refine js_iconst dX12_phaser_22 ?_
      refine js_goto (tgt := 84) dX12_phaser_23 (by decide) ?_
      exact hK 84
def kX12_phaser_60 (n : Nat) (K : Nat → jK) : jK := jk_int 0 <| K 84
set_option maxRecDepth 100000 in
set_option maxHeartbeats 4000000 in
theorem tX12_phaser_60 (l : Launch) (n : Nat) {K : Nat → jK} (hK : ∀ b, jr_D l cX12_phaser 7 "MeetingKitModel" (Option.none : Option Jvm.ClassFile.FieldType) "phaser" 5 114 (K b) b) : jr_D l cX12_phaser 7 "MeetingKitModel" (Option.none : Option Jvm.ClassFile.FieldType) "phaser" 5 114 (kX12_phaser_60 n K) 60 := by
  unfold kX12_phaser_60
  refine js_iconst dX12_phaser_60 ?_
  refine js_goto (tgt := 84) dX12_phaser_61 (by decide) ?_
  exact hK 84
def kX12_phaser_83 (n : Nat) (K : Nat → jK) : jK := jk_int 0 <| K 84
set_option maxRecDepth 100000 in
set_option maxHeartbeats 4000000 in
theorem tX12_phaser_83 (l : Launch) (n : Nat) {K : Nat → jK} (hK : ∀ b, jr_D l cX12_phaser 7 "MeetingKitModel" (Option.none : Option Jvm.ClassFile.FieldType) "phaser" 5 114 (K b) b) : jr_D l cX12_phaser 7 "MeetingKitModel" (Option.none : Option Jvm.ClassFile.FieldType) "phaser" 5 114 (kX12_phaser_83 n K) 83 := by
  unfold kX12_phaser_83
  refine js_iconst dX12_phaser_83 ?_
  exact hK 84
def kX12_phaser_84 (n : Nat) (K : Nat → jK) : jK := jk_istore 5 <| jk_iload 5 <| jk_ifne (jk_iload 3 <| jk_ifne (jk_iload 3 <| jk_int 1 <| jk_icmpne (jk_aload 0 <| jk_get [11] 30 <| jk_iload 4 <| jk_int 0 <| jk_iast <| jk_aload 0 <| jk_get [11] 31 <| jk_iload 4 <| jk_int 0 <| jk_iast <| jk_aload 0 <| jk_iload 1 <| jk_iload 2 <| jk_vcall [(11, fX12_rises n)] 2 <| K 201) <| jk_aload 0 <| jk_get [11] 31 <| jk_iload 4 <| jk_int 1 <| jk_iast <| jk_aload 0 <| jk_iload 1 <| jk_int 1 <| jk_vcall [(11, fX12_areThere n)] 2 <| jk_ifeq (jk_aload 0 <| jk_iload 2 <| jk_vcall [(11, fX12_waits n)] 1 <| jk_istore 6 <| K 201) <| jk_aload 0 <| jk_iload 1 <| jk_iload 2 <| jk_vcall [(11, fX12_rises n)] 2 <| K 201) <| jk_aload 0 <| jk_get [11] 30 <| jk_iload 4 <| jk_aload 0 <| jk_iload 1 <| jk_int 0 <| jk_vcall [(11, fX12_areThere n)] 2 <| jk_ifeq (jk_int 1 <| K 123) <| jk_int 2 <| K 123) <| jk_aload 0 <| jk_iload 2 <| jk_vcall [(11, fX12_misuse n)] 1 <| K 201
set_option maxRecDepth 100000 in
set_option maxHeartbeats 4000000 in
theorem tX12_phaser_84 (l : Launch) (n : Nat) {K : Nat → jK} (hK : ∀ b, jr_D l cX12_phaser 7 "MeetingKitModel" (Option.none : Option Jvm.ClassFile.FieldType) "phaser" 5 114 (K b) b) : jr_D l cX12_phaser 7 "MeetingKitModel" (Option.none : Option Jvm.ClassFile.FieldType) "phaser" 5 114 (kX12_phaser_84 n K) 84 := by
  unfold kX12_phaser_84
  refine js_istore dX12_phaser_84 (by decide) ?_
  refine js_iload dX12_phaser_86 ?_
  refine js_ifne (tgt := 99) dX12_phaser_88 (by decide) ?_ ?_
  · refine js_iload_n dX12_phaser_99 ?_
    refine js_ifne (tgt := 138) dX12_phaser_100 (by decide) ?_ ?_
    · refine js_iload_n dX12_phaser_138 ?_
      refine js_iconst dX12_phaser_139 ?_
      refine js_icmpne (tgt := 179) dX12_phaser_140 (by decide) ?_ ?_
      · refine js_aload_n dX12_phaser_179 ?_
        refine js_get dX12_phaser_180 jf_30_11 tw_992 (Or.inl rfl) ?_
        refine js_iload dX12_phaser_183 ?_
        refine js_iconst dX12_phaser_185 ?_
        refine js_iast dX12_phaser_186 ?_
        refine js_aload_n dX12_phaser_187 ?_
        refine js_get dX12_phaser_188 jf_31_11 tw_993 (Or.inl rfl) ?_
        refine js_iload dX12_phaser_191 ?_
        refine js_iconst dX12_phaser_193 ?_
        refine js_iast dX12_phaser_194 ?_
        refine js_aload_n dX12_phaser_195 ?_
        refine js_iload_n dX12_phaser_196 ?_
        refine js_iload_n dX12_phaser_197 ?_
        refine js_callv dX12_phaser_198 (⟨⟨_, _, _, _, _, _, _, ⟨rfl, (show (11 : Nat) < 20 by decide), sX12_rises l n, by decide, by decide, tw_1252, tw_103, tw_1251⟩, Or.inl ⟨by decide +kernel, by decide +kernel, by decide +kernel, tw_1249, tw_94⟩⟩, trivial⟩) ?_
        exact hK 201
      · refine js_aload_n dX12_phaser_143 ?_
        refine js_get dX12_phaser_144 jf_31_11 tw_993 (Or.inl rfl) ?_
        refine js_iload dX12_phaser_147 ?_
        refine js_iconst dX12_phaser_149 ?_
        refine js_iast dX12_phaser_150 ?_
        refine js_aload_n dX12_phaser_151 ?_
        refine js_iload_n dX12_phaser_152 ?_
        refine js_iconst dX12_phaser_153 ?_
        refine js_callv dX12_phaser_154 (⟨⟨_, _, _, _, _, _, _, ⟨rfl, (show (11 : Nat) < 20 by decide), sX12_areThere l n, by decide, by decide, tw_1248, tw_103, tw_1247⟩, Or.inl ⟨by decide +kernel, by decide +kernel, by decide +kernel, tw_1245, tw_93⟩⟩, trivial⟩) ?_
        refine js_ifeq (tgt := 169) dX12_phaser_157 (by decide) ?_ ?_
        · refine js_aload_n dX12_phaser_169 ?_
          refine js_iload_n dX12_phaser_170 ?_
          refine js_callv dX12_phaser_171 (⟨⟨_, _, _, _, _, _, _, ⟨rfl, (show (11 : Nat) < 20 by decide), sX12_waits l n, by decide, by decide, tw_1208, tw_103, tw_1207⟩, Or.inl ⟨by decide +kernel, by decide +kernel, by decide +kernel, tw_1205, tw_83⟩⟩, trivial⟩) ?_
          refine js_istore dX12_phaser_174 (by decide) ?_
          refine js_goto (tgt := 201) dX12_phaser_176 (by decide) ?_
          exact hK 201
        · refine js_aload_n dX12_phaser_160 ?_
          refine js_iload_n dX12_phaser_161 ?_
          refine js_iload_n dX12_phaser_162 ?_
          refine js_callv dX12_phaser_163 (⟨⟨_, _, _, _, _, _, _, ⟨rfl, (show (11 : Nat) < 20 by decide), sX12_rises l n, by decide, by decide, tw_1252, tw_103, tw_1251⟩, Or.inl ⟨by decide +kernel, by decide +kernel, by decide +kernel, tw_1249, tw_94⟩⟩, trivial⟩) ?_
          refine js_goto (tgt := 201) dX12_phaser_166 (by decide) ?_
          exact hK 201
    · refine js_aload_n dX12_phaser_103 ?_
      refine js_get dX12_phaser_104 jf_30_11 tw_992 (Or.inl rfl) ?_
      refine js_iload dX12_phaser_107 ?_
      refine js_aload_n dX12_phaser_109 ?_
      refine js_iload_n dX12_phaser_110 ?_
      refine js_iconst dX12_phaser_111 ?_
      refine js_callv dX12_phaser_112 (⟨⟨_, _, _, _, _, _, _, ⟨rfl, (show (11 : Nat) < 20 by decide), sX12_areThere l n, by decide, by decide, tw_1248, tw_103, tw_1247⟩, Or.inl ⟨by decide +kernel, by decide +kernel, by decide +kernel, tw_1245, tw_93⟩⟩, trivial⟩) ?_
      refine js_ifeq (tgt := 122) dX12_phaser_115 (by decide) ?_ ?_
      · refine js_iconst dX12_phaser_122 ?_
        exact hK 123
      · refine js_iconst dX12_phaser_118 ?_
        refine js_goto (tgt := 123) dX12_phaser_119 (by decide) ?_
        exact hK 123
  · refine js_aload_n dX12_phaser_91 ?_
    refine js_iload_n dX12_phaser_92 ?_
    refine js_callv dX12_phaser_93 (⟨⟨_, _, _, _, _, _, _, ⟨rfl, (show (11 : Nat) < 20 by decide), sX12_misuse l n, by decide, by decide, tw_1204, tw_103, tw_1203⟩, Or.inl ⟨by decide +kernel, by decide +kernel, by decide +kernel, tw_1201, tw_82⟩⟩, trivial⟩) ?_
    refine js_goto (tgt := 201) dX12_phaser_96 (by decide) ?_
    exact hK 201
def kX12_phaser_123 (n : Nat) (K : Nat → jK) : jK := jk_kill 3 <| jk_kill 4 <| jk_kill 5 <| jk_iast <| jk_aload 0 <| jk_iload 2 <| jk_aload 0 <| jk_get [11] 24 <| jk_iload 1 <| jk_iald <| jk_vcall [(11, fX12_passes n)] 2 <| K 201
set_option maxRecDepth 100000 in
set_option maxHeartbeats 4000000 in
theorem tX12_phaser_123 (l : Launch) (n : Nat) {K : Nat → jK} (hK : ∀ b, jr_D l cX12_phaser 7 "MeetingKitModel" (Option.none : Option Jvm.ClassFile.FieldType) "phaser" 5 114 (K b) b) : jr_D l cX12_phaser 7 "MeetingKitModel" (Option.none : Option Jvm.ClassFile.FieldType) "phaser" 5 114 (kX12_phaser_123 n K) 123 := by
  unfold kX12_phaser_123
  refine js_kill ?_
  refine js_kill ?_
  refine js_kill ?_
  refine js_iast dX12_phaser_123 ?_
  refine js_aload_n dX12_phaser_124 ?_
  refine js_iload_n dX12_phaser_125 ?_
  refine js_aload_n dX12_phaser_126 ?_
  refine js_get dX12_phaser_127 jf_24_11 tw_986 (Or.inl rfl) ?_
  refine js_iload_n dX12_phaser_130 ?_
  refine js_iald dX12_phaser_131 ?_
  refine js_callv dX12_phaser_132 (⟨⟨_, _, _, _, _, _, _, ⟨rfl, (show (11 : Nat) < 20 by decide), sX12_passes l n, by decide, by decide, tw_1172, tw_103, tw_1171⟩, Or.inl ⟨by decide +kernel, by decide +kernel, by decide +kernel, tw_1169, tw_74⟩⟩, trivial⟩) ?_
  refine js_goto (tgt := 201) dX12_phaser_135 (by decide) ?_
  exact hK 201
def kX12_phaser_201 (n : Nat) (K : Nat → jK) : jK := jk_kill 0 <| jk_kill 1 <| jk_kill 2 <| jk_kill 3 <| jk_kill 4 <| jk_kill 5 <| jk_kill 6 <| jk_vret
set_option maxRecDepth 100000 in
set_option maxHeartbeats 4000000 in
theorem tX12_phaser_201 (l : Launch) (n : Nat) {K : Nat → jK} (hK : ∀ b, jr_D l cX12_phaser 7 "MeetingKitModel" (Option.none : Option Jvm.ClassFile.FieldType) "phaser" 5 114 (K b) b) : jr_D l cX12_phaser 7 "MeetingKitModel" (Option.none : Option Jvm.ClassFile.FieldType) "phaser" 5 114 (kX12_phaser_201 n K) 201 := by
  unfold kX12_phaser_201
  refine js_kill ?_
  refine js_kill ?_
  refine js_kill ?_
  refine js_kill ?_
  refine js_kill ?_
  refine js_kill ?_
  refine js_kill ?_
  exact js_vret dX12_phaser_201 rfl
def kX12_phaser_b (n : Nat) (K : Nat → jK) (b : Nat) : jK := if b = 0 then kX12_phaser_0 n K else if b = 60 then kX12_phaser_60 n K else if b = 83 then kX12_phaser_83 n K else if b = 84 then kX12_phaser_84 n K else if b = 123 then kX12_phaser_123 n K else if b = 201 then kX12_phaser_201 n K else jk_none
def kX12_phaser (n : Nat) : jK := jk_fix (kX12_phaser_b n) n 0
theorem tX12_phaser (l : Launch) (n : Nat) : jr_D l cX12_phaser 7 "MeetingKitModel" (Option.none : Option Jvm.ClassFile.FieldType) "phaser" 5 114 (kX12_phaser n) 0 := js_fix (F := kX12_phaser_b n) (fun K hK b => js_blk (tX12_phaser_0 l n hK) (js_blk (tX12_phaser_60 l n hK) (js_blk (tX12_phaser_83 l n hK) (js_blk (tX12_phaser_84 l n hK) (js_blk (tX12_phaser_123 l n hK) (js_blk (tX12_phaser_201 l n hK) (js_none))))))) n 0
def fX12_phaser (n : Nat) : jF := jm_run 4 7 (kX12_phaser n)
theorem sX12_phaser (l : Launch) (n : Nat) : jr_F l (⟨"MeetingKitModel", "phaser", "(III)V"⟩ : MethodName) cX12_phaser 7 (Option.none : Option Jvm.ClassFile.FieldType) 5 114 (fX12_phaser n) := js_met (by decide +kernel) (by decide) (tX12_phaser l n)
theorem dX12_pause_0 : decode cX12_pause 0 = .ok (.iload_n 3, 1) := by decide +kernel
theorem dX12_pause_1 : decode cX12_pause 1 = .ok (.iconst 2, 1) := by decide +kernel
theorem dX12_pause_2 : decode cX12_pause 2 = .ok (.if_icmp .le 11, 3) := by decide +kernel
theorem dX12_pause_5 : decode cX12_pause 5 = .ok (.aload_n 0, 1) := by decide +kernel
theorem dX12_pause_6 : decode cX12_pause 6 = .ok (.iload_n 2, 1) := by decide +kernel
theorem dX12_pause_7 : decode cX12_pause 7 = .ok (.invokevirtual 192, 3) := by decide +kernel
theorem dX12_pause_10 : decode cX12_pause 10 = .ok (.goto 48, 3) := by decide +kernel
theorem dX12_pause_13 : decode cX12_pause 13 = .ok (.iload_n 3, 1) := by decide +kernel
theorem dX12_pause_14 : decode cX12_pause 14 = .ok (.iconst 2, 1) := by decide +kernel
theorem dX12_pause_15 : decode cX12_pause 15 = .ok (.if_icmp .ne 23, 3) := by decide +kernel
theorem dX12_pause_18 : decode cX12_pause 18 = .ok (.aload_n 0, 1) := by decide +kernel
theorem dX12_pause_19 : decode cX12_pause 19 = .ok (.getfield 76, 3) := by decide +kernel
theorem dX12_pause_22 : decode cX12_pause 22 = .ok (.iload_n 1, 1) := by decide +kernel
theorem dX12_pause_23 : decode cX12_pause 23 = .ok (.iaload, 1) := by decide +kernel
theorem dX12_pause_24 : decode cX12_pause 24 = .ok (.iconst 1, 1) := by decide +kernel
theorem dX12_pause_25 : decode cX12_pause 25 = .ok (.if_icmp .ne 13, 3) := by decide +kernel
theorem dX12_pause_28 : decode cX12_pause 28 = .ok (.aload_n 0, 1) := by decide +kernel
theorem dX12_pause_29 : decode cX12_pause 29 = .ok (.iload_n 2, 1) := by decide +kernel
theorem dX12_pause_30 : decode cX12_pause 30 = .ok (.invokevirtual 195, 3) := by decide +kernel
theorem dX12_pause_33 : decode cX12_pause 33 = .ok (.istore 4, 2) := by decide +kernel
theorem dX12_pause_35 : decode cX12_pause 35 = .ok (.goto 23, 3) := by decide +kernel
theorem dX12_pause_38 : decode cX12_pause 38 = .ok (.iload_n 3, 1) := by decide +kernel
theorem dX12_pause_39 : decode cX12_pause 39 = .ok (.iconst 2, 1) := by decide +kernel
theorem dX12_pause_40 : decode cX12_pause 40 = .ok (.if_icmp .ge 12, 3) := by decide +kernel
theorem dX12_pause_43 : decode cX12_pause 43 = .ok (.aload_n 0, 1) := by decide +kernel
theorem dX12_pause_44 : decode cX12_pause 44 = .ok (.getfield 76, 3) := by decide +kernel
theorem dX12_pause_47 : decode cX12_pause 47 = .ok (.iload_n 1, 1) := by decide +kernel
theorem dX12_pause_48 : decode cX12_pause 48 = .ok (.iconst 1, 1) := by decide +kernel
theorem dX12_pause_49 : decode cX12_pause 49 = .ok (.iload_n 3, 1) := by decide +kernel
theorem dX12_pause_50 : decode cX12_pause 50 = .ok (.isub, 1) := by decide +kernel
theorem dX12_pause_51 : decode cX12_pause 51 = .ok (.iastore, 1) := by decide +kernel
theorem dX12_pause_52 : decode cX12_pause 52 = .ok (.aload_n 0, 1) := by decide +kernel
theorem dX12_pause_53 : decode cX12_pause 53 = .ok (.iload_n 2, 1) := by decide +kernel
theorem dX12_pause_54 : decode cX12_pause 54 = .ok (.iconst 0, 1) := by decide +kernel
theorem dX12_pause_55 : decode cX12_pause 55 = .ok (.invokevirtual 165, 3) := by decide +kernel
theorem dX12_pause_58 : decode cX12_pause 58 = .ok (.return_, 1) := by decide +kernel
def kX12_pause_0 (n : Nat) (K : Nat → jK) : jK := jk_iload 3 <| jk_int 2 <| jk_icmple (jk_iload 3 <| jk_int 2 <| jk_icmpne (K 38) <| jk_aload 0 <| jk_get [11] 25 <| jk_iload 1 <| jk_iald <| jk_int 1 <| jk_icmpne (K 38) <| jk_aload 0 <| jk_iload 2 <| jk_vcall [(11, fX12_waits n)] 1 <| jk_istore 4 <| K 58) <| jk_aload 0 <| jk_iload 2 <| jk_vcall [(11, fX12_misuse n)] 1 <| K 58
set_option maxRecDepth 100000 in
set_option maxHeartbeats 4000000 in
theorem tX12_pause_0 (l : Launch) (n : Nat) {K : Nat → jK} (hK : ∀ b, jr_D l cX12_pause 5 "MeetingKitModel" (Option.none : Option Jvm.ClassFile.FieldType) "pause" 4 90 (K b) b) : jr_D l cX12_pause 5 "MeetingKitModel" (Option.none : Option Jvm.ClassFile.FieldType) "pause" 4 90 (kX12_pause_0 n K) 0 := by
  unfold kX12_pause_0
  refine js_iload_n dX12_pause_0 ?_
  refine js_iconst dX12_pause_1 ?_
  refine js_icmple (tgt := 13) dX12_pause_2 (by decide) ?_ ?_
  · refine js_iload_n dX12_pause_13 ?_
    refine js_iconst dX12_pause_14 ?_
    refine js_icmpne (tgt := 38) dX12_pause_15 (by decide) ?_ ?_
    · exact hK 38
    · refine js_aload_n dX12_pause_18 ?_
      refine js_get dX12_pause_19 jf_25_11 tw_987 (Or.inl rfl) ?_
      refine js_iload_n dX12_pause_22 ?_
      refine js_iald dX12_pause_23 ?_
      refine js_iconst dX12_pause_24 ?_
      refine js_icmpne (tgt := 38) dX12_pause_25 (by decide) ?_ ?_
      · exact hK 38
      · refine js_aload_n dX12_pause_28 ?_
        refine js_iload_n dX12_pause_29 ?_
        refine js_callv dX12_pause_30 (⟨⟨_, _, _, _, _, _, _, ⟨rfl, (show (11 : Nat) < 20 by decide), sX12_waits l n, by decide, by decide, tw_1208, tw_103, tw_1207⟩, Or.inl ⟨by decide +kernel, by decide +kernel, by decide +kernel, tw_1205, tw_83⟩⟩, trivial⟩) ?_
        refine js_istore dX12_pause_33 (by decide) ?_
        refine js_goto (tgt := 58) dX12_pause_35 (by decide) ?_
        exact hK 58
  · refine js_aload_n dX12_pause_5 ?_
    refine js_iload_n dX12_pause_6 ?_
    refine js_callv dX12_pause_7 (⟨⟨_, _, _, _, _, _, _, ⟨rfl, (show (11 : Nat) < 20 by decide), sX12_misuse l n, by decide, by decide, tw_1204, tw_103, tw_1203⟩, Or.inl ⟨by decide +kernel, by decide +kernel, by decide +kernel, tw_1201, tw_82⟩⟩, trivial⟩) ?_
    refine js_goto (tgt := 58) dX12_pause_10 (by decide) ?_
    exact hK 58
def kX12_pause_38 (n : Nat) (K : Nat → jK) : jK := jk_iload 3 <| jk_int 2 <| jk_icmpge (K 52) <| jk_aload 0 <| jk_get [11] 25 <| jk_iload 1 <| jk_int 1 <| jk_iload 3 <| jk_isub <| jk_iast <| K 52
set_option maxRecDepth 100000 in
set_option maxHeartbeats 4000000 in
theorem tX12_pause_38 (l : Launch) (n : Nat) {K : Nat → jK} (hK : ∀ b, jr_D l cX12_pause 5 "MeetingKitModel" (Option.none : Option Jvm.ClassFile.FieldType) "pause" 4 90 (K b) b) : jr_D l cX12_pause 5 "MeetingKitModel" (Option.none : Option Jvm.ClassFile.FieldType) "pause" 4 90 (kX12_pause_38 n K) 38 := by
  unfold kX12_pause_38
  refine js_iload_n dX12_pause_38 ?_
  refine js_iconst dX12_pause_39 ?_
  refine js_icmpge (tgt := 52) dX12_pause_40 (by decide) ?_ ?_
  · exact hK 52
  · refine js_aload_n dX12_pause_43 ?_
    refine js_get dX12_pause_44 jf_25_11 tw_987 (Or.inl rfl) ?_
    refine js_iload_n dX12_pause_47 ?_
    refine js_iconst dX12_pause_48 ?_
    refine js_iload_n dX12_pause_49 ?_
    refine js_isub dX12_pause_50 ?_
    refine js_iast dX12_pause_51 ?_
    exact hK 52
def kX12_pause_52 (n : Nat) (K : Nat → jK) : jK := jk_kill 1 <| jk_kill 3 <| jk_aload 0 <| jk_iload 2 <| jk_int 0 <| jk_vcall [(11, fX12_passes n)] 2 <| K 58
set_option maxRecDepth 100000 in
set_option maxHeartbeats 4000000 in
theorem tX12_pause_52 (l : Launch) (n : Nat) {K : Nat → jK} (hK : ∀ b, jr_D l cX12_pause 5 "MeetingKitModel" (Option.none : Option Jvm.ClassFile.FieldType) "pause" 4 90 (K b) b) : jr_D l cX12_pause 5 "MeetingKitModel" (Option.none : Option Jvm.ClassFile.FieldType) "pause" 4 90 (kX12_pause_52 n K) 52 := by
  unfold kX12_pause_52
  refine js_kill ?_
  refine js_kill ?_
  refine js_aload_n dX12_pause_52 ?_
  refine js_iload_n dX12_pause_53 ?_
  refine js_iconst dX12_pause_54 ?_
  refine js_callv dX12_pause_55 (⟨⟨_, _, _, _, _, _, _, ⟨rfl, (show (11 : Nat) < 20 by decide), sX12_passes l n, by decide, by decide, tw_1172, tw_103, tw_1171⟩, Or.inl ⟨by decide +kernel, by decide +kernel, by decide +kernel, tw_1169, tw_74⟩⟩, trivial⟩) ?_
  exact hK 58
def kX12_pause_58 (n : Nat) (K : Nat → jK) : jK := jk_kill 0 <| jk_kill 1 <| jk_kill 2 <| jk_kill 3 <| jk_kill 4 <| jk_vret
set_option maxRecDepth 100000 in
set_option maxHeartbeats 4000000 in
theorem tX12_pause_58 (l : Launch) (n : Nat) {K : Nat → jK} (hK : ∀ b, jr_D l cX12_pause 5 "MeetingKitModel" (Option.none : Option Jvm.ClassFile.FieldType) "pause" 4 90 (K b) b) : jr_D l cX12_pause 5 "MeetingKitModel" (Option.none : Option Jvm.ClassFile.FieldType) "pause" 4 90 (kX12_pause_58 n K) 58 := by
  unfold kX12_pause_58
  refine js_kill ?_
  refine js_kill ?_
  refine js_kill ?_
  refine js_kill ?_
  refine js_kill ?_
  exact js_vret dX12_pause_58 rfl
def kX12_pause_b (n : Nat) (K : Nat → jK) (b : Nat) : jK := if b = 0 then kX12_pause_0 n K else if b = 38 then kX12_pause_38 n K else if b = 52 then kX12_pause_52 n K else if b = 58 then kX12_pause_58 n K else jk_none
def kX12_pause (n : Nat) : jK := jk_fix (kX12_pause_b n) n 0
theorem tX12_pause (l : Launch) (n : Nat) : jr_D l cX12_pause 5 "MeetingKitModel" (Option.none : Option Jvm.ClassFile.FieldType) "pause" 4 90 (kX12_pause n) 0 := js_fix (F := kX12_pause_b n) (fun K hK b => js_blk (tX12_pause_0 l n hK) (js_blk (tX12_pause_38 l n hK) (js_blk (tX12_pause_52 l n hK) (js_blk (tX12_pause_58 l n hK) (js_none))))) n 0
def fX12_pause (n : Nat) : jF := jm_run 4 5 (kX12_pause n)
theorem sX12_pause (l : Launch) (n : Nat) : jr_F l (⟨"MeetingKitModel", "pause", "(III)V"⟩ : MethodName) cX12_pause 5 (Option.none : Option Jvm.ClassFile.FieldType) 4 90 (fX12_pause n) := js_met (by decide +kernel) (by decide) (tX12_pause l n)
theorem dX12_wakes_0 : decode cX12_wakes 0 = .ok (.iconst 0, 1) := by decide +kernel
theorem dX12_wakes_1 : decode cX12_wakes 1 = .ok (.istore 4, 2) := by decide +kernel
theorem dX12_wakes_3 : decode cX12_wakes 3 = .ok (.iconst 0, 1) := by decide +kernel
theorem dX12_wakes_4 : decode cX12_wakes 4 = .ok (.istore 5, 2) := by decide +kernel
theorem dX12_wakes_6 : decode cX12_wakes 6 = .ok (.aload_n 0, 1) := by decide +kernel
theorem dX12_wakes_7 : decode cX12_wakes 7 = .ok (.getfield 70, 3) := by decide +kernel
theorem dX12_wakes_10 : decode cX12_wakes 10 = .ok (.iload_n 1, 1) := by decide +kernel
theorem dX12_wakes_11 : decode cX12_wakes 11 = .ok (.iaload, 1) := by decide +kernel
theorem dX12_wakes_12 : decode cX12_wakes 12 = .ok (.istore 6, 2) := by decide +kernel
theorem dX12_wakes_14 : decode cX12_wakes 14 = .ok (.iconst 0, 1) := by decide +kernel
theorem dX12_wakes_15 : decode cX12_wakes 15 = .ok (.istore 7, 2) := by decide +kernel
theorem dX12_wakes_17 : decode cX12_wakes 17 = .ok (.iload 7, 2) := by decide +kernel
theorem dX12_wakes_19 : decode cX12_wakes 19 = .ok (.iload 6, 2) := by decide +kernel
theorem dX12_wakes_21 : decode cX12_wakes 21 = .ok (.if_icmp .ge 126, 3) := by decide +kernel
theorem dX12_wakes_24 : decode cX12_wakes 24 = .ok (.aload_n 0, 1) := by decide +kernel
theorem dX12_wakes_25 : decode cX12_wakes 25 = .ok (.iload_n 1, 1) := by decide +kernel
theorem dX12_wakes_26 : decode cX12_wakes 26 = .ok (.iload 5, 2) := by decide +kernel
theorem dX12_wakes_28 : decode cX12_wakes 28 = .ok (.invokevirtual 157, 3) := by decide +kernel
theorem dX12_wakes_31 : decode cX12_wakes 31 = .ok (.istore 8, 2) := by decide +kernel
theorem dX12_wakes_33 : decode cX12_wakes 33 = .ok (.aload_n 0, 1) := by decide +kernel
theorem dX12_wakes_34 : decode cX12_wakes 34 = .ok (.getfield 28, 3) := by decide +kernel
theorem dX12_wakes_37 : decode cX12_wakes 37 = .ok (.iload 8, 2) := by decide +kernel
theorem dX12_wakes_39 : decode cX12_wakes 39 = .ok (.iaload, 1) := by decide +kernel
theorem dX12_wakes_40 : decode cX12_wakes 40 = .ok (.iconst 1, 1) := by decide +kernel
theorem dX12_wakes_41 : decode cX12_wakes 41 = .ok (.if_icmp .eq 22, 3) := by decide +kernel
theorem dX12_wakes_44 : decode cX12_wakes 44 = .ok (.aload_n 0, 1) := by decide +kernel
theorem dX12_wakes_45 : decode cX12_wakes 45 = .ok (.iload 8, 2) := by decide +kernel
theorem dX12_wakes_47 : decode cX12_wakes 47 = .ok (.invokevirtual 171, 3) := by decide +kernel
theorem dX12_wakes_50 : decode cX12_wakes 50 = .ok (.iload_n 2, 1) := by decide +kernel
theorem dX12_wakes_51 : decode cX12_wakes 51 = .ok (.if_icmp .ne 12, 3) := by decide +kernel
theorem dX12_wakes_54 : decode cX12_wakes 54 = .ok (.iload 4, 2) := by decide +kernel
theorem dX12_wakes_56 : decode cX12_wakes 56 = .ok (.ifCond .le 13, 3) := by decide +kernel
theorem dX12_wakes_59 : decode cX12_wakes 59 = .ok (.iload_n 3, 1) := by decide +kernel
theorem dX12_wakes_60 : decode cX12_wakes 60 = .ok (.ifCond .ne 9, 3) := by decide +kernel
theorem dX12_wakes_63 : decode cX12_wakes 63 = .ok (.iinc 5 1, 3) := by decide +kernel
theorem dX12_wakes_66 : decode cX12_wakes 66 = .ok (.goto 75, 3) := by decide +kernel
theorem dX12_wakes_69 : decode cX12_wakes 69 = .ok (.iload 5, 2) := by decide +kernel
theorem dX12_wakes_71 : decode cX12_wakes 71 = .ok (.istore 9, 2) := by decide +kernel
theorem dX12_wakes_73 : decode cX12_wakes 73 = .ok (.iload 9, 2) := by decide +kernel
theorem dX12_wakes_75 : decode cX12_wakes 75 = .ok (.iconst 1, 1) := by decide +kernel
theorem dX12_wakes_76 : decode cX12_wakes 76 = .ok (.iadd, 1) := by decide +kernel
theorem dX12_wakes_77 : decode cX12_wakes 77 = .ok (.iload 6, 2) := by decide +kernel
theorem dX12_wakes_79 : decode cX12_wakes 79 = .ok (.if_icmp .ge 35, 3) := by decide +kernel
theorem dX12_wakes_82 : decode cX12_wakes 82 = .ok (.aload_n 0, 1) := by decide +kernel
theorem dX12_wakes_83 : decode cX12_wakes 83 = .ok (.getfield 67, 3) := by decide +kernel
theorem dX12_wakes_86 : decode cX12_wakes 86 = .ok (.bipush 16, 2) := by decide +kernel
theorem dX12_wakes_88 : decode cX12_wakes 88 = .ok (.iload_n 1, 1) := by decide +kernel
theorem dX12_wakes_89 : decode cX12_wakes 89 = .ok (.imul, 1) := by decide +kernel
theorem dX12_wakes_90 : decode cX12_wakes 90 = .ok (.iload 9, 2) := by decide +kernel
theorem dX12_wakes_92 : decode cX12_wakes 92 = .ok (.iadd, 1) := by decide +kernel
theorem dX12_wakes_93 : decode cX12_wakes 93 = .ok (.aload_n 0, 1) := by decide +kernel
theorem dX12_wakes_94 : decode cX12_wakes 94 = .ok (.getfield 67, 3) := by decide +kernel
theorem dX12_wakes_97 : decode cX12_wakes 97 = .ok (.bipush 16, 2) := by decide +kernel
theorem dX12_wakes_99 : decode cX12_wakes 99 = .ok (.iload_n 1, 1) := by decide +kernel
theorem dX12_wakes_100 : decode cX12_wakes 100 = .ok (.imul, 1) := by decide +kernel
theorem dX12_wakes_101 : decode cX12_wakes 101 = .ok (.iload 9, 2) := by decide +kernel
theorem dX12_wakes_103 : decode cX12_wakes 103 = .ok (.iadd, 1) := by decide +kernel
theorem dX12_wakes_104 : decode cX12_wakes 104 = .ok (.iconst 1, 1) := by decide +kernel
theorem dX12_wakes_105 : decode cX12_wakes 105 = .ok (.iadd, 1) := by decide +kernel
theorem dX12_wakes_106 : decode cX12_wakes 106 = .ok (.iaload, 1) := by decide +kernel
theorem dX12_wakes_107 : decode cX12_wakes 107 = .ok (.iastore, 1) := by decide +kernel
theorem dX12_wakes_108 : decode cX12_wakes 108 = .ok (.iinc 9 1, 3) := by decide +kernel
theorem dX12_wakes_111 : decode cX12_wakes 111 = .ok (.goto (-38), 3) := by decide +kernel
theorem dX12_wakes_114 : decode cX12_wakes 114 = .ok (.aload_n 0, 1) := by decide +kernel
theorem dX12_wakes_115 : decode cX12_wakes 115 = .ok (.getfield 67, 3) := by decide +kernel
theorem dX12_wakes_118 : decode cX12_wakes 118 = .ok (.bipush 16, 2) := by decide +kernel
theorem dX12_wakes_120 : decode cX12_wakes 120 = .ok (.iload_n 1, 1) := by decide +kernel
theorem dX12_wakes_121 : decode cX12_wakes 121 = .ok (.imul, 1) := by decide +kernel
theorem dX12_wakes_122 : decode cX12_wakes 122 = .ok (.iload 6, 2) := by decide +kernel
theorem dX12_wakes_124 : decode cX12_wakes 124 = .ok (.iadd, 1) := by decide +kernel
theorem dX12_wakes_125 : decode cX12_wakes 125 = .ok (.iconst 1, 1) := by decide +kernel
theorem dX12_wakes_126 : decode cX12_wakes 126 = .ok (.isub, 1) := by decide +kernel
theorem dX12_wakes_127 : decode cX12_wakes 127 = .ok (.iload 8, 2) := by decide +kernel
theorem dX12_wakes_129 : decode cX12_wakes 129 = .ok (.iastore, 1) := by decide +kernel
theorem dX12_wakes_130 : decode cX12_wakes 130 = .ok (.aload_n 0, 1) := by decide +kernel
theorem dX12_wakes_131 : decode cX12_wakes 131 = .ok (.getfield 28, 3) := by decide +kernel
theorem dX12_wakes_134 : decode cX12_wakes 134 = .ok (.iload 8, 2) := by decide +kernel
theorem dX12_wakes_136 : decode cX12_wakes 136 = .ok (.iconst 1, 1) := by decide +kernel
theorem dX12_wakes_137 : decode cX12_wakes 137 = .ok (.iastore, 1) := by decide +kernel
theorem dX12_wakes_138 : decode cX12_wakes 138 = .ok (.iinc 4 1, 3) := by decide +kernel
theorem dX12_wakes_141 : decode cX12_wakes 141 = .ok (.iinc 7 1, 3) := by decide +kernel
theorem dX12_wakes_144 : decode cX12_wakes 144 = .ok (.goto (-127), 3) := by decide +kernel
theorem dX12_wakes_147 : decode cX12_wakes 147 = .ok (.iload 4, 2) := by decide +kernel
theorem dX12_wakes_149 : decode cX12_wakes 149 = .ok (.ireturn, 1) := by decide +kernel
def kX12_wakes_0 (n : Nat) (K : Nat → jK) : jK := jk_int 0 <| jk_istore 4 <| jk_int 0 <| jk_istore 5 <| jk_aload 0 <| jk_get [11] 23 <| jk_iload 1 <| jk_iald <| jk_istore 6 <| jk_int 0 <| jk_istore 7 <| K 17
set_option maxRecDepth 100000 in
set_option maxHeartbeats 4000000 in
theorem tX12_wakes_0 (l : Launch) (n : Nat) {K : Nat → jK} (hK : ∀ b, jr_D l cX12_wakes 10 "MeetingKitModel" (Option.some Jvm.ClassFile.FieldType.int) "wakes" 2 42 (K b) b) : jr_D l cX12_wakes 10 "MeetingKitModel" (Option.some Jvm.ClassFile.FieldType.int) "wakes" 2 42 (kX12_wakes_0 n K) 0 := by
  unfold kX12_wakes_0
  refine js_iconst dX12_wakes_0 ?_
  refine js_istore dX12_wakes_1 (by decide) ?_
  refine js_iconst dX12_wakes_3 ?_
  refine js_istore dX12_wakes_4 (by decide) ?_
  refine js_aload_n dX12_wakes_6 ?_
  refine js_get dX12_wakes_7 jf_23_11 tw_985 (Or.inl rfl) ?_
  refine js_iload_n dX12_wakes_10 ?_
  refine js_iald dX12_wakes_11 ?_
  refine js_istore dX12_wakes_12 (by decide) ?_
  refine js_iconst dX12_wakes_14 ?_
  refine js_istore dX12_wakes_15 (by decide) ?_
  exact hK 17
def kX12_wakes_17 (n : Nat) (K : Nat → jK) : jK := jk_kill 8 <| jk_kill 9 <| jk_iload 7 <| jk_iload 6 <| jk_icmpge (jk_iload 4 <| jk_iret) <| jk_aload 0 <| jk_iload 1 <| jk_iload 5 <| jk_vcall [(11, fX12_inLine n)] 2 <| jk_istore 8 <| jk_aload 0 <| jk_get [11] 9 <| jk_iload 8 <| jk_iald <| jk_int 1 <| jk_icmpeq (K 63) <| jk_aload 0 <| jk_iload 8 <| jk_vcall [(11, fX12_numberOf n)] 1 <| jk_iload 2 <| jk_icmpne (K 63) <| jk_iload 4 <| jk_ifle (K 69) <| jk_iload 3 <| jk_ifne (K 69) <| K 63
set_option maxRecDepth 100000 in
set_option maxHeartbeats 4000000 in
theorem tX12_wakes_17 (l : Launch) (n : Nat) {K : Nat → jK} (hK : ∀ b, jr_D l cX12_wakes 10 "MeetingKitModel" (Option.some Jvm.ClassFile.FieldType.int) "wakes" 2 42 (K b) b) : jr_D l cX12_wakes 10 "MeetingKitModel" (Option.some Jvm.ClassFile.FieldType.int) "wakes" 2 42 (kX12_wakes_17 n K) 17 := by
  unfold kX12_wakes_17
  refine js_kill ?_
  refine js_kill ?_
  refine js_iload dX12_wakes_17 ?_
  refine js_iload dX12_wakes_19 ?_
  refine js_icmpge (tgt := 147) dX12_wakes_21 (by decide) ?_ ?_
  · refine js_iload dX12_wakes_147 ?_
    exact js_iret dX12_wakes_149 rfl
  · refine js_aload_n dX12_wakes_24 ?_
    refine js_iload_n dX12_wakes_25 ?_
    refine js_iload dX12_wakes_26 ?_
    refine js_callv dX12_wakes_28 (⟨⟨_, _, _, _, _, _, _, ⟨rfl, (show (11 : Nat) < 20 by decide), sX12_inLine l n, by decide, by decide, tw_1144, tw_103, tw_1143⟩, Or.inl ⟨by decide +kernel, by decide +kernel, by decide +kernel, tw_1141, tw_67⟩⟩, trivial⟩) ?_
    refine js_istore dX12_wakes_31 (by decide) ?_
    refine js_aload_n dX12_wakes_33 ?_
    refine js_get dX12_wakes_34 jf_9_11 tw_971 (Or.inl rfl) ?_
    refine js_iload dX12_wakes_37 ?_
    refine js_iald dX12_wakes_39 ?_
    refine js_iconst dX12_wakes_40 ?_
    refine js_icmpeq (tgt := 63) dX12_wakes_41 (by decide) ?_ ?_
    · exact hK 63
    · refine js_aload_n dX12_wakes_44 ?_
      refine js_iload dX12_wakes_45 ?_
      refine js_callv dX12_wakes_47 (⟨⟨_, _, _, _, _, _, _, ⟨rfl, (show (11 : Nat) < 20 by decide), sX12_numberOf l n, by decide, by decide, tw_1164, tw_103, tw_1163⟩, Or.inl ⟨by decide +kernel, by decide +kernel, by decide +kernel, tw_1161, tw_72⟩⟩, trivial⟩) ?_
      refine js_iload_n dX12_wakes_50 ?_
      refine js_icmpne (tgt := 63) dX12_wakes_51 (by decide) ?_ ?_
      · exact hK 63
      · refine js_iload dX12_wakes_54 ?_
        refine js_ifle (tgt := 69) dX12_wakes_56 (by decide) ?_ ?_
        · exact hK 69
        · refine js_iload_n dX12_wakes_59 ?_
          refine js_ifne (tgt := 69) dX12_wakes_60 (by decide) ?_ ?_
          · exact hK 69
          · exact hK 63
def kX12_wakes_63 (n : Nat) (K : Nat → jK) : jK := jk_kill 8 <| jk_kill 9 <| jk_iinc 5 1 <| K 141
set_option maxRecDepth 100000 in
set_option maxHeartbeats 4000000 in
theorem tX12_wakes_63 (l : Launch) (n : Nat) {K : Nat → jK} (hK : ∀ b, jr_D l cX12_wakes 10 "MeetingKitModel" (Option.some Jvm.ClassFile.FieldType.int) "wakes" 2 42 (K b) b) : jr_D l cX12_wakes 10 "MeetingKitModel" (Option.some Jvm.ClassFile.FieldType.int) "wakes" 2 42 (kX12_wakes_63 n K) 63 := by
  unfold kX12_wakes_63
  refine js_kill ?_
  refine js_kill ?_
  refine js_iinc dX12_wakes_63 (by decide) ?_
  refine js_goto (tgt := 141) dX12_wakes_66 (by decide) ?_
  exact hK 141
def kX12_wakes_69 (n : Nat) (K : Nat → jK) : jK := jk_kill 9 <| jk_iload 5 <| jk_istore 9 <| K 73
set_option maxRecDepth 100000 in
set_option maxHeartbeats 4000000 in
theorem tX12_wakes_69 (l : Launch) (n : Nat) {K : Nat → jK} (hK : ∀ b, jr_D l cX12_wakes 10 "MeetingKitModel" (Option.some Jvm.ClassFile.FieldType.int) "wakes" 2 42 (K b) b) : jr_D l cX12_wakes 10 "MeetingKitModel" (Option.some Jvm.ClassFile.FieldType.int) "wakes" 2 42 (kX12_wakes_69 n K) 69 := by
  unfold kX12_wakes_69
  refine js_kill ?_
  refine js_iload dX12_wakes_69 ?_
  refine js_istore dX12_wakes_71 (by decide) ?_
  exact hK 73
def kX12_wakes_73 (n : Nat) (K : Nat → jK) : jK := jk_iload 9 <| jk_int 1 <| jk_iadd <| jk_iload 6 <| jk_icmpge (jk_aload 0 <| jk_get [11] 22 <| jk_int 16 <| jk_iload 1 <| jk_imul <| jk_iload 6 <| jk_iadd <| jk_int 1 <| jk_isub <| jk_iload 8 <| jk_iast <| jk_aload 0 <| jk_get [11] 9 <| jk_iload 8 <| jk_int 1 <| jk_iast <| jk_iinc 4 1 <| K 141) <| jk_aload 0 <| jk_get [11] 22 <| jk_int 16 <| jk_iload 1 <| jk_imul <| jk_iload 9 <| jk_iadd <| jk_aload 0 <| jk_get [11] 22 <| jk_int 16 <| jk_iload 1 <| jk_imul <| jk_iload 9 <| jk_iadd <| jk_int 1 <| jk_iadd <| jk_iald <| jk_iast <| jk_iinc 9 1 <| K 73
set_option maxRecDepth 100000 in
set_option maxHeartbeats 4000000 in
theorem tX12_wakes_73 (l : Launch) (n : Nat) {K : Nat → jK} (hK : ∀ b, jr_D l cX12_wakes 10 "MeetingKitModel" (Option.some Jvm.ClassFile.FieldType.int) "wakes" 2 42 (K b) b) : jr_D l cX12_wakes 10 "MeetingKitModel" (Option.some Jvm.ClassFile.FieldType.int) "wakes" 2 42 (kX12_wakes_73 n K) 73 := by
  unfold kX12_wakes_73
  refine js_iload dX12_wakes_73 ?_
  refine js_iconst dX12_wakes_75 ?_
  refine js_iadd dX12_wakes_76 ?_
  refine js_iload dX12_wakes_77 ?_
  refine js_icmpge (tgt := 114) dX12_wakes_79 (by decide) ?_ ?_
  · refine js_aload_n dX12_wakes_114 ?_
    refine js_get dX12_wakes_115 jf_22_11 tw_984 (Or.inl rfl) ?_
    refine js_bipush dX12_wakes_118 ?_
    refine js_iload_n dX12_wakes_120 ?_
    refine js_imul dX12_wakes_121 ?_
    refine js_iload dX12_wakes_122 ?_
    refine js_iadd dX12_wakes_124 ?_
    refine js_iconst dX12_wakes_125 ?_
    refine js_isub dX12_wakes_126 ?_
    refine js_iload dX12_wakes_127 ?_
    refine js_iast dX12_wakes_129 ?_
    refine js_aload_n dX12_wakes_130 ?_
    refine js_get dX12_wakes_131 jf_9_11 tw_971 (Or.inl rfl) ?_
    refine js_iload dX12_wakes_134 ?_
    refine js_iconst dX12_wakes_136 ?_
    refine js_iast dX12_wakes_137 ?_
    refine js_iinc dX12_wakes_138 (by decide) ?_
    exact hK 141
  · refine js_aload_n dX12_wakes_82 ?_
    refine js_get dX12_wakes_83 jf_22_11 tw_984 (Or.inl rfl) ?_
    refine js_bipush dX12_wakes_86 ?_
    refine js_iload_n dX12_wakes_88 ?_
    refine js_imul dX12_wakes_89 ?_
    refine js_iload dX12_wakes_90 ?_
    refine js_iadd dX12_wakes_92 ?_
    refine js_aload_n dX12_wakes_93 ?_
    refine js_get dX12_wakes_94 jf_22_11 tw_984 (Or.inl rfl) ?_
    refine js_bipush dX12_wakes_97 ?_
    refine js_iload_n dX12_wakes_99 ?_
    refine js_imul dX12_wakes_100 ?_
    refine js_iload dX12_wakes_101 ?_
    refine js_iadd dX12_wakes_103 ?_
    refine js_iconst dX12_wakes_104 ?_
    refine js_iadd dX12_wakes_105 ?_
    refine js_iald dX12_wakes_106 ?_
    refine js_iast dX12_wakes_107 ?_
    refine js_iinc dX12_wakes_108 (by decide) ?_
    refine js_goto (tgt := 73) dX12_wakes_111 (by decide) ?_
    exact hK 73
def kX12_wakes_141 (n : Nat) (K : Nat → jK) : jK := jk_kill 8 <| jk_kill 9 <| jk_iinc 7 1 <| K 17
set_option maxRecDepth 100000 in
set_option maxHeartbeats 4000000 in
theorem tX12_wakes_141 (l : Launch) (n : Nat) {K : Nat → jK} (hK : ∀ b, jr_D l cX12_wakes 10 "MeetingKitModel" (Option.some Jvm.ClassFile.FieldType.int) "wakes" 2 42 (K b) b) : jr_D l cX12_wakes 10 "MeetingKitModel" (Option.some Jvm.ClassFile.FieldType.int) "wakes" 2 42 (kX12_wakes_141 n K) 141 := by
  unfold kX12_wakes_141
  refine js_kill ?_
  refine js_kill ?_
  refine js_iinc dX12_wakes_141 (by decide) ?_
  refine js_goto (tgt := 17) dX12_wakes_144 (by decide) ?_
  exact hK 17
def kX12_wakes_b (n : Nat) (K : Nat → jK) (b : Nat) : jK := if b = 0 then kX12_wakes_0 n K else if b = 17 then kX12_wakes_17 n K else if b = 63 then kX12_wakes_63 n K else if b = 69 then kX12_wakes_69 n K else if b = 73 then kX12_wakes_73 n K else if b = 141 then kX12_wakes_141 n K else jk_none
def kX12_wakes (n : Nat) : jK := jk_fix (kX12_wakes_b n) n 0
theorem tX12_wakes (l : Launch) (n : Nat) : jr_D l cX12_wakes 10 "MeetingKitModel" (Option.some Jvm.ClassFile.FieldType.int) "wakes" 2 42 (kX12_wakes n) 0 := js_fix (F := kX12_wakes_b n) (fun K hK b => js_blk (tX12_wakes_0 l n hK) (js_blk (tX12_wakes_17 l n hK) (js_blk (tX12_wakes_63 l n hK) (js_blk (tX12_wakes_69 l n hK) (js_blk (tX12_wakes_73 l n hK) (js_blk (tX12_wakes_141 l n hK) (js_none))))))) n 0
def fX12_wakes (n : Nat) : jF := jm_run 4 10 (kX12_wakes n)
theorem sX12_wakes (l : Launch) (n : Nat) : jr_F l (⟨"MeetingKitModel", "wakes", "(IIZ)I"⟩ : MethodName) cX12_wakes 10 (Option.some Jvm.ClassFile.FieldType.int) 2 42 (fX12_wakes n) := js_met (by decide +kernel) (by decide) (tX12_wakes l n)
theorem dX12_monitor_0 : decode cX12_monitor 0 = .ok (.aload_n 0, 1) := by decide +kernel
theorem dX12_monitor_1 : decode cX12_monitor 1 = .ok (.getfield 79, 3) := by decide +kernel
theorem dX12_monitor_4 : decode cX12_monitor 4 = .ok (.iload_n 1, 1) := by decide +kernel
theorem dX12_monitor_5 : decode cX12_monitor 5 = .ok (.iaload, 1) := by decide +kernel
theorem dX12_monitor_6 : decode cX12_monitor 6 = .ok (.iload_n 2, 1) := by decide +kernel
theorem dX12_monitor_7 : decode cX12_monitor 7 = .ok (.if_icmp .ne 7, 3) := by decide +kernel
theorem dX12_monitor_10 : decode cX12_monitor 10 = .ok (.iconst 1, 1) := by decide +kernel
theorem dX12_monitor_11 : decode cX12_monitor 11 = .ok (.goto 4, 3) := by decide +kernel
theorem dX12_monitor_14 : decode cX12_monitor 14 = .ok (.iconst 0, 1) := by decide +kernel
theorem dX12_monitor_15 : decode cX12_monitor 15 = .ok (.istore 5, 2) := by decide +kernel
theorem dX12_monitor_17 : decode cX12_monitor 17 = .ok (.iload_n 3, 1) := by decide +kernel
theorem dX12_monitor_18 : decode cX12_monitor 18 = .ok (.ifCond .ne 16, 3) := by decide +kernel
theorem dX12_monitor_21 : decode cX12_monitor 21 = .ok (.iload 5, 2) := by decide +kernel
theorem dX12_monitor_23 : decode cX12_monitor 23 = .ok (.ifCond .ne 7, 3) := by decide +kernel
theorem dX12_monitor_26 : decode cX12_monitor 26 = .ok (.iconst 1, 1) := by decide +kernel
theorem dX12_monitor_27 : decode cX12_monitor 27 = .ok (.goto 36, 3) := by decide +kernel
theorem dX12_monitor_30 : decode cX12_monitor 30 = .ok (.iconst 0, 1) := by decide +kernel
theorem dX12_monitor_31 : decode cX12_monitor 31 = .ok (.goto 32, 3) := by decide +kernel
theorem dX12_monitor_34 : decode cX12_monitor 34 = .ok (.iload_n 3, 1) := by decide +kernel
theorem dX12_monitor_35 : decode cX12_monitor 35 = .ok (.iconst 5, 1) := by decide +kernel
theorem dX12_monitor_36 : decode cX12_monitor 36 = .ok (.if_icmp .ge 26, 3) := by decide +kernel
theorem dX12_monitor_39 : decode cX12_monitor 39 = .ok (.iload 5, 2) := by decide +kernel
theorem dX12_monitor_41 : decode cX12_monitor 41 = .ok (.ifCond .eq 21, 3) := by decide +kernel
theorem dX12_monitor_44 : decode cX12_monitor 44 = .ok (.iload_n 3, 1) := by decide +kernel
theorem dX12_monitor_45 : decode cX12_monitor 45 = .ok (.iconst 1, 1) := by decide +kernel
theorem dX12_monitor_46 : decode cX12_monitor 46 = .ok (.if_icmp .eq 12, 3) := by decide +kernel
theorem dX12_monitor_49 : decode cX12_monitor 49 = .ok (.iload 4, 2) := by decide +kernel
theorem dX12_monitor_51 : decode cX12_monitor 51 = .ok (.iconst 4, 1) := by decide +kernel
theorem dX12_monitor_52 : decode cX12_monitor 52 = .ok (.invokestatic 117, 3) := by decide +kernel
theorem dX12_monitor_55 : decode cX12_monitor 55 = .ok (.ifCond .eq 7, 3) := by decide +kernel
theorem dX12_monitor_58 : decode cX12_monitor 58 = .ok (.iconst 1, 1) := by decide +kernel
theorem dX12_monitor_59 : decode cX12_monitor 59 = .ok (.goto 4, 3) := by decide +kernel
theorem dX12_monitor_62 : decode cX12_monitor 62 = .ok (.iconst 0, 1) := by decide +kernel
theorem dX12_monitor_63 : decode cX12_monitor 63 = .ok (.istore 6, 2) := by decide +kernel
theorem dX12_monitor_65 : decode cX12_monitor 65 = .ok (.iload 6, 2) := by decide +kernel
theorem dX12_monitor_67 : decode cX12_monitor 67 = .ok (.ifCond .ne 11, 3) := by decide +kernel
theorem dX12_monitor_70 : decode cX12_monitor 70 = .ok (.aload_n 0, 1) := by decide +kernel
theorem dX12_monitor_71 : decode cX12_monitor 71 = .ok (.iload_n 2, 1) := by decide +kernel
theorem dX12_monitor_72 : decode cX12_monitor 72 = .ok (.invokevirtual 192, 3) := by decide +kernel
theorem dX12_monitor_75 : decode cX12_monitor 75 = .ok (.goto 129, 3) := by decide +kernel
theorem dX12_monitor_78 : decode cX12_monitor 78 = .ok (.iload_n 3, 1) := by decide +kernel
theorem dX12_monitor_79 : decode cX12_monitor 79 = .ok (.ifCond .ne 53, 3) := by decide +kernel
theorem dX12_monitor_82 : decode cX12_monitor 82 = .ok (.aload_n 0, 1) := by decide +kernel
theorem dX12_monitor_83 : decode cX12_monitor 83 = .ok (.getfield 79, 3) := by decide +kernel
theorem dX12_monitor_86 : decode cX12_monitor 86 = .ok (.iload_n 1, 1) := by decide +kernel
theorem dX12_monitor_87 : decode cX12_monitor 87 = .ok (.iaload, 1) := by decide +kernel
theorem dX12_monitor_88 : decode cX12_monitor 88 = .ok (.ifCond .ge 27, 3) := by decide +kernel
theorem dX12_monitor_91 : decode cX12_monitor 91 = .ok (.aload_n 0, 1) := by decide +kernel
theorem dX12_monitor_92 : decode cX12_monitor 92 = .ok (.iload_n 1, 1) := by decide +kernel
theorem dX12_monitor_93 : decode cX12_monitor 93 = .ok (.invokevirtual 180, 3) := by decide +kernel
theorem dX12_monitor_96 : decode cX12_monitor 96 = .ok (.ifCond .ge 19, 3) := by decide +kernel
theorem dX12_monitor_99 : decode cX12_monitor 99 = .ok (.aload_n 0, 1) := by decide +kernel
theorem dX12_monitor_100 : decode cX12_monitor 100 = .ok (.getfield 79, 3) := by decide +kernel
theorem dX12_monitor_103 : decode cX12_monitor 103 = .ok (.iload_n 1, 1) := by decide +kernel
theorem dX12_monitor_104 : decode cX12_monitor 104 = .ok (.iload_n 2, 1) := by decide +kernel
theorem dX12_monitor_105 : decode cX12_monitor 105 = .ok (.iastore, 1) := by decide +kernel
theorem dX12_monitor_106 : decode cX12_monitor 106 = .ok (.aload_n 0, 1) := by decide +kernel
theorem dX12_monitor_107 : decode cX12_monitor 107 = .ok (.iload_n 2, 1) := by decide +kernel
theorem dX12_monitor_108 : decode cX12_monitor 108 = .ok (.iconst 0, 1) := by decide +kernel
theorem dX12_monitor_109 : decode cX12_monitor 109 = .ok (.invokevirtual 165, 3) := by decide +kernel
theorem dX12_monitor_112 : decode cX12_monitor 112 = .ok (.goto 92, 3) := by decide +kernel
theorem dX12_monitor_115 : decode cX12_monitor 115 = .ok (.aload_n 0, 1) := by decide +kernel
theorem dX12_monitor_116 : decode cX12_monitor 116 = .ok (.getfield 28, 3) := by decide +kernel
theorem dX12_monitor_119 : decode cX12_monitor 119 = .ok (.iload_n 2, 1) := by decide +kernel
theorem dX12_monitor_120 : decode cX12_monitor 120 = .ok (.iconst 1, 1) := by decide +kernel
theorem dX12_monitor_121 : decode cX12_monitor 121 = .ok (.iastore, 1) := by decide +kernel
theorem dX12_monitor_122 : decode cX12_monitor 122 = .ok (.aload_n 0, 1) := by decide +kernel
theorem dX12_monitor_123 : decode cX12_monitor 123 = .ok (.iload_n 2, 1) := by decide +kernel
theorem dX12_monitor_124 : decode cX12_monitor 124 = .ok (.invokevirtual 195, 3) := by decide +kernel
theorem dX12_monitor_127 : decode cX12_monitor 127 = .ok (.istore 7, 2) := by decide +kernel
theorem dX12_monitor_129 : decode cX12_monitor 129 = .ok (.goto 75, 3) := by decide +kernel
theorem dX12_monitor_132 : decode cX12_monitor 132 = .ok (.iload_n 3, 1) := by decide +kernel
theorem dX12_monitor_133 : decode cX12_monitor 133 = .ok (.iconst 1, 1) := by decide +kernel
theorem dX12_monitor_134 : decode cX12_monitor 134 = .ok (.if_icmp .ne 19, 3) := by decide +kernel
theorem dX12_monitor_137 : decode cX12_monitor 137 = .ok (.aload_n 0, 1) := by decide +kernel
theorem dX12_monitor_138 : decode cX12_monitor 138 = .ok (.getfield 79, 3) := by decide +kernel
theorem dX12_monitor_141 : decode cX12_monitor 141 = .ok (.iload_n 1, 1) := by decide +kernel
theorem dX12_monitor_142 : decode cX12_monitor 142 = .ok (.iconst (-1), 1) := by decide +kernel
theorem dX12_monitor_143 : decode cX12_monitor 143 = .ok (.iastore, 1) := by decide +kernel
theorem dX12_monitor_144 : decode cX12_monitor 144 = .ok (.aload_n 0, 1) := by decide +kernel
theorem dX12_monitor_145 : decode cX12_monitor 145 = .ok (.iload_n 2, 1) := by decide +kernel
theorem dX12_monitor_146 : decode cX12_monitor 146 = .ok (.iconst 0, 1) := by decide +kernel
theorem dX12_monitor_147 : decode cX12_monitor 147 = .ok (.invokevirtual 165, 3) := by decide +kernel
theorem dX12_monitor_150 : decode cX12_monitor 150 = .ok (.goto 54, 3) := by decide +kernel
theorem dX12_monitor_153 : decode cX12_monitor 153 = .ok (.iload_n 3, 1) := by decide +kernel
theorem dX12_monitor_154 : decode cX12_monitor 154 = .ok (.iconst 2, 1) := by decide +kernel
theorem dX12_monitor_155 : decode cX12_monitor 155 = .ok (.if_icmp .ne 27, 3) := by decide +kernel
theorem dX12_monitor_158 : decode cX12_monitor 158 = .ok (.aload_n 0, 1) := by decide +kernel
theorem dX12_monitor_159 : decode cX12_monitor 159 = .ok (.getfield 28, 3) := by decide +kernel
theorem dX12_monitor_162 : decode cX12_monitor 162 = .ok (.iload_n 2, 1) := by decide +kernel
theorem dX12_monitor_163 : decode cX12_monitor 163 = .ok (.iconst 0, 1) := by decide +kernel
theorem dX12_monitor_164 : decode cX12_monitor 164 = .ok (.iastore, 1) := by decide +kernel
theorem dX12_monitor_165 : decode cX12_monitor 165 = .ok (.aload_n 0, 1) := by decide +kernel
theorem dX12_monitor_166 : decode cX12_monitor 166 = .ok (.getfield 79, 3) := by decide +kernel
theorem dX12_monitor_169 : decode cX12_monitor 169 = .ok (.iload_n 1, 1) := by decide +kernel
theorem dX12_monitor_170 : decode cX12_monitor 170 = .ok (.iconst (-1), 1) := by decide +kernel
theorem dX12_monitor_171 : decode cX12_monitor 171 = .ok (.iastore, 1) := by decide +kernel
theorem dX12_monitor_172 : decode cX12_monitor 172 = .ok (.aload_n 0, 1) := by decide +kernel
theorem dX12_monitor_173 : decode cX12_monitor 173 = .ok (.iload_n 2, 1) := by decide +kernel
theorem dX12_monitor_174 : decode cX12_monitor 174 = .ok (.invokevirtual 195, 3) := by decide +kernel
theorem dX12_monitor_177 : decode cX12_monitor 177 = .ok (.istore 7, 2) := by decide +kernel
theorem dX12_monitor_179 : decode cX12_monitor 179 = .ok (.goto 25, 3) := by decide +kernel
theorem dX12_monitor_182 : decode cX12_monitor 182 = .ok (.aload_n 0, 1) := by decide +kernel
theorem dX12_monitor_183 : decode cX12_monitor 183 = .ok (.iload_n 2, 1) := by decide +kernel
theorem dX12_monitor_184 : decode cX12_monitor 184 = .ok (.aload_n 0, 1) := by decide +kernel
theorem dX12_monitor_185 : decode cX12_monitor 185 = .ok (.iload_n 1, 1) := by decide +kernel
theorem dX12_monitor_186 : decode cX12_monitor 186 = .ok (.iload 4, 2) := by decide +kernel
theorem dX12_monitor_188 : decode cX12_monitor 188 = .ok (.iload_n 3, 1) := by decide +kernel
theorem dX12_monitor_189 : decode cX12_monitor 189 = .ok (.iconst 4, 1) := by decide +kernel
theorem dX12_monitor_190 : decode cX12_monitor 190 = .ok (.if_icmp .ne 7, 3) := by decide +kernel
theorem dX12_monitor_193 : decode cX12_monitor 193 = .ok (.iconst 1, 1) := by decide +kernel
theorem dX12_monitor_194 : decode cX12_monitor 194 = .ok (.goto 4, 3) := by decide +kernel
theorem dX12_monitor_197 : decode cX12_monitor 197 = .ok (.iconst 0, 1) := by decide +kernel
theorem dX12_monitor_198 : decode cX12_monitor 198 = .ok (.invokevirtual 208, 3) := by decide +kernel
theorem dX12_monitor_201 : decode cX12_monitor 201 = .ok (.invokevirtual 165, 3) := by decide +kernel
theorem dX12_monitor_204 : decode cX12_monitor 204 = .ok (.return_, 1) := by decide +kernel
def kX12_monitor_0 (n : Nat) (K : Nat → jK) : jK := jk_aload 0 <| jk_get [11] 26 <| jk_iload 1 <| jk_iald <| jk_iload 2 <| jk_icmpne (jk_int 0 <| K 15) <| jk_int 1 <| K 15
set_option maxRecDepth 100000 in
set_option maxHeartbeats 4000000 in
theorem tX12_monitor_0 (l : Launch) (n : Nat) {K : Nat → jK} (hK : ∀ b, jr_D l cX12_monitor 8 "MeetingKitModel" (Option.none : Option Jvm.ClassFile.FieldType) "monitor" 4 90 (K b) b) : jr_D l cX12_monitor 8 "MeetingKitModel" (Option.none : Option Jvm.ClassFile.FieldType) "monitor" 4 90 (kX12_monitor_0 n K) 0 := by
  unfold kX12_monitor_0
  refine js_aload_n dX12_monitor_0 ?_
  refine js_get dX12_monitor_1 jf_26_11 tw_988 (Or.inl rfl) ?_
  refine js_iload_n dX12_monitor_4 ?_
  refine js_iald dX12_monitor_5 ?_
  refine js_iload_n dX12_monitor_6 ?_
  refine js_icmpne (tgt := 14) dX12_monitor_7 (by decide) ?_ ?_
  · refine js_iconst dX12_monitor_14 ?_
    exact hK 15
  · refine js_iconst dX12_monitor_10 ?_
    refine js_goto (tgt := 15) dX12_monitor_11 (by decide) ?_
    exact hK 15
def kX12_monitor_15 (n : Nat) (K : Nat → jK) : jK := jk_istore 5 <| jk_iload 3 <| jk_ifne (jk_iload 3 <| jk_int 5 <| jk_icmpge (K 62) <| jk_iload 5 <| jk_ifeq (K 62) <| jk_iload 3 <| jk_int 1 <| jk_icmpeq (K 58) <| jk_iload 4 <| jk_int 4 <| jk_call (fX12_isIn n) 2 <| jk_ifeq (K 62) <| K 58) <| jk_iload 5 <| jk_ifne (jk_int 0 <| K 63) <| jk_int 1 <| K 63
set_option maxRecDepth 100000 in
set_option maxHeartbeats 4000000 in
theorem tX12_monitor_15 (l : Launch) (n : Nat) {K : Nat → jK} (hK : ∀ b, jr_D l cX12_monitor 8 "MeetingKitModel" (Option.none : Option Jvm.ClassFile.FieldType) "monitor" 4 90 (K b) b) : jr_D l cX12_monitor 8 "MeetingKitModel" (Option.none : Option Jvm.ClassFile.FieldType) "monitor" 4 90 (kX12_monitor_15 n K) 15 := by
  unfold kX12_monitor_15
  refine js_istore dX12_monitor_15 (by decide) ?_
  refine js_iload_n dX12_monitor_17 ?_
  refine js_ifne (tgt := 34) dX12_monitor_18 (by decide) ?_ ?_
  · refine js_iload_n dX12_monitor_34 ?_
    refine js_iconst dX12_monitor_35 ?_
    refine js_icmpge (tgt := 62) dX12_monitor_36 (by decide) ?_ ?_
    · exact hK 62
    · refine js_iload dX12_monitor_39 ?_
      refine js_ifeq (tgt := 62) dX12_monitor_41 (by decide) ?_ ?_
      · exact hK 62
      · refine js_iload_n dX12_monitor_44 ?_
        refine js_iconst dX12_monitor_45 ?_
        refine js_icmpeq (tgt := 58) dX12_monitor_46 (by decide) ?_ ?_
        · exact hK 58
        · refine js_iload dX12_monitor_49 ?_
          refine js_iconst dX12_monitor_51 ?_
          refine js_calls (sX12_isIn l n) dX12_monitor_52 (by decide) (by decide) tw_1085 tw_1086 tw_103 tw_1087 (by decide +kernel) ?_
          refine js_ifeq (tgt := 62) dX12_monitor_55 (by decide) ?_ ?_
          · exact hK 62
          · exact hK 58
  · refine js_iload dX12_monitor_21 ?_
    refine js_ifne (tgt := 30) dX12_monitor_23 (by decide) ?_ ?_
    · refine js_iconst dX12_monitor_30 ?_
      refine js_goto (tgt := 63) dX12_monitor_31 (by decide) ?_
      exact hK 63
    · refine js_iconst dX12_monitor_26 ?_
      refine js_goto (tgt := 63) dX12_monitor_27 (by decide) ?_
      exact hK 63
def kX12_monitor_58 (n : Nat) (K : Nat → jK) : jK := jk_kill 5 <| jk_int 1 <| K 63
set_option maxRecDepth 100000 in
set_option maxHeartbeats 4000000 in
theorem tX12_monitor_58 (l : Launch) (n : Nat) {K : Nat → jK} (hK : ∀ b, jr_D l cX12_monitor 8 "MeetingKitModel" (Option.none : Option Jvm.ClassFile.FieldType) "monitor" 4 90 (K b) b) : jr_D l cX12_monitor 8 "MeetingKitModel" (Option.none : Option Jvm.ClassFile.FieldType) "monitor" 4 90 (kX12_monitor_58 n K) 58 := by
  unfold kX12_monitor_58
  refine js_kill ?_
  refine js_iconst dX12_monitor_58 ?_
  refine js_goto (tgt := 63) dX12_monitor_59 (by decide) ?_
  exact hK 63
def kX12_monitor_62 (n : Nat) (K : Nat → jK) : jK := jk_kill 5 <| jk_int 0 <| K 63
set_option maxRecDepth 100000 in
set_option maxHeartbeats 4000000 in
theorem tX12_monitor_62 (l : Launch) (n : Nat) {K : Nat → jK} (hK : ∀ b, jr_D l cX12_monitor 8 "MeetingKitModel" (Option.none : Option Jvm.ClassFile.FieldType) "monitor" 4 90 (K b) b) : jr_D l cX12_monitor 8 "MeetingKitModel" (Option.none : Option Jvm.ClassFile.FieldType) "monitor" 4 90 (kX12_monitor_62 n K) 62 := by
  unfold kX12_monitor_62
  refine js_kill ?_
  refine js_iconst dX12_monitor_62 ?_
  exact hK 63
def kX12_monitor_63 (n : Nat) (K : Nat → jK) : jK := jk_kill 5 <| jk_istore 6 <| jk_iload 6 <| jk_ifne (jk_iload 3 <| jk_ifne (jk_iload 3 <| jk_int 1 <| jk_icmpne (jk_iload 3 <| jk_int 2 <| jk_icmpne (jk_aload 0 <| jk_iload 2 <| jk_aload 0 <| jk_iload 1 <| jk_iload 4 <| jk_iload 3 <| jk_int 4 <| jk_icmpne (jk_int 0 <| K 198) <| jk_int 1 <| K 198) <| jk_aload 0 <| jk_get [11] 9 <| jk_iload 2 <| jk_int 0 <| jk_iast <| jk_aload 0 <| jk_get [11] 26 <| jk_iload 1 <| jk_int (-1) <| jk_iast <| jk_aload 0 <| jk_iload 2 <| jk_vcall [(11, fX12_waits n)] 1 <| jk_istore 7 <| K 204) <| jk_aload 0 <| jk_get [11] 26 <| jk_iload 1 <| jk_int (-1) <| jk_iast <| jk_aload 0 <| jk_iload 2 <| jk_int 0 <| jk_vcall [(11, fX12_passes n)] 2 <| K 204) <| jk_aload 0 <| jk_get [11] 26 <| jk_iload 1 <| jk_iald <| jk_ifge (K 115) <| jk_aload 0 <| jk_iload 1 <| jk_vcall [(11, fX12_firstToEnter n)] 1 <| jk_ifge (K 115) <| jk_aload 0 <| jk_get [11] 26 <| jk_iload 1 <| jk_iload 2 <| jk_iast <| jk_aload 0 <| jk_iload 2 <| jk_int 0 <| jk_vcall [(11, fX12_passes n)] 2 <| K 204) <| jk_aload 0 <| jk_iload 2 <| jk_vcall [(11, fX12_misuse n)] 1 <| K 204
set_option maxRecDepth 100000 in
set_option maxHeartbeats 4000000 in
theorem tX12_monitor_63 (l : Launch) (n : Nat) {K : Nat → jK} (hK : ∀ b, jr_D l cX12_monitor 8 "MeetingKitModel" (Option.none : Option Jvm.ClassFile.FieldType) "monitor" 4 90 (K b) b) : jr_D l cX12_monitor 8 "MeetingKitModel" (Option.none : Option Jvm.ClassFile.FieldType) "monitor" 4 90 (kX12_monitor_63 n K) 63 := by
  unfold kX12_monitor_63
  refine js_kill ?_
  refine js_istore dX12_monitor_63 (by decide) ?_
  refine js_iload dX12_monitor_65 ?_
  refine js_ifne (tgt := 78) dX12_monitor_67 (by decide) ?_ ?_
  · refine js_iload_n dX12_monitor_78 ?_
    refine js_ifne (tgt := 132) dX12_monitor_79 (by decide) ?_ ?_
    · refine js_iload_n dX12_monitor_132 ?_
      refine js_iconst dX12_monitor_133 ?_
      refine js_icmpne (tgt := 153) dX12_monitor_134 (by decide) ?_ ?_
      · refine js_iload_n dX12_monitor_153 ?_
        refine js_iconst dX12_monitor_154 ?_
        refine js_icmpne (tgt := 182) dX12_monitor_155 (by decide) ?_ ?_
        · refine js_aload_n dX12_monitor_182 ?_
          refine js_iload_n dX12_monitor_183 ?_
          refine js_aload_n dX12_monitor_184 ?_
          refine js_iload_n dX12_monitor_185 ?_
          refine js_iload dX12_monitor_186 ?_
          refine js_iload_n dX12_monitor_188 ?_
          refine js_iconst dX12_monitor_189 ?_
          refine js_icmpne (tgt := 197) dX12_monitor_190 (by decide) ?_ ?_
          · refine js_iconst dX12_monitor_197 ?_
            exact hK 198
          · refine js_iconst dX12_monitor_193 ?_
            refine js_goto (tgt := 198) dX12_monitor_194 (by decide) ?_
            exact hK 198
        · refine js_aload_n dX12_monitor_158 ?_
          refine js_get dX12_monitor_159 jf_9_11 tw_971 (Or.inl rfl) ?_
          refine js_iload_n dX12_monitor_162 ?_
          refine js_iconst dX12_monitor_163 ?_
          refine js_iast dX12_monitor_164 ?_
          refine js_aload_n dX12_monitor_165 ?_
          refine js_get dX12_monitor_166 jf_26_11 tw_988 (Or.inl rfl) ?_
          refine js_iload_n dX12_monitor_169 ?_
          refine js_iconst dX12_monitor_170 ?_
          refine js_iast dX12_monitor_171 ?_
          refine js_aload_n dX12_monitor_172 ?_
          refine js_iload_n dX12_monitor_173 ?_
          refine js_callv dX12_monitor_174 (⟨⟨_, _, _, _, _, _, _, ⟨rfl, (show (11 : Nat) < 20 by decide), sX12_waits l n, by decide, by decide, tw_1208, tw_103, tw_1207⟩, Or.inl ⟨by decide +kernel, by decide +kernel, by decide +kernel, tw_1205, tw_83⟩⟩, trivial⟩) ?_
          refine js_istore dX12_monitor_177 (by decide) ?_
          refine js_goto (tgt := 204) dX12_monitor_179 (by decide) ?_
          exact hK 204
      · refine js_aload_n dX12_monitor_137 ?_
        refine js_get dX12_monitor_138 jf_26_11 tw_988 (Or.inl rfl) ?_
        refine js_iload_n dX12_monitor_141 ?_
        refine js_iconst dX12_monitor_142 ?_
        refine js_iast dX12_monitor_143 ?_
        refine js_aload_n dX12_monitor_144 ?_
        refine js_iload_n dX12_monitor_145 ?_
        refine js_iconst dX12_monitor_146 ?_
        refine js_callv dX12_monitor_147 (⟨⟨_, _, _, _, _, _, _, ⟨rfl, (show (11 : Nat) < 20 by decide), sX12_passes l n, by decide, by decide, tw_1172, tw_103, tw_1171⟩, Or.inl ⟨by decide +kernel, by decide +kernel, by decide +kernel, tw_1169, tw_74⟩⟩, trivial⟩) ?_
        refine js_goto (tgt := 204) dX12_monitor_150 (by decide) ?_
        exact hK 204
    · refine js_aload_n dX12_monitor_82 ?_
      refine js_get dX12_monitor_83 jf_26_11 tw_988 (Or.inl rfl) ?_
      refine js_iload_n dX12_monitor_86 ?_
      refine js_iald dX12_monitor_87 ?_
      refine js_ifge (tgt := 115) dX12_monitor_88 (by decide) ?_ ?_
      · exact hK 115
      · refine js_aload_n dX12_monitor_91 ?_
        refine js_iload_n dX12_monitor_92 ?_
        refine js_callv dX12_monitor_93 (⟨⟨_, _, _, _, _, _, _, ⟨rfl, (show (11 : Nat) < 20 by decide), sX12_firstToEnter l n, by decide, by decide, tw_1188, tw_103, tw_1187⟩, Or.inl ⟨by decide +kernel, by decide +kernel, by decide +kernel, tw_1185, tw_78⟩⟩, trivial⟩) ?_
        refine js_ifge (tgt := 115) dX12_monitor_96 (by decide) ?_ ?_
        · exact hK 115
        · refine js_aload_n dX12_monitor_99 ?_
          refine js_get dX12_monitor_100 jf_26_11 tw_988 (Or.inl rfl) ?_
          refine js_iload_n dX12_monitor_103 ?_
          refine js_iload_n dX12_monitor_104 ?_
          refine js_iast dX12_monitor_105 ?_
          refine js_aload_n dX12_monitor_106 ?_
          refine js_iload_n dX12_monitor_107 ?_
          refine js_iconst dX12_monitor_108 ?_
          refine js_callv dX12_monitor_109 (⟨⟨_, _, _, _, _, _, _, ⟨rfl, (show (11 : Nat) < 20 by decide), sX12_passes l n, by decide, by decide, tw_1172, tw_103, tw_1171⟩, Or.inl ⟨by decide +kernel, by decide +kernel, by decide +kernel, tw_1169, tw_74⟩⟩, trivial⟩) ?_
          refine js_goto (tgt := 204) dX12_monitor_112 (by decide) ?_
          exact hK 204
  · refine js_aload_n dX12_monitor_70 ?_
    refine js_iload_n dX12_monitor_71 ?_
    refine js_callv dX12_monitor_72 (⟨⟨_, _, _, _, _, _, _, ⟨rfl, (show (11 : Nat) < 20 by decide), sX12_misuse l n, by decide, by decide, tw_1204, tw_103, tw_1203⟩, Or.inl ⟨by decide +kernel, by decide +kernel, by decide +kernel, tw_1201, tw_82⟩⟩, trivial⟩) ?_
    refine js_goto (tgt := 204) dX12_monitor_75 (by decide) ?_
    exact hK 204
def kX12_monitor_115 (n : Nat) (K : Nat → jK) : jK := jk_kill 1 <| jk_kill 3 <| jk_kill 4 <| jk_kill 5 <| jk_kill 6 <| jk_aload 0 <| jk_get [11] 9 <| jk_iload 2 <| jk_int 1 <| jk_iast <| jk_aload 0 <| jk_iload 2 <| jk_vcall [(11, fX12_waits n)] 1 <| jk_istore 7 <| K 204
set_option maxRecDepth 100000 in
set_option maxHeartbeats 4000000 in
theorem tX12_monitor_115 (l : Launch) (n : Nat) {K : Nat → jK} (hK : ∀ b, jr_D l cX12_monitor 8 "MeetingKitModel" (Option.none : Option Jvm.ClassFile.FieldType) "monitor" 4 90 (K b) b) : jr_D l cX12_monitor 8 "MeetingKitModel" (Option.none : Option Jvm.ClassFile.FieldType) "monitor" 4 90 (kX12_monitor_115 n K) 115 := by
  unfold kX12_monitor_115
  refine js_kill ?_
  refine js_kill ?_
  refine js_kill ?_
  refine js_kill ?_
  refine js_kill ?_
  refine js_aload_n dX12_monitor_115 ?_
  refine js_get dX12_monitor_116 jf_9_11 tw_971 (Or.inl rfl) ?_
  refine js_iload_n dX12_monitor_119 ?_
  refine js_iconst dX12_monitor_120 ?_
  refine js_iast dX12_monitor_121 ?_
  refine js_aload_n dX12_monitor_122 ?_
  refine js_iload_n dX12_monitor_123 ?_
  refine js_callv dX12_monitor_124 (⟨⟨_, _, _, _, _, _, _, ⟨rfl, (show (11 : Nat) < 20 by decide), sX12_waits l n, by decide, by decide, tw_1208, tw_103, tw_1207⟩, Or.inl ⟨by decide +kernel, by decide +kernel, by decide +kernel, tw_1205, tw_83⟩⟩, trivial⟩) ?_
  refine js_istore dX12_monitor_127 (by decide) ?_
  refine js_goto (tgt := 204) dX12_monitor_129 (by decide) ?_
  exact hK 204
def kX12_monitor_198 (n : Nat) (K : Nat → jK) : jK := jk_kill 0 <| jk_kill 1 <| jk_kill 2 <| jk_kill 3 <| jk_kill 4 <| jk_kill 5 <| jk_kill 6 <| jk_vcall [(11, fX12_wakes n)] 3 <| jk_vcall [(11, fX12_passes n)] 2 <| K 204
set_option maxRecDepth 100000 in
set_option maxHeartbeats 4000000 in
theorem tX12_monitor_198 (l : Launch) (n : Nat) {K : Nat → jK} (hK : ∀ b, jr_D l cX12_monitor 8 "MeetingKitModel" (Option.none : Option Jvm.ClassFile.FieldType) "monitor" 4 90 (K b) b) : jr_D l cX12_monitor 8 "MeetingKitModel" (Option.none : Option Jvm.ClassFile.FieldType) "monitor" 4 90 (kX12_monitor_198 n K) 198 := by
  unfold kX12_monitor_198
  refine js_kill ?_
  refine js_kill ?_
  refine js_kill ?_
  refine js_kill ?_
  refine js_kill ?_
  refine js_kill ?_
  refine js_kill ?_
  refine js_callv dX12_monitor_198 (⟨⟨_, _, _, _, _, _, _, ⟨rfl, (show (11 : Nat) < 20 by decide), sX12_wakes l n, by decide, by decide, tw_1264, tw_103, tw_1263⟩, Or.inl ⟨by decide +kernel, by decide +kernel, by decide +kernel, tw_1261, tw_97⟩⟩, trivial⟩) ?_
  refine js_callv dX12_monitor_201 (⟨⟨_, _, _, _, _, _, _, ⟨rfl, (show (11 : Nat) < 20 by decide), sX12_passes l n, by decide, by decide, tw_1172, tw_103, tw_1171⟩, Or.inl ⟨by decide +kernel, by decide +kernel, by decide +kernel, tw_1169, tw_74⟩⟩, trivial⟩) ?_
  exact hK 204
def kX12_monitor_204 (n : Nat) (K : Nat → jK) : jK := jk_kill 0 <| jk_kill 1 <| jk_kill 2 <| jk_kill 3 <| jk_kill 4 <| jk_kill 5 <| jk_kill 6 <| jk_kill 7 <| jk_vret
set_option maxRecDepth 100000 in
set_option maxHeartbeats 4000000 in
theorem tX12_monitor_204 (l : Launch) (n : Nat) {K : Nat → jK} (hK : ∀ b, jr_D l cX12_monitor 8 "MeetingKitModel" (Option.none : Option Jvm.ClassFile.FieldType) "monitor" 4 90 (K b) b) : jr_D l cX12_monitor 8 "MeetingKitModel" (Option.none : Option Jvm.ClassFile.FieldType) "monitor" 4 90 (kX12_monitor_204 n K) 204 := by
  unfold kX12_monitor_204
  refine js_kill ?_
  refine js_kill ?_
  refine js_kill ?_
  refine js_kill ?_
  refine js_kill ?_
  refine js_kill ?_
  refine js_kill ?_
  refine js_kill ?_
  exact js_vret dX12_monitor_204 rfl
def kX12_monitor_b (n : Nat) (K : Nat → jK) (b : Nat) : jK := if b = 0 then kX12_monitor_0 n K else if b = 15 then kX12_monitor_15 n K else if b = 58 then kX12_monitor_58 n K else if b = 62 then kX12_monitor_62 n K else if b = 63 then kX12_monitor_63 n K else if b = 115 then kX12_monitor_115 n K else if b = 198 then kX12_monitor_198 n K else if b = 204 then kX12_monitor_204 n K else jk_none
def kX12_monitor (n : Nat) : jK := jk_fix (kX12_monitor_b n) n 0
theorem tX12_monitor (l : Launch) (n : Nat) : jr_D l cX12_monitor 8 "MeetingKitModel" (Option.none : Option Jvm.ClassFile.FieldType) "monitor" 4 90 (kX12_monitor n) 0 := js_fix (F := kX12_monitor_b n) (fun K hK b => js_blk (tX12_monitor_0 l n hK) (js_blk (tX12_monitor_15 l n hK) (js_blk (tX12_monitor_58 l n hK) (js_blk (tX12_monitor_62 l n hK) (js_blk (tX12_monitor_63 l n hK) (js_blk (tX12_monitor_115 l n hK) (js_blk (tX12_monitor_198 l n hK) (js_blk (tX12_monitor_204 l n hK) (js_none))))))))) n 0
def fX12_monitor (n : Nat) : jF := jm_run 5 8 (kX12_monitor n)
theorem sX12_monitor (l : Launch) (n : Nat) : jr_F l (⟨"MeetingKitModel", "monitor", "(IIII)V"⟩ : MethodName) cX12_monitor 8 (Option.none : Option Jvm.ClassFile.FieldType) 4 90 (fX12_monitor n) := js_met (by decide +kernel) (by decide) (tX12_monitor l n)
