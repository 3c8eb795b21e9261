theorem dX12_init_0 : decode cX12_init 0 = .ok (.aload_n 0, 1) := by decide +kernel
theorem dX12_init_1 : decode cX12_init 1 = .ok (.invokespecial 1, 3) := by decide +kernel
theorem dX12_init_4 : decode cX12_init 4 = .ok (.aload_n 0, 1) := by decide +kernel
theorem dX12_init_5 : decode cX12_init 5 = .ok (.bipush 16, 2) := by decide +kernel
theorem dX12_init_7 : decode cX12_init 7 = .ok (.newarray .int, 2) := by decide +kernel
theorem dX12_init_9 : decode cX12_init 9 = .ok (.putfield 7, 3) := by decide +kernel
theorem dX12_init_12 : decode cX12_init 12 = .ok (.aload_n 0, 1) := by decide +kernel
theorem dX12_init_13 : decode cX12_init 13 = .ok (.bipush 16, 2) := by decide +kernel
theorem dX12_init_15 : decode cX12_init 15 = .ok (.newarray .int, 2) := by decide +kernel
theorem dX12_init_17 : decode cX12_init 17 = .ok (.putfield 13, 3) := by decide +kernel
theorem dX12_init_20 : decode cX12_init 20 = .ok (.aload_n 0, 1) := by decide +kernel
theorem dX12_init_21 : decode cX12_init 21 = .ok (.bipush 16, 2) := by decide +kernel
theorem dX12_init_23 : decode cX12_init 23 = .ok (.newarray .int, 2) := by decide +kernel
theorem dX12_init_25 : decode cX12_init 25 = .ok (.putfield 16, 3) := by decide +kernel
theorem dX12_init_28 : decode cX12_init 28 = .ok (.aload_n 0, 1) := by decide +kernel
theorem dX12_init_29 : decode cX12_init 29 = .ok (.bipush 16, 2) := by decide +kernel
theorem dX12_init_31 : decode cX12_init 31 = .ok (.newarray .int, 2) := by decide +kernel
theorem dX12_init_33 : decode cX12_init 33 = .ok (.putfield 19, 3) := by decide +kernel
theorem dX12_init_36 : decode cX12_init 36 = .ok (.aload_n 0, 1) := by decide +kernel
theorem dX12_init_37 : decode cX12_init 37 = .ok (.bipush 16, 2) := by decide +kernel
theorem dX12_init_39 : decode cX12_init 39 = .ok (.newarray .int, 2) := by decide +kernel
theorem dX12_init_41 : decode cX12_init 41 = .ok (.putfield 22, 3) := by decide +kernel
theorem dX12_init_44 : decode cX12_init 44 = .ok (.aload_n 0, 1) := by decide +kernel
theorem dX12_init_45 : decode cX12_init 45 = .ok (.bipush 16, 2) := by decide +kernel
theorem dX12_init_47 : decode cX12_init 47 = .ok (.newarray .int, 2) := by decide +kernel
theorem dX12_init_49 : decode cX12_init 49 = .ok (.putfield 25, 3) := by decide +kernel
theorem dX12_init_52 : decode cX12_init 52 = .ok (.aload_n 0, 1) := by decide +kernel
theorem dX12_init_53 : decode cX12_init 53 = .ok (.bipush 16, 2) := by decide +kernel
theorem dX12_init_55 : decode cX12_init 55 = .ok (.newarray .int, 2) := by decide +kernel
theorem dX12_init_57 : decode cX12_init 57 = .ok (.putfield 28, 3) := by decide +kernel
theorem dX12_init_60 : decode cX12_init 60 = .ok (.aload_n 0, 1) := by decide +kernel
theorem dX12_init_61 : decode cX12_init 61 = .ok (.sipush 320, 3) := by decide +kernel
theorem dX12_init_64 : decode cX12_init 64 = .ok (.newarray .int, 2) := by decide +kernel
theorem dX12_init_66 : decode cX12_init 66 = .ok (.putfield 31, 3) := by decide +kernel
theorem dX12_init_69 : decode cX12_init 69 = .ok (.aload_n 0, 1) := by decide +kernel
theorem dX12_init_70 : decode cX12_init 70 = .ok (.sipush 320, 3) := by decide +kernel
theorem dX12_init_73 : decode cX12_init 73 = .ok (.newarray .int, 2) := by decide +kernel
theorem dX12_init_75 : decode cX12_init 75 = .ok (.putfield 34, 3) := by decide +kernel
theorem dX12_init_78 : decode cX12_init 78 = .ok (.aload_n 0, 1) := by decide +kernel
theorem dX12_init_79 : decode cX12_init 79 = .ok (.sipush 320, 3) := by decide +kernel
theorem dX12_init_82 : decode cX12_init 82 = .ok (.newarray .int, 2) := by decide +kernel
theorem dX12_init_84 : decode cX12_init 84 = .ok (.putfield 37, 3) := by decide +kernel
theorem dX12_init_87 : decode cX12_init 87 = .ok (.aload_n 0, 1) := by decide +kernel
theorem dX12_init_88 : decode cX12_init 88 = .ok (.sipush 320, 3) := by decide +kernel
theorem dX12_init_91 : decode cX12_init 91 = .ok (.newarray .int, 2) := by decide +kernel
theorem dX12_init_93 : decode cX12_init 93 = .ok (.putfield 40, 3) := by decide +kernel
theorem dX12_init_96 : decode cX12_init 96 = .ok (.aload_n 0, 1) := by decide +kernel
theorem dX12_init_97 : decode cX12_init 97 = .ok (.sipush 320, 3) := by decide +kernel
theorem dX12_init_100 : decode cX12_init 100 = .ok (.newarray .int, 2) := by decide +kernel
theorem dX12_init_102 : decode cX12_init 102 = .ok (.putfield 43, 3) := by decide +kernel
theorem dX12_init_105 : decode cX12_init 105 = .ok (.aload_n 0, 1) := by decide +kernel
theorem dX12_init_106 : decode cX12_init 106 = .ok (.sipush 320, 3) := by decide +kernel
theorem dX12_init_109 : decode cX12_init 109 = .ok (.newarray .int, 2) := by decide +kernel
theorem dX12_init_111 : decode cX12_init 111 = .ok (.putfield 46, 3) := by decide +kernel
theorem dX12_init_114 : decode cX12_init 114 = .ok (.aload_n 0, 1) := by decide +kernel
theorem dX12_init_115 : decode cX12_init 115 = .ok (.sipush 320, 3) := by decide +kernel
theorem dX12_init_118 : decode cX12_init 118 = .ok (.newarray .int, 2) := by decide +kernel
theorem dX12_init_120 : decode cX12_init 120 = .ok (.putfield 49, 3) := by decide +kernel
theorem dX12_init_123 : decode cX12_init 123 = .ok (.aload_n 0, 1) := by decide +kernel
theorem dX12_init_124 : decode cX12_init 124 = .ok (.sipush 320, 3) := by decide +kernel
theorem dX12_init_127 : decode cX12_init 127 = .ok (.newarray .int, 2) := by decide +kernel
theorem dX12_init_129 : decode cX12_init 129 = .ok (.putfield 52, 3) := by decide +kernel
theorem dX12_init_132 : decode cX12_init 132 = .ok (.aload_n 0, 1) := by decide +kernel
theorem dX12_init_133 : decode cX12_init 133 = .ok (.bipush 12, 2) := by decide +kernel
theorem dX12_init_135 : decode cX12_init 135 = .ok (.newarray .int, 2) := by decide +kernel
theorem dX12_init_137 : decode cX12_init 137 = .ok (.putfield 55, 3) := by decide +kernel
theorem dX12_init_140 : decode cX12_init 140 = .ok (.aload_n 0, 1) := by decide +kernel
theorem dX12_init_141 : decode cX12_init 141 = .ok (.bipush 12, 2) := by decide +kernel
theorem dX12_init_143 : decode cX12_init 143 = .ok (.newarray .int, 2) := by decide +kernel
theorem dX12_init_145 : decode cX12_init 145 = .ok (.putfield 58, 3) := by decide +kernel
theorem dX12_init_148 : decode cX12_init 148 = .ok (.aload_n 0, 1) := by decide +kernel
theorem dX12_init_149 : decode cX12_init 149 = .ok (.bipush 12, 2) := by decide +kernel
theorem dX12_init_151 : decode cX12_init 151 = .ok (.newarray .int, 2) := by decide +kernel
theorem dX12_init_153 : decode cX12_init 153 = .ok (.putfield 61, 3) := by decide +kernel
theorem dX12_init_156 : decode cX12_init 156 = .ok (.aload_n 0, 1) := by decide +kernel
theorem dX12_init_157 : decode cX12_init 157 = .ok (.bipush 12, 2) := by decide +kernel
theorem dX12_init_159 : decode cX12_init 159 = .ok (.newarray .int, 2) := by decide +kernel
theorem dX12_init_161 : decode cX12_init 161 = .ok (.putfield 64, 3) := by decide +kernel
theorem dX12_init_164 : decode cX12_init 164 = .ok (.aload_n 0, 1) := by decide +kernel
theorem dX12_init_165 : decode cX12_init 165 = .ok (.sipush 192, 3) := by decide +kernel
theorem dX12_init_168 : decode cX12_init 168 = .ok (.newarray .int, 2) := by decide +kernel
theorem dX12_init_170 : decode cX12_init 170 = .ok (.putfield 67, 3) := by decide +kernel
theorem dX12_init_173 : decode cX12_init 173 = .ok (.aload_n 0, 1) := by decide +kernel
theorem dX12_init_174 : decode cX12_init 174 = .ok (.bipush 12, 2) := by decide +kernel
theorem dX12_init_176 : decode cX12_init 176 = .ok (.newarray .int, 2) := by decide +kernel
theorem dX12_init_178 : decode cX12_init 178 = .ok (.putfield 70, 3) := by decide +kernel
theorem dX12_init_181 : decode cX12_init 181 = .ok (.aload_n 0, 1) := by decide +kernel
theorem dX12_init_182 : decode cX12_init 182 = .ok (.bipush 12, 2) := by decide +kernel
theorem dX12_init_184 : decode cX12_init 184 = .ok (.newarray .int, 2) := by decide +kernel
theorem dX12_init_186 : decode cX12_init 186 = .ok (.putfield 73, 3) := by decide +kernel
theorem dX12_init_189 : decode cX12_init 189 = .ok (.aload_n 0, 1) := by decide +kernel
theorem dX12_init_190 : decode cX12_init 190 = .ok (.bipush 12, 2) := by decide +kernel
theorem dX12_init_192 : decode cX12_init 192 = .ok (.newarray .int, 2) := by decide +kernel
theorem dX12_init_194 : decode cX12_init 194 = .ok (.putfield 76, 3) := by decide +kernel
theorem dX12_init_197 : decode cX12_init 197 = .ok (.aload_n 0, 1) := by decide +kernel
theorem dX12_init_198 : decode cX12_init 198 = .ok (.bipush 12, 2) := by decide +kernel
theorem dX12_init_200 : decode cX12_init 200 = .ok (.newarray .int, 2) := by decide +kernel
theorem dX12_init_202 : decode cX12_init 202 = .ok (.putfield 79, 3) := by decide +kernel
theorem dX12_init_205 : decode cX12_init 205 = .ok (.aload_n 0, 1) := by decide +kernel
theorem dX12_init_206 : decode cX12_init 206 = .ok (.bipush 12, 2) := by decide +kernel
theorem dX12_init_208 : decode cX12_init 208 = .ok (.newarray .int, 2) := by decide +kernel
theorem dX12_init_210 : decode cX12_init 210 = .ok (.putfield 82, 3) := by decide +kernel
theorem dX12_init_213 : decode cX12_init 213 = .ok (.aload_n 0, 1) := by decide +kernel
theorem dX12_init_214 : decode cX12_init 214 = .ok (.bipush 12, 2) := by decide +kernel
theorem dX12_init_216 : decode cX12_init 216 = .ok (.newarray .int, 2) := by decide +kernel
theorem dX12_init_218 : decode cX12_init 218 = .ok (.putfield 85, 3) := by decide +kernel
theorem dX12_init_221 : decode cX12_init 221 = .ok (.aload_n 0, 1) := by decide +kernel
theorem dX12_init_222 : decode cX12_init 222 = .ok (.sipush 192, 3) := by decide +kernel
theorem dX12_init_225 : decode cX12_init 225 = .ok (.newarray .int, 2) := by decide +kernel
theorem dX12_init_227 : decode cX12_init 227 = .ok (.putfield 88, 3) := by decide +kernel
theorem dX12_init_230 : decode cX12_init 230 = .ok (.aload_n 0, 1) := by decide +kernel
theorem dX12_init_231 : decode cX12_init 231 = .ok (.sipush 192, 3) := by decide +kernel
theorem dX12_init_234 : decode cX12_init 234 = .ok (.newarray .int, 2) := by decide +kernel
theorem dX12_init_236 : decode cX12_init 236 = .ok (.putfield 91, 3) := by decide +kernel
theorem dX12_init_239 : decode cX12_init 239 = .ok (.aload_n 0, 1) := by decide +kernel
theorem dX12_init_240 : decode cX12_init 240 = .ok (.sipush 192, 3) := by decide +kernel
theorem dX12_init_243 : decode cX12_init 243 = .ok (.newarray .int, 2) := by decide +kernel
theorem dX12_init_245 : decode cX12_init 245 = .ok (.putfield 94, 3) := by decide +kernel
theorem dX12_init_248 : decode cX12_init 248 = .ok (.aload_n 0, 1) := by decide +kernel
theorem dX12_init_249 : decode cX12_init 249 = .ok (.bipush 96, 2) := by decide +kernel
theorem dX12_init_251 : decode cX12_init 251 = .ok (.newarray .int, 2) := by decide +kernel
theorem dX12_init_253 : decode cX12_init 253 = .ok (.putfield 97, 3) := by decide +kernel
theorem dX12_init_256 : decode cX12_init 256 = .ok (.aload_n 0, 1) := by decide +kernel
theorem dX12_init_257 : decode cX12_init 257 = .ok (.sipush 3600, 3) := by decide +kernel
theorem dX12_init_260 : decode cX12_init 260 = .ok (.newarray .byte, 2) := by decide +kernel
theorem dX12_init_262 : decode cX12_init 262 = .ok (.putfield 100, 3) := by decide +kernel
theorem dX12_init_265 : decode cX12_init 265 = .ok (.aload_n 0, 1) := by decide +kernel
theorem dX12_init_266 : decode cX12_init 266 = .ok (.bipush 12, 2) := by decide +kernel
theorem dX12_init_268 : decode cX12_init 268 = .ok (.newarray .int, 2) := by decide +kernel
theorem dX12_init_270 : decode cX12_init 270 = .ok (.putfield 104, 3) := by decide +kernel
theorem dX12_init_273 : decode cX12_init 273 = .ok (.aload_n 0, 1) := by decide +kernel
theorem dX12_init_274 : decode cX12_init 274 = .ok (.sipush 200, 3) := by decide +kernel
theorem dX12_init_277 : decode cX12_init 277 = .ok (.newarray .int, 2) := by decide +kernel
theorem dX12_init_279 : decode cX12_init 279 = .ok (.putfield 107, 3) := by decide +kernel
theorem dX12_init_282 : decode cX12_init 282 = .ok (.aload_n 0, 1) := by decide +kernel
theorem dX12_init_283 : decode cX12_init 283 = .ok (.sipush 200, 3) := by decide +kernel
theorem dX12_init_286 : decode cX12_init 286 = .ok (.newarray .int, 2) := by decide +kernel
theorem dX12_init_288 : decode cX12_init 288 = .ok (.putfield 110, 3) := by decide +kernel
theorem dX12_init_291 : decode cX12_init 291 = .ok (.return_, 1) := by decide +kernel
def kX12_init (n : Nat) : jK := jk_aload 0 <| jk_obj <| jk_aload 0 <| jk_int 16 <| jk_newarr 20 (.inl 0) <| jk_puta [11] 3 <| jk_aload 0 <| jk_int 16 <| jk_newarr 20 (.inl 0) <| jk_puta [11] 4 <| jk_aload 0 <| jk_int 16 <| jk_newarr 20 (.inl 0) <| jk_puta [11] 5 <| jk_aload 0 <| jk_int 16 <| jk_newarr 20 (.inl 0) <| jk_puta [11] 6 <| jk_aload 0 <| jk_int 16 <| jk_newarr 20 (.inl 0) <| jk_puta [11] 7 <| jk_aload 0 <| jk_int 16 <| jk_newarr 20 (.inl 0) <| jk_puta [11] 8 <| jk_aload 0 <| jk_int 16 <| jk_newarr 20 (.inl 0) <| jk_puta [11] 9 <| jk_aload 0 <| jk_int 320 <| jk_newarr 20 (.inl 0) <| jk_puta [11] 10 <| jk_aload 0 <| jk_int 320 <| jk_newarr 20 (.inl 0) <| jk_puta [11] 11 <| jk_aload 0 <| jk_int 320 <| jk_newarr 20 (.inl 0) <| jk_puta [11] 12 <| jk_aload 0 <| jk_int 320 <| jk_newarr 20 (.inl 0) <| jk_puta [11] 13 <| jk_aload 0 <| jk_int 320 <| jk_newarr 20 (.inl 0) <| jk_puta [11] 14 <| jk_aload 0 <| jk_int 320 <| jk_newarr 20 (.inl 0) <| jk_puta [11] 15 <| jk_aload 0 <| jk_int 320 <| jk_newarr 20 (.inl 0) <| jk_puta [11] 16 <| jk_aload 0 <| jk_int 320 <| jk_newarr 20 (.inl 0) <| jk_puta [11] 17 <| jk_aload 0 <| jk_int 12 <| jk_newarr 20 (.inl 0) <| jk_puta [11] 18 <| jk_aload 0 <| jk_int 12 <| jk_newarr 20 (.inl 0) <| jk_puta [11] 19 <| jk_aload 0 <| jk_int 12 <| jk_newarr 20 (.inl 0) <| jk_puta [11] 20 <| jk_aload 0 <| jk_int 12 <| jk_newarr 20 (.inl 0) <| jk_puta [11] 21 <| jk_aload 0 <| jk_int 192 <| jk_newarr 20 (.inl 0) <| jk_puta [11] 22 <| jk_aload 0 <| jk_int 12 <| jk_newarr 20 (.inl 0) <| jk_puta [11] 23 <| jk_aload 0 <| jk_int 12 <| jk_newarr 20 (.inl 0) <| jk_puta [11] 24 <| jk_aload 0 <| jk_int 12 <| jk_newarr 20 (.inl 0) <| jk_puta [11] 25 <| jk_aload 0 <| jk_int 12 <| jk_newarr 20 (.inl 0) <| jk_puta [11] 26 <| jk_aload 0 <| jk_int 12 <| jk_newarr 20 (.inl 0) <| jk_puta [11] 27 <| jk_aload 0 <| jk_int 12 <| jk_newarr 20 (.inl 0) <| jk_puta [11] 28 <| jk_aload 0 <| jk_int 192 <| jk_newarr 20 (.inl 0) <| jk_puta [11] 29 <| jk_aload 0 <| jk_int 192 <| jk_newarr 20 (.inl 0) <| jk_puta [11] 30 <| jk_aload 0 <| jk_int 192 <| jk_newarr 20 (.inl 0) <| jk_puta [11] 31 <| jk_aload 0 <| jk_int 96 <| jk_newarr 20 (.inl 0) <| jk_puta [11] 32 <| jk_aload 0 <| jk_int 3600 <| jk_newarr 22 (.inl 0) <| jk_puta [11] 33 <| jk_aload 0 <| jk_int 12 <| jk_newarr 20 (.inl 0) <| jk_puta [11] 34 <| jk_aload 0 <| jk_int 200 <| jk_newarr 20 (.inl 0) <| jk_puta [11] 35 <| jk_aload 0 <| jk_int 200 <| jk_newarr 20 (.inl 0) <| jk_puta [11] 36 <| jk_vret
set_option maxRecDepth 100000 in
set_option maxHeartbeats 4000000 in
theorem tX12_init (l : Launch) (n : Nat) : jr_D l cX12_init 1 "MeetingKitModel" (Option.none : Option Jvm.ClassFile.FieldType) "<init>" 1 20 (kX12_init n) 0 := by
  unfold kX12_init
  refine js_aload_n dX12_init_0 ?_
  refine js_obj dX12_init_1 tw_961 tw_122 tw_123 (by decide) (by decide) ?_
  refine js_aload_n dX12_init_4 ?_
  refine js_bipush dX12_init_5 ?_
  refine js_newi dX12_init_7 tw_156 ?_
  refine js_putaF dX12_init_9 jf_3_11 (Or.inr ⟨_, rfl⟩) tw_965 (Or.inl rfl) rfl rfl ?_
  refine js_aload_n dX12_init_12 ?_
  refine js_bipush dX12_init_13 ?_
  refine js_newi dX12_init_15 tw_156 ?_
  refine js_putaF dX12_init_17 jf_4_11 (Or.inr ⟨_, rfl⟩) tw_966 (Or.inl rfl) rfl rfl ?_
  refine js_aload_n dX12_init_20 ?_
  refine js_bipush dX12_init_21 ?_
  refine js_newi dX12_init_23 tw_156 ?_
  refine js_putaF dX12_init_25 jf_5_11 (Or.inr ⟨_, rfl⟩) tw_967 (Or.inl rfl) rfl rfl ?_
  refine js_aload_n dX12_init_28 ?_
  refine js_bipush dX12_init_29 ?_
  refine js_newi dX12_init_31 tw_156 ?_
  refine js_putaF dX12_init_33 jf_6_11 (Or.inr ⟨_, rfl⟩) tw_968 (Or.inl rfl) rfl rfl ?_
  refine js_aload_n dX12_init_36 ?_
  refine js_bipush dX12_init_37 ?_
  refine js_newi dX12_init_39 tw_156 ?_
  refine js_putaF dX12_init_41 jf_7_11 (Or.inr ⟨_, rfl⟩) tw_969 (Or.inl rfl) rfl rfl ?_
  refine js_aload_n dX12_init_44 ?_
  refine js_bipush dX12_init_45 ?_
  refine js_newi dX12_init_47 tw_156 ?_
  refine js_putaF dX12_init_49 jf_8_11 (Or.inr ⟨_, rfl⟩) tw_970 (Or.inl rfl) rfl rfl ?_
  refine js_aload_n dX12_init_52 ?_
  refine js_bipush dX12_init_53 ?_
  refine js_newi dX12_init_55 tw_156 ?_
  refine js_putaF dX12_init_57 jf_9_11 (Or.inr ⟨_, rfl⟩) tw_971 (Or.inl rfl) rfl rfl ?_
  refine js_aload_n dX12_init_60 ?_
  refine js_sipush dX12_init_61 ?_
  refine js_newi dX12_init_64 tw_156 ?_
  refine js_putaF dX12_init_66 jf_10_11 (Or.inr ⟨_, rfl⟩) tw_972 (Or.inl rfl) rfl rfl ?_
  refine js_aload_n dX12_init_69 ?_
  refine js_sipush dX12_init_70 ?_
  refine js_newi dX12_init_73 tw_156 ?_
  refine js_putaF dX12_init_75 jf_11_11 (Or.inr ⟨_, rfl⟩) tw_973 (Or.inl rfl) rfl rfl ?_
  refine js_aload_n dX12_init_78 ?_
  refine js_sipush dX12_init_79 ?_
  refine js_newi dX12_init_82 tw_156 ?_
  refine js_putaF dX12_init_84 jf_12_11 (Or.inr ⟨_, rfl⟩) tw_974 (Or.inl rfl) rfl rfl ?_
  refine js_aload_n dX12_init_87 ?_
  refine js_sipush dX12_init_88 ?_
  refine js_newi dX12_init_91 tw_156 ?_
  refine js_putaF dX12_init_93 jf_13_11 (Or.inr ⟨_, rfl⟩) tw_975 (Or.inl rfl) rfl rfl ?_
  refine js_aload_n dX12_init_96 ?_
  refine js_sipush dX12_init_97 ?_
  refine js_newi dX12_init_100 tw_156 ?_
  refine js_putaF dX12_init_102 jf_14_11 (Or.inr ⟨_, rfl⟩) tw_976 (Or.inl rfl) rfl rfl ?_
  refine js_aload_n dX12_init_105 ?_
  refine js_sipush dX12_init_106 ?_
  refine js_newi dX12_init_109 tw_156 ?_
  refine js_putaF dX12_init_111 jf_15_11 (Or.inr ⟨_, rfl⟩) tw_977 (Or.inl rfl) rfl rfl ?_
  refine js_aload_n dX12_init_114 ?_
  refine js_sipush dX12_init_115 ?_
  refine js_newi dX12_init_118 tw_156 ?_
  refine js_putaF dX12_init_120 jf_16_11 (Or.inr ⟨_, rfl⟩) tw_978 (Or.inl rfl) rfl rfl ?_
  refine js_aload_n dX12_init_123 ?_
  refine js_sipush dX12_init_124 ?_
  refine js_newi dX12_init_127 tw_156 ?_
  refine js_putaF dX12_init_129 jf_17_11 (Or.inr ⟨_, rfl⟩) tw_979 (Or.inl rfl) rfl rfl ?_
  refine js_aload_n dX12_init_132 ?_
  refine js_bipush dX12_init_133 ?_
  refine js_newi dX12_init_135 tw_156 ?_
  refine js_putaF dX12_init_137 jf_18_11 (Or.inr ⟨_, rfl⟩) tw_980 (Or.inl rfl) rfl rfl ?_
  refine js_aload_n dX12_init_140 ?_
  refine js_bipush dX12_init_141 ?_
  refine js_newi dX12_init_143 tw_156 ?_
  refine js_putaF dX12_init_145 jf_19_11 (Or.inr ⟨_, rfl⟩) tw_981 (Or.inl rfl) rfl rfl ?_
  refine js_aload_n dX12_init_148 ?_
  refine js_bipush dX12_init_149 ?_
  refine js_newi dX12_init_151 tw_156 ?_
  refine js_putaF dX12_init_153 jf_20_11 (Or.inr ⟨_, rfl⟩) tw_982 (Or.inl rfl) rfl rfl ?_
  refine js_aload_n dX12_init_156 ?_
  refine js_bipush dX12_init_157 ?_
  refine js_newi dX12_init_159 tw_156 ?_
  refine js_putaF dX12_init_161 jf_21_11 (Or.inr ⟨_, rfl⟩) tw_983 (Or.inl rfl) rfl rfl ?_
  refine js_aload_n dX12_init_164 ?_
  refine js_sipush dX12_init_165 ?_
  refine js_newi dX12_init_168 tw_156 ?_
  refine js_putaF dX12_init_170 jf_22_11 (Or.inr ⟨_, rfl⟩) tw_984 (Or.inl rfl) rfl rfl ?_
  refine js_aload_n dX12_init_173 ?_
  refine js_bipush dX12_init_174 ?_
  refine js_newi dX12_init_176 tw_156 ?_
  refine js_putaF dX12_init_178 jf_23_11 (Or.inr ⟨_, rfl⟩) tw_985 (Or.inl rfl) rfl rfl ?_
  refine js_aload_n dX12_init_181 ?_
  refine js_bipush dX12_init_182 ?_
  refine js_newi dX12_init_184 tw_156 ?_
  refine js_putaF dX12_init_186 jf_24_11 (Or.inr ⟨_, rfl⟩) tw_986 (Or.inl rfl) rfl rfl ?_
  refine js_aload_n dX12_init_189 ?_
  refine js_bipush dX12_init_190 ?_
  refine js_newi dX12_init_192 tw_156 ?_
  refine js_putaF dX12_init_194 jf_25_11 (Or.inr ⟨_, rfl⟩) tw_987 (Or.inl rfl) rfl rfl ?_
  refine js_aload_n dX12_init_197 ?_
  refine js_bipush dX12_init_198 ?_
  refine js_newi dX12_init_200 tw_156 ?_
  refine js_putaF dX12_init_202 jf_26_11 (Or.inr ⟨_, rfl⟩) tw_988 (Or.inl rfl) rfl rfl ?_
  refine js_aload_n dX12_init_205 ?_
  refine js_bipush dX12_init_206 ?_
  refine js_newi dX12_init_208 tw_156 ?_
  refine js_putaF dX12_init_210 jf_27_11 (Or.inr ⟨_, rfl⟩) tw_989 (Or.inl rfl) rfl rfl ?_
  refine js_aload_n dX12_init_213 ?_
  refine js_bipush dX12_init_214 ?_
  refine js_newi dX12_init_216 tw_156 ?_
  refine js_putaF dX12_init_218 jf_28_11 (Or.inr ⟨_, rfl⟩) tw_990 (Or.inl rfl) rfl rfl ?_
  refine js_aload_n dX12_init_221 ?_
  refine js_sipush dX12_init_222 ?_
  refine js_newi dX12_init_225 tw_156 ?_
  refine js_putaF dX12_init_227 jf_29_11 (Or.inr ⟨_, rfl⟩) tw_991 (Or.inl rfl) rfl rfl ?_
  refine js_aload_n dX12_init_230 ?_
  refine js_sipush dX12_init_231 ?_
  refine js_newi dX12_init_234 tw_156 ?_
  refine js_putaF dX12_init_236 jf_30_11 (Or.inr ⟨_, rfl⟩) tw_992 (Or.inl rfl) rfl rfl ?_
  refine js_aload_n dX12_init_239 ?_
  refine js_sipush dX12_init_240 ?_
  refine js_newi dX12_init_243 tw_156 ?_
  refine js_putaF dX12_init_245 jf_31_11 (Or.inr ⟨_, rfl⟩) tw_993 (Or.inl rfl) rfl rfl ?_
  refine js_aload_n dX12_init_248 ?_
  refine js_bipush dX12_init_249 ?_
  refine js_newi dX12_init_251 tw_156 ?_
  refine js_putaF dX12_init_253 jf_32_11 (Or.inr ⟨_, rfl⟩) tw_994 (Or.inl rfl) rfl rfl ?_
  refine js_aload_n dX12_init_256 ?_
  refine js_sipush dX12_init_257 ?_
  refine js_newb dX12_init_260 tw_1080 ?_
  refine js_putaF dX12_init_262 jf_33_11 (Or.inr ⟨_, rfl⟩) tw_995 (Or.inl rfl) rfl rfl ?_
  refine js_aload_n dX12_init_265 ?_
  refine js_bipush dX12_init_266 ?_
  refine js_newi dX12_init_268 tw_156 ?_
  refine js_putaF dX12_init_270 jf_34_11 (Or.inr ⟨_, rfl⟩) tw_996 (Or.inl rfl) rfl rfl ?_
  refine js_aload_n dX12_init_273 ?_
  refine js_sipush dX12_init_274 ?_
  refine js_newi dX12_init_277 tw_156 ?_
  refine js_putaF dX12_init_279 jf_35_11 (Or.inr ⟨_, rfl⟩) tw_997 (Or.inl rfl) rfl rfl ?_
  refine js_aload_n dX12_init_282 ?_
  refine js_sipush dX12_init_283 ?_
  refine js_newi dX12_init_286 tw_156 ?_
  refine js_putaF dX12_init_288 jf_36_11 (Or.inr ⟨_, rfl⟩) tw_998 (Or.inl rfl) rfl rfl ?_
  exact js_vret dX12_init_291 rfl
def fX12_init (n : Nat) : jF := jm_run 1 1 (kX12_init n)
theorem sX12_init (l : Launch) (n : Nat) : jr_F l (⟨"MeetingKitModel", "<init>", "()V"⟩ : MethodName) cX12_init 1 (Option.none : Option Jvm.ClassFile.FieldType) 1 20 (fX12_init n) := js_met (by decide +kernel) (by decide) (tX12_init l n)
theorem dX12_isIn_0 : decode cX12_isIn 0 = .ok (.iload_n 0, 1) := by decide +kernel
theorem dX12_isIn_1 : decode cX12_isIn 1 = .ok (.ifCond .lt 12, 3) := by decide +kernel
theorem dX12_isIn_4 : decode cX12_isIn 4 = .ok (.iload_n 0, 1) := by decide +kernel
theorem dX12_isIn_5 : decode cX12_isIn 5 = .ok (.iload_n 1, 1) := by decide +kernel
theorem dX12_isIn_6 : decode cX12_isIn 6 = .ok (.if_icmp .ge 7, 3) := by decide +kernel
theorem dX12_isIn_9 : decode cX12_isIn 9 = .ok (.iconst 1, 1) := by decide +kernel
theorem dX12_isIn_10 : decode cX12_isIn 10 = .ok (.goto 4, 3) := by decide +kernel
theorem dX12_isIn_13 : decode cX12_isIn 13 = .ok (.iconst 0, 1) := by decide +kernel
theorem dX12_isIn_14 : decode cX12_isIn 14 = .ok (.ireturn, 1) := by decide +kernel
def kX12_isIn_0 (n : Nat) (K : Nat → jK) : jK := jk_iload 0 <| jk_iflt (K 13) <| jk_iload 0 <| jk_iload 1 <| jk_icmpge (K 13) <| jk_int 1 <| K 14
set_option maxRecDepth 100000 in
set_option maxHeartbeats 4000000 in
theorem tX12_isIn_0 (l : Launch) (n : Nat) {K : Nat → jK} (hK : ∀ b, jr_D l cX12_isIn 2 "MeetingKitModel" (Option.some Jvm.ClassFile.FieldType.boolean) "isIn" 0 0 (K b) b) : jr_D l cX12_isIn 2 "MeetingKitModel" (Option.some Jvm.ClassFile.FieldType.boolean) "isIn" 0 0 (kX12_isIn_0 n K) 0 := by
  unfold kX12_isIn_0
  refine js_iload_n dX12_isIn_0 ?_
  refine js_iflt (tgt := 13) dX12_isIn_1 (by decide) ?_ ?_
  · exact hK 13
  · refine js_iload_n dX12_isIn_4 ?_
    refine js_iload_n dX12_isIn_5 ?_
    refine js_icmpge (tgt := 13) dX12_isIn_6 (by decide) ?_ ?_
    · exact hK 13
    · refine js_iconst dX12_isIn_9 ?_
      refine js_goto (tgt := 14) dX12_isIn_10 (by decide) ?_
      exact hK 14
def kX12_isIn_13 (n : Nat) (K : Nat → jK) : jK := jk_kill 0 <| jk_kill 1 <| jk_int 0 <| K 14
set_option maxRecDepth 100000 in
set_option maxHeartbeats 4000000 in
theorem tX12_isIn_13 (l : Launch) (n : Nat) {K : Nat → jK} (hK : ∀ b, jr_D l cX12_isIn 2 "MeetingKitModel" (Option.some Jvm.ClassFile.FieldType.boolean) "isIn" 0 0 (K b) b) : jr_D l cX12_isIn 2 "MeetingKitModel" (Option.some Jvm.ClassFile.FieldType.boolean) "isIn" 0 0 (kX12_isIn_13 n K) 13 := by
  unfold kX12_isIn_13
  refine js_kill ?_
  refine js_kill ?_
  refine js_iconst dX12_isIn_13 ?_
  exact hK 14
def kX12_isIn_14 (n : Nat) (K : Nat → jK) : jK := jk_kill 0 <| jk_kill 1 <| jk_zret
set_option maxRecDepth 100000 in
set_option maxHeartbeats 4000000 in
theorem tX12_isIn_14 (l : Launch) (n : Nat) {K : Nat → jK} (hK : ∀ b, jr_D l cX12_isIn 2 "MeetingKitModel" (Option.some Jvm.ClassFile.FieldType.boolean) "isIn" 0 0 (K b) b) : jr_D l cX12_isIn 2 "MeetingKitModel" (Option.some Jvm.ClassFile.FieldType.boolean) "isIn" 0 0 (kX12_isIn_14 n K) 14 := by
  unfold kX12_isIn_14
  refine js_kill ?_
  refine js_kill ?_
  exact js_zret dX12_isIn_14 rfl
def kX12_isIn_b (n : Nat) (K : Nat → jK) (b : Nat) : jK := if b = 0 then kX12_isIn_0 n K else if b = 13 then kX12_isIn_13 n K else if b = 14 then kX12_isIn_14 n K else jk_none
def kX12_isIn (n : Nat) : jK := jk_fix (kX12_isIn_b n) n 0
theorem tX12_isIn (l : Launch) (n : Nat) : jr_D l cX12_isIn 2 "MeetingKitModel" (Option.some Jvm.ClassFile.FieldType.boolean) "isIn" 0 0 (kX12_isIn n) 0 := js_fix (F := kX12_isIn_b n) (fun K hK b => js_blk (tX12_isIn_0 l n hK) (js_blk (tX12_isIn_13 l n hK) (js_blk (tX12_isIn_14 l n hK) (js_none)))) n 0
def fX12_isIn (n : Nat) : jF := jm_run 2 2 (kX12_isIn n)
theorem sX12_isIn (l : Launch) (n : Nat) : jr_F l (⟨"MeetingKitModel", "isIn", "(II)Z"⟩ : MethodName) cX12_isIn 2 (Option.some Jvm.ClassFile.FieldType.boolean) 0 0 (fX12_isIn n) := js_met (by decide +kernel) (by decide) (tX12_isIn l n)
theorem dX12_mostOf_0 : decode cX12_mostOf 0 = .ok (.iload_n 0, 1) := by decide +kernel
theorem dX12_mostOf_1 : decode cX12_mostOf 1 = .ok (.tableswitch 52 0 6 #[43, 43, 43, 46, 52, 52, 49], 43) := by decide +kernel
theorem dX12_mostOf_44 : decode cX12_mostOf 44 = .ok (.bipush 100, 2) := by decide +kernel
theorem dX12_mostOf_46 : decode cX12_mostOf 46 = .ok (.ireturn, 1) := by decide +kernel
theorem dX12_mostOf_47 : decode cX12_mostOf 47 = .ok (.bipush 16, 2) := by decide +kernel
theorem dX12_mostOf_49 : decode cX12_mostOf 49 = .ok (.ireturn, 1) := by decide +kernel
theorem dX12_mostOf_50 : decode cX12_mostOf 50 = .ok (.bipush 8, 2) := by decide +kernel
theorem dX12_mostOf_52 : decode cX12_mostOf 52 = .ok (.ireturn, 1) := by decide +kernel
theorem dX12_mostOf_53 : decode cX12_mostOf 53 = .ok (.iconst 0, 1) := by decide +kernel
theorem dX12_mostOf_54 : decode cX12_mostOf 54 = .ok (.ireturn, 1) := by decide +kernel
def kX12_mostOf_0 (n : Nat) (K : Nat → jK) : jK := jk_iload 0 <| jk_sw [(0, (K 44)), (1, (K 44)), (2, (K 44)), (3, (jk_int 16 <| jk_iret)), (4, (K 53)), (5, (K 53)), (6, (jk_int 8 <| jk_iret))] (K 53)
set_option maxRecDepth 100000 in
set_option maxHeartbeats 4000000 in
theorem tX12_mostOf_0 (l : Launch) (n : Nat) {K : Nat → jK} (hK : ∀ b, jr_D l cX12_mostOf 1 "MeetingKitModel" (Option.some Jvm.ClassFile.FieldType.int) "mostOf" 0 0 (K b) b) : jr_D l cX12_mostOf 1 "MeetingKitModel" (Option.some Jvm.ClassFile.FieldType.int) "mostOf" 0 0 (kX12_mostOf_0 n K) 0 := by
  unfold kX12_mostOf_0
  refine js_iload_n dX12_mostOf_0 ?_
  refine js_tsw (td := 53) dX12_mostOf_1 rfl (by decide) ?_ ?_
  · exact hK 53
  · refine ⟨rfl, ⟨44, by decide, ?_⟩, rfl, ⟨44, by decide, ?_⟩, rfl, ⟨44, by decide, ?_⟩, rfl, ⟨47, by decide, ?_⟩, rfl, ⟨53, by decide, ?_⟩, rfl, ⟨53, by decide, ?_⟩, rfl, ⟨50, by decide, ?_⟩, trivial⟩
    · exact hK 44
    · exact hK 44
    · exact hK 44
    · refine js_bipush dX12_mostOf_47 ?_
      exact js_iret dX12_mostOf_49 rfl
    · exact hK 53
    · exact hK 53
    · refine js_bipush dX12_mostOf_50 ?_
      exact js_iret dX12_mostOf_52 rfl
def kX12_mostOf_44 (n : Nat) (K : Nat → jK) : jK := jk_kill 0 <| jk_int 100 <| jk_iret
set_option maxRecDepth 100000 in
set_option maxHeartbeats 4000000 in
theorem tX12_mostOf_44 (l : Launch) (n : Nat) {K : Nat → jK} (hK : ∀ b, jr_D l cX12_mostOf 1 "MeetingKitModel" (Option.some Jvm.ClassFile.FieldType.int) "mostOf" 0 0 (K b) b) : jr_D l cX12_mostOf 1 "MeetingKitModel" (Option.some Jvm.ClassFile.FieldType.int) "mostOf" 0 0 (kX12_mostOf_44 n K) 44 := by
  unfold kX12_mostOf_44
  refine js_kill ?_
  refine js_bipush dX12_mostOf_44 ?_
  exact js_iret dX12_mostOf_46 rfl
def kX12_mostOf_53 (n : Nat) (K : Nat → jK) : jK := jk_kill 0 <| jk_int 0 <| jk_iret
set_option maxRecDepth 100000 in
set_option maxHeartbeats 4000000 in
theorem tX12_mostOf_53 (l : Launch) (n : Nat) {K : Nat → jK} (hK : ∀ b, jr_D l cX12_mostOf 1 "MeetingKitModel" (Option.some Jvm.ClassFile.FieldType.int) "mostOf" 0 0 (K b) b) : jr_D l cX12_mostOf 1 "MeetingKitModel" (Option.some Jvm.ClassFile.FieldType.int) "mostOf" 0 0 (kX12_mostOf_53 n K) 53 := by
  unfold kX12_mostOf_53
  refine js_kill ?_
  refine js_iconst dX12_mostOf_53 ?_
  exact js_iret dX12_mostOf_54 rfl
def kX12_mostOf_b (n : Nat) (K : Nat → jK) (b : Nat) : jK := if b = 0 then kX12_mostOf_0 n K else if b = 44 then kX12_mostOf_44 n K else if b = 53 then kX12_mostOf_53 n K else jk_none
def kX12_mostOf (n : Nat) : jK := jk_fix (kX12_mostOf_b n) n 0
theorem tX12_mostOf (l : Launch) (n : Nat) : jr_D l cX12_mostOf 1 "MeetingKitModel" (Option.some Jvm.ClassFile.FieldType.int) "mostOf" 0 0 (kX12_mostOf n) 0 := js_fix (F := kX12_mostOf_b n) (fun K hK b => js_blk (tX12_mostOf_0 l n hK) (js_blk (tX12_mostOf_44 l n hK) (js_blk (tX12_mostOf_53 l n hK) (js_none)))) n 0
def fX12_mostOf (n : Nat) : jF := jm_run 1 1 (kX12_mostOf n)
theorem sX12_mostOf (l : Launch) (n : Nat) : jr_F l (⟨"MeetingKitModel", "mostOf", "(I)I"⟩ : MethodName) cX12_mostOf 1 (Option.some Jvm.ClassFile.FieldType.int) 0 0 (fX12_mostOf n) := js_met (by decide +kernel) (by decide) (tX12_mostOf l n)
theorem dX12_device_0 : decode cX12_device 0 = .ok (.aload_n 0, 1) := by decide +kernel
theorem dX12_device_1 : decode cX12_device 1 = .ok (.getfield 113, 3) := by decide +kernel
theorem dX12_device_4 : decode cX12_device 4 = .ok (.bipush 12, 2) := by decide +kernel
theorem dX12_device_6 : decode cX12_device 6 = .ok (.if_icmp .eq 34, 3) := by decide +kernel
theorem dX12_device_9 : decode cX12_device 9 = .ok (.iload_n 1, 1) := by decide +kernel
theorem dX12_device_10 : decode cX12_device 10 = .ok (.bipush 12, 2) := by decide +kernel
theorem dX12_device_12 : decode cX12_device 12 = .ok (.invokestatic 117, 3) := by decide +kernel
theorem dX12_device_15 : decode cX12_device 15 = .ok (.ifCond .eq 25, 3) := by decide +kernel
theorem dX12_device_18 : decode cX12_device 18 = .ok (.iload_n 2, 1) := by decide +kernel
theorem dX12_device_19 : decode cX12_device 19 = .ok (.iload_n 1, 1) := by decide +kernel
theorem dX12_device_20 : decode cX12_device 20 = .ok (.iconst 3, 1) := by decide +kernel
theorem dX12_device_21 : decode cX12_device 21 = .ok (.if_icmp .ne 7, 3) := by decide +kernel
theorem dX12_device_24 : decode cX12_device 24 = .ok (.iconst 1, 1) := by decide +kernel
theorem dX12_device_25 : decode cX12_device 25 = .ok (.goto 4, 3) := by decide +kernel
theorem dX12_device_28 : decode cX12_device 28 = .ok (.iconst 0, 1) := by decide +kernel
theorem dX12_device_29 : decode cX12_device 29 = .ok (.if_icmp .lt 11, 3) := by decide +kernel
theorem dX12_device_32 : decode cX12_device 32 = .ok (.iload_n 2, 1) := by decide +kernel
theorem dX12_device_33 : decode cX12_device 33 = .ok (.iload_n 1, 1) := by decide +kernel
theorem dX12_device_34 : decode cX12_device 34 = .ok (.invokestatic 121, 3) := by decide +kernel
theorem dX12_device_37 : decode cX12_device 37 = .ok (.if_icmp .le 5, 3) := by decide +kernel
theorem dX12_device_40 : decode cX12_device 40 = .ok (.iconst (-1), 1) := by decide +kernel
theorem dX12_device_41 : decode cX12_device 41 = .ok (.ireturn, 1) := by decide +kernel
theorem dX12_device_42 : decode cX12_device 42 = .ok (.aload_n 0, 1) := by decide +kernel
theorem dX12_device_43 : decode cX12_device 43 = .ok (.getfield 113, 3) := by decide +kernel
theorem dX12_device_46 : decode cX12_device 46 = .ok (.istore_n 3, 1) := by decide +kernel
theorem dX12_device_47 : decode cX12_device 47 = .ok (.aload_n 0, 1) := by decide +kernel
theorem dX12_device_48 : decode cX12_device 48 = .ok (.dup, 1) := by decide +kernel
theorem dX12_device_49 : decode cX12_device 49 = .ok (.getfield 113, 3) := by decide +kernel
theorem dX12_device_52 : decode cX12_device 52 = .ok (.iconst 1, 1) := by decide +kernel
theorem dX12_device_53 : decode cX12_device 53 = .ok (.iadd, 1) := by decide +kernel
theorem dX12_device_54 : decode cX12_device 54 = .ok (.putfield 113, 3) := by decide +kernel
theorem dX12_device_57 : decode cX12_device 57 = .ok (.aload_n 0, 1) := by decide +kernel
theorem dX12_device_58 : decode cX12_device 58 = .ok (.getfield 55, 3) := by decide +kernel
theorem dX12_device_61 : decode cX12_device 61 = .ok (.iload_n 3, 1) := by decide +kernel
theorem dX12_device_62 : decode cX12_device 62 = .ok (.iload_n 1, 1) := by decide +kernel
theorem dX12_device_63 : decode cX12_device 63 = .ok (.iastore, 1) := by decide +kernel
theorem dX12_device_64 : decode cX12_device 64 = .ok (.aload_n 0, 1) := by decide +kernel
theorem dX12_device_65 : decode cX12_device 65 = .ok (.getfield 58, 3) := by decide +kernel
theorem dX12_device_68 : decode cX12_device 68 = .ok (.iload_n 3, 1) := by decide +kernel
theorem dX12_device_69 : decode cX12_device 69 = .ok (.iload_n 2, 1) := by decide +kernel
theorem dX12_device_70 : decode cX12_device 70 = .ok (.iastore, 1) := by decide +kernel
theorem dX12_device_71 : decode cX12_device 71 = .ok (.aload_n 0, 1) := by decide +kernel
theorem dX12_device_72 : decode cX12_device 72 = .ok (.getfield 73, 3) := by decide +kernel
theorem dX12_device_75 : decode cX12_device 75 = .ok (.iload_n 3, 1) := by decide +kernel
theorem dX12_device_76 : decode cX12_device 76 = .ok (.iload_n 1, 1) := by decide +kernel
theorem dX12_device_77 : decode cX12_device 77 = .ok (.iconst 3, 1) := by decide +kernel
theorem dX12_device_78 : decode cX12_device 78 = .ok (.if_icmp .ge 7, 3) := by decide +kernel
theorem dX12_device_81 : decode cX12_device 81 = .ok (.iload_n 2, 1) := by decide +kernel
theorem dX12_device_82 : decode cX12_device 82 = .ok (.goto 4, 3) := by decide +kernel
theorem dX12_device_85 : decode cX12_device 85 = .ok (.iconst 0, 1) := by decide +kernel
theorem dX12_device_86 : decode cX12_device 86 = .ok (.iastore, 1) := by decide +kernel
theorem dX12_device_87 : decode cX12_device 87 = .ok (.aload_n 0, 1) := by decide +kernel
theorem dX12_device_88 : decode cX12_device 88 = .ok (.getfield 79, 3) := by decide +kernel
theorem dX12_device_91 : decode cX12_device 91 = .ok (.iload_n 3, 1) := by decide +kernel
theorem dX12_device_92 : decode cX12_device 92 = .ok (.iconst (-1), 1) := by decide +kernel
theorem dX12_device_93 : decode cX12_device 93 = .ok (.iastore, 1) := by decide +kernel
theorem dX12_device_94 : decode cX12_device 94 = .ok (.aload_n 0, 1) := by decide +kernel
theorem dX12_device_95 : decode cX12_device 95 = .ok (.getfield 85, 3) := by decide +kernel
theorem dX12_device_98 : decode cX12_device 98 = .ok (.iload_n 3, 1) := by decide +kernel
theorem dX12_device_99 : decode cX12_device 99 = .ok (.iconst (-1), 1) := by decide +kernel
theorem dX12_device_100 : decode cX12_device 100 = .ok (.iastore, 1) := by decide +kernel
theorem dX12_device_101 : decode cX12_device 101 = .ok (.iload_n 3, 1) := by decide +kernel
theorem dX12_device_102 : decode cX12_device 102 = .ok (.ireturn, 1) := by decide +kernel
def kX12_device_0 (n : Nat) (K : Nat → jK) : jK := jk_aload 0 <| jk_get [11] 1 <| jk_int 12 <| jk_icmpeq (K 40) <| jk_iload 1 <| jk_int 12 <| jk_call (fX12_isIn n) 2 <| jk_ifeq (K 40) <| jk_iload 2 <| jk_iload 1 <| jk_int 3 <| jk_icmpne (jk_int 0 <| K 29) <| jk_int 1 <| K 29
set_option maxRecDepth 100000 in
set_option maxHeartbeats 4000000 in
theorem tX12_device_0 (l : Launch) (n : Nat) {K : Nat → jK} (hK : ∀ b, jr_D l cX12_device 4 "MeetingKitModel" (Option.some Jvm.ClassFile.FieldType.int) "device" 1 21 (K b) b) : jr_D l cX12_device 4 "MeetingKitModel" (Option.some Jvm.ClassFile.FieldType.int) "device" 1 21 (kX12_device_0 n K) 0 := by
  unfold kX12_device_0
  refine js_aload_n dX12_device_0 ?_
  refine js_get dX12_device_1 jf_1_11 tw_963 (Or.inl rfl) ?_
  refine js_bipush dX12_device_4 ?_
  refine js_icmpeq (tgt := 40) dX12_device_6 (by decide) ?_ ?_
  · exact hK 40
  · refine js_iload_n dX12_device_9 ?_
    refine js_bipush dX12_device_10 ?_
    refine js_calls (sX12_isIn l n) dX12_device_12 (by decide) (by decide) tw_1085 tw_1086 tw_103 tw_1087 (by decide +kernel) ?_
    refine js_ifeq (tgt := 40) dX12_device_15 (by decide) ?_ ?_
    · exact hK 40
    · refine js_iload_n dX12_device_18 ?_
      refine js_iload_n dX12_device_19 ?_
      refine js_iconst dX12_device_20 ?_
      refine js_icmpne (tgt := 28) dX12_device_21 (by decide) ?_ ?_
      · refine js_iconst dX12_device_28 ?_
        exact hK 29
      · refine js_iconst dX12_device_24 ?_
        refine js_goto (tgt := 29) dX12_device_25 (by decide) ?_
        exact hK 29
def kX12_device_29 (n : Nat) (K : Nat → jK) : jK := jk_icmplt (K 40) <| jk_iload 2 <| jk_iload 1 <| jk_call (fX12_mostOf n) 1 <| jk_icmple (jk_aload 0 <| jk_get [11] 1 <| jk_istore 3 <| jk_aload 0 <| jk_dup <| jk_get [11] 1 <| jk_int 1 <| jk_iadd <| jk_puti [11] 1 <| jk_aload 0 <| jk_get [11] 18 <| jk_iload 3 <| jk_iload 1 <| jk_iast <| jk_aload 0 <| jk_get [11] 19 <| jk_iload 3 <| jk_iload 2 <| jk_iast <| jk_aload 0 <| jk_get [11] 24 <| jk_iload 3 <| jk_iload 1 <| jk_int 3 <| jk_icmpge (jk_int 0 <| K 86) <| jk_iload 2 <| K 86) <| K 40
set_option maxRecDepth 100000 in
set_option maxHeartbeats 4000000 in
theorem tX12_device_29 (l : Launch) (n : Nat) {K : Nat → jK} (hK : ∀ b, jr_D l cX12_device 4 "MeetingKitModel" (Option.some Jvm.ClassFile.FieldType.int) "device" 1 21 (K b) b) : jr_D l cX12_device 4 "MeetingKitModel" (Option.some Jvm.ClassFile.FieldType.int) "device" 1 21 (kX12_device_29 n K) 29 := by
  unfold kX12_device_29
  refine js_icmplt (tgt := 40) dX12_device_29 (by decide) ?_ ?_
  · exact hK 40
  · refine js_iload_n dX12_device_32 ?_
    refine js_iload_n dX12_device_33 ?_
    refine js_calls (sX12_mostOf l n) dX12_device_34 (by decide) (by decide) tw_1088 tw_1089 tw_103 tw_1090 (by decide +kernel) ?_
    refine js_icmple (tgt := 42) dX12_device_37 (by decide) ?_ ?_
    · refine js_aload_n dX12_device_42 ?_
      refine js_get dX12_device_43 jf_1_11 tw_963 (Or.inl rfl) ?_
      refine js_istore_n dX12_device_46 (by decide) ?_
      refine js_aload_n dX12_device_47 ?_
      refine js_dup dX12_device_48 ?_
      refine js_get dX12_device_49 jf_1_11 tw_963 (Or.inl rfl) ?_
      refine js_iconst dX12_device_52 ?_
      refine js_iadd dX12_device_53 ?_
      refine js_puti dX12_device_54 jf_1_11 rfl tw_963 (Or.inl rfl) ?_
      refine js_aload_n dX12_device_57 ?_
      refine js_get dX12_device_58 jf_18_11 tw_980 (Or.inl rfl) ?_
      refine js_iload_n dX12_device_61 ?_
      refine js_iload_n dX12_device_62 ?_
      refine js_iast dX12_device_63 ?_
      refine js_aload_n dX12_device_64 ?_
      refine js_get dX12_device_65 jf_19_11 tw_981 (Or.inl rfl) ?_
      refine js_iload_n dX12_device_68 ?_
      refine js_iload_n dX12_device_69 ?_
      refine js_iast dX12_device_70 ?_
      refine js_aload_n dX12_device_71 ?_
      refine js_get dX12_device_72 jf_24_11 tw_986 (Or.inl rfl) ?_
      refine js_iload_n dX12_device_75 ?_
      refine js_iload_n dX12_device_76 ?_
      refine js_iconst dX12_device_77 ?_
      refine js_icmpge (tgt := 85) dX12_device_78 (by decide) ?_ ?_
      · refine js_iconst dX12_device_85 ?_
        exact hK 86
      · refine js_iload_n dX12_device_81 ?_
        refine js_goto (tgt := 86) dX12_device_82 (by decide) ?_
        exact hK 86
    · exact hK 40
def kX12_device_40 (n : Nat) (K : Nat → jK) : jK := jk_kill 0 <| jk_kill 1 <| jk_kill 2 <| jk_int (-1) <| jk_iret
set_option maxRecDepth 100000 in
set_option maxHeartbeats 4000000 in
theorem tX12_device_40 (l : Launch) (n : Nat) {K : Nat → jK} (hK : ∀ b, jr_D l cX12_device 4 "MeetingKitModel" (Option.some Jvm.ClassFile.FieldType.int) "device" 1 21 (K b) b) : jr_D l cX12_device 4 "MeetingKitModel" (Option.some Jvm.ClassFile.FieldType.int) "device" 1 21 (kX12_device_40 n K) 40 := by
  unfold kX12_device_40
  refine js_kill ?_
  refine js_kill ?_
  refine js_kill ?_
  refine js_iconst dX12_device_40 ?_
  exact js_iret dX12_device_41 rfl
def kX12_device_86 (n : Nat) (K : Nat → jK) : jK := jk_kill 1 <| jk_kill 2 <| jk_iast <| jk_aload 0 <| jk_get [11] 26 <| jk_iload 3 <| jk_int (-1) <| jk_iast <| jk_aload 0 <| jk_get [11] 28 <| jk_iload 3 <| jk_int (-1) <| jk_iast <| jk_iload 3 <| jk_iret
set_option maxRecDepth 100000 in
set_option maxHeartbeats 4000000 in
theorem tX12_device_86 (l : Launch) (n : Nat) {K : Nat → jK} (hK : ∀ b, jr_D l cX12_device 4 "MeetingKitModel" (Option.some Jvm.ClassFile.FieldType.int) "device" 1 21 (K b) b) : jr_D l cX12_device 4 "MeetingKitModel" (Option.some Jvm.ClassFile.FieldType.int) "device" 1 21 (kX12_device_86 n K) 86 := by
  unfold kX12_device_86
  refine js_kill ?_
  refine js_kill ?_
  refine js_iast dX12_device_86 ?_
  refine js_aload_n dX12_device_87 ?_
  refine js_get dX12_device_88 jf_26_11 tw_988 (Or.inl rfl) ?_
  refine js_iload_n dX12_device_91 ?_
  refine js_iconst dX12_device_92 ?_
  refine js_iast dX12_device_93 ?_
  refine js_aload_n dX12_device_94 ?_
  refine js_get dX12_device_95 jf_28_11 tw_990 (Or.inl rfl) ?_
  refine js_iload_n dX12_device_98 ?_
  refine js_iconst dX12_device_99 ?_
  refine js_iast dX12_device_100 ?_
  refine js_iload_n dX12_device_101 ?_
  exact js_iret dX12_device_102 rfl
def kX12_device_b (n : Nat) (K : Nat → jK) (b : Nat) : jK := if b = 0 then kX12_device_0 n K else if b = 29 then kX12_device_29 n K else if b = 40 then kX12_device_40 n K else if b = 86 then kX12_device_86 n K else jk_none
def kX12_device (n : Nat) : jK := jk_fix (kX12_device_b n) n 0
theorem tX12_device (l : Launch) (n : Nat) : jr_D l cX12_device 4 "MeetingKitModel" (Option.some Jvm.ClassFile.FieldType.int) "device" 1 21 (kX12_device n) 0 := js_fix (F := kX12_device_b n) (fun K hK b => js_blk (tX12_device_0 l n hK) (js_blk (tX12_device_29 l n hK) (js_blk (tX12_device_40 l n hK) (js_blk (tX12_device_86 l n hK) (js_none))))) n 0
def fX12_device (n : Nat) : jF := jm_run 3 4 (kX12_device n)
theorem sX12_device (l : Launch) (n : Nat) : jr_F l (⟨"MeetingKitModel", "device", "(II)I"⟩ : MethodName) cX12_device 4 (Option.some Jvm.ClassFile.FieldType.int) 1 21 (fX12_device n) := js_met (by decide +kernel) (by decide) (tX12_device l n)
theorem dX12_thread_0 : decode cX12_thread 0 = .ok (.aload_n 0, 1) := by decide +kernel
theorem dX12_thread_1 : decode cX12_thread 1 = .ok (.getfield 125, 3) := by decide +kernel
theorem dX12_thread_4 : decode cX12_thread 4 = .ok (.bipush 16, 2) := by decide +kernel
theorem dX12_thread_6 : decode cX12_thread 6 = .ok (.if_icmp .ne 5, 3) := by decide +kernel
theorem dX12_thread_9 : decode cX12_thread 9 = .ok (.iconst (-1), 1) := by decide +kernel
theorem dX12_thread_10 : decode cX12_thread 10 = .ok (.ireturn, 1) := by decide +kernel
theorem dX12_thread_11 : decode cX12_thread 11 = .ok (.aload_n 0, 1) := by decide +kernel
theorem dX12_thread_12 : decode cX12_thread 12 = .ok (.getfield 16, 3) := by decide +kernel
theorem dX12_thread_15 : decode cX12_thread 15 = .ok (.aload_n 0, 1) := by decide +kernel
theorem dX12_thread_16 : decode cX12_thread 16 = .ok (.getfield 125, 3) := by decide +kernel
theorem dX12_thread_19 : decode cX12_thread 19 = .ok (.iconst (-1), 1) := by decide +kernel
theorem dX12_thread_20 : decode cX12_thread 20 = .ok (.iastore, 1) := by decide +kernel
theorem dX12_thread_21 : decode cX12_thread 21 = .ok (.aload_n 0, 1) := by decide +kernel
theorem dX12_thread_22 : decode cX12_thread 22 = .ok (.dup, 1) := by decide +kernel
theorem dX12_thread_23 : decode cX12_thread 23 = .ok (.getfield 125, 3) := by decide +kernel
theorem dX12_thread_26 : decode cX12_thread 26 = .ok (.iconst 1, 1) := by decide +kernel
theorem dX12_thread_27 : decode cX12_thread 27 = .ok (.iadd, 1) := by decide +kernel
theorem dX12_thread_28 : decode cX12_thread 28 = .ok (.putfield 125, 3) := by decide +kernel
theorem dX12_thread_31 : decode cX12_thread 31 = .ok (.aload_n 0, 1) := by decide +kernel
theorem dX12_thread_32 : decode cX12_thread 32 = .ok (.getfield 125, 3) := by decide +kernel
theorem dX12_thread_35 : decode cX12_thread 35 = .ok (.iconst 1, 1) := by decide +kernel
theorem dX12_thread_36 : decode cX12_thread 36 = .ok (.isub, 1) := by decide +kernel
theorem dX12_thread_37 : decode cX12_thread 37 = .ok (.ireturn, 1) := by decide +kernel
def kX12_thread (n : Nat) : jK := jk_aload 0 <| jk_get [11] 0 <| jk_int 16 <| jk_icmpne (jk_aload 0 <| jk_get [11] 5 <| jk_aload 0 <| jk_get [11] 0 <| jk_int (-1) <| jk_iast <| jk_aload 0 <| jk_dup <| jk_get [11] 0 <| jk_int 1 <| jk_iadd <| jk_puti [11] 0 <| jk_aload 0 <| jk_get [11] 0 <| jk_int 1 <| jk_isub <| jk_iret) <| jk_int (-1) <| jk_iret
set_option maxRecDepth 100000 in
set_option maxHeartbeats 4000000 in
theorem tX12_thread (l : Launch) (n : Nat) : jr_D l cX12_thread 1 "MeetingKitModel" (Option.some Jvm.ClassFile.FieldType.int) "thread" 0 0 (kX12_thread n) 0 := by
  unfold kX12_thread
  refine js_aload_n dX12_thread_0 ?_
  refine js_get dX12_thread_1 jf_0_11 tw_962 (Or.inl rfl) ?_
  refine js_bipush dX12_thread_4 ?_
  refine js_icmpne (tgt := 11) dX12_thread_6 (by decide) ?_ ?_
  · refine js_aload_n dX12_thread_11 ?_
    refine js_get dX12_thread_12 jf_5_11 tw_967 (Or.inl rfl) ?_
    refine js_aload_n dX12_thread_15 ?_
    refine js_get dX12_thread_16 jf_0_11 tw_962 (Or.inl rfl) ?_
    refine js_iconst dX12_thread_19 ?_
    refine js_iast dX12_thread_20 ?_
    refine js_aload_n dX12_thread_21 ?_
    refine js_dup dX12_thread_22 ?_
    refine js_get dX12_thread_23 jf_0_11 tw_962 (Or.inl rfl) ?_
    refine js_iconst dX12_thread_26 ?_
    refine js_iadd dX12_thread_27 ?_
    refine js_puti dX12_thread_28 jf_0_11 rfl tw_962 (Or.inl rfl) ?_
    refine js_aload_n dX12_thread_31 ?_
    refine js_get dX12_thread_32 jf_0_11 tw_962 (Or.inl rfl) ?_
    refine js_iconst dX12_thread_35 ?_
    refine js_isub dX12_thread_36 ?_
    exact js_iret dX12_thread_37 rfl
  · refine js_iconst dX12_thread_9 ?_
    exact js_iret dX12_thread_10 rfl
def fX12_thread (n : Nat) : jF := jm_run 1 1 (kX12_thread n)
theorem sX12_thread (l : Launch) (n : Nat) : jr_F l (⟨"MeetingKitModel", "thread", "()I"⟩ : MethodName) cX12_thread 1 (Option.some Jvm.ClassFile.FieldType.int) 0 0 (fX12_thread n) := js_met (by decide +kernel) (by decide) (tX12_thread l n)
theorem dX12_step_0 : decode cX12_step 0 = .ok (.iload_n 1, 1) := by decide +kernel
theorem dX12_step_1 : decode cX12_step 1 = .ok (.aload_n 0, 1) := by decide +kernel
theorem dX12_step_2 : decode cX12_step 2 = .ok (.getfield 125, 3) := by decide +kernel
theorem dX12_step_5 : decode cX12_step 5 = .ok (.invokestatic 117, 3) := by decide +kernel
theorem dX12_step_8 : decode cX12_step 8 = .ok (.ifCond .eq 59, 3) := by decide +kernel
theorem dX12_step_11 : decode cX12_step 11 = .ok (.iload_n 2, 1) := by decide +kernel
theorem dX12_step_12 : decode cX12_step 12 = .ok (.aload_n 0, 1) := by decide +kernel
theorem dX12_step_13 : decode cX12_step 13 = .ok (.getfield 113, 3) := by decide +kernel
theorem dX12_step_16 : decode cX12_step 16 = .ok (.invokestatic 117, 3) := by decide +kernel
theorem dX12_step_19 : decode cX12_step 19 = .ok (.ifCond .eq 48, 3) := by decide +kernel
theorem dX12_step_22 : decode cX12_step 22 = .ok (.aload_n 0, 1) := by decide +kernel
theorem dX12_step_23 : decode cX12_step 23 = .ok (.getfield 7, 3) := by decide +kernel
theorem dX12_step_26 : decode cX12_step 26 = .ok (.iload_n 1, 1) := by decide +kernel
theorem dX12_step_27 : decode cX12_step 27 = .ok (.iaload, 1) := by decide +kernel
theorem dX12_step_28 : decode cX12_step 28 = .ok (.bipush 20, 2) := by decide +kernel
theorem dX12_step_30 : decode cX12_step 30 = .ok (.if_icmp .eq 37, 3) := by decide +kernel
theorem dX12_step_33 : decode cX12_step 33 = .ok (.iload_n 3, 1) := by decide +kernel
theorem dX12_step_34 : decode cX12_step 34 = .ok (.bipush 10, 2) := by decide +kernel
theorem dX12_step_36 : decode cX12_step 36 = .ok (.invokestatic 117, 3) := by decide +kernel
theorem dX12_step_39 : decode cX12_step 39 = .ok (.ifCond .eq 28, 3) := by decide +kernel
theorem dX12_step_42 : decode cX12_step 42 = .ok (.iload 4, 2) := by decide +kernel
theorem dX12_step_44 : decode cX12_step 44 = .ok (.ldc 128, 2) := by decide +kernel
theorem dX12_step_46 : decode cX12_step 46 = .ok (.if_icmp .lt 21, 3) := by decide +kernel
theorem dX12_step_49 : decode cX12_step 49 = .ok (.iload 4, 2) := by decide +kernel
theorem dX12_step_51 : decode cX12_step 51 = .ok (.ldc 129, 2) := by decide +kernel
theorem dX12_step_53 : decode cX12_step 53 = .ok (.if_icmp .gt 14, 3) := by decide +kernel
theorem dX12_step_56 : decode cX12_step 56 = .ok (.iload 5, 2) := by decide +kernel
theorem dX12_step_58 : decode cX12_step 58 = .ok (.sipush 1001, 3) := by decide +kernel
theorem dX12_step_61 : decode cX12_step 61 = .ok (.invokestatic 117, 3) := by decide +kernel
theorem dX12_step_64 : decode cX12_step 64 = .ok (.ifCond .ne 5, 3) := by decide +kernel
theorem dX12_step_67 : decode cX12_step 67 = .ok (.iconst (-1), 1) := by decide +kernel
theorem dX12_step_68 : decode cX12_step 68 = .ok (.ireturn, 1) := by decide +kernel
theorem dX12_step_69 : decode cX12_step 69 = .ok (.bipush 20, 2) := by decide +kernel
theorem dX12_step_71 : decode cX12_step 71 = .ok (.iload_n 1, 1) := by decide +kernel
theorem dX12_step_72 : decode cX12_step 72 = .ok (.imul, 1) := by decide +kernel
theorem dX12_step_73 : decode cX12_step 73 = .ok (.aload_n 0, 1) := by decide +kernel
theorem dX12_step_74 : decode cX12_step 74 = .ok (.getfield 7, 3) := by decide +kernel
theorem dX12_step_77 : decode cX12_step 77 = .ok (.iload_n 1, 1) := by decide +kernel
theorem dX12_step_78 : decode cX12_step 78 = .ok (.iaload, 1) := by decide +kernel
theorem dX12_step_79 : decode cX12_step 79 = .ok (.iadd, 1) := by decide +kernel
theorem dX12_step_80 : decode cX12_step 80 = .ok (.istore 6, 2) := by decide +kernel
theorem dX12_step_82 : decode cX12_step 82 = .ok (.aload_n 0, 1) := by decide +kernel
theorem dX12_step_83 : decode cX12_step 83 = .ok (.getfield 31, 3) := by decide +kernel
theorem dX12_step_86 : decode cX12_step 86 = .ok (.iload 6, 2) := by decide +kernel
theorem dX12_step_88 : decode cX12_step 88 = .ok (.iload_n 2, 1) := by decide +kernel
theorem dX12_step_89 : decode cX12_step 89 = .ok (.iastore, 1) := by decide +kernel
theorem dX12_step_90 : decode cX12_step 90 = .ok (.aload_n 0, 1) := by decide +kernel
theorem dX12_step_91 : decode cX12_step 91 = .ok (.getfield 34, 3) := by decide +kernel
theorem dX12_step_94 : decode cX12_step 94 = .ok (.iload 6, 2) := by decide +kernel
theorem dX12_step_96 : decode cX12_step 96 = .ok (.iload_n 3, 1) := by decide +kernel
theorem dX12_step_97 : decode cX12_step 97 = .ok (.iastore, 1) := by decide +kernel
theorem dX12_step_98 : decode cX12_step 98 = .ok (.aload_n 0, 1) := by decide +kernel
theorem dX12_step_99 : decode cX12_step 99 = .ok (.getfield 37, 3) := by decide +kernel
theorem dX12_step_102 : decode cX12_step 102 = .ok (.iload 6, 2) := by decide +kernel
theorem dX12_step_104 : decode cX12_step 104 = .ok (.iload 4, 2) := by decide +kernel
theorem dX12_step_106 : decode cX12_step 106 = .ok (.iastore, 1) := by decide +kernel
theorem dX12_step_107 : decode cX12_step 107 = .ok (.aload_n 0, 1) := by decide +kernel
theorem dX12_step_108 : decode cX12_step 108 = .ok (.getfield 40, 3) := by decide +kernel
theorem dX12_step_111 : decode cX12_step 111 = .ok (.iload 6, 2) := by decide +kernel
theorem dX12_step_113 : decode cX12_step 113 = .ok (.iload 5, 2) := by decide +kernel
theorem dX12_step_115 : decode cX12_step 115 = .ok (.iastore, 1) := by decide +kernel
theorem dX12_step_116 : decode cX12_step 116 = .ok (.aload_n 0, 1) := by decide +kernel
theorem dX12_step_117 : decode cX12_step 117 = .ok (.getfield 43, 3) := by decide +kernel
theorem dX12_step_120 : decode cX12_step 120 = .ok (.iload 6, 2) := by decide +kernel
theorem dX12_step_122 : decode cX12_step 122 = .ok (.bipush 8, 2) := by decide +kernel
theorem dX12_step_124 : decode cX12_step 124 = .ok (.iastore, 1) := by decide +kernel
theorem dX12_step_125 : decode cX12_step 125 = .ok (.aload_n 0, 1) := by decide +kernel
theorem dX12_step_126 : decode cX12_step 126 = .ok (.getfield 7, 3) := by decide +kernel
theorem dX12_step_129 : decode cX12_step 129 = .ok (.iload_n 1, 1) := by decide +kernel
theorem dX12_step_130 : decode cX12_step 130 = .ok (.dup2, 1) := by decide +kernel
theorem dX12_step_131 : decode cX12_step 131 = .ok (.iaload, 1) := by decide +kernel
theorem dX12_step_132 : decode cX12_step 132 = .ok (.iconst 1, 1) := by decide +kernel
theorem dX12_step_133 : decode cX12_step 133 = .ok (.iadd, 1) := by decide +kernel
theorem dX12_step_134 : decode cX12_step 134 = .ok (.iastore, 1) := by decide +kernel
theorem dX12_step_135 : decode cX12_step 135 = .ok (.aload_n 0, 1) := by decide +kernel
theorem dX12_step_136 : decode cX12_step 136 = .ok (.getfield 7, 3) := by decide +kernel
theorem dX12_step_139 : decode cX12_step 139 = .ok (.iload_n 1, 1) := by decide +kernel
theorem dX12_step_140 : decode cX12_step 140 = .ok (.iaload, 1) := by decide +kernel
theorem dX12_step_141 : decode cX12_step 141 = .ok (.ireturn, 1) := by decide +kernel
def kX12_step_0 (n : Nat) (K : Nat → jK) : jK := jk_iload 1 <| jk_aload 0 <| jk_get [11] 0 <| jk_call (fX12_isIn n) 2 <| jk_ifeq (K 67) <| jk_iload 2 <| jk_aload 0 <| jk_get [11] 1 <| jk_call (fX12_isIn n) 2 <| jk_ifeq (K 67) <| jk_aload 0 <| jk_get [11] 3 <| jk_iload 1 <| jk_iald <| jk_int 20 <| jk_icmpeq (K 67) <| jk_iload 3 <| jk_int 10 <| jk_call (fX12_isIn n) 2 <| jk_ifeq (K 67) <| jk_iload 4 <| jk_int (-1000000) <| jk_icmplt (K 67) <| jk_iload 4 <| jk_int 1000000 <| jk_icmpgt (K 67) <| jk_iload 5 <| jk_int 1001 <| jk_call (fX12_isIn n) 2 <| jk_ifne (jk_int 20 <| jk_iload 1 <| jk_imul <| jk_aload 0 <| jk_get [11] 3 <| jk_iload 1 <| jk_iald <| jk_iadd <| jk_istore 6 <| jk_aload 0 <| jk_get [11] 10 <| jk_iload 6 <| jk_iload 2 <| jk_iast <| jk_aload 0 <| jk_get [11] 11 <| jk_iload 6 <| jk_iload 3 <| jk_iast <| jk_aload 0 <| jk_get [11] 12 <| jk_iload 6 <| jk_iload 4 <| jk_iast <| jk_aload 0 <| jk_get [11] 13 <| jk_iload 6 <| jk_iload 5 <| jk_iast <| jk_aload 0 <| jk_get [11] 14 <| jk_iload 6 <| jk_int 8 <| jk_iast <| jk_aload 0 <| jk_get [11] 3 <| jk_iload 1 <| jk_dup2 <| jk_iald <| jk_int 1 <| jk_iadd <| jk_iast <| jk_aload 0 <| jk_get [11] 3 <| jk_iload 1 <| jk_iald <| jk_iret) <| K 67
set_option maxRecDepth 100000 in
set_option maxHeartbeats 4000000 in
theorem tX12_step_0 (l : Launch) (n : Nat) {K : Nat → jK} (hK : ∀ b, jr_D l cX12_step 7 "MeetingKitModel" (Option.some Jvm.ClassFile.FieldType.int) "step" 1 21 (K b) b) : jr_D l cX12_step 7 "MeetingKitModel" (Option.some Jvm.ClassFile.FieldType.int) "step" 1 21 (kX12_step_0 n K) 0 := by
  unfold kX12_step_0
  refine js_iload_n dX12_step_0 ?_
  refine js_aload_n dX12_step_1 ?_
  refine js_get dX12_step_2 jf_0_11 tw_962 (Or.inl rfl) ?_
  refine js_calls (sX12_isIn l n) dX12_step_5 (by decide) (by decide) tw_1085 tw_1086 tw_103 tw_1087 (by decide +kernel) ?_
  refine js_ifeq (tgt := 67) dX12_step_8 (by decide) ?_ ?_
  · exact hK 67
  · refine js_iload_n dX12_step_11 ?_
    refine js_aload_n dX12_step_12 ?_
    refine js_get dX12_step_13 jf_1_11 tw_963 (Or.inl rfl) ?_
    refine js_calls (sX12_isIn l n) dX12_step_16 (by decide) (by decide) tw_1085 tw_1086 tw_103 tw_1087 (by decide +kernel) ?_
    refine js_ifeq (tgt := 67) dX12_step_19 (by decide) ?_ ?_
    · exact hK 67
    · refine js_aload_n dX12_step_22 ?_
      refine js_get dX12_step_23 jf_3_11 tw_965 (Or.inl rfl) ?_
      refine js_iload_n dX12_step_26 ?_
      refine js_iald dX12_step_27 ?_
      refine js_bipush dX12_step_28 ?_
      refine js_icmpeq (tgt := 67) dX12_step_30 (by decide) ?_ ?_
      · exact hK 67
      · refine js_iload_n dX12_step_33 ?_
        refine js_bipush dX12_step_34 ?_
        refine js_calls (sX12_isIn l n) dX12_step_36 (by decide) (by decide) tw_1085 tw_1086 tw_103 tw_1087 (by decide +kernel) ?_
        refine js_ifeq (tgt := 67) dX12_step_39 (by decide) ?_ ?_
        · exact hK 67
        · refine js_iload dX12_step_42 ?_
          refine js_ldc dX12_step_44 tw_1099 ?_
          refine js_icmplt (tgt := 67) dX12_step_46 (by decide) ?_ ?_
          · exact hK 67
          · refine js_iload dX12_step_49 ?_
            refine js_ldc dX12_step_51 tw_1100 ?_
            refine js_icmpgt (tgt := 67) dX12_step_53 (by decide) ?_ ?_
            · exact hK 67
            · refine js_iload dX12_step_56 ?_
              refine js_sipush dX12_step_58 ?_
              refine js_calls (sX12_isIn l n) dX12_step_61 (by decide) (by decide) tw_1085 tw_1086 tw_103 tw_1087 (by decide +kernel) ?_
              refine js_ifne (tgt := 69) dX12_step_64 (by decide) ?_ ?_
              · refine js_bipush dX12_step_69 ?_
                refine js_iload_n dX12_step_71 ?_
                refine js_imul dX12_step_72 ?_
                refine js_aload_n dX12_step_73 ?_
                refine js_get dX12_step_74 jf_3_11 tw_965 (Or.inl rfl) ?_
                refine js_iload_n dX12_step_77 ?_
                refine js_iald dX12_step_78 ?_
                refine js_iadd dX12_step_79 ?_
                refine js_istore dX12_step_80 (by decide) ?_
                refine js_aload_n dX12_step_82 ?_
                refine js_get dX12_step_83 jf_10_11 tw_972 (Or.inl rfl) ?_
                refine js_iload dX12_step_86 ?_
                refine js_iload_n dX12_step_88 ?_
                refine js_iast dX12_step_89 ?_
                refine js_aload_n dX12_step_90 ?_
                refine js_get dX12_step_91 jf_11_11 tw_973 (Or.inl rfl) ?_
                refine js_iload dX12_step_94 ?_
                refine js_iload_n dX12_step_96 ?_
                refine js_iast dX12_step_97 ?_
                refine js_aload_n dX12_step_98 ?_
                refine js_get dX12_step_99 jf_12_11 tw_974 (Or.inl rfl) ?_
                refine js_iload dX12_step_102 ?_
                refine js_iload dX12_step_104 ?_
                refine js_iast dX12_step_106 ?_
                refine js_aload_n dX12_step_107 ?_
                refine js_get dX12_step_108 jf_13_11 tw_975 (Or.inl rfl) ?_
                refine js_iload dX12_step_111 ?_
                refine js_iload dX12_step_113 ?_
                refine js_iast dX12_step_115 ?_
                refine js_aload_n dX12_step_116 ?_
                refine js_get dX12_step_117 jf_14_11 tw_976 (Or.inl rfl) ?_
                refine js_iload dX12_step_120 ?_
                refine js_bipush dX12_step_122 ?_
                refine js_iast dX12_step_124 ?_
                refine js_aload_n dX12_step_125 ?_
                refine js_get dX12_step_126 jf_3_11 tw_965 (Or.inl rfl) ?_
                refine js_iload_n dX12_step_129 ?_
                refine js_dup2 dX12_step_130 ?_
                refine js_iald dX12_step_131 ?_
                refine js_iconst dX12_step_132 ?_
                refine js_iadd dX12_step_133 ?_
                refine js_iast dX12_step_134 ?_
                refine js_aload_n dX12_step_135 ?_
                refine js_get dX12_step_136 jf_3_11 tw_965 (Or.inl rfl) ?_
                refine js_iload_n dX12_step_139 ?_
                refine js_iald dX12_step_140 ?_
                exact js_iret dX12_step_141 rfl
              · exact hK 67
def kX12_step_67 (n : Nat) (K : Nat → jK) : jK := jk_kill 0 <| jk_kill 1 <| jk_kill 2 <| jk_kill 3 <| jk_kill 4 <| jk_kill 5 <| jk_int (-1) <| jk_iret
set_option maxRecDepth 100000 in
set_option maxHeartbeats 4000000 in
theorem tX12_step_67 (l : Launch) (n : Nat) {K : Nat → jK} (hK : ∀ b, jr_D l cX12_step 7 "MeetingKitModel" (Option.some Jvm.ClassFile.FieldType.int) "step" 1 21 (K b) b) : jr_D l cX12_step 7 "MeetingKitModel" (Option.some Jvm.ClassFile.FieldType.int) "step" 1 21 (kX12_step_67 n K) 67 := by
  unfold kX12_step_67
  refine js_kill ?_
  refine js_kill ?_
  refine js_kill ?_
  refine js_kill ?_
  refine js_kill ?_
  refine js_kill ?_
  refine js_iconst dX12_step_67 ?_
  exact js_iret dX12_step_68 rfl
def kX12_step_b (n : Nat) (K : Nat → jK) (b : Nat) : jK := if b = 0 then kX12_step_0 n K else if b = 67 then kX12_step_67 n K else jk_none
def kX12_step (n : Nat) : jK := jk_fix (kX12_step_b n) n 0
theorem tX12_step (l : Launch) (n : Nat) : jr_D l cX12_step 7 "MeetingKitModel" (Option.some Jvm.ClassFile.FieldType.int) "step" 1 21 (kX12_step n) 0 := js_fix (F := kX12_step_b n) (fun K hK b => js_blk (tX12_step_0 l n hK) (js_blk (tX12_step_67 l n hK) (js_none))) n 0
def fX12_step (n : Nat) : jF := jm_run 6 7 (kX12_step n)
theorem sX12_step (l : Launch) (n : Nat) : jr_F l (⟨"MeetingKitModel", "step", "(IIIII)I"⟩ : MethodName) cX12_step 7 (Option.some Jvm.ClassFile.FieldType.int) 1 21 (fX12_step n) := js_met (by decide +kernel) (by decide) (tX12_step l n)
theorem dX12_isLater_0 : decode cX12_isLater 0 = .ok (.iload_n 1, 1) := by decide +kernel
theorem dX12_isLater_1 : decode cX12_isLater 1 = .ok (.aload_n 0, 1) := by decide +kernel
theorem dX12_isLater_2 : decode cX12_isLater 2 = .ok (.getfield 130, 3) := by decide +kernel
theorem dX12_isLater_5 : decode cX12_isLater 5 = .ok (.if_icmp .le 24, 3) := by decide +kernel
theorem dX12_isLater_8 : decode cX12_isLater 8 = .ok (.iload_n 1, 1) := by decide +kernel
theorem dX12_isLater_9 : decode cX12_isLater 9 = .ok (.sipush 5000, 3) := by decide +kernel
theorem dX12_isLater_12 : decode cX12_isLater 12 = .ok (.if_icmp .gt 17, 3) := by decide +kernel
theorem dX12_isLater_15 : decode cX12_isLater 15 = .ok (.aload_n 0, 1) := by decide +kernel
theorem dX12_isLater_16 : decode cX12_isLater 16 = .ok (.getfield 133, 3) := by decide +kernel
theorem dX12_isLater_19 : decode cX12_isLater 19 = .ok (.sipush 200, 3) := by decide +kernel
theorem dX12_isLater_22 : decode cX12_isLater 22 = .ok (.if_icmp .ge 7, 3) := by decide +kernel
theorem dX12_isLater_25 : decode cX12_isLater 25 = .ok (.iconst 1, 1) := by decide +kernel
theorem dX12_isLater_26 : decode cX12_isLater 26 = .ok (.goto 4, 3) := by decide +kernel
theorem dX12_isLater_29 : decode cX12_isLater 29 = .ok (.iconst 0, 1) := by decide +kernel
theorem dX12_isLater_30 : decode cX12_isLater 30 = .ok (.ireturn, 1) := by decide +kernel
def kX12_isLater_0 (n : Nat) (K : Nat → jK) : jK := jk_iload 1 <| jk_aload 0 <| jk_get [11] 2 <| jk_icmple (K 29) <| jk_iload 1 <| jk_int 5000 <| jk_icmpgt (K 29) <| jk_aload 0 <| jk_get [11] 37 <| jk_int 200 <| jk_icmpge (K 29) <| jk_int 1 <| K 30
set_option maxRecDepth 100000 in
set_option maxHeartbeats 4000000 in
theorem tX12_isLater_0 (l : Launch) (n : Nat) {K : Nat → jK} (hK : ∀ b, jr_D l cX12_isLater 2 "MeetingKitModel" (Option.some Jvm.ClassFile.FieldType.boolean) "isLater" 0 0 (K b) b) : jr_D l cX12_isLater 2 "MeetingKitModel" (Option.some Jvm.ClassFile.FieldType.boolean) "isLater" 0 0 (kX12_isLater_0 n K) 0 := by
  unfold kX12_isLater_0
  refine js_iload_n dX12_isLater_0 ?_
  refine js_aload_n dX12_isLater_1 ?_
  refine js_get dX12_isLater_2 jf_2_11 tw_964 (Or.inl rfl) ?_
  refine js_icmple (tgt := 29) dX12_isLater_5 (by decide) ?_ ?_
  · exact hK 29
  · refine js_iload_n dX12_isLater_8 ?_
    refine js_sipush dX12_isLater_9 ?_
    refine js_icmpgt (tgt := 29) dX12_isLater_12 (by decide) ?_ ?_
    · exact hK 29
    · refine js_aload_n dX12_isLater_15 ?_
      refine js_get dX12_isLater_16 jf_37_11 tw_999 (Or.inl rfl) ?_
      refine js_sipush dX12_isLater_19 ?_
      refine js_icmpge (tgt := 29) dX12_isLater_22 (by decide) ?_ ?_
      · exact hK 29
      · refine js_iconst dX12_isLater_25 ?_
        refine js_goto (tgt := 30) dX12_isLater_26 (by decide) ?_
        exact hK 30
def kX12_isLater_29 (n : Nat) (K : Nat → jK) : jK := jk_kill 0 <| jk_kill 1 <| jk_int 0 <| K 30
set_option maxRecDepth 100000 in
set_option maxHeartbeats 4000000 in
theorem tX12_isLater_29 (l : Launch) (n : Nat) {K : Nat → jK} (hK : ∀ b, jr_D l cX12_isLater 2 "MeetingKitModel" (Option.some Jvm.ClassFile.FieldType.boolean) "isLater" 0 0 (K b) b) : jr_D l cX12_isLater 2 "MeetingKitModel" (Option.some Jvm.ClassFile.FieldType.boolean) "isLater" 0 0 (kX12_isLater_29 n K) 29 := by
  unfold kX12_isLater_29
  refine js_kill ?_
  refine js_kill ?_
  refine js_iconst dX12_isLater_29 ?_
  exact hK 30
def kX12_isLater_30 (n : Nat) (K : Nat → jK) : jK := jk_kill 0 <| jk_kill 1 <| jk_zret
set_option maxRecDepth 100000 in
set_option maxHeartbeats 4000000 in
theorem tX12_isLater_30 (l : Launch) (n : Nat) {K : Nat → jK} (hK : ∀ b, jr_D l cX12_isLater 2 "MeetingKitModel" (Option.some Jvm.ClassFile.FieldType.boolean) "isLater" 0 0 (K b) b) : jr_D l cX12_isLater 2 "MeetingKitModel" (Option.some Jvm.ClassFile.FieldType.boolean) "isLater" 0 0 (kX12_isLater_30 n K) 30 := by
  unfold kX12_isLater_30
  refine js_kill ?_
  refine js_kill ?_
  exact js_zret dX12_isLater_30 rfl
def kX12_isLater_b (n : Nat) (K : Nat → jK) (b : Nat) : jK := if b = 0 then kX12_isLater_0 n K else if b = 29 then kX12_isLater_29 n K else if b = 30 then kX12_isLater_30 n K else jk_none
def kX12_isLater (n : Nat) : jK := jk_fix (kX12_isLater_b n) n 0
theorem tX12_isLater (l : Launch) (n : Nat) : jr_D l cX12_isLater 2 "MeetingKitModel" (Option.some Jvm.ClassFile.FieldType.boolean) "isLater" 0 0 (kX12_isLater n) 0 := js_fix (F := kX12_isLater_b n) (fun K hK b => js_blk (tX12_isLater_0 l n hK) (js_blk (tX12_isLater_29 l n hK) (js_blk (tX12_isLater_30 l n hK) (js_none)))) n 0
def fX12_isLater (n : Nat) : jF := jm_run 2 2 (kX12_isLater n)
theorem sX12_isLater (l : Launch) (n : Nat) : jr_F l (⟨"MeetingKitModel", "isLater", "(I)Z"⟩ : MethodName) cX12_isLater 2 (Option.some Jvm.ClassFile.FieldType.boolean) 0 0 (fX12_isLater n) := js_met (by decide +kernel) (by decide) (tX12_isLater l n)
theorem dX12_isPlanned_0 : decode cX12_isPlanned 0 = .ok (.iconst 0, 1) := by decide +kernel
theorem dX12_isPlanned_1 : decode cX12_isPlanned 1 = .ok (.istore_n 3, 1) := by decide +kernel
theorem dX12_isPlanned_2 : decode cX12_isPlanned 2 = .ok (.iconst 0, 1) := by decide +kernel
theorem dX12_isPlanned_3 : decode cX12_isPlanned 3 = .ok (.istore 4, 2) := by decide +kernel
theorem dX12_isPlanned_5 : decode cX12_isPlanned 5 = .ok (.iload 4, 2) := by decide +kernel
theorem dX12_isPlanned_7 : decode cX12_isPlanned 7 = .ok (.aload_n 0, 1) := by decide +kernel
theorem dX12_isPlanned_8 : decode cX12_isPlanned 8 = .ok (.getfield 143, 3) := by decide +kernel
theorem dX12_isPlanned_11 : decode cX12_isPlanned 11 = .ok (.if_icmp .ge 41, 3) := by decide +kernel
theorem dX12_isPlanned_14 : decode cX12_isPlanned 14 = .ok (.iload_n 3, 1) := by decide +kernel
theorem dX12_isPlanned_15 : decode cX12_isPlanned 15 = .ok (.ifCond .ne 25, 3) := by decide +kernel
theorem dX12_isPlanned_18 : decode cX12_isPlanned 18 = .ok (.aload_n 0, 1) := by decide +kernel
theorem dX12_isPlanned_19 : decode cX12_isPlanned 19 = .ok (.getfield 107, 3) := by decide +kernel
theorem dX12_isPlanned_22 : decode cX12_isPlanned 22 = .ok (.iload 4, 2) := by decide +kernel
theorem dX12_isPlanned_24 : decode cX12_isPlanned 24 = .ok (.iaload, 1) := by decide +kernel
theorem dX12_isPlanned_25 : decode cX12_isPlanned 25 = .ok (.iload_n 2, 1) := by decide +kernel
theorem dX12_isPlanned_26 : decode cX12_isPlanned 26 = .ok (.if_icmp .ne 18, 3) := by decide +kernel
theorem dX12_isPlanned_29 : decode cX12_isPlanned 29 = .ok (.aload_n 0, 1) := by decide +kernel
theorem dX12_isPlanned_30 : decode cX12_isPlanned 30 = .ok (.getfield 110, 3) := by decide +kernel
theorem dX12_isPlanned_33 : decode cX12_isPlanned 33 = .ok (.iload 4, 2) := by decide +kernel
theorem dX12_isPlanned_35 : decode cX12_isPlanned 35 = .ok (.iaload, 1) := by decide +kernel
theorem dX12_isPlanned_36 : decode cX12_isPlanned 36 = .ok (.iload_n 1, 1) := by decide +kernel
theorem dX12_isPlanned_37 : decode cX12_isPlanned 37 = .ok (.if_icmp .ne 7, 3) := by decide +kernel
theorem dX12_isPlanned_40 : decode cX12_isPlanned 40 = .ok (.iconst 1, 1) := by decide +kernel
theorem dX12_isPlanned_41 : decode cX12_isPlanned 41 = .ok (.goto 4, 3) := by decide +kernel
theorem dX12_isPlanned_44 : decode cX12_isPlanned 44 = .ok (.iconst 0, 1) := by decide +kernel
theorem dX12_isPlanned_45 : decode cX12_isPlanned 45 = .ok (.istore_n 3, 1) := by decide +kernel
theorem dX12_isPlanned_46 : decode cX12_isPlanned 46 = .ok (.iinc 4 1, 3) := by decide +kernel
theorem dX12_isPlanned_49 : decode cX12_isPlanned 49 = .ok (.goto (-44), 3) := by decide +kernel
theorem dX12_isPlanned_52 : decode cX12_isPlanned 52 = .ok (.iload_n 3, 1) := by decide +kernel
theorem dX12_isPlanned_53 : decode cX12_isPlanned 53 = .ok (.ireturn, 1) := by decide +kernel
def kX12_isPlanned_0 (n : Nat) (K : Nat → jK) : jK := jk_int 0 <| jk_istore 3 <| jk_int 0 <| jk_istore 4 <| K 5
set_option maxRecDepth 100000 in
set_option maxHeartbeats 4000000 in
theorem tX12_isPlanned_0 (l : Launch) (n : Nat) {K : Nat → jK} (hK : ∀ b, jr_D l cX12_isPlanned 5 "MeetingKitModel" (Option.some Jvm.ClassFile.FieldType.boolean) "isPlanned" 0 0 (K b) b) : jr_D l cX12_isPlanned 5 "MeetingKitModel" (Option.some Jvm.ClassFile.FieldType.boolean) "isPlanned" 0 0 (kX12_isPlanned_0 n K) 0 := by
  unfold kX12_isPlanned_0
  refine js_iconst dX12_isPlanned_0 ?_
  refine js_istore_n dX12_isPlanned_1 (by decide) ?_
  refine js_iconst dX12_isPlanned_2 ?_
  refine js_istore dX12_isPlanned_3 (by decide) ?_
  exact hK 5
def kX12_isPlanned_5 (n : Nat) (K : Nat → jK) : jK := jk_iload 4 <| jk_aload 0 <| jk_get [11] 38 <| jk_icmpge (jk_iload 3 <| jk_zret) <| jk_iload 3 <| jk_ifne (K 40) <| jk_aload 0 <| jk_get [11] 35 <| jk_iload 4 <| jk_iald <| jk_iload 2 <| jk_icmpne (K 44) <| jk_aload 0 <| jk_get [11] 36 <| jk_iload 4 <| jk_iald <| jk_iload 1 <| jk_icmpne (K 44) <| K 40
set_option maxRecDepth 100000 in
set_option maxHeartbeats 4000000 in
theorem tX12_isPlanned_5 (l : Launch) (n : Nat) {K : Nat → jK} (hK : ∀ b, jr_D l cX12_isPlanned 5 "MeetingKitModel" (Option.some Jvm.ClassFile.FieldType.boolean) "isPlanned" 0 0 (K b) b) : jr_D l cX12_isPlanned 5 "MeetingKitModel" (Option.some Jvm.ClassFile.FieldType.boolean) "isPlanned" 0 0 (kX12_isPlanned_5 n K) 5 := by
  unfold kX12_isPlanned_5
  refine js_iload dX12_isPlanned_5 ?_
  refine js_aload_n dX12_isPlanned_7 ?_
  refine js_get dX12_isPlanned_8 jf_38_11 tw_1000 (Or.inl rfl) ?_
  refine js_icmpge (tgt := 52) dX12_isPlanned_11 (by decide) ?_ ?_
  · refine js_iload_n dX12_isPlanned_52 ?_
    exact js_zret dX12_isPlanned_53 rfl
  · refine js_iload_n dX12_isPlanned_14 ?_
    refine js_ifne (tgt := 40) dX12_isPlanned_15 (by decide) ?_ ?_
    · exact hK 40
    · refine js_aload_n dX12_isPlanned_18 ?_
      refine js_get dX12_isPlanned_19 jf_35_11 tw_997 (Or.inl rfl) ?_
      refine js_iload dX12_isPlanned_22 ?_
      refine js_iald dX12_isPlanned_24 ?_
      refine js_iload_n dX12_isPlanned_25 ?_
      refine js_icmpne (tgt := 44) dX12_isPlanned_26 (by decide) ?_ ?_
      · exact hK 44
      · refine js_aload_n dX12_isPlanned_29 ?_
        refine js_get dX12_isPlanned_30 jf_36_11 tw_998 (Or.inl rfl) ?_
        refine js_iload dX12_isPlanned_33 ?_
        refine js_iald dX12_isPlanned_35 ?_
        refine js_iload_n dX12_isPlanned_36 ?_
        refine js_icmpne (tgt := 44) dX12_isPlanned_37 (by decide) ?_ ?_
        · exact hK 44
        · exact hK 40
def kX12_isPlanned_40 (n : Nat) (K : Nat → jK) : jK := jk_kill 3 <| jk_int 1 <| K 45
set_option maxRecDepth 100000 in
set_option maxHeartbeats 4000000 in
theorem tX12_isPlanned_40 (l : Launch) (n : Nat) {K : Nat → jK} (hK : ∀ b, jr_D l cX12_isPlanned 5 "MeetingKitModel" (Option.some Jvm.ClassFile.FieldType.boolean) "isPlanned" 0 0 (K b) b) : jr_D l cX12_isPlanned 5 "MeetingKitModel" (Option.some Jvm.ClassFile.FieldType.boolean) "isPlanned" 0 0 (kX12_isPlanned_40 n K) 40 := by
  unfold kX12_isPlanned_40
  refine js_kill ?_
  refine js_iconst dX12_isPlanned_40 ?_
  refine js_goto (tgt := 45) dX12_isPlanned_41 (by decide) ?_
  exact hK 45
def kX12_isPlanned_44 (n : Nat) (K : Nat → jK) : jK := jk_kill 3 <| jk_int 0 <| K 45
set_option maxRecDepth 100000 in
set_option maxHeartbeats 4000000 in
theorem tX12_isPlanned_44 (l : Launch) (n : Nat) {K : Nat → jK} (hK : ∀ b, jr_D l cX12_isPlanned 5 "MeetingKitModel" (Option.some Jvm.ClassFile.FieldType.boolean) "isPlanned" 0 0 (K b) b) : jr_D l cX12_isPlanned 5 "MeetingKitModel" (Option.some Jvm.ClassFile.FieldType.boolean) "isPlanned" 0 0 (kX12_isPlanned_44 n K) 44 := by
  unfold kX12_isPlanned_44
  refine js_kill ?_
  refine js_iconst dX12_isPlanned_44 ?_
  exact hK 45
def kX12_isPlanned_45 (n : Nat) (K : Nat → jK) : jK := jk_kill 3 <| jk_istore 3 <| jk_iinc 4 1 <| K 5
set_option maxRecDepth 100000 in
set_option maxHeartbeats 4000000 in
theorem tX12_isPlanned_45 (l : Launch) (n : Nat) {K : Nat → jK} (hK : ∀ b, jr_D l cX12_isPlanned 5 "MeetingKitModel" (Option.some Jvm.ClassFile.FieldType.boolean) "isPlanned" 0 0 (K b) b) : jr_D l cX12_isPlanned 5 "MeetingKitModel" (Option.some Jvm.ClassFile.FieldType.boolean) "isPlanned" 0 0 (kX12_isPlanned_45 n K) 45 := by
  unfold kX12_isPlanned_45
  refine js_kill ?_
  refine js_istore_n dX12_isPlanned_45 (by decide) ?_
  refine js_iinc dX12_isPlanned_46 (by decide) ?_
  refine js_goto (tgt := 5) dX12_isPlanned_49 (by decide) ?_
  exact hK 5
def kX12_isPlanned_b (n : Nat) (K : Nat → jK) (b : Nat) : jK := if b = 0 then kX12_isPlanned_0 n K else if b = 5 then kX12_isPlanned_5 n K else if b = 40 then kX12_isPlanned_40 n K else if b = 44 then kX12_isPlanned_44 n K else if b = 45 then kX12_isPlanned_45 n K else jk_none
def kX12_isPlanned (n : Nat) : jK := jk_fix (kX12_isPlanned_b n) n 0
theorem tX12_isPlanned (l : Launch) (n : Nat) : jr_D l cX12_isPlanned 5 "MeetingKitModel" (Option.some Jvm.ClassFile.FieldType.boolean) "isPlanned" 0 0 (kX12_isPlanned n) 0 := js_fix (F := kX12_isPlanned_b n) (fun K hK b => js_blk (tX12_isPlanned_0 l n hK) (js_blk (tX12_isPlanned_5 l n hK) (js_blk (tX12_isPlanned_40 l n hK) (js_blk (tX12_isPlanned_44 l n hK) (js_blk (tX12_isPlanned_45 l n hK) (js_none)))))) n 0
def fX12_isPlanned (n : Nat) : jF := jm_run 3 5 (kX12_isPlanned n)
theorem sX12_isPlanned (l : Launch) (n : Nat) : jr_F l (⟨"MeetingKitModel", "isPlanned", "(II)Z"⟩ : MethodName) cX12_isPlanned 5 (Option.some Jvm.ClassFile.FieldType.boolean) 0 0 (fX12_isPlanned n) := js_met (by decide +kernel) (by decide) (tX12_isPlanned l n)
theorem dX12_interrupt_0 : decode cX12_interrupt 0 = .ok (.iload_n 1, 1) := by decide +kernel
theorem dX12_interrupt_1 : decode cX12_interrupt 1 = .ok (.aload_n 0, 1) := by decide +kernel
theorem dX12_interrupt_2 : decode cX12_interrupt 2 = .ok (.getfield 125, 3) := by decide +kernel
theorem dX12_interrupt_5 : decode cX12_interrupt 5 = .ok (.invokestatic 117, 3) := by decide +kernel
theorem dX12_interrupt_8 : decode cX12_interrupt 8 = .ok (.ifCond .eq 20, 3) := by decide +kernel
theorem dX12_interrupt_11 : decode cX12_interrupt 11 = .ok (.aload_n 0, 1) := by decide +kernel
theorem dX12_interrupt_12 : decode cX12_interrupt 12 = .ok (.iload_n 2, 1) := by decide +kernel
theorem dX12_interrupt_13 : decode cX12_interrupt 13 = .ok (.invokevirtual 136, 3) := by decide +kernel
theorem dX12_interrupt_16 : decode cX12_interrupt 16 = .ok (.ifCond .eq 12, 3) := by decide +kernel
theorem dX12_interrupt_19 : decode cX12_interrupt 19 = .ok (.aload_n 0, 1) := by decide +kernel
theorem dX12_interrupt_20 : decode cX12_interrupt 20 = .ok (.iload_n 1, 1) := by decide +kernel
theorem dX12_interrupt_21 : decode cX12_interrupt 21 = .ok (.iload_n 2, 1) := by decide +kernel
theorem dX12_interrupt_22 : decode cX12_interrupt 22 = .ok (.invokevirtual 140, 3) := by decide +kernel
theorem dX12_interrupt_25 : decode cX12_interrupt 25 = .ok (.ifCond .eq 5, 3) := by decide +kernel
theorem dX12_interrupt_28 : decode cX12_interrupt 28 = .ok (.iconst 0, 1) := by decide +kernel
theorem dX12_interrupt_29 : decode cX12_interrupt 29 = .ok (.ireturn, 1) := by decide +kernel
theorem dX12_interrupt_30 : decode cX12_interrupt 30 = .ok (.aload_n 0, 1) := by decide +kernel
theorem dX12_interrupt_31 : decode cX12_interrupt 31 = .ok (.getfield 107, 3) := by decide +kernel
theorem dX12_interrupt_34 : decode cX12_interrupt 34 = .ok (.aload_n 0, 1) := by decide +kernel
theorem dX12_interrupt_35 : decode cX12_interrupt 35 = .ok (.getfield 143, 3) := by decide +kernel
theorem dX12_interrupt_38 : decode cX12_interrupt 38 = .ok (.iload_n 2, 1) := by decide +kernel
theorem dX12_interrupt_39 : decode cX12_interrupt 39 = .ok (.iastore, 1) := by decide +kernel
theorem dX12_interrupt_40 : decode cX12_interrupt 40 = .ok (.aload_n 0, 1) := by decide +kernel
theorem dX12_interrupt_41 : decode cX12_interrupt 41 = .ok (.getfield 110, 3) := by decide +kernel
theorem dX12_interrupt_44 : decode cX12_interrupt 44 = .ok (.aload_n 0, 1) := by decide +kernel
theorem dX12_interrupt_45 : decode cX12_interrupt 45 = .ok (.getfield 143, 3) := by decide +kernel
theorem dX12_interrupt_48 : decode cX12_interrupt 48 = .ok (.iload_n 1, 1) := by decide +kernel
theorem dX12_interrupt_49 : decode cX12_interrupt 49 = .ok (.iastore, 1) := by decide +kernel
theorem dX12_interrupt_50 : decode cX12_interrupt 50 = .ok (.aload_n 0, 1) := by decide +kernel
theorem dX12_interrupt_51 : decode cX12_interrupt 51 = .ok (.dup, 1) := by decide +kernel
theorem dX12_interrupt_52 : decode cX12_interrupt 52 = .ok (.getfield 143, 3) := by decide +kernel
theorem dX12_interrupt_55 : decode cX12_interrupt 55 = .ok (.iconst 1, 1) := by decide +kernel
theorem dX12_interrupt_56 : decode cX12_interrupt 56 = .ok (.iadd, 1) := by decide +kernel
theorem dX12_interrupt_57 : decode cX12_interrupt 57 = .ok (.putfield 143, 3) := by decide +kernel
theorem dX12_interrupt_60 : decode cX12_interrupt 60 = .ok (.aload_n 0, 1) := by decide +kernel
theorem dX12_interrupt_61 : decode cX12_interrupt 61 = .ok (.dup, 1) := by decide +kernel
theorem dX12_interrupt_62 : decode cX12_interrupt 62 = .ok (.getfield 133, 3) := by decide +kernel
theorem dX12_interrupt_65 : decode cX12_interrupt 65 = .ok (.iconst 1, 1) := by decide +kernel
theorem dX12_interrupt_66 : decode cX12_interrupt 66 = .ok (.iadd, 1) := by decide +kernel
theorem dX12_interrupt_67 : decode cX12_interrupt 67 = .ok (.putfield 133, 3) := by decide +kernel
theorem dX12_interrupt_70 : decode cX12_interrupt 70 = .ok (.iconst 1, 1) := by decide +kernel
theorem dX12_interrupt_71 : decode cX12_interrupt 71 = .ok (.ireturn, 1) := by decide +kernel
def kX12_interrupt_0 (n : Nat) (K : Nat → jK) : jK := jk_iload 1 <| jk_aload 0 <| jk_get [11] 0 <| jk_call (fX12_isIn n) 2 <| jk_ifeq (K 28) <| jk_aload 0 <| jk_iload 2 <| jk_vcall [(11, fX12_isLater n)] 1 <| jk_ifeq (K 28) <| jk_aload 0 <| jk_iload 1 <| jk_iload 2 <| jk_vcall [(11, fX12_isPlanned n)] 2 <| jk_ifeq (jk_aload 0 <| jk_get [11] 35 <| jk_aload 0 <| jk_get [11] 38 <| jk_iload 2 <| jk_iast <| jk_aload 0 <| jk_get [11] 36 <| jk_aload 0 <| jk_get [11] 38 <| jk_iload 1 <| jk_iast <| jk_aload 0 <| jk_dup <| jk_get [11] 38 <| jk_int 1 <| jk_iadd <| jk_puti [11] 38 <| jk_aload 0 <| jk_dup <| jk_get [11] 37 <| jk_int 1 <| jk_iadd <| jk_puti [11] 37 <| jk_int 1 <| jk_zret) <| K 28
set_option maxRecDepth 100000 in
set_option maxHeartbeats 4000000 in
theorem tX12_interrupt_0 (l : Launch) (n : Nat) {K : Nat → jK} (hK : ∀ b, jr_D l cX12_interrupt 3 "MeetingKitModel" (Option.some Jvm.ClassFile.FieldType.boolean) "interrupt" 1 24 (K b) b) : jr_D l cX12_interrupt 3 "MeetingKitModel" (Option.some Jvm.ClassFile.FieldType.boolean) "interrupt" 1 24 (kX12_interrupt_0 n K) 0 := by
  unfold kX12_interrupt_0
  refine js_iload_n dX12_interrupt_0 ?_
  refine js_aload_n dX12_interrupt_1 ?_
  refine js_get dX12_interrupt_2 jf_0_11 tw_962 (Or.inl rfl) ?_
  refine js_calls (sX12_isIn l n) dX12_interrupt_5 (by decide) (by decide) tw_1085 tw_1086 tw_103 tw_1087 (by decide +kernel) ?_
  refine js_ifeq (tgt := 28) dX12_interrupt_8 (by decide) ?_ ?_
  · exact hK 28
  · refine js_aload_n dX12_interrupt_11 ?_
    refine js_iload_n dX12_interrupt_12 ?_
    refine js_callv dX12_interrupt_13 (⟨⟨_, _, _, _, _, _, _, ⟨rfl, (show (11 : Nat) < 20 by decide), sX12_isLater l n, by decide, by decide, tw_1108, tw_103, tw_1107⟩, Or.inl ⟨by decide +kernel, by decide +kernel, by decide +kernel, tw_1105, tw_60⟩⟩, trivial⟩) ?_
    refine js_ifeq (tgt := 28) dX12_interrupt_16 (by decide) ?_ ?_
    · exact hK 28
    · refine js_aload_n dX12_interrupt_19 ?_
      refine js_iload_n dX12_interrupt_20 ?_
      refine js_iload_n dX12_interrupt_21 ?_
      refine js_callv dX12_interrupt_22 (⟨⟨_, _, _, _, _, _, _, ⟨rfl, (show (11 : Nat) < 20 by decide), sX12_isPlanned l n, by decide, by decide, tw_1112, tw_103, tw_1111⟩, Or.inl ⟨by decide +kernel, by decide +kernel, by decide +kernel, tw_1109, tw_61⟩⟩, trivial⟩) ?_
      refine js_ifeq (tgt := 30) dX12_interrupt_25 (by decide) ?_ ?_
      · refine js_aload_n dX12_interrupt_30 ?_
        refine js_get dX12_interrupt_31 jf_35_11 tw_997 (Or.inl rfl) ?_
        refine js_aload_n dX12_interrupt_34 ?_
        refine js_get dX12_interrupt_35 jf_38_11 tw_1000 (Or.inl rfl) ?_
        refine js_iload_n dX12_interrupt_38 ?_
        refine js_iast dX12_interrupt_39 ?_
        refine js_aload_n dX12_interrupt_40 ?_
        refine js_get dX12_interrupt_41 jf_36_11 tw_998 (Or.inl rfl) ?_
        refine js_aload_n dX12_interrupt_44 ?_
        refine js_get dX12_interrupt_45 jf_38_11 tw_1000 (Or.inl rfl) ?_
        refine js_iload_n dX12_interrupt_48 ?_
        refine js_iast dX12_interrupt_49 ?_
        refine js_aload_n dX12_interrupt_50 ?_
        refine js_dup dX12_interrupt_51 ?_
        refine js_get dX12_interrupt_52 jf_38_11 tw_1000 (Or.inl rfl) ?_
        refine js_iconst dX12_interrupt_55 ?_
        refine js_iadd dX12_interrupt_56 ?_
        refine js_puti dX12_interrupt_57 jf_38_11 rfl tw_1000 (Or.inl rfl) ?_
        refine js_aload_n dX12_interrupt_60 ?_
        refine js_dup dX12_interrupt_61 ?_
        refine js_get dX12_interrupt_62 jf_37_11 tw_999 (Or.inl rfl) ?_
        refine js_iconst dX12_interrupt_65 ?_
        refine js_iadd dX12_interrupt_66 ?_
        refine js_puti dX12_interrupt_67 jf_37_11 rfl tw_999 (Or.inl rfl) ?_
        refine js_iconst dX12_interrupt_70 ?_
        exact js_zret dX12_interrupt_71 rfl
      · exact hK 28
def kX12_interrupt_28 (n : Nat) (K : Nat → jK) : jK := jk_kill 0 <| jk_kill 1 <| jk_kill 2 <| jk_int 0 <| jk_zret
set_option maxRecDepth 100000 in
set_option maxHeartbeats 4000000 in
theorem tX12_interrupt_28 (l : Launch) (n : Nat) {K : Nat → jK} (hK : ∀ b, jr_D l cX12_interrupt 3 "MeetingKitModel" (Option.some Jvm.ClassFile.FieldType.boolean) "interrupt" 1 24 (K b) b) : jr_D l cX12_interrupt 3 "MeetingKitModel" (Option.some Jvm.ClassFile.FieldType.boolean) "interrupt" 1 24 (kX12_interrupt_28 n K) 28 := by
  unfold kX12_interrupt_28
  refine js_kill ?_
  refine js_kill ?_
  refine js_kill ?_
  refine js_iconst dX12_interrupt_28 ?_
  exact js_zret dX12_interrupt_29 rfl
def kX12_interrupt_b (n : Nat) (K : Nat → jK) (b : Nat) : jK := if b = 0 then kX12_interrupt_0 n K else if b = 28 then kX12_interrupt_28 n K else jk_none
def kX12_interrupt (n : Nat) : jK := jk_fix (kX12_interrupt_b n) n 0
theorem tX12_interrupt (l : Launch) (n : Nat) : jr_D l cX12_interrupt 3 "MeetingKitModel" (Option.some Jvm.ClassFile.FieldType.boolean) "interrupt" 1 24 (kX12_interrupt n) 0 := js_fix (F := kX12_interrupt_b n) (fun K hK b => js_blk (tX12_interrupt_0 l n hK) (js_blk (tX12_interrupt_28 l n hK) (js_none))) n 0
def fX12_interrupt (n : Nat) : jF := jm_run 3 3 (kX12_interrupt n)
theorem sX12_interrupt (l : Launch) (n : Nat) : jr_F l (⟨"MeetingKitModel", "interrupt", "(II)Z"⟩ : MethodName) cX12_interrupt 3 (Option.some Jvm.ClassFile.FieldType.boolean) 1 24 (fX12_interrupt n) := js_met (by decide +kernel) (by decide) (tX12_interrupt l n)
theorem dX12_close_0 : decode cX12_close 0 = .ok (.iload_n 1, 1) := by decide +kernel
theorem dX12_close_1 : decode cX12_close 1 = .ok (.aload_n 0, 1) := by decide +kernel
theorem dX12_close_2 : decode cX12_close 2 = .ok (.getfield 113, 3) := by decide +kernel
theorem dX12_close_5 : decode cX12_close 5 = .ok (.invokestatic 117, 3) := by decide +kernel
theorem dX12_close_8 : decode cX12_close 8 = .ok (.ifCond .eq 20, 3) := by decide +kernel
theorem dX12_close_11 : decode cX12_close 11 = .ok (.aload_n 0, 1) := by decide +kernel
theorem dX12_close_12 : decode cX12_close 12 = .ok (.iload_n 2, 1) := by decide +kernel
theorem dX12_close_13 : decode cX12_close 13 = .ok (.invokevirtual 136, 3) := by decide +kernel
theorem dX12_close_16 : decode cX12_close 16 = .ok (.ifCond .eq 12, 3) := by decide +kernel
theorem dX12_close_19 : decode cX12_close 19 = .ok (.aload_n 0, 1) := by decide +kernel
theorem dX12_close_20 : decode cX12_close 20 = .ok (.getfield 64, 3) := by decide +kernel
theorem dX12_close_23 : decode cX12_close 23 = .ok (.iload_n 1, 1) := by decide +kernel
theorem dX12_close_24 : decode cX12_close 24 = .ok (.iaload, 1) := by decide +kernel
theorem dX12_close_25 : decode cX12_close 25 = .ok (.ifCond .eq 5, 3) := by decide +kernel
theorem dX12_close_28 : decode cX12_close 28 = .ok (.iconst 0, 1) := by decide +kernel
theorem dX12_close_29 : decode cX12_close 29 = .ok (.ireturn, 1) := by decide +kernel
theorem dX12_close_30 : decode cX12_close 30 = .ok (.aload_n 0, 1) := by decide +kernel
theorem dX12_close_31 : decode cX12_close 31 = .ok (.getfield 64, 3) := by decide +kernel
theorem dX12_close_34 : decode cX12_close 34 = .ok (.iload_n 1, 1) := by decide +kernel
theorem dX12_close_35 : decode cX12_close 35 = .ok (.iload_n 2, 1) := by decide +kernel
theorem dX12_close_36 : decode cX12_close 36 = .ok (.iastore, 1) := by decide +kernel
theorem dX12_close_37 : decode cX12_close 37 = .ok (.aload_n 0, 1) := by decide +kernel
theorem dX12_close_38 : decode cX12_close 38 = .ok (.dup, 1) := by decide +kernel
theorem dX12_close_39 : decode cX12_close 39 = .ok (.getfield 133, 3) := by decide +kernel
theorem dX12_close_42 : decode cX12_close 42 = .ok (.iconst 1, 1) := by decide +kernel
theorem dX12_close_43 : decode cX12_close 43 = .ok (.iadd, 1) := by decide +kernel
theorem dX12_close_44 : decode cX12_close 44 = .ok (.putfield 133, 3) := by decide +kernel
theorem dX12_close_47 : decode cX12_close 47 = .ok (.iconst 1, 1) := by decide +kernel
theorem dX12_close_48 : decode cX12_close 48 = .ok (.ireturn, 1) := by decide +kernel
def kX12_close_0 (n : Nat) (K : Nat → jK) : jK := jk_iload 1 <| jk_aload 0 <| jk_get [11] 1 <| jk_call (fX12_isIn n) 2 <| jk_ifeq (K 28) <| jk_aload 0 <| jk_iload 2 <| jk_vcall [(11, fX12_isLater n)] 1 <| jk_ifeq (K 28) <| jk_aload 0 <| jk_get [11] 21 <| jk_iload 1 <| jk_iald <| jk_ifeq (jk_aload 0 <| jk_get [11] 21 <| jk_iload 1 <| jk_iload 2 <| jk_iast <| jk_aload 0 <| jk_dup <| jk_get [11] 37 <| jk_int 1 <| jk_iadd <| jk_puti [11] 37 <| jk_int 1 <| jk_zret) <| K 28
set_option maxRecDepth 100000 in
set_option maxHeartbeats 4000000 in
theorem tX12_close_0 (l : Launch) (n : Nat) {K : Nat → jK} (hK : ∀ b, jr_D l cX12_close 3 "MeetingKitModel" (Option.some Jvm.ClassFile.FieldType.boolean) "close" 1 21 (K b) b) : jr_D l cX12_close 3 "MeetingKitModel" (Option.some Jvm.ClassFile.FieldType.boolean) "close" 1 21 (kX12_close_0 n K) 0 := by
  unfold kX12_close_0
  refine js_iload_n dX12_close_0 ?_
  refine js_aload_n dX12_close_1 ?_
  refine js_get dX12_close_2 jf_1_11 tw_963 (Or.inl rfl) ?_
  refine js_calls (sX12_isIn l n) dX12_close_5 (by decide) (by decide) tw_1085 tw_1086 tw_103 tw_1087 (by decide +kernel) ?_
  refine js_ifeq (tgt := 28) dX12_close_8 (by decide) ?_ ?_
  · exact hK 28
  · refine js_aload_n dX12_close_11 ?_
    refine js_iload_n dX12_close_12 ?_
    refine js_callv dX12_close_13 (⟨⟨_, _, _, _, _, _, _, ⟨rfl, (show (11 : Nat) < 20 by decide), sX12_isLater l n, by decide, by decide, tw_1108, tw_103, tw_1107⟩, Or.inl ⟨by decide +kernel, by decide +kernel, by decide +kernel, tw_1105, tw_60⟩⟩, trivial⟩) ?_
    refine js_ifeq (tgt := 28) dX12_close_16 (by decide) ?_ ?_
    · exact hK 28
    · refine js_aload_n dX12_close_19 ?_
      refine js_get dX12_close_20 jf_21_11 tw_983 (Or.inl rfl) ?_
      refine js_iload_n dX12_close_23 ?_
      refine js_iald dX12_close_24 ?_
      refine js_ifeq (tgt := 30) dX12_close_25 (by decide) ?_ ?_
      · refine js_aload_n dX12_close_30 ?_
        refine js_get dX12_close_31 jf_21_11 tw_983 (Or.inl rfl) ?_
        refine js_iload_n dX12_close_34 ?_
        refine js_iload_n dX12_close_35 ?_
        refine js_iast dX12_close_36 ?_
        refine js_aload_n dX12_close_37 ?_
        refine js_dup dX12_close_38 ?_
        refine js_get dX12_close_39 jf_37_11 tw_999 (Or.inl rfl) ?_
        refine js_iconst dX12_close_42 ?_
        refine js_iadd dX12_close_43 ?_
        refine js_puti dX12_close_44 jf_37_11 rfl tw_999 (Or.inl rfl) ?_
        refine js_iconst dX12_close_47 ?_
        exact js_zret dX12_close_48 rfl
      · exact hK 28
def kX12_close_28 (n : Nat) (K : Nat → jK) : jK := jk_kill 0 <| jk_kill 1 <| jk_kill 2 <| jk_int 0 <| jk_zret
set_option maxRecDepth 100000 in
set_option maxHeartbeats 4000000 in
theorem tX12_close_28 (l : Launch) (n : Nat) {K : Nat → jK} (hK : ∀ b, jr_D l cX12_close 3 "MeetingKitModel" (Option.some Jvm.ClassFile.FieldType.boolean) "close" 1 21 (K b) b) : jr_D l cX12_close 3 "MeetingKitModel" (Option.some Jvm.ClassFile.FieldType.boolean) "close" 1 21 (kX12_close_28 n K) 28 := by
  unfold kX12_close_28
  refine js_kill ?_
  refine js_kill ?_
  refine js_kill ?_
  refine js_iconst dX12_close_28 ?_
  exact js_zret dX12_close_29 rfl
def kX12_close_b (n : Nat) (K : Nat → jK) (b : Nat) : jK := if b = 0 then kX12_close_0 n K else if b = 28 then kX12_close_28 n K else jk_none
def kX12_close (n : Nat) : jK := jk_fix (kX12_close_b n) n 0
theorem tX12_close (l : Launch) (n : Nat) : jr_D l cX12_close 3 "MeetingKitModel" (Option.some Jvm.ClassFile.FieldType.boolean) "close" 1 21 (kX12_close n) 0 := js_fix (F := kX12_close_b n) (fun K hK b => js_blk (tX12_close_0 l n hK) (js_blk (tX12_close_28 l n hK) (js_none))) n 0
def fX12_close (n : Nat) : jF := jm_run 3 3 (kX12_close n)
theorem sX12_close (l : Launch) (n : Nat) : jr_F l (⟨"MeetingKitModel", "close", "(II)Z"⟩ : MethodName) cX12_close 3 (Option.some Jvm.ClassFile.FieldType.boolean) 1 21 (fX12_close n) := js_met (by decide +kernel) (by decide) (tX12_close l n)
theorem dX12_stepOf_0 : decode cX12_stepOf 0 = .ok (.bipush 20, 2) := by decide +kernel
theorem dX12_stepOf_2 : decode cX12_stepOf 2 = .ok (.iload_n 1, 1) := by decide +kernel
theorem dX12_stepOf_3 : decode cX12_stepOf 3 = .ok (.imul, 1) := by decide +kernel
theorem dX12_stepOf_4 : decode cX12_stepOf 4 = .ok (.aload_n 0, 1) := by decide +kernel
theorem dX12_stepOf_5 : decode cX12_stepOf 5 = .ok (.getfield 13, 3) := by decide +kernel
theorem dX12_stepOf_8 : decode cX12_stepOf 8 = .ok (.iload_n 1, 1) := by decide +kernel
theorem dX12_stepOf_9 : decode cX12_stepOf 9 = .ok (.iaload, 1) := by decide +kernel
theorem dX12_stepOf_10 : decode cX12_stepOf 10 = .ok (.iadd, 1) := by decide +kernel
theorem dX12_stepOf_11 : decode cX12_stepOf 11 = .ok (.iconst 1, 1) := by decide +kernel
theorem dX12_stepOf_12 : decode cX12_stepOf 12 = .ok (.isub, 1) := by decide +kernel
theorem dX12_stepOf_13 : decode cX12_stepOf 13 = .ok (.ireturn, 1) := by decide +kernel
def kX12_stepOf (n : Nat) : jK := jk_int 20 <| jk_iload 1 <| jk_imul <| jk_aload 0 <| jk_get [11] 4 <| jk_iload 1 <| jk_iald <| jk_iadd <| jk_int 1 <| jk_isub <| jk_iret
set_option maxRecDepth 100000 in
set_option maxHeartbeats 4000000 in
theorem tX12_stepOf (l : Launch) (n : Nat) : jr_D l cX12_stepOf 2 "MeetingKitModel" (Option.some Jvm.ClassFile.FieldType.int) "stepOf" 0 0 (kX12_stepOf n) 0 := by
  unfold kX12_stepOf
  refine js_bipush dX12_stepOf_0 ?_
  refine js_iload_n dX12_stepOf_2 ?_
  refine js_imul dX12_stepOf_3 ?_
  refine js_aload_n dX12_stepOf_4 ?_
  refine js_get dX12_stepOf_5 jf_4_11 tw_966 (Or.inl rfl) ?_
  refine js_iload_n dX12_stepOf_8 ?_
  refine js_iald dX12_stepOf_9 ?_
  refine js_iadd dX12_stepOf_10 ?_
  refine js_iconst dX12_stepOf_11 ?_
  refine js_isub dX12_stepOf_12 ?_
  exact js_iret dX12_stepOf_13 rfl
def fX12_stepOf (n : Nat) : jF := jm_run 2 2 (kX12_stepOf n)
theorem sX12_stepOf (l : Launch) (n : Nat) : jr_F l (⟨"MeetingKitModel", "stepOf", "(I)I"⟩ : MethodName) cX12_stepOf 2 (Option.some Jvm.ClassFile.FieldType.int) 0 0 (fX12_stepOf n) := js_met (by decide +kernel) (by decide) (tX12_stepOf l n)
theorem dX12_actOf_0 : decode cX12_actOf 0 = .ok (.aload_n 0, 1) := by decide +kernel
theorem dX12_actOf_1 : decode cX12_actOf 1 = .ok (.getfield 34, 3) := by decide +kernel
theorem dX12_actOf_4 : decode cX12_actOf 4 = .ok (.aload_n 0, 1) := by decide +kernel
theorem dX12_actOf_5 : decode cX12_actOf 5 = .ok (.iload_n 1, 1) := by decide +kernel
theorem dX12_actOf_6 : decode cX12_actOf 6 = .ok (.invokevirtual 146, 3) := by decide +kernel
theorem dX12_actOf_9 : decode cX12_actOf 9 = .ok (.iaload, 1) := by decide +kernel
theorem dX12_actOf_10 : decode cX12_actOf 10 = .ok (.ireturn, 1) := by decide +kernel
def kX12_actOf (n : Nat) : jK := jk_aload 0 <| jk_get [11] 11 <| jk_aload 0 <| jk_iload 1 <| jk_vcall [(11, fX12_stepOf n)] 1 <| jk_iald <| jk_iret
set_option maxRecDepth 100000 in
set_option maxHeartbeats 4000000 in
theorem tX12_actOf (l : Launch) (n : Nat) : jr_D l cX12_actOf 2 "MeetingKitModel" (Option.some Jvm.ClassFile.FieldType.int) "actOf" 1 21 (kX12_actOf n) 0 := by
  unfold kX12_actOf
  refine js_aload_n dX12_actOf_0 ?_
  refine js_get dX12_actOf_1 jf_11_11 tw_973 (Or.inl rfl) ?_
  refine js_aload_n dX12_actOf_4 ?_
  refine js_iload_n dX12_actOf_5 ?_
  refine js_callv dX12_actOf_6 (⟨⟨_, _, _, _, _, _, _, ⟨rfl, (show (11 : Nat) < 20 by decide), sX12_stepOf l n, by decide, by decide, tw_1128, tw_103, tw_1127⟩, Or.inl ⟨by decide +kernel, by decide +kernel, by decide +kernel, tw_1125, tw_63⟩⟩, trivial⟩) ?_
  refine js_iald dX12_actOf_9 ?_
  exact js_iret dX12_actOf_10 rfl
def fX12_actOf (n : Nat) : jF := jm_run 2 2 (kX12_actOf n)
theorem sX12_actOf (l : Launch) (n : Nat) : jr_F l (⟨"MeetingKitModel", "actOf", "(I)I"⟩ : MethodName) cX12_actOf 2 (Option.some Jvm.ClassFile.FieldType.int) 1 21 (fX12_actOf n) := js_met (by decide +kernel) (by decide) (tX12_actOf l n)
theorem dX12_numberOf_0 : decode cX12_numberOf 0 = .ok (.aload_n 0, 1) := by decide +kernel
theorem dX12_numberOf_1 : decode cX12_numberOf 1 = .ok (.getfield 37, 3) := by decide +kernel
theorem dX12_numberOf_4 : decode cX12_numberOf 4 = .ok (.aload_n 0, 1) := by decide +kernel
theorem dX12_numberOf_5 : decode cX12_numberOf 5 = .ok (.iload_n 1, 1) := by decide +kernel
theorem dX12_numberOf_6 : decode cX12_numberOf 6 = .ok (.invokevirtual 146, 3) := by decide +kernel
theorem dX12_numberOf_9 : decode cX12_numberOf 9 = .ok (.iaload, 1) := by decide +kernel
theorem dX12_numberOf_10 : decode cX12_numberOf 10 = .ok (.ireturn, 1) := by decide +kernel
def kX12_numberOf (n : Nat) : jK := jk_aload 0 <| jk_get [11] 12 <| jk_aload 0 <| jk_iload 1 <| jk_vcall [(11, fX12_stepOf n)] 1 <| jk_iald <| jk_iret
set_option maxRecDepth 100000 in
set_option maxHeartbeats 4000000 in
theorem tX12_numberOf (l : Launch) (n : Nat) : jr_D l cX12_numberOf 2 "MeetingKitModel" (Option.some Jvm.ClassFile.FieldType.int) "numberOf" 1 21 (kX12_numberOf n) 0 := by
  unfold kX12_numberOf
  refine js_aload_n dX12_numberOf_0 ?_
  refine js_get dX12_numberOf_1 jf_12_11 tw_974 (Or.inl rfl) ?_
  refine js_aload_n dX12_numberOf_4 ?_
  refine js_iload_n dX12_numberOf_5 ?_
  refine js_callv dX12_numberOf_6 (⟨⟨_, _, _, _, _, _, _, ⟨rfl, (show (11 : Nat) < 20 by decide), sX12_stepOf l n, by decide, by decide, tw_1128, tw_103, tw_1127⟩, Or.inl ⟨by decide +kernel, by decide +kernel, by decide +kernel, tw_1125, tw_63⟩⟩, trivial⟩) ?_
  refine js_iald dX12_numberOf_9 ?_
  exact js_iret dX12_numberOf_10 rfl
def fX12_numberOf (n : Nat) : jF := jm_run 2 2 (kX12_numberOf n)
theorem sX12_numberOf (l : Launch) (n : Nat) : jr_F l (⟨"MeetingKitModel", "numberOf", "(I)I"⟩ : MethodName) cX12_numberOf 2 (Option.some Jvm.ClassFile.FieldType.int) 1 21 (fX12_numberOf n) := js_met (by decide +kernel) (by decide) (tX12_numberOf l n)
theorem dX12_ends_0 : decode cX12_ends 0 = .ok (.aload_n 0, 1) := by decide +kernel
theorem dX12_ends_1 : decode cX12_ends 1 = .ok (.iload_n 1, 1) := by decide +kernel
theorem dX12_ends_2 : decode cX12_ends 2 = .ok (.invokevirtual 146, 3) := by decide +kernel
theorem dX12_ends_5 : decode cX12_ends 5 = .ok (.istore 4, 2) := by decide +kernel
theorem dX12_ends_7 : decode cX12_ends 7 = .ok (.aload_n 0, 1) := by decide +kernel
theorem dX12_ends_8 : decode cX12_ends 8 = .ok (.getfield 43, 3) := by decide +kernel
theorem dX12_ends_11 : decode cX12_ends 11 = .ok (.iload 4, 2) := by decide +kernel
theorem dX12_ends_13 : decode cX12_ends 13 = .ok (.iload_n 2, 1) := by decide +kernel
theorem dX12_ends_14 : decode cX12_ends 14 = .ok (.iastore, 1) := by decide +kernel
theorem dX12_ends_15 : decode cX12_ends 15 = .ok (.aload_n 0, 1) := by decide +kernel
theorem dX12_ends_16 : decode cX12_ends 16 = .ok (.getfield 46, 3) := by decide +kernel
theorem dX12_ends_19 : decode cX12_ends 19 = .ok (.iload 4, 2) := by decide +kernel
theorem dX12_ends_21 : decode cX12_ends 21 = .ok (.iload_n 3, 1) := by decide +kernel
theorem dX12_ends_22 : decode cX12_ends 22 = .ok (.iastore, 1) := by decide +kernel
theorem dX12_ends_23 : decode cX12_ends 23 = .ok (.aload_n 0, 1) := by decide +kernel
theorem dX12_ends_24 : decode cX12_ends 24 = .ok (.getfield 52, 3) := by decide +kernel
theorem dX12_ends_27 : decode cX12_ends 27 = .ok (.iload 4, 2) := by decide +kernel
theorem dX12_ends_29 : decode cX12_ends 29 = .ok (.aload_n 0, 1) := by decide +kernel
theorem dX12_ends_30 : decode cX12_ends 30 = .ok (.getfield 130, 3) := by decide +kernel
theorem dX12_ends_33 : decode cX12_ends 33 = .ok (.iastore, 1) := by decide +kernel
theorem dX12_ends_34 : decode cX12_ends 34 = .ok (.aload_n 0, 1) := by decide +kernel
theorem dX12_ends_35 : decode cX12_ends 35 = .ok (.getfield 22, 3) := by decide +kernel
theorem dX12_ends_38 : decode cX12_ends 38 = .ok (.iload_n 1, 1) := by decide +kernel
theorem dX12_ends_39 : decode cX12_ends 39 = .ok (.aload_n 0, 1) := by decide +kernel
theorem dX12_ends_40 : decode cX12_ends 40 = .ok (.getfield 130, 3) := by decide +kernel
theorem dX12_ends_43 : decode cX12_ends 43 = .ok (.iastore, 1) := by decide +kernel
theorem dX12_ends_44 : decode cX12_ends 44 = .ok (.return_, 1) := by decide +kernel
def kX12_ends (n : Nat) : jK := jk_aload 0 <| jk_iload 1 <| jk_vcall [(11, fX12_stepOf n)] 1 <| jk_istore 4 <| jk_aload 0 <| jk_get [11] 14 <| jk_iload 4 <| jk_iload 2 <| jk_iast <| jk_aload 0 <| jk_get [11] 15 <| jk_iload 4 <| jk_iload 3 <| jk_iast <| jk_aload 0 <| jk_get [11] 17 <| jk_iload 4 <| jk_aload 0 <| jk_get [11] 2 <| jk_iast <| jk_aload 0 <| jk_get [11] 7 <| jk_iload 1 <| jk_aload 0 <| jk_get [11] 2 <| jk_iast <| jk_vret
set_option maxRecDepth 100000 in
set_option maxHeartbeats 4000000 in
theorem tX12_ends (l : Launch) (n : Nat) : jr_D l cX12_ends 5 "MeetingKitModel" (Option.none : Option Jvm.ClassFile.FieldType) "ends" 1 21 (kX12_ends n) 0 := by
  unfold kX12_ends
  refine js_aload_n dX12_ends_0 ?_
  refine js_iload_n dX12_ends_1 ?_
  refine js_callv dX12_ends_2 (⟨⟨_, _, _, _, _, _, _, ⟨rfl, (show (11 : Nat) < 20 by decide), sX12_stepOf l n, by decide, by decide, tw_1128, tw_103, tw_1127⟩, Or.inl ⟨by decide +kernel, by decide +kernel, by decide +kernel, tw_1125, tw_63⟩⟩, trivial⟩) ?_
  refine js_istore dX12_ends_5 (by decide) ?_
  refine js_aload_n dX12_ends_7 ?_
  refine js_get dX12_ends_8 jf_14_11 tw_976 (Or.inl rfl) ?_
  refine js_iload dX12_ends_11 ?_
  refine js_iload_n dX12_ends_13 ?_
  refine js_iast dX12_ends_14 ?_
  refine js_aload_n dX12_ends_15 ?_
  refine js_get dX12_ends_16 jf_15_11 tw_977 (Or.inl rfl) ?_
  refine js_iload dX12_ends_19 ?_
  refine js_iload_n dX12_ends_21 ?_
  refine js_iast dX12_ends_22 ?_
  refine js_aload_n dX12_ends_23 ?_
  refine js_get dX12_ends_24 jf_17_11 tw_979 (Or.inl rfl) ?_
  refine js_iload dX12_ends_27 ?_
  refine js_aload_n dX12_ends_29 ?_
  refine js_get dX12_ends_30 jf_2_11 tw_964 (Or.inl rfl) ?_
  refine js_iast dX12_ends_33 ?_
  refine js_aload_n dX12_ends_34 ?_
  refine js_get dX12_ends_35 jf_7_11 tw_969 (Or.inl rfl) ?_
  refine js_iload_n dX12_ends_38 ?_
  refine js_aload_n dX12_ends_39 ?_
  refine js_get dX12_ends_40 jf_2_11 tw_964 (Or.inl rfl) ?_
  refine js_iast dX12_ends_43 ?_
  exact js_vret dX12_ends_44 rfl
def fX12_ends (n : Nat) : jF := jm_run 4 5 (kX12_ends n)
theorem sX12_ends (l : Launch) (n : Nat) : jr_F l (⟨"MeetingKitModel", "ends", "(III)V"⟩ : MethodName) cX12_ends 5 (Option.none : Option Jvm.ClassFile.FieldType) 1 21 (fX12_ends n) := js_met (by decide +kernel) (by decide) (tX12_ends l n)
theorem dX12_passes_0 : decode cX12_passes 0 = .ok (.aload_n 0, 1) := by decide +kernel
theorem dX12_passes_1 : decode cX12_passes 1 = .ok (.getfield 31, 3) := by decide +kernel
theorem dX12_passes_4 : decode cX12_passes 4 = .ok (.aload_n 0, 1) := by decide +kernel
theorem dX12_passes_5 : decode cX12_passes 5 = .ok (.iload_n 1, 1) := by decide +kernel
theorem dX12_passes_6 : decode cX12_passes 6 = .ok (.invokevirtual 146, 3) := by decide +kernel
theorem dX12_passes_9 : decode cX12_passes 9 = .ok (.iaload, 1) := by decide +kernel
theorem dX12_passes_10 : decode cX12_passes 10 = .ok (.istore_n 3, 1) := by decide +kernel
theorem dX12_passes_11 : decode cX12_passes 11 = .ok (.aload_n 0, 1) := by decide +kernel
theorem dX12_passes_12 : decode cX12_passes 12 = .ok (.iload_n 1, 1) := by decide +kernel
theorem dX12_passes_13 : decode cX12_passes 13 = .ok (.iconst 0, 1) := by decide +kernel
theorem dX12_passes_14 : decode cX12_passes 14 = .ok (.iload_n 2, 1) := by decide +kernel
theorem dX12_passes_15 : decode cX12_passes 15 = .ok (.invokevirtual 149, 3) := by decide +kernel
theorem dX12_passes_18 : decode cX12_passes 18 = .ok (.aload_n 0, 1) := by decide +kernel
theorem dX12_passes_19 : decode cX12_passes 19 = .ok (.getfield 104, 3) := by decide +kernel
theorem dX12_passes_22 : decode cX12_passes 22 = .ok (.iload_n 3, 1) := by decide +kernel
theorem dX12_passes_23 : decode cX12_passes 23 = .ok (.iaload, 1) := by decide +kernel
theorem dX12_passes_24 : decode cX12_passes 24 = .ok (.sipush 300, 3) := by decide +kernel
theorem dX12_passes_27 : decode cX12_passes 27 = .ok (.if_icmp .ne 4, 3) := by decide +kernel
theorem dX12_passes_30 : decode cX12_passes 30 = .ok (.return_, 1) := by decide +kernel
theorem dX12_passes_31 : decode cX12_passes 31 = .ok (.aload_n 0, 1) := by decide +kernel
theorem dX12_passes_32 : decode cX12_passes 32 = .ok (.getfield 100, 3) := by decide +kernel
theorem dX12_passes_35 : decode cX12_passes 35 = .ok (.sipush 300, 3) := by decide +kernel
theorem dX12_passes_38 : decode cX12_passes 38 = .ok (.iload_n 3, 1) := by decide +kernel
theorem dX12_passes_39 : decode cX12_passes 39 = .ok (.imul, 1) := by decide +kernel
theorem dX12_passes_40 : decode cX12_passes 40 = .ok (.aload_n 0, 1) := by decide +kernel
theorem dX12_passes_41 : decode cX12_passes 41 = .ok (.getfield 104, 3) := by decide +kernel
theorem dX12_passes_44 : decode cX12_passes 44 = .ok (.iload_n 3, 1) := by decide +kernel
theorem dX12_passes_45 : decode cX12_passes 45 = .ok (.iaload, 1) := by decide +kernel
theorem dX12_passes_46 : decode cX12_passes 46 = .ok (.iadd, 1) := by decide +kernel
theorem dX12_passes_47 : decode cX12_passes 47 = .ok (.iload_n 1, 1) := by decide +kernel
theorem dX12_passes_48 : decode cX12_passes 48 = .ok (.i2b, 1) := by decide +kernel
theorem dX12_passes_49 : decode cX12_passes 49 = .ok (.bastore, 1) := by decide +kernel
theorem dX12_passes_50 : decode cX12_passes 50 = .ok (.aload_n 0, 1) := by decide +kernel
theorem dX12_passes_51 : decode cX12_passes 51 = .ok (.getfield 104, 3) := by decide +kernel
theorem dX12_passes_54 : decode cX12_passes 54 = .ok (.iload_n 3, 1) := by decide +kernel
theorem dX12_passes_55 : decode cX12_passes 55 = .ok (.dup2, 1) := by decide +kernel
theorem dX12_passes_56 : decode cX12_passes 56 = .ok (.iaload, 1) := by decide +kernel
theorem dX12_passes_57 : decode cX12_passes 57 = .ok (.iconst 1, 1) := by decide +kernel
theorem dX12_passes_58 : decode cX12_passes 58 = .ok (.iadd, 1) := by decide +kernel
theorem dX12_passes_59 : decode cX12_passes 59 = .ok (.iastore, 1) := by decide +kernel
theorem dX12_passes_60 : decode cX12_passes 60 = .ok (.return_, 1) := by decide +kernel
def kX12_passes (n : Nat) : jK := jk_aload 0 <| jk_get [11] 10 <| jk_aload 0 <| jk_iload 1 <| jk_vcall [(11, fX12_stepOf n)] 1 <| jk_iald <| jk_istore 3 <| jk_aload 0 <| jk_iload 1 <| jk_int 0 <| jk_iload 2 <| jk_vcall [(11, fX12_ends n)] 3 <| jk_aload 0 <| jk_get [11] 34 <| jk_iload 3 <| jk_iald <| jk_int 300 <| jk_icmpne (jk_aload 0 <| jk_get [11] 33 <| jk_int 300 <| jk_iload 3 <| jk_imul <| jk_aload 0 <| jk_get [11] 34 <| jk_iload 3 <| jk_iald <| jk_iadd <| jk_iload 1 <| jk_i2b <| jk_bast <| jk_aload 0 <| jk_get [11] 34 <| jk_iload 3 <| jk_dup2 <| jk_iald <| jk_int 1 <| jk_iadd <| jk_iast <| jk_vret) <| jk_vret
set_option maxRecDepth 100000 in
set_option maxHeartbeats 4000000 in
theorem tX12_passes (l : Launch) (n : Nat) : jr_D l cX12_passes 4 "MeetingKitModel" (Option.none : Option Jvm.ClassFile.FieldType) "passes" 2 45 (kX12_passes n) 0 := by
  unfold kX12_passes
  refine js_aload_n dX12_passes_0 ?_
  refine js_get dX12_passes_1 jf_10_11 tw_972 (Or.inl rfl) ?_
  refine js_aload_n dX12_passes_4 ?_
  refine js_iload_n dX12_passes_5 ?_
  refine js_callv dX12_passes_6 (⟨⟨_, _, _, _, _, _, _, ⟨rfl, (show (11 : Nat) < 20 by decide), sX12_stepOf l n, by decide, by decide, tw_1128, tw_103, tw_1127⟩, Or.inl ⟨by decide +kernel, by decide +kernel, by decide +kernel, tw_1125, tw_63⟩⟩, trivial⟩) ?_
  refine js_iald dX12_passes_9 ?_
  refine js_istore_n dX12_passes_10 (by decide) ?_
  refine js_aload_n dX12_passes_11 ?_
  refine js_iload_n dX12_passes_12 ?_
  refine js_iconst dX12_passes_13 ?_
  refine js_iload_n dX12_passes_14 ?_
  refine js_callv dX12_passes_15 (⟨⟨_, _, _, _, _, _, _, ⟨rfl, (show (11 : Nat) < 20 by decide), sX12_ends l n, by decide, by decide, tw_1148, tw_103, tw_1147⟩, Or.inl ⟨by decide +kernel, by decide +kernel, by decide +kernel, tw_1145, tw_68⟩⟩, trivial⟩) ?_
  refine js_aload_n dX12_passes_18 ?_
  refine js_get dX12_passes_19 jf_34_11 tw_996 (Or.inl rfl) ?_
  refine js_iload_n dX12_passes_22 ?_
  refine js_iald dX12_passes_23 ?_
  refine js_sipush dX12_passes_24 ?_
  refine js_icmpne (tgt := 31) dX12_passes_27 (by decide) ?_ ?_
  · refine js_aload_n dX12_passes_31 ?_
    refine js_get dX12_passes_32 jf_33_11 tw_995 (Or.inl rfl) ?_
    refine js_sipush dX12_passes_35 ?_
    refine js_iload_n dX12_passes_38 ?_
    refine js_imul dX12_passes_39 ?_
    refine js_aload_n dX12_passes_40 ?_
    refine js_get dX12_passes_41 jf_34_11 tw_996 (Or.inl rfl) ?_
    refine js_iload_n dX12_passes_44 ?_
    refine js_iald dX12_passes_45 ?_
    refine js_iadd dX12_passes_46 ?_
    refine js_iload_n dX12_passes_47 ?_
    refine js_i2b dX12_passes_48 ?_
    refine js_bast dX12_passes_49 ?_
    refine js_aload_n dX12_passes_50 ?_
    refine js_get dX12_passes_51 jf_34_11 tw_996 (Or.inl rfl) ?_
    refine js_iload_n dX12_passes_54 ?_
    refine js_dup2 dX12_passes_55 ?_
    refine js_iald dX12_passes_56 ?_
    refine js_iconst dX12_passes_57 ?_
    refine js_iadd dX12_passes_58 ?_
    refine js_iast dX12_passes_59 ?_
    exact js_vret dX12_passes_60 rfl
  · exact js_vret dX12_passes_30 rfl
def fX12_passes (n : Nat) : jF := jm_run 3 4 (kX12_passes n)
theorem sX12_passes (l : Launch) (n : Nat) : jr_F l (⟨"MeetingKitModel", "passes", "(II)V"⟩ : MethodName) cX12_passes 4 (Option.none : Option Jvm.ClassFile.FieldType) 2 45 (fX12_passes n) := js_met (by decide +kernel) (by decide) (tX12_passes l n)
theorem dX12_inLine_0 : decode cX12_inLine 0 = .ok (.aload_n 0, 1) := by decide +kernel
theorem dX12_inLine_1 : decode cX12_inLine 1 = .ok (.getfield 67, 3) := by decide +kernel
theorem dX12_inLine_4 : decode cX12_inLine 4 = .ok (.bipush 16, 2) := by decide +kernel
theorem dX12_inLine_6 : decode cX12_inLine 6 = .ok (.iload_n 1, 1) := by decide +kernel
theorem dX12_inLine_7 : decode cX12_inLine 7 = .ok (.imul, 1) := by decide +kernel
theorem dX12_inLine_8 : decode cX12_inLine 8 = .ok (.iload_n 2, 1) := by decide +kernel
theorem dX12_inLine_9 : decode cX12_inLine 9 = .ok (.iadd, 1) := by decide +kernel
theorem dX12_inLine_10 : decode cX12_inLine 10 = .ok (.iaload, 1) := by decide +kernel
theorem dX12_inLine_11 : decode cX12_inLine 11 = .ok (.ireturn, 1) := by decide +kernel
def kX12_inLine (n : Nat) : jK := jk_aload 0 <| jk_get [11] 22 <| jk_int 16 <| jk_iload 1 <| jk_imul <| jk_iload 2 <| jk_iadd <| jk_iald <| jk_iret
set_option maxRecDepth 100000 in
set_option maxHeartbeats 4000000 in
theorem tX12_inLine (l : Launch) (n : Nat) : jr_D l cX12_inLine 3 "MeetingKitModel" (Option.some Jvm.ClassFile.FieldType.int) "inLine" 0 0 (kX12_inLine n) 0 := by
  unfold kX12_inLine
  refine js_aload_n dX12_inLine_0 ?_
  refine js_get dX12_inLine_1 jf_22_11 tw_984 (Or.inl rfl) ?_
  refine js_bipush dX12_inLine_4 ?_
  refine js_iload_n dX12_inLine_6 ?_
  refine js_imul dX12_inLine_7 ?_
  refine js_iload_n dX12_inLine_8 ?_
  refine js_iadd dX12_inLine_9 ?_
  refine js_iald dX12_inLine_10 ?_
  exact js_iret dX12_inLine_11 rfl
def fX12_inLine (n : Nat) : jF := jm_run 3 3 (kX12_inLine n)
theorem sX12_inLine (l : Launch) (n : Nat) : jr_F l (⟨"MeetingKitModel", "inLine", "(II)I"⟩ : MethodName) cX12_inLine 3 (Option.some Jvm.ClassFile.FieldType.int) 0 0 (fX12_inLine n) := js_met (by decide +kernel) (by decide) (tX12_inLine l n)
theorem dX12_leavesLine_0 : decode cX12_leavesLine 0 = .ok (.aload_n 0, 1) := by decide +kernel
theorem dX12_leavesLine_1 : decode cX12_leavesLine 1 = .ok (.getfield 16, 3) := by decide +kernel
theorem dX12_leavesLine_4 : decode cX12_leavesLine 4 = .ok (.iload_n 1, 1) := by decide +kernel
theorem dX12_leavesLine_5 : decode cX12_leavesLine 5 = .ok (.iaload, 1) := by decide +kernel
theorem dX12_leavesLine_6 : decode cX12_leavesLine 6 = .ok (.istore_n 2, 1) := by decide +kernel
theorem dX12_leavesLine_7 : decode cX12_leavesLine 7 = .ok (.iconst 0, 1) := by decide +kernel
theorem dX12_leavesLine_8 : decode cX12_leavesLine 8 = .ok (.istore_n 3, 1) := by decide +kernel
theorem dX12_leavesLine_9 : decode cX12_leavesLine 9 = .ok (.aload_n 0, 1) := by decide +kernel
theorem dX12_leavesLine_10 : decode cX12_leavesLine 10 = .ok (.iload_n 2, 1) := by decide +kernel
theorem dX12_leavesLine_11 : decode cX12_leavesLine 11 = .ok (.iload_n 3, 1) := by decide +kernel
theorem dX12_leavesLine_12 : decode cX12_leavesLine 12 = .ok (.invokevirtual 157, 3) := by decide +kernel
theorem dX12_leavesLine_15 : decode cX12_leavesLine 15 = .ok (.iload_n 1, 1) := by decide +kernel
theorem dX12_leavesLine_16 : decode cX12_leavesLine 16 = .ok (.if_icmp .eq 9, 3) := by decide +kernel
theorem dX12_leavesLine_19 : decode cX12_leavesLine 19 = .ok (.iinc 3 1, 3) := by decide +kernel
theorem dX12_leavesLine_22 : decode cX12_leavesLine 22 = .ok (.goto (-13), 3) := by decide +kernel
theorem dX12_leavesLine_25 : decode cX12_leavesLine 25 = .ok (.aload_n 0, 1) := by decide +kernel
theorem dX12_leavesLine_26 : decode cX12_leavesLine 26 = .ok (.getfield 70, 3) := by decide +kernel
theorem dX12_leavesLine_29 : decode cX12_leavesLine 29 = .ok (.iload_n 2, 1) := by decide +kernel
theorem dX12_leavesLine_30 : decode cX12_leavesLine 30 = .ok (.dup2, 1) := by decide +kernel
theorem dX12_leavesLine_31 : decode cX12_leavesLine 31 = .ok (.iaload, 1) := by decide +kernel
theorem dX12_leavesLine_32 : decode cX12_leavesLine 32 = .ok (.iconst 1, 1) := by decide +kernel
theorem dX12_leavesLine_33 : decode cX12_leavesLine 33 = .ok (.isub, 1) := by decide +kernel
theorem dX12_leavesLine_34 : decode cX12_leavesLine 34 = .ok (.iastore, 1) := by decide +kernel
theorem dX12_leavesLine_35 : decode cX12_leavesLine 35 = .ok (.iload_n 3, 1) := by decide +kernel
theorem dX12_leavesLine_36 : decode cX12_leavesLine 36 = .ok (.aload_n 0, 1) := by decide +kernel
theorem dX12_leavesLine_37 : decode cX12_leavesLine 37 = .ok (.getfield 70, 3) := by decide +kernel
theorem dX12_leavesLine_40 : decode cX12_leavesLine 40 = .ok (.iload_n 2, 1) := by decide +kernel
theorem dX12_leavesLine_41 : decode cX12_leavesLine 41 = .ok (.iaload, 1) := by decide +kernel
theorem dX12_leavesLine_42 : decode cX12_leavesLine 42 = .ok (.if_icmp .ge 33, 3) := by decide +kernel
theorem dX12_leavesLine_45 : decode cX12_leavesLine 45 = .ok (.aload_n 0, 1) := by decide +kernel
theorem dX12_leavesLine_46 : decode cX12_leavesLine 46 = .ok (.getfield 67, 3) := by decide +kernel
theorem dX12_leavesLine_49 : decode cX12_leavesLine 49 = .ok (.bipush 16, 2) := by decide +kernel
theorem dX12_leavesLine_51 : decode cX12_leavesLine 51 = .ok (.iload_n 2, 1) := by decide +kernel
theorem dX12_leavesLine_52 : decode cX12_leavesLine 52 = .ok (.imul, 1) := by decide +kernel
theorem dX12_leavesLine_53 : decode cX12_leavesLine 53 = .ok (.iload_n 3, 1) := by decide +kernel
theorem dX12_leavesLine_54 : decode cX12_leavesLine 54 = .ok (.iadd, 1) := by decide +kernel
theorem dX12_leavesLine_55 : decode cX12_leavesLine 55 = .ok (.aload_n 0, 1) := by decide +kernel
theorem dX12_leavesLine_56 : decode cX12_leavesLine 56 = .ok (.getfield 67, 3) := by decide +kernel
theorem dX12_leavesLine_59 : decode cX12_leavesLine 59 = .ok (.bipush 16, 2) := by decide +kernel
theorem dX12_leavesLine_61 : decode cX12_leavesLine 61 = .ok (.iload_n 2, 1) := by decide +kernel
theorem dX12_leavesLine_62 : decode cX12_leavesLine 62 = .ok (.imul, 1) := by decide +kernel
theorem dX12_leavesLine_63 : decode cX12_leavesLine 63 = .ok (.iload_n 3, 1) := by decide +kernel
theorem dX12_leavesLine_64 : decode cX12_leavesLine 64 = .ok (.iadd, 1) := by decide +kernel
theorem dX12_leavesLine_65 : decode cX12_leavesLine 65 = .ok (.iconst 1, 1) := by decide +kernel
theorem dX12_leavesLine_66 : decode cX12_leavesLine 66 = .ok (.iadd, 1) := by decide +kernel
theorem dX12_leavesLine_67 : decode cX12_leavesLine 67 = .ok (.iaload, 1) := by decide +kernel
theorem dX12_leavesLine_68 : decode cX12_leavesLine 68 = .ok (.iastore, 1) := by decide +kernel
theorem dX12_leavesLine_69 : decode cX12_leavesLine 69 = .ok (.iinc 3 1, 3) := by decide +kernel
theorem dX12_leavesLine_72 : decode cX12_leavesLine 72 = .ok (.goto (-37), 3) := by decide +kernel
theorem dX12_leavesLine_75 : decode cX12_leavesLine 75 = .ok (.aload_n 0, 1) := by decide +kernel
theorem dX12_leavesLine_76 : decode cX12_leavesLine 76 = .ok (.getfield 16, 3) := by decide +kernel
theorem dX12_leavesLine_79 : decode cX12_leavesLine 79 = .ok (.iload_n 1, 1) := by decide +kernel
theorem dX12_leavesLine_80 : decode cX12_leavesLine 80 = .ok (.iconst (-1), 1) := by decide +kernel
theorem dX12_leavesLine_81 : decode cX12_leavesLine 81 = .ok (.iastore, 1) := by decide +kernel
theorem dX12_leavesLine_82 : decode cX12_leavesLine 82 = .ok (.aload_n 0, 1) := by decide +kernel
theorem dX12_leavesLine_83 : decode cX12_leavesLine 83 = .ok (.getfield 85, 3) := by decide +kernel
theorem dX12_leavesLine_86 : decode cX12_leavesLine 86 = .ok (.iload_n 2, 1) := by decide +kernel
theorem dX12_leavesLine_87 : decode cX12_leavesLine 87 = .ok (.iaload, 1) := by decide +kernel
theorem dX12_leavesLine_88 : decode cX12_leavesLine 88 = .ok (.iload_n 1, 1) := by decide +kernel
theorem dX12_leavesLine_89 : decode cX12_leavesLine 89 = .ok (.if_icmp .ne 10, 3) := by decide +kernel
theorem dX12_leavesLine_92 : decode cX12_leavesLine 92 = .ok (.aload_n 0, 1) := by decide +kernel
theorem dX12_leavesLine_93 : decode cX12_leavesLine 93 = .ok (.getfield 85, 3) := by decide +kernel
theorem dX12_leavesLine_96 : decode cX12_leavesLine 96 = .ok (.iload_n 2, 1) := by decide +kernel
theorem dX12_leavesLine_97 : decode cX12_leavesLine 97 = .ok (.iconst (-1), 1) := by decide +kernel
theorem dX12_leavesLine_98 : decode cX12_leavesLine 98 = .ok (.iastore, 1) := by decide +kernel
theorem dX12_leavesLine_99 : decode cX12_leavesLine 99 = .ok (.return_, 1) := by decide +kernel
def kX12_leavesLine_0 (n : Nat) (K : Nat → jK) : jK := jk_aload 0 <| jk_get [11] 5 <| jk_iload 1 <| jk_iald <| jk_istore 2 <| jk_int 0 <| jk_istore 3 <| K 9
set_option maxRecDepth 100000 in
set_option maxHeartbeats 4000000 in
theorem tX12_leavesLine_0 (l : Launch) (n : Nat) {K : Nat → jK} (hK : ∀ b, jr_D l cX12_leavesLine 4 "MeetingKitModel" (Option.none : Option Jvm.ClassFile.FieldType) "leavesLine" 1 22 (K b) b) : jr_D l cX12_leavesLine 4 "MeetingKitModel" (Option.none : Option Jvm.ClassFile.FieldType) "leavesLine" 1 22 (kX12_leavesLine_0 n K) 0 := by
  unfold kX12_leavesLine_0
  refine js_aload_n dX12_leavesLine_0 ?_
  refine js_get dX12_leavesLine_1 jf_5_11 tw_967 (Or.inl rfl) ?_
  refine js_iload_n dX12_leavesLine_4 ?_
  refine js_iald dX12_leavesLine_5 ?_
  refine js_istore_n dX12_leavesLine_6 (by decide) ?_
  refine js_iconst dX12_leavesLine_7 ?_
  refine js_istore_n dX12_leavesLine_8 (by decide) ?_
  exact hK 9
def kX12_leavesLine_9 (n : Nat) (K : Nat → jK) : jK := jk_aload 0 <| jk_iload 2 <| jk_iload 3 <| jk_vcall [(11, fX12_inLine n)] 2 <| jk_iload 1 <| jk_icmpeq (jk_aload 0 <| jk_get [11] 23 <| jk_iload 2 <| jk_dup2 <| jk_iald <| jk_int 1 <| jk_isub <| jk_iast <| K 35) <| jk_iinc 3 1 <| K 9
set_option maxRecDepth 100000 in
set_option maxHeartbeats 4000000 in
theorem tX12_leavesLine_9 (l : Launch) (n : Nat) {K : Nat → jK} (hK : ∀ b, jr_D l cX12_leavesLine 4 "MeetingKitModel" (Option.none : Option Jvm.ClassFile.FieldType) "leavesLine" 1 22 (K b) b) : jr_D l cX12_leavesLine 4 "MeetingKitModel" (Option.none : Option Jvm.ClassFile.FieldType) "leavesLine" 1 22 (kX12_leavesLine_9 n K) 9 := by
  unfold kX12_leavesLine_9
  refine js_aload_n dX12_leavesLine_9 ?_
  refine js_iload_n dX12_leavesLine_10 ?_
  refine js_iload_n dX12_leavesLine_11 ?_
  refine js_callv dX12_leavesLine_12 (⟨⟨_, _, _, _, _, _, _, ⟨rfl, (show (11 : Nat) < 20 by decide), sX12_inLine l n, by decide, by decide, tw_1144, tw_103, tw_1143⟩, Or.inl ⟨by decide +kernel, by decide +kernel, by decide +kernel, tw_1141, tw_67⟩⟩, trivial⟩) ?_
  refine js_iload_n dX12_leavesLine_15 ?_
  refine js_icmpeq (tgt := 25) dX12_leavesLine_16 (by decide) ?_ ?_
  · refine js_aload_n dX12_leavesLine_25 ?_
    refine js_get dX12_leavesLine_26 jf_23_11 tw_985 (Or.inl rfl) ?_
    refine js_iload_n dX12_leavesLine_29 ?_
    refine js_dup2 dX12_leavesLine_30 ?_
    refine js_iald dX12_leavesLine_31 ?_
    refine js_iconst dX12_leavesLine_32 ?_
    refine js_isub dX12_leavesLine_33 ?_
    refine js_iast dX12_leavesLine_34 ?_
    exact hK 35
  · refine js_iinc dX12_leavesLine_19 (by decide) ?_
    refine js_goto (tgt := 9) dX12_leavesLine_22 (by decide) ?_
    exact hK 9
def kX12_leavesLine_35 (n : Nat) (K : Nat → jK) : jK := jk_iload 3 <| jk_aload 0 <| jk_get [11] 23 <| jk_iload 2 <| jk_iald <| jk_icmpge (jk_aload 0 <| jk_get [11] 5 <| jk_iload 1 <| jk_int (-1) <| jk_iast <| jk_aload 0 <| jk_get [11] 28 <| jk_iload 2 <| jk_iald <| jk_iload 1 <| jk_icmpne (K 99) <| jk_aload 0 <| jk_get [11] 28 <| jk_iload 2 <| jk_int (-1) <| jk_iast <| K 99) <| jk_aload 0 <| jk_get [11] 22 <| jk_int 16 <| jk_iload 2 <| jk_imul <| jk_iload 3 <| jk_iadd <| jk_aload 0 <| jk_get [11] 22 <| jk_int 16 <| jk_iload 2 <| jk_imul <| jk_iload 3 <| jk_iadd <| jk_int 1 <| jk_iadd <| jk_iald <| jk_iast <| jk_iinc 3 1 <| K 35
set_option maxRecDepth 100000 in
set_option maxHeartbeats 4000000 in
theorem tX12_leavesLine_35 (l : Launch) (n : Nat) {K : Nat → jK} (hK : ∀ b, jr_D l cX12_leavesLine 4 "MeetingKitModel" (Option.none : Option Jvm.ClassFile.FieldType) "leavesLine" 1 22 (K b) b) : jr_D l cX12_leavesLine 4 "MeetingKitModel" (Option.none : Option Jvm.ClassFile.FieldType) "leavesLine" 1 22 (kX12_leavesLine_35 n K) 35 := by
  unfold kX12_leavesLine_35
  refine js_iload_n dX12_leavesLine_35 ?_
  refine js_aload_n dX12_leavesLine_36 ?_
  refine js_get dX12_leavesLine_37 jf_23_11 tw_985 (Or.inl rfl) ?_
  refine js_iload_n dX12_leavesLine_40 ?_
  refine js_iald dX12_leavesLine_41 ?_
  refine js_icmpge (tgt := 75) dX12_leavesLine_42 (by decide) ?_ ?_
  · refine js_aload_n dX12_leavesLine_75 ?_
    refine js_get dX12_leavesLine_76 jf_5_11 tw_967 (Or.inl rfl) ?_
    refine js_iload_n dX12_leavesLine_79 ?_
    refine js_iconst dX12_leavesLine_80 ?_
    refine js_iast dX12_leavesLine_81 ?_
    refine js_aload_n dX12_leavesLine_82 ?_
    refine js_get dX12_leavesLine_83 jf_28_11 tw_990 (Or.inl rfl) ?_
    refine js_iload_n dX12_leavesLine_86 ?_
    refine js_iald dX12_leavesLine_87 ?_
    refine js_iload_n dX12_leavesLine_88 ?_
    refine js_icmpne (tgt := 99) dX12_leavesLine_89 (by decide) ?_ ?_
    · exact hK 99
    · refine js_aload_n dX12_leavesLine_92 ?_
      refine js_get dX12_leavesLine_93 jf_28_11 tw_990 (Or.inl rfl) ?_
      refine js_iload_n dX12_leavesLine_96 ?_
      refine js_iconst dX12_leavesLine_97 ?_
      refine js_iast dX12_leavesLine_98 ?_
      exact hK 99
  · refine js_aload_n dX12_leavesLine_45 ?_
    refine js_get dX12_leavesLine_46 jf_22_11 tw_984 (Or.inl rfl) ?_
    refine js_bipush dX12_leavesLine_49 ?_
    refine js_iload_n dX12_leavesLine_51 ?_
    refine js_imul dX12_leavesLine_52 ?_
    refine js_iload_n dX12_leavesLine_53 ?_
    refine js_iadd dX12_leavesLine_54 ?_
    refine js_aload_n dX12_leavesLine_55 ?_
    refine js_get dX12_leavesLine_56 jf_22_11 tw_984 (Or.inl rfl) ?_
    refine js_bipush dX12_leavesLine_59 ?_
    refine js_iload_n dX12_leavesLine_61 ?_
    refine js_imul dX12_leavesLine_62 ?_
    refine js_iload_n dX12_leavesLine_63 ?_
    refine js_iadd dX12_leavesLine_64 ?_
    refine js_iconst dX12_leavesLine_65 ?_
    refine js_iadd dX12_leavesLine_66 ?_
    refine js_iald dX12_leavesLine_67 ?_
    refine js_iast dX12_leavesLine_68 ?_
    refine js_iinc dX12_leavesLine_69 (by decide) ?_
    refine js_goto (tgt := 35) dX12_leavesLine_72 (by decide) ?_
    exact hK 35
def kX12_leavesLine_99 (n : Nat) (K : Nat → jK) : jK := jk_kill 0 <| jk_kill 1 <| jk_kill 2 <| jk_kill 3 <| jk_vret
set_option maxRecDepth 100000 in
set_option maxHeartbeats 4000000 in
theorem tX12_leavesLine_99 (l : Launch) (n : Nat) {K : Nat → jK} (hK : ∀ b, jr_D l cX12_leavesLine 4 "MeetingKitModel" (Option.none : Option Jvm.ClassFile.FieldType) "leavesLine" 1 22 (K b) b) : jr_D l cX12_leavesLine 4 "MeetingKitModel" (Option.none : Option Jvm.ClassFile.FieldType) "leavesLine" 1 22 (kX12_leavesLine_99 n K) 99 := by
  unfold kX12_leavesLine_99
  refine js_kill ?_
  refine js_kill ?_
  refine js_kill ?_
  refine js_kill ?_
  exact js_vret dX12_leavesLine_99 rfl
def kX12_leavesLine_b (n : Nat) (K : Nat → jK) (b : Nat) : jK := if b = 0 then kX12_leavesLine_0 n K else if b = 9 then kX12_leavesLine_9 n K else if b = 35 then kX12_leavesLine_35 n K else if b = 99 then kX12_leavesLine_99 n K else jk_none
def kX12_leavesLine (n : Nat) : jK := jk_fix (kX12_leavesLine_b n) n 0
theorem tX12_leavesLine (l : Launch) (n : Nat) : jr_D l cX12_leavesLine 4 "MeetingKitModel" (Option.none : Option Jvm.ClassFile.FieldType) "leavesLine" 1 22 (kX12_leavesLine n) 0 := js_fix (F := kX12_leavesLine_b n) (fun K hK b => js_blk (tX12_leavesLine_0 l n hK) (js_blk (tX12_leavesLine_9 l n hK) (js_blk (tX12_leavesLine_35 l n hK) (js_blk (tX12_leavesLine_99 l n hK) (js_none))))) n 0
def fX12_leavesLine (n : Nat) : jF := jm_run 2 4 (kX12_leavesLine n)
theorem sX12_leavesLine (l : Launch) (n : Nat) : jr_F l (⟨"MeetingKitModel", "leavesLine", "(I)V"⟩ : MethodName) cX12_leavesLine 4 (Option.none : Option Jvm.ClassFile.FieldType) 1 22 (fX12_leavesLine n) := js_met (by decide +kernel) (by decide) (tX12_leavesLine l n)
theorem dX12_allEnd_0 : decode cX12_allEnd 0 = .ok (.aload_n 0, 1) := by decide +kernel
theorem dX12_allEnd_1 : decode cX12_allEnd 1 = .ok (.getfield 70, 3) := by decide +kernel
theorem dX12_allEnd_4 : decode cX12_allEnd 4 = .ok (.iload_n 1, 1) := by decide +kernel
theorem dX12_allEnd_5 : decode cX12_allEnd 5 = .ok (.iaload, 1) := by decide +kernel
theorem dX12_allEnd_6 : decode cX12_allEnd 6 = .ok (.ifCond .le 25, 3) := by decide +kernel
theorem dX12_allEnd_9 : decode cX12_allEnd 9 = .ok (.aload_n 0, 1) := by decide +kernel
theorem dX12_allEnd_10 : decode cX12_allEnd 10 = .ok (.iload_n 1, 1) := by decide +kernel
theorem dX12_allEnd_11 : decode cX12_allEnd 11 = .ok (.iconst 0, 1) := by decide +kernel
theorem dX12_allEnd_12 : decode cX12_allEnd 12 = .ok (.invokevirtual 157, 3) := by decide +kernel
theorem dX12_allEnd_15 : decode cX12_allEnd 15 = .ok (.istore_n 3, 1) := by decide +kernel
theorem dX12_allEnd_16 : decode cX12_allEnd 16 = .ok (.aload_n 0, 1) := by decide +kernel
theorem dX12_allEnd_17 : decode cX12_allEnd 17 = .ok (.iload_n 3, 1) := by decide +kernel
theorem dX12_allEnd_18 : decode cX12_allEnd 18 = .ok (.invokevirtual 161, 3) := by decide +kernel
theorem dX12_allEnd_21 : decode cX12_allEnd 21 = .ok (.aload_n 0, 1) := by decide +kernel
theorem dX12_allEnd_22 : decode cX12_allEnd 22 = .ok (.iload_n 3, 1) := by decide +kernel
theorem dX12_allEnd_23 : decode cX12_allEnd 23 = .ok (.iload_n 2, 1) := by decide +kernel
theorem dX12_allEnd_24 : decode cX12_allEnd 24 = .ok (.iconst 0, 1) := by decide +kernel
theorem dX12_allEnd_25 : decode cX12_allEnd 25 = .ok (.invokevirtual 149, 3) := by decide +kernel
theorem dX12_allEnd_28 : decode cX12_allEnd 28 = .ok (.goto (-28), 3) := by decide +kernel
theorem dX12_allEnd_31 : decode cX12_allEnd 31 = .ok (.return_, 1) := by decide +kernel
def kX12_allEnd_0 (n : Nat) (K : Nat → jK) : jK := jk_kill 3 <| jk_aload 0 <| jk_get [11] 23 <| jk_iload 1 <| jk_iald <| jk_ifle (jk_vret) <| jk_aload 0 <| jk_iload 1 <| jk_int 0 <| jk_vcall [(11, fX12_inLine n)] 2 <| jk_istore 3 <| jk_aload 0 <| jk_iload 3 <| jk_vcall [(11, fX12_leavesLine n)] 1 <| jk_aload 0 <| jk_iload 3 <| jk_iload 2 <| jk_int 0 <| jk_vcall [(11, fX12_ends n)] 3 <| K 0
set_option maxRecDepth 100000 in
set_option maxHeartbeats 4000000 in
theorem tX12_allEnd_0 (l : Launch) (n : Nat) {K : Nat → jK} (hK : ∀ b, jr_D l cX12_allEnd 4 "MeetingKitModel" (Option.none : Option Jvm.ClassFile.FieldType) "allEnd" 2 45 (K b) b) : jr_D l cX12_allEnd 4 "MeetingKitModel" (Option.none : Option Jvm.ClassFile.FieldType) "allEnd" 2 45 (kX12_allEnd_0 n K) 0 := by
  unfold kX12_allEnd_0
  refine js_kill ?_
  refine js_aload_n dX12_allEnd_0 ?_
  refine js_get dX12_allEnd_1 jf_23_11 tw_985 (Or.inl rfl) ?_
  refine js_iload_n dX12_allEnd_4 ?_
  refine js_iald dX12_allEnd_5 ?_
  refine js_ifle (tgt := 31) dX12_allEnd_6 (by decide) ?_ ?_
  · exact js_vret dX12_allEnd_31 rfl
  · refine js_aload_n dX12_allEnd_9 ?_
    refine js_iload_n dX12_allEnd_10 ?_
    refine js_iconst dX12_allEnd_11 ?_
    refine js_callv dX12_allEnd_12 (⟨⟨_, _, _, _, _, _, _, ⟨rfl, (show (11 : Nat) < 20 by decide), sX12_inLine l n, by decide, by decide, tw_1144, tw_103, tw_1143⟩, Or.inl ⟨by decide +kernel, by decide +kernel, by decide +kernel, tw_1141, tw_67⟩⟩, trivial⟩) ?_
    refine js_istore_n dX12_allEnd_15 (by decide) ?_
    refine js_aload_n dX12_allEnd_16 ?_
    refine js_iload_n dX12_allEnd_17 ?_
    refine js_callv dX12_allEnd_18 (⟨⟨_, _, _, _, _, _, _, ⟨rfl, (show (11 : Nat) < 20 by decide), sX12_leavesLine l n, by decide, by decide, tw_1140, tw_103, tw_1139⟩, Or.inl ⟨by decide +kernel, by decide +kernel, by decide +kernel, tw_1137, tw_66⟩⟩, trivial⟩) ?_
    refine js_aload_n dX12_allEnd_21 ?_
    refine js_iload_n dX12_allEnd_22 ?_
    refine js_iload_n dX12_allEnd_23 ?_
    refine js_iconst dX12_allEnd_24 ?_
    refine js_callv dX12_allEnd_25 (⟨⟨_, _, _, _, _, _, _, ⟨rfl, (show (11 : Nat) < 20 by decide), sX12_ends l n, by decide, by decide, tw_1148, tw_103, tw_1147⟩, Or.inl ⟨by decide +kernel, by decide +kernel, by decide +kernel, tw_1145, tw_68⟩⟩, trivial⟩) ?_
    refine js_goto (tgt := 0) dX12_allEnd_28 (by decide) ?_
    exact hK 0
def kX12_allEnd_b (n : Nat) (K : Nat → jK) (b : Nat) : jK := if b = 0 then kX12_allEnd_0 n K else jk_none
def kX12_allEnd (n : Nat) : jK := jk_fix (kX12_allEnd_b n) n 0
theorem tX12_allEnd (l : Launch) (n : Nat) : jr_D l cX12_allEnd 4 "MeetingKitModel" (Option.none : Option Jvm.ClassFile.FieldType) "allEnd" 2 45 (kX12_allEnd n) 0 := js_fix (F := kX12_allEnd_b n) (fun K hK b => js_blk (tX12_allEnd_0 l n hK) (js_none)) n 0
def fX12_allEnd (n : Nat) : jF := jm_run 3 4 (kX12_allEnd n)
theorem sX12_allEnd (l : Launch) (n : Nat) : jr_F l (⟨"MeetingKitModel", "allEnd", "(II)V"⟩ : MethodName) cX12_allEnd 4 (Option.none : Option Jvm.ClassFile.FieldType) 2 45 (fX12_allEnd n) := js_met (by decide +kernel) (by decide) (tX12_allEnd l n)
theorem dX12_waits_0 : decode cX12_waits 0 = .ok (.aload_n 0, 1) := by decide +kernel
theorem dX12_waits_1 : decode cX12_waits 1 = .ok (.getfield 31, 3) := by decide +kernel
theorem dX12_waits_4 : decode cX12_waits 4 = .ok (.aload_n 0, 1) := by decide +kernel
theorem dX12_waits_5 : decode cX12_waits 5 = .ok (.iload_n 1, 1) := by decide +kernel
theorem dX12_waits_6 : decode cX12_waits 6 = .ok (.invokevirtual 146, 3) := by decide +kernel
theorem dX12_waits_9 : decode cX12_waits 9 = .ok (.iaload, 1) := by decide +kernel
theorem dX12_waits_10 : decode cX12_waits 10 = .ok (.istore_n 2, 1) := by decide +kernel
theorem dX12_waits_11 : decode cX12_waits 11 = .ok (.aload_n 0, 1) := by decide +kernel
theorem dX12_waits_12 : decode cX12_waits 12 = .ok (.getfield 19, 3) := by decide +kernel
theorem dX12_waits_15 : decode cX12_waits 15 = .ok (.iload_n 1, 1) := by decide +kernel
theorem dX12_waits_16 : decode cX12_waits 16 = .ok (.iaload, 1) := by decide +kernel
theorem dX12_waits_17 : decode cX12_waits 17 = .ok (.iconst 1, 1) := by decide +kernel
theorem dX12_waits_18 : decode cX12_waits 18 = .ok (.if_icmp .ne 42, 3) := by decide +kernel
theorem dX12_waits_21 : decode cX12_waits 21 = .ok (.aload_n 0, 1) := by decide +kernel
theorem dX12_waits_22 : decode cX12_waits 22 = .ok (.getfield 19, 3) := by decide +kernel
theorem dX12_waits_25 : decode cX12_waits 25 = .ok (.iload_n 1, 1) := by decide +kernel
theorem dX12_waits_26 : decode cX12_waits 26 = .ok (.iconst 0, 1) := by decide +kernel
theorem dX12_waits_27 : decode cX12_waits 27 = .ok (.iastore, 1) := by decide +kernel
theorem dX12_waits_28 : decode cX12_waits 28 = .ok (.aload_n 0, 1) := by decide +kernel
theorem dX12_waits_29 : decode cX12_waits 29 = .ok (.iload_n 1, 1) := by decide +kernel
theorem dX12_waits_30 : decode cX12_waits 30 = .ok (.iconst 2, 1) := by decide +kernel
theorem dX12_waits_31 : decode cX12_waits 31 = .ok (.iconst 0, 1) := by decide +kernel
theorem dX12_waits_32 : decode cX12_waits 32 = .ok (.invokevirtual 149, 3) := by decide +kernel
theorem dX12_waits_35 : decode cX12_waits 35 = .ok (.aload_n 0, 1) := by decide +kernel
theorem dX12_waits_36 : decode cX12_waits 36 = .ok (.getfield 55, 3) := by decide +kernel
theorem dX12_waits_39 : decode cX12_waits 39 = .ok (.iload_n 2, 1) := by decide +kernel
theorem dX12_waits_40 : decode cX12_waits 40 = .ok (.iaload, 1) := by decide +kernel
theorem dX12_waits_41 : decode cX12_waits 41 = .ok (.iconst 3, 1) := by decide +kernel
theorem dX12_waits_42 : decode cX12_waits 42 = .ok (.if_icmp .ne 16, 3) := by decide +kernel
theorem dX12_waits_45 : decode cX12_waits 45 = .ok (.aload_n 0, 1) := by decide +kernel
theorem dX12_waits_46 : decode cX12_waits 46 = .ok (.getfield 76, 3) := by decide +kernel
theorem dX12_waits_49 : decode cX12_waits 49 = .ok (.iload_n 2, 1) := by decide +kernel
theorem dX12_waits_50 : decode cX12_waits 50 = .ok (.iconst 1, 1) := by decide +kernel
theorem dX12_waits_51 : decode cX12_waits 51 = .ok (.iastore, 1) := by decide +kernel
theorem dX12_waits_52 : decode cX12_waits 52 = .ok (.aload_n 0, 1) := by decide +kernel
theorem dX12_waits_53 : decode cX12_waits 53 = .ok (.iload_n 2, 1) := by decide +kernel
theorem dX12_waits_54 : decode cX12_waits 54 = .ok (.iconst 5, 1) := by decide +kernel
theorem dX12_waits_55 : decode cX12_waits 55 = .ok (.invokevirtual 153, 3) := by decide +kernel
theorem dX12_waits_58 : decode cX12_waits 58 = .ok (.iconst 0, 1) := by decide +kernel
theorem dX12_waits_59 : decode cX12_waits 59 = .ok (.ireturn, 1) := by decide +kernel
theorem dX12_waits_60 : decode cX12_waits 60 = .ok (.aload_n 0, 1) := by decide +kernel
theorem dX12_waits_61 : decode cX12_waits 61 = .ok (.getfield 43, 3) := by decide +kernel
theorem dX12_waits_64 : decode cX12_waits 64 = .ok (.aload_n 0, 1) := by decide +kernel
theorem dX12_waits_65 : decode cX12_waits 65 = .ok (.iload_n 1, 1) := by decide +kernel
theorem dX12_waits_66 : decode cX12_waits 66 = .ok (.invokevirtual 146, 3) := by decide +kernel
theorem dX12_waits_69 : decode cX12_waits 69 = .ok (.iconst 1, 1) := by decide +kernel
theorem dX12_waits_70 : decode cX12_waits 70 = .ok (.iastore, 1) := by decide +kernel
theorem dX12_waits_71 : decode cX12_waits 71 = .ok (.aload_n 0, 1) := by decide +kernel
theorem dX12_waits_72 : decode cX12_waits 72 = .ok (.getfield 16, 3) := by decide +kernel
theorem dX12_waits_75 : decode cX12_waits 75 = .ok (.iload_n 1, 1) := by decide +kernel
theorem dX12_waits_76 : decode cX12_waits 76 = .ok (.iload_n 2, 1) := by decide +kernel
theorem dX12_waits_77 : decode cX12_waits 77 = .ok (.iastore, 1) := by decide +kernel
theorem dX12_waits_78 : decode cX12_waits 78 = .ok (.aload_n 0, 1) := by decide +kernel
theorem dX12_waits_79 : decode cX12_waits 79 = .ok (.getfield 67, 3) := by decide +kernel
theorem dX12_waits_82 : decode cX12_waits 82 = .ok (.bipush 16, 2) := by decide +kernel
theorem dX12_waits_84 : decode cX12_waits 84 = .ok (.iload_n 2, 1) := by decide +kernel
theorem dX12_waits_85 : decode cX12_waits 85 = .ok (.imul, 1) := by decide +kernel
theorem dX12_waits_86 : decode cX12_waits 86 = .ok (.aload_n 0, 1) := by decide +kernel
theorem dX12_waits_87 : decode cX12_waits 87 = .ok (.getfield 70, 3) := by decide +kernel
theorem dX12_waits_90 : decode cX12_waits 90 = .ok (.iload_n 2, 1) := by decide +kernel
theorem dX12_waits_91 : decode cX12_waits 91 = .ok (.iaload, 1) := by decide +kernel
theorem dX12_waits_92 : decode cX12_waits 92 = .ok (.iadd, 1) := by decide +kernel
theorem dX12_waits_93 : decode cX12_waits 93 = .ok (.iload_n 1, 1) := by decide +kernel
theorem dX12_waits_94 : decode cX12_waits 94 = .ok (.iastore, 1) := by decide +kernel
theorem dX12_waits_95 : decode cX12_waits 95 = .ok (.aload_n 0, 1) := by decide +kernel
theorem dX12_waits_96 : decode cX12_waits 96 = .ok (.getfield 70, 3) := by decide +kernel
theorem dX12_waits_99 : decode cX12_waits 99 = .ok (.iload_n 2, 1) := by decide +kernel
theorem dX12_waits_100 : decode cX12_waits 100 = .ok (.dup2, 1) := by decide +kernel
theorem dX12_waits_101 : decode cX12_waits 101 = .ok (.iaload, 1) := by decide +kernel
theorem dX12_waits_102 : decode cX12_waits 102 = .ok (.iconst 1, 1) := by decide +kernel
theorem dX12_waits_103 : decode cX12_waits 103 = .ok (.iadd, 1) := by decide +kernel
theorem dX12_waits_104 : decode cX12_waits 104 = .ok (.iastore, 1) := by decide +kernel
theorem dX12_waits_105 : decode cX12_waits 105 = .ok (.iconst 1, 1) := by decide +kernel
theorem dX12_waits_106 : decode cX12_waits 106 = .ok (.ireturn, 1) := by decide +kernel
def kX12_waits_0 (n : Nat) (K : Nat → jK) : jK := jk_aload 0 <| jk_get [11] 10 <| jk_aload 0 <| jk_iload 1 <| jk_vcall [(11, fX12_stepOf n)] 1 <| jk_iald <| jk_istore 2 <| jk_aload 0 <| jk_get [11] 6 <| jk_iload 1 <| jk_iald <| jk_int 1 <| jk_icmpne (jk_aload 0 <| jk_get [11] 14 <| jk_aload 0 <| jk_iload 1 <| jk_vcall [(11, fX12_stepOf n)] 1 <| jk_int 1 <| jk_iast <| jk_aload 0 <| jk_get [11] 5 <| jk_iload 1 <| jk_iload 2 <| jk_iast <| jk_aload 0 <| jk_get [11] 22 <| jk_int 16 <| jk_iload 2 <| jk_imul <| jk_aload 0 <| jk_get [11] 23 <| jk_iload 2 <| jk_iald <| jk_iadd <| jk_iload 1 <| jk_iast <| jk_aload 0 <| jk_get [11] 23 <| jk_iload 2 <| jk_dup2 <| jk_iald <| jk_int 1 <| jk_iadd <| jk_iast <| jk_int 1 <| jk_zret) <| jk_aload 0 <| jk_get [11] 6 <| jk_iload 1 <| jk_int 0 <| jk_iast <| jk_aload 0 <| jk_iload 1 <| jk_int 2 <| jk_int 0 <| jk_vcall [(11, fX12_ends n)] 3 <| jk_aload 0 <| jk_get [11] 18 <| jk_iload 2 <| jk_iald <| jk_int 3 <| jk_icmpne (K 58) <| jk_aload 0 <| jk_get [11] 25 <| jk_iload 2 <| jk_int 1 <| jk_iast <| jk_aload 0 <| jk_iload 2 <| jk_int 5 <| jk_vcall [(11, fX12_allEnd n)] 2 <| K 58
set_option maxRecDepth 100000 in
set_option maxHeartbeats 4000000 in
theorem tX12_waits_0 (l : Launch) (n : Nat) {K : Nat → jK} (hK : ∀ b, jr_D l cX12_waits 3 "MeetingKitModel" (Option.some Jvm.ClassFile.FieldType.boolean) "waits" 3 68 (K b) b) : jr_D l cX12_waits 3 "MeetingKitModel" (Option.some Jvm.ClassFile.FieldType.boolean) "waits" 3 68 (kX12_waits_0 n K) 0 := by
  unfold kX12_waits_0
  refine js_aload_n dX12_waits_0 ?_
  refine js_get dX12_waits_1 jf_10_11 tw_972 (Or.inl rfl) ?_
  refine js_aload_n dX12_waits_4 ?_
  refine js_iload_n dX12_waits_5 ?_
  refine js_callv dX12_waits_6 (⟨⟨_, _, _, _, _, _, _, ⟨rfl, (show (11 : Nat) < 20 by decide), sX12_stepOf l n, by decide, by decide, tw_1128, tw_103, tw_1127⟩, Or.inl ⟨by decide +kernel, by decide +kernel, by decide +kernel, tw_1125, tw_63⟩⟩, trivial⟩) ?_
  refine js_iald dX12_waits_9 ?_
  refine js_istore_n dX12_waits_10 (by decide) ?_
  refine js_aload_n dX12_waits_11 ?_
  refine js_get dX12_waits_12 jf_6_11 tw_968 (Or.inl rfl) ?_
  refine js_iload_n dX12_waits_15 ?_
  refine js_iald dX12_waits_16 ?_
  refine js_iconst dX12_waits_17 ?_
  refine js_icmpne (tgt := 60) dX12_waits_18 (by decide) ?_ ?_
  · refine js_aload_n dX12_waits_60 ?_
    refine js_get dX12_waits_61 jf_14_11 tw_976 (Or.inl rfl) ?_
    refine js_aload_n dX12_waits_64 ?_
    refine js_iload_n dX12_waits_65 ?_
    refine js_callv dX12_waits_66 (⟨⟨_, _, _, _, _, _, _, ⟨rfl, (show (11 : Nat) < 20 by decide), sX12_stepOf l n, by decide, by decide, tw_1128, tw_103, tw_1127⟩, Or.inl ⟨by decide +kernel, by decide +kernel, by decide +kernel, tw_1125, tw_63⟩⟩, trivial⟩) ?_
    refine js_iconst dX12_waits_69 ?_
    refine js_iast dX12_waits_70 ?_
    refine js_aload_n dX12_waits_71 ?_
    refine js_get dX12_waits_72 jf_5_11 tw_967 (Or.inl rfl) ?_
    refine js_iload_n dX12_waits_75 ?_
    refine js_iload_n dX12_waits_76 ?_
    refine js_iast dX12_waits_77 ?_
    refine js_aload_n dX12_waits_78 ?_
    refine js_get dX12_waits_79 jf_22_11 tw_984 (Or.inl rfl) ?_
    refine js_bipush dX12_waits_82 ?_
    refine js_iload_n dX12_waits_84 ?_
    refine js_imul dX12_waits_85 ?_
    refine js_aload_n dX12_waits_86 ?_
    refine js_get dX12_waits_87 jf_23_11 tw_985 (Or.inl rfl) ?_
    refine js_iload_n dX12_waits_90 ?_
    refine js_iald dX12_waits_91 ?_
    refine js_iadd dX12_waits_92 ?_
    refine js_iload_n dX12_waits_93 ?_
    refine js_iast dX12_waits_94 ?_
    refine js_aload_n dX12_waits_95 ?_
    refine js_get dX12_waits_96 jf_23_11 tw_985 (Or.inl rfl) ?_
    refine js_iload_n dX12_waits_99 ?_
    refine js_dup2 dX12_waits_100 ?_
    refine js_iald dX12_waits_101 ?_
    refine js_iconst dX12_waits_102 ?_
    refine js_iadd dX12_waits_103 ?_
    refine js_iast dX12_waits_104 ?_
    refine js_iconst dX12_waits_105 ?_
    exact js_zret dX12_waits_106 rfl
  · refine js_aload_n dX12_waits_21 ?_
    refine js_get dX12_waits_22 jf_6_11 tw_968 (Or.inl rfl) ?_
    refine js_iload_n dX12_waits_25 ?_
    refine js_iconst dX12_waits_26 ?_
    refine js_iast dX12_waits_27 ?_
    refine js_aload_n dX12_waits_28 ?_
    refine js_iload_n dX12_waits_29 ?_
    refine js_iconst dX12_waits_30 ?_
    refine js_iconst dX12_waits_31 ?_
    refine js_callv dX12_waits_32 (⟨⟨_, _, _, _, _, _, _, ⟨rfl, (show (11 : Nat) < 20 by decide), sX12_ends l n, by decide, by decide, tw_1148, tw_103, tw_1147⟩, Or.inl ⟨by decide +kernel, by decide +kernel, by decide +kernel, tw_1145, tw_68⟩⟩, trivial⟩) ?_
    refine js_aload_n dX12_waits_35 ?_
    refine js_get dX12_waits_36 jf_18_11 tw_980 (Or.inl rfl) ?_
    refine js_iload_n dX12_waits_39 ?_
    refine js_iald dX12_waits_40 ?_
    refine js_iconst dX12_waits_41 ?_
    refine js_icmpne (tgt := 58) dX12_waits_42 (by decide) ?_ ?_
    · exact hK 58
    · refine js_aload_n dX12_waits_45 ?_
      refine js_get dX12_waits_46 jf_25_11 tw_987 (Or.inl rfl) ?_
      refine js_iload_n dX12_waits_49 ?_
      refine js_iconst dX12_waits_50 ?_
      refine js_iast dX12_waits_51 ?_
      refine js_aload_n dX12_waits_52 ?_
      refine js_iload_n dX12_waits_53 ?_
      refine js_iconst dX12_waits_54 ?_
      refine js_callv dX12_waits_55 (⟨⟨_, _, _, _, _, _, _, ⟨rfl, (show (11 : Nat) < 20 by decide), sX12_allEnd l n, by decide, by decide, tw_1152, tw_103, tw_1151⟩, Or.inl ⟨by decide +kernel, by decide +kernel, by decide +kernel, tw_1149, tw_69⟩⟩, trivial⟩) ?_
      exact hK 58
def kX12_waits_58 (n : Nat) (K : Nat → jK) : jK := jk_kill 0 <| jk_kill 1 <| jk_kill 2 <| jk_int 0 <| jk_zret
set_option maxRecDepth 100000 in
set_option maxHeartbeats 4000000 in
theorem tX12_waits_58 (l : Launch) (n : Nat) {K : Nat → jK} (hK : ∀ b, jr_D l cX12_waits 3 "MeetingKitModel" (Option.some Jvm.ClassFile.FieldType.boolean) "waits" 3 68 (K b) b) : jr_D l cX12_waits 3 "MeetingKitModel" (Option.some Jvm.ClassFile.FieldType.boolean) "waits" 3 68 (kX12_waits_58 n K) 58 := by
  unfold kX12_waits_58
  refine js_kill ?_
  refine js_kill ?_
  refine js_kill ?_
  refine js_iconst dX12_waits_58 ?_
  exact js_zret dX12_waits_59 rfl
def kX12_waits_b (n : Nat) (K : Nat → jK) (b : Nat) : jK := if b = 0 then kX12_waits_0 n K else if b = 58 then kX12_waits_58 n K else jk_none
def kX12_waits (n : Nat) : jK := jk_fix (kX12_waits_b n) n 0
theorem tX12_waits (l : Launch) (n : Nat) : jr_D l cX12_waits 3 "MeetingKitModel" (Option.some Jvm.ClassFile.FieldType.boolean) "waits" 3 68 (kX12_waits n) 0 := js_fix (F := kX12_waits_b n) (fun K hK b => js_blk (tX12_waits_0 l n hK) (js_blk (tX12_waits_58 l n hK) (js_none))) n 0
def fX12_waits (n : Nat) : jF := jm_run 2 3 (kX12_waits n)
theorem sX12_waits (l : Launch) (n : Nat) : jr_F l (⟨"MeetingKitModel", "waits", "(I)Z"⟩ : MethodName) cX12_waits 3 (Option.some Jvm.ClassFile.FieldType.boolean) 3 68 (fX12_waits n) := js_met (by decide +kernel) (by decide) (tX12_waits l n)
