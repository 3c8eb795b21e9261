theorem jr_A.up {h0 h : jH} {D : va_G} {U : State} {H : Heap} (hW : jr_W D (jr_A h0) h U H) (hM : jr_M h0 h) {a : Nat} (ha : jr_A h a) : jr_A h0 a := by
  obtain ⟨ws, tys, hK, hP, hD, hz, h1, h2⟩ := hW
  rcases ha with ⟨q, hq, ht⟩ | ha
  · obtain ⟨k, e, hk, -⟩ := h1 a q hq ht
    exact hD.2 k _ hk
  · exact Or.inr (Nat.le_trans hM.1 ha)
theorem jr_W.moved {D : va_G} {A : Nat → Prop} {h : jH} {u U : State} {H : Heap} (hvm : u.vm.Alike U.vm) (hW : jr_W D A h u H) : jr_W D A h U H := by
  obtain ⟨ws, tys, hK, hP, hD, hz, h1, h2⟩ := hW
  exact ⟨ws, tys, va_K.moved hvm hK, hP, hD, hz, h1, h2⟩
theorem jr_W.up {D : va_G} {A B : Nat → Prop} {h : jH} {U : State} {H : Heap} (hW : jr_W D A h U H) (hAB : ∀ a, A a → B a) : jr_W D B h U H := by
  obtain ⟨ws, tys, hK, hP, hD, hz, h1, h2⟩ := hW
  exact ⟨ws, tys, hK, hP, hD.weaken (fun _ _ _ z => hAB _ z), hz, h1, h2⟩
theorem jr_W.self {D : va_G} {A : Nat → Prop} {h : jH} {U : State} {H : Heap} (hW : jr_W D A h U H) : jr_W D (jr_A h) h U H := by
  obtain ⟨ws, tys, hK, hP, hD, hz, h1, h2⟩ := hW
  exact ⟨ws, tys, hK, hP, ⟨hD.1, fun k q hk => Or.inl (h2 k q.1 q.2 hk)⟩, hz, h1, h2⟩
theorem jr_Ro.moved {A : Nat → Prop} {h : jH} {u U : State} {H : Heap} (hvm : u.vm.Alike U.vm) (hR : jr_Ro A h u H) : jr_Ro A h U H := fun a q hq ht => by
  obtain ⟨h1, g, hT, hg⟩ := hR a q hq ht
  exact ⟨h1, g, va_T.moved hvm hT, hg⟩
theorem jr_Z.moved {A : Nat → Prop} {h : jH} {u U : State} {H : Heap} (hvm : u.vm.Alike U.vm) (hR : jr_Z A h u H) : jr_Z A h U H := fun a q hq ht => by
  obtain ⟨aL, aM, e1, e2, z1, z2⟩ := hR a q hq ht
  exact ⟨aL, aM, e1, e2, va_Z.moved hvm z1, va_Z.moved hvm z2⟩
theorem jr_blind {D : va_G} {pa : List jV} {h : jH} : FrameBlind (jr_Pre D pa h) := by
  intro a U g mk ⟨q1, q2, q3, q4⟩
  exact ⟨q1, jr_W.moved (u := U) (U := U.calling g mk a) (Vm.Alike.refl U.vm) q2, jr_Ro.moved (u := U) (U := U.calling g mk a) (Vm.Alike.refl U.vm) q3, jr_Z.moved (u := U) (U := U.calling g mk a) (Vm.Alike.refl U.vm) q4⟩
section JC
variable {p : Program} {l : Launch} {e : Env} {R : Room} {s : State} {m : MethodId} {args : Array Value} {below : List Frame} {meth : Method} {c : Code} {cc : ByteArray} {nL : Nat} {own : String} {ret : Option FieldType} {nm : String} {fr lo : Nat} {D : va_G} {h0 hF : jH} {rF : Option jV} {Q : State → Prop} {k : jK} {pc : Nat}
theorem jc_pre (X : jr_X p l e R s m args below meth c cc nL own ret nm fr lo D h0 hF rF Q) {H : Heap} {locs : List Loc} {h : jH} (hW : jr_W D (jr_A h0) h s H) (hV : va_S (jr_A h0) s.heap H locs) (hM : jr_M h0 h) {As : List Value} {pa : List jV} (hS : jr_S As pa) : ∀ U : State, U.heap = H → s.WarmedH U.vm → jr_Pre D pa h As.toArray U := by
  intro U hU hWm
  have up : ∀ a, jr_A h a → jr_A h0 a := fun a => jr_A.up hW hM
  subst hU
  refine ⟨by simpa using hS, (hW.self).moved hWm.alike, ?_, ?_⟩
  · intro a q hq ht
    obtain ⟨h1, g, hT, hg⟩ := X.2.2.1.1 a q (hM.2.2 a q hq (by omega)) ht
    exact ⟨h1, g, (va_T.kept (va_T.moved hWm.alike hT) hV.2.1).narrow up, hg⟩
  · intro a q hq ht
    obtain ⟨aL, aM, e1, e2, z1, z2⟩ := X.2.2.1.2 a q (hM.2.2 a q hq (by omega)) ht
    exact ⟨aL, aM, e1, e2, (va_Z.kept (va_Z.moved hWm.alike z1) hV.2.1).narrow up, (va_Z.kept (va_Z.moved hWm.alike z2) hV.2.1).narrow up⟩
theorem jc_back (X : jr_X p l e R s m args below meth c cc nL own ret nm fr lo D h0 hF rF Q) (hk : jr_D l cc nL own ret nm fr lo k (pc + 3)) {ls : Array Slot} {L : List (Option jV)} {st0 rest : List Value} {S : List jV} {H : Heap} {locs : List Loc} {h h1 : jH} {r : Option jV} {a : Array Value} (hL : jr_L ls nL L) (hS : jr_S rest S) (hW : jr_W D (jr_A h0) h s H) (hV : va_S (jr_A h0) s.heap H locs) (hM : jr_M h0 h) (hM1 : jr_M h h1) (he : jm_back k L S (some (r, h1)) = some (rF, hF))
    (hr : va_Run p l e R s m args below meth c H locs (h.2.1 - h0.2.1) (h.2.2 - h0.2.2) (h1.2.1 - h.2.1) (h1.2.2 - h.2.2) (F0 m pc ls st0) rest (jr_Post D h r h1 a) (jr_A h)) : W p l e R s m args below meth c H locs (h.2.1 - h0.2.1) (h.2.2 - h0.2.2) Q (F0 m pc ls st0) := by
  intro T hT XX
  obtain ⟨v, st₀, t, T', Lc, g0, X', hLc, e1, e2, ⟨⟨v', hv', hO⟩, hW1, hz1, hk1⟩, st⟩ := hr T hT XX
  cases hv'
  have up : ∀ a, jr_A h a → jr_A h0 a := fun a => jr_A.up hW hM
  rw [g0] at hz1 hk1
  have hal : t.vm.Alike s.vm := by rw [← e2]; exact X'.warmed.alike.symm
  have hW2 : jr_W D (jr_A h0) h1 s T'.heap := by rw [e1]; exact (hW1.moved hal).up up
  have hV2 : va_S (jr_A h0) s.heap T'.heap (locs ++ Lc) := by
    refine ⟨Nat.le_trans hV.1 (by rw [e1]; exact hz1), fun q h1 h2 => ?_, fun q hq => ?_⟩
    · rw [e1, hk1 q (Nat.lt_of_lt_of_le h1 hV.1) (fun z => h2 (up q z))]
      exact hV.2.1 q h1 h2
    · rcases List.mem_append.mp hq with z | z
      · exact hV.2.2 q z
      · exact up _ (hLc q z)
  have hM0 := hM
  have hM10 := hM1
  obtain ⟨hm1, hm2, -⟩ := hM
  obtain ⟨hn1, hn2, -⟩ := hM1
  have hc1 : h.2.1 - h0.2.1 + (h1.2.1 - h.2.1) = h1.2.1 - h0.2.1 := by omega
  have hc2 : h.2.2 - h0.2.2 + (h1.2.2 - h.2.2) = h1.2.2 - h0.2.2 := by omega
  rw [hc1, hc2] at X'
  have KK : W p l e R s m args below meth c T'.heap (locs ++ Lc) (h1.2.1 - h0.2.1) (h1.2.2 - h0.2.2) Q (F0 m (pc + 3) ls (v.toList ++ rest)) := by
    cases r with
    | none => cases v with
      | none => exact hk.2 p e R s m args below meth c D h0 hF rF Q X ls L _ _ T'.heap _ h1 hL hS hW2 hV2 (hM0.tr hM10) he
      | some x => exact hO.elim
    | some u => cases v with
      | none => exact hO.elim
      | some x => exact hk.2 p e R s m args below meth c D h0 hF rF Q X ls L _ _ T'.heap _ h1 hL (jr_S.pv hO hS) hW2 hV2 (hM0.tr hM10) he
  obtain ⟨t2, a1, b1⟩ := KK T' rfl X'
  exact ⟨t2, st t2 a1, b1⟩
end JC
section JD
variable {l : Launch} {cc : ByteArray} {nL : Nat} {own : String} {ret : Option FieldType} {nm : String} {fr lo : Nat} {k : jK} {pc : Nat}
theorem jm_back_some {k : jK} {L : List (Option jV)} {S : List jV} {x : Option jR} {y : jR} (h : jm_back k L S x = some y) : ∃ r h1, x = some (r, h1) := by
  cases x with
  | none => cases h
  | some q => exact ⟨q.1, q.2, rfl⟩
theorem jm_back_M {k : jK} {L : List (Option jV)} {S : List jV} {r : Option jV} {h1 h' : jH} {r' : Option jV} (hk : ∀ (L : List (Option jV)) (S : List jV) (h h' : jH) (r : Option jV), k L S h = some (r, h') → jr_M h h') (h : jm_back k L S (some (r, h1)) = some (r', h')) : jr_M h1 h' := by
  cases r with
  | none => exact hk _ _ _ _ _ h
  | some u => exact hk _ _ _ _ _ h
theorem js_calls {y : MethodName} {bytes : ByteArray} {maxL : Nat} {ret' : Option FieldType} {fr' lo' : Nat} {f : jF} {n index : Nat} (hf : jr_F l y bytes maxL ret' fr' lo' f) (d : decode cc pc = .ok (.invokestatic index, 3)) (hfr : fr' + 1 ≤ fr) (hlo : 8 + (maxL + 11) + lo' ≤ lo) (hw1 : Cond.methodLink own index y ∈ jw_tbl) (hw2 : Cond.static y ∈ jw_tbl) (hw3 : Cond.initialized y.cls ∈ jw_tbl) (hw4 : Cond.code y bytes maxL ret' ∈ jw_tbl)
    (hd : y.cls ≠ "java/lang/invoke/MethodHandle" ∧ y.cls ≠ "java/lang/invoke/VarHandle" ∧ (parseMethodDescriptor y.desc).map (fun d => d.parameters.length) = some n) (hk : jr_D l cc nL own ret nm fr lo k (pc + 3)) : jr_D l cc nL own ret nm fr lo (jk_call f n k) pc := by
  refine ⟨fun L S h h' r he => ?_, fun p e R s m args below meth c D h0 hF rF Q X ls L st S H locs h hL hS hW hV hM he => ?_⟩
  · unfold jk_call at he
    split at he
    · obtain ⟨r1, h1, hx⟩ := jm_back_some he
      rw [hx] at he
      exact ((hf ((fun _ => 0), (fun _ _ => 0)) _ _ _ _ hx).1).tr (jm_back_M hk.1 he)
    · cases he
  · unfold jk_call at he
    split at he
    · rename_i hlen
      obtain ⟨r1, h1, hx⟩ := jm_back_some he
      rw [hx] at he
      obtain ⟨hM1, hMet⟩ := hf D _ _ _ _ hx
      have hMF := jm_back_M hk.1 he
      obtain ⟨hS1, hS2⟩ := hS.split n
      have hl9 := hS.len
      have hsz : ls.size = nL := by obtain ⟨lv, z, -⟩ := hL; exact z.1
      have hR := X.2.1
      have hM0 := hM
      have hM10 := hM1
      obtain ⟨hm1, hm2, -⟩ := hM
      obtain ⟨hn1, hn2, -⟩ := hM1
      obtain ⟨ho1, ho2, -⟩ := hMF
      refine jc_back X hk hL hS2 hW hV hM0 hM10 he (a := (st.take n).reverse.toArray) (va_runS (As := (st.take n).reverse) (rest := st.drop n) (n := n) ⟨X.1.1, X.1.2.1, X.1.2.2.1, X.1.2.2.2.1, X.1.2.2.2.2⟩ hMet ⟨⟨rfl, rfl, by show fr' + 1 ≤ R.frames; omega, by show 8 + (maxL + 11) + lo' ≤ R.locals; omega, fun w hw a' U hWm => ?_, List.mem_cons_self, X.1.2.2.2.2 _ hw4, X.1.2.2.2.2 _ hw3, ⟨hd.1, hd.2.1⟩, fun sig hsig => ?_, X.1.2.2.2.2 _ hw1⟩, X.1.2.2.2.2 _ hw2⟩ ⟨jr_blind, jc_pre X hW hV hM0 hS1.rev⟩ rfl ?_ hsz ?_ ?_ d ⟨by omega, by omega⟩)
      · rcases List.mem_cons.mp hw with rfl | hw
        · exact jw_move hWm X.1.2.2.2.2 _ hw4
        · exact jw_move hWm X.1.2.2.2.2 _ hw
      · have h2 := hd.2.2
        rw [hsig] at h2
        exact (Option.some.inj h2).symm
      · rw [List.length_reverse, List.length_take]
        omega
      · show st = (st.take n).reverse.reverse ++ st.drop n
        rw [List.reverse_reverse, List.take_append_drop]
      · rw [hS2.cats]
        show 2 * 0 + _ ≤ 8
        rw [List.length_drop]
        omega
    · cases he
theorem js_calli {y : MethodName} {bytes : ByteArray} {maxL : Nat} {fr' lo' : Nat} {f : jF} {n index : Nat} (hf : jr_F l y bytes maxL none fr' lo' f) (d : decode cc pc = .ok (.invokespecial index, 3)) (hfr : fr' + 1 ≤ fr) (hlo : 8 + (maxL + 11) + lo' ≤ lo) (hw1 : Cond.methodLink own index y ∈ jw_tbl) (hw2 : Cond.instanceMethod y ∈ jw_tbl) (hw3 : Cond.initialized y.cls ∈ jw_tbl) (hw4 : Cond.code y bytes maxL none ∈ jw_tbl) (hy : y.name = "<init>")
    (hd : y.cls ≠ "java/lang/invoke/MethodHandle" ∧ y.cls ≠ "java/lang/invoke/VarHandle" ∧ (parseMethodDescriptor y.desc).map (fun d => d.parameters.length) = some n) (hk : jr_D l cc nL own ret nm fr lo k (pc + 3)) : jr_D l cc nL own ret nm fr lo (jk_icall f n k) pc := by
  refine ⟨fun L S h h' r he => ?_, fun p e R s m args below meth c D h0 hF rF Q X ls L st S H locs h hL hS hW hV hM he => ?_⟩
  · unfold jk_icall at he
    split at he
    · split at he
      · obtain ⟨r1, h1, hx⟩ := jm_back_some he
        rw [hx] at he
        exact ((hf ((fun _ => 0), (fun _ _ => 0)) _ _ _ _ hx).1).tr (jm_back_M hk.1 he)
      · cases he
    · cases he
  · unfold jk_icall at he
    split at he
    · rename_i hlen
      split at he
      · rename_i b hb
        obtain ⟨r1, h1, hx⟩ := jm_back_some he
        rw [hx] at he
        obtain ⟨hM1, hMet⟩ := hf D _ _ _ _ hx
        have hMF := jm_back_M hk.1 he
        obtain ⟨hS1, hS2⟩ := hS.split (n + 1)
        have hl9 := hS.len
        obtain ⟨vb, hvb, hvr⟩ := hS.at hb
        have hvr : vb = .ref b := hvr
        subst hvr
        have hsz : ls.size = nL := by obtain ⟨lv, z, -⟩ := hL; exact z.1
        have hR := X.2.1
        have hM0 := hM
        have hM10 := hM1
        obtain ⟨hm1, hm2, -⟩ := hM
        obtain ⟨hn1, hn2, -⟩ := hM1
        obtain ⟨ho1, ho2, -⟩ := hMF
        have htk : st.take (n + 1) = st.take n ++ [.ref b] := by rw [List.take_add_one, hvb]; rfl
        have hrev : (st.take (n + 1)).reverse = .ref b :: (st.take n).reverse := by rw [htk]; simp
        refine jc_back X hk hL hS2 hW hV hM0 hM10 he (a := (Value.ref b :: (st.take n).reverse).toArray) (va_runI (b := b) (As := (st.take n).reverse) (rest := st.drop (n + 1)) (n := n) ⟨X.1.1, X.1.2.1, X.1.2.2.1, X.1.2.2.2.1, X.1.2.2.2.2⟩ hMet ⟨⟨rfl, rfl, by show fr' + 1 ≤ R.frames; omega, by show 8 + (maxL + 11) + lo' ≤ R.locals; omega, fun w hw a' U hWm => ?_, List.mem_cons_self, X.1.2.2.2.2 _ hw4, X.1.2.2.2.2 _ hw3, ⟨hd.1, hd.2.1⟩, fun sig hsig => ?_, X.1.2.2.2.2 _ hw1⟩, hy, X.1.2.2.2.2 _ hw2⟩ ⟨jr_blind, by rw [← hrev]; exact jc_pre X hW hV hM0 hS1.rev⟩ rfl ?_ hsz ?_ ?_ d ⟨by omega, by omega⟩)
        · rcases List.mem_cons.mp hw with rfl | hw
          · exact jw_move hWm X.1.2.2.2.2 _ hw4
          · exact jw_move hWm X.1.2.2.2.2 _ hw
        · have h2 := hd.2.2
          rw [hsig] at h2
          exact (Option.some.inj h2).symm
        · rw [List.length_reverse, List.length_take]
          omega
        · show st = (st.take n).reverse.reverse ++ .ref b :: st.drop (n + 1)
          rw [List.reverse_reverse]
          have e9 := (List.take_append_drop (n + 1) st).symm
          rw [htk] at e9
          simpa using e9
        · rw [hS2.cats]
          show 2 * 0 + _ ≤ 8
          rw [List.length_drop]
          omega
      · cases he
    · cases he
/-- what a call on an object of that tag asks -/
def jr_Vc (l : Launch) (own : String) (index n fr lo t : Nat) (f : jF) : Prop := ∃ (r : vw_C) (y : MethodName) (bytes : ByteArray) (maxL : Nat) (ret' : Option FieldType) (fr' lo' : Nat), (vwCl[t]? = some r ∧ t < 20 ∧ jr_F l y bytes maxL ret' fr' lo' f ∧ fr' + 1 ≤ fr ∧ 8 + (maxL + 11) + lo' ≤ lo ∧ Cond.code y bytes maxL ret' ∈ jw_tbl ∧ Cond.initialized y.cls ∈ jw_tbl ∧ Cond.instanceMethod y ∈ jw_tbl) ∧
  ((y.cls ≠ "java/lang/invoke/MethodHandle" ∧ y.cls ≠ "java/lang/invoke/VarHandle" ∧ (parseMethodDescriptor y.desc).map (fun d => d.parameters.length) = some n ∧ Cond.methodLink own index y ∈ jw_tbl ∧ Cond.selects r.1 y y ∈ jw_tbl) ∨
   ∃ (x : MethodName) (owner : String), owner ≠ "java/lang/invoke/MethodHandle" ∧ owner ≠ "java/lang/invoke/VarHandle" ∧ (parseMethodDescriptor x.desc).map (fun d => d.parameters.length) = some n ∧ Cond.methodLink own index x ∈ jw_tbl ∧ Cond.sameMethod x.cls owner x.name x.desc ∈ jw_tbl ∧ Cond.selects r.1 x y ∈ jw_tbl ∧
    ((∃ (b0 : ByteArray) (m0 : Nat) (r0 : Option FieldType), Cond.instanceMethod ⟨owner, x.name, x.desc⟩ ∈ jw_tbl ∧ Cond.code ⟨owner, x.name, x.desc⟩ b0 m0 r0 ∈ jw_tbl) ∨ Cond.declares ⟨owner, x.name, x.desc⟩ ∈ jw_tbl))
def jr_Vs (l : Launch) (own : String) (index n fr lo : Nat) : List (Nat × jF) → Prop
  | [] => True
  | q :: r => jr_Vc l own index n fr lo q.1 q.2 ∧ jr_Vs l own index n fr lo r
theorem jr_Vs.at {index n t : Nat} {tb : List (Nat × jF)} {f : jF} (h : jr_Vs l own index n fr lo tb) (ht : jm_look t tb = some f) : jr_Vc l own index n fr lo t f := by
  induction tb with
  | nil => cases ht
  | cons q r ih =>
    obtain ⟨u, g⟩ := q
    unfold jm_look at ht
    by_cases e : t = u
    · rw [if_pos e] at ht
      cases ht
      subst e
      exact h.1
    · rw [if_neg e] at ht
      exact ih h.2 ht
theorem js_callv {tb : List (Nat × jF)} {n index : Nat} (d : decode cc pc = .ok (.invokevirtual index, 3)) (hT : jr_Vs l own index n fr lo tb) (hk : jr_D l cc nL own ret nm fr lo k (pc + 3)) : jr_D l cc nL own ret nm fr lo (jk_vcall tb n k) pc := by
  refine ⟨fun L S h h' r he => ?_, fun p e R s m args below meth c D h0 hF rF Q X ls L st S H locs h hL hS hW hV hM he => ?_⟩
  · unfold jk_vcall at he
    split at he
    · split at he
      · split at he
        · split at he
          · rename_i f hf9
            obtain ⟨r9, y, bytes, maxL, ret', fr', lo', ⟨-, -, hf, -⟩, -⟩ := hT.at hf9
            obtain ⟨r1, h1, hx⟩ := jm_back_some he
            rw [hx] at he
            exact ((hf ((fun _ => 0), (fun _ _ => 0)) _ _ _ _ hx).1).tr (jm_back_M hk.1 he)
          · cases he
        · cases he
      · cases he
    · cases he
  · unfold jk_vcall at he
    split at he
    · rename_i hlen
      split at he
      · rename_i b hb
        split at he
        · rename_i q hq
          split at he
          · rename_i f hf9
            obtain ⟨r9, y, bytes, maxL, ret', fr', lo', ⟨hcl, ht20, hf, hfr, hlo, hw4, hw3, hw2⟩, hkind⟩ := hT.at hf9
            obtain ⟨r1, h1, hx⟩ := jm_back_some he
            rw [hx] at he
            obtain ⟨hM1, hMet⟩ := hf D _ _ _ _ hx
            have hMF := jm_back_M hk.1 he
            obtain ⟨hS1, hS2⟩ := hS.split (n + 1)
            have hl9 := hS.len
            obtain ⟨vb, hvb, hvr⟩ := hS.at hb
            have hvr : vb = .ref b := hvr
            subst hvr
            have hsz : ls.size = nL := by obtain ⟨lv, z, -⟩ := hL; exact z.1
            have hR := X.2.1
            have hM0 := hM
            have hM10 := hM1
            obtain ⟨hm1, hm2, -⟩ := hM
            obtain ⟨hn1, hn2, -⟩ := hM1
            obtain ⟨ho1, ho2, -⟩ := hMF
            have htk : st.take (n + 1) = st.take n ++ [.ref b] := by rw [List.take_add_one, hvb]; rfl
            have hrev : (st.take (n + 1)).reverse = .ref b :: (st.take n).reverse := by rw [htk]; simp
            have hwords : ∀ w ∈ (Cond.code y bytes maxL ret' :: jw_tbl), ∀ (a' : Array Value) (U : State), s.WarmedH U.vm → w.before a' U = true := by
              intro w hw a' U hWm
              rcases List.mem_cons.mp hw with rfl | hw
              · exact jw_move hWm X.1.2.2.2.2 _ hw4
              · exact jw_move hWm X.1.2.2.2.2 _ hw
            have hrecv : ∃ cellB : Cell, H[b]? = some cellB ∧ cellB.vm.isStatics = false ∧ s.vm.findClass r9.1 = some cellB.cls := by
              obtain ⟨ws, tys, hK, hP, hD, hz, g1, g2⟩ := hW
              obtain ⟨k0, e0, hk0, hE⟩ := g1 b q hq (by omega)
              obtain ⟨fs, rfl, -⟩ := hE.obj ht20
              exact va_recv hK hP hcl hk0
            have hpre : PreV s H r9.1 b (jr_Pre D ((S.take (n + 1)).reverse) h) (st.take n).reverse := ⟨jr_blind, hrecv, by rw [← hrev]; exact jc_pre X hW hV hM0 hS1.rev⟩
            have hlen1 : (st.take n).reverse.length = n := by
              rw [List.length_reverse, List.length_take]
              omega
            have hstk : st = (st.take n).reverse.reverse ++ .ref b :: st.drop (n + 1) := by
              rw [List.reverse_reverse]
              have e9 := (List.take_append_drop (n + 1) st).symm
              rw [htk] at e9
              simpa using e9
            have hroom : 2 * (F0 m pc ls st).monitorRoom + ((st.drop (n + 1)).map fun v => v.category).sum ≤ 8 := by
              rw [hS2.cats]
              show 2 * 0 + _ ≤ 8
              rw [List.length_drop]
              omega
            refine jc_back X hk hL hS2 hW hV hM0 hM10 he (a := (Value.ref b :: (st.take n).reverse).toArray) ?_
            rcases hkind with ⟨hd1, hd2, hd3, hw1, hw5⟩ | ⟨x, owner, hd1, hd2, hd3, hw1, hw5, hw6, hdecl⟩
            · refine va_runV (C := r9.1) (b := b) (As := (st.take n).reverse) (rest := st.drop (n + 1)) (n := n) ⟨X.1.1, X.1.2.1, X.1.2.2.1, X.1.2.2.2.1, X.1.2.2.2.2⟩ hMet ⟨⟨rfl, rfl, by show fr' + 1 ≤ R.frames; omega, by show 8 + (maxL + 11) + lo' ≤ R.locals; omega, hwords, List.mem_cons_self, X.1.2.2.2.2 _ hw4, X.1.2.2.2.2 _ hw3, ⟨hd1, hd2⟩, fun sig hsig => ?_, X.1.2.2.2.2 _ hw1⟩, X.1.2.2.2.2 _ hw2, X.1.2.2.2.2 _ hw5⟩ hpre rfl hlen1 hsz hstk hroom d ⟨by omega, by omega⟩
              rw [hsig] at hd3
              exact (Option.some.inj hd3).symm
            · refine va_runU (C := r9.1) (owner := owner) (b := b) (As := (st.take n).reverse) (rest := st.drop (n + 1)) (n := n) ⟨X.1.1, X.1.2.1, X.1.2.2.1, X.1.2.2.2.1, X.1.2.2.2.2⟩ hMet ⟨⟨rfl, rfl, by show fr' + 1 ≤ R.frames; omega, by show 8 + (maxL + 11) + lo' ≤ R.locals; omega, hwords, List.mem_cons_self⟩, X.1.2.2.2.2 _ hw4, X.1.2.2.2.2 _ hw3, ⟨hd1, hd2⟩, fun sig hsig => ?_, X.1.2.2.2.2 _ hw1, X.1.2.2.2.2 _ hw5, ?_, X.1.2.2.2.2 _ hw6, X.1.2.2.2.2 _ hw2⟩ hpre rfl hlen1 hsz hstk hroom d ⟨by omega, by omega⟩
              · rw [hsig] at hd3
                exact (Option.some.inj hd3).symm
              · rcases hdecl with ⟨b0, m0, r0, hi, hc⟩ | hdc
                · exact va_Decl.of (X.1.2.2.2.2 _ hi) (X.1.2.2.2.2 _ hc)
                · exact va_Decl.abs (va_Nw.of rfl (X.1.2.2.2.2 _ hdc))
          · cases he
        · cases he
      · cases he
    · cases he
theorem js_iret (d : decode cc pc = .ok (.ireturn, 1)) (hr : ret = some .int) : jr_D l cc nL own ret nm fr lo jk_iret pc := by
  refine ⟨fun L S h h' r he => ?_, fun p e R s m args below meth c D h0 hF rF Q X ls L st S H locs h hL hS hW hV hM he => ?_⟩
  · unfold jk_iret at he
    split at he
    · cases he
      exact jr_M.rf _
    · cases he
  · unfold jk_iret at he
    split at he
    · cases he
      obtain ⟨x, st1, rfl, hx, hS1⟩ := hS.int
      rw [hS1.nil]
      subst hr
      exact X.2.2.2 (some (.int x)) pc ls H locs (jr_V.i hx) ⟨_, rfl⟩ hW hV d
    · cases he
theorem js_zret (d : decode cc pc = .ok (.ireturn, 1)) (hr : ret = some .boolean) : jr_D l cc nL own ret nm fr lo jk_zret pc := by
  refine ⟨fun L S h h' r he => ?_, fun p e R s m args below meth c D h0 hF rF Q X ls L st S H locs h hL hS hW hV hM he => ?_⟩
  · unfold jk_zret at he
    split at he
    · split at he
      · cases he
        exact jr_M.rf _
      · cases he
    · cases he
  · unfold jk_zret at he
    split at he
    · split at he
      · rename_i n hn
        cases he
        obtain ⟨x, st1, rfl, hx, hS1⟩ := hS.int
        rw [hS1.nil]
        subst hr
        refine X.2.2.2 (some (.int x)) pc ls H locs (jr_V.i hx) ?_ hW hV d
        rcases hn with rfl | rfl
        · exact Or.inl rfl
        · exact Or.inr rfl
      · cases he
    · cases he
theorem js_aret {C : String} (d : decode cc pc = .ok (.areturn, 1)) (hr : ret = some (.object C)) : jr_D l cc nL own ret nm fr lo jk_aret pc := by
  refine ⟨fun L S h h' r he => ?_, fun p e R s m args below meth c D h0 hF rF Q X ls L st S H locs h hL hS hW hV hM he => ?_⟩
  · unfold jk_aret at he
    split at he
    · cases he
      exact jr_M.rf _
    · cases he
  · unfold jk_aret at he
    split at he
    · rename_i q
      cases he
      obtain ⟨st1, rfl, hS1⟩ := hS.rf
      rw [hS1.nil]
      subst hr
      exact X.2.2.2 (some (va_rf q)) pc ls H locs rfl ⟨_, rfl⟩ hW hV d
    · cases he
theorem js_vret (d : decode cc pc = .ok (.return_, 1)) (hr : ret = none) : jr_D l cc nL own ret nm fr lo jk_vret pc := by
  refine ⟨fun L S h h' r he => ?_, fun p e R s m args below meth c D h0 hF rF Q X ls L st S H locs h hL hS hW hV hM he => ?_⟩
  · unfold jk_vret at he
    split at he
    · cases he
      exact jr_M.rf _
    · cases he
  · unfold jk_vret at he
    split at he
    · cases he
      rw [hS.nil]
      subst hr
      exact X.2.2.2 none pc ls H locs trivial rfl hW hV d
    · cases he
theorem jr_args {vs : List Value} {pa : List jV} (h : jr_S vs pa) : (lg_sl vs).length = vs.length ∧ ∀ (b i : Nat) (u : jV), pa[i]? = some u → ∃ v, (b + i, v) ∈ lv_args b vs ∧ jr_V v u := by
  induction vs generalizing pa with
  | nil => cases pa with
    | nil => exact ⟨rfl, fun b i u hu => by cases hu⟩
    | cons u pa => exact h.elim
  | cons v vs ih => cases pa with
    | nil => exact h.elim
    | cons u pa =>
      obtain ⟨h1, h2⟩ := ih h.2
      have hc : ¬ v.category = 2 := by rw [h.1.cat]; decide
      refine ⟨?_, fun b i w hw => ?_⟩
      · show (List.flatMap _ (v :: vs)).length = _
        rw [List.flatMap_cons, if_neg hc, List.length_append]
        show 1 + (lg_sl vs).length = _
        rw [h1, List.length_cons]
        omega
      · unfold lv_args
        rw [if_neg hc]
        cases i with
        | zero => cases hw; exact ⟨v, List.mem_cons_self, h.1⟩
        | succ i =>
          obtain ⟨x, hx, hv⟩ := h2 (b + 1) i w hw
          exact ⟨x, List.mem_cons_of_mem _ (by rw [show b + (i + 1) = b + 1 + i by omega]; exact hx), hv⟩
theorem js_met {y : MethodName} {na : Nat} (hy : plainName y.cls = true) (hna : na ≤ nL) (hk : jr_D l cc nL y.cls ret y.name fr lo k 0) : jr_F l y cc nL ret fr lo (jm_run na nL k) := by
  intro D pa h h' r he
  unfold jm_run at he
  split at he
  · rename_i hlen
    refine ⟨hk.1 _ _ _ _ _ he, ?_⟩
    refine Met.ofW (cc := cc) (maxL := nL) (ret := ret) hy rfl ?_
    intro p e s m args below meth c s₁ B hml hv
    obtain ⟨hS, hW, hRo, hZ⟩ := hv
    obtain ⟨vs, rfl⟩ : ∃ vs : List Value, args = vs.toArray := ⟨args.toList, by simp⟩
    have hS : jr_S vs pa := by simpa using hS
    obtain ⟨ha1, ha2⟩ := jr_args hS
    have hvl := hS.len
    have hts := atoms_spec (ws := Cond.code y cc nL ret :: jw_tbl) B.pre
    have hl := lv_entry vs (n := nL) (by omega)
    rw [lg_entry_eq]
    generalize (lg_sl vs ++ List.replicate (nL - (lg_sl vs).length) Slot.unset).toArray = ls at hl ⊢
    have hlocks := B.notSynchronized
    have hr := B.returns
    have hsz : s.heap.size = h.2.1 := by obtain ⟨_, _, -, -, -, z, -⟩ := hW; exact z
    have hX : jr_X p l e (headSpec (Cond.code y cc nL ret :: jw_tbl) { frames := fr, cells := h'.2.1 - h.2.1, slots := h'.2.2 - h.2.2, locals := lo }).room s m vs.toArray below meth c cc nL y.cls ret y.name fr lo D h h' r (MQ below (jr_Post D h r h') vs.toArray s (h'.2.1 - h.2.1) (h'.2.2 - h.2.2) (jr_A h)) := by
      refine ⟨⟨B.exec, B.bytes, hml, findClass_of_methodNamed B.named, fun w hw => hts w (List.mem_cons_of_mem _ hw)⟩, ⟨(name_of_methodNamed B.named B.method).1, Nat.le_refl _, Nat.le_refl _, Nat.le_refl _, Nat.le_refl _, hsz⟩, ⟨hRo, hZ⟩, fun v pc ls H locs hO hok hWF hV hdg => ?_⟩
      have hq : ∀ t : State, t.heap = H → s.WarmedH t.vm → jr_Post D h r h' vs.toArray s (.returned v) t := fun t ht hWm => ⟨⟨v, rfl, hO⟩, by rw [ht]; exact hWF.moved hWm.alike, hV.F ht⟩
      cases ret with
      | none =>
        have hok : r = none := hok
        subst hok
        cases v with
        | none => exact W.vret B.exec B.bytes hr hq hV.2.2 hdg hlocks
        | some x => exact hO.elim
      | some ty =>
        cases ty with
        | int =>
          obtain ⟨n, rfl⟩ := hok
          cases v with
          | none => exact hO.elim
          | some x =>
            obtain ⟨z, rfl, -⟩ := hO
            exact W.iret B.exec B.bytes hr hq hV.2.2 hdg hlocks
        | boolean =>
          cases v with
          | none => rcases hok with rfl | rfl <;> exact hO.elim
          | some x =>
            have hb : ∃ z : Int32, x = .int z ∧ (z = 0 ∨ z = 1) := by
              rcases hok with rfl | rfl
              · obtain ⟨z, rfl, hz⟩ := hO
                exact ⟨z, rfl, Or.inl ((jm_eq z 0).mpr hz)⟩
              · obtain ⟨z, rfl, hz⟩ := hO
                exact ⟨z, rfl, Or.inr ((jm_eq z 1).mpr hz)⟩
            obtain ⟨z, rfl, hz⟩ := hb
            exact W.zret B.exec B.bytes hr (by rcases hz with rfl | rfl <;> rfl) hq hV.2.2 hdg hlocks
        | object C =>
          obtain ⟨n, rfl⟩ := hok
          cases v with
          | none => exact hO.elim
          | some x =>
            have hx : x = va_rf n := hO
            exact W.aret B.exec B.bytes hr (Or.inl ⟨_, rfl⟩) (by rw [hx]; exact va_rf_or n) hq hV.2.2 hdg hlocks
        | _ => exact hok.elim
    have h9 := hk.2 p e _ s m vs.toArray below meth c D h h' r _ hX ls (jm_init nL pa) [] [] s.heap [] h ⟨lv_args 0 vs, hl, by simp [jm_init]; omega, fun i u hi => ?_⟩ trivial hW va_S.rf (jr_M.rf h) he
    · rw [Nat.sub_self, Nat.sub_self] at h9
      exact h9
    · unfold jm_init at hi
      by_cases hil : i < pa.length
      · rw [List.getElem?_append_left (by simpa using hil), List.getElem?_map] at hi
        cases hp : pa[i]? with
        | none => rw [hp] at hi; cases hi
        | some w =>
          rw [hp] at hi
          cases hi
          obtain ⟨v, hm, hv⟩ := ha2 0 i u hp
          exact ⟨v, by rw [Nat.zero_add] at hm; exact hm, hv⟩
      · rw [List.getElem?_append_right (by simpa using hil)] at hi
        have := List.mem_of_getElem? hi
        simp at this
  · cases he
end JD
