section JS
variable {l : Launch} {cc : ByteArray} {nL : Nat} {own : String} {ret : Option FieldType} {nm : String} {fr lo : Nat} {k kt kf : jK} {pc : Nat}
theorem jr_S.pi {x : Int32} {n : Int} {st : List Value} {S : List jV} (hx : x.toInt = n) (h : jr_S st S) : jr_S (.int x :: st) (.inl n :: S) := And.intro ⟨x, rfl, hx⟩ h
theorem jr_S.pn {st : List Value} {S : List jV} (h : jr_S st S) : jr_S (.null :: st) (.inr none :: S) := And.intro rfl h
theorem jr_S.pr {a : Nat} {st : List Value} {S : List jV} (h : jr_S st S) : jr_S (.ref a :: st) (.inr (some a) :: S) := And.intro rfl h
theorem jr_S.pv {v : Value} {u : jV} {st : List Value} {S : List jV} (hv : jr_V v u) (h : jr_S st S) : jr_S (v :: st) (u :: S) := And.intro hv h
theorem jr_V.i {x : Int32} {n : Int} (hx : x.toInt = n) : jr_V (.int x) (.inl n) := ⟨x, rfl, hx⟩
theorem jr_V.n : jr_V .null (.inr none) := rfl
theorem jr_V.r {a : Nat} : jr_V (.ref a) (.inr (some a)) := rfl
theorem jm_lz (x : Int32) : x < 0 ↔ x.toInt < 0 := jm_lt x 0
theorem jm_zl (x : Int32) : 0 < x ↔ 0 < x.toInt := jm_lt 0 x
theorem jm_lez (x : Int32) : x ≤ 0 ↔ x.toInt ≤ 0 := jm_le x 0
theorem jm_zle (x : Int32) : 0 ≤ x ↔ 0 ≤ x.toInt := jm_le 0 x
theorem js_none : jr_D l cc nL own ret nm fr lo jk_none pc := ⟨fun _ _ _ _ _ he => (by cases he), fun _ _ _ _ _ _ _ _ _ _ _ _ _ _ _ _ _ _ _ _ _ _ _ _ _ _ _ he => (by cases he)⟩
theorem js_iconst {n : Int} (d : decode cc pc = .ok (.iconst n, 1)) (hk : jr_D l cc nL own ret nm fr lo k (pc + 1)) (hn : (Int32.ofInt n).toInt = n := by decide) : jr_D l cc nL own ret nm fr lo (jk_int n k) pc := by
  refine ⟨fun L S h h' r he => hk.1 L _ h h' r he, fun p e R s m args below meth c D h0 hF rF Q X ls L st S H locs h hL hS hW hV hM he => ?_⟩
  exact lv_iconst X.1.1 X.1.2.1 d rfl (hk.2 p e R s m args below meth c D h0 hF rF Q X ls L _ _ H locs h hL (jr_S.pi hn hS) hW hV hM he)
theorem js_bipush {n : Int} (d : decode cc pc = .ok (.bipush n, 2)) (hk : jr_D l cc nL own ret nm fr lo k (pc + 2)) (hn : (Int8.ofInt n).toInt32.toInt = n := by decide) : jr_D l cc nL own ret nm fr lo (jk_int n k) pc := by
  refine ⟨fun L S h h' r he => hk.1 L _ h h' r he, fun p e R s m args below meth c D h0 hF rF Q X ls L st S H locs h hL hS hW hV hM he => ?_⟩
  exact lv_bipush X.1.1 X.1.2.1 d rfl (hk.2 p e R s m args below meth c D h0 hF rF Q X ls L _ _ H locs h hL (jr_S.pi hn hS) hW hV hM he)
theorem js_sipush {n : Int} (d : decode cc pc = .ok (.sipush n, 3)) (hk : jr_D l cc nL own ret nm fr lo k (pc + 3)) (hn : (Int16.ofInt n).toInt32.toInt = n := by decide) : jr_D l cc nL own ret nm fr lo (jk_int n k) pc := by
  refine ⟨fun L S h h' r he => hk.1 L _ h h' r he, fun p e R s m args below meth c D h0 hF rF Q X ls L st S H locs h hL hS hW hV hM he => ?_⟩
  exact lv_sipush X.1.1 X.1.2.1 d rfl (hk.2 p e R s m args below meth c D h0 hF rF Q X ls L _ _ H locs h hL (jr_S.pi hn hS) hW hV hM he)
theorem js_ldc {n : Int} {index : Nat} {v : Int32} (d : decode cc pc = .ok (.ldc index, 2)) (hw : Cond.constant own index v ∈ jw_tbl) (hk : jr_D l cc nL own ret nm fr lo k (pc + 2)) (hn : v.toInt = n := by decide) : jr_D l cc nL own ret nm fr lo (jk_int n k) pc := by
  refine ⟨fun L S h h' r he => hk.1 L _ h h' r he, fun p e R s m args below meth c D h0 hF rF Q X ls L st S H locs h hL hS hW hV hM he => ?_⟩
  exact lv_ldc X.1.1 X.1.2.1 X.1.2.2.2.1 (X.1.2.2.2.2 _ hw) d (hk.2 p e R s m args below meth c D h0 hF rF Q X ls L _ _ H locs h hL (jr_S.pi hn hS) hW hV hM he)
theorem js_null (d : decode cc pc = .ok (.aconst_null, 1)) (hk : jr_D l cc nL own ret nm fr lo k (pc + 1)) : jr_D l cc nL own ret nm fr lo (jk_null k) pc := by
  refine ⟨fun L S h h' r he => hk.1 L _ h h' r he, fun p e R s m args below meth c D h0 hF rF Q X ls L st S H locs h hL hS hW hV hM he => ?_⟩
  exact lv_null X.1.1 X.1.2.1 d (hk.2 p e R s m args below meth c D h0 hF rF Q X ls L _ _ H locs h hL (jr_S.pn hS) hW hV hM he)
theorem js_iload_n {i : Fin 4} (d : decode cc pc = .ok (.iload_n i, 1)) (hk : jr_D l cc nL own ret nm fr lo k (pc + 1)) : jr_D l cc nL own ret nm fr lo (jk_iload (i : Nat) k) pc := by
  refine ⟨fun L S h h' r he => ?_, fun p e R s m args below meth c D h0 hF rF Q X ls L st S H locs h hL hS hW hV hM he => ?_⟩
  · unfold jk_iload at he
    split at he
    · exact hk.1 _ _ _ _ _ he
    · cases he
  · unfold jk_iload at he
    split at he
    · rename_i n hn
      obtain ⟨v, hv, x, rfl, hx⟩ := hL.at hn
      exact lv_iload_n X.1.1 X.1.2.1 d rfl hv (hk.2 p e R s m args below meth c D h0 hF rF Q X ls L _ _ H locs h hL (jr_S.pi hx hS) hW hV hM he)
    · cases he
theorem js_iload {i : Nat} (d : decode cc pc = .ok (.iload i, 2)) (hk : jr_D l cc nL own ret nm fr lo k (pc + 2)) : jr_D l cc nL own ret nm fr lo (jk_iload i k) pc := by
  refine ⟨fun L S h h' r he => ?_, fun p e R s m args below meth c D h0 hF rF Q X ls L st S H locs h hL hS hW hV hM he => ?_⟩
  · unfold jk_iload at he
    split at he
    · exact hk.1 _ _ _ _ _ he
    · cases he
  · unfold jk_iload at he
    split at he
    · rename_i n hn
      obtain ⟨v, hv, x, rfl, hx⟩ := hL.at hn
      exact lv_iload X.1.1 X.1.2.1 d hv (hk.2 p e R s m args below meth c D h0 hF rF Q X ls L _ _ H locs h hL (jr_S.pi hx hS) hW hV hM he)
    · cases he
theorem js_aload_n {i : Fin 4} (d : decode cc pc = .ok (.aload_n i, 1)) (hk : jr_D l cc nL own ret nm fr lo k (pc + 1)) : jr_D l cc nL own ret nm fr lo (jk_aload (i : Nat) k) pc := by
  refine ⟨fun L S h h' r he => ?_, fun p e R s m args below meth c D h0 hF rF Q X ls L st S H locs h hL hS hW hV hM he => ?_⟩
  · unfold jk_aload at he
    split at he
    · exact hk.1 _ _ _ _ _ he
    · cases he
  · unfold jk_aload at he
    split at he
    · rename_i q hn
      obtain ⟨v, hv, hx⟩ := hL.at hn
      have hx : v = va_rf q := hx
      subst hx
      cases q with
      | none => exact lv_aload_nN X.1.1 X.1.2.1 d rfl hv (hk.2 p e R s m args below meth c D h0 hF rF Q X ls L _ _ H locs h hL (jr_S.pn hS) hW hV hM he)
      | some a => exact lv_aload_n X.1.1 X.1.2.1 d rfl hv (hk.2 p e R s m args below meth c D h0 hF rF Q X ls L _ _ H locs h hL (jr_S.pr hS) hW hV hM he)
    · cases he
theorem js_aload {i : Nat} (d : decode cc pc = .ok (.aload i, 2)) (hk : jr_D l cc nL own ret nm fr lo k (pc + 2)) : jr_D l cc nL own ret nm fr lo (jk_aload i k) pc := by
  refine ⟨fun L S h h' r he => ?_, fun p e R s m args below meth c D h0 hF rF Q X ls L st S H locs h hL hS hW hV hM he => ?_⟩
  · unfold jk_aload at he
    split at he
    · exact hk.1 _ _ _ _ _ he
    · cases he
  · unfold jk_aload at he
    split at he
    · rename_i q hn
      obtain ⟨v, hv, hx⟩ := hL.at hn
      have hx : v = va_rf q := hx
      subst hx
      cases q with
      | none => exact lv_aloadN X.1.1 X.1.2.1 d hv (hk.2 p e R s m args below meth c D h0 hF rF Q X ls L _ _ H locs h hL (jr_S.pn hS) hW hV hM he)
      | some a => exact lv_aload X.1.1 X.1.2.1 d hv (hk.2 p e R s m args below meth c D h0 hF rF Q X ls L _ _ H locs h hL (jr_S.pr hS) hW hV hM he)
    · cases he
theorem js_istore_n {i : Fin 4} (d : decode cc pc = .ok (.istore_n i, 1)) (hi : (i : Nat) < nL) (hk : jr_D l cc nL own ret nm fr lo k (pc + 1)) : jr_D l cc nL own ret nm fr lo (jk_istore (i : Nat) k) pc := by
  refine ⟨fun L S h h' r he => ?_, fun p e R s m args below meth c D h0 hF rF Q X ls L st S H locs h hL hS hW hV hM he => ?_⟩
  · unfold jk_istore at he
    split at he
    · exact hk.1 _ _ _ _ _ he
    · cases he
  · unfold jk_istore at he
    split at he
    · rename_i n S'
      obtain ⟨x, st', rfl, hx, hS'⟩ := hS.int
      obtain ⟨lv, h1, h2, h3⟩ := hL
      exact lv_istore_n X.1.1 X.1.2.1 d rfl h1 hi rfl (fun ls' h' => hk.2 p e R s m args below meth c D h0 hF rF Q X ls' _ _ _ H locs h (jr_L.kept (ls := ls) h2 h3 (jr_V.i hx) h') hS' hW hV hM he)
    · cases he
theorem js_istore {i : Nat} (d : decode cc pc = .ok (.istore i, 2)) (hi : i < nL) (hk : jr_D l cc nL own ret nm fr lo k (pc + 2)) : jr_D l cc nL own ret nm fr lo (jk_istore i k) pc := by
  refine ⟨fun L S h h' r he => ?_, fun p e R s m args below meth c D h0 hF rF Q X ls L st S H locs h hL hS hW hV hM he => ?_⟩
  · unfold jk_istore at he
    split at he
    · exact hk.1 _ _ _ _ _ he
    · cases he
  · unfold jk_istore at he
    split at he
    · rename_i n S'
      obtain ⟨x, st', rfl, hx, hS'⟩ := hS.int
      obtain ⟨lv, h1, h2, h3⟩ := hL
      exact lv_istore X.1.1 X.1.2.1 d h1 hi rfl (fun ls' h' => hk.2 p e R s m args below meth c D h0 hF rF Q X ls' _ _ _ H locs h (jr_L.kept (ls := ls) h2 h3 (jr_V.i hx) h') hS' hW hV hM he)
    · cases he
theorem js_astore_n {i : Fin 4} (d : decode cc pc = .ok (.astore_n i, 1)) (hi : (i : Nat) < nL) (hk : jr_D l cc nL own ret nm fr lo k (pc + 1)) : jr_D l cc nL own ret nm fr lo (jk_astore (i : Nat) k) pc := by
  refine ⟨fun L S h h' r he => ?_, fun p e R s m args below meth c D h0 hF rF Q X ls L st S H locs h hL hS hW hV hM he => ?_⟩
  · unfold jk_astore at he
    split at he
    · exact hk.1 _ _ _ _ _ he
    · cases he
  · unfold jk_astore at he
    split at he
    · rename_i q S'
      obtain ⟨st', rfl, hS'⟩ := hS.rf
      obtain ⟨lv, h1, h2, h3⟩ := hL
      cases q with
      | none => exact lv_astore_nN X.1.1 X.1.2.1 d rfl h1 hi rfl (fun ls' h' => hk.2 p e R s m args below meth c D h0 hF rF Q X ls' _ _ _ H locs h (jr_L.kept (ls := ls) h2 h3 jr_V.n h') hS' hW hV hM he)
      | some a => exact lv_astore_n X.1.1 X.1.2.1 d rfl h1 hi rfl (fun ls' h' => hk.2 p e R s m args below meth c D h0 hF rF Q X ls' _ _ _ H locs h (jr_L.kept (ls := ls) h2 h3 jr_V.r h') hS' hW hV hM he)
    · cases he
theorem js_astore {i : Nat} (d : decode cc pc = .ok (.astore i, 2)) (hi : i < nL) (hk : jr_D l cc nL own ret nm fr lo k (pc + 2)) : jr_D l cc nL own ret nm fr lo (jk_astore i k) pc := by
  refine ⟨fun L S h h' r he => ?_, fun p e R s m args below meth c D h0 hF rF Q X ls L st S H locs h hL hS hW hV hM he => ?_⟩
  · unfold jk_astore at he
    split at he
    · exact hk.1 _ _ _ _ _ he
    · cases he
  · unfold jk_astore at he
    split at he
    · rename_i q S'
      obtain ⟨st', rfl, hS'⟩ := hS.rf
      obtain ⟨lv, h1, h2, h3⟩ := hL
      cases q with
      | none => exact lv_astoreN X.1.1 X.1.2.1 d h1 hi rfl (fun ls' h' => hk.2 p e R s m args below meth c D h0 hF rF Q X ls' _ _ _ H locs h (jr_L.kept (ls := ls) h2 h3 jr_V.n h') hS' hW hV hM he)
      | some a => exact lv_astore X.1.1 X.1.2.1 d h1 hi rfl (fun ls' h' => hk.2 p e R s m args below meth c D h0 hF rF Q X ls' _ _ _ H locs h (jr_L.kept (ls := ls) h2 h3 jr_V.r h') hS' hW hV hM he)
    · cases he
theorem js_kill {i : Nat} (hk : jr_D l cc nL own ret nm fr lo k pc) : jr_D l cc nL own ret nm fr lo (jk_kill i k) pc := by
  refine ⟨fun L S h h' r he => hk.1 _ _ _ _ _ he, fun p e R s m args below meth c D h0 hF rF Q X ls L st S H locs h hL hS hW hV hM he => ?_⟩
  exact hk.2 p e R s m args below meth c D h0 hF rF Q X ls _ _ _ H locs h (hL.kill i) hS hW hV hM he
theorem js_iinc {i : Nat} {n : Int} (d : decode cc pc = .ok (.iinc i n, 3)) (hi : i < nL) (hk : jr_D l cc nL own ret nm fr lo k (pc + 3)) (hn : (Int32.ofInt n).toInt = n := by decide) : jr_D l cc nL own ret nm fr lo (jk_iinc i n k) pc := by
  refine ⟨fun L S h h' r he => ?_, fun p e R s m args below meth c D h0 hF rF Q X ls L st S H locs h hL hS hW hV hM he => ?_⟩
  · unfold jk_iinc at he
    split at he
    · exact hk.1 _ _ _ _ _ he
    · cases he
  · unfold jk_iinc at he
    split at he
    · rename_i z hz
      obtain ⟨lv, h1, h2, h3⟩ := hL
      obtain ⟨v, hm, x, rfl, hx⟩ := h3 i _ hz
      obtain ⟨j, hj⟩ := List.getElem?_of_mem hm
      exact lv_iinc X.1.1 X.1.2.1 d h1 hj rfl hi rfl (fun ls' h' => hk.2 p e R s m args below meth c D h0 hF rF Q X ls' _ _ _ H locs h (jr_L.kept (ls := ls) h2 h3 (jr_V.i (by rw [jm_add, hx, hn])) h') hS hW hV hM he)
    · cases he
theorem js_iadd (d : decode cc pc = .ok (.iadd, 1)) (hk : jr_D l cc nL own ret nm fr lo k (pc + 1)) : jr_D l cc nL own ret nm fr lo (jk_iadd k) pc := by
  refine ⟨fun L S h h' r he => ?_, fun p e R s m args below meth c D h0 hF rF Q X ls L st S H locs h hL hS hW hV hM he => ?_⟩
  · unfold jk_iadd at he
    split at he
    · exact hk.1 _ _ _ _ _ he
    · cases he
  · unfold jk_iadd at he
    split at he
    · rename_i y x S'
      obtain ⟨b, st1, rfl, hb, hS1⟩ := hS.int
      obtain ⟨a, st2, rfl, ha, hS2⟩ := hS1.int
      exact lv_iadd X.1.1 X.1.2.1 d (hk.2 p e R s m args below meth c D h0 hF rF Q X ls L _ _ H locs h hL (jr_S.pi (by rw [jm_add, ha, hb]) hS2) hW hV hM he)
    · cases he
theorem js_isub (d : decode cc pc = .ok (.isub, 1)) (hk : jr_D l cc nL own ret nm fr lo k (pc + 1)) : jr_D l cc nL own ret nm fr lo (jk_isub k) pc := by
  refine ⟨fun L S h h' r he => ?_, fun p e R s m args below meth c D h0 hF rF Q X ls L st S H locs h hL hS hW hV hM he => ?_⟩
  · unfold jk_isub at he
    split at he
    · exact hk.1 _ _ _ _ _ he
    · cases he
  · unfold jk_isub at he
    split at he
    · rename_i y x S'
      obtain ⟨b, st1, rfl, hb, hS1⟩ := hS.int
      obtain ⟨a, st2, rfl, ha, hS2⟩ := hS1.int
      exact lv_isub X.1.1 X.1.2.1 d (hk.2 p e R s m args below meth c D h0 hF rF Q X ls L _ _ H locs h hL (jr_S.pi (by rw [jm_sub, ha, hb]) hS2) hW hV hM he)
    · cases he
theorem js_imul (d : decode cc pc = .ok (.imul, 1)) (hk : jr_D l cc nL own ret nm fr lo k (pc + 1)) : jr_D l cc nL own ret nm fr lo (jk_imul k) pc := by
  refine ⟨fun L S h h' r he => ?_, fun p e R s m args below meth c D h0 hF rF Q X ls L st S H locs h hL hS hW hV hM he => ?_⟩
  · unfold jk_imul at he
    split at he
    · exact hk.1 _ _ _ _ _ he
    · cases he
  · unfold jk_imul at he
    split at he
    · rename_i y x S'
      obtain ⟨b, st1, rfl, hb, hS1⟩ := hS.int
      obtain ⟨a, st2, rfl, ha, hS2⟩ := hS1.int
      exact lv_imul X.1.1 X.1.2.1 d (hk.2 p e R s m args below meth c D h0 hF rF Q X ls L _ _ H locs h hL (jr_S.pi (by rw [jm_mul, ha, hb]) hS2) hW hV hM he)
    · cases he
theorem js_idiv (d : decode cc pc = .ok (.idiv, 1)) (hk : jr_D l cc nL own ret nm fr lo k (pc + 1)) : jr_D l cc nL own ret nm fr lo (jk_idiv k) pc := by
  refine ⟨fun L S h h' r he => ?_, fun p e R s m args below meth c D h0 hF rF Q X ls L st S H locs h hL hS hW hV hM he => ?_⟩
  · unfold jk_idiv at he
    split at he
    · split at he
      · cases he
      · exact hk.1 _ _ _ _ _ he
    · cases he
  · unfold jk_idiv at he
    split at he
    · rename_i y x S'
      obtain ⟨b, st1, rfl, hb, hS1⟩ := hS.int
      obtain ⟨a, st2, rfl, ha, hS2⟩ := hS1.int
      split at he
      · cases he
      · rename_i hne
        exact lv_idiv X.1.1 X.1.2.1 d (fun q => hne (by rw [← hb, q]; rfl)) (hk.2 p e R s m args below meth c D h0 hF rF Q X ls L _ _ H locs h hL (jr_S.pi (by rw [jm_div, ha, hb]) hS2) hW hV hM he)
    · cases he
theorem js_irem (d : decode cc pc = .ok (.irem, 1)) (hk : jr_D l cc nL own ret nm fr lo k (pc + 1)) : jr_D l cc nL own ret nm fr lo (jk_irem k) pc := by
  refine ⟨fun L S h h' r he => ?_, fun p e R s m args below meth c D h0 hF rF Q X ls L st S H locs h hL hS hW hV hM he => ?_⟩
  · unfold jk_irem at he
    split at he
    · split at he
      · cases he
      · exact hk.1 _ _ _ _ _ he
    · cases he
  · unfold jk_irem at he
    split at he
    · rename_i y x S'
      obtain ⟨b, st1, rfl, hb, hS1⟩ := hS.int
      obtain ⟨a, st2, rfl, ha, hS2⟩ := hS1.int
      split at he
      · cases he
      · rename_i hne
        exact lv_irem X.1.1 X.1.2.1 d (fun q => hne (by rw [← hb, q]; rfl)) (hk.2 p e R s m args below meth c D h0 hF rF Q X ls L _ _ H locs h hL (jr_S.pi (by rw [jm_sub, jm_mul, jm_div, ha, hb]) hS2) hW hV hM he)
    · cases he
theorem js_and15 (d : decode cc pc = .ok (.iand, 1)) (hk : jr_D l cc nL own ret nm fr lo k (pc + 1)) : jr_D l cc nL own ret nm fr lo (jk_and15 k) pc := by
  refine ⟨fun L S h h' r he => ?_, fun p e R s m args below meth c D h0 hF rF Q X ls L st S H locs h hL hS hW hV hM he => ?_⟩
  · unfold jk_and15 at he
    split at he
    · split at he
      · exact hk.1 _ _ _ _ _ he
      · cases he
    · cases he
  · unfold jk_and15 at he
    split at he
    · rename_i y x S'
      obtain ⟨b, st1, rfl, hb, hS1⟩ := hS.int
      obtain ⟨a, st2, rfl, ha, hS2⟩ := hS1.int
      split at he
      · rename_i h15
        have hb15 : b = 15 := (jm_eq b 15).mpr (by rw [hb, h15]; rfl)
        subst hb15
        exact lv_iand X.1.1 X.1.2.1 d (hk.2 p e R s m args below meth c D h0 hF rF Q X ls L _ _ H locs h hL (jr_S.pi (by rw [jm_a15, ha]) hS2) hW hV hM he)
      · cases he
    · cases he
theorem js_i2b (d : decode cc pc = .ok (.i2b, 1)) (hk : jr_D l cc nL own ret nm fr lo k (pc + 1)) : jr_D l cc nL own ret nm fr lo (jk_i2b k) pc := by
  refine ⟨fun L S h h' r he => ?_, fun p e R s m args below meth c D h0 hF rF Q X ls L st S H locs h hL hS hW hV hM he => ?_⟩
  · unfold jk_i2b at he
    split at he
    · exact hk.1 _ _ _ _ _ he
    · cases he
  · unfold jk_i2b at he
    split at he
    · rename_i x S'
      obtain ⟨a, st1, rfl, ha, hS1⟩ := hS.int
      exact lv_i2b X.1.1 X.1.2.1 d rfl (hk.2 p e R s m args below meth c D h0 hF rF Q X ls L _ _ H locs h hL (jr_S.pi (by rw [jm_i8, ha]) hS1) hW hV hM he)
    · cases he
theorem js_dup (d : decode cc pc = .ok (.dup, 1)) (hk : jr_D l cc nL own ret nm fr lo k (pc + 1)) : jr_D l cc nL own ret nm fr lo (jk_dup k) pc := by
  refine ⟨fun L S h h' r he => ?_, fun p e R s m args below meth c D h0 hF rF Q X ls L st S H locs h hL hS hW hV hM he => ?_⟩
  · unfold jk_dup at he
    split at he
    · exact hk.1 _ _ _ _ _ he
    · cases he
  · unfold jk_dup at he
    split at he
    · rename_i u S'
      obtain ⟨v, st1, rfl, hv, hS1⟩ := hS.cons
      exact lv_dup X.1.1 X.1.2.1 d hv.cat (hk.2 p e R s m args below meth c D h0 hF rF Q X ls L _ _ H locs h hL (jr_S.pv hv (jr_S.pv hv hS1)) hW hV hM he)
    · cases he
theorem js_dup2 (d : decode cc pc = .ok (.dup2, 1)) (hk : jr_D l cc nL own ret nm fr lo k (pc + 1)) : jr_D l cc nL own ret nm fr lo (jk_dup2 k) pc := by
  refine ⟨fun L S h h' r he => ?_, fun p e R s m args below meth c D h0 hF rF Q X ls L st S H locs h hL hS hW hV hM he => ?_⟩
  · unfold jk_dup2 at he
    split at he
    · exact hk.1 _ _ _ _ _ he
    · cases he
  · unfold jk_dup2 at he
    split at he
    · rename_i u w S'
      obtain ⟨v, st1, rfl, hv, hS1⟩ := hS.cons
      obtain ⟨v2, st2, rfl, hv2, hS2⟩ := hS1.cons
      exact lv_dup2_11 X.1.1 X.1.2.1 d hv.cat hv2.cat (hk.2 p e R s m args below meth c D h0 hF rF Q X ls L _ _ H locs h hL (jr_S.pv hv (jr_S.pv hv2 (jr_S.pv hv (jr_S.pv hv2 hS2)))) hW hV hM he)
    · cases he
theorem js_ifeq {off : Int} {tgt : Nat} (d : decode cc pc = .ok (.ifCond .eq off, 3)) (ht : (pc : Int) + off = (tgt : Int)) (hkt : jr_D l cc nL own ret nm fr lo kt tgt) (hkf : jr_D l cc nL own ret nm fr lo kf (pc + 3)) : jr_D l cc nL own ret nm fr lo (jk_ifeq kt kf) pc := by
  refine ⟨fun L S h h' r he => ?_, fun p e R s m args below meth c D h0 hF rF Q X ls L st S H locs h hL hS hW hV hM he => ?_⟩
  · unfold jk_ifeq at he
    split at he
    · split at he
      · exact hkt.1 _ _ _ _ _ he
      · exact hkf.1 _ _ _ _ _ he
    · cases he
  · unfold jk_ifeq at he
    split at he
    · rename_i x S'
      obtain ⟨a, st1, rfl, ha, hS1⟩ := hS.int
      subst ha
      refine lv_if_eq X.1.1 X.1.2.1 d ht (fun q => ?_) (fun q => ?_)
      · rw [if_pos ((jm_z a).mp q)] at he
        exact hkt.2 p e R s m args below meth c D h0 hF rF Q X ls L _ _ H locs h hL hS1 hW hV hM he
      · rw [if_neg (fun z => q ((jm_z a).mpr z))] at he
        exact hkf.2 p e R s m args below meth c D h0 hF rF Q X ls L _ _ H locs h hL hS1 hW hV hM he
    · cases he
theorem js_ifne {off : Int} {tgt : Nat} (d : decode cc pc = .ok (.ifCond .ne off, 3)) (ht : (pc : Int) + off = (tgt : Int)) (hkt : jr_D l cc nL own ret nm fr lo kt tgt) (hkf : jr_D l cc nL own ret nm fr lo kf (pc + 3)) : jr_D l cc nL own ret nm fr lo (jk_ifne kt kf) pc := by
  refine ⟨fun L S h h' r he => ?_, fun p e R s m args below meth c D h0 hF rF Q X ls L st S H locs h hL hS hW hV hM he => ?_⟩
  · unfold jk_ifne at he
    split at he
    · split at he
      · exact hkf.1 _ _ _ _ _ he
      · exact hkt.1 _ _ _ _ _ he
    · cases he
  · unfold jk_ifne at he
    split at he
    · rename_i x S'
      obtain ⟨a, st1, rfl, ha, hS1⟩ := hS.int
      subst ha
      refine lv_if_ne X.1.1 X.1.2.1 d ht (fun q => ?_) (fun q => ?_)
      · rw [if_neg (fun z => q ((jm_z a).mpr z))] at he
        exact hkt.2 p e R s m args below meth c D h0 hF rF Q X ls L _ _ H locs h hL hS1 hW hV hM he
      · rw [if_pos ((jm_z a).mp q)] at he
        exact hkf.2 p e R s m args below meth c D h0 hF rF Q X ls L _ _ H locs h hL hS1 hW hV hM he
    · cases he
theorem js_iflt {off : Int} {tgt : Nat} (d : decode cc pc = .ok (.ifCond .lt off, 3)) (ht : (pc : Int) + off = (tgt : Int)) (hkt : jr_D l cc nL own ret nm fr lo kt tgt) (hkf : jr_D l cc nL own ret nm fr lo kf (pc + 3)) : jr_D l cc nL own ret nm fr lo (jk_iflt kt kf) pc := by
  refine ⟨fun L S h h' r he => ?_, fun p e R s m args below meth c D h0 hF rF Q X ls L st S H locs h hL hS hW hV hM he => ?_⟩
  · unfold jk_iflt at he
    split at he
    · split at he
      · exact hkt.1 _ _ _ _ _ he
      · exact hkf.1 _ _ _ _ _ he
    · cases he
  · unfold jk_iflt at he
    split at he
    · rename_i x S'
      obtain ⟨a, st1, rfl, ha, hS1⟩ := hS.int
      subst ha
      refine lv_if_lt X.1.1 X.1.2.1 d ht (fun q => ?_) (fun q => ?_)
      · rw [if_pos ((jm_lz a).mp q)] at he
        exact hkt.2 p e R s m args below meth c D h0 hF rF Q X ls L _ _ H locs h hL hS1 hW hV hM he
      · rw [if_neg (fun z => q ((jm_lz a).mpr z))] at he
        exact hkf.2 p e R s m args below meth c D h0 hF rF Q X ls L _ _ H locs h hL hS1 hW hV hM he
    · cases he
theorem js_ifge {off : Int} {tgt : Nat} (d : decode cc pc = .ok (.ifCond .ge off, 3)) (ht : (pc : Int) + off = (tgt : Int)) (hkt : jr_D l cc nL own ret nm fr lo kt tgt) (hkf : jr_D l cc nL own ret nm fr lo kf (pc + 3)) : jr_D l cc nL own ret nm fr lo (jk_ifge kt kf) pc := by
  refine ⟨fun L S h h' r he => ?_, fun p e R s m args below meth c D h0 hF rF Q X ls L st S H locs h hL hS hW hV hM he => ?_⟩
  · unfold jk_ifge at he
    split at he
    · split at he
      · exact hkf.1 _ _ _ _ _ he
      · exact hkt.1 _ _ _ _ _ he
    · cases he
  · unfold jk_ifge at he
    split at he
    · rename_i x S'
      obtain ⟨a, st1, rfl, ha, hS1⟩ := hS.int
      subst ha
      refine lv_if_ge X.1.1 X.1.2.1 d ht (fun q => ?_) (fun q => ?_)
      · rw [if_neg (fun z => Int.not_le.mpr z ((jm_zle a).mp q))] at he
        exact hkt.2 p e R s m args below meth c D h0 hF rF Q X ls L _ _ H locs h hL hS1 hW hV hM he
      · rw [if_pos (Int.not_le.mp fun z => q ((jm_zle a).mpr z))] at he
        exact hkf.2 p e R s m args below meth c D h0 hF rF Q X ls L _ _ H locs h hL hS1 hW hV hM he
    · cases he
theorem js_ifgt {off : Int} {tgt : Nat} (d : decode cc pc = .ok (.ifCond .gt off, 3)) (ht : (pc : Int) + off = (tgt : Int)) (hkt : jr_D l cc nL own ret nm fr lo kt tgt) (hkf : jr_D l cc nL own ret nm fr lo kf (pc + 3)) : jr_D l cc nL own ret nm fr lo (jk_ifgt kt kf) pc := by
  refine ⟨fun L S h h' r he => ?_, fun p e R s m args below meth c D h0 hF rF Q X ls L st S H locs h hL hS hW hV hM he => ?_⟩
  · unfold jk_ifgt at he
    split at he
    · split at he
      · exact hkt.1 _ _ _ _ _ he
      · exact hkf.1 _ _ _ _ _ he
    · cases he
  · unfold jk_ifgt at he
    split at he
    · rename_i x S'
      obtain ⟨a, st1, rfl, ha, hS1⟩ := hS.int
      subst ha
      refine lv_if_gt X.1.1 X.1.2.1 d ht (fun q => ?_) (fun q => ?_)
      · rw [if_pos ((jm_zl a).mp q)] at he
        exact hkt.2 p e R s m args below meth c D h0 hF rF Q X ls L _ _ H locs h hL hS1 hW hV hM he
      · rw [if_neg (fun z => q ((jm_zl a).mpr z))] at he
        exact hkf.2 p e R s m args below meth c D h0 hF rF Q X ls L _ _ H locs h hL hS1 hW hV hM he
    · cases he
theorem js_ifle {off : Int} {tgt : Nat} (d : decode cc pc = .ok (.ifCond .le off, 3)) (ht : (pc : Int) + off = (tgt : Int)) (hkt : jr_D l cc nL own ret nm fr lo kt tgt) (hkf : jr_D l cc nL own ret nm fr lo kf (pc + 3)) : jr_D l cc nL own ret nm fr lo (jk_ifle kt kf) pc := by
  refine ⟨fun L S h h' r he => ?_, fun p e R s m args below meth c D h0 hF rF Q X ls L st S H locs h hL hS hW hV hM he => ?_⟩
  · unfold jk_ifle at he
    split at he
    · split at he
      · exact hkf.1 _ _ _ _ _ he
      · exact hkt.1 _ _ _ _ _ he
    · cases he
  · unfold jk_ifle at he
    split at he
    · rename_i x S'
      obtain ⟨a, st1, rfl, ha, hS1⟩ := hS.int
      subst ha
      refine lv_if_le X.1.1 X.1.2.1 d ht (fun q => ?_) (fun q => ?_)
      · rw [if_neg (fun z => Int.not_le.mpr z ((jm_lez a).mp q))] at he
        exact hkt.2 p e R s m args below meth c D h0 hF rF Q X ls L _ _ H locs h hL hS1 hW hV hM he
      · rw [if_pos (Int.not_le.mp fun z => q ((jm_lez a).mpr z))] at he
        exact hkf.2 p e R s m args below meth c D h0 hF rF Q X ls L _ _ H locs h hL hS1 hW hV hM he
    · cases he
theorem js_icmpeq {off : Int} {tgt : Nat} (d : decode cc pc = .ok (.if_icmp .eq off, 3)) (ht : (pc : Int) + off = (tgt : Int)) (hkt : jr_D l cc nL own ret nm fr lo kt tgt) (hkf : jr_D l cc nL own ret nm fr lo kf (pc + 3)) : jr_D l cc nL own ret nm fr lo (jk_icmpeq kt kf) pc := by
  refine ⟨fun L S h h' r he => ?_, fun p e R s m args below meth c D h0 hF rF Q X ls L st S H locs h hL hS hW hV hM he => ?_⟩
  · unfold jk_icmpeq at he
    split at he
    · split at he
      · exact hkt.1 _ _ _ _ _ he
      · exact hkf.1 _ _ _ _ _ he
    · cases he
  · unfold jk_icmpeq at he
    split at he
    · rename_i y x S'
      obtain ⟨b, st1, rfl, hb, hS1⟩ := hS.int
      obtain ⟨a, st2, rfl, ha, hS2⟩ := hS1.int
      subst ha
      subst hb
      refine lv_icmp_eq X.1.1 X.1.2.1 d ht (fun q => ?_) (fun q => ?_)
      · rw [if_pos ((jm_eq a b).mp q)] at he
        exact hkt.2 p e R s m args below meth c D h0 hF rF Q X ls L _ _ H locs h hL hS2 hW hV hM he
      · rw [if_neg (fun z => q ((jm_eq a b).mpr z))] at he
        exact hkf.2 p e R s m args below meth c D h0 hF rF Q X ls L _ _ H locs h hL hS2 hW hV hM he
    · cases he
theorem js_icmpne {off : Int} {tgt : Nat} (d : decode cc pc = .ok (.if_icmp .ne off, 3)) (ht : (pc : Int) + off = (tgt : Int)) (hkt : jr_D l cc nL own ret nm fr lo kt tgt) (hkf : jr_D l cc nL own ret nm fr lo kf (pc + 3)) : jr_D l cc nL own ret nm fr lo (jk_icmpne kt kf) pc := by
  refine ⟨fun L S h h' r he => ?_, fun p e R s m args below meth c D h0 hF rF Q X ls L st S H locs h hL hS hW hV hM he => ?_⟩
  · unfold jk_icmpne at he
    split at he
    · split at he
      · exact hkf.1 _ _ _ _ _ he
      · exact hkt.1 _ _ _ _ _ he
    · cases he
  · unfold jk_icmpne at he
    split at he
    · rename_i y x S'
      obtain ⟨b, st1, rfl, hb, hS1⟩ := hS.int
      obtain ⟨a, st2, rfl, ha, hS2⟩ := hS1.int
      subst ha
      subst hb
      refine lv_icmp_ne X.1.1 X.1.2.1 d ht (fun q => ?_) (fun q => ?_)
      · rw [if_neg (fun z => q ((jm_eq a b).mpr z))] at he
        exact hkt.2 p e R s m args below meth c D h0 hF rF Q X ls L _ _ H locs h hL hS2 hW hV hM he
      · rw [if_pos ((jm_eq a b).mp q)] at he
        exact hkf.2 p e R s m args below meth c D h0 hF rF Q X ls L _ _ H locs h hL hS2 hW hV hM he
    · cases he
theorem js_icmplt {off : Int} {tgt : Nat} (d : decode cc pc = .ok (.if_icmp .lt off, 3)) (ht : (pc : Int) + off = (tgt : Int)) (hkt : jr_D l cc nL own ret nm fr lo kt tgt) (hkf : jr_D l cc nL own ret nm fr lo kf (pc + 3)) : jr_D l cc nL own ret nm fr lo (jk_icmplt kt kf) pc := by
  refine ⟨fun L S h h' r he => ?_, fun p e R s m args below meth c D h0 hF rF Q X ls L st S H locs h hL hS hW hV hM he => ?_⟩
  · unfold jk_icmplt at he
    split at he
    · split at he
      · exact hkt.1 _ _ _ _ _ he
      · exact hkf.1 _ _ _ _ _ he
    · cases he
  · unfold jk_icmplt at he
    split at he
    · rename_i y x S'
      obtain ⟨b, st1, rfl, hb, hS1⟩ := hS.int
      obtain ⟨a, st2, rfl, ha, hS2⟩ := hS1.int
      subst ha
      subst hb
      refine lv_icmp_lt X.1.1 X.1.2.1 d ht (fun q => ?_) (fun q => ?_)
      · rw [if_pos ((jm_lt a b).mp q)] at he
        exact hkt.2 p e R s m args below meth c D h0 hF rF Q X ls L _ _ H locs h hL hS2 hW hV hM he
      · rw [if_neg (fun z => q ((jm_lt a b).mpr z))] at he
        exact hkf.2 p e R s m args below meth c D h0 hF rF Q X ls L _ _ H locs h hL hS2 hW hV hM he
    · cases he
theorem js_icmpge {off : Int} {tgt : Nat} (d : decode cc pc = .ok (.if_icmp .ge off, 3)) (ht : (pc : Int) + off = (tgt : Int)) (hkt : jr_D l cc nL own ret nm fr lo kt tgt) (hkf : jr_D l cc nL own ret nm fr lo kf (pc + 3)) : jr_D l cc nL own ret nm fr lo (jk_icmpge kt kf) pc := by
  refine ⟨fun L S h h' r he => ?_, fun p e R s m args below meth c D h0 hF rF Q X ls L st S H locs h hL hS hW hV hM he => ?_⟩
  · unfold jk_icmpge at he
    split at he
    · split at he
      · exact hkf.1 _ _ _ _ _ he
      · exact hkt.1 _ _ _ _ _ he
    · cases he
  · unfold jk_icmpge at he
    split at he
    · rename_i y x S'
      obtain ⟨b, st1, rfl, hb, hS1⟩ := hS.int
      obtain ⟨a, st2, rfl, ha, hS2⟩ := hS1.int
      subst ha
      subst hb
      refine lv_icmp_ge X.1.1 X.1.2.1 d ht (fun q => ?_) (fun q => ?_)
      · rw [if_neg (fun z => Int.not_le.mpr z ((jm_le b a).mp q))] at he
        exact hkt.2 p e R s m args below meth c D h0 hF rF Q X ls L _ _ H locs h hL hS2 hW hV hM he
      · rw [if_pos (Int.not_le.mp fun z => q ((jm_le b a).mpr z))] at he
        exact hkf.2 p e R s m args below meth c D h0 hF rF Q X ls L _ _ H locs h hL hS2 hW hV hM he
    · cases he
theorem js_icmpgt {off : Int} {tgt : Nat} (d : decode cc pc = .ok (.if_icmp .gt off, 3)) (ht : (pc : Int) + off = (tgt : Int)) (hkt : jr_D l cc nL own ret nm fr lo kt tgt) (hkf : jr_D l cc nL own ret nm fr lo kf (pc + 3)) : jr_D l cc nL own ret nm fr lo (jk_icmpgt kt kf) pc := by
  refine ⟨fun L S h h' r he => ?_, fun p e R s m args below meth c D h0 hF rF Q X ls L st S H locs h hL hS hW hV hM he => ?_⟩
  · unfold jk_icmpgt at he
    split at he
    · split at he
      · exact hkt.1 _ _ _ _ _ he
      · exact hkf.1 _ _ _ _ _ he
    · cases he
  · unfold jk_icmpgt at he
    split at he
    · rename_i y x S'
      obtain ⟨b, st1, rfl, hb, hS1⟩ := hS.int
      obtain ⟨a, st2, rfl, ha, hS2⟩ := hS1.int
      subst ha
      subst hb
      refine lv_icmp_gt X.1.1 X.1.2.1 d ht (fun q => ?_) (fun q => ?_)
      · rw [if_pos ((jm_lt b a).mp q)] at he
        exact hkt.2 p e R s m args below meth c D h0 hF rF Q X ls L _ _ H locs h hL hS2 hW hV hM he
      · rw [if_neg (fun z => q ((jm_lt b a).mpr z))] at he
        exact hkf.2 p e R s m args below meth c D h0 hF rF Q X ls L _ _ H locs h hL hS2 hW hV hM he
    · cases he
theorem js_icmple {off : Int} {tgt : Nat} (d : decode cc pc = .ok (.if_icmp .le off, 3)) (ht : (pc : Int) + off = (tgt : Int)) (hkt : jr_D l cc nL own ret nm fr lo kt tgt) (hkf : jr_D l cc nL own ret nm fr lo kf (pc + 3)) : jr_D l cc nL own ret nm fr lo (jk_icmple kt kf) pc := by
  refine ⟨fun L S h h' r he => ?_, fun p e R s m args below meth c D h0 hF rF Q X ls L st S H locs h hL hS hW hV hM he => ?_⟩
  · unfold jk_icmple at he
    split at he
    · split at he
      · exact hkf.1 _ _ _ _ _ he
      · exact hkt.1 _ _ _ _ _ he
    · cases he
  · unfold jk_icmple at he
    split at he
    · rename_i y x S'
      obtain ⟨b, st1, rfl, hb, hS1⟩ := hS.int
      obtain ⟨a, st2, rfl, ha, hS2⟩ := hS1.int
      subst ha
      subst hb
      refine lv_icmp_le X.1.1 X.1.2.1 d ht (fun q => ?_) (fun q => ?_)
      · rw [if_neg (fun z => Int.not_le.mpr z ((jm_le a b).mp q))] at he
        exact hkt.2 p e R s m args below meth c D h0 hF rF Q X ls L _ _ H locs h hL hS2 hW hV hM he
      · rw [if_pos (Int.not_le.mp fun z => q ((jm_le a b).mpr z))] at he
        exact hkf.2 p e R s m args below meth c D h0 hF rF Q X ls L _ _ H locs h hL hS2 hW hV hM he
    · cases he
theorem js_goto {off : Int} {tgt : Nat} (d : decode cc pc = .ok (.goto off, 3)) (ht : (pc : Int) + off = (tgt : Int)) (hk : jr_D l cc nL own ret nm fr lo k tgt) : jr_D l cc nL own ret nm fr lo k pc := by
  refine ⟨hk.1, fun p e R s m args below meth c D h0 hF rF Q X ls L st S H locs h hL hS hW hV hM he => ?_⟩
  exact lv_goto X.1.1 X.1.2.1 d ht (hk.2 p e R s m args below meth c D h0 hF rF Q X ls L _ _ H locs h hL hS hW hV hM he)
theorem js_ifnull {off : Int} {tgt : Nat} (d : decode cc pc = .ok (.ifnull off, 3)) (ht : (pc : Int) + off = (tgt : Int)) (hkt : jr_D l cc nL own ret nm fr lo kt tgt) (hkf : jr_D l cc nL own ret nm fr lo kf (pc + 3)) : jr_D l cc nL own ret nm fr lo (jk_ifnull kt kf) pc := by
  refine ⟨fun L S h h' r he => ?_, fun p e R s m args below meth c D h0 hF rF Q X ls L st S H locs h hL hS hW hV hM he => ?_⟩
  · unfold jk_ifnull at he
    split at he
    · exact hkt.1 _ _ _ _ _ he
    · exact hkf.1 _ _ _ _ _ he
    · cases he
  · unfold jk_ifnull at he
    split at he
    · obtain ⟨st1, rfl, hS1⟩ := hS.rf
      exact lv_ifnullN X.1.1 X.1.2.1 d ht (hkt.2 p e R s m args below meth c D h0 hF rF Q X ls L _ _ H locs h hL hS1 hW hV hM he)
    · obtain ⟨st1, rfl, hS1⟩ := hS.rf
      exact lv_ifnull X.1.1 X.1.2.1 d (hkf.2 p e R s m args below meth c D h0 hF rF Q X ls L _ _ H locs h hL hS1 hW hV hM he)
    · cases he
theorem js_ifnonnull {off : Int} {tgt : Nat} (d : decode cc pc = .ok (.ifnonnull off, 3)) (ht : (pc : Int) + off = (tgt : Int)) (hkt : jr_D l cc nL own ret nm fr lo kt tgt) (hkf : jr_D l cc nL own ret nm fr lo kf (pc + 3)) : jr_D l cc nL own ret nm fr lo (jk_ifnonnull kt kf) pc := by
  refine ⟨fun L S h h' r he => ?_, fun p e R s m args below meth c D h0 hF rF Q X ls L st S H locs h hL hS hW hV hM he => ?_⟩
  · unfold jk_ifnonnull at he
    split at he
    · exact hkf.1 _ _ _ _ _ he
    · exact hkt.1 _ _ _ _ _ he
    · cases he
  · unfold jk_ifnonnull at he
    split at he
    · obtain ⟨st1, rfl, hS1⟩ := hS.rf
      exact lv_ifnonnullN X.1.1 X.1.2.1 d (hkf.2 p e R s m args below meth c D h0 hF rF Q X ls L _ _ H locs h hL hS1 hW hV hM he)
    · obtain ⟨st1, rfl, hS1⟩ := hS.rf
      exact lv_ifnonnull X.1.1 X.1.2.1 d ht (hkt.2 p e R s m args below meth c D h0 hF rF Q X ls L _ _ H locs h hL hS1 hW hV hM he)
    · cases he
/-- a table's rows, one behind the other -/
def jr_tab (l : Launch) (cc : ByteArray) (nL : Nat) (own : String) (ret : Option FieldType) (nm : String) (fr lo pc : Nat) : Int → List Int → List (Int × jK) → Prop
  | _, [], [] => True
  | v, off :: os, (w, k) :: cs => w = v ∧ (∃ tgt : Nat, (pc : Int) + off = (tgt : Int) ∧ jr_D l cc nL own ret nm fr lo k tgt) ∧ jr_tab l cc nL own ret nm fr lo pc (v + 1) os cs
  | _, _, _ => False
theorem jr_tab.mono {v : Int} {os : List Int} {cs : List (Int × jK)} {dk : jK} (h : jr_tab l cc nL own ret nm fr lo pc v os cs) {td : Nat} (hd : jr_D l cc nL own ret nm fr lo dk td) (x : Int) : ∀ (L : List (Option jV)) (S : List jV) (h h' : jH) (r : Option jV), jm_pick x cs dk L S h = some (r, h') → jr_M h h' := by
  induction cs generalizing v os with
  | nil => exact hd.1
  | cons q cs ih => cases os with
    | nil => exact h.elim
    | cons off os =>
      obtain ⟨-, ⟨tgt, -, hk⟩, ht⟩ := h
      unfold jm_pick
      split
      · exact hk.1
      · exact ih ht
theorem jr_tab.get {v : Int} {os : List Int} {cs : List (Int × jK)} {dk : jK} (h : jr_tab l cc nL own ret nm fr lo pc v os cs) (x : Int) (h1 : v ≤ x) (h2 : x < v + os.length) : ∃ (off : Int) (tgt : Nat), os[(x - v).toNat]? = some off ∧ (pc : Int) + off = (tgt : Int) ∧ jr_D l cc nL own ret nm fr lo (jm_pick x cs dk) tgt := by
  induction cs generalizing v os with
  | nil => cases os with
    | nil => simp at h2; omega
    | cons off os => exact h.elim
  | cons q cs ih => cases os with
    | nil => exact h.elim
    | cons off os =>
      obtain ⟨w, k⟩ := q
      obtain ⟨rfl, ⟨tgt, ht, hk⟩, hr⟩ := h
      by_cases hx : x = w
      · subst hx
        refine ⟨off, tgt, by simp, ht, ?_⟩
        unfold jm_pick
        rw [if_pos rfl]
        exact hk
      · obtain ⟨off', tgt', a, b, c⟩ := ih hr (by omega) (by simp at h2 ⊢; omega)
        refine ⟨off', tgt', ?_, b, ?_⟩
        · rw [show (x - w).toNat = (x - (w + 1)).toNat + 1 by omega, List.getElem?_cons_succ]
          exact a
        · unfold jm_pick
          rw [if_neg hx]
          exact c
theorem jr_tab.out {v : Int} {os : List Int} {cs : List (Int × jK)} {dk : jK} (h : jr_tab l cc nL own ret nm fr lo pc v os cs) (x : Int) (hx : x < v ∨ v + os.length ≤ x) : jm_pick x cs dk = dk := by
  induction cs generalizing v os with
  | nil => rfl
  | cons q cs ih => cases os with
    | nil => exact h.elim
    | cons off os =>
      obtain ⟨w, k⟩ := q
      obtain ⟨rfl, -, hr⟩ := h
      unfold jm_pick
      rw [if_neg (by simp at hx; omega)]
      exact ih hr (by simp at hx ⊢; omega)
theorem js_tsw {dflt lo' hi : Int} {offs : Array Int} {len td : Nat} {cs : List (Int × jK)} {dk : jK} (d : decode cc pc = .ok (.tableswitch dflt lo' hi offs, len)) (hh : hi = lo' + offs.toList.length - 1) (htd : (pc : Int) + dflt = (td : Int)) (hd : jr_D l cc nL own ret nm fr lo dk td) (ht : jr_tab l cc nL own ret nm fr lo pc lo' offs.toList cs) : jr_D l cc nL own ret nm fr lo (jk_sw cs dk) pc := by
  refine ⟨fun L S h h' r he => ?_, fun p e R s m args below meth c D h0 hF rF Q X ls L st S H locs h hL hS hW hV hM he => ?_⟩
  · unfold jk_sw at he
    split at he
    · exact ht.mono hd _ _ _ _ _ _ he
    · cases he
  · unfold jk_sw at he
    split at he
    · rename_i x S'
      obtain ⟨a, st1, rfl, ha, hS1⟩ := hS.int
      subst ha
      by_cases hx : a.toInt < lo' ∨ hi < a.toInt
      · rw [ht.out _ (by omega)] at he
        exact lv_tableOut X.1.1 X.1.2.1 d hx htd (hd.2 p e R s m args below meth c D h0 hF rF Q X ls L _ _ H locs h hL hS1 hW hV hM he)
      · obtain ⟨off, tgt, e1, e2, e3⟩ := ht.get (dk := dk) a.toInt (by omega) (by omega)
        exact lv_tableIn X.1.1 X.1.2.1 d (by omega) (by omega) (by rw [← Array.getElem?_toList]; exact e1) e2 (e3.2 p e R s m args below meth c D h0 hF rF Q X ls L _ _ H locs h hL hS1 hW hV hM he)
    · cases he
def jr_lkp (l : Launch) (cc : ByteArray) (nL : Nat) (own : String) (ret : Option FieldType) (nm : String) (fr lo pc : Nat) : List (Int × Int) → List (Int × jK) → Prop
  | [], [] => True
  | (v, off) :: os, (w, k) :: cs => w = v ∧ (∃ tgt : Nat, (pc : Int) + off = (tgt : Int) ∧ jr_D l cc nL own ret nm fr lo k tgt) ∧ jr_lkp l cc nL own ret nm fr lo pc os cs
  | _, _ => False
theorem jr_lkp.get {os : List (Int × Int)} {cs : List (Int × jK)} {dk : jK} (h : jr_lkp l cc nL own ret nm fr lo pc os cs) {dflt : Int} {td : Nat} (htd : (pc : Int) + dflt = (td : Int)) (hd : jr_D l cc nL own ret nm fr lo dk td) (x : Int) : ∃ tgt : Nat, (pc : Int) + Op.lookupswitch.offset os dflt x = (tgt : Int) ∧ jr_D l cc nL own ret nm fr lo (jm_pick x cs dk) tgt := by
  induction cs generalizing os with
  | nil => cases os with
    | nil => exact ⟨td, htd, hd⟩
    | cons q os => obtain ⟨v, off⟩ := q; exact h.elim
  | cons q cs ih => cases os with
    | nil => exact h.elim
    | cons q2 os =>
      obtain ⟨w, k⟩ := q
      obtain ⟨v, off⟩ := q2
      obtain ⟨rfl, ⟨tgt, ht, hk⟩, hr⟩ := h
      unfold jm_pick
      rw [Op.lookupswitch.offset_cons]
      by_cases hx : x = w
      · rw [if_pos hx, if_pos (by first | exact hx | exact hx.symm)]
        exact ⟨tgt, ht, hk⟩
      · rw [if_neg hx, if_neg (by first | exact hx | exact fun q => hx q.symm)]
        exact ih hr
theorem js_lsw {dflt : Int} {ps : Array (Int × Int)} {len td : Nat} {cs : List (Int × jK)} {dk : jK} (d : decode cc pc = .ok (.lookupswitch dflt ps, len)) (hp : (ps.toList.zip (ps.toList.drop 1)).all (fun (a, next) => a.1 < next.1) = true) (htd : (pc : Int) + dflt = (td : Int)) (hd : jr_D l cc nL own ret nm fr lo dk td) (ht : jr_lkp l cc nL own ret nm fr lo pc ps.toList cs) : jr_D l cc nL own ret nm fr lo (jk_sw cs dk) pc := by
  refine ⟨fun L S h h' r he => ?_, fun p e R s m args below meth c D h0 hF rF Q X ls L st S H locs h hL hS hW hV hM he => ?_⟩
  · unfold jk_sw at he
    split at he
    · rename_i x S'
      obtain ⟨tgt, -, hk⟩ := ht.get htd hd x
      exact hk.1 _ _ _ _ _ he
    · cases he
  · unfold jk_sw at he
    split at he
    · rename_i x S'
      obtain ⟨a, st1, rfl, ha, hS1⟩ := hS.int
      subst ha
      obtain ⟨tgt, e2, e3⟩ := ht.get htd hd a.toInt
      exact lv_lookup X.1.1 X.1.2.1 d hp rfl e2 (e3.2 p e R s m args below meth c D h0 hF rF Q X ls L _ _ H locs h hL hS1 hW hV hM he)
    · cases he
theorem js_fix {F : (Nat → jK) → Nat → jK} (hF : ∀ K : Nat → jK, (∀ b, jr_D l cc nL own ret nm fr lo (K b) b) → ∀ b, jr_D l cc nL own ret nm fr lo (F K b) b) : ∀ i b : Nat, jr_D l cc nL own ret nm fr lo (jk_fix F i b) b
  | 0, _ => js_none
  | i + 1, b => hF (jk_fix F i) (js_fix hF i) b
theorem js_blk {b n : Nat} {x y : jK} (h : jr_D l cc nL own ret nm fr lo x n) (hr : jr_D l cc nL own ret nm fr lo y b) : jr_D l cc nL own ret nm fr lo (if b = n then x else y) b := by
  by_cases hb : b = n
  · rw [if_pos hb, hb]
    exact h
  · rw [if_neg hb]
    exact hr
end JS
