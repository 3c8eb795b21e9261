theorem jr_E.obj {tys : List (ClassId × FieldType)} {q : jC} {e : va_E} (h : jr_E tys q e) (ht : q.1 < 20) : ∃ fs : List Value, e = .inr (q.1, fs) ∧ fs.length = q.2.1 ∧ (∃ r : vw_C, vwCl[q.1]? = some r ∧ r.2.2 = q.2.1) ∧ ∀ k : Nat, k < q.2.1 → ∃ v, fs[k]? = some v ∧ jr_V v (q.2.2 k) := by
  rcases h with h | h | h
  · exact h.2
  · exact absurd ht (by omega)
  · exact absurd ht (by omega)
theorem jr_E.ints {tys : List (ClassId × FieldType)} {q : jC} {e : va_E} (h : jr_E tys q e) (h1 : 20 ≤ q.1) (h2 : q.1 ≤ 22) : q.2.1 ≤ 100000 ∧ ∃ (cA : ClassId) (t0 : Nat) (g : Nat → Int32), e = .inl (cA, q.2.1, .inl g) ∧ tys[t0]? = some (cA, jr_ty q.1) ∧ q.2.2 = fun j => .inl (g j).toInt := by
  rcases h with h | h | h
  · exact absurd h.1 (by omega)
  · exact h.2.2
  · exact absurd h.1 (by omega)
theorem jr_E.refs {tys : List (ClassId × FieldType)} {q : jC} {e : va_E} (h : jr_E tys q e) (h1 : 23 ≤ q.1) : q.2.1 ≤ 100000 ∧ ∃ (cA : ClassId) (t0 : Nat) (g : Nat → Option Nat), e = .inl (cA, q.2.1, .inr (.inr (.inr (.inr g)))) ∧ tys[t0]? = some (cA, jr_ty q.1) ∧ q.2.2 = fun j => .inr (g j) := by
  rcases h with h | h | h
  · exact absurd h.1 (by omega)
  · exact absurd h.1 (by omega)
  · exact h.2.2
/-- what a tag's class has at a field's place -/
def jr_fld (tags : List Nat) (f : Nat) (decl name desc : String) (fin : Bool) : Bool := tags.all fun t => match vwCl[t]? with
  | some r => decide (f < r.2.2) && decide (r.2.1 f = (decl, name, desc, fin)) && decide (t < 20)
  | none => false
theorem jr_fld.at {tags : List Nat} {f t : Nat} {decl name desc : String} {fin : Bool} (h : jr_fld tags f decl name desc fin = true) (ht : t ∈ tags) : t < 20 ∧ ∃ r : vw_C, vwCl[t]? = some r ∧ f < r.2.2 ∧ r.2.1 f = (decl, name, desc, fin) := by
  have h1 := List.all_eq_true.mp h t ht
  cases hr : vwCl[t]? with
  | none => rw [hr] at h1; cases h1
  | some r =>
    rw [hr] at h1
    simp only [Bool.and_eq_true, decide_eq_true_eq] at h1
    exact ⟨h1.2, r, rfl, h1.1.1, h1.1.2⟩
/-- every class's rows are among the words, its fields' types and names as printed -/
theorem jr_cls {t : Nat} {r : vw_C} (h : vwCl[t]? = some r) : (∀ w ∈ u_ws r.1 r.2.1 r.2.2, w ∈ jw_tbl) ∧ ∃ ty : Nat → FieldType, (∀ k, k < r.2.2 → parseFieldDescriptor (r.2.1 k).2.2.1 = some (ty k)) ∧ ∀ a, a < r.2.2 → ∀ b, b < r.2.2 → a ≠ b → (r.2.1 a).2.1 ≠ (r.2.1 b).2.1 := by
  have hm := List.mem_of_getElem? h
  simp only [vwCl, List.mem_cons, List.not_mem_nil, or_false] at hm
  rcases hm with rfl | rfl | rfl | rfl | rfl | rfl | rfl | rfl | rfl | rfl | rfl | rfl
  · exact ⟨inX0, _, tyX0_ok, nmX0⟩
  · exact ⟨inX1, _, tyX1_ok, nmX1⟩
  · exact ⟨inX3, _, tyX3_ok, nmX3⟩
  · exact ⟨inX4, _, tyX4_ok, nmX4⟩
  · exact ⟨inX5, _, tyX5_ok, nmX5⟩
  · exact ⟨inX6, _, tyX6_ok, nmX6⟩
  · exact ⟨inX7, _, tyX7_ok, nmX7⟩
  · exact ⟨inX8, _, tyX8_ok, nmX8⟩
  · exact ⟨inX9, _, tyX9_ok, nmX9⟩
  · exact ⟨inX10, _, tyX10_ok, nmX10⟩
  · exact ⟨inX11, _, tyX11_ok, nmX11⟩
  · exact ⟨inX12, _, tyX12_ok, nmX12⟩
theorem jm_M_set {h : jH} {a : Nat} {q : jC} (hq : h.1 a = some q) (ht : q.1 < 30) (i : Nat) (u : jV) : jr_M h (jm_set h a q i u) := by
  refine ⟨Nat.le_refl _, Nat.le_refl _, fun b w hb hw => ?_⟩
  have hb : (if b = a then some (q.1, q.2.1, jm_upd q.2.2 i u) else h.1 b) = some w := hb
  by_cases e : b = a
  · rw [if_pos e] at hb
    cases hb
    exact absurd hw (by show ¬ 30 ≤ q.1; omega)
  · rw [if_neg e] at hb
    exact hb
/-- one cell of the world is another one now -/
theorem jr_W.set {D : va_G} {A : Nat → Prop} {h : jH} {U : State} {H H1 : Heap} {ws : va_W} {tys : List (ClassId × FieldType)} {a k0 i : Nat} {q : jC} {e e1 : va_E} {u : jV} (hK : va_K D vwCl tys U) (hz : H.size = h.2.1) (hz1 : H1.size = H.size) (hq : h.1 a = some q) (ht : q.1 < 30) (hk : ws[k0]? = some (a, e))
    (h1 : ∀ (a : Nat) (q : jC), h.1 a = some q → q.1 < 30 → ∃ (k : Nat) (e : va_E), ws[k]? = some (a, e) ∧ jr_E tys q e) (h2 : ∀ (k a : Nat) (e : va_E), ws[k]? = some (a, e) → ∃ q, h.1 a = some q ∧ q.1 < 30) (hD0 : va_D A ws)
    (hP : va_P D vwCl (ws.set k0 (a, e1)) H1) (hD : va_D A (ws.set k0 (a, e1))) (he : jr_E tys (q.1, q.2.1, jm_upd q.2.2 i u) e1) : jr_W D A (jm_set h a q i u) U H1 := by
  have hl : k0 < ws.length := (List.getElem?_eq_some_iff.mp hk).1
  refine ⟨_, tys, hK, hP, hD, hz1.trans hz, fun b w hb hw => ?_, fun k b x hx => ?_⟩
  · have hb : (if b = a then some (q.1, q.2.1, jm_upd q.2.2 i u) else h.1 b) = some w := hb
    by_cases e0 : b = a
    · rw [if_pos e0] at hb
      cases hb
      subst e0
      exact ⟨k0, e1, List.getElem?_set_self hl, he⟩
    · rw [if_neg e0] at hb
      obtain ⟨k, x, hx, hE⟩ := h1 b w hb hw
      refine ⟨k, x, ?_, hE⟩
      rw [List.getElem?_set_ne (fun z => e0 ?_)]
      · exact hx
      · subst z
        rw [hk] at hx
        cases hx
        rfl
  · by_cases hk0 : k0 = k
    · subst hk0
      rw [List.getElem?_set_self hl] at hx
      cases hx
      exact ⟨_, if_pos rfl, ht⟩
    · rw [List.getElem?_set_ne hk0] at hx
      obtain ⟨w, hw, hwt⟩ := h2 k b x hx
      by_cases e0 : b = a
      · subst e0
        exact ⟨_, if_pos rfl, ht⟩
      · exact ⟨w, by show (if b = a then _ else h.1 b) = some w; rw [if_neg e0]; exact hw, hwt⟩
theorem va_S.same {A : Nat → Prop} {H0 H : Heap} {locs : List Loc} (h : va_S A H0 H locs) : H0.size ≤ H.size := h.1
section JH
variable {l : Launch} {cc : ByteArray} {nL : Nat} {own : String} {ret : Option FieldType} {nm : String} {fr lo : Nat} {k : jK} {pc : Nat}
theorem js_get {tags : List Nat} {f index : Nat} {ref decl name desc : String} {fin : Bool} (d : decode cc pc = .ok (.getfield index, 3)) (hf : jr_fld tags f decl name desc fin = true) (hw : Cond.fieldLink own index ref name desc ∈ jw_tbl) (hr : ref = decl ∨ Cond.sameField ref decl name desc ∈ jw_tbl) (hk : jr_D l cc nL own ret nm fr lo k (pc + 3)) : jr_D l cc nL own ret nm fr lo (jk_get tags f k) pc := by
  refine ⟨fun L S h h' r he => ?_, fun p e R s m args below meth c D h0 hF rF Q X ls L st S H locs h hL hS hW hV hM he => ?_⟩
  · unfold jk_get at he
    split at he
    · split at he
      · split at he
        · exact hk.1 _ _ _ _ _ he
        · cases he
      · cases he
    · cases he
  · unfold jk_get at he
    split at he
    · rename_i a S'
      obtain ⟨st1, rfl, hS1⟩ := hS.rf
      split at he
      · rename_i q hq
        split at he
        · rename_i htag
          obtain ⟨ht, r, hcl, hfn, hrow⟩ := jr_fld.at hf htag
          obtain ⟨ws, tys, hK, hP, hD, hz, h1, h2⟩ := hW
          obtain ⟨k0, e0, hk0, hE⟩ := h1 a q hq (by omega)
          obtain ⟨fs, rfl, hlen, ⟨r', hr', hn'⟩, hvs⟩ := hE.obj ht
          cases hcl.symm.trans hr'
          obtain ⟨v, hv, hvu⟩ := hvs f (by omega)
          obtain ⟨hin, -⟩ := jr_cls hcl
          have hl : (Cond.fieldLink own index ref (r.2.1 f).2.1 (r.2.1 f).2.2.1).before args s = true := by rw [hrow]; exact X.1.2.2.2.2 _ hw
          have hs : ∀ x, s.fieldFound? (r.2.1 f).1 (r.2.1 f).2.1 (r.2.1 f).2.2.1 = some x → s.fieldFound? ref (r.2.1 f).2.1 (r.2.1 f).2.2.1 = some x := by
            rw [hrow]
            rcases hr with rfl | hr
            · exact fun x hx => hx
            · exact fun x hx => u_same (X.1.2.2.2.2 _ hr) x hx
          exact va_get (T := r.2.1) (N := r.2.2) (C := r.1) X.1.1 X.1.2.1 X.1.2.2.2.2 hin X.1.2.2.2.1 hK hP k0 hk0 hcl f hfn hl hs hv d (hk.2 p e R s m args below meth c D h0 hF rF Q X ls L _ _ H locs h hL (jr_S.pv hvu hS1) ⟨ws, tys, hK, hP, hD, hz, h1, h2⟩ hV hM he)
        · cases he
      · cases he
    · cases he
theorem jv_put {p : Program} {e : Env} {R : Room} {s : State} {m : MethodId} {args : Array Value} {below : List Frame} {meth : Method} {c : Code} {H : Heap} {locs : List Loc} {cells slots : Nat} {Q : State → Prop} {ls : Array Slot} {rest : List Value} {D : va_G} {A : Nat → Prop} {a : Nat} {tys : List (ClassId × FieldType)} {ws : va_W} {H0 : Heap} (fin : Bool)
    (hexec : p.tables.exec = Jvm.exec) (hb : c.code = cc) {ref C : String} {T : u_T} {N ci index : Nat} (hts : ∀ w ∈ jw_tbl, w.before args s = true) (hin : ∀ w ∈ u_ws C T N, w ∈ jw_tbl) (ty0 : Nat → FieldType) (hty : ∀ k, k < N → parseFieldDescriptor (T k).2.2.1 = some (ty0 k)) (hnm : ∀ a, a < N → ∀ b, b < N → a ≠ b → (T a).2.1 ≠ (T b).2.1) (hown : s.vm.findClass own = some m.cls) (hK : va_K D vwCl tys s) (hP : va_P D vwCl ws H) (hD : va_D A ws) (hS0 : va_S A H0 H locs) (q0 : Nat) {fs : List Value} (he : ws[q0]? = some (a, .inr (ci, fs))) (hc : vwCl[ci]? = some (C, T, N)) (f : Nat) (hk : f < N) (hlink : (Cond.fieldLink own index ref (T f).2.1 (T f).2.2.1).before args s = true) (hsame : ∀ x, s.fieldFound? (T f).1 (T f).2.1 (T f).2.2.1 = some x → s.fieldFound? ref (T f).2.1 (T f).2.2.1 = some x) (hfin : (T f).2.2.2 = fin) (hi2 : fin = true → meth.name = "<init>" ∧ (T f).1 = own) {ty : FieldType} {v : Value} (hd : parseFieldDescriptor (T f).2.2.1 = some ty) (hn : narrow ty v = v) (hfit : fits ty v = true) (hl : f < fs.length)
    (hdg : decode cc pc = .ok (.putfield index, 3)) (kk : ∀ (H1 : Heap) (locs1 : List Loc), H1.size = H.size → va_P D vwCl (ws.set q0 (a, .inr (ci, fs.set f v))) H1 → va_D A (ws.set q0 (a, .inr (ci, fs.set f v))) → va_S A H0 H1 locs1 → W p l e R s m args below meth c H1 locs1 cells slots Q (F0 m (pc + 3) ls rest)) : W p l e R s m args below meth c H locs cells slots Q (F0 m pc ls (v :: .ref a :: rest)) := by
  have hap := va_apart (own := own) hts hin ty0 hty hnm hK hc
  obtain ⟨r, h1, cell, q1, q2, q3, q4⟩ := hP q0 _ he
  cases h1.symm.trans hc
  obtain ⟨hS, hfc, kC, hkC, hkind⟩ := hK.1 ci _ hc
  obtain ⟨cf, kf, fi, fd, hi, hsl⟩ := hS f hk
  have hlay := hts _ (hin _ (u_in_lay hk))
  have hst := (u_facts hfc hkC (u_lays hts hin hk) hi).1
  unfold u_lay at hlay
  cases fin with
  | false =>
    rw [if_neg (by rw [hfin]; decide)] at hlay
    have h6 := u_store hfc hkC hkind hlay hi hd hn hfit
    refine W.putK hexec hb (f := fd) ⟨hown, hlink, ⟨_, _, _, hsame _ hi⟩, hst⟩ (by rw [q2]; exact h6) q1 q3 (by rw [hsl]; exact k2_hasslot (q4 f hk)) rfl rfl hdg fun H' e1 e2 e3 => ?_
    rw [hsl] at e1 ⊢
    exact kk H' _ e2 (hP.set hD he ⟨_, hc, t_OB.to (V := updV (vp_V fs) f v) ⟨_, e1, q2, q3, t_set q4 hap hk v⟩ (fun j _ => vp_updV_set hl v j)⟩ e3) (hD.set he) (hS0.put e2 e3 (hD.2 q0 _ he))
  | true =>
    rw [if_pos hfin] at hlay
    obtain ⟨hin2, hdecl⟩ := hi2 rfl
    have hcf : m.cls = cf := by
      obtain ⟨_, _, c', _, _, _, -, -, hf', -, -, -, hown2, -⟩ := Cond.laysFinal_spec hlay
      have e1 : c' = cf := by have := hi.symm.trans hf'; simp at this; exact this.1.symm
      rw [hdecl] at hown2
      rw [← e1]; exact Option.some.inj (hown.symm.trans hown2)
    have h6 := u_fits hfc hkC hkind (Or.inr hlay) hi hd hn hfit
    refine W.putFinK hexec hb hown hlink (hsame _ hi) hst hcf hin2 (by rw [q2]; exact h6) q1 q3 (by rw [hsl]; exact k2_hasslot (q4 f hk)) rfl rfl hdg fun H' e1 e2 e3 => ?_
    rw [hsl] at e1 ⊢
    exact kk H' _ e2 (hP.set hD he ⟨_, hc, t_OB.to (V := updV (vp_V fs) f v) ⟨_, e1, q2, q3, t_set q4 hap hk v⟩ (fun j _ => vp_updV_set hl v j)⟩ e3) (hD.set he) (hS0.put e2 e3 (hD.2 q0 _ he))
theorem jr_E.put {tys : List (ClassId × FieldType)} {q : jC} {fs : List Value} {f : Nat} {w : Value} {u : jV} (h : jr_E tys q (.inr (q.1, fs))) (ht : q.1 < 20) (hv : jr_V w u) : jr_E tys (q.1, q.2.1, jm_upd q.2.2 f u) (.inr (q.1, fs.set f w)) := by
  obtain ⟨fs', e, hl, hr, hvs⟩ := h.obj ht
  cases e
  refine Or.inl ⟨ht, _, rfl, by rw [List.length_set]; exact hl, hr, fun k hk => ?_⟩
  by_cases e : f = k
  · subst e
    refine ⟨w, List.getElem?_set_self (by rw [hl]; exact hk), ?_⟩
    show jr_V w (if f = f then u else _)
    rw [if_pos rfl]
    exact hv
  · obtain ⟨v, h1, h2⟩ := hvs k hk
    refine ⟨v, by rw [List.getElem?_set_ne e]; exact h1, ?_⟩
    show jr_V v (if k = f then u else _)
    rw [if_neg (fun z => e z.symm)]
    exact h2
theorem js_puti {tags : List Nat} {f index : Nat} {ref decl name desc : String} (d : decode cc pc = .ok (.putfield index, 3)) (hf : jr_fld tags f decl name desc false = true) (hty : parseFieldDescriptor desc = some .int) (hw : Cond.fieldLink own index ref name desc ∈ jw_tbl) (hr : ref = decl ∨ Cond.sameField ref decl name desc ∈ jw_tbl) (hk : jr_D l cc nL own ret nm fr lo k (pc + 3)) : jr_D l cc nL own ret nm fr lo (jk_puti tags f k) pc := by
  refine ⟨fun L S h h' r he => ?_, fun p e R s m args below meth c D h0 hF rF Q X ls L st S H locs h hL hS hW hV hM he => ?_⟩
  · unfold jk_puti at he
    split at he
    · split at he
      · rename_i q hq
        split at he
        · rename_i htag
          obtain ⟨ht, -⟩ := jr_fld.at hf htag
          exact (jm_M_set hq (by omega) _ _).tr (hk.1 _ _ _ _ _ he)
        · cases he
      · cases he
    · cases he
  · unfold jk_puti at he
    split at he
    · rename_i n a S'
      obtain ⟨x, st1, rfl, hx, hS1⟩ := hS.int
      obtain ⟨st2, rfl, hS2⟩ := hS1.rf
      split at he
      · rename_i q hq
        split at he
        · rename_i htag
          obtain ⟨ht, r, hcl, hfn, hrow⟩ := jr_fld.at hf htag
          obtain ⟨ws, tys, hK, hP, hD, hz, h1, h2⟩ := hW
          obtain ⟨k0, e0, hk0, hE⟩ := h1 a q hq (by omega)
          obtain ⟨fs, rfl, hlen, ⟨r', hr', hn'⟩, hvs⟩ := hE.obj ht
          cases hcl.symm.trans hr'
          obtain ⟨hin, ty0, hty0, hnmz⟩ := jr_cls hcl
          have hl : (Cond.fieldLink own index ref (r.2.1 f).2.1 (r.2.1 f).2.2.1).before args s = true := by rw [hrow]; exact X.1.2.2.2.2 _ hw
          have hs : ∀ x, s.fieldFound? (r.2.1 f).1 (r.2.1 f).2.1 (r.2.1 f).2.2.1 = some x → s.fieldFound? ref (r.2.1 f).2.1 (r.2.1 f).2.2.1 = some x := by
            rw [hrow]
            rcases hr with rfl | hr
            · exact fun x hx => hx
            · exact fun x hx => u_same (X.1.2.2.2.2 _ hr) x hx
          obtain ⟨w, hwe⟩ : ∃ w : Value, w = .int x := ⟨_, rfl⟩
          obtain ⟨ty, hty1⟩ : ∃ ty, parseFieldDescriptor desc = some ty ∧ ty = .int := ⟨_, hty, rfl⟩
          obtain ⟨hty1, rfl⟩ := hty1
          have hnar : narrow .int w = w := by rw [hwe]; rfl
          have hfit : fits .int w = true := by rw [hwe]; rfl
          have hvu : jr_V w (.inl n) := by rw [hwe]; exact jr_V.i hx
          rw [← hwe]
          generalize hty9 : FieldType.int = ty at hty1 hnar hfit
          refine jv_put false (T := r.2.1) (N := r.2.2) (C := r.1) (v := w) (ty := ty) X.1.1 X.1.2.1 X.1.2.2.2.2 hin ty0 hty0 hnmz X.1.2.2.2.1 hK hP hD hV k0 hk0 hcl f hfn hl hs (by rw [hrow]) (fun z => by cases z) (by rw [hrow]; exact hty1) hnar hfit (by omega) d (fun H1 locs1 hz1 hP1 hD1 hV1 => ?_)
          exact hk.2 p e R s m args below meth c D h0 hF rF Q X ls L _ _ H1 locs1 (jm_set h a q f (.inl n)) hL hS2 (jr_W.set hK hz hz1 hq (by omega) hk0 h1 h2 hD hP1 hD1 (jr_E.put (Or.inl ⟨ht, fs, rfl, hlen, ⟨r, hcl, hn'⟩, hvs⟩) ht hvu)) hV1 (hM.tr (jm_M_set hq (by omega) _ _)) he
        · cases he
      · cases he
    · cases he
theorem js_putz {tags : List Nat} {f index : Nat} {ref decl name desc : String} (d : decode cc pc = .ok (.putfield index, 3)) (hf : jr_fld tags f decl name desc false = true) (hty : parseFieldDescriptor desc = some .boolean) (hw : Cond.fieldLink own index ref name desc ∈ jw_tbl) (hr : ref = decl ∨ Cond.sameField ref decl name desc ∈ jw_tbl) (hk : jr_D l cc nL own ret nm fr lo k (pc + 3)) : jr_D l cc nL own ret nm fr lo (jk_putz tags f k) pc := by
  refine ⟨fun L S h h' r he => ?_, fun p e R s m args below meth c D h0 hF rF Q X ls L st S H locs h hL hS hW hV hM he => ?_⟩
  · unfold jk_putz at he
    split at he
    · split at he
      · rename_i q hq
        split at he
        · rename_i htag
          obtain ⟨ht, -⟩ := jr_fld.at hf htag.1
          exact (jm_M_set hq (by omega) _ _).tr (hk.1 _ _ _ _ _ he)
        · cases he
      · cases he
    · cases he
  · unfold jk_putz at he
    split at he
    · rename_i n a S'
      obtain ⟨x, st1, rfl, hx, hS1⟩ := hS.int
      obtain ⟨st2, rfl, hS2⟩ := hS1.rf
      split at he
      · rename_i q hq
        split at he
        · rename_i htag
          obtain ⟨ht, r, hcl, hfn, hrow⟩ := jr_fld.at hf htag.1
          obtain ⟨ws, tys, hK, hP, hD, hz, h1, h2⟩ := hW
          obtain ⟨k0, e0, hk0, hE⟩ := h1 a q hq (by omega)
          obtain ⟨fs, rfl, hlen, ⟨r', hr', hn'⟩, hvs⟩ := hE.obj ht
          cases hcl.symm.trans hr'
          obtain ⟨hin, ty0, hty0, hnmz⟩ := jr_cls hcl
          have hl : (Cond.fieldLink own index ref (r.2.1 f).2.1 (r.2.1 f).2.2.1).before args s = true := by rw [hrow]; exact X.1.2.2.2.2 _ hw
          have hs : ∀ x, s.fieldFound? (r.2.1 f).1 (r.2.1 f).2.1 (r.2.1 f).2.2.1 = some x → s.fieldFound? ref (r.2.1 f).2.1 (r.2.1 f).2.2.1 = some x := by
            rw [hrow]
            rcases hr with rfl | hr
            · exact fun x hx => hx
            · exact fun x hx => u_same (X.1.2.2.2.2 _ hr) x hx
          obtain ⟨w, hwe⟩ : ∃ w : Value, w = .int x := ⟨_, rfl⟩
          have hb := jm_bool (x := x) (by rw [hx]; exact htag.2)
          have hnar : narrow .boolean w = w := by rw [hwe]; rcases hb with rfl | rfl <;> rfl
          have hfit : fits .boolean w = true := by rw [hwe]; rcases hb with rfl | rfl <;> rfl
          have hvu : jr_V w (.inl n) := by rw [hwe]; exact jr_V.i hx
          have hty1 := hty
          rw [← hwe]
          generalize hty9 : FieldType.boolean = ty at hty1 hnar hfit
          refine jv_put false (T := r.2.1) (N := r.2.2) (C := r.1) (v := w) (ty := ty) X.1.1 X.1.2.1 X.1.2.2.2.2 hin ty0 hty0 hnmz X.1.2.2.2.1 hK hP hD hV k0 hk0 hcl f hfn hl hs (by rw [hrow]) (fun z => by cases z) (by rw [hrow]; exact hty1) hnar hfit (by omega) d (fun H1 locs1 hz1 hP1 hD1 hV1 => ?_)
          exact hk.2 p e R s m args below meth c D h0 hF rF Q X ls L _ _ H1 locs1 (jm_set h a q f (.inl n)) hL hS2 (jr_W.set hK hz hz1 hq (by omega) hk0 h1 h2 hD hP1 hD1 (jr_E.put (Or.inl ⟨ht, fs, rfl, hlen, ⟨r, hcl, hn'⟩, hvs⟩) ht hvu)) hV1 (hM.tr (jm_M_set hq (by omega) _ _)) he
        · cases he
      · cases he
    · cases he
theorem js_puta {tags : List Nat} {f index : Nat} {ref decl name desc : String} (d : decode cc pc = .ok (.putfield index, 3)) (hf : jr_fld tags f decl name desc false = true) (hty : (∃ C, parseFieldDescriptor desc = some (.object C)) ∨ ∃ t, parseFieldDescriptor desc = some (.array t)) (hw : Cond.fieldLink own index ref name desc ∈ jw_tbl) (hr : ref = decl ∨ Cond.sameField ref decl name desc ∈ jw_tbl) (hk : jr_D l cc nL own ret nm fr lo k (pc + 3)) : jr_D l cc nL own ret nm fr lo (jk_puta tags f k) pc := by
  refine ⟨fun L S h h' r he => ?_, fun p e R s m args below meth c D h0 hF rF Q X ls L st S H locs h hL hS hW hV hM he => ?_⟩
  · unfold jk_puta at he
    split at he
    · split at he
      · rename_i q hq
        split at he
        · rename_i htag
          obtain ⟨ht, -⟩ := jr_fld.at hf htag
          exact (jm_M_set hq (by omega) _ _).tr (hk.1 _ _ _ _ _ he)
        · cases he
      · cases he
    · cases he
  · unfold jk_puta at he
    split at he
    · rename_i z a S'
      obtain ⟨st1, rfl, hS1⟩ := hS.rf
      obtain ⟨st2, rfl, hS2⟩ := hS1.rf
      split at he
      · rename_i q hq
        split at he
        · rename_i htag
          obtain ⟨ht, r, hcl, hfn, hrow⟩ := jr_fld.at hf htag
          obtain ⟨ws, tys, hK, hP, hD, hz, h1, h2⟩ := hW
          obtain ⟨k0, e0, hk0, hE⟩ := h1 a q hq (by omega)
          obtain ⟨fs, rfl, hlen, ⟨r', hr', hn'⟩, hvs⟩ := hE.obj ht
          cases hcl.symm.trans hr'
          obtain ⟨hin, ty0, hty0, hnmz⟩ := jr_cls hcl
          have hl : (Cond.fieldLink own index ref (r.2.1 f).2.1 (r.2.1 f).2.2.1).before args s = true := by rw [hrow]; exact X.1.2.2.2.2 _ hw
          have hs : ∀ x, s.fieldFound? (r.2.1 f).1 (r.2.1 f).2.1 (r.2.1 f).2.2.1 = some x → s.fieldFound? ref (r.2.1 f).2.1 (r.2.1 f).2.2.1 = some x := by
            rw [hrow]
            rcases hr with rfl | hr
            · exact fun x hx => hx
            · exact fun x hx => u_same (X.1.2.2.2.2 _ hr) x hx
          obtain ⟨w, hwe⟩ : ∃ w : Value, w = va_rf z := ⟨_, rfl⟩
          obtain ⟨ty, hty1, hnar, hfit⟩ : ∃ ty, parseFieldDescriptor desc = some ty ∧ narrow ty w = w ∧ fits ty w = true := by
            rcases hty with ⟨C, hC⟩ | ⟨t, hC⟩
            · exact ⟨_, hC, by rw [hwe]; cases z <;> rfl, by rw [hwe]; cases z <;> rfl⟩
            · exact ⟨_, hC, by rw [hwe]; cases z <;> rfl, by rw [hwe]; cases z <;> rfl⟩
          have hvu : jr_V w (.inr z) := hwe
          rw [← hwe]
          refine jv_put false (T := r.2.1) (N := r.2.2) (C := r.1) (v := w) (ty := ty) X.1.1 X.1.2.1 X.1.2.2.2.2 hin ty0 hty0 hnmz X.1.2.2.2.1 hK hP hD hV k0 hk0 hcl f hfn hl hs (by rw [hrow]) (fun z => by cases z) (by rw [hrow]; exact hty1) hnar hfit (by omega) d (fun H1 locs1 hz1 hP1 hD1 hV1 => ?_)
          exact hk.2 p e R s m args below meth c D h0 hF rF Q X ls L _ _ H1 locs1 (jm_set h a q f (.inr z)) hL hS2 (jr_W.set hK hz hz1 hq (by omega) hk0 h1 h2 hD hP1 hD1 (jr_E.put (Or.inl ⟨ht, fs, rfl, hlen, ⟨r, hcl, hn'⟩, hvs⟩) ht hvu)) hV1 (hM.tr (jm_M_set hq (by omega) _ _)) he
        · cases he
      · cases he
    · cases he
theorem js_putiF {tags : List Nat} {f index : Nat} {ref decl name desc : String} (d : decode cc pc = .ok (.putfield index, 3)) (hf : jr_fld tags f decl name desc true = true) (hty : parseFieldDescriptor desc = some .int) (hw : Cond.fieldLink own index ref name desc ∈ jw_tbl) (hr : ref = decl ∨ Cond.sameField ref decl name desc ∈ jw_tbl) (hnm : nm = "<init>") (hdo : decl = own) (hk : jr_D l cc nL own ret nm fr lo k (pc + 3)) : jr_D l cc nL own ret nm fr lo (jk_puti tags f k) pc := by
  refine ⟨fun L S h h' r he => ?_, fun p e R s m args below meth c D h0 hF rF Q X ls L st S H locs h hL hS hW hV hM he => ?_⟩
  · unfold jk_puti at he
    split at he
    · split at he
      · rename_i q hq
        split at he
        · rename_i htag
          obtain ⟨ht, -⟩ := jr_fld.at hf htag
          exact (jm_M_set hq (by omega) _ _).tr (hk.1 _ _ _ _ _ he)
        · cases he
      · cases he
    · cases he
  · unfold jk_puti at he
    split at he
    · rename_i n a S'
      obtain ⟨x, st1, rfl, hx, hS1⟩ := hS.int
      obtain ⟨st2, rfl, hS2⟩ := hS1.rf
      split at he
      · rename_i q hq
        split at he
        · rename_i htag
          obtain ⟨ht, r, hcl, hfn, hrow⟩ := jr_fld.at hf htag
          obtain ⟨ws, tys, hK, hP, hD, hz, h1, h2⟩ := hW
          obtain ⟨k0, e0, hk0, hE⟩ := h1 a q hq (by omega)
          obtain ⟨fs, rfl, hlen, ⟨r', hr', hn'⟩, hvs⟩ := hE.obj ht
          cases hcl.symm.trans hr'
          obtain ⟨hin, ty0, hty0, hnmz⟩ := jr_cls hcl
          have hl : (Cond.fieldLink own index ref (r.2.1 f).2.1 (r.2.1 f).2.2.1).before args s = true := by rw [hrow]; exact X.1.2.2.2.2 _ hw
          have hs : ∀ x, s.fieldFound? (r.2.1 f).1 (r.2.1 f).2.1 (r.2.1 f).2.2.1 = some x → s.fieldFound? ref (r.2.1 f).2.1 (r.2.1 f).2.2.1 = some x := by
            rw [hrow]
            rcases hr with rfl | hr
            · exact fun x hx => hx
            · exact fun x hx => u_same (X.1.2.2.2.2 _ hr) x hx
          obtain ⟨w, hwe⟩ : ∃ w : Value, w = .int x := ⟨_, rfl⟩
          obtain ⟨ty, hty1⟩ : ∃ ty, parseFieldDescriptor desc = some ty ∧ ty = .int := ⟨_, hty, rfl⟩
          obtain ⟨hty1, rfl⟩ := hty1
          have hnar : narrow .int w = w := by rw [hwe]; rfl
          have hfit : fits .int w = true := by rw [hwe]; rfl
          have hvu : jr_V w (.inl n) := by rw [hwe]; exact jr_V.i hx
          rw [← hwe]
          generalize hty9 : FieldType.int = ty at hty1 hnar hfit
          refine jv_put true (T := r.2.1) (N := r.2.2) (C := r.1) (v := w) (ty := ty) X.1.1 X.1.2.1 X.1.2.2.2.2 hin ty0 hty0 hnmz X.1.2.2.2.1 hK hP hD hV k0 hk0 hcl f hfn hl hs (by rw [hrow]) (fun _ => ⟨X.2.1.1.trans hnm, by rw [hrow]; exact hdo⟩) (by rw [hrow]; exact hty1) hnar hfit (by omega) d (fun H1 locs1 hz1 hP1 hD1 hV1 => ?_)
          exact hk.2 p e R s m args below meth c D h0 hF rF Q X ls L _ _ H1 locs1 (jm_set h a q f (.inl n)) hL hS2 (jr_W.set hK hz hz1 hq (by omega) hk0 h1 h2 hD hP1 hD1 (jr_E.put (Or.inl ⟨ht, fs, rfl, hlen, ⟨r, hcl, hn'⟩, hvs⟩) ht hvu)) hV1 (hM.tr (jm_M_set hq (by omega) _ _)) he
        · cases he
      · cases he
    · cases he
theorem js_putzF {tags : List Nat} {f index : Nat} {ref decl name desc : String} (d : decode cc pc = .ok (.putfield index, 3)) (hf : jr_fld tags f decl name desc true = true) (hty : parseFieldDescriptor desc = some .boolean) (hw : Cond.fieldLink own index ref name desc ∈ jw_tbl) (hr : ref = decl ∨ Cond.sameField ref decl name desc ∈ jw_tbl) (hnm : nm = "<init>") (hdo : decl = own) (hk : jr_D l cc nL own ret nm fr lo k (pc + 3)) : jr_D l cc nL own ret nm fr lo (jk_putz tags f k) pc := by
  refine ⟨fun L S h h' r he => ?_, fun p e R s m args below meth c D h0 hF rF Q X ls L st S H locs h hL hS hW hV hM he => ?_⟩
  · unfold jk_putz at he
    split at he
    · split at he
      · rename_i q hq
        split at he
        · rename_i htag
          obtain ⟨ht, -⟩ := jr_fld.at hf htag.1
          exact (jm_M_set hq (by omega) _ _).tr (hk.1 _ _ _ _ _ he)
        · cases he
      · cases he
    · cases he
  · unfold jk_putz at he
    split at he
    · rename_i n a S'
      obtain ⟨x, st1, rfl, hx, hS1⟩ := hS.int
      obtain ⟨st2, rfl, hS2⟩ := hS1.rf
      split at he
      · rename_i q hq
        split at he
        · rename_i htag
          obtain ⟨ht, r, hcl, hfn, hrow⟩ := jr_fld.at hf htag.1
          obtain ⟨ws, tys, hK, hP, hD, hz, h1, h2⟩ := hW
          obtain ⟨k0, e0, hk0, hE⟩ := h1 a q hq (by omega)
          obtain ⟨fs, rfl, hlen, ⟨r', hr', hn'⟩, hvs⟩ := hE.obj ht
          cases hcl.symm.trans hr'
          obtain ⟨hin, ty0, hty0, hnmz⟩ := jr_cls hcl
          have hl : (Cond.fieldLink own index ref (r.2.1 f).2.1 (r.2.1 f).2.2.1).before args s = true := by rw [hrow]; exact X.1.2.2.2.2 _ hw
          have hs : ∀ x, s.fieldFound? (r.2.1 f).1 (r.2.1 f).2.1 (r.2.1 f).2.2.1 = some x → s.fieldFound? ref (r.2.1 f).2.1 (r.2.1 f).2.2.1 = some x := by
            rw [hrow]
            rcases hr with rfl | hr
            · exact fun x hx => hx
            · exact fun x hx => u_same (X.1.2.2.2.2 _ hr) x hx
          obtain ⟨w, hwe⟩ : ∃ w : Value, w = .int x := ⟨_, rfl⟩
          have hb := jm_bool (x := x) (by rw [hx]; exact htag.2)
          have hnar : narrow .boolean w = w := by rw [hwe]; rcases hb with rfl | rfl <;> rfl
          have hfit : fits .boolean w = true := by rw [hwe]; rcases hb with rfl | rfl <;> rfl
          have hvu : jr_V w (.inl n) := by rw [hwe]; exact jr_V.i hx
          have hty1 := hty
          rw [← hwe]
          generalize hty9 : FieldType.boolean = ty at hty1 hnar hfit
          refine jv_put true (T := r.2.1) (N := r.2.2) (C := r.1) (v := w) (ty := ty) X.1.1 X.1.2.1 X.1.2.2.2.2 hin ty0 hty0 hnmz X.1.2.2.2.1 hK hP hD hV k0 hk0 hcl f hfn hl hs (by rw [hrow]) (fun _ => ⟨X.2.1.1.trans hnm, by rw [hrow]; exact hdo⟩) (by rw [hrow]; exact hty1) hnar hfit (by omega) d (fun H1 locs1 hz1 hP1 hD1 hV1 => ?_)
          exact hk.2 p e R s m args below meth c D h0 hF rF Q X ls L _ _ H1 locs1 (jm_set h a q f (.inl n)) hL hS2 (jr_W.set hK hz hz1 hq (by omega) hk0 h1 h2 hD hP1 hD1 (jr_E.put (Or.inl ⟨ht, fs, rfl, hlen, ⟨r, hcl, hn'⟩, hvs⟩) ht hvu)) hV1 (hM.tr (jm_M_set hq (by omega) _ _)) he
        · cases he
      · cases he
    · cases he
theorem js_putaF {tags : List Nat} {f index : Nat} {ref decl name desc : String} (d : decode cc pc = .ok (.putfield index, 3)) (hf : jr_fld tags f decl name desc true = true) (hty : (∃ C, parseFieldDescriptor desc = some (.object C)) ∨ ∃ t, parseFieldDescriptor desc = some (.array t)) (hw : Cond.fieldLink own index ref name desc ∈ jw_tbl) (hr : ref = decl ∨ Cond.sameField ref decl name desc ∈ jw_tbl) (hnm : nm = "<init>") (hdo : decl = own) (hk : jr_D l cc nL own ret nm fr lo k (pc + 3)) : jr_D l cc nL own ret nm fr lo (jk_puta tags f k) pc := by
  refine ⟨fun L S h h' r he => ?_, fun p e R s m args below meth c D h0 hF rF Q X ls L st S H locs h hL hS hW hV hM he => ?_⟩
  · unfold jk_puta at he
    split at he
    · split at he
      · rename_i q hq
        split at he
        · rename_i htag
          obtain ⟨ht, -⟩ := jr_fld.at hf htag
          exact (jm_M_set hq (by omega) _ _).tr (hk.1 _ _ _ _ _ he)
        · cases he
      · cases he
    · cases he
  · unfold jk_puta at he
    split at he
    · rename_i z a S'
      obtain ⟨st1, rfl, hS1⟩ := hS.rf
      obtain ⟨st2, rfl, hS2⟩ := hS1.rf
      split at he
      · rename_i q hq
        split at he
        · rename_i htag
          obtain ⟨ht, r, hcl, hfn, hrow⟩ := jr_fld.at hf htag
          obtain ⟨ws, tys, hK, hP, hD, hz, h1, h2⟩ := hW
          obtain ⟨k0, e0, hk0, hE⟩ := h1 a q hq (by omega)
          obtain ⟨fs, rfl, hlen, ⟨r', hr', hn'⟩, hvs⟩ := hE.obj ht
          cases hcl.symm.trans hr'
          obtain ⟨hin, ty0, hty0, hnmz⟩ := jr_cls hcl
          have hl : (Cond.fieldLink own index ref (r.2.1 f).2.1 (r.2.1 f).2.2.1).before args s = true := by rw [hrow]; exact X.1.2.2.2.2 _ hw
          have hs : ∀ x, s.fieldFound? (r.2.1 f).1 (r.2.1 f).2.1 (r.2.1 f).2.2.1 = some x → s.fieldFound? ref (r.2.1 f).2.1 (r.2.1 f).2.2.1 = some x := by
            rw [hrow]
            rcases hr with rfl | hr
            · exact fun x hx => hx
            · exact fun x hx => u_same (X.1.2.2.2.2 _ hr) x hx
          obtain ⟨w, hwe⟩ : ∃ w : Value, w = va_rf z := ⟨_, rfl⟩
          obtain ⟨ty, hty1, hnar, hfit⟩ : ∃ ty, parseFieldDescriptor desc = some ty ∧ narrow ty w = w ∧ fits ty w = true := by
            rcases hty with ⟨C, hC⟩ | ⟨t, hC⟩
            · exact ⟨_, hC, by rw [hwe]; cases z <;> rfl, by rw [hwe]; cases z <;> rfl⟩
            · exact ⟨_, hC, by rw [hwe]; cases z <;> rfl, by rw [hwe]; cases z <;> rfl⟩
          have hvu : jr_V w (.inr z) := hwe
          rw [← hwe]
          refine jv_put true (T := r.2.1) (N := r.2.2) (C := r.1) (v := w) (ty := ty) X.1.1 X.1.2.1 X.1.2.2.2.2 hin ty0 hty0 hnmz X.1.2.2.2.1 hK hP hD hV k0 hk0 hcl f hfn hl hs (by rw [hrow]) (fun _ => ⟨X.2.1.1.trans hnm, by rw [hrow]; exact hdo⟩) (by rw [hrow]; exact hty1) hnar hfit (by omega) d (fun H1 locs1 hz1 hP1 hD1 hV1 => ?_)
          exact hk.2 p e R s m args below meth c D h0 hF rF Q X ls L _ _ H1 locs1 (jm_set h a q f (.inr z)) hL hS2 (jr_W.set hK hz hz1 hq (by omega) hk0 h1 h2 hD hP1 hD1 (jr_E.put (Or.inl ⟨ht, fs, rfl, hlen, ⟨r, hcl, hn'⟩, hvs⟩) ht hvu)) hV1 (hM.tr (jm_M_set hq (by omega) _ _)) he
        · cases he
      · cases he
    · cases he
end JH
