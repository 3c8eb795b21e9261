theorem jr_E.ist {tys : List (ClassId × FieldType)} {q : jC} {cA : ClassId} {g : Nat → Int32} {t0 i : Nat} {v : Int} {x : Int32} (h1 : 20 ≤ q.1) (h2 : q.1 ≤ 22) (h3 : q.2.1 ≤ 100000) (ht : tys[t0]? = some (cA, jr_ty q.1)) (hg : q.2.2 = fun j => .inl (g j).toInt) (hx : x.toInt = v) : jr_E tys (q.1, q.2.1, jm_upd q.2.2 i (.inl v)) (.inl (cA, q.2.1, .inl (upd g i x))) := by
  refine Or.inr (Or.inl ⟨h1, h2, h3, cA, t0, _, rfl, ht, ?_⟩)
  funext j
  show (if j = i then Sum.inl v else q.2.2 j) = Sum.inl (if j = i then x else g j).toInt
  by_cases e : j = i
  · rw [if_pos e, if_pos e, hx]
  · rw [if_neg e, if_neg e, hg]
theorem jr_E.ast {tys : List (ClassId × FieldType)} {q : jC} {cA : ClassId} {g : Nat → Option Nat} {t0 i : Nat} {v : Option Nat} (h1 : 23 ≤ q.1) (h2 : q.1 ≤ 25) (h3 : q.2.1 ≤ 100000) (ht : tys[t0]? = some (cA, jr_ty q.1)) (hg : q.2.2 = fun j => .inr (g j)) : jr_E tys (q.1, q.2.1, jm_upd q.2.2 i (.inr v)) (.inl (cA, q.2.1, .inr (.inr (.inr (.inr (va_up g i v)))))) := by
  refine Or.inr (Or.inr ⟨h1, h2, h3, cA, t0, _, rfl, ht, ?_⟩)
  funext j
  show (if j = i then Sum.inr v else q.2.2 j) = Sum.inr (if j = i then v else g j)
  by_cases e : j = i
  · rw [if_pos e, if_pos e]
  · rw [if_neg e, if_neg e, hg]
theorem jm_M_new {h : jH} {q : jC} (ht : q.1 < 30) : jr_M h (jm_new h q) := by
  refine ⟨Nat.le_succ _, Nat.le_add_right _ _, fun b w hb hw => ?_⟩
  have hb : (if b = h.2.1 then some q else h.1 b) = some w := hb
  by_cases e : b = h.2.1
  · rw [if_pos e] at hb
    cases hb
    exact absurd hw (by omega)
  · rw [if_neg e] at hb
    exact hb
/-- a new cell -/
theorem jr_W.new {D : va_G} {A : Nat → Prop} {h : jH} {U : State} {H1 : Heap} {ws : va_W} {tys tys1 : List (ClassId × FieldType)} {q : jC} {e : va_E} (hK : va_K D vwCl (tys ++ tys1) U) (hz : H1.size = h.2.1 + 1) (ht : q.1 < 30)
    (h1 : ∀ (a : Nat) (q : jC), h.1 a = some q → q.1 < 30 → ∃ (k : Nat) (e : va_E), ws[k]? = some (a, e) ∧ jr_E tys q e) (h2 : ∀ (k a : Nat) (e : va_E), ws[k]? = some (a, e) → ∃ q, h.1 a = some q ∧ q.1 < 30)
    (hP : va_P D vwCl (ws ++ [(h.2.1, e)]) H1) (hD : va_D A (ws ++ [(h.2.1, e)])) (he : jr_E (tys ++ tys1) q e) : jr_W D A (jm_new h q) U H1 := by
  refine ⟨_, _, hK, hP, hD, hz, fun b w hb hw => ?_, fun k b x hx => ?_⟩
  · have hb : (if b = h.2.1 then some q else h.1 b) = some w := hb
    by_cases e0 : b = h.2.1
    · rw [if_pos e0] at hb
      cases hb
      subst e0
      exact ⟨ws.length, e, by rw [List.getElem?_append_right (Nat.le_refl _), Nat.sub_self]; rfl, he⟩
    · rw [if_neg e0] at hb
      obtain ⟨k, x, hx, hE⟩ := h1 b w hb hw
      have hl := (List.getElem?_eq_some_iff.mp hx).1
      refine ⟨k, x, by rw [List.getElem?_append_left hl]; exact hx, ?_⟩
      have lift : ∀ (t0 : Nat) (z : ClassId × FieldType), tys[t0]? = some z → (tys ++ tys1)[t0]? = some z := fun t0 z hz => by rw [List.getElem?_append_left (List.getElem?_eq_some_iff.mp hz).1]; exact hz
      rcases hE with hE | ⟨g1, g2, g3, cA, t0, g, g4, g5, g6⟩ | ⟨g1, g2, g3, cA, t0, g, g4, g5, g6⟩
      · exact Or.inl hE
      · exact Or.inr (Or.inl ⟨g1, g2, g3, cA, t0, g, g4, lift _ _ g5, g6⟩)
      · exact Or.inr (Or.inr ⟨g1, g2, g3, cA, t0, g, g4, lift _ _ g5, g6⟩)
  · by_cases hl : k < ws.length
    · rw [List.getElem?_append_left hl] at hx
      obtain ⟨w, hw, hwt⟩ := h2 k b x hx
      by_cases e0 : b = h.2.1
      · subst e0
        exact ⟨_, if_pos rfl, ht⟩
      · exact ⟨w, by show (if b = h.2.1 then _ else h.1 b) = some w; rw [if_neg e0]; exact hw, hwt⟩
    · rw [List.getElem?_append_right (by omega)] at hx
      have hz0 : k - ws.length < 1 := (List.getElem?_eq_some_iff.mp hx).1
      rw [show k - ws.length = 0 by omega] at hx
      cases hx
      exact ⟨_, if_pos rfl, ht⟩
theorem jr_hA {h0 : jH} {s : State} (hs : s.heap.size = h0.2.1) : ∀ q, s.heap.size ≤ q → jr_A h0 q := fun q hq => Or.inr (by rw [← hs]; exact hq)
section JA
variable {p : Program} {l : Launch} {e : Env} {R : Room} {s : State} {m : MethodId} {args : Array Value} {below : List Frame} {meth : Method} {c : Code} {H : Heap} {locs : List Loc} {cells slots : Nat} {Q : State → Prop} {ls : Array Slot} {rest : List Value} {D : va_G} {A : Nat → Prop} {a : Nat} {tys : List (ClassId × FieldType)} {ws : va_W} {H0 : Heap} {cc : ByteArray} {pc : Nat}
theorem jv_new {own C : String} {T : u_T} {N ci index : Nat} (hexec : p.tables.exec = Jvm.exec) (hb : c.code = cc) (hts : ∀ w ∈ jw_tbl, w.before args s = true) (hin : ∀ w ∈ u_ws C T N, w ∈ jw_tbl) (ty : Nat → FieldType) (hty : ∀ k, k < N → parseFieldDescriptor (T k).2.2.1 = some (ty k)) (hown : s.vm.findClass own = some m.cls) (hcl : (Cond.classLink own index C).before args s = true) (hinst : (Cond.instantiable C N).before args s = true) (hini : (Cond.initialized C).before args s = true)
    (hK : va_K D vwCl tys s) (hP : va_P D vwCl ws H) (hD : va_D A ws) (hS : va_S A H0 H locs) (hA : ∀ q, H0.size ≤ q → A q) (hc : vwCl[ci]? = some (C, T, N)) {fs : List Value} (hfs : ∀ j, j < N → defaultValue (ty j) = vp_V fs j) (hcells : cells + 1 ≤ R.cells) (hslots : slots + N ≤ R.slots) (hdg : decode cc pc = .ok (.new index, 3))
    (kk : ∀ H1 : Heap, H1.size = H.size + 1 → va_P D vwCl (ws ++ [(H.size, .inr (ci, fs))]) H1 → va_D A (ws ++ [(H.size, .inr (ci, fs))]) → va_S A H0 H1 locs → W p l e R s m args below meth c H1 locs (cells + 1) (slots + N) Q (F0 m (pc + 3) ls (.ref H.size :: rest))) : W p l e R s m args below meth c H locs cells slots Q (F0 m pc ls rest) := by
  have hKn := hK.1 ci _ hc
  refine W.newcK hexec hb hown hcl hinst hini rfl hdg hcells hslots hKn.2.1 rfl fun H1 kC hkC e1 z1 o1 => ?_
  have hk : ∀ (k : Nat) (x : Nat × va_E), ws[k]? = some x → H1[x.1]? = H[x.1]? := fun k x hx => o1 x.1 ((hP k x hx).lt)
  refine kk H1 z1 ((hP.kept hk).app (fun k x hx => ?_)) (hD.push hP rfl (hA _ hS.1)) ⟨Nat.le_trans hS.1 (by omega), fun x h1 h2 => (o1 x (Nat.lt_of_lt_of_le h1 hS.1)).trans (hS.2.1 x h1 h2), hS.2.2⟩
  have hz : k < 1 := (List.getElem?_eq_some_iff.mp hx).1
  rw [show k = 0 by omega] at hx
  cases hx
  exact ⟨_, hc, (u_born ty hts hin hKn hkC e1 hty).to hfs⟩
theorem jv_K {cA : ClassId} {ty : FieldType} (hK : va_K D vwCl tys s) (h1 : ArrOfT s cA ty) (h2 : va_RA s cA ty) : va_K D vwCl (tys ++ [(cA, ty)]) s := by
  refine ⟨hK.1, fun k x hx => ?_⟩
  by_cases hl : k < tys.length
  · rw [List.getElem?_append_left hl] at hx
    exact hK.2 k x hx
  · rw [List.getElem?_append_right (by omega)] at hx
    have hz : k - tys.length < 1 := (List.getElem?_eq_some_iff.mp hx).1
    rw [show k - tys.length = 0 by omega] at hx
    cases hx
    exact ⟨h1, h2⟩
theorem jv_app {cA : ClassId} {x0 : vp_A} {H1 : Heap} (hP : va_P D vwCl ws H) (hk : ∀ q : Nat, q < H.size → H1[q]? = H[q]?) (h1 : H1[H.size]? = some (vp_cell cA x0)) : va_P D vwCl (ws ++ [(H.size, .inl (cA, x0))]) H1 := by
  refine (hP.kept (fun k x hx => hk x.1 ((hP k x hx).lt))).app (fun k x hx => ?_)
  have hz : k < 1 := (List.getElem?_eq_some_iff.mp hx).1
  rw [show k = 0 by omega] at hx
  cases hx
  exact h1
theorem jv_newa {atype : ArrayType} {n : Int32} (hexec : p.tables.exec = Jvm.exec) (hb : c.code = cc) (harr : (Cond.arrayClass (newarray.typeOf atype)).before args s = true) (hdv : defaultValue (newarray.typeOf atype) = .int 0) (hRA : ∀ cA, s.vm.findClass ("[" ++ (newarray.typeOf atype).toString) = some cA → va_RA s cA (newarray.typeOf atype)) (hK : va_K D vwCl tys s) (hP : va_P D vwCl ws H) (hD : va_D A ws) (hS : va_S A H0 H locs) (hA : ∀ q, H0.size ≤ q → A q)
    (hn : ¬ n < 0) (hbytes : n.toNatClampNeg * componentBytes (newarray.typeOf atype) ≤ 536870912) (hcells : cells + 1 ≤ R.cells) (hslots : slots + n.toNatClampNeg ≤ R.slots) (hdg : decode cc pc = .ok (.newarray atype, 2))
    (kk : ∀ (cA : ClassId) (H1 : Heap), H1.size = H.size + 1 → va_K D vwCl (tys ++ [(cA, newarray.typeOf atype)]) s → va_P D vwCl (ws ++ [(H.size, .inl (cA, n.toNatClampNeg, .inl (fun _ => 0)))]) H1 → va_D A (ws ++ [(H.size, .inl (cA, n.toNatClampNeg, .inl (fun _ => 0)))]) → va_S A H0 H1 locs →
      W p l e R s m args below meth c H1 locs (cells + 1) (slots + n.toNatClampNeg) Q (F0 m (pc + 2) ls (.ref H.size :: rest))) : W p l e R s m args below meth c H locs cells slots Q (F0 m pc ls (.int n :: rest)) := by
  refine va_newaK hexec hb harr rfl hdg rfl hn rfl hbytes hcells hslots rfl fun H1 cA e1 z1 o1 hAr hNm => ?_
  refine kk cA H1 z1 (jv_K hK hAr (hRA cA hNm)) (jv_app hP o1 ?_) (hD.push hP rfl (hA _ hS.1)) ⟨Nat.le_trans hS.1 (by omega), fun x h1 h2 => (o1 x (Nat.lt_of_lt_of_le h1 hS.1)).trans (hS.2.1 x h1 h2), hS.2.2⟩
  rw [e1, hdv]
  rfl
theorem jv_newq {own C : String} {index : Nat} {n : Int32} (hexec : p.tables.exec = Jvm.exec) (hb : c.code = cc) (hown : s.vm.findClass own = some m.cls) (hclink : (Cond.classLink own index C).before args s = true) (hover : (Cond.arrayOver (.object C)).before args s = true) (hK : va_K D vwCl tys s) (hP : va_P D vwCl ws H) (hD : va_D A ws) (hS : va_S A H0 H locs) (hA : ∀ q, H0.size ≤ q → A q)
    (hn : ¬ n < 0) (hbytes : n.toNatClampNeg * 4 ≤ 536870912) (hcells : cells + 1 ≤ R.cells) (hslots : slots + n.toNatClampNeg ≤ R.slots) (hdg : decode cc pc = .ok (.anewarray index, 3))
    (kk : ∀ (cA : ClassId) (H1 : Heap), H1.size = H.size + 1 → va_K D vwCl (tys ++ [(cA, .object C)]) s → va_P D vwCl (ws ++ [(H.size, .inl (cA, n.toNatClampNeg, .inr (.inr (.inr (.inr (fun _ => none))))))]) H1 → va_D A (ws ++ [(H.size, .inl (cA, n.toNatClampNeg, .inr (.inr (.inr (.inr (fun _ => none))))))]) → va_S A H0 H1 locs →
      W p l e R s m args below meth c H1 locs (cells + 1) (slots + n.toNatClampNeg) Q (F0 m (pc + 3) ls (.ref H.size :: rest))) : W p l e R s m args below meth c H locs cells slots Q (F0 m pc ls (.int n :: rest)) := by
  refine W.anew hexec hb hown hclink hover rfl hdg rfl hn hbytes hcells hslots fun cA kA comp f1 f2 f3 f4 => ?_
  generalize hH1 : H.push ({ cls := cA, slots := Array.replicate n.toNatClampNeg .null, vm := .none } : Cell) = H1
  have z1 : H1.size = H.size + 1 := by rw [← hH1, Array.size_push]
  have e1 : H1[H.size]? = some (arrV cA n.toNatClampNeg (fun _ => .null)) := by rw [← hH1, Array.getElem?_push_size, ← arrV_new]
  have o1 : ∀ q : Nat, q < H.size → H1[q]? = H[q]? := fun q hq => by rw [← hH1, Array.getElem?_push, if_neg (Nat.ne_of_lt hq)]
  refine kk cA H1 z1 (jv_K hK (fun N z => ⟨(fun k h => by cases h), kA, f2, comp, f3⟩) ⟨kA, comp, f2, f3, f4, f1⟩) (jv_app hP o1 ?_) (hD.push hP rfl (hA _ hS.1)) ⟨Nat.le_trans hS.1 (by omega), fun x h1 h2 => (o1 x (Nat.lt_of_lt_of_le h1 hS.1)).trans (hS.2.1 x h1 h2), hS.2.2⟩
  rw [e1]
  rfl
theorem jv_iast (hexec : p.tables.exec = Jvm.exec) (hb : c.code = cc) (hK : va_K D vwCl tys s) (hP : va_P D vwCl ws H) (hD : va_D A ws) (hS : va_S A H0 H locs) (q0 t0 : Nat) {cA : ClassId} {n : Nat} {f : Nat → Int32} (ha : ws[q0]? = some (a, .inl (cA, n, .inl f))) (ht : tys[t0]? = some (cA, .int)) {i : Int32} {x : Int32} (hin : vp_in i n) (hdg : decode cc pc = .ok (.iastore, 1))
    (kk : ∀ (H1 : Heap) (locs1 : List Loc), H1.size = H.size → va_P D vwCl (ws.set q0 (a, .inl (cA, n, .inl (upd f i.toNatClampNeg x)))) H1 → va_D A (ws.set q0 (a, .inl (cA, n, .inl (upd f i.toNatClampNeg x)))) → va_S A H0 H1 locs1 → W p l e R s m args below meth c H1 locs1 cells slots Q (F0 m (pc + 1) ls rest)) : W p l e R s m args below meth c H locs cells slots Q (F0 m pc ls (.int x :: .int i :: .ref a :: rest)) := by
  refine W.iast hexec hb (hP q0 _ ha) ((hK.2 t0 _ ht).1 n (fun j => .int (f j))) (fun q => by cases q) (by show ¬ (i < 0 ∨ (arrV _ _ _).slots.size ≤ _); rw [arrV_size]; exact hin) rfl rfl hdg fun H1 e z oq => ?_
  refine kk H1 _ z (hP.set hD ha ?_ oq) (hD.set ha) (hS.put z oq (hD.2 q0 _ ha))
  show H1[a]? = some (vp_cell _ _)
  rw [e]
  rw [vp_cell_i, vp_cell_i, arrV_store]
  congr 2
  funext q
  by_cases hq : q = i.toNatClampNeg
  · subst hq
    simp [updV, upd, vp_nar, narrow]
  · simp [updV, upd, hq]
theorem jv_bast (hexec : p.tables.exec = Jvm.exec) (hb : c.code = cc) (hK : va_K D vwCl tys s) (hP : va_P D vwCl ws H) (hD : va_D A ws) (hS : va_S A H0 H locs) (q0 t0 : Nat) {cA : ClassId} {n : Nat} {f : Nat → Int32} (ha : ws[q0]? = some (a, .inl (cA, n, .inl f))) (ht : tys[t0]? = some (cA, .byte)) {i : Int32} {x : Int32} (hin : vp_in i n) (hdg : decode cc pc = .ok (.bastore, 1))
    (kk : ∀ (H1 : Heap) (locs1 : List Loc), H1.size = H.size → va_P D vwCl (ws.set q0 (a, .inl (cA, n, .inl (upd f i.toNatClampNeg (vp_nar .byte x))))) H1 → va_D A (ws.set q0 (a, .inl (cA, n, .inl (upd f i.toNatClampNeg (vp_nar .byte x))))) → va_S A H0 H1 locs1 → W p l e R s m args below meth c H1 locs1 cells slots Q (F0 m (pc + 1) ls rest)) : W p l e R s m args below meth c H locs cells slots Q (F0 m pc ls (.int x :: .int i :: .ref a :: rest)) := by
  refine W.bast hexec hb (hP q0 _ ha) ((hK.2 t0 _ ht).1 n (fun j => .int (f j))) (fun q => by cases q) (by show ¬ (i < 0 ∨ (arrV _ _ _).slots.size ≤ _); rw [arrV_size]; exact hin) rfl rfl hdg fun H1 e z oq => ?_
  refine kk H1 _ z (hP.set hD ha ?_ oq) (hD.set ha) (hS.put z oq (hD.2 q0 _ ha))
  show H1[a]? = some (vp_cell _ _)
  rw [e]
  rw [vp_cell_i, vp_cell_i, arrV_store]
  congr 2
  funext q
  by_cases hq : q = i.toNatClampNeg
  · subst hq
    simp [updV, upd, vp_nar, narrow]
  · simp [updV, upd, hq]
theorem jv_zast (hexec : p.tables.exec = Jvm.exec) (hb : c.code = cc) (hK : va_K D vwCl tys s) (hP : va_P D vwCl ws H) (hD : va_D A ws) (hS : va_S A H0 H locs) (q0 t0 : Nat) {cA : ClassId} {n : Nat} {f : Nat → Int32} (ha : ws[q0]? = some (a, .inl (cA, n, .inl f))) (ht : tys[t0]? = some (cA, .boolean)) {i : Int32} {x : Int32} (hin : vp_in i n) (hdg : decode cc pc = .ok (.bastore, 1))
    (kk : ∀ (H1 : Heap) (locs1 : List Loc), H1.size = H.size → va_P D vwCl (ws.set q0 (a, .inl (cA, n, .inl (upd f i.toNatClampNeg (vp_nar .boolean x))))) H1 → va_D A (ws.set q0 (a, .inl (cA, n, .inl (upd f i.toNatClampNeg (vp_nar .boolean x))))) → va_S A H0 H1 locs1 → W p l e R s m args below meth c H1 locs1 cells slots Q (F0 m (pc + 1) ls rest)) : W p l e R s m args below meth c H locs cells slots Q (F0 m pc ls (.int x :: .int i :: .ref a :: rest)) := by
  refine W.zast hexec hb (hP q0 _ ha) ((hK.2 t0 _ ht).1 n (fun j => .int (f j))) (fun q => by cases q) (by show ¬ (i < 0 ∨ (arrV _ _ _).slots.size ≤ _); rw [arrV_size]; exact hin) rfl rfl hdg fun H1 e z oq => ?_
  refine kk H1 _ z (hP.set hD ha ?_ oq) (hD.set ha) (hS.put z oq (hD.2 q0 _ ha))
  show H1[a]? = some (vp_cell _ _)
  rw [e]
  rw [vp_cell_i, vp_cell_i, arrV_store]
  congr 2
  funext q
  by_cases hq : q = i.toNatClampNeg
  · subst hq
    simp [updV, upd, vp_nar, narrow]
  · simp [updV, upd, hq]
theorem jv_aast (hexec : p.tables.exec = Jvm.exec) (hb : c.code = cc) (hK : va_K D vwCl tys s) (hP : va_P D vwCl ws H) (hD : va_D A ws) (hS : va_S A H0 H locs) (q0 t0 qk ci : Nat) {E : String} {cA : ClassId} {r : vw_C} {n v : Nat} {vs : List Value} {f : Nat → Option Nat} (ha : ws[q0]? = some (a, .inl (cA, n, .inr (.inr (.inr (.inr f)))))) (ht : tys[t0]? = some (cA, .object E)) (hca : r.1 = E ∨ (Cond.castable r.1 E).before args s = true) (hv : ws[qk]? = some (v, .inr (ci, vs))) (hc : vwCl[ci]? = some r) {i : Int32} (hin : vp_in i n) (hdg : decode cc pc = .ok (.aastore, 1))
    (kk : ∀ (H1 : Heap) (locs1 : List Loc), H1.size = H.size → va_P D vwCl (ws.set q0 (a, .inl (cA, n, .inr (.inr (.inr (.inr (va_up f i.toNatClampNeg (some v)))))))) H1 → va_D A (ws.set q0 (a, .inl (cA, n, .inr (.inr (.inr (.inr (va_up f i.toNatClampNeg (some v)))))))) → va_S A H0 H1 locs1 → W p l e R s m args below meth c H1 locs1 cells slots Q (F0 m (pc + 1) ls rest)) : W p l e R s m args below meth c H locs cells slots Q (F0 m pc ls (.ref v :: .int i :: .ref a :: rest)) := by
  have hlt : i.toNatClampNeg < n := Nat.not_le.mp fun q => hin (Or.inr q)
  have hi0 : ¬ i < 0 := fun q => hin (Or.inl q)
  obtain ⟨r', hr', cellV, g1, g2, g3, -⟩ := hP qk _ hv
  have hcls := (hK.1 ci r hc).2
  obtain ⟨kA, comp, k1, k2, k3, -⟩ := (hK.2 t0 _ ht).2
  obtain ⟨kE, hkE, -⟩ := Vm.findClass_spec k3
  obtain ⟨kC, hkC, hkind⟩ := hcls.2
  have hasg : s.vm.assignable (D.1 ci) comp = true := by
    rcases hca with rfl | hca
    · cases hcls.1.symm.trans k3
      exact va_assign hcls
    · obtain ⟨c0, t1, f1, f2, f3⟩ := Cond.castable_spec hca
      cases hcls.1.symm.trans f1
      cases k3.symm.trans f2
      exact f3
  refine W.aast hexec hb (hP q0 _ ha) (fun q h => by cases h) (fun h => by cases h) k1 k2 rfl hkE ⟨hi0, by show _ < (arrV _ _ _).slots.size; rw [arrV_size]; exact hlt⟩ g1 (fun q h => by rw [g3] at h; cases h) (by rw [g2]; exact hkC) (by rw [g2]; exact hasg) rfl rfl hdg fun H1 e z oq => ?_
  refine kk H1 _ z (hP.set hD ha ?_ oq) (hD.set ha) (hS.put z oq (hD.2 q0 _ ha))
  show H1[a]? = some (vp_cell _ _)
  rw [e]
  rw [vp_cell_q, vp_cell_q, arrV_store]
  congr 2
  funext q
  by_cases hq : q = i.toNatClampNeg
  · subst hq
    simp [updV, va_up, va_rf]
  · simp [updV, va_up, hq]
end JA
section JB
variable {l : Launch} {cc : ByteArray} {nL : Nat} {own : String} {ret : Option FieldType} {nm : String} {fr lo : Nat} {k : jK} {pc : Nat}
theorem js_iald (d : decode cc pc = .ok (.iaload, 1)) (hk : jr_D l cc nL own ret nm fr lo k (pc + 1)) : jr_D l cc nL own ret nm fr lo (jk_iald k) pc := by
  refine ⟨fun L S h h' r he => ?_, fun p e R s m args below meth c D h0 hF rF Q X ls L st S H locs h hL hS hW hV hM he => ?_⟩
  · unfold jk_iald at he
    split at he
    · split at he
      · split at he
        · exact hk.1 _ _ _ _ _ he
        · cases he
      · cases he
    · cases he
  · unfold jk_iald at he
    split at he
    · rename_i i a S'
      obtain ⟨x, st1, rfl, hx, hS1⟩ := hS.int
      obtain ⟨st2, rfl, hS2⟩ := hS1.rf
      subst hx
      split at he
      · rename_i q hq
        split at he
        · rename_i hc
          obtain ⟨htag, hi0, hi1⟩ := hc
          rcases htag with htag | htag
          · obtain ⟨ws, tys, hK, hP, hD, hz, h1, h2⟩ := hW
            obtain ⟨k0, e0, hk0, hE⟩ := h1 a q hq (by omega)
            obtain ⟨-, cA, t0, g, rfl, ht0, hg⟩ := hE.ints (by omega) (by omega)
            rw [htag] at ht0
            exact va_iald X.1.1 X.1.2.1 hK hP k0 t0 hk0 ht0 (jm_in hi0 hi1) d (hk.2 p e R s m args below meth c D h0 hF rF Q X ls L _ _ H locs h hL (jr_S.pv (u := q.2.2 x.toInt.toNat) (by rw [hg]; exact jr_V.i rfl) hS2) ⟨ws, tys, hK, hP, hD, hz, h1, h2⟩ hV hM he)
          · obtain ⟨hle, g, hT, hg⟩ := X.2.2.1.1 a q (hM.2.2 a q hq (by omega)) htag
            obtain ⟨cell, y1, y2, y3, y4, y5, y6, y7⟩ := hT
            have hlt : x.toInt.toNat < q.2.1 := by omega
            refine W.iald (v := .int (g x.toInt.toNat)) X.1.1 X.1.2.1 (by rw [hV.2.1 a (Array.getElem?_eq_some_iff.mp y1).1 y7]; exact y1) y2 y3 ?_ (y6 _ hlt) rfl rfl d (hk.2 p e R s m args below meth c D h0 hF rF Q X ls L _ _ H locs h hL (jr_S.pv (u := q.2.2 x.toInt.toNat) (by rw [hg]; exact jr_V.i rfl) hS2) hW hV hM he)
            intro z
            rcases z with z | z
            · exact absurd ((jm_lz x).mp z) (by omega)
            · have z : cell.slots.size ≤ x.toInt.toNat := z
              omega
        · cases he
      · cases he
    · cases he
theorem js_zald (d : decode cc pc = .ok (.baload, 1)) (hk : jr_D l cc nL own ret nm fr lo k (pc + 1)) : jr_D l cc nL own ret nm fr lo (jk_xald 21 k) pc := by
  refine ⟨fun L S h h' r he => ?_, fun p e R s m args below meth c D h0 hF rF Q X ls L st S H locs h hL hS hW hV hM he => ?_⟩
  · unfold jk_xald at he
    split at he
    · split at he
      · split at he
        · exact hk.1 _ _ _ _ _ he
        · cases he
      · cases he
    · cases he
  · unfold jk_xald at he
    split at he
    · rename_i i a S'
      obtain ⟨x, st1, rfl, hx, hS1⟩ := hS.int
      obtain ⟨st2, rfl, hS2⟩ := hS1.rf
      subst hx
      split at he
      · rename_i q hq
        split at he
        · rename_i hc
          obtain ⟨htag, hi0, hi1⟩ := hc
          obtain ⟨ws, tys, hK, hP, hD, hz, h1, h2⟩ := hW
          obtain ⟨k0, e0, hk0, hE⟩ := h1 a q hq (by omega)
          obtain ⟨-, cA, t0, g, rfl, ht0, hg⟩ := hE.ints (by omega) (by omega)
          rw [htag] at ht0
          exact va_zald X.1.1 X.1.2.1 hK hP k0 t0 hk0 ht0 (jm_in hi0 hi1) d (hk.2 p e R s m args below meth c D h0 hF rF Q X ls L _ _ H locs h hL (jr_S.pv (u := q.2.2 x.toInt.toNat) (by rw [hg]; exact jr_V.i rfl) hS2) ⟨ws, tys, hK, hP, hD, hz, h1, h2⟩ hV hM he)
        · cases he
      · cases he
    · cases he
theorem js_bald (d : decode cc pc = .ok (.baload, 1)) (hk : jr_D l cc nL own ret nm fr lo k (pc + 1)) : jr_D l cc nL own ret nm fr lo (jk_xald 22 k) pc := by
  refine ⟨fun L S h h' r he => ?_, fun p e R s m args below meth c D h0 hF rF Q X ls L st S H locs h hL hS hW hV hM he => ?_⟩
  · unfold jk_xald at he
    split at he
    · split at he
      · split at he
        · exact hk.1 _ _ _ _ _ he
        · cases he
      · cases he
    · cases he
  · unfold jk_xald at he
    split at he
    · rename_i i a S'
      obtain ⟨x, st1, rfl, hx, hS1⟩ := hS.int
      obtain ⟨st2, rfl, hS2⟩ := hS1.rf
      subst hx
      split at he
      · rename_i q hq
        split at he
        · rename_i hc
          obtain ⟨htag, hi0, hi1⟩ := hc
          obtain ⟨ws, tys, hK, hP, hD, hz, h1, h2⟩ := hW
          obtain ⟨k0, e0, hk0, hE⟩ := h1 a q hq (by omega)
          obtain ⟨-, cA, t0, g, rfl, ht0, hg⟩ := hE.ints (by omega) (by omega)
          rw [htag] at ht0
          exact va_bald X.1.1 X.1.2.1 hK hP k0 t0 hk0 ht0 (jm_in hi0 hi1) d (hk.2 p e R s m args below meth c D h0 hF rF Q X ls L _ _ H locs h hL (jr_S.pv (u := q.2.2 x.toInt.toNat) (by rw [hg]; exact jr_V.i rfl) hS2) ⟨ws, tys, hK, hP, hD, hz, h1, h2⟩ hV hM he)
        · cases he
      · cases he
    · cases he
theorem js_aald {tag : Nat} (hta : tag = 23 ∨ tag = 24 ∨ tag = 25) (d : decode cc pc = .ok (.aaload, 1)) (hk : jr_D l cc nL own ret nm fr lo k (pc + 1)) : jr_D l cc nL own ret nm fr lo (jk_xald tag k) pc := by
  refine ⟨fun L S h h' r he => ?_, fun p e R s m args below meth c D h0 hF rF Q X ls L st S H locs h hL hS hW hV hM he => ?_⟩
  · unfold jk_xald at he
    split at he
    · split at he
      · split at he
        · exact hk.1 _ _ _ _ _ he
        · cases he
      · cases he
    · cases he
  · unfold jk_xald at he
    split at he
    · rename_i i a S'
      obtain ⟨x, st1, rfl, hx, hS1⟩ := hS.int
      obtain ⟨st2, rfl, hS2⟩ := hS1.rf
      subst hx
      split at he
      · rename_i q hq
        split at he
        · rename_i hc
          obtain ⟨htag, hi0, hi1⟩ := hc
          obtain ⟨ws, tys, hK, hP, hD, hz, h1, h2⟩ := hW
          obtain ⟨k0, e0, hk0, hE⟩ := h1 a q hq (by omega)
          obtain ⟨-, cA, t0, g, rfl, ht0, hg⟩ := hE.refs (by omega)
          have ht1 : ∃ C, jr_ty q.1 = .object C := by
            rw [htag]
            rcases hta with rfl | rfl | rfl
            · exact ⟨_, rfl⟩
            · exact ⟨_, rfl⟩
            · exact ⟨_, rfl⟩
          obtain ⟨C, hC⟩ := ht1
          rw [hC] at ht0
          exact va_aldq X.1.1 X.1.2.1 hK hP k0 t0 hk0 ht0 (jm_in hi0 hi1) d (hk.2 p e R s m args below meth c D h0 hF rF Q X ls L _ _ H locs h hL (jr_S.pv (u := q.2.2 x.toInt.toNat) (by rw [hg]; rfl) hS2) ⟨ws, tys, hK, hP, hD, hz, h1, h2⟩ hV hM he)
        · cases he
      · cases he
    · cases he
theorem js_iast (d : decode cc pc = .ok (.iastore, 1)) (hk : jr_D l cc nL own ret nm fr lo k (pc + 1)) : jr_D l cc nL own ret nm fr lo (jk_iast k) pc := by
  refine ⟨fun L S h h' r he => ?_, fun p e R s m args below meth c D h0 hF rF Q X ls L st S H locs h hL hS hW hV hM he => ?_⟩
  · unfold jk_iast at he
    split at he
    · split at he
      · rename_i q hq
        split at he
        · rename_i hc
          exact (jm_M_set hq (by omega) _ _).tr (hk.1 _ _ _ _ _ he)
        · cases he
      · cases he
    · cases he
  · unfold jk_iast at he
    split at he
    · rename_i v i a S'
      obtain ⟨y, st0, rfl, hy, hS0⟩ := hS.int
      obtain ⟨x, st1, rfl, hx, hS1⟩ := hS0.int
      obtain ⟨st2, rfl, hS2⟩ := hS1.rf
      subst hx
      split at he
      · rename_i q hq
        split at he
        · rename_i hc
          obtain ⟨htag, hi0, hi1⟩ := hc
          obtain ⟨ws, tys, hK, hP, hD, hz, h1, h2⟩ := hW
          obtain ⟨k0, e0, hk0, hE⟩ := h1 a q hq (by omega)
          obtain ⟨hle, cA, t0, g, rfl, ht0, hg⟩ := hE.ints (by omega) (by omega)
          have ht1 := ht0
          rw [htag] at ht1
          exact jv_iast X.1.1 X.1.2.1 hK hP hD hV k0 t0 hk0 ht1 (jm_in hi0 hi1) d (fun H1 locs1 hz1 hP1 hD1 hV1 => hk.2 p e R s m args below meth c D h0 hF rF Q X ls L _ _ H1 locs1 (jm_set h a q x.toInt.toNat (.inl v)) hL hS2 (jr_W.set hK hz hz1 hq (by omega) hk0 h1 h2 hD hP1 hD1 (jr_E.ist (by omega) (by omega) hle ht0 hg hy)) hV1 (hM.tr (jm_M_set hq (by omega) _ _)) he)
        · cases he
      · cases he
    · cases he
theorem js_zast (d : decode cc pc = .ok (.bastore, 1)) (hk : jr_D l cc nL own ret nm fr lo k (pc + 1)) : jr_D l cc nL own ret nm fr lo (jk_zast k) pc := by
  refine ⟨fun L S h h' r he => ?_, fun p e R s m args below meth c D h0 hF rF Q X ls L st S H locs h hL hS hW hV hM he => ?_⟩
  · unfold jk_zast at he
    split at he
    · split at he
      · rename_i q hq
        split at he
        · rename_i hc
          exact (jm_M_set hq (by omega) _ _).tr (hk.1 _ _ _ _ _ he)
        · cases he
      · cases he
    · cases he
  · unfold jk_zast at he
    split at he
    · rename_i v i a S'
      obtain ⟨y, st0, rfl, hy, hS0⟩ := hS.int
      obtain ⟨x, st1, rfl, hx, hS1⟩ := hS0.int
      obtain ⟨st2, rfl, hS2⟩ := hS1.rf
      subst hx
      split at he
      · rename_i q hq
        split at he
        · rename_i hc
          obtain ⟨htag, hi0, hi1, hbool⟩ := hc
          have hy1 : (vp_nar .boolean y).toInt = v := by
            rcases jm_bool (x := y) (by rw [hy]; exact hbool) with rfl | rfl
            · exact hy
            · exact hy
          obtain ⟨ws, tys, hK, hP, hD, hz, h1, h2⟩ := hW
          obtain ⟨k0, e0, hk0, hE⟩ := h1 a q hq (by omega)
          obtain ⟨hle, cA, t0, g, rfl, ht0, hg⟩ := hE.ints (by omega) (by omega)
          have ht1 := ht0
          rw [htag] at ht1
          exact jv_zast X.1.1 X.1.2.1 hK hP hD hV k0 t0 hk0 ht1 (jm_in hi0 hi1) d (fun H1 locs1 hz1 hP1 hD1 hV1 => hk.2 p e R s m args below meth c D h0 hF rF Q X ls L _ _ H1 locs1 (jm_set h a q x.toInt.toNat (.inl v)) hL hS2 (jr_W.set hK hz hz1 hq (by omega) hk0 h1 h2 hD hP1 hD1 (jr_E.ist (by omega) (by omega) hle ht0 hg hy1)) hV1 (hM.tr (jm_M_set hq (by omega) _ _)) he)
        · cases he
      · cases he
    · cases he
theorem js_bast (d : decode cc pc = .ok (.bastore, 1)) (hk : jr_D l cc nL own ret nm fr lo k (pc + 1)) : jr_D l cc nL own ret nm fr lo (jk_bast k) pc := by
  refine ⟨fun L S h h' r he => ?_, fun p e R s m args below meth c D h0 hF rF Q X ls L st S H locs h hL hS hW hV hM he => ?_⟩
  · unfold jk_bast at he
    split at he
    · split at he
      · rename_i q hq
        split at he
        · rename_i hc
          exact (jm_M_set hq (by omega) _ _).tr (hk.1 _ _ _ _ _ he)
        · cases he
      · cases he
    · cases he
  · unfold jk_bast at he
    split at he
    · rename_i v i a S'
      obtain ⟨y, st0, rfl, hy, hS0⟩ := hS.int
      obtain ⟨x, st1, rfl, hx, hS1⟩ := hS0.int
      obtain ⟨st2, rfl, hS2⟩ := hS1.rf
      subst hx
      split at he
      · rename_i q hq
        split at he
        · rename_i hc
          obtain ⟨htag, hi0, hi1⟩ := hc
          have hy2 : (vp_nar .byte y).toInt = Int.bmod v 256 := by rw [vp_nar_byte, jm_i8, hy]
          obtain ⟨ws, tys, hK, hP, hD, hz, h1, h2⟩ := hW
          obtain ⟨k0, e0, hk0, hE⟩ := h1 a q hq (by omega)
          obtain ⟨hle, cA, t0, g, rfl, ht0, hg⟩ := hE.ints (by omega) (by omega)
          have ht1 := ht0
          rw [htag] at ht1
          exact jv_bast X.1.1 X.1.2.1 hK hP hD hV k0 t0 hk0 ht1 (jm_in hi0 hi1) d (fun H1 locs1 hz1 hP1 hD1 hV1 => hk.2 p e R s m args below meth c D h0 hF rF Q X ls L _ _ H1 locs1 (jm_set h a q x.toInt.toNat (.inl (Int.bmod v 256))) hL hS2 (jr_W.set hK hz hz1 hq (by omega) hk0 h1 h2 hD hP1 hD1 (jr_E.ist (by omega) (by omega) hle ht0 hg hy2)) hV1 (hM.tr (jm_M_set hq (by omega) _ _)) he)
        · cases he
      · cases he
    · cases he
theorem js_aast {tag : Nat} {E : String} (hE9 : jr_ty tag = .object E) (hta : 23 ≤ tag ∧ tag ≤ 25) (hmay : ∀ t ∈ jm_may tag, t < 20 ∧ ∃ r : vw_C, vwCl[t]? = some r ∧ (r.1 = E ∨ Cond.castable r.1 E ∈ jw_tbl)) (d : decode cc pc = .ok (.aastore, 1)) (hk : jr_D l cc nL own ret nm fr lo k (pc + 1)) : jr_D l cc nL own ret nm fr lo (jk_aast tag k) pc := by
  refine ⟨fun L S h h' r he => ?_, fun p e R s m args below meth c D h0 hF rF Q X ls L st S H locs h hL hS hW hV hM he => ?_⟩
  · unfold jk_aast at he
    split at he
    · split at he
      · rename_i q w hq hw
        split at he
        · rename_i hc
          exact (jm_M_set hq (by omega) _ _).tr (hk.1 _ _ _ _ _ he)
        · cases he
      · cases he
    · cases he
  · unfold jk_aast at he
    split at he
    · rename_i v i a S'
      obtain ⟨st0, rfl, hS0⟩ := hS.rf
      obtain ⟨x, st1, rfl, hx, hS1⟩ := hS0.int
      obtain ⟨st2, rfl, hS2⟩ := hS1.rf
      subst hx
      split at he
      · rename_i q w hq hw
        split at he
        · rename_i hc
          obtain ⟨htag, hi0, hi1, hin⟩ := hc
          obtain ⟨ws, tys, hK, hP, hD, hz, h1, h2⟩ := hW
          obtain ⟨k0, e0, hk0, hE⟩ := h1 a q hq (by omega)
          obtain ⟨hle, cA, t0, g, rfl, ht0, hg⟩ := hE.refs (by omega)
          have ht1 := ht0
          rw [htag, hE9] at ht1
          obtain ⟨htw, rw0, hrw, hcast⟩ := hmay w.1 hin
          obtain ⟨k1, e1, hk1, hE1⟩ := h1 v w hw (by omega)
          obtain ⟨fs, rfl, -⟩ := hE1.obj htw
          have hca : rw0.1 = E ∨ (Cond.castable rw0.1 E).before args s = true := hcast.imp id (fun z => X.1.2.2.2.2 _ z)
          exact jv_aast X.1.1 X.1.2.1 hK hP hD hV k0 t0 k1 w.1 hk0 ht1 hca hk1 hrw (jm_in hi0 hi1) d (fun H1 locs1 hz1 hP1 hD1 hV1 => hk.2 p e R s m args below meth c D h0 hF rF Q X ls L _ _ H1 locs1 (jm_set h a q x.toInt.toNat (.inr (some v))) hL hS2 (jr_W.set hK hz hz1 hq (by omega) hk0 h1 h2 hD hP1 hD1 (jr_E.ast (by omega) (by omega) hle ht0 hg)) hV1 (hM.tr (jm_M_set hq (by omega) _ _)) he)
        · cases he
      · cases he
    · cases he
theorem js_alen (d : decode cc pc = .ok (.arraylength, 1)) (hk : jr_D l cc nL own ret nm fr lo k (pc + 1)) : jr_D l cc nL own ret nm fr lo (jk_alen k) pc := by
  refine ⟨fun L S h h' r he => ?_, fun p e R s m args below meth c D h0 hF rF Q X ls L st S H locs h hL hS hW hV hM he => ?_⟩
  · unfold jk_alen at he
    split at he
    · split at he
      · split at he
        · exact hk.1 _ _ _ _ _ he
        · cases he
      · cases he
    · cases he
  · unfold jk_alen at he
    split at he
    · rename_i a S'
      obtain ⟨st1, rfl, hS1⟩ := hS.rf
      split at he
      · rename_i q hq
        split at he
        · rename_i hc
          by_cases h30 : q.1 = 30
          · obtain ⟨hle, g, hT, hg⟩ := X.2.2.1.1 a q (hM.2.2 a q hq (by omega)) h30
            exact va_tlen X.1.1 X.1.2.1 hT hV rfl d (hk.2 p e R s m args below meth c D h0 hF rF Q X ls L _ _ H locs h hL (jr_S.pi (nI_toInt (by omega)) hS1) hW hV hM he)
          · obtain ⟨ws, tys, hK, hP, hD, hz, h1, h2⟩ := hW
            obtain ⟨k0, e0, hk0, hE⟩ := h1 a q hq (by omega)
            have hW2 : jr_W D (jr_A h0) h s H := ⟨ws, tys, hK, hP, hD, hz, h1, h2⟩
            by_cases h22 : q.1 ≤ 22
            · obtain ⟨hle, cA, t0, g, rfl, ht0, hg⟩ := hE.ints (by omega) (by omega)
              exact va_alen X.1.1 X.1.2.1 hK hP k0 t0 hk0 ht0 rfl d (hk.2 p e R s m args below meth c D h0 hF rF Q X ls L _ _ H locs h hL (jr_S.pi (nI_toInt (by omega)) hS1) hW2 hV hM he)
            · obtain ⟨hle, cA, t0, g, rfl, ht0, hg⟩ := hE.refs (by omega)
              exact va_alen X.1.1 X.1.2.1 hK hP k0 t0 hk0 ht0 rfl d (hk.2 p e R s m args below meth c D h0 hF rF Q X ls L _ _ H locs h hL (jr_S.pi (nI_toInt (by omega)) hS1) hW2 hV hM he)
        · cases he
      · cases he
    · cases he
theorem js_newi (d : decode cc pc = .ok (.newarray .int, 2)) (hw : Cond.arrayClass .int ∈ jw_tbl) (hk : jr_D l cc nL own ret nm fr lo k (pc + 2)) : jr_D l cc nL own ret nm fr lo (jk_newarr 20 (.inl 0) k) pc := by
  refine ⟨fun L S h h' r he => ?_, fun p e R s m args below meth c D h0 hF rF Q X ls L st S H locs h hL hS hW hV hM he => ?_⟩
  · unfold jk_newarr at he
    split at he
    · split at he
      · exact (jm_M_new (by show 20 < 30; omega)).tr (hk.1 _ _ _ _ _ he)
      · cases he
    · cases he
  · unfold jk_newarr at he
    split at he
    · rename_i n S'
      obtain ⟨x, st1, rfl, hx, hS1⟩ := hS.int
      subst hx
      split at he
      · rename_i hc
        obtain ⟨ws, tys, hK, hP, hD, hz, h1, h2⟩ := hW
        obtain ⟨hfin1, hfin2, -⟩ := hk.1 _ _ _ _ _ he
        have hfin1 : h.2.1 + 1 ≤ hF.2.1 := hfin1
        have hfin2 : h.2.2 + x.toInt.toNat ≤ hF.2.2 := hfin2
        obtain ⟨hm1, hm2, hm3⟩ := hM
        have hR1 := X.2.1.2.2.2.1
        have hR2 := X.2.1.2.2.2.2.1
        refine jv_newa (atype := .int) X.1.1 X.1.2.1 (X.1.2.2.2.2 _ hw) rfl (fun cA hh => hh) hK hP hD hV (jr_hA X.2.1.2.2.2.2.2) (fun z => absurd ((jm_lz x).mp z) (by omega)) ?_ (by omega) ?_ d (fun cA H1 hz1 hK1 hP1 hD1 hV1 => ?_)
        · have : x.toNatClampNeg = x.toInt.toNat := rfl
          rw [this]
          simp only [newarray.typeOf, componentBytes]
          omega
        · have : x.toNatClampNeg = x.toInt.toNat := rfl
          rw [this]
          omega
        · refine W.cs (cells' := (jm_new h (20, x.toInt.toNat, fun _ => .inl 0)).2.1 - h0.2.1) (slots' := (jm_new h (20, x.toInt.toNat, fun _ => .inl 0)).2.2 - h0.2.2) (by show _ = (h.2.1 + 1) - _; omega) (by show _ = (h.2.2 + x.toInt.toNat) - _; have : x.toNatClampNeg = x.toInt.toNat := rfl; omega) ?_
          rw [hz] at hP1 hD1 ⊢
          exact hk.2 p e R s m args below meth c D h0 hF rF Q X ls L _ _ H1 locs _ hL (jr_S.pr hS1) (jr_W.new hK1 (by omega) (by show 20 < 30; omega) h1 h2 hP1 hD1 (Or.inr (Or.inl ⟨by show 20 ≤ 20; omega, by show 20 ≤ 22; omega, by show x.toInt.toNat ≤ 100000; omega, cA, tys.length, _, rfl, by rw [List.getElem?_append_right (Nat.le_refl _), Nat.sub_self]; rfl, rfl⟩))) hV1 (jr_M.tr ⟨hm1, hm2, hm3⟩ (jm_M_new (by show 20 < 30; omega))) he
      · cases he
    · cases he
theorem js_newz (d : decode cc pc = .ok (.newarray .boolean, 2)) (hw : Cond.arrayClass .boolean ∈ jw_tbl) (hk : jr_D l cc nL own ret nm fr lo k (pc + 2)) : jr_D l cc nL own ret nm fr lo (jk_newarr 21 (.inl 0) k) pc := by
  refine ⟨fun L S h h' r he => ?_, fun p e R s m args below meth c D h0 hF rF Q X ls L st S H locs h hL hS hW hV hM he => ?_⟩
  · unfold jk_newarr at he
    split at he
    · split at he
      · exact (jm_M_new (by show 21 < 30; omega)).tr (hk.1 _ _ _ _ _ he)
      · cases he
    · cases he
  · unfold jk_newarr at he
    split at he
    · rename_i n S'
      obtain ⟨x, st1, rfl, hx, hS1⟩ := hS.int
      subst hx
      split at he
      · rename_i hc
        obtain ⟨ws, tys, hK, hP, hD, hz, h1, h2⟩ := hW
        obtain ⟨hfin1, hfin2, -⟩ := hk.1 _ _ _ _ _ he
        have hfin1 : h.2.1 + 1 ≤ hF.2.1 := hfin1
        have hfin2 : h.2.2 + x.toInt.toNat ≤ hF.2.2 := hfin2
        obtain ⟨hm1, hm2, hm3⟩ := hM
        have hR1 := X.2.1.2.2.2.1
        have hR2 := X.2.1.2.2.2.2.1
        refine jv_newa (atype := .boolean) X.1.1 X.1.2.1 (X.1.2.2.2.2 _ hw) rfl (fun cA hh => hh) hK hP hD hV (jr_hA X.2.1.2.2.2.2.2) (fun z => absurd ((jm_lz x).mp z) (by omega)) ?_ (by omega) ?_ d (fun cA H1 hz1 hK1 hP1 hD1 hV1 => ?_)
        · have : x.toNatClampNeg = x.toInt.toNat := rfl
          rw [this]
          simp only [newarray.typeOf, componentBytes]
          omega
        · have : x.toNatClampNeg = x.toInt.toNat := rfl
          rw [this]
          omega
        · refine W.cs (cells' := (jm_new h (21, x.toInt.toNat, fun _ => .inl 0)).2.1 - h0.2.1) (slots' := (jm_new h (21, x.toInt.toNat, fun _ => .inl 0)).2.2 - h0.2.2) (by show _ = (h.2.1 + 1) - _; omega) (by show _ = (h.2.2 + x.toInt.toNat) - _; have : x.toNatClampNeg = x.toInt.toNat := rfl; omega) ?_
          rw [hz] at hP1 hD1 ⊢
          exact hk.2 p e R s m args below meth c D h0 hF rF Q X ls L _ _ H1 locs _ hL (jr_S.pr hS1) (jr_W.new hK1 (by omega) (by show 21 < 30; omega) h1 h2 hP1 hD1 (Or.inr (Or.inl ⟨by show 20 ≤ 21; omega, by show 21 ≤ 22; omega, by show x.toInt.toNat ≤ 100000; omega, cA, tys.length, _, rfl, by rw [List.getElem?_append_right (Nat.le_refl _), Nat.sub_self]; rfl, rfl⟩))) hV1 (jr_M.tr ⟨hm1, hm2, hm3⟩ (jm_M_new (by show 21 < 30; omega))) he
      · cases he
    · cases he
theorem js_newb (d : decode cc pc = .ok (.newarray .byte, 2)) (hw : Cond.arrayClass .byte ∈ jw_tbl) (hk : jr_D l cc nL own ret nm fr lo k (pc + 2)) : jr_D l cc nL own ret nm fr lo (jk_newarr 22 (.inl 0) k) pc := by
  refine ⟨fun L S h h' r he => ?_, fun p e R s m args below meth c D h0 hF rF Q X ls L st S H locs h hL hS hW hV hM he => ?_⟩
  · unfold jk_newarr at he
    split at he
    · split at he
      · exact (jm_M_new (by show 22 < 30; omega)).tr (hk.1 _ _ _ _ _ he)
      · cases he
    · cases he
  · unfold jk_newarr at he
    split at he
    · rename_i n S'
      obtain ⟨x, st1, rfl, hx, hS1⟩ := hS.int
      subst hx
      split at he
      · rename_i hc
        obtain ⟨ws, tys, hK, hP, hD, hz, h1, h2⟩ := hW
        obtain ⟨hfin1, hfin2, -⟩ := hk.1 _ _ _ _ _ he
        have hfin1 : h.2.1 + 1 ≤ hF.2.1 := hfin1
        have hfin2 : h.2.2 + x.toInt.toNat ≤ hF.2.2 := hfin2
        obtain ⟨hm1, hm2, hm3⟩ := hM
        have hR1 := X.2.1.2.2.2.1
        have hR2 := X.2.1.2.2.2.2.1
        refine jv_newa (atype := .byte) X.1.1 X.1.2.1 (X.1.2.2.2.2 _ hw) rfl (fun cA hh => hh) hK hP hD hV (jr_hA X.2.1.2.2.2.2.2) (fun z => absurd ((jm_lz x).mp z) (by omega)) ?_ (by omega) ?_ d (fun cA H1 hz1 hK1 hP1 hD1 hV1 => ?_)
        · have : x.toNatClampNeg = x.toInt.toNat := rfl
          rw [this]
          simp only [newarray.typeOf, componentBytes]
          omega
        · have : x.toNatClampNeg = x.toInt.toNat := rfl
          rw [this]
          omega
        · refine W.cs (cells' := (jm_new h (22, x.toInt.toNat, fun _ => .inl 0)).2.1 - h0.2.1) (slots' := (jm_new h (22, x.toInt.toNat, fun _ => .inl 0)).2.2 - h0.2.2) (by show _ = (h.2.1 + 1) - _; omega) (by show _ = (h.2.2 + x.toInt.toNat) - _; have : x.toNatClampNeg = x.toInt.toNat := rfl; omega) ?_
          rw [hz] at hP1 hD1 ⊢
          exact hk.2 p e R s m args below meth c D h0 hF rF Q X ls L _ _ H1 locs _ hL (jr_S.pr hS1) (jr_W.new hK1 (by omega) (by show 22 < 30; omega) h1 h2 hP1 hD1 (Or.inr (Or.inl ⟨by show 20 ≤ 22; omega, by show 22 ≤ 22; omega, by show x.toInt.toNat ≤ 100000; omega, cA, tys.length, _, rfl, by rw [List.getElem?_append_right (Nat.le_refl _), Nat.sub_self]; rfl, rfl⟩))) hV1 (jr_M.tr ⟨hm1, hm2, hm3⟩ (jm_M_new (by show 22 < 30; omega))) he
      · cases he
    · cases he
theorem js_anew {tag index : Nat} {C : String} (d : decode cc pc = .ok (.anewarray index, 3)) (hC : jr_ty tag = .object C) (hta : 23 ≤ tag ∧ tag ≤ 25) (hw1 : Cond.classLink own index C ∈ jw_tbl) (hw2 : Cond.arrayOver (.object C) ∈ jw_tbl) (hk : jr_D l cc nL own ret nm fr lo k (pc + 3)) : jr_D l cc nL own ret nm fr lo (jk_newarr tag (.inr none) k) pc := by
  refine ⟨fun L S h h' r he => ?_, fun p e R s m args below meth c D h0 hF rF Q X ls L st S H locs h hL hS hW hV hM he => ?_⟩
  · unfold jk_newarr at he
    split at he
    · split at he
      · exact (jm_M_new (by show tag < 30; omega)).tr (hk.1 _ _ _ _ _ he)
      · cases he
    · cases he
  · unfold jk_newarr at he
    split at he
    · rename_i n S'
      obtain ⟨x, st1, rfl, hx, hS1⟩ := hS.int
      subst hx
      split at he
      · rename_i hc
        obtain ⟨ws, tys, hK, hP, hD, hz, h1, h2⟩ := hW
        obtain ⟨hfin1, hfin2, -⟩ := hk.1 _ _ _ _ _ he
        have hfin1 : h.2.1 + 1 ≤ hF.2.1 := hfin1
        have hfin2 : h.2.2 + x.toInt.toNat ≤ hF.2.2 := hfin2
        obtain ⟨hm1, hm2, hm3⟩ := hM
        have hR1 := X.2.1.2.2.2.1
        have hR2 := X.2.1.2.2.2.2.1
        have hcl9 : x.toNatClampNeg = x.toInt.toNat := rfl
        refine jv_newq X.1.1 X.1.2.1 X.1.2.2.2.1 (X.1.2.2.2.2 _ hw1) (X.1.2.2.2.2 _ hw2) hK hP hD hV (jr_hA X.2.1.2.2.2.2.2) (fun z => absurd ((jm_lz x).mp z) (by omega)) (by rw [hcl9]; omega) (by omega) (by rw [hcl9]; omega) d (fun cA H1 hz1 hK1 hP1 hD1 hV1 => ?_)
        refine W.cs (cells' := (jm_new h (tag, x.toInt.toNat, fun _ => .inr none)).2.1 - h0.2.1) (slots' := (jm_new h (tag, x.toInt.toNat, fun _ => .inr none)).2.2 - h0.2.2) (by show _ = (h.2.1 + 1) - _; omega) (by show _ = (h.2.2 + x.toInt.toNat) - _; rw [hcl9]; omega) ?_
        rw [hz] at hP1 hD1 ⊢
        exact hk.2 p e R s m args below meth c D h0 hF rF Q X ls L _ _ H1 locs _ hL (jr_S.pr hS1) (jr_W.new hK1 (by omega) (by show tag < 30; omega) h1 h2 hP1 hD1 (Or.inr (Or.inr ⟨by show 23 ≤ tag; omega, by show tag ≤ 25; omega, by show x.toInt.toNat ≤ 100000; omega, cA, tys.length, _, rfl, by rw [List.getElem?_append_right (Nat.le_refl _), Nat.sub_self, hC]; rfl, rfl⟩))) hV1 (jr_M.tr ⟨hm1, hm2, hm3⟩ (jm_M_new (by show tag < 30; omega))) he
      · cases he
    · cases he
def jm_dflt (ty : Nat → FieldType) (N : Nat) (refs : List Nat) : Bool := (List.range N).all fun j => match ty j with
  | .int => !(refs.contains j)
  | .boolean => !(refs.contains j)
  | .object _ => refs.contains j
  | .array _ => refs.contains j
  | _ => false
theorem js_new {tag n index : Nat} {refs : List Nat} {C : String} {T : u_T} {ty : Nat → FieldType} (d : decode cc pc = .ok (.new index, 3)) (hcl : vwCl[tag]? = some (C, T, n)) (ht : tag < 20) (hty : ∀ k, k < n → parseFieldDescriptor (T k).2.2.1 = some (ty k)) (hdf : jm_dflt ty n refs = true) (hw1 : Cond.classLink own index C ∈ jw_tbl) (hw2 : Cond.instantiable C n ∈ jw_tbl) (hw3 : Cond.initialized C ∈ jw_tbl) (hk : jr_D l cc nL own ret nm fr lo k (pc + 3)) : jr_D l cc nL own ret nm fr lo (jk_new tag n refs k) pc := by
  refine ⟨fun L S h h' r he => (jm_M_new (by show tag < 30; omega)).tr (hk.1 _ _ _ _ _ he), fun p e R s m args below meth c D h0 hF rF Q X ls L st S H locs h hL hS hW hV hM he => ?_⟩
  unfold jk_new at he
  obtain ⟨ws, tys, hK, hP, hD, hz, h1, h2⟩ := hW
  obtain ⟨hfin1, hfin2, -⟩ := hk.1 _ _ _ _ _ he
  have hfin1 : h.2.1 + 1 ≤ hF.2.1 := hfin1
  have hfin2 : h.2.2 + n ≤ hF.2.2 := hfin2
  obtain ⟨hm1, hm2, hm3⟩ := hM
  have hR1 := X.2.1.2.2.2.1
  have hR2 := X.2.1.2.2.2.2.1
  obtain ⟨hin, -⟩ := jr_cls hcl
  have hin : ∀ w ∈ u_ws C T n, w ∈ jw_tbl := hin
  have hval : ∀ j, j < n → jr_V (defaultValue (ty j)) (if j ∈ refs then .inr none else .inl 0) := by
    intro j hj
    have h9 := List.all_eq_true.mp hdf j (List.mem_range.mpr hj)
    cases hte : ty j <;> rw [hte] at h9 <;> simp at h9 <;> first | (rw [if_neg h9]; exact jr_V.i rfl) | (rw [if_pos h9]; exact jr_V.n)
  have hfs : ∀ j, j < n → defaultValue (ty j) = vp_V ((List.range n).map fun j => defaultValue (ty j)) j := by
    intro j hj
    simp [vp_V, hj]
  refine jv_new (N := n) X.1.1 X.1.2.1 X.1.2.2.2.2 hin ty hty X.1.2.2.2.1 (X.1.2.2.2.2 _ hw1) (X.1.2.2.2.2 _ hw2) (X.1.2.2.2.2 _ hw3) hK hP hD hV (jr_hA X.2.1.2.2.2.2.2) hcl hfs (by omega) (by omega) d (fun H1 hz1 hP1 hD1 hV1 => ?_)
  refine W.cs (cells' := (jm_new h (tag, n, fun j => if j ∈ refs then .inr none else .inl 0)).2.1 - h0.2.1) (slots' := (jm_new h (tag, n, fun j => if j ∈ refs then .inr none else .inl 0)).2.2 - h0.2.2) (by show _ = (h.2.1 + 1) - _; omega) (by show _ = (h.2.2 + n) - _; omega) ?_
  rw [hz] at hP1 hD1 ⊢
  exact hk.2 p e R s m args below meth c D h0 hF rF Q X ls L _ _ H1 locs _ hL (jr_S.pr hS) (jr_W.new (tys1 := []) (by rw [List.append_nil]; exact hK) (by omega) (by show tag < 30; omega) h1 h2 hP1 hD1 (Or.inl ⟨ht, _, rfl, by simp, ⟨_, hcl, rfl⟩, fun j hj => ⟨defaultValue (ty j), by simp [show j < n from hj], hval j hj⟩⟩)) hV1 (jr_M.tr ⟨hm1, hm2, hm3⟩ (jm_M_new (by show tag < 30; omega))) he
theorem js_obj {index : Nat} (d : decode cc pc = .ok (.invokespecial index, 3)) (hw1 : Cond.methodLink own index Lib.objectInit ∈ jw_tbl) (hw2 : Cond.instanceMethod Lib.objectInit ∈ jw_tbl) (hw3 : Cond.code Lib.objectInit ⟨#[0xb1]⟩ 1 none ∈ jw_tbl) (hfr : 1 ≤ fr) (hlo : 20 ≤ lo) (hk : jr_D l cc nL own ret nm fr lo k (pc + 3)) : jr_D l cc nL own ret nm fr lo (jk_obj k) pc := by
  refine ⟨fun L S h h' r he => ?_, fun p e R s m args below meth c D h0 hF rF Q X ls L st S H locs h hL hS hW hV hM he => ?_⟩
  · unfold jk_obj at he
    split at he
    · split at he
      · exact hk.1 _ _ _ _ _ he
      · cases he
    · cases he
  · unfold jk_obj at he
    split at he
    · rename_i a S'
      obtain ⟨st1, rfl, hS1⟩ := hS.rf
      split at he
      · rename_i hlen
        have h1 := X.2.1.2.1
        have h2 := X.2.1.2.2.1
        have hsz : ls.size = nL := by obtain ⟨lv, z, -⟩ := hL; exact z.1
        exact W.objInit X.1.1 X.1.2.1 X.1.2.2.2.1 (X.1.2.2.2.2 _ hw1) (X.1.2.2.2.2 _ hw2) (X.1.2.2.2.2 _ hw3) rfl (by rw [X.1.2.2.1]; exact hsz) rfl d (by omega) (by rw [hS1.cats]; show 2 * 0 + _ + 12 ≤ _; omega) (hk.2 p e R s m args below meth c D h0 hF rF Q X ls L _ _ H locs h hL hS1 hW hV hM he)
      · cases he
    · cases he
theorem js_max {index : Nat} (d : decode cc pc = .ok (.invokestatic index, 3)) (hw1 : Cond.methodLink own index Lib.Math.max.name ∈ jw_tbl) (hw2 : Cond.static Lib.Math.max.name ∈ jw_tbl) (hw3 : Cond.initialized "java/lang/Math" ∈ jw_tbl) (hw4 : Cond.code Lib.Math.max.name Lib.Math.max.code 2 (some .int) ∈ jw_tbl) (hfr : 1 ≤ fr) (hlo : 21 ≤ lo) (hk : jr_D l cc nL own ret nm fr lo k (pc + 3)) : jr_D l cc nL own ret nm fr lo (jk_max k) pc := by
  refine ⟨fun L S h h' r he => ?_, fun p e R s m args below meth c D h0 hF rF Q X ls L st S H locs h hL hS hW hV hM he => ?_⟩
  · unfold jk_max at he
    split at he
    · split at he
      · exact hk.1 _ _ _ _ _ he
      · cases he
    · cases he
  · unfold jk_max at he
    split at he
    · rename_i y x S'
      obtain ⟨b, st1, rfl, hb, hS1⟩ := hS.int
      obtain ⟨a, st2, rfl, ha, hS2⟩ := hS1.int
      split at he
      · rename_i hlen
        have h1 := X.2.1.2.1
        have h2 := X.2.1.2.2.1
        have hsz : ls.size = nL := by obtain ⟨lv, z, -⟩ := hL; exact z.1
        obtain ⟨hf1, hf2, -⟩ := hk.1 _ _ _ _ _ he
        have hR1 := X.2.1.2.2.2.1
        have hR2 := X.2.1.2.2.2.2.1
        subst ha
        subst hb
        refine va_mmax X.1.1 X.1.2.1 (by rw [X.1.2.2.1]; exact hsz.symm) X.1.2.2.2.1 (X.1.2.2.2.2 _ hw1) (X.1.2.2.2.2 _ hw2) (X.1.2.2.2.2 _ hw3) (X.1.2.2.2.2 _ hw4) (by omega) (by rw [hS2.cats]; omega) (by omega) (by omega) d (hk.2 p e R s m args below meth c D h0 hF rF Q X ls L _ _ H locs h hL (jr_S.pi ?_ hS2) hW hV hM he)
        by_cases hlt : a < b
        · rw [if_pos hlt, if_pos ((jm_lt a b).mp hlt)]
        · rw [if_neg hlt, if_neg (fun z => hlt ((jm_lt a b).mpr z))]
      · cases he
    · cases he
theorem js_min {index : Nat} (d : decode cc pc = .ok (.invokestatic index, 3)) (hw1 : Cond.methodLink own index Lib.Math.min.name ∈ jw_tbl) (hw2 : Cond.static Lib.Math.min.name ∈ jw_tbl) (hw3 : Cond.initialized "java/lang/Math" ∈ jw_tbl) (hw4 : Cond.code Lib.Math.min.name Lib.Math.min.code 2 (some .int) ∈ jw_tbl) (hfr : 1 ≤ fr) (hlo : 21 ≤ lo) (hk : jr_D l cc nL own ret nm fr lo k (pc + 3)) : jr_D l cc nL own ret nm fr lo (jk_min k) pc := by
  refine ⟨fun L S h h' r he => ?_, fun p e R s m args below meth c D h0 hF rF Q X ls L st S H locs h hL hS hW hV hM he => ?_⟩
  · unfold jk_min at he
    split at he
    · split at he
      · exact hk.1 _ _ _ _ _ he
      · cases he
    · cases he
  · unfold jk_min at he
    split at he
    · rename_i y x S'
      obtain ⟨b, st1, rfl, hb, hS1⟩ := hS.int
      obtain ⟨a, st2, rfl, ha, hS2⟩ := hS1.int
      split at he
      · rename_i hlen
        have h1 := X.2.1.2.1
        have h2 := X.2.1.2.2.1
        have hsz : ls.size = nL := by obtain ⟨lv, z, -⟩ := hL; exact z.1
        obtain ⟨hf1, hf2, -⟩ := hk.1 _ _ _ _ _ he
        have hR1 := X.2.1.2.2.2.1
        have hR2 := X.2.1.2.2.2.2.1
        subst ha
        subst hb
        refine va_mmin X.1.1 X.1.2.1 (by rw [X.1.2.2.1]; exact hsz.symm) X.1.2.2.2.1 (X.1.2.2.2.2 _ hw1) (X.1.2.2.2.2 _ hw2) (X.1.2.2.2.2 _ hw3) (X.1.2.2.2.2 _ hw4) (by omega) (by rw [hS2.cats]; omega) (by omega) (by omega) d (hk.2 p e R s m args below meth c D h0 hF rF Q X ls L _ _ H locs h hL (jr_S.pi ?_ hS2) hW hV hM he)
        by_cases hlt : b < a
        · rw [if_pos hlt, if_pos ((jm_lt b a).mp hlt)]
        · rw [if_neg hlt, if_neg (fun z => hlt ((jm_lt b a).mpr z))]
      · cases he
    · cases he
theorem js_static {j index : Nat} {name : String} (d : decode cc pc = .ok (.getstatic index, 3)) (hj : (j = 0 ∧ name = "LEAST_N") ∨ (j = 1 ∧ name = "MOST_N")) (hw : Cond.fieldLink own index "MeetingKit" name "[I" ∈ jw_tbl) (hk : jr_D l cc nL own ret nm fr lo k (pc + 3)) : jr_D l cc nL own ret nm fr lo (jk_static j k) pc := by
  refine ⟨fun L S h h' r he => ?_, fun p e R s m args below meth c D h0 hF rF Q X ls L st S H locs h hL hS hW hV hM he => ?_⟩
  · unfold jk_static at he
    split at he
    · exact hk.1 _ _ _ _ _ he
    · cases he
  · unfold jk_static at he
    split at he
    · rename_i q hq
      obtain ⟨h31, a, ha⟩ := jm_stat_some hq
      obtain ⟨aL, aM, e1, e2, z1, z2⟩ := X.2.2.1.2 a q (hM.2.2 a q ha (by omega)) h31
      rcases hj with ⟨rfl, rfl⟩ | ⟨rfl, rfl⟩
      · exact va_gets X.1.1 X.1.2.1 z1 hV X.1.2.2.2.1 (X.1.2.2.2.2 _ hw) (fun _ z => z) d (hk.2 p e R s m args below meth c D h0 hF rF Q X ls L _ _ H locs h hL (jr_S.pv (u := q.2.2 0) (by rw [e1]; exact jr_V.r) hS) hW hV hM he)
      · exact va_gets X.1.1 X.1.2.1 z2 hV X.1.2.2.2.1 (X.1.2.2.2.2 _ hw) (fun _ z => z) d (hk.2 p e R s m args below meth c D h0 hF rF Q X ls L _ _ H locs h hL (jr_S.pv (u := q.2.2 1) (by rw [e2]; exact jr_V.r) hS) hW hV hM he)
    · cases he
end JB
