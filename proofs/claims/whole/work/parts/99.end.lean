/-! THE CLAIM OUT OF ONE WALK OF THE LAW'S BODY. Your part is whole_start (and what it stands on); all else here is the same for every law, but numbers. -/
def R_law : String := "MeetingKitLaw"
def lw_P (b : Addr) (xs : List Int32) (args : Array Value) (s : State) : Prop := args = #[.ref b] ∧ s.IntsAt b xs ∧ xs.length ≤ 3072 ∧ (Jvm.Cond.and given_1 narrow_1).before args s = true
def lw_Q (_ : Array Value) (s : State) (o : Outcome) (t : State) : Prop := o = .returned (some (.int 1)) ∧ Framed s o t [] 600000 7302250
def lw_Z (below : List Frame) (a : Array Value) (s : State) : State → Prop := fun t => ∃ o, t.status = .running ∧ Ended t below o ∧ lw_Q a s o t
/-- the law's own end, with 1 on the stack, nothing written that was there before, its room as the claim has it -/
theorem lw_ret {p : Program} {l : Launch} {e : Env} {s : State} {m : MethodId} {below : List Frame} {meth : Method} {c : Code} {b : Nat} (hx : p.tables.exec = Jvm.exec) (hb : c.code = code) (hr : meth.sig.returnType = ret) (hlocks : meth.locks = false) {pc : Nat} {H : Heap} {ls : Array Slot} (hdg : decode code pc = .ok (.ireturn, 1)) : W p l e room_1 s m #[Value.ref b] below meth c H [] 600000 7302250 (lw_Z below #[Value.ref b] s) (F0 m pc ls [.int 1]) := by
  intro T hT X
  obtain ⟨fs, hret, hrun, hended, hW, hframe⟩ := X.leave (v := some (.int 1)) (hlocks := hlocks) (fun h => by rw [hr] at h; cases h)
  have hmeth' : T.vm.method? m = some meth := X.method'
  refine ⟨T.setFrames fs, ?_, .returned (some (.int 1)), hrun, hended, rfl, ⟨_, rfl⟩, hW, hframe⟩
  jvm_step X.here [X.here.top, hx, hb, hdg, hmeth', hr, ret, narrow_b1]
  (try refine ⟨rfl, ?_⟩); (try refine ⟨rfl, ?_⟩)
  first | (intro acts; rw [hret _ acts rfl rfl rfl]) | rw [hret _ _ rfl rfl rfl]
  exact Steps.refl _
/-- what holds at the law's entry: the machine, the code, the tables' words (any of lw_tbl by 'hts w (by decide +kernel)'), the script of L ints xs at the cell b, what the Statement gives of the start (any of its parts by flat_of_before) -/
def lw_At (p : Program) (s : State) (m : MethodId) (meth : Method) (c : Code) (b L : Nat) (xs : Nat → Int32) : Prop :=
  p.tables.exec = Jvm.exec ∧ c.code = code ∧ meth.sig.returnType = ret ∧ c.maxLocals = 4 ∧ s.vm.findClass R_law = some m.cls ∧ (∀ w ∈ lw_tbl, w.before #[Value.ref b] s = true) ∧ va_X b L xs s s.heap ∧ b < s.heap.size ∧ meth.locks = false ∧ (Jvm.Cond.and given_1 narrow_1).before #[Value.ref b] s = true

theorem whole_start {p : Program} {e : Env} {s : State} {m : MethodId} {below : List Frame} {meth : Method} {c : Code} (l : Launch) {b L : Nat} {xs : Nat → Int32} (hL : L ≤ 3072) (C0 : lw_At p s m meth c b L xs) : W p l e room_1 s m #[Value.ref b] below meth c s.heap [] 0 0 (lw_Z below #[Value.ref b] s) (entryFrame m ([Value.ref b] : List Value).toArray 4) := by
  obtain ⟨hx, hb, hr, hml, hown, hts, hX, hbl, hlocks, hgv⟩ := C0
  have hjw : ∀ w ∈ jw_tbl, w.before #[Value.ref b] s = true := fun w hw => jx_ok hts w (List.mem_filter.mp hw).1
  obtain ⟨D, hK⟩ := jr_know hjw
  obtain ⟨aL, hTL, hZL⟩ := jp_tab_jp_least (A := fun q => s.heap.size ≤ q) hgv hts (fun a ha z => by omega)
  obtain ⟨aM, hTM, hZM⟩ := jp_tab_jp_most (A := fun q => s.heap.size ≤ q) hgv hts (fun a ha z => by omega)
  have hTX : va_T .int b L (fun j => .int (xs j)) (fun q => s.heap.size ≤ q) s s.heap := by
    obtain ⟨scr, h1, h2, h3, h4, h5⟩ := hX
    exact ⟨scr, h1, h2, h3, by omega, by rw [h4] <;> rfl, h5, by show ¬ s.heap.size ≤ b; omega⟩
  have hlt : ∀ {a N : Nat} {f : Nat → Value}, va_T .int a N f (fun q => s.heap.size ≤ q) s s.heap → a < s.heap.size := fun ⟨_, z, _⟩ => (Array.getElem?_eq_some_iff.mp z).1
  have hbL := hlt hTL
  have hbM := hlt hTM
  obtain ⟨h0, eh0⟩ : ∃ h0 : jH, h0 = (fun a => if a = b then some (30, L, fun j => .inl (xs j).toInt) else if a = aL then some (30, 12, fun j => .inl (jp_least j).toInt) else if a = aM then some (30, 12, fun j => .inl (jp_most j).toInt) else if a = s.heap.size + 1000000 then some (31, 2, fun j => if j = 0 then .inr (some aL) else .inr (some aM)) else none, s.heap.size, 0) := ⟨_, rfl⟩
  have hsz : h0.2.1 = s.heap.size := by rw [eh0]
  have hsl : h0.2.2 = 0 := by rw [eh0]
  have cases0 : ∀ (a : Nat) (q : jC), h0.1 a = some q → (a = b ∧ q = (30, L, fun j => .inl (xs j).toInt)) ∨ (a = aL ∧ q = (30, 12, fun j => .inl (jp_least j).toInt)) ∨ (a = aM ∧ q = (30, 12, fun j => .inl (jp_most j).toInt)) ∨ (a = s.heap.size + 1000000 ∧ q = (31, 2, fun j => if j = 0 then .inr (some aL) else .inr (some aM))) := by
    intro a q hq
    rw [eh0] at hq
    dsimp only at hq
    by_cases e1 : a = b
    · rw [if_pos e1] at hq; cases hq; exact Or.inl ⟨e1, rfl⟩
    rw [if_neg e1] at hq
    by_cases e2 : a = aL
    · rw [if_pos e2] at hq; cases hq; exact Or.inr (Or.inl ⟨e2, rfl⟩)
    rw [if_neg e2] at hq
    by_cases e3 : a = aM
    · rw [if_pos e3] at hq; cases hq; exact Or.inr (Or.inr (Or.inl ⟨e3, rfl⟩))
    rw [if_neg e3] at hq
    by_cases e4 : a = s.heap.size + 1000000
    · rw [if_pos e4] at hq; cases hq; exact Or.inr (Or.inr (Or.inr ⟨e4, rfl⟩))
    rw [if_neg e4] at hq
    cases hq
  have hA1 : ∀ a, jr_A h0 a → s.heap.size ≤ a := by
    intro a ha
    rcases ha with ⟨q, hq, ht⟩ | ha
    · rcases cases0 a q hq with ⟨-, rfl⟩ | ⟨-, rfl⟩ | ⟨-, rfl⟩ | ⟨-, rfl⟩ <;> (dsimp only at ht; omega)
    · omega
  have e_b : ∃ q, h0.1 b = some q ∧ q.1 = 30 ∧ q.2.1 = L ∧ ∀ j, j < L → q.2.2 j = .inl (xs j).toInt := by
    refine ⟨(30, L, fun j => .inl (xs j).toInt), ?_, rfl, rfl, fun _ _ => rfl⟩
    rw [eh0]; dsimp only; rw [if_pos rfl]
  have e_L : ∃ q, h0.1 aL = some q ∧ q.1 = 30 ∧ q.2.1 = 12 ∧ ∀ j, j < 12 → q.2.2 j = .inl (jp_least j).toInt := by
    by_cases e1 : aL = b
    · subst e1
      obtain ⟨q, g1, g2, g3, g4⟩ := e_b
      obtain ⟨rfl, hj⟩ := jp_same (by omega) (by decide) hTX hTL
      exact ⟨q, g1, g2, g3, fun j h => by rw [g4 j h, Value.int.inj (hj j h)]⟩
    · refine ⟨(30, 12, fun j => .inl (jp_least j).toInt), ?_, rfl, rfl, fun _ _ => rfl⟩
      rw [eh0]; dsimp only; rw [if_neg e1, if_pos rfl]
  have e_M : ∃ q, h0.1 aM = some q ∧ q.1 = 30 ∧ q.2.1 = 12 ∧ ∀ j, j < 12 → q.2.2 j = .inl (jp_most j).toInt := by
    by_cases e1 : aM = b
    · subst e1
      obtain ⟨q, g1, g2, g3, g4⟩ := e_b
      obtain ⟨rfl, hj⟩ := jp_same (by omega) (by decide) hTX hTM
      exact ⟨q, g1, g2, g3, fun j h => by rw [g4 j h, Value.int.inj (hj j h)]⟩
    by_cases e2 : aM = aL
    · subst e2
      obtain ⟨q, g1, g2, g3, g4⟩ := e_L
      obtain ⟨-, hj⟩ := jp_same (by decide) (by decide) hTL hTM
      exact ⟨q, g1, g2, g3, fun j h => by rw [g4 j h, Value.int.inj (hj j h)]⟩
    · refine ⟨(30, 12, fun j => .inl (jp_most j).toInt), ?_, rfl, rfl, fun _ _ => rfl⟩
      rw [eh0]; dsimp only; rw [if_neg e1, if_neg e2, if_pos rfl]
  have hst : jp_Start h0 b L aL aM xs := by
    refine ⟨hL, e_b, e_L, e_M, ⟨s.heap.size + 1000000, (31, 2, fun j => if j = 0 then .inr (some aL) else .inr (some aM)), ?_, rfl, by rw [hsz]; exact Nat.le_refl _⟩, ?_, ⟨by omega, by omega, by omega⟩, ?_⟩
    · rw [eh0]; dsimp only
      rw [if_neg (by omega), if_neg (by omega), if_neg (by omega), if_pos rfl]
    · intro a q hq ht
      rcases cases0 a q hq with ⟨-, rfl⟩ | ⟨-, rfl⟩ | ⟨-, rfl⟩ | ⟨-, rfl⟩
      · cases ht
      · cases ht
      · cases ht
      · exact ⟨rfl, rfl⟩
    · intro a q hq
      rcases cases0 a q hq with ⟨rfl, rfl⟩ | ⟨rfl, rfl⟩ | ⟨rfl, rfl⟩ | ⟨rfl, rfl⟩
      · exact ⟨by show 30 ≤ 30; omega, Or.inl (by omega)⟩
      · exact ⟨by show 30 ≤ 30; omega, Or.inl (by omega)⟩
      · exact ⟨by show 30 ≤ 30; omega, Or.inl (by omega)⟩
      · exact ⟨by show 30 ≤ 31; omega, Or.inr (by omega)⟩
  obtain ⟨n, h', he, hc1, hc2⟩ := pure_law h0 b L aL aM xs hst
  have hW0 : jr_W D (jr_A h0) h0 s s.heap := by
    have hP0 : va_P D vwCl [] s.heap := fun k q hq => by cases hq
    have hD0 : va_D (jr_A h0) [] := ⟨fun i j p q hp => (by cases hp), fun k q hq => (by cases hq)⟩
    have hno : ∀ (k a : Nat) (e : va_E), ([] : va_W)[k]? = some (a, e) → ∃ q, h0.1 a = some q ∧ q.1 < 30 := fun k a e hk => by cases hk
    refine ⟨[], [], hK, hP0, hD0, hsz.symm, fun a q hq ht => ?_, hno⟩
    rcases cases0 a q hq with ⟨-, rfl⟩ | ⟨-, rfl⟩ | ⟨-, rfl⟩ | ⟨-, rfl⟩ <;> (dsimp only at ht; omega)
  have hX0 : jr_X p l e room_1 s m #[Value.ref b] below meth c code 4 "MeetingKitLaw" (some .boolean) meth.name 12 456 D h0 h' (some (.inl 1)) (lw_Z below #[Value.ref b] s) := by
    refine ⟨⟨hx, hb, hml, hown, hjw⟩, ⟨rfl, Nat.le_refl _, Nat.le_refl _, ?_, ?_, hsz.symm⟩, ⟨fun a q hq ht => ?_, fun a q hq ht => ?_⟩, fun v pc ls H locs hO hok hWF hV hdg => ?_⟩
    · show h'.2.1 - h0.2.1 ≤ 600000
      omega
    · show h'.2.2 - h0.2.2 ≤ 7302250
      omega
    · rcases cases0 a q hq with ⟨rfl, rfl⟩ | ⟨rfl, rfl⟩ | ⟨rfl, rfl⟩ | ⟨rfl, rfl⟩
      · exact ⟨by show L ≤ 100000; omega, xs, hTX.narrow hA1, rfl⟩
      · exact ⟨by show 12 ≤ 100000; omega, jp_least, hTL.narrow hA1, rfl⟩
      · exact ⟨by show 12 ≤ 100000; omega, jp_most, hTM.narrow hA1, rfl⟩
      · cases ht
    · rcases cases0 a q hq with ⟨rfl, rfl⟩ | ⟨rfl, rfl⟩ | ⟨rfl, rfl⟩ | ⟨rfl, rfl⟩
      · cases ht
      · cases ht
      · cases ht
      · exact ⟨aL, aM, rfl, rfl, hZL.narrow hA1, hZM.narrow hA1⟩
    · cases v with
      | none => exact hO.elim
      | some x =>
        obtain ⟨z, rfl, hz⟩ := hO
        have hz1 : z = 1 := (jm_eq z 1).mpr hz
        subst hz1
        refine va_forget (fun q hq => hA1 _ (hV.2.2 q hq)) (W.widen (k := 600000) (n := 7302250) (by omega) (by omega) ?_)
        exact lw_ret hx hb hr hlocks hdg
  have hl := lv_entry ([.ref b] : List Value) (n := 4) (Nat.le_of_ble_eq_true rfl)
  rw [lg_entry_eq]
  generalize (lg_sl ([.ref b] : List Value) ++ List.replicate (4 - (lg_sl ([.ref b] : List Value)).length) Slot.unset).toArray = ls at hl ⊢
  have h9 := (tL_law l meth.name n).2 p e room_1 s m #[Value.ref b] below meth c D h0 h' (some (.inl 1)) (lw_Z below #[Value.ref b] s) hX0 ls [some (.inr (some b)), none, none, none] [] [] s.heap [] h0 ⟨[(0, .ref b)], hl, rfl, fun i u hi => ?_⟩ trivial hW0 va_S.rf (jr_M.rf h0) he
  · rw [Nat.sub_self, Nat.sub_self] at h9
    exact h9
  · match i, hi with
    | 0, hi => cases hi; exact ⟨.ref b, List.mem_cons_self, jr_V.r⟩
    | 1, hi => cases hi
    | 2, hi => cases hi
    | 3, hi => cases hi
    | i + 4, hi => cases hi

set_option maxHeartbeats 4000000 in
theorem lw_walk (l : Launch) (b : Addr) (xs : List Int32) : MetFree l x (headSpec (Jvm.Cond.code x code maxLocals ret :: tables_1) room_1) (lw_P b xs) (fun _ _ _ _ _ => True) lw_Q := by
  refine MetFree.of_bodyS (code := code) (maxLocals := maxLocals) (ret := ret) (by decide) ?_ ?_
  · intro args s m h hn
    obtain ⟨meth, c, h1, h2, h3, h4, h5, h6, -, -⟩ := Cond.code_spec hn (atoms_spec (ws := Jvm.Cond.code x code maxLocals ret :: tables_1) h _ List.mem_cons_self)
    exact ⟨meth, c, h1, h2, h3, h4, h5, h6⟩
  · intro p e s m args below meth c s₁ B hml0 hP _
    obtain ⟨rfl, hx, hbd, hgv⟩ := hP
    obtain ⟨scr, harrAt, hlist, hof, hsmall⟩ := hx
    obtain ⟨hcb, hkn, -, -⟩ := State.arrayAt?_spec harrAt
    have hown : s.vm.findClass R_law = some m.cls := findClass_of_methodNamed B.named
    have hts0 : ∀ c ∈ (Jvm.Cond.code x code maxLocals ret :: tables_1), c.before #[Value.ref b] s = true := atoms_spec (ws := Jvm.Cond.code x code maxLocals ret :: tables_1) B.pre
    have hts : ∀ w ∈ lw_tbl, w.before #[Value.ref b] s = true := k2_hts_sels lw_privs (fun w hw => hts0 w (List.mem_cons_of_mem _ hw)) lw_privs_ok
    have hml : c.maxLocals = 4 := B.maxLocals_eq (hts0 _ List.mem_cons_self)
    have X₀ : Stand p l e room_1 s m #[Value.ref b] below meth c s₁ [] 0 0 := Stand.of_body B
    have hh0 : s₁.heap = s.heap := by rw [B.state]; rfl
    have hsz : scr.slots.size = xs.length := by rw [← Array.length_toList, hlist, List.length_map]
    have hval : ∀ j : Nat, j < xs.length → scr.slots[j]? = some (.int (xs.getD j 0)) := fun j hj => by
      rw [← Array.getElem?_toList, hlist]
      simp [hj]
    have hbl : b < s.heap.size := (Array.getElem?_eq_some_iff.mp hcb).1
    have hX : va_X b xs.length (fun j => xs.getD j 0) s s.heap := ⟨scr, hcb, hof, hkn, hsz, hval⟩
    have K : W p l e room_1 s m #[Value.ref b] below meth c s₁.heap [] 0 0 (lw_Z below #[Value.ref b] s) (entryFrame m ([Value.ref b] : List Value).toArray 4) := by
      rw [hh0]
      exact whole_start l hbd ⟨B.exec, B.bytes, B.returns, hml, hown, hts, hX, hbl, B.notSynchronized, hgv⟩
    obtain ⟨t, a1, o, b1, b2, b3⟩ := K s₁ rfl X₀
    exact ⟨t, o, a1, b1, b2, b3⟩
theorem lw_pre_spec {args : Array Value} {s : State} (h : (Jvm.Cond.and given_1 narrow_1).before args s = true) (hr : rest_1_c.before args s = true) : ∃ (b : Addr) (xs : List Int32), lw_P b xs args s := by
  have hs := flat_of_before _ h
  have hq := flat_of_before _ hr
  have hc : (Cond.count 1).before args s = true := hs _ (by decide +kernel)
  have harr : (Cond.arrayOf (.arg 0) .int).before args s = true := hs _ (by decide +kernel)
  have hle : (Cond.le (.length (.arg 0)) (.int 3072)).before args s = true := hs _ (by decide +kernel)
  have hlen : (Cond.isInt (.length (.arg 0))).before args s = true := hq _ (by decide +kernel)
  have hall : (Cond.all (.arg 0) (.isInt (.elem (.arg 0) (.index 0)))).before args s = true := hq _ (by decide +kernel)
  obtain ⟨b, xs, hb, hx⟩ := State.ints_of_pre rfl harr hlen hall
  have hsm : xs.length < 2 ^ 31 := hx.choose_spec.2.2.2
  have hev : (Term.length (.arg 0)).eval args s none [] s = some (.int xs.length.toInt32) := hx.length_eval hb
  have hv := Cond.le_ints hev (show (Term.int 3072).eval args s none [] s = some (.int 3072) from rfl)
  have hd : xs.length.toInt32 ≤ 3072 := by
    simpa [Cond.before, Cond.holds, hv] using hle
  have hN : xs.length ≤ 3072 := (Int32.ofNat_le_ofNat hsm (by decide)).mp (show Int32.ofNat xs.length ≤ Int32.ofNat 3072 from hd)
  exact ⟨b, xs, Cond.one_arg hc (show args[0]? = some (.ref b) from hb), hx, hN, h⟩
theorem lw_comes (l : Launch) : Comes l x (Jvm.Cond.code x code maxLocals ret :: tables_1) room_1 (fun tb e args s => Calls_1 tb e args s ∧ rest_1 tb e args s ∧ Pre_1 tb e args s)
    (fun _ _ args s o t => lw_Q args s o t) := by
  intro p e ha hc hk s m args below hf hfit hheap happ hpre
  obtain ⟨b, xs, hP⟩ := lw_pre_spec hpre.2.2 hpre.2.1
  obtain ⟨k, o, h1, h2, h3, hQ⟩ := lw_walk l b xs p e ha hc hk s m args below hf ((Spec.applies_iff_loose hf).mp happ).1 hP trivial
  exact ⟨k, o, h1, h2, h3, hQ⟩
theorem lw_frame {s t : State} {o : Outcome} {args : Array Value} (h : Framed s o t [] 600000 7302250) :
    Framed s o t (fieldLocs frame_1_writes args s ++ arrayLocs frame_1_arrays args s ++ staticLocs frame_1_statics s) 600000 7302250 := h
theorem lw_limb (L : Cond) (hL : ∀ (args : Array Value) (s t : State), L.after args s (.returned (some (.int 1))) t = true) :
    ArmFor flags0 classFile x code maxLocals ret World_1 tables_1 room_1 Calls_1 rest_1 Pre_1
      (fun tb e a s o t => postC L tb e a s o t ∧ Framed s o t (fieldLocs frame_1_writes a s ++ arrayLocs frame_1_arrays a s ++ staticLocs frame_1_statics s) 600000 7302250) := by
  intro l _ _ _ p e ha hc hk s m args below hf hfit hheap happ hpre
  obtain ⟨k, o, h1, h2, h3, rfl, hF⟩ := lw_comes l p e ha hc hk s m args below hf hfit hheap happ hpre
  exact ⟨k, _, h1, h2, h3, hL args s _, lw_frame hF⟩
theorem i_vc : Claimed_1_1 ∧ Claimed_1_2 := ⟨lw_limb limb_1_1 (fun args s t => by simp [limb_1_1, Cond.after, Cond.holds, Cond.value]), lw_limb limb_1_2 (fun args s t => Cond.after_iff.mpr (by
  first | (rw [show limb_1_2 = Cond.eq .result (.int 1) from rfl, Cond.eq_ints (x := 1) (y := 1) rfl rfl]; simp; done) | (simp [limb_1_2, Cond.value, Term.eval]; done)))⟩
