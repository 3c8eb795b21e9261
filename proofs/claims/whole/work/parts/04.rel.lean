/-! The pure machine beside the real one. -/
def jr_V (v : Value) (u : jV) : Prop := match u with
  | .inl n => ∃ x : Int32, v = .int x ∧ x.toInt = n
  | .inr r => v = va_rf r
def jr_S : List Value → List jV → Prop
  | [], [] => True
  | v :: a, u :: b => jr_V v u ∧ jr_S a b
  | _, _ => False
def jr_L (ls : Array Slot) (nL : Nat) (L : List (Option jV)) : Prop := ∃ lv : List (Nat × Value), lv_has ls nL lv ∧ L.length = nL ∧ ∀ (i : Nat) (u : jV), L[i]? = some (some u) → ∃ v, (i, v) ∈ lv ∧ jr_V v u
def jr_ty (t : Nat) : FieldType := if t = 20 then .int else if t = 21 then .boolean else if t = 22 then .byte else if t = 23 then .object "MeetingKit$Actor" else if t = 24 then .object "MeetingKit$Device" else .object "MeetingKit$Step"
def jr_E (tys : List (ClassId × FieldType)) (q : jC) (e : va_E) : Prop :=
  (q.1 < 20 ∧ ∃ fs : List Value, e = .inr (q.1, fs) ∧ fs.length = q.2.1 ∧ (∃ r : vw_C, vwCl[q.1]? = some r ∧ r.2.2 = q.2.1) ∧ ∀ k : Nat, k < q.2.1 → ∃ v, fs[k]? = some v ∧ jr_V v (q.2.2 k))
  ∨ (20 ≤ q.1 ∧ q.1 ≤ 22 ∧ q.2.1 ≤ 100000 ∧ ∃ (cA : ClassId) (t0 : Nat) (g : Nat → Int32), e = .inl (cA, q.2.1, .inl g) ∧ tys[t0]? = some (cA, jr_ty q.1) ∧ q.2.2 = fun j => .inl (g j).toInt)
  ∨ (23 ≤ q.1 ∧ q.1 ≤ 25 ∧ q.2.1 ≤ 100000 ∧ ∃ (cA : ClassId) (t0 : Nat) (g : Nat → Option Nat), e = .inl (cA, q.2.1, .inr (.inr (.inr (.inr g)))) ∧ tys[t0]? = some (cA, jr_ty q.1) ∧ q.2.2 = fun j => .inr (g j))
def jr_A (h : jH) : Nat → Prop := fun a => (∃ q, h.1 a = some q ∧ q.1 < 30) ∨ h.2.1 ≤ a
def jr_W (D : va_G) (A : Nat → Prop) (h : jH) (U : State) (H : Heap) : Prop := ∃ (ws : va_W) (tys : List (ClassId × FieldType)), va_K D vwCl tys U ∧ va_P D vwCl ws H ∧ va_D A ws ∧ H.size = h.2.1 ∧ (∀ (a : Nat) (q : jC), h.1 a = some q → q.1 < 30 → ∃ (k : Nat) (e : va_E), ws[k]? = some (a, e) ∧ jr_E tys q e) ∧ ∀ (k a : Nat) (e : va_E), ws[k]? = some (a, e) → ∃ q, h.1 a = some q ∧ q.1 < 30
def jr_Ro (A : Nat → Prop) (h : jH) (U : State) (H : Heap) : Prop := ∀ (a : Nat) (q : jC), h.1 a = some q → q.1 = 30 → q.2.1 ≤ 100000 ∧ ∃ g : Nat → Int32, va_T .int a q.2.1 (fun j => .int (g j)) A U H ∧ q.2.2 = fun j => .inl (g j).toInt
def jr_Z (A : Nat → Prop) (h : jH) (U : State) (H : Heap) : Prop := ∀ (a : Nat) (q : jC), h.1 a = some q → q.1 = 31 → ∃ aL aM : Nat, q.2.2 0 = .inr (some aL) ∧ q.2.2 1 = .inr (some aM) ∧ va_Z "MeetingKit" "LEAST_N" "[I" (.ref aL) A U H ∧ va_Z "MeetingKit" "MOST_N" "[I" (.ref aM) A U H
def jr_M (h h' : jH) : Prop := h.2.1 ≤ h'.2.1 ∧ h.2.2 ≤ h'.2.2 ∧ ∀ (a : Nat) (q : jC), h'.1 a = some q → 30 ≤ q.1 → h.1 a = some q
def jr_O (v : Option Value) (r : Option jV) : Prop := match v, r with
  | none, none => True
  | some x, some u => jr_V x u
  | _, _ => False
def jr_Pre (D : va_G) (pa : List jV) (h : jH) : Array Value → State → Prop := fun a U => jr_S a.toList pa ∧ jr_W D (jr_A h) h U U.heap ∧ jr_Ro (jr_A h) h U U.heap ∧ jr_Z (jr_A h) h U U.heap
def jr_Post (D : va_G) (h : jH) (r : Option jV) (h' : jH) : Array Value → State → Outcome → State → Prop := fun _ st o t => (∃ v, o = .returned v ∧ jr_O v r) ∧ jr_W D (jr_A h) h' t t.heap ∧ va_F (jr_A h) st t
def jr_ri (ret : Option FieldType) : Instr := match ret with
  | none => .return_
  | some .int => .ireturn
  | some .boolean => .ireturn
  | _ => .areturn
def jr_ok (ret : Option FieldType) (r : Option jV) : Prop := match ret with
  | none => r = none
  | some .int => ∃ n, r = some (.inl n)
  | some .boolean => r = some (.inl 0) ∨ r = some (.inl 1)
  | some (.object _) => ∃ x, r = some (.inr x)
  | _ => False
/-- what stands still in a method -/
def jr_X (p : Program) (l : Launch) (e : Env) (R : Room) (s : State) (m : MethodId) (args : Array Value) (below : List Frame) (meth : Method) (c : Code) (cc : ByteArray) (nL : Nat) (own : String) (ret : Option FieldType) (nm : String) (fr lo : Nat) (D : va_G) (h0 hF : jH) (rF : Option jV) (Q : State → Prop) : Prop :=
  (p.tables.exec = Jvm.exec ∧ c.code = cc ∧ c.maxLocals = nL ∧ s.vm.findClass own = some m.cls ∧ ∀ w ∈ jw_tbl, w.before args s = true) ∧ (meth.name = nm ∧ fr ≤ R.frames ∧ lo ≤ R.locals ∧ hF.2.1 - h0.2.1 ≤ R.cells ∧ hF.2.2 - h0.2.2 ≤ R.slots ∧ s.heap.size = h0.2.1) ∧ (jr_Ro (jr_A h0) h0 s s.heap ∧ jr_Z (jr_A h0) h0 s s.heap) ∧
  ∀ (v : Option Value) (pc : Nat) (ls : Array Slot) (H : Heap) (locs : List Loc), jr_O v rF → jr_ok ret rF → jr_W D (jr_A h0) hF s H → va_S (jr_A h0) s.heap H locs → decode cc pc = .ok (jr_ri ret, 1) → W p l e R s m args below meth c H locs (hF.2.1 - h0.2.1) (hF.2.2 - h0.2.2) Q (F0 m pc ls v.toList)
/-- the code from pc on does what k says -/
def jr_D (l : Launch) (cc : ByteArray) (nL : Nat) (own : String) (ret : Option FieldType) (nm : String) (fr lo : Nat) (k : jK) (pc : Nat) : Prop :=
  (∀ (L : List (Option jV)) (S : List jV) (h h' : jH) (r : Option jV), k L S h = some (r, h') → jr_M h h') ∧
  ∀ (p : Program) (e : Env) (R : Room) (s : State) (m : MethodId) (args : Array Value) (below : List Frame) (meth : Method) (c : Code) (D : va_G) (h0 hF : jH) (rF : Option jV) (Q : State → Prop), jr_X p l e R s m args below meth c cc nL own ret nm fr lo D h0 hF rF Q →
    ∀ (ls : Array Slot) (L : List (Option jV)) (st : List Value) (S : List jV) (H : Heap) (locs : List Loc) (h : jH), jr_L ls nL L → jr_S st S → jr_W D (jr_A h0) h s H → va_S (jr_A h0) s.heap H locs → jr_M h0 h → k L S h = some (rF, hF) →
      W p l e R s m args below meth c H locs (h.2.1 - h0.2.1) (h.2.2 - h0.2.2) Q (F0 m pc ls st)
/-- a method does what f says -/
def jr_F (l : Launch) (y : MethodName) (cc : ByteArray) (nL : Nat) (ret : Option FieldType) (fr lo : Nat) (f : jF) : Prop :=
  ∀ (D : va_G) (pa : List jV) (h h' : jH) (r : Option jV), f pa h = some (r, h') → jr_M h h' ∧ Met l y (Cond.code y cc nL ret :: jw_tbl) { frames := fr, cells := h'.2.1 - h.2.1, slots := h'.2.2 - h.2.2, locals := lo } (jr_Pre D pa h) (jr_Post D h r h') (h'.2.1 - h.2.1) (h'.2.2 - h.2.2) (jr_A h)
theorem jr_M.rf (h : jH) : jr_M h h := ⟨Nat.le_refl _, Nat.le_refl _, fun _ _ a _ => a⟩
theorem jr_M.tr {a b c : jH} (h1 : jr_M a b) (h2 : jr_M b c) : jr_M a c := ⟨Nat.le_trans h1.1 h2.1, Nat.le_trans h1.2.1 h2.2.1, fun x q hq ht => h1.2.2 x q (h2.2.2 x q hq ht) ht⟩
theorem jr_S.cons {st : List Value} {u : jV} {S : List jV} (h : jr_S st (u :: S)) : ∃ v st', st = v :: st' ∧ jr_V v u ∧ jr_S st' S := by
  cases st with
  | nil => exact h.elim
  | cons v st' => exact ⟨v, st', rfl, h.1, h.2⟩
theorem jr_S.nil {st : List Value} (h : jr_S st []) : st = [] := by
  cases st with
  | nil => rfl
  | cons v st' => exact h.elim
theorem jr_S.int {st : List Value} {n : Int} {S : List jV} (h : jr_S st (.inl n :: S)) : ∃ (x : Int32) (st' : List Value), st = .int x :: st' ∧ x.toInt = n ∧ jr_S st' S := by
  obtain ⟨v, st', e, ⟨x, ex, en⟩, hS⟩ := h.cons
  exact ⟨x, st', by rw [e, ex], en, hS⟩
theorem jr_S.rf {st : List Value} {r : Option Nat} {S : List jV} (h : jr_S st (.inr r :: S)) : ∃ st' : List Value, st = va_rf r :: st' ∧ jr_S st' S := by
  obtain ⟨v, st', e, ex, hS⟩ := h.cons
  exact ⟨st', by rw [e]; exact congrArg (· :: st') ex, hS⟩
theorem jr_S.len {st : List Value} {S : List jV} (h : jr_S st S) : st.length = S.length := by
  induction st generalizing S with
  | nil => cases S with
    | nil => rfl
    | cons u S => exact h.elim
  | cons v st ih => cases S with
    | nil => exact h.elim
    | cons u S => simp [ih h.2]
theorem jr_V.cat {v : Value} {u : jV} (h : jr_V v u) : v.category = 1 := by
  cases u with
  | inl n => obtain ⟨x, e, -⟩ := h; rw [e]; rfl
  | inr r => cases r <;> (rw [show v = _ from h]; rfl)
theorem jr_S.cats {st : List Value} {S : List jV} (h : jr_S st S) : (st.map fun v => v.category).sum = S.length := by
  induction st generalizing S with
  | nil => cases S with
    | nil => rfl
    | cons u S => exact h.elim
  | cons v st ih => cases S with
    | nil => exact h.elim
    | cons u S => rw [List.map_cons, List.sum_cons, ih h.2, h.1.cat, List.length_cons]; omega
theorem jr_S.app {a b : List Value} {x y : List jV} (h1 : jr_S a x) (h2 : jr_S b y) : jr_S (a ++ b) (x ++ y) := by
  induction a generalizing x with
  | nil => cases x with
    | nil => exact h2
    | cons u x => exact h1.elim
  | cons v a ih => cases x with
    | nil => exact h1.elim
    | cons u x => exact ⟨h1.1, ih h1.2⟩
theorem jr_S.rev {a : List Value} {x : List jV} (h : jr_S a x) : jr_S a.reverse x.reverse := by
  induction a generalizing x with
  | nil => cases x with
    | nil => exact h
    | cons u x => exact h.elim
  | cons v a ih => cases x with
    | nil => exact h.elim
    | cons u x =>
      rw [List.reverse_cons, List.reverse_cons]
      exact (ih h.2).app ⟨h.1, trivial⟩
theorem jr_S.split {st : List Value} {S : List jV} (n : Nat) (h : jr_S st S) : jr_S (st.take n) (S.take n) ∧ jr_S (st.drop n) (S.drop n) := by
  induction n generalizing st S with
  | zero => exact ⟨trivial, h⟩
  | succ n ih => cases st with
    | nil => cases S with
      | nil => exact ⟨trivial, trivial⟩
      | cons u S => exact h.elim
    | cons v st => cases S with
      | nil => exact h.elim
      | cons u S => exact ⟨⟨h.1, (ih h.2).1⟩, (ih h.2).2⟩
theorem jr_S.at {st : List Value} {S : List jV} {n : Nat} {u : jV} (h : jr_S st S) (hu : S[n]? = some u) : ∃ v, st[n]? = some v ∧ jr_V v u := by
  induction n generalizing st S with
  | zero => cases st with
    | nil => cases S with
      | nil => cases hu
      | cons w S => exact h.elim
    | cons v st => cases S with
      | nil => cases hu
      | cons w S => cases hu; exact ⟨v, rfl, h.1⟩
  | succ n ih => cases st with
    | nil => cases S with
      | nil => cases hu
      | cons w S => exact h.elim
    | cons v st => cases S with
      | nil => cases hu
      | cons w S => exact ih h.2 hu
theorem jr_L.at {ls : Array Slot} {nL : Nat} {L : List (Option jV)} (h : jr_L ls nL L) {i : Nat} {u : jV} (hi : L[i]? = some (some u)) : ∃ v, ls[i]? = some (.val v) ∧ jr_V v u := by
  obtain ⟨lv, h1, -, h3⟩ := h
  obtain ⟨v, hm, hv⟩ := h3 i u hi
  exact ⟨v, h1.2.2 _ hm, hv⟩
theorem jr_L.kept {ls ls' : Array Slot} {nL i : Nat} {L : List (Option jV)} {lv : List (Nat × Value)} {v : Value} {u : jV} (hl : L.length = nL) (h : ∀ (i : Nat) (u : jV), L[i]? = some (some u) → ∃ v, (i, v) ∈ lv ∧ jr_V v u) (hv : jr_V v u) (h' : lv_has ls' nL ((i, v) :: lv.filter (fun q => !(q.1 == i) && !(q.1 + 1 == i && q.2.category == 2)))) : jr_L ls' nL (L.set i (some u)) := by
  refine ⟨_, h', by rw [List.length_set]; exact hl, fun j w hj => ?_⟩
  by_cases hij : i = j
  · subst hij
    by_cases hlt : i < L.length
    · rw [List.getElem?_set_self hlt] at hj
      cases hj
      exact ⟨v, List.mem_cons_self, hv⟩
    · rw [List.getElem?_eq_none (by rw [List.length_set]; omega)] at hj
      cases hj
  · rw [List.getElem?_set_ne hij] at hj
    obtain ⟨x, hm, hx⟩ := h j w hj
    refine ⟨x, List.mem_cons_of_mem _ (List.mem_filter.mpr ⟨hm, ?_⟩), hx⟩
    have h1 : (j == i) = false := by simpa using fun e => hij e.symm
    have h2 : (x.category == 2) = false := by rw [hx.cat]; rfl
    simp [h1, h2]
theorem jr_L.kill {ls : Array Slot} {nL : Nat} {L : List (Option jV)} (h : jr_L ls nL L) (i : Nat) : jr_L ls nL (L.set i none) := by
  obtain ⟨lv, h1, h2, h3⟩ := h
  refine ⟨lv, h1, by rw [List.length_set]; exact h2, fun j w hj => ?_⟩
  by_cases hij : i = j
  · subst hij
    by_cases hlt : i < L.length
    · rw [List.getElem?_set_self hlt] at hj
      cases hj
    · rw [List.getElem?_eq_none (by rw [List.length_set]; omega)] at hj
      cases hj
  · rw [List.getElem?_set_ne hij] at hj
    exact h3 j w hj
theorem jm_add (x y : Int32) : (x + y).toInt = jm_wr (x.toInt + y.toInt) := Int32.toInt_add x y
theorem jm_sub (x y : Int32) : (x - y).toInt = jm_wr (x.toInt - y.toInt) := Int32.toInt_sub x y
theorem jm_mul (x y : Int32) : (x * y).toInt = jm_wr (x.toInt * y.toInt) := Int32.toInt_mul x y
theorem jm_div (x y : Int32) : (x / y).toInt = jm_wr (x.toInt.tdiv y.toInt) := Int32.toInt_div x y
theorem jm_eq (x y : Int32) : x = y ↔ x.toInt = y.toInt := Int32.toInt_inj.symm
theorem jm_lt (x y : Int32) : x < y ↔ x.toInt < y.toInt := Int32.lt_iff_toInt_lt
theorem jm_le (x y : Int32) : x ≤ y ↔ x.toInt ≤ y.toInt := Int32.le_iff_toInt_le
theorem jm_z (x : Int32) : x = 0 ↔ x.toInt = 0 := jm_eq x 0
theorem jm_clamp {x : Int32} (h : 0 ≤ x.toInt) : x.toNatClampNeg = x.toInt.toNat := rfl
theorem jm_in {x : Int32} {n : Nat} (h0 : 0 ≤ x.toInt) (h1 : x.toInt < n) : vp_in x n := vp_in_iff.mpr ⟨h0, h1⟩
theorem jm_a15 (x : Int32) : (x &&& 15).toInt = x.toInt % 16 := by
  rw [pk_and x (m := 15) 4 (by decide)]
  rw [nI_toInt (by omega)]
  have h := BitVec.toInt_eq_toNat_bmod x.toBitVec
  show ((x.toBitVec.toNat % 2 ^ 4 : Nat) : Int) = x.toBitVec.toInt % 16
  rw [h, Int.bmod_def]
  have h2 := x.toBitVec.isLt
  split <;> omega
theorem jm_bool {x : Int32} (h : x.toInt = 0 ∨ x.toInt = 1) : x = 0 ∨ x = 1 := by
  rcases h with h | h
  · exact Or.inl ((jm_eq x 0).mpr h)
  · exact Or.inr ((jm_eq x 1).mpr h)
theorem jm_i8 (x : Int32) : (x.toInt8.toInt32).toInt = Int.bmod x.toInt 256 := by
  rw [Int8.toInt_toInt32, Int32.toInt_toInt8]
