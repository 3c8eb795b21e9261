def jx_sels : List Cond := [(.selects "MeetingKit$Permits" ⟨"MeetingKit$Device", "sweep", "(I)V"⟩ ⟨"MeetingKit$Device", "sweep", "(I)V"⟩), (.selects "MeetingKit$Permits" ⟨"MeetingKit$Device", "finish", "(LMeetingKit$Step;I)V"⟩ ⟨"MeetingKit$Device", "finish", "(LMeetingKit$Step;I)V"⟩), (.selects "MeetingKit$Barrier" ⟨"MeetingKit$Device", "sweep", "(I)V"⟩ ⟨"MeetingKit$Device", "sweep", "(I)V"⟩), (.selects "MeetingKit$Barrier" ⟨"MeetingKit$Device", "finish", "(LMeetingKit$Step;I)V"⟩ ⟨"MeetingKit$Device", "finish", "(LMeetingKit$Step;I)V"⟩), (.selects "MeetingKit$Exchange" ⟨"MeetingKit$Device", "sweep", "(I)V"⟩ ⟨"MeetingKit$Device", "sweep", "(I)V"⟩), (.selects "MeetingKit$Exchange" ⟨"MeetingKit$Device", "finish", "(LMeetingKit$Step;I)V"⟩ ⟨"MeetingKit$Device", "finish", "(LMeetingKit$Step;I)V"⟩), (.selects "MeetingKit$Lock" ⟨"MeetingKit$Device", "sweep", "(I)V"⟩ ⟨"MeetingKit$Device", "sweep", "(I)V"⟩), (.selects "MeetingKit$Lock" ⟨"MeetingKit$Device", "finish", "(LMeetingKit$Step;I)V"⟩ ⟨"MeetingKit$Device", "finish", "(LMeetingKit$Step;I)V"⟩), (.selects "MeetingKit$HandOver" ⟨"MeetingKit$Device", "sweep", "(I)V"⟩ ⟨"MeetingKit$Device", "sweep", "(I)V"⟩), (.selects "MeetingKit$HandOver" ⟨"MeetingKit$Device", "finish", "(LMeetingKit$Step;I)V"⟩ ⟨"MeetingKit$Device", "finish", "(LMeetingKit$Step;I)V"⟩), (.selects "MeetingKit$Phaser" ⟨"MeetingKit$Device", "sweep", "(I)V"⟩ ⟨"MeetingKit$Device", "sweep", "(I)V"⟩), (.selects "MeetingKit$Phaser" ⟨"MeetingKit$Device", "finish", "(LMeetingKit$Step;I)V"⟩ ⟨"MeetingKit$Device", "finish", "(LMeetingKit$Step;I)V"⟩), (.selects "MeetingKit$Monitor" ⟨"MeetingKit$Device", "sweep", "(I)V"⟩ ⟨"MeetingKit$Device", "sweep", "(I)V"⟩), (.selects "MeetingKit$Monitor" ⟨"MeetingKit$Device", "finish", "(LMeetingKit$Step;I)V"⟩ ⟨"MeetingKit$Device", "finish", "(LMeetingKit$Step;I)V"⟩), (.selects "MeetingKit$Sign" ⟨"MeetingKit$Device", "sweep", "(I)V"⟩ ⟨"MeetingKit$Device", "sweep", "(I)V"⟩), (.selects "MeetingKit$Sign" ⟨"MeetingKit$Device", "finish", "(LMeetingKit$Step;I)V"⟩ ⟨"MeetingKit$Device", "finish", "(LMeetingKit$Step;I)V"⟩)]
def jw_all : List Cond := jx_sels ++ lw_tbl
theorem jx_sel {C : String} {y : MethodName} {s : State} {args : Array Value} {n : Nat} (hins : (Cond.instantiable C n).before args s = true) (hsame : (Cond.sameMethod y.cls y.cls y.name y.desc).before args s = true) (hpriv : (Cond.privateMethod y).before args s = true) (hinst : (Cond.instanceMethod y).before args s = true) : (Cond.selects C y y).before args s = true := by
  obtain ⟨c, k, hc, hk, -⟩ := Cond.instantiable_spec hins
  obtain ⟨mk, methM, hnamed, hmethM, -, -⟩ := Cond.instanceMethod_spec hinst
  obtain ⟨cR, ck, r, hcR, hck, hni, hfound, hn1⟩ := Cond.sameMethod_found hsame
  cases hnamed.symm.trans hn1
  have hcls : mk.cls = cR := Option.some.inj ((findClass_of_methodNamed hnamed).symm.trans hcR)
  have hsel : selectMethod {} s.vm c mk = .method mk := selectMethod_private hmethM (Cond.privateMethod_at hpriv mk methM hnamed hmethM)
  simp only [Cond.before, Cond.holds, Cond.value, hc, hfound, hnamed, hsel, hcls, hck]
  simp; exact hni
theorem jx_ok {args : Array Value} {s : State} (h : ∀ w ∈ lw_tbl, w.before args s = true) : ∀ w ∈ jw_all, w.before args s = true := by
  intro w hw
  rcases List.mem_append.mp hw with hw | hw
  · simp only [jx_sels, List.mem_cons, List.not_mem_nil, or_false] at hw
    rcases hw with rfl | rfl | rfl | rfl | rfl | rfl | rfl | rfl | rfl | rfl | rfl | rfl | rfl | rfl | rfl | rfl
    · exact jx_sel (n := 9) (h _ (List.mem_of_getElem? (i := 153) (by decide +kernel))) (h _ (List.mem_of_getElem? (i := 1285) (by decide +kernel))) (h _ (List.mem_of_getElem? (i := 670) (by decide +kernel))) (h _ (List.mem_of_getElem? (i := 671) (by decide +kernel)))
    · exact jx_sel (n := 9) (h _ (List.mem_of_getElem? (i := 153) (by decide +kernel))) (h _ (List.mem_of_getElem? (i := 1295) (by decide +kernel))) (h _ (List.mem_of_getElem? (i := 675) (by decide +kernel))) (h _ (List.mem_of_getElem? (i := 676) (by decide +kernel)))
    · exact jx_sel (n := 10) (h _ (List.mem_of_getElem? (i := 216) (by decide +kernel))) (h _ (List.mem_of_getElem? (i := 1285) (by decide +kernel))) (h _ (List.mem_of_getElem? (i := 670) (by decide +kernel))) (h _ (List.mem_of_getElem? (i := 671) (by decide +kernel)))
    · exact jx_sel (n := 10) (h _ (List.mem_of_getElem? (i := 216) (by decide +kernel))) (h _ (List.mem_of_getElem? (i := 1295) (by decide +kernel))) (h _ (List.mem_of_getElem? (i := 675) (by decide +kernel))) (h _ (List.mem_of_getElem? (i := 676) (by decide +kernel)))
    · exact jx_sel (n := 8) (h _ (List.mem_of_getElem? (i := 237) (by decide +kernel))) (h _ (List.mem_of_getElem? (i := 1285) (by decide +kernel))) (h _ (List.mem_of_getElem? (i := 670) (by decide +kernel))) (h _ (List.mem_of_getElem? (i := 671) (by decide +kernel)))
    · exact jx_sel (n := 8) (h _ (List.mem_of_getElem? (i := 237) (by decide +kernel))) (h _ (List.mem_of_getElem? (i := 1295) (by decide +kernel))) (h _ (List.mem_of_getElem? (i := 675) (by decide +kernel))) (h _ (List.mem_of_getElem? (i := 676) (by decide +kernel)))
    · exact jx_sel (n := 11) (h _ (List.mem_of_getElem? (i := 252) (by decide +kernel))) (h _ (List.mem_of_getElem? (i := 1285) (by decide +kernel))) (h _ (List.mem_of_getElem? (i := 670) (by decide +kernel))) (h _ (List.mem_of_getElem? (i := 671) (by decide +kernel)))
    · exact jx_sel (n := 11) (h _ (List.mem_of_getElem? (i := 252) (by decide +kernel))) (h _ (List.mem_of_getElem? (i := 1295) (by decide +kernel))) (h _ (List.mem_of_getElem? (i := 675) (by decide +kernel))) (h _ (List.mem_of_getElem? (i := 676) (by decide +kernel)))
    · exact jx_sel (n := 11) (h _ (List.mem_of_getElem? (i := 277) (by decide +kernel))) (h _ (List.mem_of_getElem? (i := 1285) (by decide +kernel))) (h _ (List.mem_of_getElem? (i := 670) (by decide +kernel))) (h _ (List.mem_of_getElem? (i := 671) (by decide +kernel)))
    · exact jx_sel (n := 11) (h _ (List.mem_of_getElem? (i := 277) (by decide +kernel))) (h _ (List.mem_of_getElem? (i := 1295) (by decide +kernel))) (h _ (List.mem_of_getElem? (i := 675) (by decide +kernel))) (h _ (List.mem_of_getElem? (i := 676) (by decide +kernel)))
    · exact jx_sel (n := 11) (h _ (List.mem_of_getElem? (i := 304) (by decide +kernel))) (h _ (List.mem_of_getElem? (i := 1285) (by decide +kernel))) (h _ (List.mem_of_getElem? (i := 670) (by decide +kernel))) (h _ (List.mem_of_getElem? (i := 671) (by decide +kernel)))
    · exact jx_sel (n := 11) (h _ (List.mem_of_getElem? (i := 304) (by decide +kernel))) (h _ (List.mem_of_getElem? (i := 1295) (by decide +kernel))) (h _ (List.mem_of_getElem? (i := 675) (by decide +kernel))) (h _ (List.mem_of_getElem? (i := 676) (by decide +kernel)))
    · exact jx_sel (n := 10) (h _ (List.mem_of_getElem? (i := 328) (by decide +kernel))) (h _ (List.mem_of_getElem? (i := 1285) (by decide +kernel))) (h _ (List.mem_of_getElem? (i := 670) (by decide +kernel))) (h _ (List.mem_of_getElem? (i := 671) (by decide +kernel)))
    · exact jx_sel (n := 10) (h _ (List.mem_of_getElem? (i := 328) (by decide +kernel))) (h _ (List.mem_of_getElem? (i := 1295) (by decide +kernel))) (h _ (List.mem_of_getElem? (i := 675) (by decide +kernel))) (h _ (List.mem_of_getElem? (i := 676) (by decide +kernel)))
    · exact jx_sel (n := 10) (h _ (List.mem_of_getElem? (i := 349) (by decide +kernel))) (h _ (List.mem_of_getElem? (i := 1285) (by decide +kernel))) (h _ (List.mem_of_getElem? (i := 670) (by decide +kernel))) (h _ (List.mem_of_getElem? (i := 671) (by decide +kernel)))
    · exact jx_sel (n := 10) (h _ (List.mem_of_getElem? (i := 349) (by decide +kernel))) (h _ (List.mem_of_getElem? (i := 1295) (by decide +kernel))) (h _ (List.mem_of_getElem? (i := 675) (by decide +kernel))) (h _ (List.mem_of_getElem? (i := 676) (by decide +kernel)))
  · exact h w hw
/-- the words that a callee is told: those of the tables that stay when a launch goes on -/
def jw_face : Cond → Bool
  | .declares _ => true
  | .castable _ _ => true
  | .arrayOver (.object _) => true
  | _ => false
def jw_ok (w : Cond) : Bool := goodWord w || jw_face w
def jw_tbl : List Cond := jw_all.filter jw_ok
theorem jw_in {w : Cond} (i : Nat) (h : jw_all[i]? = some w) (hk : jw_ok w = true) : w ∈ jw_tbl := List.mem_filter.mpr ⟨List.mem_of_getElem? h, hk⟩
theorem jw_ins {ws : List Cond} (ps : List Nat) (h : ws = ps.filterMap (fun i => jw_all[i]?)) (hk : ws.all jw_ok = true) : ∀ w ∈ ws, w ∈ jw_tbl := by
  intro w hw
  refine List.mem_filter.mpr ⟨?_, List.all_eq_true.mp hk w hw⟩
  rw [h] at hw
  obtain ⟨i, -, hi⟩ := List.mem_filterMap.mp hw
  exact List.mem_of_getElem? hi
theorem jw_faced {w : Cond} {args a' : Array Value} {s U : State} (hk : jw_face w = true) (hW : s.WarmedH U.vm) (h : w.before args s = true) : w.before a' U = true := by
  cases w with
  | declares x => exact va_Nw.use rfl (va_Nw.warmD hW (va_Nw.of rfl h))
  | castable a b => exact va_Nw.use rfl (va_Nw.warmC hW (va_Nw.of rfl h))
  | arrayOver ty => cases ty with
    | object C => exact va_AO.use (va_AO.moved hW.alike (va_AO.of h))
    | _ => cases hk
  | _ => cases hk
theorem jw_move {args a' : Array Value} {s U : State} (hW : s.WarmedH U.vm) (hts : ∀ w ∈ jw_tbl, w.before args s = true) : ∀ w ∈ jw_tbl, w.before a' U = true := by
  intro w hw
  have h := hts w hw
  have hk := (List.mem_filter.mp hw).2
  rcases Bool.or_eq_true_iff.mp hk with hk | hk
  · exact word_at hW (good_of_word hk) h
  · exact jw_faced hk hW h
def RX0 : String := "MeetingKit$Actor"
def RX1 : String := "MeetingKit$Barrier"
def RX2 : String := "MeetingKit$Device"
def RX3 : String := "MeetingKit$Exchange"
def RX4 : String := "MeetingKit$HandOver"
def RX5 : String := "MeetingKit$Lock"
def RX6 : String := "MeetingKit$Monitor"
def RX7 : String := "MeetingKit$Permits"
def RX8 : String := "MeetingKit$Phaser"
def RX9 : String := "MeetingKit$Sign"
def RX10 : String := "MeetingKit$Step"
def RX11 : String := "MeetingKit"
def RX12 : String := "MeetingKitModel"
def RL : String := "MeetingKitLaw"
def TX0 : u_T := fun k => match k with
  | 0 => ("MeetingKit$Actor", "number", "I", true)
  | 1 => ("MeetingKit$Actor", "script", "[LMeetingKit$Step;", true)
  | 2 => ("MeetingKit$Actor", "length", "I", false)
  | 3 => ("MeetingKit$Actor", "begun", "I", false)
  | 4 => ("MeetingKit$Actor", "waitsIn", "LMeetingKit$Step;", false)
  | 5 => ("MeetingKit$Actor", "interruptKept", "Z", false)
  | _ => ("MeetingKit$Actor", "lastEnded", "I", false)
def tyX0 : Nat → FieldType := fun k => match k with
  | 0 => .int
  | 1 => .array (.object "MeetingKit$Step")
  | 2 => .int
  | 3 => .int
  | 4 => .object "MeetingKit$Step"
  | 5 => .boolean
  | _ => .int
theorem nmX0 : ∀ a, a < 7 → ∀ b, b < 7 → a ≠ b → (TX0 a).2.1 ≠ (TX0 b).2.1 := by decide +kernel
theorem tyX0_ok : ∀ k, k < 7 → parseFieldDescriptor (TX0 k).2.2.1 = some (tyX0 k) := by decide +kernel
theorem inX0 : ∀ w ∈ u_ws RX0 TX0 7, w ∈ jw_tbl := jw_ins [413, 415, 417, 419, 421, 423, 425] (by decide +kernel) (by decide +kernel)
def TX1 : u_T := fun k => match k with
  | 0 => ("MeetingKit$Device", "kind", "I", true)
  | 1 => ("MeetingKit$Device", "number", "I", true)
  | 2 => ("MeetingKit$Device", "closingBeat", "I", false)
  | 3 => ("MeetingKit$Device", "closed", "Z", false)
  | 4 => ("MeetingKit$Device", "line", "[LMeetingKit$Step;", true)
  | 5 => ("MeetingKit$Device", "lineLength", "I", false)
  | 6 => ("MeetingKit$Device", "passedThreads", "[I", true)
  | 7 => ("MeetingKit$Device", "passedCount", "I", false)
  | 8 => ("MeetingKit$Barrier", "parties", "I", true)
  | _ => ("MeetingKit$Barrier", "broken", "Z", false)
def tyX1 : Nat → FieldType := fun k => match k with
  | 0 => .int
  | 1 => .int
  | 2 => .int
  | 3 => .boolean
  | 4 => .array (.object "MeetingKit$Step")
  | 5 => .int
  | 6 => .array .int
  | 7 => .int
  | 8 => .int
  | _ => .boolean
theorem nmX1 : ∀ a, a < 10 → ∀ b, b < 10 → a ≠ b → (TX1 a).2.1 ≠ (TX1 b).2.1 := by decide +kernel
theorem tyX1_ok : ∀ k, k < 10 → parseFieldDescriptor (TX1 k).2.2.1 = some (tyX1 k) := by decide +kernel
theorem inX1 : ∀ w ∈ u_ws RX1 TX1 10, w ∈ jw_tbl := jw_ins [243, 244, 245, 246, 247, 248, 249, 250, 239, 241] (by decide +kernel) (by decide +kernel)
def TX3 : u_T := fun k => match k with
  | 0 => ("MeetingKit$Device", "kind", "I", true)
  | 1 => ("MeetingKit$Device", "number", "I", true)
  | 2 => ("MeetingKit$Device", "closingBeat", "I", false)
  | 3 => ("MeetingKit$Device", "closed", "Z", false)
  | 4 => ("MeetingKit$Device", "line", "[LMeetingKit$Step;", true)
  | 5 => ("MeetingKit$Device", "lineLength", "I", false)
  | 6 => ("MeetingKit$Device", "passedThreads", "[I", true)
  | _ => ("MeetingKit$Device", "passedCount", "I", false)
def tyX3 : Nat → FieldType := fun k => match k with
  | 0 => .int
  | 1 => .int
  | 2 => .int
  | 3 => .boolean
  | 4 => .array (.object "MeetingKit$Step")
  | 5 => .int
  | 6 => .array .int
  | _ => .int
theorem nmX3 : ∀ a, a < 8 → ∀ b, b < 8 → a ≠ b → (TX3 a).2.1 ≠ (TX3 b).2.1 := by decide +kernel
theorem tyX3_ok : ∀ k, k < 8 → parseFieldDescriptor (TX3 k).2.2.1 = some (tyX3 k) := by decide +kernel
theorem inX3 : ∀ w ∈ u_ws RX3 TX3 8, w ∈ jw_tbl := jw_ins [258, 259, 260, 261, 262, 263, 264, 265] (by decide +kernel) (by decide +kernel)
def TX4 : u_T := fun k => match k with
  | 0 => ("MeetingKit$Device", "kind", "I", true)
  | 1 => ("MeetingKit$Device", "number", "I", true)
  | 2 => ("MeetingKit$Device", "closingBeat", "I", false)
  | 3 => ("MeetingKit$Device", "closed", "Z", false)
  | 4 => ("MeetingKit$Device", "line", "[LMeetingKit$Step;", true)
  | 5 => ("MeetingKit$Device", "lineLength", "I", false)
  | 6 => ("MeetingKit$Device", "passedThreads", "[I", true)
  | 7 => ("MeetingKit$Device", "passedCount", "I", false)
  | 8 => ("MeetingKit$HandOver", "room", "I", true)
  | 9 => ("MeetingKit$HandOver", "goods", "[I", true)
  | _ => ("MeetingKit$HandOver", "lying", "I", false)
def tyX4 : Nat → FieldType := fun k => match k with
  | 0 => .int
  | 1 => .int
  | 2 => .int
  | 3 => .boolean
  | 4 => .array (.object "MeetingKit$Step")
  | 5 => .int
  | 6 => .array .int
  | 7 => .int
  | 8 => .int
  | 9 => .array .int
  | _ => .int
theorem nmX4 : ∀ a, a < 11 → ∀ b, b < 11 → a ≠ b → (TX4 a).2.1 ≠ (TX4 b).2.1 := by decide +kernel
theorem tyX4_ok : ∀ k, k < 11 → parseFieldDescriptor (TX4 k).2.2.1 = some (tyX4 k) := by decide +kernel
theorem inX4 : ∀ w ∈ u_ws RX4 TX4 11, w ∈ jw_tbl := jw_ins [310, 311, 312, 313, 314, 315, 316, 317, 304, 306, 308] (by decide +kernel) (by decide +kernel)
def TX5 : u_T := fun k => match k with
  | 0 => ("MeetingKit$Device", "kind", "I", true)
  | 1 => ("MeetingKit$Device", "number", "I", true)
  | 2 => ("MeetingKit$Device", "closingBeat", "I", false)
  | 3 => ("MeetingKit$Device", "closed", "Z", false)
  | 4 => ("MeetingKit$Device", "line", "[LMeetingKit$Step;", true)
  | 5 => ("MeetingKit$Device", "lineLength", "I", false)
  | 6 => ("MeetingKit$Device", "passedThreads", "[I", true)
  | 7 => ("MeetingKit$Device", "passedCount", "I", false)
  | 8 => ("MeetingKit$Lock", "looks", "[Z", true)
  | 9 => ("MeetingKit$Lock", "lookers", "I", false)
  | _ => ("MeetingKit$Lock", "user", "I", false)
def tyX5 : Nat → FieldType := fun k => match k with
  | 0 => .int
  | 1 => .int
  | 2 => .int
  | 3 => .boolean
  | 4 => .array (.object "MeetingKit$Step")
  | 5 => .int
  | 6 => .array .int
  | 7 => .int
  | 8 => .array .boolean
  | 9 => .int
  | _ => .int
theorem nmX5 : ∀ a, a < 11 → ∀ b, b < 11 → a ≠ b → (TX5 a).2.1 ≠ (TX5 b).2.1 := by decide +kernel
theorem tyX5_ok : ∀ k, k < 11 → parseFieldDescriptor (TX5 k).2.2.1 = some (tyX5 k) := by decide +kernel
theorem inX5 : ∀ w ∈ u_ws RX5 TX5 11, w ∈ jw_tbl := jw_ins [282, 283, 284, 285, 286, 287, 288, 289, 276, 278, 280] (by decide +kernel) (by decide +kernel)
def TX6 : u_T := fun k => match k with
  | 0 => ("MeetingKit$Device", "kind", "I", true)
  | 1 => ("MeetingKit$Device", "number", "I", true)
  | 2 => ("MeetingKit$Device", "closingBeat", "I", false)
  | 3 => ("MeetingKit$Device", "closed", "Z", false)
  | 4 => ("MeetingKit$Device", "line", "[LMeetingKit$Step;", true)
  | 5 => ("MeetingKit$Device", "lineLength", "I", false)
  | 6 => ("MeetingKit$Device", "passedThreads", "[I", true)
  | 7 => ("MeetingKit$Device", "passedCount", "I", false)
  | 8 => ("MeetingKit$Monitor", "places", "[I", true)
  | _ => ("MeetingKit$Monitor", "holder", "I", false)
def tyX6 : Nat → FieldType := fun k => match k with
  | 0 => .int
  | 1 => .int
  | 2 => .int
  | 3 => .boolean
  | 4 => .array (.object "MeetingKit$Step")
  | 5 => .int
  | 6 => .array .int
  | 7 => .int
  | 8 => .array .int
  | _ => .int
theorem nmX6 : ∀ a, a < 10 → ∀ b, b < 10 → a ≠ b → (TX6 a).2.1 ≠ (TX6 b).2.1 := by decide +kernel
theorem tyX6_ok : ∀ k, k < 10 → parseFieldDescriptor (TX6 k).2.2.1 = some (tyX6 k) := by decide +kernel
theorem inX6 : ∀ w ∈ u_ws RX6 TX6 10, w ∈ jw_tbl := jw_ins [355, 356, 357, 358, 359, 360, 361, 362, 351, 353] (by decide +kernel) (by decide +kernel)
def TX7 : u_T := fun k => match k with
  | 0 => ("MeetingKit$Device", "kind", "I", true)
  | 1 => ("MeetingKit$Device", "number", "I", true)
  | 2 => ("MeetingKit$Device", "closingBeat", "I", false)
  | 3 => ("MeetingKit$Device", "closed", "Z", false)
  | 4 => ("MeetingKit$Device", "line", "[LMeetingKit$Step;", true)
  | 5 => ("MeetingKit$Device", "lineLength", "I", false)
  | 6 => ("MeetingKit$Device", "passedThreads", "[I", true)
  | 7 => ("MeetingKit$Device", "passedCount", "I", false)
  | _ => ("MeetingKit$Permits", "permits", "I", false)
def tyX7 : Nat → FieldType := fun k => match k with
  | 0 => .int
  | 1 => .int
  | 2 => .int
  | 3 => .boolean
  | 4 => .array (.object "MeetingKit$Step")
  | 5 => .int
  | 6 => .array .int
  | 7 => .int
  | _ => .int
theorem nmX7 : ∀ a, a < 9 → ∀ b, b < 9 → a ≠ b → (TX7 a).2.1 ≠ (TX7 b).2.1 := by decide +kernel
theorem tyX7_ok : ∀ k, k < 9 → parseFieldDescriptor (TX7 k).2.2.1 = some (tyX7 k) := by decide +kernel
theorem inX7 : ∀ w ∈ u_ws RX7 TX7 9, w ∈ jw_tbl := jw_ins [214, 216, 218, 220, 222, 224, 226, 228, 212] (by decide +kernel) (by decide +kernel)
def TX8 : u_T := fun k => match k with
  | 0 => ("MeetingKit$Device", "kind", "I", true)
  | 1 => ("MeetingKit$Device", "number", "I", true)
  | 2 => ("MeetingKit$Device", "closingBeat", "I", false)
  | 3 => ("MeetingKit$Device", "closed", "Z", false)
  | 4 => ("MeetingKit$Device", "line", "[LMeetingKit$Step;", true)
  | 5 => ("MeetingKit$Device", "lineLength", "I", false)
  | 6 => ("MeetingKit$Device", "passedThreads", "[I", true)
  | 7 => ("MeetingKit$Device", "passedCount", "I", false)
  | 8 => ("MeetingKit$Phaser", "roles", "[I", true)
  | 9 => ("MeetingKit$Phaser", "came", "[Z", true)
  | _ => ("MeetingKit$Phaser", "phase", "I", false)
def tyX8 : Nat → FieldType := fun k => match k with
  | 0 => .int
  | 1 => .int
  | 2 => .int
  | 3 => .boolean
  | 4 => .array (.object "MeetingKit$Step")
  | 5 => .int
  | 6 => .array .int
  | 7 => .int
  | 8 => .array .int
  | 9 => .array .boolean
  | _ => .int
theorem nmX8 : ∀ a, a < 11 → ∀ b, b < 11 → a ≠ b → (TX8 a).2.1 ≠ (TX8 b).2.1 := by decide +kernel
theorem tyX8_ok : ∀ k, k < 11 → parseFieldDescriptor (TX8 k).2.2.1 = some (tyX8 k) := by decide +kernel
theorem inX8 : ∀ w ∈ u_ws RX8 TX8 11, w ∈ jw_tbl := jw_ins [334, 335, 336, 337, 338, 339, 340, 341, 328, 330, 332] (by decide +kernel) (by decide +kernel)
def TX9 : u_T := fun k => match k with
  | 0 => ("MeetingKit$Device", "kind", "I", true)
  | 1 => ("MeetingKit$Device", "number", "I", true)
  | 2 => ("MeetingKit$Device", "closingBeat", "I", false)
  | 3 => ("MeetingKit$Device", "closed", "Z", false)
  | 4 => ("MeetingKit$Device", "line", "[LMeetingKit$Step;", true)
  | 5 => ("MeetingKit$Device", "lineLength", "I", false)
  | 6 => ("MeetingKit$Device", "passedThreads", "[I", true)
  | 7 => ("MeetingKit$Device", "passedCount", "I", false)
  | 8 => ("MeetingKit$Sign", "main", "I", false)
  | _ => ("MeetingKit$Sign", "side", "I", false)
def tyX9 : Nat → FieldType := fun k => match k with
  | 0 => .int
  | 1 => .int
  | 2 => .int
  | 3 => .boolean
  | 4 => .array (.object "MeetingKit$Step")
  | 5 => .int
  | 6 => .array .int
  | 7 => .int
  | 8 => .int
  | _ => .int
theorem nmX9 : ∀ a, a < 10 → ∀ b, b < 10 → a ≠ b → (TX9 a).2.1 ≠ (TX9 b).2.1 := by decide +kernel
theorem tyX9_ok : ∀ k, k < 10 → parseFieldDescriptor (TX9 k).2.2.1 = some (tyX9 k) := by decide +kernel
theorem inX9 : ∀ w ∈ u_ws RX9 TX9 10, w ∈ jw_tbl := jw_ins [376, 377, 378, 379, 380, 381, 382, 383, 372, 374] (by decide +kernel) (by decide +kernel)
def TX10 : u_T := fun k => match k with
  | 0 => ("MeetingKit$Step", "actor", "LMeetingKit$Actor;", true)
  | 1 => ("MeetingKit$Step", "device", "LMeetingKit$Device;", true)
  | 2 => ("MeetingKit$Step", "act", "I", true)
  | 3 => ("MeetingKit$Step", "number", "I", true)
  | 4 => ("MeetingKit$Step", "patience", "I", true)
  | 5 => ("MeetingKit$Step", "outcome", "I", false)
  | 6 => ("MeetingKit$Step", "value", "I", false)
  | 7 => ("MeetingKit$Step", "began", "I", false)
  | _ => ("MeetingKit$Step", "ended", "I", false)
def tyX10 : Nat → FieldType := fun k => match k with
  | 0 => .object "MeetingKit$Actor"
  | 1 => .object "MeetingKit$Device"
  | 2 => .int
  | 3 => .int
  | 4 => .int
  | 5 => .int
  | 6 => .int
  | 7 => .int
  | _ => .int
theorem nmX10 : ∀ a, a < 9 → ∀ b, b < 9 → a ≠ b → (TX10 a).2.1 ≠ (TX10 b).2.1 := by decide +kernel
theorem tyX10_ok : ∀ k, k < 9 → parseFieldDescriptor (TX10 k).2.2.1 = some (tyX10 k) := by decide +kernel
theorem inX10 : ∀ w ∈ u_ws RX10 TX10 9, w ∈ jw_tbl := jw_ins [492, 494, 496, 498, 500, 502, 504, 506, 508] (by decide +kernel) (by decide +kernel)
def TX11 : u_T := fun k => match k with
  | 0 => ("MeetingKit", "actors", "[LMeetingKit$Actor;", true)
  | 1 => ("MeetingKit", "actorCount", "I", false)
  | 2 => ("MeetingKit", "devices", "[LMeetingKit$Device;", true)
  | 3 => ("MeetingKit", "deviceCount", "I", false)
  | 4 => ("MeetingKit", "interrupts", "[I", true)
  | 5 => ("MeetingKit", "interruptCount", "I", false)
  | 6 => ("MeetingKit", "interruptsDone", "I", false)
  | 7 => ("MeetingKit", "planCount", "I", false)
  | _ => ("MeetingKit", "reached", "I", false)
def tyX11 : Nat → FieldType := fun k => match k with
  | 0 => .array (.object "MeetingKit$Actor")
  | 1 => .int
  | 2 => .array (.object "MeetingKit$Device")
  | 3 => .int
  | 4 => .array .int
  | 5 => .int
  | 6 => .int
  | 7 => .int
  | _ => .int
theorem nmX11 : ∀ a, a < 9 → ∀ b, b < 9 → a ≠ b → (TX11 a).2.1 ≠ (TX11 b).2.1 := by decide +kernel
theorem tyX11_ok : ∀ k, k < 9 → parseFieldDescriptor (TX11 k).2.2.1 = some (tyX11 k) := by decide +kernel
theorem inX11 : ∀ w ∈ u_ws RX11 TX11 9, w ∈ jw_tbl := jw_ins [137, 139, 141, 143, 145, 147, 149, 151, 153] (by decide +kernel) (by decide +kernel)
def TX12 : u_T := fun k => match k with
  | 0 => ("MeetingKitModel", "threads", "I", false)
  | 1 => ("MeetingKitModel", "devices", "I", false)
  | 2 => ("MeetingKitModel", "beat", "I", false)
  | 3 => ("MeetingKitModel", "many", "[I", true)
  | 4 => ("MeetingKitModel", "begun", "[I", true)
  | 5 => ("MeetingKitModel", "waitsAt", "[I", true)
  | 6 => ("MeetingKitModel", "keeps", "[I", true)
  | 7 => ("MeetingKitModel", "freed", "[I", true)
  | 8 => ("MeetingKitModel", "due", "[I", true)
  | 9 => ("MeetingKitModel", "enters", "[I", true)
  | 10 => ("MeetingKitModel", "at", "[I", true)
  | 11 => ("MeetingKitModel", "acts", "[I", true)
  | 12 => ("MeetingKitModel", "numbers", "[I", true)
  | 13 => ("MeetingKitModel", "patience", "[I", true)
  | 14 => ("MeetingKitModel", "outcomes", "[I", true)
  | 15 => ("MeetingKitModel", "values", "[I", true)
  | 16 => ("MeetingKitModel", "first", "[I", true)
  | 17 => ("MeetingKitModel", "last", "[I", true)
  | 18 => ("MeetingKitModel", "kinds", "[I", true)
  | 19 => ("MeetingKitModel", "sizes", "[I", true)
  | 20 => ("MeetingKitModel", "closed", "[I", true)
  | 21 => ("MeetingKitModel", "closing", "[I", true)
  | 22 => ("MeetingKitModel", "line", "[I", true)
  | 23 => ("MeetingKitModel", "lined", "[I", true)
  | 24 => ("MeetingKitModel", "count", "[I", true)
  | 25 => ("MeetingKitModel", "flag", "[I", true)
  | 26 => ("MeetingKitModel", "owner", "[I", true)
  | 27 => ("MeetingKitModel", "other", "[I", true)
  | 28 => ("MeetingKitModel", "upgrades", "[I", true)
  | 29 => ("MeetingKitModel", "looks", "[I", true)
  | 30 => ("MeetingKitModel", "parties", "[I", true)
  | 31 => ("MeetingKitModel", "came", "[I", true)
  | 32 => ("MeetingKitModel", "lies", "[I", true)
  | 33 => ("MeetingKitModel", "log", "[B", true)
  | 34 => ("MeetingKitModel", "logged", "[I", true)
  | 35 => ("MeetingKitModel", "planned", "[I", true)
  | 36 => ("MeetingKitModel", "plannedFor", "[I", true)
  | 37 => ("MeetingKitModel", "plans", "I", false)
  | _ => ("MeetingKitModel", "interrupts", "I", false)
def tyX12 : Nat → FieldType := fun k => match k with
  | 0 => .int
  | 1 => .int
  | 2 => .int
  | 3 => .array .int
  | 4 => .array .int
  | 5 => .array .int
  | 6 => .array .int
  | 7 => .array .int
  | 8 => .array .int
  | 9 => .array .int
  | 10 => .array .int
  | 11 => .array .int
  | 12 => .array .int
  | 13 => .array .int
  | 14 => .array .int
  | 15 => .array .int
  | 16 => .array .int
  | 17 => .array .int
  | 18 => .array .int
  | 19 => .array .int
  | 20 => .array .int
  | 21 => .array .int
  | 22 => .array .int
  | 23 => .array .int
  | 24 => .array .int
  | 25 => .array .int
  | 26 => .array .int
  | 27 => .array .int
  | 28 => .array .int
  | 29 => .array .int
  | 30 => .array .int
  | 31 => .array .int
  | 32 => .array .int
  | 33 => .array .byte
  | 34 => .array .int
  | 35 => .array .int
  | 36 => .array .int
  | 37 => .int
  | _ => .int
theorem nmX12 : ∀ a, a < 39 → ∀ b, b < 39 → a ≠ b → (TX12 a).2.1 ≠ (TX12 b).2.1 := by decide +kernel
theorem tyX12_ok : ∀ k, k < 39 → parseFieldDescriptor (TX12 k).2.2.1 = some (tyX12 k) := by decide +kernel
theorem inX12 : ∀ w ∈ u_ws RX12 TX12 39, w ∈ jw_tbl := jw_ins [1001, 1003, 1005, 1007, 1009, 1011, 1013, 1015, 1017, 1019, 1021, 1023, 1025, 1027, 1029, 1031, 1033, 1035, 1037, 1039, 1041, 1043, 1045, 1047, 1049, 1051, 1053, 1055, 1057, 1059, 1061, 1063, 1065, 1067, 1069, 1071, 1073, 1075, 1077] (by decide +kernel) (by decide +kernel)
abbrev vwCl : List vw_C := [(RX0, TX0, 7), (RX1, TX1, 10), (RX3, TX3, 8), (RX4, TX4, 11), (RX5, TX5, 11), (RX6, TX6, 10), (RX7, TX7, 9), (RX8, TX8, 11), (RX9, TX9, 10), (RX10, TX10, 9), (RX11, TX11, 9), (RX12, TX12, 39)]
abbrev cX0_init : ByteArray := prog_2_method_1_code
def yX0_init : MethodName := ⟨"MeetingKit$Actor", "<init>", "(I)V"⟩
abbrev cX0_learn : ByteArray := prog_2_method_2_code
def yX0_learn : MethodName := ⟨"MeetingKit$Actor", "learn", "(LMeetingKit$Step;)I"⟩
abbrev cX0_stepAt : ByteArray := prog_2_method_3_code
def yX0_stepAt : MethodName := ⟨"MeetingKit$Actor", "stepAt", "(I)LMeetingKit$Step;"⟩
abbrev cX0_nextStep : ByteArray := prog_2_method_4_code
def yX0_nextStep : MethodName := ⟨"MeetingKit$Actor", "nextStep", "(I)LMeetingKit$Step;"⟩
abbrev cX0_beatOfNextMove : ByteArray := prog_2_method_5_code
def yX0_beatOfNextMove : MethodName := ⟨"MeetingKit$Actor", "beatOfNextMove", "(I)I"⟩
abbrev cX1_init : ByteArray := prog_3_method_1_code
def yX1_init : MethodName := ⟨"MeetingKit$Barrier", "<init>", "(II)V"⟩
abbrev cX1_perform : ByteArray := prog_3_method_2_code
def yX1_perform : MethodName := ⟨"MeetingKit$Barrier", "perform", "(LMeetingKit$Step;)I"⟩
abbrev cX1_come : ByteArray := prog_3_method_3_code
def yX1_come : MethodName := ⟨"MeetingKit$Barrier", "come", "(LMeetingKit$Step;)I"⟩
abbrev cX1_suffer : ByteArray := prog_3_method_4_code
def yX1_suffer : MethodName := ⟨"MeetingKit$Barrier", "suffer", "()V"⟩
abbrev cX1_mainState : ByteArray := prog_3_method_5_code
def yX1_mainState : MethodName := ⟨"MeetingKit$Barrier", "mainState", "()I"⟩
abbrev cX1_sideState : ByteArray := prog_3_method_6_code
def yX1_sideState : MethodName := ⟨"MeetingKit$Barrier", "sideState", "()I"⟩
abbrev cX2_init : ByteArray := prog_4_method_1_code
def yX2_init : MethodName := ⟨"MeetingKit$Device", "<init>", "(II)V"⟩
abbrev cX2_letOthersGo : ByteArray := prog_4_method_3_code
def yX2_letOthersGo : MethodName := ⟨"MeetingKit$Device", "letOthersGo", "()V"⟩
abbrev cX2_suffer : ByteArray := prog_4_method_4_code
def yX2_suffer : MethodName := ⟨"MeetingKit$Device", "suffer", "()V"⟩
abbrev cX2_mainState : ByteArray := prog_4_method_5_code
def yX2_mainState : MethodName := ⟨"MeetingKit$Device", "mainState", "()I"⟩
abbrev cX2_sideState : ByteArray := prog_4_method_6_code
def yX2_sideState : MethodName := ⟨"MeetingKit$Device", "sideState", "()I"⟩
abbrev cX2_serve : ByteArray := prog_4_method_7_code
def yX2_serve : MethodName := ⟨"MeetingKit$Device", "serve", "(LMeetingKit$Step;I)V"⟩
abbrev cX2_giveUp : ByteArray := prog_4_method_8_code
def yX2_giveUp : MethodName := ⟨"MeetingKit$Device", "giveUp", "(LMeetingKit$Step;II)V"⟩
abbrev cX2_shut : ByteArray := prog_4_method_9_code
def yX2_shut : MethodName := ⟨"MeetingKit$Device", "shut", "(I)V"⟩
abbrev cX2_waiter : ByteArray := prog_4_method_10_code
def yX2_waiter : MethodName := ⟨"MeetingKit$Device", "waiter", "(I)LMeetingKit$Step;"⟩
abbrev cX2_stillWaiting : ByteArray := prog_4_method_11_code
def yX2_stillWaiting : MethodName := ⟨"MeetingKit$Device", "stillWaiting", "(I)LMeetingKit$Step;"⟩
abbrev cX2_firstWithAct : ByteArray := prog_4_method_12_code
def yX2_firstWithAct : MethodName := ⟨"MeetingKit$Device", "firstWithAct", "(I)LMeetingKit$Step;"⟩
abbrev cX2_endAll : ByteArray := prog_4_method_13_code
def yX2_endAll : MethodName := ⟨"MeetingKit$Device", "endAll", "(I)V"⟩
abbrev cX2_sweep : ByteArray := prog_4_method_14_code
def yX2_sweep : MethodName := ⟨"MeetingKit$Device", "sweep", "(I)V"⟩
abbrev cX2_finish : ByteArray := prog_4_method_15_code
def yX2_finish : MethodName := ⟨"MeetingKit$Device", "finish", "(LMeetingKit$Step;I)V"⟩
abbrev cX3_init : ByteArray := prog_5_method_1_code
def yX3_init : MethodName := ⟨"MeetingKit$Exchange", "<init>", "(I)V"⟩
abbrev cX3_perform : ByteArray := prog_5_method_2_code
def yX3_perform : MethodName := ⟨"MeetingKit$Exchange", "perform", "(LMeetingKit$Step;)I"⟩
abbrev cX4_init : ByteArray := prog_6_method_1_code
def yX4_init : MethodName := ⟨"MeetingKit$HandOver", "<init>", "(II)V"⟩
abbrev cX4_perform : ByteArray := prog_6_method_2_code
def yX4_perform : MethodName := ⟨"MeetingKit$HandOver", "perform", "(LMeetingKit$Step;)I"⟩
abbrev cX4_put : ByteArray := prog_6_method_3_code
def yX4_put : MethodName := ⟨"MeetingKit$HandOver", "put", "(LMeetingKit$Step;)I"⟩
abbrev cX4_lay : ByteArray := prog_6_method_4_code
def yX4_lay : MethodName := ⟨"MeetingKit$HandOver", "lay", "(I)Z"⟩
abbrev cX4_take : ByteArray := prog_6_method_5_code
def yX4_take : MethodName := ⟨"MeetingKit$HandOver", "take", "(LMeetingKit$Step;)I"⟩
abbrev cX4_pickUp : ByteArray := prog_6_method_6_code
def yX4_pickUp : MethodName := ⟨"MeetingKit$HandOver", "pickUp", "()I"⟩
abbrev cX4_mainState : ByteArray := prog_6_method_7_code
def yX4_mainState : MethodName := ⟨"MeetingKit$HandOver", "mainState", "()I"⟩
abbrev cX5_init : ByteArray := prog_7_method_1_code
def yX5_init : MethodName := ⟨"MeetingKit$Lock", "<init>", "(I)V"⟩
abbrev cX5_perform : ByteArray := prog_7_method_2_code
def yX5_perform : MethodName := ⟨"MeetingKit$Lock", "perform", "(LMeetingKit$Step;)I"⟩
abbrev cX5_enter : ByteArray := prog_7_method_3_code
def yX5_enter : MethodName := ⟨"MeetingKit$Lock", "enter", "(LMeetingKit$Step;)I"⟩
abbrev cX5_isFreeFor : ByteArray := prog_7_method_4_code
def yX5_isFreeFor : MethodName := ⟨"MeetingKit$Lock", "isFreeFor", "(LMeetingKit$Step;)Z"⟩
abbrev cX5_las : ByteArray := prog_7_method_5_code
def yX5_las : MethodName := ⟨"MeetingKit$Lock", nm_A, "(LMeetingKit$Step;)V"⟩
abbrev cX5_addLooker : ByteArray := prog_7_method_6_code
def yX5_addLooker : MethodName := ⟨"MeetingKit$Lock", "addLooker", "(I)V"⟩
abbrev cX5_dropLooker : ByteArray := prog_7_method_7_code
def yX5_dropLooker : MethodName := ⟨"MeetingKit$Lock", "dropLooker", "(I)V"⟩
abbrev cX5_leave : ByteArray := prog_7_method_8_code
def yX5_leave : MethodName := ⟨"MeetingKit$Lock", "leave", "(I)I"⟩
abbrev cX5_upgrade : ByteArray := prog_7_method_9_code
def yX5_upgrade : MethodName := ⟨"MeetingKit$Lock", "upgrade", "(I)I"⟩
abbrev cX5_makeUser : ByteArray := prog_7_method_10_code
def yX5_makeUser : MethodName := ⟨"MeetingKit$Lock", "makeUser", "(I)V"⟩
abbrev cX5_downgrade : ByteArray := prog_7_method_11_code
def yX5_downgrade : MethodName := ⟨"MeetingKit$Lock", "downgrade", "(I)I"⟩
abbrev cX5_letOthersGo : ByteArray := prog_7_method_12_code
def yX5_letOthersGo : MethodName := ⟨"MeetingKit$Lock", "letOthersGo", "()V"⟩
abbrev cX5_lasFirst : ByteArray := prog_7_method_13_code
def yX5_lasFirst : MethodName := ⟨"MeetingKit$Lock", nm_B, "()V"⟩
abbrev cX5_mainState : ByteArray := prog_7_method_14_code
def yX5_mainState : MethodName := ⟨"MeetingKit$Lock", "mainState", "()I"⟩
abbrev cX5_sideState : ByteArray := prog_7_method_15_code
def yX5_sideState : MethodName := ⟨"MeetingKit$Lock", "sideState", "()I"⟩
abbrev cX6_init : ByteArray := prog_8_method_1_code
def yX6_init : MethodName := ⟨"MeetingKit$Monitor", "<init>", "(I)V"⟩
abbrev cX6_perform : ByteArray := prog_8_method_2_code
def yX6_perform : MethodName := ⟨"MeetingKit$Monitor", "perform", "(LMeetingKit$Step;)I"⟩
abbrev cX6_enter : ByteArray := prog_8_method_3_code
def yX6_enter : MethodName := ⟨"MeetingKit$Monitor", "enter", "(I)I"⟩
abbrev cX6_performInLine : ByteArray := prog_8_method_4_code
def yX6_performInLine : MethodName := ⟨"MeetingKit$Monitor", "performInLine", "(LMeetingKit$Step;)I"⟩
abbrev cX6_firstPlaceOf : ByteArray := prog_8_method_5_code
def yX6_firstPlaceOf : MethodName := ⟨"MeetingKit$Monitor", "firstPlaceOf", "(I)I"⟩
abbrev cX6_wake : ByteArray := prog_8_method_6_code
def yX6_wake : MethodName := ⟨"MeetingKit$Monitor", "wake", "(II)I"⟩
abbrev cX6_moveToEnd : ByteArray := prog_8_method_7_code
def yX6_moveToEnd : MethodName := ⟨"MeetingKit$Monitor", "moveToEnd", "(I)V"⟩
abbrev cX6_letOthersGo : ByteArray := prog_8_method_8_code
def yX6_letOthersGo : MethodName := ⟨"MeetingKit$Monitor", "letOthersGo", "()V"⟩
abbrev cX6_mainState : ByteArray := prog_8_method_9_code
def yX6_mainState : MethodName := ⟨"MeetingKit$Monitor", "mainState", "()I"⟩
abbrev cX6_sideState : ByteArray := prog_8_method_10_code
def yX6_sideState : MethodName := ⟨"MeetingKit$Monitor", "sideState", "()I"⟩
abbrev cX7_init : ByteArray := prog_9_method_1_code
def yX7_init : MethodName := ⟨"MeetingKit$Permits", "<init>", "(III)V"⟩
abbrev cX7_perform : ByteArray := prog_9_method_2_code
def yX7_perform : MethodName := ⟨"MeetingKit$Permits", "perform", "(LMeetingKit$Step;)I"⟩
abbrev cX7_give : ByteArray := prog_9_method_3_code
def yX7_give : MethodName := ⟨"MeetingKit$Permits", "give", "(LMeetingKit$Step;)I"⟩
abbrev cX7_take : ByteArray := prog_9_method_4_code
def yX7_take : MethodName := ⟨"MeetingKit$Permits", "take", "(LMeetingKit$Step;)V"⟩
abbrev cX7_letOthersGo : ByteArray := prog_9_method_5_code
def yX7_letOthersGo : MethodName := ⟨"MeetingKit$Permits", "letOthersGo", "()V"⟩
abbrev cX7_mainState : ByteArray := prog_9_method_6_code
def yX7_mainState : MethodName := ⟨"MeetingKit$Permits", "mainState", "()I"⟩
abbrev cX8_init : ByteArray := prog_10_method_1_code
def yX8_init : MethodName := ⟨"MeetingKit$Phaser", "<init>", "(I)V"⟩
abbrev cX8_perform : ByteArray := prog_10_method_2_code
def yX8_perform : MethodName := ⟨"MeetingKit$Phaser", "perform", "(LMeetingKit$Step;)I"⟩
abbrev cX8_join : ByteArray := prog_10_method_3_code
def yX8_join : MethodName := ⟨"MeetingKit$Phaser", "join", "(LMeetingKit$Step;)I"⟩
abbrev cX8_come : ByteArray := prog_10_method_4_code
def yX8_come : MethodName := ⟨"MeetingKit$Phaser", "come", "(LMeetingKit$Step;)I"⟩
abbrev cX8_leave : ByteArray := prog_10_method_5_code
def yX8_leave : MethodName := ⟨"MeetingKit$Phaser", "leave", "(LMeetingKit$Step;)I"⟩
abbrev cX8_countParties : ByteArray := prog_10_method_6_code
def yX8_countParties : MethodName := ⟨"MeetingKit$Phaser", "countParties", "(Z)I"⟩
abbrev cX8_allCame : ByteArray := prog_10_method_7_code
def yX8_allCame : MethodName := ⟨"MeetingKit$Phaser", "allCame", "()Z"⟩
abbrev cX8_beginPhase : ByteArray := prog_10_method_8_code
def yX8_beginPhase : MethodName := ⟨"MeetingKit$Phaser", "beginPhase", "()V"⟩
abbrev cX8_mainState : ByteArray := prog_10_method_9_code
def yX8_mainState : MethodName := ⟨"MeetingKit$Phaser", "mainState", "()I"⟩
abbrev cX8_sideState : ByteArray := prog_10_method_10_code
def yX8_sideState : MethodName := ⟨"MeetingKit$Phaser", "sideState", "()I"⟩
abbrev cX9_init : ByteArray := prog_11_method_1_code
def yX9_init : MethodName := ⟨"MeetingKit$Sign", "<init>", "(III)V"⟩
abbrev cX9_perform : ByteArray := prog_11_method_2_code
def yX9_perform : MethodName := ⟨"MeetingKit$Sign", "perform", "(LMeetingKit$Step;)I"⟩
abbrev cX9_performAtGate : ByteArray := prog_11_method_3_code
def yX9_performAtGate : MethodName := ⟨"MeetingKit$Sign", "performAtGate", "(LMeetingKit$Step;)I"⟩
abbrev cX9_performAtTickets : ByteArray := prog_11_method_4_code
def yX9_performAtTickets : MethodName := ⟨"MeetingKit$Sign", "performAtTickets", "(LMeetingKit$Step;)I"⟩
abbrev cX9_performAtCell : ByteArray := prog_11_method_5_code
def yX9_performAtCell : MethodName := ⟨"MeetingKit$Sign", "performAtCell", "(LMeetingKit$Step;)I"⟩
abbrev cX9_performAtPause : ByteArray := prog_11_method_6_code
def yX9_performAtPause : MethodName := ⟨"MeetingKit$Sign", "performAtPause", "(LMeetingKit$Step;)I"⟩
abbrev cX9_lookForSign : ByteArray := prog_11_method_7_code
def yX9_lookForSign : MethodName := ⟨"MeetingKit$Sign", "lookForSign", "(LMeetingKit$Step;)I"⟩
abbrev cX9_hasSign : ByteArray := prog_11_method_8_code
def yX9_hasSign : MethodName := ⟨"MeetingKit$Sign", "hasSign", "(LMeetingKit$Step;)Z"⟩
abbrev cX9_valueBehindSign : ByteArray := prog_11_method_9_code
def yX9_valueBehindSign : MethodName := ⟨"MeetingKit$Sign", "valueBehindSign", "()I"⟩
abbrev cX9_letOthersGo : ByteArray := prog_11_method_10_code
def yX9_letOthersGo : MethodName := ⟨"MeetingKit$Sign", "letOthersGo", "()V"⟩
abbrev cX9_mainState : ByteArray := prog_11_method_11_code
def yX9_mainState : MethodName := ⟨"MeetingKit$Sign", "mainState", "()I"⟩
abbrev cX9_sideState : ByteArray := prog_11_method_12_code
def yX9_sideState : MethodName := ⟨"MeetingKit$Sign", "sideState", "()I"⟩
abbrev cX10_init : ByteArray := prog_12_method_1_code
def yX10_init : MethodName := ⟨"MeetingKit$Step", "<init>", "(LMeetingKit$Actor;LMeetingKit$Device;III)V"⟩
abbrev cX10_passWith : ByteArray := prog_12_method_2_code
def yX10_passWith : MethodName := ⟨"MeetingKit$Step", "passWith", "(I)V"⟩
abbrev cX11_init : ByteArray := prog_1_method_1_code
def yX11_init : MethodName := ⟨"MeetingKit", "<init>", "()V"⟩
abbrev cX11_device : ByteArray := prog_1_method_2_code
def yX11_device : MethodName := ⟨"MeetingKit", "device", "(II)I"⟩
abbrev cX11_thread : ByteArray := prog_1_method_3_code
def yX11_thread : MethodName := ⟨"MeetingKit", "thread", "()I"⟩
abbrev cX11_step : ByteArray := prog_1_method_4_code
def yX11_step : MethodName := ⟨"MeetingKit", "step", "(IIIII)I"⟩
abbrev cX11_interrupt : ByteArray := prog_1_method_5_code
def yX11_interrupt : MethodName := ⟨"MeetingKit", "interrupt", "(II)Z"⟩
abbrev cX11_close : ByteArray := prog_1_method_6_code
def yX11_close : MethodName := ⟨"MeetingKit", "close", "(II)Z"⟩
abbrev cX11_run : ByteArray := prog_1_method_7_code
def yX11_run : MethodName := ⟨"MeetingKit", "run", "(I)I"⟩
abbrev cX11_tell : ByteArray := prog_1_method_8_code
def yX11_tell : MethodName := ⟨"MeetingKit", "tell", "(II)I"⟩
abbrev cX11_outcome : ByteArray := prog_1_method_9_code
def yX11_outcome : MethodName := ⟨"MeetingKit", "outcome", "(III)I"⟩
abbrev cX11_state : ByteArray := prog_1_method_10_code
def yX11_state : MethodName := ⟨"MeetingKit", "state", "(II)I"⟩
abbrev cX11_waiting : ByteArray := prog_1_method_11_code
def yX11_waiting : MethodName := ⟨"MeetingKit", "waiting", "(II)I"⟩
abbrev cX11_passed : ByteArray := prog_1_method_12_code
def yX11_passed : MethodName := ⟨"MeetingKit", "passed", "(II)I"⟩
abbrev cX11_stuck : ByteArray := prog_1_method_13_code
def yX11_stuck : MethodName := ⟨"MeetingKit", "stuck", "(I)I"⟩
abbrev cX11_actorAt : ByteArray := prog_1_method_14_code
def yX11_actorAt : MethodName := ⟨"MeetingKit", "actorAt", "(I)LMeetingKit$Actor;"⟩
abbrev cX11_deviceAt : ByteArray := prog_1_method_15_code
def yX11_deviceAt : MethodName := ⟨"MeetingKit", "deviceAt", "(I)LMeetingKit$Device;"⟩
abbrev cX11_makeDevice : ByteArray := prog_1_method_16_code
def yX11_makeDevice : MethodName := ⟨"MeetingKit", "makeDevice", "(III)LMeetingKit$Device;"⟩
abbrev cX11_canPlanFor : ByteArray := prog_1_method_17_code
def yX11_canPlanFor : MethodName := ⟨"MeetingKit", "canPlanFor", "(I)Z"⟩
abbrev cX11_planInterrupt : ByteArray := prog_1_method_18_code
def yX11_planInterrupt : MethodName := ⟨"MeetingKit", "planInterrupt", "(I)Z"⟩
abbrev cX11_nextLivelyBeat : ByteArray := prog_1_method_19_code
def yX11_nextLivelyBeat : MethodName := ⟨"MeetingKit", "nextLivelyBeat", "()I"⟩
abbrev cX11_interruptThreads : ByteArray := prog_1_method_20_code
def yX11_interruptThreads : MethodName := ⟨"MeetingKit", "interruptThreads", "()V"⟩
abbrev cX11_closeDevices : ByteArray := prog_1_method_21_code
def yX11_closeDevices : MethodName := ⟨"MeetingKit", "closeDevices", "()V"⟩
abbrev cX11_endPatience : ByteArray := prog_1_method_22_code
def yX11_endPatience : MethodName := ⟨"MeetingKit", "endPatience", "()V"⟩
abbrev cX11_beginSteps : ByteArray := prog_1_method_23_code
def yX11_beginSteps : MethodName := ⟨"MeetingKit", "beginSteps", "()V"⟩
abbrev cX12_init : ByteArray := prog_14_method_1_code
def yX12_init : MethodName := ⟨"MeetingKitModel", "<init>", "()V"⟩
abbrev cX12_isIn : ByteArray := prog_14_method_2_code
def yX12_isIn : MethodName := ⟨"MeetingKitModel", "isIn", "(II)Z"⟩
abbrev cX12_mostOf : ByteArray := prog_14_method_3_code
def yX12_mostOf : MethodName := ⟨"MeetingKitModel", "mostOf", "(I)I"⟩
abbrev cX12_device : ByteArray := prog_14_method_4_code
def yX12_device : MethodName := ⟨"MeetingKitModel", "device", "(II)I"⟩
abbrev cX12_thread : ByteArray := prog_14_method_5_code
def yX12_thread : MethodName := ⟨"MeetingKitModel", "thread", "()I"⟩
abbrev cX12_step : ByteArray := prog_14_method_6_code
def yX12_step : MethodName := ⟨"MeetingKitModel", "step", "(IIIII)I"⟩
abbrev cX12_isLater : ByteArray := prog_14_method_7_code
def yX12_isLater : MethodName := ⟨"MeetingKitModel", "isLater", "(I)Z"⟩
abbrev cX12_interrupt : ByteArray := prog_14_method_8_code
def yX12_interrupt : MethodName := ⟨"MeetingKitModel", "interrupt", "(II)Z"⟩
abbrev cX12_isPlanned : ByteArray := prog_14_method_9_code
def yX12_isPlanned : MethodName := ⟨"MeetingKitModel", "isPlanned", "(II)Z"⟩
abbrev cX12_close : ByteArray := prog_14_method_10_code
def yX12_close : MethodName := ⟨"MeetingKitModel", "close", "(II)Z"⟩
abbrev cX12_stepOf : ByteArray := prog_14_method_11_code
def yX12_stepOf : MethodName := ⟨"MeetingKitModel", "stepOf", "(I)I"⟩
abbrev cX12_actOf : ByteArray := prog_14_method_12_code
def yX12_actOf : MethodName := ⟨"MeetingKitModel", "actOf", "(I)I"⟩
abbrev cX12_numberOf : ByteArray := prog_14_method_13_code
def yX12_numberOf : MethodName := ⟨"MeetingKitModel", "numberOf", "(I)I"⟩
abbrev cX12_ends : ByteArray := prog_14_method_14_code
def yX12_ends : MethodName := ⟨"MeetingKitModel", "ends", "(III)V"⟩
abbrev cX12_passes : ByteArray := prog_14_method_15_code
def yX12_passes : MethodName := ⟨"MeetingKitModel", "passes", "(II)V"⟩
abbrev cX12_waits : ByteArray := prog_14_method_16_code
def yX12_waits : MethodName := ⟨"MeetingKitModel", "waits", "(I)Z"⟩
abbrev cX12_inLine : ByteArray := prog_14_method_17_code
def yX12_inLine : MethodName := ⟨"MeetingKitModel", "inLine", "(II)I"⟩
abbrev cX12_leavesLine : ByteArray := prog_14_method_18_code
def yX12_leavesLine : MethodName := ⟨"MeetingKitModel", "leavesLine", "(I)V"⟩
abbrev cX12_goes : ByteArray := prog_14_method_19_code
def yX12_goes : MethodName := ⟨"MeetingKitModel", "goes", "(II)V"⟩
abbrev cX12_allEnd : ByteArray := prog_14_method_20_code
def yX12_allEnd : MethodName := ⟨"MeetingKitModel", "allEnd", "(II)V"⟩
abbrev cX12_gives : ByteArray := prog_14_method_21_code
def yX12_gives : MethodName := ⟨"MeetingKitModel", "gives", "(II)V"⟩
abbrev cX12_lookers : ByteArray := prog_14_method_22_code
def yX12_lookers : MethodName := ⟨"MeetingKitModel", "lookers", "(I)I"⟩
abbrev cX12_firstToEnter : ByteArray := prog_14_method_23_code
def yX12_firstToEnter : MethodName := ⟨"MeetingKitModel", "firstToEnter", "(I)I"⟩
abbrev cX12_letsOneGo : ByteArray := prog_14_method_24_code
def yX12_letsOneGo : MethodName := ⟨"MeetingKitModel", "letsOneGo", "(I)Z"⟩
abbrev cX12_letsLock : ByteArray := prog_14_method_25_code
def yX12_letsLock : MethodName := ⟨"MeetingKitModel", "letsLock", "(II)Z"⟩
abbrev cX12_letsGo : ByteArray := prog_14_method_26_code
def yX12_letsGo : MethodName := ⟨"MeetingKitModel", "letsGo", "(I)V"⟩
abbrev cX12_misuse : ByteArray := prog_14_method_27_code
def yX12_misuse : MethodName := ⟨"MeetingKitModel", "misuse", "(I)V"⟩
abbrev cX12_permits : ByteArray := prog_14_method_28_code
def yX12_permits : MethodName := ⟨"MeetingKitModel", "permits", "(IIII)V"⟩
abbrev cX12_gate : ByteArray := prog_14_method_29_code
def yX12_gate : MethodName := ⟨"MeetingKitModel", "gate", "(III)V"⟩
abbrev cX12_barrier : ByteArray := prog_14_method_30_code
def yX12_barrier : MethodName := ⟨"MeetingKitModel", "barrier", "(III)V"⟩
abbrev cX12_exchange : ByteArray := prog_14_method_31_code
def yX12_exchange : MethodName := ⟨"MeetingKitModel", "exchange", "(IIII)V"⟩
abbrev cX12_lock : ByteArray := prog_14_method_32_code
def yX12_lock : MethodName := ⟨"MeetingKitModel", "lock", "(III)V"⟩
abbrev cX12_puts : ByteArray := prog_14_method_33_code
def yX12_puts : MethodName := ⟨"MeetingKitModel", "puts", "(II)V"⟩
abbrev cX12_handOver : ByteArray := prog_14_method_34_code
def yX12_handOver : MethodName := ⟨"MeetingKitModel", "handOver", "(IIII)V"⟩
abbrev cX12_tickets : ByteArray := prog_14_method_35_code
def yX12_tickets : MethodName := ⟨"MeetingKitModel", "tickets", "(IIII)V"⟩
abbrev cX12_cell : ByteArray := prog_14_method_36_code
def yX12_cell : MethodName := ⟨"MeetingKitModel", "cell", "(IIII)V"⟩
abbrev cX12_areThere : ByteArray := prog_14_method_37_code
def yX12_areThere : MethodName := ⟨"MeetingKitModel", "areThere", "(IZ)Z"⟩
abbrev cX12_rises : ByteArray := prog_14_method_38_code
def yX12_rises : MethodName := ⟨"MeetingKitModel", "rises", "(II)V"⟩
abbrev cX12_phaser : ByteArray := prog_14_method_39_code
def yX12_phaser : MethodName := ⟨"MeetingKitModel", "phaser", "(III)V"⟩
abbrev cX12_pause : ByteArray := prog_14_method_40_code
def yX12_pause : MethodName := ⟨"MeetingKitModel", "pause", "(III)V"⟩
abbrev cX12_wakes : ByteArray := prog_14_method_41_code
def yX12_wakes : MethodName := ⟨"MeetingKitModel", "wakes", "(IIZ)I"⟩
abbrev cX12_monitor : ByteArray := prog_14_method_42_code
def yX12_monitor : MethodName := ⟨"MeetingKitModel", "monitor", "(IIII)V"⟩
abbrev cX12_begins : ByteArray := prog_14_method_43_code
def yX12_begins : MethodName := ⟨"MeetingKitModel", "begins", "(I)V"⟩
abbrev cX12_isOver : ByteArray := prog_14_method_44_code
def yX12_isOver : MethodName := ⟨"MeetingKitModel", "isOver", "(I)Z"⟩
abbrev cX12_doesBeat : ByteArray := prog_14_method_45_code
def yX12_doesBeat : MethodName := ⟨"MeetingKitModel", "doesBeat", "()V"⟩
abbrev cX12_canHappen : ByteArray := prog_14_method_46_code
def yX12_canHappen : MethodName := ⟨"MeetingKitModel", "canHappen", "()Z"⟩
abbrev cX12_run : ByteArray := prog_14_method_47_code
def yX12_run : MethodName := ⟨"MeetingKitModel", "run", "(I)I"⟩
abbrev cX12_tell : ByteArray := prog_14_method_48_code
def yX12_tell : MethodName := ⟨"MeetingKitModel", "tell", "(II)I"⟩
abbrev cX12_outcome : ByteArray := prog_14_method_49_code
def yX12_outcome : MethodName := ⟨"MeetingKitModel", "outcome", "(III)I"⟩
abbrev cX12_partyCount : ByteArray := prog_14_method_50_code
def yX12_partyCount : MethodName := ⟨"MeetingKitModel", "partyCount", "(I)I"⟩
abbrev cX12_third : ByteArray := prog_14_method_51_code
def yX12_third : MethodName := ⟨"MeetingKitModel", "third", "(I)I"⟩
abbrev cX12_fourth : ByteArray := prog_14_method_52_code
def yX12_fourth : MethodName := ⟨"MeetingKitModel", "fourth", "(I)I"⟩
abbrev cX12_state : ByteArray := prog_14_method_53_code
def yX12_state : MethodName := ⟨"MeetingKitModel", "state", "(II)I"⟩
abbrev cX12_waiting : ByteArray := prog_14_method_54_code
def yX12_waiting : MethodName := ⟨"MeetingKitModel", "waiting", "(II)I"⟩
abbrev cX12_passed : ByteArray := prog_14_method_55_code
def yX12_passed : MethodName := ⟨"MeetingKitModel", "passed", "(II)I"⟩
abbrev cX12_stuck : ByteArray := prog_14_method_56_code
def yX12_stuck : MethodName := ⟨"MeetingKitModel", "stuck", "(I)I"⟩
