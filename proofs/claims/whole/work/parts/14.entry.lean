theorem jr_inst {t : Nat} {r : vw_C} (h : vwCl[t]? = some r) : Cond.instantiable r.1 r.2.2 ∈ jw_tbl := by
  have hm := List.mem_of_getElem? h
  simp only [vwCl, List.mem_cons, List.not_mem_nil, or_false] at hm
  rcases hm with rfl | rfl | rfl | rfl | rfl | rfl | rfl | rfl | rfl | rfl | rfl | rfl
  · exact jw_in 389 (by decide +kernel) (by decide +kernel)
  · exact jw_in 232 (by decide +kernel) (by decide +kernel)
  · exact jw_in 253 (by decide +kernel) (by decide +kernel)
  · exact jw_in 293 (by decide +kernel) (by decide +kernel)
  · exact jw_in 268 (by decide +kernel) (by decide +kernel)
  · exact jw_in 344 (by decide +kernel) (by decide +kernel)
  · exact jw_in 169 (by decide +kernel) (by decide +kernel)
  · exact jw_in 320 (by decide +kernel) (by decide +kernel)
  · exact jw_in 365 (by decide +kernel) (by decide +kernel)
  · exact jw_in 443 (by decide +kernel) (by decide +kernel)
  · exact jw_in 117 (by decide +kernel) (by decide +kernel)
  · exact jw_in 957 (by decide +kernel) (by decide +kernel)
theorem jr_know {args : Array Value} {s : State} (hts : ∀ w ∈ jw_tbl, w.before args s = true) : ∃ D : va_G, va_K D vwCl [] s := by
  have h1 : ∀ t : Nat, ∃ q : ClassId × (Nat → Nat), ∀ r : vw_C, vwCl[t]? = some r → u_Kn s r.1 r.2.1 r.2.2 q.1 q.2 := by
    intro t
    cases hr : vwCl[t]? with
    | none => exact ⟨(0, fun _ => 0), fun r h => by cases h⟩
    | some r =>
      obtain ⟨cC, iS, hK⟩ := u_known hts (jr_cls hr).1 (hts _ (jr_inst hr))
      exact ⟨(cC, iS), fun r' h => by cases h; exact hK⟩
  refine ⟨(fun t => (Classical.choose (h1 t)).1, fun t => (Classical.choose (h1 t)).2), fun c q hq => Classical.choose_spec (h1 c) q hq, fun k q hk => by cases hk⟩
def jp_least (j : Nat) : Int32 := if j = 3 then 1 else 0
def jp_most (j : Nat) : Int32 := if j < 3 then 100 else if j = 3 then 16 else if j = 6 then 8 else 0
/-- the pure heap with which the law begins: the script at b, the two tables, the statics' cell, nothing else -/
def jp_Start (h0 : jH) (b L aL aM : Nat) (xs : Nat → Int32) : Prop :=
  L ≤ 3072 ∧ (∃ q, h0.1 b = some q ∧ q.1 = 30 ∧ q.2.1 = L ∧ ∀ j, j < L → q.2.2 j = .inl (xs j).toInt) ∧ (∃ q, h0.1 aL = some q ∧ q.1 = 30 ∧ q.2.1 = 12 ∧ ∀ j, j < 12 → q.2.2 j = .inl (jp_least j).toInt) ∧ (∃ q, h0.1 aM = some q ∧ q.1 = 30 ∧ q.2.1 = 12 ∧ ∀ j, j < 12 → q.2.2 j = .inl (jp_most j).toInt) ∧
  (∃ a q, h0.1 a = some q ∧ q.1 = 31 ∧ h0.2.1 + 1000000 ≤ a) ∧ (∀ a q, h0.1 a = some q → q.1 = 31 → q.2.2 0 = .inr (some aL) ∧ q.2.2 1 = .inr (some aM)) ∧ (b < h0.2.1 ∧ aL < h0.2.1 ∧ aM < h0.2.1) ∧ ∀ a q, h0.1 a = some q → 30 ≤ q.1 ∧ (a < h0.2.1 ∨ h0.2.1 + 1000000 ≤ a)
def jp_Goal : Prop := ∀ (h0 : jH) (b L aL aM : Nat) (xs : Nat → Int32), jp_Start h0 b L aL aM xs → ∃ (n : Nat) (h' : jH), kL_law n [some (.inr (some b)), none, none, none] [] h0 = some (some (.inl 1), h') ∧ h'.2.1 ≤ h0.2.1 + 600000 ∧ h'.2.2 ≤ h0.2.2 + 7302250
theorem jp_same {a N1 N2 : Nat} {f1 f2 : Nat → Value} {A : Nat → Prop} {U : State} {H : Heap} (hN1 : N1 < 2 ^ 31) (hN2 : N2 < 2 ^ 31) (h1 : va_T .int a N1 f1 A U H) (h2 : va_T .int a N2 f2 A U H) : N1 = N2 ∧ ∀ j, j < N1 → f1 j = f2 j := by
  obtain ⟨c1, g1, -, -, -, g5, g6, -⟩ := h1
  obtain ⟨c2, k1, -, -, -, k5, k6, -⟩ := h2
  cases g1.symm.trans k1
  have e : Int32.ofNat N1 = Int32.ofNat N2 := g5.symm.trans k5
  have e2 : N1 = N2 := (nI_eq hN1 hN2).mp e
  subst e2
  exact ⟨rfl, fun j hj => Option.some.inj ((g6 j hj).symm.trans (k6 j hj))⟩
theorem jp_tab_jp_least {b : Nat} {s : State} {A : Nat → Prop} (hgv : (Jvm.Cond.and given_1 narrow_1).before #[Value.ref b] s = true) (hts : ∀ w ∈ lw_tbl, w.before #[Value.ref b] s = true) (hA : ∀ a : Nat, a < s.heap.size → ¬ A a) : ∃ t : Nat, va_T .int t 12 (fun j => .int (jp_least j)) A s s.heap ∧ va_Z "MeetingKit" "LEAST_N" "[I" (.ref t) A s s.heap := by
  have hs := flat_of_before _ hgv
  have harr : (Cond.arrayOf (.static "MeetingKit" "LEAST_N" "[I") .int).before #[Value.ref b] s = true := hs _ (by decide +kernel)
  have hlen : (Cond.eq (.length (.static "MeetingKit" "LEAST_N" "[I")) (.int 12)).before #[Value.ref b] s = true := hs _ (by decide +kernel)
  have e0 : (Cond.eq (.elem (.static "MeetingKit" "LEAST_N" "[I") (.int 0)) (.int 0)).before #[Value.ref b] s = true := hs _ (by decide +kernel)
  have e1 : (Cond.eq (.elem (.static "MeetingKit" "LEAST_N" "[I") (.int 1)) (.int 0)).before #[Value.ref b] s = true := hs _ (by decide +kernel)
  have e2 : (Cond.eq (.elem (.static "MeetingKit" "LEAST_N" "[I") (.int 2)) (.int 0)).before #[Value.ref b] s = true := hs _ (by decide +kernel)
  have e3 : (Cond.eq (.elem (.static "MeetingKit" "LEAST_N" "[I") (.int 3)) (.int 1)).before #[Value.ref b] s = true := hs _ (by decide +kernel)
  have e4 : (Cond.eq (.elem (.static "MeetingKit" "LEAST_N" "[I") (.int 4)) (.int 0)).before #[Value.ref b] s = true := hs _ (by decide +kernel)
  have e5 : (Cond.eq (.elem (.static "MeetingKit" "LEAST_N" "[I") (.int 5)) (.int 0)).before #[Value.ref b] s = true := hs _ (by decide +kernel)
  have e6 : (Cond.eq (.elem (.static "MeetingKit" "LEAST_N" "[I") (.int 6)) (.int 0)).before #[Value.ref b] s = true := hs _ (by decide +kernel)
  have e7 : (Cond.eq (.elem (.static "MeetingKit" "LEAST_N" "[I") (.int 7)) (.int 0)).before #[Value.ref b] s = true := hs _ (by decide +kernel)
  have e8 : (Cond.eq (.elem (.static "MeetingKit" "LEAST_N" "[I") (.int 8)) (.int 0)).before #[Value.ref b] s = true := hs _ (by decide +kernel)
  have e9 : (Cond.eq (.elem (.static "MeetingKit" "LEAST_N" "[I") (.int 9)) (.int 0)).before #[Value.ref b] s = true := hs _ (by decide +kernel)
  have e10 : (Cond.eq (.elem (.static "MeetingKit" "LEAST_N" "[I") (.int 10)) (.int 0)).before #[Value.ref b] s = true := hs _ (by decide +kernel)
  have e11 : (Cond.eq (.elem (.static "MeetingKit" "LEAST_N" "[I") (.int 11)) (.int 0)).before #[Value.ref b] s = true := hs _ (by decide +kernel)
  have hel : ∀ j : Nat, j < 12 → (Term.elem (.static "MeetingKit" "LEAST_N" "[I") (.int (Int32.ofNat j))).eval #[Value.ref b] s none [] s = some (.int (jp_least j)) := by
    intro j hj
    rcases (show j = 0 ∨ j = 1 ∨ j = 2 ∨ j = 3 ∨ j = 4 ∨ j = 5 ∨ j = 6 ∨ j = 7 ∨ j = 8 ∨ j = 9 ∨ j = 10 ∨ j = 11 by omega) with rfl | rfl | rfl | rfl | rfl | rfl | rfl | rfl | rfl | rfl | rfl | rfl
    · exact va_eqt e0
    · exact va_eqt e1
    · exact va_eqt e2
    · exact va_eqt e3
    · exact va_eqt e4
    · exact va_eqt e5
    · exact va_eqt e6
    · exact va_eqt e7
    · exact va_eqt e8
    · exact va_eqt e9
    · exact va_eqt e10
    · exact va_eqt e11
  obtain ⟨t, ht, hT⟩ := va_Tof (N := 12) (f := fun j => .int (jp_least j)) (A := A) (by decide) harr (va_eqt hlen) hel hA
  exact ⟨t, hT, va_Zof (hts _ (List.mem_of_getElem? (i := 146) (by decide +kernel))) (hts _ (List.mem_of_getElem? (i := 86) (by decide +kernel))) ht hA⟩
theorem jp_tab_jp_most {b : Nat} {s : State} {A : Nat → Prop} (hgv : (Jvm.Cond.and given_1 narrow_1).before #[Value.ref b] s = true) (hts : ∀ w ∈ lw_tbl, w.before #[Value.ref b] s = true) (hA : ∀ a : Nat, a < s.heap.size → ¬ A a) : ∃ t : Nat, va_T .int t 12 (fun j => .int (jp_most j)) A s s.heap ∧ va_Z "MeetingKit" "MOST_N" "[I" (.ref t) A s s.heap := by
  have hs := flat_of_before _ hgv
  have harr : (Cond.arrayOf (.static "MeetingKit" "MOST_N" "[I") .int).before #[Value.ref b] s = true := hs _ (by decide +kernel)
  have hlen : (Cond.eq (.length (.static "MeetingKit" "MOST_N" "[I")) (.int 12)).before #[Value.ref b] s = true := hs _ (by decide +kernel)
  have e0 : (Cond.eq (.elem (.static "MeetingKit" "MOST_N" "[I") (.int 0)) (.int 100)).before #[Value.ref b] s = true := hs _ (by decide +kernel)
  have e1 : (Cond.eq (.elem (.static "MeetingKit" "MOST_N" "[I") (.int 1)) (.int 100)).before #[Value.ref b] s = true := hs _ (by decide +kernel)
  have e2 : (Cond.eq (.elem (.static "MeetingKit" "MOST_N" "[I") (.int 2)) (.int 100)).before #[Value.ref b] s = true := hs _ (by decide +kernel)
  have e3 : (Cond.eq (.elem (.static "MeetingKit" "MOST_N" "[I") (.int 3)) (.int 16)).before #[Value.ref b] s = true := hs _ (by decide +kernel)
  have e4 : (Cond.eq (.elem (.static "MeetingKit" "MOST_N" "[I") (.int 4)) (.int 0)).before #[Value.ref b] s = true := hs _ (by decide +kernel)
  have e5 : (Cond.eq (.elem (.static "MeetingKit" "MOST_N" "[I") (.int 5)) (.int 0)).before #[Value.ref b] s = true := hs _ (by decide +kernel)
  have e6 : (Cond.eq (.elem (.static "MeetingKit" "MOST_N" "[I") (.int 6)) (.int 8)).before #[Value.ref b] s = true := hs _ (by decide +kernel)
  have e7 : (Cond.eq (.elem (.static "MeetingKit" "MOST_N" "[I") (.int 7)) (.int 0)).before #[Value.ref b] s = true := hs _ (by decide +kernel)
  have e8 : (Cond.eq (.elem (.static "MeetingKit" "MOST_N" "[I") (.int 8)) (.int 0)).before #[Value.ref b] s = true := hs _ (by decide +kernel)
  have e9 : (Cond.eq (.elem (.static "MeetingKit" "MOST_N" "[I") (.int 9)) (.int 0)).before #[Value.ref b] s = true := hs _ (by decide +kernel)
  have e10 : (Cond.eq (.elem (.static "MeetingKit" "MOST_N" "[I") (.int 10)) (.int 0)).before #[Value.ref b] s = true := hs _ (by decide +kernel)
  have e11 : (Cond.eq (.elem (.static "MeetingKit" "MOST_N" "[I") (.int 11)) (.int 0)).before #[Value.ref b] s = true := hs _ (by decide +kernel)
  have hel : ∀ j : Nat, j < 12 → (Term.elem (.static "MeetingKit" "MOST_N" "[I") (.int (Int32.ofNat j))).eval #[Value.ref b] s none [] s = some (.int (jp_most j)) := by
    intro j hj
    rcases (show j = 0 ∨ j = 1 ∨ j = 2 ∨ j = 3 ∨ j = 4 ∨ j = 5 ∨ j = 6 ∨ j = 7 ∨ j = 8 ∨ j = 9 ∨ j = 10 ∨ j = 11 by omega) with rfl | rfl | rfl | rfl | rfl | rfl | rfl | rfl | rfl | rfl | rfl | rfl
    · exact va_eqt e0
    · exact va_eqt e1
    · exact va_eqt e2
    · exact va_eqt e3
    · exact va_eqt e4
    · exact va_eqt e5
    · exact va_eqt e6
    · exact va_eqt e7
    · exact va_eqt e8
    · exact va_eqt e9
    · exact va_eqt e10
    · exact va_eqt e11
  obtain ⟨t, ht, hT⟩ := va_Tof (N := 12) (f := fun j => .int (jp_most j)) (A := A) (by decide) harr (va_eqt hlen) hel hA
  exact ⟨t, hT, va_Zof (hts _ (List.mem_of_getElem? (i := 148) (by decide +kernel))) (hts _ (List.mem_of_getElem? (i := 86) (by decide +kernel))) ht hA⟩
