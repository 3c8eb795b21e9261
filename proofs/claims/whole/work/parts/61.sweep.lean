theorem c_fin_log {κ : aS} {d s b x : Int} (hx : s / 20 = x) (c : Nat) (i : Int) (hc : c = 33 ∨ c = 34) : c_fin κ d s b c i = if κ 14 s = 0 then c_log d κ x c i else κ c i := by
  have n1 : c ≠ 17 := by omega
  have n2 : c ≠ 5 := by omega
  have n3 : c ≠ 7 := by omega
  unfold c_fin c_log
  rw [hx]
  by_cases h1 : κ 14 s = 0
  · rw [if_pos h1]
    by_cases h2 : κ 34 d < 300
    · rw [if_pos ⟨h1, h2⟩, if_pos h2]
      unfold pu_up
      simp only [n1, n2, n3, false_and, if_false]
    · rw [if_neg (fun z => h2 z.2), if_neg h2, pu_up_ne _ _ _ _ n3, pu_up_ne _ _ _ _ n2, pu_up_ne _ _ _ _ n1]
  · rw [if_neg h1, if_neg (fun z => h1 z.1), pu_up_ne _ _ _ _ n3, pu_up_ne _ _ _ _ n2, pu_up_ne _ _ _ _ n1]
theorem c_fin_17 (κ : aS) (d s b i : Int) : c_fin κ d s b 17 i = if i = s then b else κ 17 i := by
  unfold c_fin
  split
  · rw [pu_up_ne _ _ _ _ (by decide), pu_up_ne _ _ _ _ (by decide), pu_up_ne _ _ _ _ (by decide), pu_up_ne _ _ _ _ (by decide), pu_up_c]
  · rw [pu_up_ne _ _ _ _ (by decide), pu_up_ne _ _ _ _ (by decide), pu_up_c]
theorem c_fin_5 (κ : aS) (d s b i : Int) : c_fin κ d s b 5 i = if i = s / 20 then -1 else κ 5 i := by
  unfold c_fin
  split
  · rw [pu_up_ne _ _ _ _ (by decide), pu_up_ne _ _ _ _ (by decide), pu_up_ne _ _ _ _ (by decide), pu_up_c, pu_up_ne _ _ _ _ (by decide)]
  · rw [pu_up_ne _ _ _ _ (by decide), pu_up_c, pu_up_ne _ _ _ _ (by decide)]
theorem c_fin_7 (κ : aS) (d s b i : Int) : c_fin κ d s b 7 i = if i = s / 20 then b else κ 7 i := by
  unfold c_fin
  split
  · rw [pu_up_ne _ _ _ _ (by decide), pu_up_ne _ _ _ _ (by decide), pu_up_c, pu_up_ne _ _ _ _ (by decide), pu_up_ne _ _ _ _ (by decide)]
  · rw [pu_up_c, pu_up_ne _ _ _ _ (by decide), pu_up_ne _ _ _ _ (by decide)]
/-- one that is let go is swept -/
theorem MB.fin {κ : aS} {τ : bS} {d : Int} {P : List Int} (h : MB κ τ d P) {x : Int} (hx : x ∈ P) (hp : P.filter (ps τ) = (if ps τ x = true then [x] else []) ++ (P.erase x).filter (ps τ)) : MB (c_fin κ d (b_s τ x) (τ.1 2 0)) τ d (P.erase x) := by
  obtain ⟨m1, m5, m7, m17, m17n, mlog, m15, msp, mP, mPr⟩ := h
  have xO := mPr x hx
  have xd := bs_div xO
  have xe : x ∉ P.erase x := List.Nodup.not_mem_erase mP
  have me : ∀ z, z ≠ x → (z ∈ P.erase x ↔ z ∈ P) := fun z hz => List.mem_erase_of_ne hz
  refine ⟨fun c i hc => ?_, fun z => ?_, fun z => ?_, fun z hz => m17 z (List.mem_of_mem_erase hz), fun s hs => ?_, fun c i hc => ?_, fun s => ?_, fun e he0 he1 => ?_, mP.erase x, fun z hz => mPr z (List.mem_of_mem_erase hz)⟩
  · obtain ⟨n5, n7, n15, n17, n28, n33, n34, _, _⟩ := mr_ne hc
    rw [c_fin_c _ _ _ _ _ _ ⟨n17, n5, n7, n33, n34⟩]
    exact m1 c i hc
  · rw [c_fin_5, xd, m5 z]
    by_cases e : z = x
    · rw [if_pos (show z ∈ P by rw [e]; exact hx), if_neg (show ¬ z ∈ P.erase x by rw [e]; exact xe), if_pos e]
    · by_cases hz : z ∈ P
      · rw [if_pos hz, if_pos ((me z e).mpr hz)]
      · rw [if_neg hz, if_neg (fun q => hz ((me z e).mp q)), if_neg e]
  · rw [c_fin_7, xd, m7 z]
    by_cases e : z = x
    · rw [if_pos (show z ∈ P by rw [e]; exact hx), if_neg (show ¬ z ∈ P.erase x by rw [e]; exact xe), if_pos e]
    · by_cases hz : z ∈ P
      · rw [if_pos hz, if_pos ((me z e).mpr hz)]
      · rw [if_neg hz, if_neg (fun q => hz ((me z e).mp q)), if_neg e]
  · rw [c_fin_17]
    by_cases e : s = b_s τ x
    · rw [if_pos e, e]
      exact m17 x hx
    · rw [if_neg e]
      refine m17n s (fun z hz => ?_)
      by_cases e1 : z = x
      · rw [e1]
        exact e
      · exact hs z ((me z e1).mpr hz)
  · rw [mlog c i hc, hp, List.foldl_append]
    refine c_logs_congr _ (fun c i hc => ?_) c i hc
    rw [c_fin_log xd c i hc, m1 14 _ rfl]
    by_cases e : τ.1 14 (b_s τ x) = 0
    · have e2 : ps τ x = true := by unfold ps; simpa using e
      rw [if_pos e, if_pos e2]
      rfl
    · have e2 : ¬ ps τ x = true := by unfold ps; simpa using e
      rw [if_neg e, if_neg e2]
      rfl
  · refine ⟨?_, UZ.tr s (fun _ => rfl) (fun _ => rfl) (m15 s).2 (fun _ _ => c_fin_c _ _ _ _ _ _ (by decide)) (fun _ _ => rfl)⟩
    rw [c_fin_c _ _ _ _ _ _ (by decide)]
    exact (m15 s).1
  · obtain ⟨s1, s2⟩ := msp e he0 he1
    refine ⟨fun h5 => ?_, fun z hz => ⟨fun h => ?_, fun h => ?_⟩⟩
    · rw [c_fin_c _ _ _ _ _ _ (by decide)]
      exact s1 h5
    · rw [c_fin_c _ _ _ _ _ _ (by decide)]
      exact (s2 z hz).1 h
    · rw [c_fin_c _ _ _ _ _ _ (by decide)]
      exact (s2 z hz).2 h
theorem MB.ln {κ κ' : aS} {τ : bS} {d : Int} {P : List Int} (h : MB κ τ d P) (hk : ∀ (c : Nat) (i : Int), c ≠ 22 → c ≠ 23 → κ' c i = κ c i) : MB κ' τ d P := by
  obtain ⟨m1, m5, m7, m17, m17n, mlog, m15, msp, mP, mPr⟩ := h
  refine ⟨fun c i hc => ?_, fun z => ?_, fun z => ?_, m17, fun s hs => ?_, fun c i hc => ?_, fun s => ?_, fun e he0 he1 => ?_, mP, mPr⟩
  · rw [hk c i (mr_ne hc).2.2.2.2.2.2.2.1 (mr_ne hc).2.2.2.2.2.2.2.2]
    exact m1 c i hc
  · rw [hk 5 z (by decide) (by decide)]
    exact m5 z
  · rw [hk 7 z (by decide) (by decide)]
    exact m7 z
  · rw [hk 17 s (by decide) (by decide)]
    exact m17n s hs
  · rw [mlog c i hc]
    exact c_logs_congr _ (fun c i hc => (hk c i (by omega) (by omega)).symm) c i hc
  · refine ⟨?_, UZ.tr s (fun _ => rfl) (fun _ => rfl) (m15 s).2 (fun _ _ => hk 15 s (by decide) (by decide)) (fun _ _ => rfl)⟩
    rw [hk 15 s (by decide) (by decide)]
    exact (m15 s).1
  · obtain ⟨s1, s2⟩ := msp e he0 he1
    refine ⟨fun h5 => ?_, fun z hz => ⟨fun h => ?_, fun h => ?_⟩⟩
    · rw [hk 43 _ (by decide) (by decide)]
      exact s1 h5
    · rw [hk 42 _ (by decide) (by decide)]
      exact (s2 z hz).1 h
    · rw [hk 15 _ (by decide) (by decide)]
      exact (s2 z hz).2 h
theorem MB.nil {κ : aS} {τ : bS} {d : Int} (e : Int) (h : MB κ τ d []) : MB κ τ e [] := h
def PO (τ : bS) (l P : List Int) : Prop := (∀ x, x ∈ P ↔ x ∈ l ∧ wt τ x = false) ∧ P.filter (ps τ) = l.filter (ps τ)
theorem l_erase_filter (P : List Int) (x : Int) (p : Int → Bool) (hn : P.Nodup) : (P.erase x).filter p = (P.filter p).erase x := by
  have hn2 : (P.filter p).Nodup := hn.filter p
  rw [List.Nodup.erase_eq_filter hn, List.Nodup.erase_eq_filter hn2, List.filter_filter, List.filter_filter]
  refine List.filter_congr (fun z _ => ?_)
  exact Bool.and_comm _ _
theorem wt_ps {τ : bS} {x : Int} (h : wt τ x = true) : ps τ x = false := by
  unfold wt at h
  unfold ps
  have h2 : τ.1 14 (b_s τ x) = 1 := by simpa using h
  rw [h2]
  decide
theorem sw_sim {τ : bS} {d : Int} : ∀ (l K : List Int) (i : Int) (κ : aS) (P : List Int), MB κ τ d P → PO τ l P → (K ++ l).Nodup → (∀ x ∈ l, OKt τ x) → (K.length : Int) ≤ i → i + (l.length : Int) ≤ 16 → (∀ (j : Nat) (x : Int), K[j]? = some x → κ 22 (16 * d + j) = b_s τ x) → (∀ (j : Nat) (x : Int), l[j]? = some x → κ 22 (16 * d + (i + j)) = b_s τ x) → MB (c_sw d (τ.1 2 0) l.length i K.length κ) τ d [] ∧ (c_sw d (τ.1 2 0) l.length i K.length κ) 23 d = ((K ++ l.filter (wt τ)).length : Nat) ∧ (∀ (j : Nat) (x : Int), (K ++ l.filter (wt τ))[j]? = some x → (c_sw d (τ.1 2 0) l.length i K.length κ) 22 (16 * d + j) = b_s τ x) ∧ (∀ q, q < 16 * d ∨ 16 * d + 16 ≤ q → (c_sw d (τ.1 2 0) l.length i K.length κ) 22 q = κ 22 q) ∧ ∀ e, e ≠ d → (c_sw d (τ.1 2 0) l.length i K.length κ) 23 e = κ 23 e := by
  intro l
  induction l with
  | nil =>
    intro K i κ P hB hP hn hO hi hl hK hl2
    have hP0 : P = [] := List.eq_nil_iff_forall_not_mem.mpr (fun x hx => by
      have := (hP.1 x).mp hx
      simp at this)
    subst hP0
    simp only [List.length_nil, c_sw, List.filter_nil, List.append_nil]
    refine ⟨hB.ln (fun c i _ h => pu_up_ne _ _ _ _ h), pu_up_at _ _ _ _, fun j x hx => ?_, fun q _ => pu_up_ne _ _ _ _ (by decide), fun e he => ?_⟩
    · rw [pu_up_ne _ _ _ _ (by decide)]
      exact hK j x hx
    · rw [pu_up_c, if_neg he]
  | cons x l ih =>
    intro K i κ P hB hP hn hO hi hl hK hl2
    have hx22 : κ 22 (16 * d + i) = b_s τ x := by
      have := hl2 0 x rfl
      rw [← this]
      congr 1
      omega
    have h14 : κ 14 (κ 22 (16 * d + i)) = τ.1 14 (b_s τ x) := by
      rw [hx22]
      exact hB.1 14 _ rfl
    have hxl : x ∉ l := by
      have := (List.nodup_append.mp hn).2.1
      exact (List.nodup_cons.mp this).1
    have hll : ((x :: l).length : Int) = (l.length : Int) + 1 := by simp
    simp only [List.length_cons, c_sw]
    by_cases hw : τ.1 14 (b_s τ x) = 1
    · have hwt : wt τ x = true := by unfold wt; simpa using hw
      rw [if_pos (by rw [h14]; exact hw)]
      have hk' : ∀ (c : Nat) (p : Int), c ≠ 22 → pu_up κ 22 (16 * d + (K.length : Int)) (κ 22 (16 * d + i)) c p = κ c p := fun c p hc => pu_up_ne _ _ _ _ hc
      have e1 : (K.length : Int) + 1 = ((K ++ [x]).length : Nat) := by simp
      have e2 : (x :: l).filter (wt τ) = x :: l.filter (wt τ) := by rw [List.filter_cons, if_pos hwt]
      have e3 : K ++ x :: l.filter (wt τ) = (K ++ [x]) ++ l.filter (wt τ) := by simp
      have e4 : K ++ x :: l = (K ++ [x]) ++ l := by simp
      rw [e2, e3, e1]
      have g := ih (K ++ [x]) (i + 1) (pu_up κ 22 (16 * d + (K.length : Int)) (κ 22 (16 * d + i))) P (hB.ln (fun c p h1 _ => hk' c p h1)) ⟨fun z => ?_, ?_⟩ (by rw [← e4]; exact hn) (fun z hz => hO z (List.mem_cons_of_mem _ hz)) (by rw [← e1]; omega) (by rw [hll] at hl; omega) (fun j z hz => ?_) (fun j z hz => ?_)
      · obtain ⟨g1, g2, g3, g4, g5⟩ := g
        refine ⟨g1, g2, g3, fun q hq => ?_, fun e he => ?_⟩
        · rw [g4 q hq, pu_up_c, if_neg (by rw [hll] at hl; omega)]
        · rw [g5 e he, hk' 23 e (by decide)]
      · rw [hP.1 z]
        constructor
        · rintro ⟨h1, h2⟩
          rcases List.mem_cons.mp h1 with h1 | h1
          · rw [h1, hwt] at h2
            cases h2
          · exact ⟨h1, h2⟩
        · rintro ⟨h1, h2⟩
          exact ⟨List.mem_cons_of_mem _ h1, h2⟩
      · rw [hP.2, List.filter_cons, if_neg (by rw [wt_ps hwt]; decide)]
      · rw [pu_up_c]
        by_cases hj : j < K.length
        · rw [List.getElem?_append_left hj] at hz
          rw [if_neg (by omega)]
          exact hK j z hz
        · rw [List.getElem?_append_right (by omega)] at hz
          have hz1 : j - K.length < 1 := (List.getElem?_eq_some_iff.mp hz).1
          rw [show j - K.length = 0 by omega] at hz
          cases hz
          rw [if_pos (by omega)]
          exact hx22
      · rw [pu_up_c, if_neg (by omega)]
        have := hl2 (j + 1) z (by simpa using hz)
        rw [← this]
        congr 1
        omega
    · have hwt : wt τ x = false := by unfold wt; simpa using hw
      rw [if_neg (by rw [h14]; exact hw), hx22]
      have hxP : x ∈ P := (hP.1 x).mpr ⟨List.mem_cons_self, hwt⟩
      have hnP := hB.2.2.2.2.2.2.2.2.1
      have e2 : (x :: l).filter (wt τ) = l.filter (wt τ) := by rw [List.filter_cons, if_neg (by rw [hwt]; decide)]
      have hxf : (x :: l).filter (ps τ) = (if ps τ x = true then [x] else []) ++ l.filter (ps τ) := by
        rw [List.filter_cons]
        by_cases hp : ps τ x = true
        · rw [if_pos hp, if_pos hp]
          rfl
        · rw [if_neg hp, if_neg hp]
          rfl
      have hef : (P.erase x).filter (ps τ) = l.filter (ps τ) := by
        rw [l_erase_filter _ _ _ hnP, hP.2, hxf]
        by_cases hp : ps τ x = true
        · rw [if_pos hp]
          simp
        · rw [if_neg hp, List.nil_append]
          exact List.erase_of_not_mem (fun z => hxl (List.mem_filter.mp z).1)
      have hB2 := hB.fin hxP (by rw [hef, hP.2, hxf])
      rw [e2]
      have g := ih K (i + 1) (c_fin κ d (b_s τ x) (τ.1 2 0)) (P.erase x) hB2 ⟨fun z => ?_, hef⟩ ?_ (fun z hz => hO z (List.mem_cons_of_mem _ hz)) (by omega) (by rw [hll] at hl; omega) (fun j z hz => by rw [c_fin_c _ _ _ _ _ _ (by decide)]; exact hK j z hz) (fun j z hz => ?_)
      · obtain ⟨g1, g2, g3, g4, g5⟩ := g
        refine ⟨g1, g2, g3, fun q hq => ?_, fun e he => ?_⟩
        · rw [g4 q hq, c_fin_c _ _ _ _ _ _ (by decide)]
        · rw [g5 e he, c_fin_c _ _ _ _ _ _ (by decide)]
      · by_cases ez : z = x
        · subst ez
          exact ⟨fun q => absurd q (List.Nodup.not_mem_erase hnP), fun q => absurd q.1 hxl⟩
        · rw [List.mem_erase_of_ne ez, hP.1 z]
          constructor
          · rintro ⟨h1, h2⟩
            rcases List.mem_cons.mp h1 with h1 | h1
            · exact absurd h1 ez
            · exact ⟨h1, h2⟩
          · rintro ⟨h1, h2⟩
            exact ⟨List.mem_cons_of_mem _ h1, h2⟩
      · exact hn.sublist (List.Sublist.append_left (List.sublist_cons_self x l) K)
      · rw [c_fin_c _ _ _ _ _ _ (by decide)]
        have := hl2 (j + 1) z (by simpa using hz)
        rw [← this]
        congr 1
        omega
/-- between two acts: the kit shows what the reference has -/
def CR (κ : aS) (τ : bS) : Prop := MB κ τ 0 [] ∧ ML κ τ τ.2
theorem sweep_sim {κ : aS} {τ : bS} {d : Int} {Λ : Int → List Int} {P : List Int} (hB : MB κ τ d P) (hL : ML κ τ Λ) (hd0 : 0 ≤ d) (hd1 : d < 12) (hP : PO τ (Λ d) P) (ho : ∀ e, 0 ≤ e → e < 12 → e ≠ d → Λ e = τ.2 e) : CR (c_sweep κ d (τ.1 2 0)) τ := by
  obtain ⟨l1, l2, l3, l4, l5⟩ := hL d hd0 hd1
  have l16 : (Λ d).length ≤ 16 := l_len 16 _ l4 (fun x hx => by
    have := l5 x hx
    unfold OKt at this
    omega)
  unfold c_sweep
  rw [l1, Int.toNat_natCast]
  obtain ⟨g1, g2, g3, g4, g5⟩ := sw_sim (τ := τ) (d := d) (Λ d) [] 0 κ P hB hP l4 l5 (by simp) (by omega) (fun j x hx => by simp at hx) (fun j x hx => by rw [Int.zero_add]; exact l2 j x hx)
  simp only [List.length_nil, List.nil_append, Int.natCast_zero] at g1 g2 g3 g4 g5
  refine ⟨g1, fun e he0 he1 => ?_⟩
  by_cases ee : e = d
  · subst ee
    refine ⟨by rw [l3]; exact g2, fun j x hx => g3 j x (by rw [← l3]; exact hx), ?_, by rw [l3]; exact l4.filter _, fun x hx => l5 x (by rw [l3] at hx; exact (List.mem_filter.mp hx).1)⟩
    rw [l3, List.filter_filter]
    simp
  · obtain ⟨k1, k2, k3, k4, k5⟩ := hL e he0 he1
    rw [ho e he0 he1 ee] at k1 k2 k3 k4 k5
    refine ⟨by rw [g5 e ee]; exact k1, fun j x hx => ?_, k3, k4, k5⟩
    rw [g4 _ ?_]
    · exact k2 j x hx
    · have hj := (List.getElem?_eq_some_iff.mp hx).1
      have := l_len 16 _ k4 (fun x hx => by
        have := k5 x hx
        unfold OKt at this
        omega)
      omega
theorem PO.out {τ : bS} {l1 l2 P : List Int} {x o v : Int} (h : PO τ (l1 ++ x :: l2) P) (hO : ∀ z ∈ l1 ++ x :: l2, OKt τ z) (hn : (l1 ++ x :: l2).Nodup) (hw : wt τ x = true) (ho : o ≠ 1) (hl : o = 0 → ∀ z ∈ l2, ps τ z = false) : PO (b_out τ x o v) (l1 ++ x :: l2) (P ++ [x]) := by
  have xl : x ∈ l1 ++ x :: l2 := by simp
  have xO := hO x xl
  have eS := b_out_s τ x o v
  have n1 : x ∉ l1 ∧ x ∉ l2 := by
    have := List.nodup_append.mp hn
    refine ⟨fun z => ?_, (List.nodup_cons.mp this.2.1).1⟩
    exact this.2.2 x z x List.mem_cons_self rfl
  have xP : x ∉ P := fun z => by
    have := ((h.1 x).mp z).2
    rw [hw] at this
    cases this
  have ew : ∀ z, z ∈ l1 ++ x :: l2 → z ≠ x → wt (b_out τ x o v) z = wt τ z := fun z hz e1 => by
    unfold wt
    rw [eS, b_out_14, if_neg (fun e2 => e1 (bs_inj (hO z hz) xO e2))]
  have ep : ∀ z, z ∈ l1 ++ x :: l2 → z ≠ x → ps (b_out τ x o v) z = ps τ z := fun z hz e1 => by
    unfold ps
    rw [eS, b_out_14, if_neg (fun e2 => e1 (bs_inj (hO z hz) xO e2))]
  have wx : wt (b_out τ x o v) x = false := by
    unfold wt
    rw [eS, b_out_14, if_pos rfl]
    simpa using ho
  have px : ps (b_out τ x o v) x = decide (o = 0) := by
    unfold ps
    rw [eS, b_out_14, if_pos rfl]
  refine ⟨fun z => ?_, ?_⟩
  · by_cases ez : z = x
    · subst ez
      exact ⟨fun _ => ⟨xl, wx⟩, fun _ => by simp⟩
    · constructor
      · intro hz
        have hz2 : z ∈ P := by
          rcases List.mem_append.mp hz with hz | hz
          · exact hz
          · exact absurd (List.mem_singleton.mp hz) ez
        obtain ⟨k1, k2⟩ := (h.1 z).mp hz2
        exact ⟨k1, by rw [ew z k1 ez]; exact k2⟩
      · rintro ⟨k1, k2⟩
        rw [ew z k1 ez] at k2
        exact List.mem_append_left _ ((h.1 z).mpr ⟨k1, k2⟩)
  · have f1 : P.filter (ps (b_out τ x o v)) = P.filter (ps τ) := List.filter_congr (fun z hz => ep z ((h.1 z).mp hz).1 (fun e => xP (e ▸ hz)))
    have f2 : l1.filter (ps (b_out τ x o v)) = l1.filter (ps τ) := List.filter_congr (fun z hz => ep z (List.mem_append_left _ hz) (fun e => n1.1 (e ▸ hz)))
    have f3 : l2.filter (ps (b_out τ x o v)) = l2.filter (ps τ) := List.filter_congr (fun z hz => ep z (List.mem_append_right _ (List.mem_cons_of_mem _ hz)) (fun e => n1.2 (e ▸ hz)))
    have f4 := h.2
    rw [List.filter_append, List.filter_cons, if_neg (by rw [wt_ps hw]; decide)] at f4
    rw [List.filter_append, f1, f4, List.filter_append, f2, List.filter_cons, List.filter_cons, px, f3]
    by_cases e0 : o = 0
    · have f5 : l2.filter (ps τ) = [] := List.filter_eq_nil_iff.mpr (fun z hz => by rw [hl e0 z hz]; decide)
      rw [f5]
      simp [e0]
    · simp [e0]
