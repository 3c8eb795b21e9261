theorem wt_out {τ : bS} {x z o v : Int} (hx : OKt τ x) (hz : OKt τ z) (e : z ≠ x) : wt (b_out τ x o v) z = wt τ z := by
  unfold wt
  rw [b_out_s, b_out_14, if_neg (fun e2 => e (bs_inj hz hx e2))]
theorem ps_out {τ : bS} {x z o v : Int} (hx : OKt τ x) (hz : OKt τ z) (e : z ≠ x) : ps (b_out τ x o v) z = ps τ z := by
  unfold ps
  rw [b_out_s, b_out_14, if_neg (fun e2 => e (bs_inj hz hx e2))]
theorem wt_self {τ : bS} {x o v : Int} (ho : o ≠ 1) : wt (b_out τ x o v) x = false := by
  unfold wt
  rw [b_out_s, b_out_14, if_pos rfl]
  simpa using ho
theorem WI.out {τ : bS} (h : WI τ) {d x : Int} (hd0 : 0 ≤ d) (hd1 : d < 12) (hx : x ∈ τ.2 d) (o v : Int) : WI (b_out τ x o v) := by
  have hl : LV τ x := LV.of hd0 hd1 ((h.2.2.1 d hd0 hd1).2 x hx).2.2.1 hx
  unfold b_out
  split
  · exact (h.leaves hl).passes x v
  · exact (h.leaves hl).ends x o 0
/-- all at once: pre is who acts -/
def Mq (κ : aS) (τ : bS) (d : Int) (Λ : Int → List Int) (pre P : List Int) : Prop := MB κ τ d (pre ++ P) ∧ ML κ τ Λ ∧ PO τ (Λ d) P ∧ WI τ ∧ ∀ e, 0 ≤ e → e < 12 → e ≠ d → Λ e = τ.2 e
theorem Mq.mem {κ : aS} {τ : bS} {d : Int} {Λ : Int → List Int} {pre P : List Int} (h : Mq κ τ d Λ pre P) (hd0 : 0 ≤ d) (hd1 : d < 12) {x : Int} (hx : x ∈ Λ d) (hw : wt τ x = true) : x ∈ τ.2 d := by
  rw [(h.2.1 d hd0 hd1).2.2.1]
  exact List.mem_filter.mpr ⟨hx, hw⟩
theorem Mq.out {κ κ' : aS} {τ : bS} {d : Int} {Λ : Int → List Int} {pre P : List Int} (h : Mq κ τ d Λ pre P) (hd0 : 0 ≤ d) (hd1 : d < 12) {l1 l2 : List Int} {x : Int} (hl : Λ d = l1 ++ x :: l2) (hw : wt τ x = true) {o w : Int} (ho : o ≠ 1) (hp : o = 0 → ∀ z ∈ l2, ps τ z = false) (hk : ∀ (c : Nat) (i : Int), c ≠ 14 → c ≠ 15 → κ' c i = κ c i) (hk14 : ∀ i, κ' 14 i = if i = b_s τ x then o else κ 14 i) (hk15 : ∀ i, κ' 15 i = if i = b_s τ x then w else κ 15 i) : Mq κ' (b_out τ x o w) d Λ pre (P ++ [x]) := by
  have hx : x ∈ τ.2 d := h.mem hd0 hd1 (by rw [hl]; simp) hw
  obtain ⟨hB, hL, hP, hI, he⟩ := h
  obtain ⟨a1, a2, a3, a4, a5⟩ := hL d hd0 hd1
  obtain ⟨g1, g2⟩ := hB.out hI hd0 hd1 hx hk hk14 hk15
  rw [List.append_assoc] at g1
  rw [hl] at hP a4 a5
  refine ⟨g1, hL.out hI hd0 hd1 hx ho hk, ?_, hI.out hd0 hd1 hx o w, fun e e0 e1 ne => ?_⟩
  · rw [hl]
    exact hP.out a5 a4 hw ho hp
  · rw [he e e0 e1 ne, b_out_2, if_neg]
    rw [((hI.2.2.1 d hd0 hd1).2 x hx).2.2.1]
    exact ne
theorem Mq.at {κ : aS} {τ : bS} {d : Int} {Λ : Int → List Int} {pre P : List Int} (h : Mq κ τ d Λ pre P) (hd0 : 0 ≤ d) (hd1 : d < 12) {l1 l2 : List Int} {x : Int} (hl : Λ d = l1 ++ x :: l2) : κ 22 (16 * d + (l1.length : Int)) = b_s τ x ∧ κ 14 (κ 22 (16 * d + (l1.length : Int))) = τ.1 14 (b_s τ x) := by
  have h1 := (h.2.1 d hd0 hd1).2.1 l1.length x (by rw [hl]; simp)
  refine ⟨h1, ?_⟩
  rw [h1]
  exact h.1.1 14 _ rfl
theorem b_out_o {τ : bS} {x o : Int} (ho : o ≠ 0) (v v' : Int) : b_out τ x o v = b_out τ x o v' := by
  unfold b_out
  rw [if_neg ho, if_neg ho]
theorem Mq.ok {κ : aS} {τ : bS} {d : Int} {Λ : Int → List Int} {pre P : List Int} (h : Mq κ τ d Λ pre P) (hd0 : 0 ≤ d) (hd1 : d < 12) {x : Int} (hx : x ∈ Λ d) : OKt τ x := (h.2.1 d hd0 hd1).2.2.2.2 x hx
theorem Mq.nd {κ : aS} {τ : bS} {d : Int} {Λ : Int → List Int} {pre P : List Int} (h : Mq κ τ d Λ pre P) (hd0 : 0 ≤ d) (hd1 : d < 12) {l1 l2 : List Int} {x : Int} (hl : Λ d = l1 ++ x :: l2) : x ∉ l1 ∧ x ∉ l2 := by
  have := (h.2.1 d hd0 hd1).2.2.2.1
  rw [hl] at this
  have := List.nodup_append.mp this
  refine ⟨fun z => ?_, (List.nodup_cons.mp this.2.1).1⟩
  exact this.2.2 x z x List.mem_cons_self rfl
/-- the line as the reference has it, at x -/
theorem Mq.split {κ : aS} {τ : bS} {d : Int} {Λ : Int → List Int} {pre P : List Int} (h : Mq κ τ d Λ pre P) (hd0 : 0 ≤ d) (hd1 : d < 12) {l1 l2 : List Int} {x : Int} (hl : Λ d = l1 ++ x :: l2) (hw : wt τ x = true) : τ.2 d = l1.filter (wt τ) ++ x :: l2.filter (wt τ) := by
  rw [(h.2.1 d hd0 hd1).2.2.1, hl, List.filter_append, List.filter_cons, if_pos hw]
/-- all that wait at d are let go, in order -/
theorem all_sim {d o : Int} {Λ : Int → List Int} {pre : List Int} (hd0 : 0 ≤ d) (hd1 : d < 12) (ho : o ≠ 1) {f : aS → Int → aS} {F : bS → Int → Int} {W : aS → Int → Int} (hf : ∀ (κ : aS) (s : Int) (c : Nat) (i : Int), c ≠ 14 → c ≠ 15 → f κ s c i = κ c i) (hf14 : ∀ (κ : aS) (s i : Int), f κ s 14 i = if i = s then o else κ 14 i) (hf15 : ∀ (κ : aS) (s i : Int), f κ s 15 i = if i = s then W κ s else κ 15 i) (Q : bS → Prop) (hQs : ∀ (τ : bS) (x v : Int), Q τ → Q (b_out τ x o v)) (hQ : ∀ (κ : aS) (τ : bS) (P : List Int) (x : Int), Q τ → Mq κ τ d Λ pre P → x ∈ τ.2 d → o = 0 → W κ (b_s τ x) = F τ x) : ∀ (l2 l1 : List Int) (κ : aS) (τ : bS) (P : List Int), Λ d = l1 ++ l2 → Q τ → Mq κ τ d Λ pre P → (∀ z ∈ l1, wt τ z = false) → (∀ z ∈ l2, ps τ z = false) → ∃ P', Mq (c_lp d (fun κ s => some (f κ s)) l2.length l1.length κ) ((τ.2 d).foldl (fun τ u => b_out τ u o (F τ u)) τ) d Λ pre P' := by
  intro l2
  induction l2 with
  | nil =>
    intro l1 κ τ P hl hq h h1 h2
    refine ⟨P, ?_⟩
    have e : τ.2 d = [] := by
      rw [(h.2.1 d hd0 hd1).2.2.1, hl, List.append_nil]
      exact List.filter_eq_nil_iff.mpr (fun z hz => by rw [h1 z hz]; decide)
    rw [e]
    exact h
  | cons x l2 ih =>
    intro l1 κ τ P hl hq h h1 h2
    obtain ⟨g1, g2⟩ := h.at hd0 hd1 hl
    have xO : OKt τ x := h.ok hd0 hd1 (by rw [hl]; simp)
    have hnd := h.nd hd0 hd1 hl
    have hl' : Λ d = (l1 ++ [x]) ++ l2 := by rw [hl]; simp
    have ec : (l1.length : Int) + 1 = ((l1 ++ [x]).length : Nat) := by simp
    rw [List.length_cons]
    by_cases hw : τ.1 14 (b_s τ x) = 1
    · have hwt : wt τ x = true := by unfold wt; simpa using hw
      have hx := h.mem hd0 hd1 (by rw [hl]; simp) hwt
      rw [c_lp_s (by rw [g2]; exact hw) rfl, g1, ec]
      have eF : b_out τ x o (F τ x) = b_out τ x o (W κ (b_s τ x)) := by
        by_cases h0 : o = 0
        · rw [hQ κ τ P x hq h hx h0]
        · exact b_out_o h0 _ _
      have g := h.out (κ' := f κ (b_s τ x)) (w := W κ (b_s τ x)) hd0 hd1 hl hwt ho (fun _ z hz => h2 z (List.mem_cons_of_mem _ hz)) (hf κ _) (hf14 κ _) (hf15 κ _)
      rw [← eF] at g
      have gg := ih (l1 ++ [x]) _ _ _ hl' (hQs _ _ _ hq) g (fun z hz => ?_) (fun z hz => ?_)
      · obtain ⟨P', g'⟩ := gg
        refine ⟨P', ?_⟩
        have e2 : τ.2 d = x :: l2.filter (wt τ) := by
          rw [h.split hd0 hd1 hl hwt, List.filter_eq_nil_iff.mpr (fun z hz => by rw [h1 z hz]; decide)]
          rfl
        have e3 : (b_out τ x o (F τ x)).2 d = l2.filter (wt τ) := by
          rw [b_out_2, ((h.2.2.2.1.2.2.1 d hd0 hd1).2 x hx).2.2.1, if_pos rfl, e2, List.erase_cons_head]
        rw [e2, List.foldl_cons, ← e3]
        exact g'
      · rcases List.mem_append.mp hz with hz | hz
        · rw [wt_out xO (h.ok hd0 hd1 (by rw [hl]; exact List.mem_append_left _ hz)) (fun e => hnd.1 (e ▸ hz))]
          exact h1 z hz
        · rw [List.mem_singleton.mp hz]
          exact wt_self ho
      · rw [ps_out xO (h.ok hd0 hd1 (by rw [hl]; exact List.mem_append_right _ (List.mem_cons_of_mem _ hz))) (fun e => hnd.2 (e ▸ hz))]
        exact h2 z (List.mem_cons_of_mem _ hz)
    · have hwt : wt τ x = false := by unfold wt; simpa using hw
      rw [c_lp_n (by rw [g2]; exact hw), ec]
      refine ih (l1 ++ [x]) _ _ _ hl' hq h (fun z hz => ?_) (fun z hz => h2 z (List.mem_cons_of_mem _ hz))
      rcases List.mem_append.mp hz with hz | hz
      · exact h1 z hz
      · rw [List.mem_singleton.mp hz]
        exact hwt
/-- those that may go are let go, in order. Q: what is known when the first of the line are through -/
theorem lets_sim {d : Int} {Λ : Int → List Int} {pre : List Int} (hd0 : 0 ≤ d) (hd1 : d < 12) {f : aS → Int → Option aS} (Q : aS → bS → List Int → Prop)
    (hskip : ∀ (κ : aS) (τ : bS) (P l1 l2 : List Int) (x : Int), Λ d = l1 ++ x :: l2 → Mq κ τ d Λ pre P → Q κ τ l1 → wt τ x = false → Q κ τ (l1 ++ [x]))
    (hstep : ∀ (κ : aS) (τ : bS) (P l1 l2 : List Int) (x : Int), Λ d = l1 ++ x :: l2 → Mq κ τ d Λ pre P → Q κ τ l1 → wt τ x = true → (f κ (b_s τ x) = none ∧ b_letsOne τ d = none) ∨ (f κ (b_s τ x) = some κ ∧ Q κ τ (l1 ++ [x])) ∨ ∃ (κ1 κ' : aS) (τ1 : bS) (v : Int), f κ (b_s τ x) = some κ' ∧ b_letsOne τ d = some (b_out τ1 x 0 v) ∧ Mq κ1 τ1 d Λ pre P ∧ (∀ i, τ1.1 4 i = τ.1 4 i) ∧ (∀ i, τ1.1 14 i = τ.1 14 i) ∧ (∀ (c : Nat) (i : Int), c ≠ 14 → c ≠ 15 → κ' c i = κ1 c i) ∧ (∀ i, κ' 14 i = if i = b_s τ x then 0 else κ1 14 i) ∧ (∀ i, κ' 15 i = if i = b_s τ x then v else κ1 15 i) ∧ Q κ' (b_out τ1 x 0 v) (l1 ++ [x]))
    (hend : ∀ (κ : aS) (τ : bS) (P : List Int), Mq κ τ d Λ pre P → Q κ τ (Λ d) → b_letsOne τ d = none) : ∀ (l2 l1 : List Int) (κ : aS) (τ : bS) (P : List Int) (k : Nat), Λ d = l1 ++ l2 → Mq κ τ d Λ pre P → Q κ τ l1 → (∀ z ∈ l2, ps τ z = false) → l2.length + 1 ≤ k → ∃ P' l', Mq (c_lp d f l2.length l1.length κ) (b_letsGo τ d k) d Λ pre P' ∧ Q (c_lp d f l2.length l1.length κ) (b_letsGo τ d k) l' ∧ b_letsOne (b_letsGo τ d k) d = none := by
  intro l2
  induction l2 with
  | nil =>
    intro l1 κ τ P k hl h hq h2 hk
    rw [List.append_nil] at hl
    obtain ⟨k, rfl⟩ : ∃ m, k = m + 1 := ⟨k - 1, by simp at hk; omega⟩
    refine ⟨P, l1, ?_⟩
    have hz := hend κ τ P h (by rw [hl]; exact hq)
    rw [b_letsGo, hz]
    exact ⟨h, hq, hz⟩
  | cons x l2 ih =>
    intro l1 κ τ P k hl h hq h2 hk
    obtain ⟨g1, g2⟩ := h.at hd0 hd1 hl
    have xO : OKt τ x := h.ok hd0 hd1 (by rw [hl]; simp)
    have hnd := h.nd hd0 hd1 hl
    have hl' : Λ d = (l1 ++ [x]) ++ l2 := by rw [hl]; simp
    have ec : (l1.length : Int) + 1 = ((l1 ++ [x]).length : Nat) := by simp
    have h2' : ∀ z ∈ l2, ps τ z = false := fun z hz => h2 z (List.mem_cons_of_mem _ hz)
    have hk' : l2.length + 2 ≤ k := by simpa using hk
    rw [List.length_cons]
    by_cases hw : τ.1 14 (b_s τ x) = 1
    · have hwt : wt τ x = true := by unfold wt; simpa using hw
      rcases hstep κ τ P l1 l2 x hl h hq hwt with ⟨s1, s2⟩ | ⟨s1, s2⟩ | ⟨κ1, κ', τ1, v, s1, s2, s3, s4, s14, s5, s6, s7, s8⟩
      · obtain ⟨k, rfl⟩ : ∃ m, k = m + 1 := ⟨k - 1, by omega⟩
        refine ⟨P, l1, ?_⟩
        rw [c_lp_z (by rw [g2]; exact hw) (by rw [g1]; exact s1), b_letsGo, s2]
        exact ⟨h, hq, s2⟩
      · rw [c_lp_s (by rw [g2]; exact hw) (by rw [g1]; exact s1), ec]
        exact ih (l1 ++ [x]) κ τ P k hl' h s2 h2' (by omega)
      · obtain ⟨k, rfl⟩ : ∃ m, k = m + 1 := ⟨k - 1, by omega⟩
        have ebs : ∀ z, b_s τ1 z = b_s τ z := fun z => by unfold b_s; rw [s4]
        have ewt : ∀ z, wt τ1 z = wt τ z := fun z => by unfold wt; rw [ebs, s14]
        have eps : ∀ z, ps τ1 z = ps τ z := fun z => by unfold ps; rw [ebs, s14]
        have eO : ∀ z, OKt τ z → OKt τ1 z := fun z hz => by
          unfold OKt at hz ⊢
          rw [s4]
          exact hz
        rw [c_lp_s (by rw [g2]; exact hw) (by rw [g1]; exact s1), ec, b_letsGo, s2]
        refine ih (l1 ++ [x]) κ' (b_out τ1 x 0 v) (P ++ [x]) k hl' (s3.out hd0 hd1 hl (by rw [ewt]; exact hwt) (by decide) (fun _ z hz => by rw [eps]; exact h2' z hz) s5 (by rw [ebs]; exact s6) (by rw [ebs]; exact s7)) s8 (fun z hz => ?_) (by omega)
        rw [ps_out (eO x xO) (eO z (h.ok hd0 hd1 (by rw [hl]; exact List.mem_append_right _ (List.mem_cons_of_mem _ hz)))) (fun e => hnd.2 (e ▸ hz)), eps]
        exact h2' z hz
    · have hwt : wt τ x = false := by unfold wt; simpa using hw
      rw [c_lp_n (by rw [g2]; exact hw), ec]
      exact ih (l1 ++ [x]) κ τ P k hl' h (hskip κ τ P l1 l2 x hl h hq hwt) h2' (by omega)
/-- a device's own entries are changed on both sides -/
def dv_c (c : Nat) : Bool := c == 20 || c == 24 || c == 25 || c == 26 || c == 27 || c == 30 || c == 31 || c == 32
theorem Mq.ups {κ κ' : aS} {τ τ' : bS} {d : Int} {Λ : Int → List Int} {pre P : List Int} (h : Mq κ τ d Λ pre P) (eK : ∀ (c : Nat) (i : Int), dv_c c = false → κ' c i = κ c i) (eC : ∀ (c : Nat) (i : Int), dv_c c = false → τ'.1 c i = τ.1 c i) (hd : ∀ (c : Nat) (i : Int), dv_c c = true → κ' c i = τ'.1 c i) (h2 : τ'.2 = τ.2) (hI : WI τ') : Mq κ' τ' d Λ pre P := by
  obtain ⟨⟨m1, m5, m7, m17, m17n, mlog, m15, msp, mP, mPr⟩, hL, hP, _, he⟩ := h
  have ebs : ∀ z, b_s τ' z = b_s τ z := fun z => by unfold b_s; rw [eC 4 z rfl]
  have ewf : wt τ' = wt τ := funext fun z => by unfold wt; rw [ebs, eC 14 _ rfl]
  have eps : ps τ' = ps τ := funext fun z => by unfold ps; rw [ebs, eC 14 _ rfl]
  have eO : ∀ z, OKt τ' z = OKt τ z := fun z => by unfold OKt; rw [eC 4 z rfl]
  refine ⟨⟨fun c' j hc' => ?_, fun z => ?_, fun z => ?_, fun z hz => ?_, fun s hs => ?_, fun c' j hc' => ?_, fun s => ?_, fun e he0 he1 => ?_, mP, fun z hz => ?_⟩, fun e he0 he1 => ?_, ?_, hI, fun e e0 e1 ne => by rw [h2]; exact he e e0 e1 ne⟩
  · cases hc : dv_c c'
    · rw [eK c' j hc, eC c' j hc]
      exact m1 c' j hc'
    · exact hd c' j hc
  · rw [eC 5 z rfl, eK 5 z rfl]
    exact m5 z
  · rw [eC 7 z rfl, eK 7 z rfl, eC 2 0 rfl]
    exact m7 z
  · rw [ebs, eC 17 _ rfl, eC 2 0 rfl]
    exact m17 z hz
  · rw [eC 17 _ rfl, eK 17 _ rfl]
    exact m17n s (fun z hz => by have := hs z hz; rw [ebs] at this; exact this)
  · have hdc : ∀ c2 : Nat, c2 = 33 ∨ c2 = 34 → dv_c c2 = false := fun c2 h2 => by rcases h2 with h2 | h2 <;> (subst h2; rfl)
    rw [eC c' j (hdc c' hc'), eps, mlog c' j hc']
    exact c_logs_congr _ (fun c2 j2 h2 => (eK c2 j2 (hdc c2 h2)).symm) c' j hc'
  · refine ⟨?_, UZ.tr s (fun i => eC 4 i rfl) (fun i => eC 3 i rfl) (m15 s).2 (fun _ _ => eK 15 s rfl) (fun _ _ => eC 14 s rfl)⟩
    rw [eC 15 s rfl, eC 14 s rfl, eK 15 s rfl]
    exact (m15 s).1
  · obtain ⟨s1, s2⟩ := msp e he0 he1
    unfold SP
    rw [h2, eC 18 e rfl]
    refine ⟨fun h5 => ?_, fun z hz => ⟨fun h => ?_, fun h => ?_⟩⟩
    · rw [eK 43 e rfl, s1 h5]
      exact (b_lookers_congr e (fun j => eC 29 j rfl)).symm
    · rw [eK 42 _ rfl, (s2 z hz).1 h, eC 9 z rfl]
      unfold b_num
      rw [eC 4 z rfl, eC 12 _ rfl]
    · rw [ebs, eK 15 _ rfl, (s2 z hz).2 h, eC 8 z rfl]
  · rw [eO]
    exact mPr z hz
  · obtain ⟨a1, a2, a3, a4, a5⟩ := hL e he0 he1
    refine ⟨by rw [eK 23 e rfl]; exact a1, fun j x hx => by rw [eK 22 _ rfl, ebs]; exact a2 j x hx, by rw [h2, ewf]; exact a3, a4, fun x hx => by rw [eO]; exact a5 x hx⟩
  · unfold PO
    rw [eps, ewf]
    exact hP
theorem Mq.up {κ : aS} {τ : bS} {d : Int} {Λ : Int → List Int} {pre P : List Int} (h : Mq κ τ d Λ pre P) {c : Nat} (i v : Int) (hc : c = 24 ∨ c = 25 ∨ c = 26 ∨ c = 27 ∨ c = 30 ∨ c = 31 ∨ c = 32 ∨ c = 20) (hI : WI (b_up τ c i v)) : Mq (pu_up κ c i v) (b_up τ c i v) d Λ pre P := by
  have hne : ∀ c' : Nat, dv_c c' = false → c' ≠ c := fun c' h' e => by
    subst e
    rcases hc with hc | hc | hc | hc | hc | hc | hc | hc <;> (subst hc; exact absurd h' (by decide))
  refine h.ups (fun c' j h' => pu_up_ne _ _ _ _ (hne c' h')) (fun c' j h' => b_up_c _ _ _ _ _ _ (hne c' h')) (fun c' j h' => ?_) rfl hI
  show pu_up κ c i v c' j = pu_up τ.1 c i v c' j
  have m : mr_c c' = true := by
    unfold dv_c at h'
    simp only [Bool.or_eq_true, beq_iff_eq] at h'
    rcases h' with ((((((h' | h') | h') | h') | h') | h') | h') | h' <;> (subst h'; rfl)
  unfold pu_up
  rw [h.1.1 c' j m]
