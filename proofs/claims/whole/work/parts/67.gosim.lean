theorem fp_sim {κ : aS} {τ : bS} {d a : Int} (m : ∀ (c : Nat) (i : Int), mr_c c = true → κ c i = τ.1 c i) : ∀ (l : List Int) (j : Int), (∀ (i : Nat) (x : Int), l[i]? = some x → κ 22 (16 * d + (j + i)) = b_s τ x) → (∀ x ∈ l, OKt τ x) → (c_fp κ d a l.length j = -1 ∧ ∀ z ∈ l, wt τ z = true → κ 42 (16 * d + z) ≠ a) ∨ ∃ m1 x m2, l = m1 ++ x :: m2 ∧ c_fp κ d a l.length j = j + (m1.length : Int) ∧ wt τ x = true ∧ κ 42 (16 * d + x) = a ∧ ∀ z ∈ m1, wt τ z = true → κ 42 (16 * d + z) ≠ a := by
  intro l
  induction l with
  | nil => intro j _ _; exact Or.inl ⟨rfl, by simp⟩
  | cons x l ih =>
    intro j h hO
    have h0 : κ 22 (16 * d + j) = b_s τ x := by
      have := h 0 x rfl
      rw [← this]
      congr 1
      omega
    have xd := bs_div (hO x List.mem_cons_self)
    rw [List.length_cons, c_fp, h0, m 14 _ rfl, xd]
    have ih' := ih (j + 1) (fun i z hz => by
      have := h (i + 1) z (by simpa using hz)
      rw [← this]
      congr 1
      omega) (fun z hz => hO z (List.mem_cons_of_mem _ hz))
    by_cases hc : τ.1 14 (b_s τ x) = 1 ∧ κ 42 (16 * d + x) = a
    · rw [if_pos hc]
      refine Or.inr ⟨[], x, l, rfl, by simp, by unfold wt; simpa using hc.1, hc.2, by simp⟩
    · rw [if_neg hc]
      have hx : wt τ x = true → κ 42 (16 * d + x) ≠ a := fun hw e => hc ⟨by unfold wt at hw; simpa using hw, e⟩
      rcases ih' with ⟨i1, i2⟩ | ⟨m1, z, m2, i1, i2, i3, i4, i5⟩
      · refine Or.inl ⟨i1, fun z hz => ?_⟩
        rcases List.mem_cons.mp hz with hz | hz
        · rw [hz]
          exact hx
        · exact i2 z hz
      · refine Or.inr ⟨x :: m1, z, m2, by rw [i1]; rfl, ?_, i3, i4, fun u hu => ?_⟩
        · rw [i2, List.length_cons]
          omega
        · rcases List.mem_cons.mp hu with hu | hu
          · rw [hu]
            exact hx
          · exact i5 u hu
theorem Mq.place {κ : aS} {τ : bS} {d : Int} {Λ : Int → List Int} {pre P : List Int} (h : Mq κ τ d Λ pre P) (hd0 : 0 ≤ d) (hd1 : d < 12) (a : Int) : (c_place κ d a = -1 ∧ ∀ z ∈ Λ d, wt τ z = true → κ 42 (16 * d + z) ≠ a) ∨ ∃ m1 x m2, Λ d = m1 ++ x :: m2 ∧ c_place κ d a = (m1.length : Int) ∧ wt τ x = true ∧ κ 42 (16 * d + x) = a ∧ ∀ z ∈ m1, wt τ z = true → κ 42 (16 * d + z) ≠ a := by
  obtain ⟨a1, a2, a3, a4, a5⟩ := h.2.1 d hd0 hd1
  unfold c_place
  rw [a1, Int.toNat_natCast]
  have g := fp_sim (d := d) (a := a) h.1.1 (Λ d) 0 (fun i x hx => by rw [Int.zero_add]; exact a2 i x hx) a5
  rcases g with g | ⟨m1, x, m2, g1, g2, g3⟩
  · exact Or.inl g
  · exact Or.inr ⟨m1, x, m2, g1, by rw [g2]; omega, g3⟩
theorem Mq.sp11 {κ : aS} {τ : bS} {d : Int} {Λ : Int → List Int} {pre P : List Int} (h : Mq κ τ d Λ pre P) (hd0 : 0 ≤ d) (hd1 : d < 12) (hk : τ.1 18 d = 11) {z : Int} (hz : z ∈ τ.2 d) : κ 42 (16 * d + z) = if τ.1 9 z = 1 then -1 else b_num τ z := ((h.1.2.2.2.2.2.2.2.1 d hd0 hd1).2 z hz).1 hk
theorem mo_sim {κ : aS} {τ : bS} {d : Int} {Λ : Int → List Int} {pre P : List Int} (hd0 : 0 ≤ d) (hd1 : d < 12) (hk : τ.1 18 d = 11) (h : Mq κ τ d Λ pre P) (hJ : JA τ) (hp : ∀ z ∈ Λ d, ps τ z = false) : ∃ P', Mq (c_mongo κ d) (b_letsGo τ d 17) d Λ pre P' ∧ JA (b_letsGo τ d 17) ∧ b_letsOne (b_letsGo τ d 17) d = none := by
  have hI := h.2.2.2.1
  have hj := hJ d hd0 hd1
  obtain ⟨k1, k2, k3⟩ := hj.2.2.2.2.2.2.2.2.1 hk
  have e26 : κ 26 d = τ.1 26 d := h.1.1 26 d rfl
  have plc : ∀ z ∈ τ.2 d, (κ 42 (16 * d + z) = -1 ↔ τ.1 9 z = 1) := fun z hz => by
    rw [h.sp11 hd0 hd1 hk hz]
    have := k3 z hz
    by_cases c : τ.1 9 z = 1
    · rw [if_pos c]
      exact ⟨fun _ => c, fun _ => rfl⟩
    · rw [if_neg c]
      constructor
      · intro e
        omega
      · intro e
        exact absurd e c
  have a3 := (h.2.1 d hd0 hd1).2.2.1
  unfold c_mongo
  rw [e26]
  have hno : b_letsOne τ d = none → ∃ P', Mq κ (b_letsGo τ d 17) d Λ pre P' ∧ JA (b_letsGo τ d 17) ∧ b_letsOne (b_letsGo τ d 17) d = none := fun hn => by
    rw [b_letsGo_no hn]
    exact ⟨P, h, hJ, hn⟩
  by_cases c1 : τ.1 26 d = -1
  · rw [if_pos c1]
    rcases h.place hd0 hd1 (-1) with ⟨g1, g2⟩ | ⟨m1, x, m2, g1, g2, g3, g4, g5⟩
    · rw [g1, if_pos (by decide)]
      refine hno ?_
      cases hl : τ.2 d with
      | nil => exact lets_nil hl
      | cons f l =>
        have hb : b_first τ d = -1 := by
          unfold b_first
          rw [l_find_no (fun z hz => ?_)]
          · rfl
          · have hz2 := hz
            rw [a3] at hz2
            have := List.mem_filter.mp hz2
            have h1 := g2 z this.1 this.2
            have h2 := plc z hz
            have : ¬ τ.1 9 z = 1 := fun e => h1 (h2.mpr e)
            simpa using this
        rw [lets_11 hk hl, if_neg (by omega), hb, if_pos (by decide)]
    · have hxL : x ∈ Λ d := by rw [g1]; simp
      have hx : x ∈ τ.2 d := h.mem hd0 hd1 hxL g3
      have xr := hI.rg hd0 hd1 x hx
      have xO := h.ok hd0 hd1 hxL
      have x9 := (plc x hx).mp g4
      have hsp := h.split hd0 hd1 g1 g3
      have hb : b_first τ d = x := by
        unfold b_first
        rw [hsp, l_find_mid (fun z hz => ?_) (by simpa using x9)]
        · rfl
        · have hz1 := List.mem_filter.mp hz
          have hz2 : z ∈ τ.2 d := h.mem hd0 hd1 (by rw [g1]; exact List.mem_append_left _ hz1.1) hz1.2
          have h1 := g5 z hz1.1 hz1.2
          have : ¬ τ.1 9 z = 1 := fun e => h1 ((plc z hz2).mpr e)
          simpa using this
      obtain ⟨f, l, hfl⟩ : ∃ f l, τ.2 d = f :: l := by
        cases hh : τ.2 d with
        | nil => rw [hh] at hx; cases hx
        | cons f l => exact ⟨f, l, rfl⟩
      have e22 := (h.at hd0 hd1 g1).1
      rw [g2, if_neg (by omega), e22, bs_div xO]
      have hI1 : WI (b_up τ 26 d x) := hI.upd _ _ rfl
      have hM1 : Mq (pu_up κ 26 d x) (b_up τ 26 d x) d Λ pre P := h.up d x (by decide) hI1
      have ebs : b_s (b_up τ 26 d x) x = b_s τ x := b_s_up _ _ _ _ (by decide)
      have ewt : wt (b_up τ 26 d x) x = true := by rw [wt_up _ _ _ _ (by decide)]; exact g3
      have hM3 := hM1.out (κ' := c_pass (pu_up κ 26 d x) (b_s τ x) 0) (o := 0) (w := 0) hd0 hd1 g1 ewt (by decide) (fun _ z hz => ?_) (fun c i h1 h2 => c_pass_c _ _ _ _ _ h1 h2) (fun i => by rw [ebs]; exact c_pass_14 _ _ _ _) (fun i => by rw [ebs]; exact c_pass_15 _ _ _ _)
      · have hone : b_letsOne τ d = some (b_out (b_up τ 26 d x) x 0 0) := by
          rw [lets_11 hk hfl, if_neg (by omega), hb, if_neg (by omega), b_out_0]
        have e26' : (b_up τ 26 d x).1 26 d = x := pu_up_at _ _ _ _
        have hJ1 : JA (b_up τ 26 d x) := hJ.up1 hI (by decide) (JK.k11 (by rw [b_up_c _ _ _ _ _ _ (by decide)]; exact hk) ⟨by rw [e26']; omega, by rw [e26']; exact xr.2, fun z hz => by rw [b_up_c _ _ _ _ _ _ (by decide), b_num_up _ _ _ _ (by decide)]; exact k3 z hz⟩ (by rw [b_up_c _ _ _ _ _ _ (by decide)]; exact hj.c))
        have hnone : b_letsOne (b_out (b_up τ 26 d x) x 0 0) d = none := by
          cases hh : (b_out (b_up τ 26 d x) x 0 0).2 d with
          | nil => exact lets_nil hh
          | cons f l =>
            rw [lets_11 (by rw [b_out_c _ _ _ _ _ _ (by decide), b_up_c _ _ _ _ _ _ (by decide)]; exact hk) hh, b_out_c _ _ _ _ 26 _ (by decide), e26', if_pos xr.1]
        have hgo : b_letsGo τ d 17 = b_out (b_up τ 26 d x) x 0 0 := by
          rw [b_letsGo, hone]
          exact b_letsGo_no hnone 16
        rw [hgo]
        exact ⟨_, hM3, hJ1.out hI1 hd0 hd1 hx 0 0, hnone⟩
      · have := hp z (by rw [g1]; exact List.mem_append_right _ (List.mem_cons_of_mem _ hz))
        unfold ps at this ⊢
        rw [b_s_up _ _ _ _ (by decide), b_up_c _ _ _ _ _ _ (by decide)]
        exact this
  · rw [if_neg c1]
    refine hno ?_
    cases hl : τ.2 d with
    | nil => exact lets_nil hl
    | cons f l => rw [lets_11 hk hl, if_pos (by omega)]
theorem go_sim {κ : aS} {τ : bS} {d : Int} {Λ : Int → List Int} {pre P : List Int} (hd0 : 0 ≤ d) (hd1 : d < 12) (h : Mq κ τ d Λ pre P) (hJ : JA τ) (hp : ∀ z ∈ Λ d, ps τ z = false) : ∃ P', Mq (c_go κ d) (b_letsGo τ d 17) d Λ pre P' ∧ JA (b_letsGo τ d 17) ∧ b_letsOne (b_letsGo τ d 17) d = none := by
  have e18 : κ 18 d = τ.1 18 d := h.1.1 18 d rfl
  have h4 := h.2.2.2.1.2.2.2.1 d hd0 hd1
  unfold c_go
  rw [e18]
  by_cases c1 : τ.1 18 d = 0 ∨ τ.1 18 d = 1
  · rw [if_pos c1]
    exact pm_sim hd0 hd1 c1 h hJ hp
  rw [if_neg c1]
  by_cases c2 : τ.1 18 d = 5
  · rw [if_pos c2]
    exact lk_sim hd0 hd1 c2 h hJ hp
  rw [if_neg c2]
  by_cases c3 : τ.1 18 d = 11
  · rw [if_pos c3]
    exact mo_sim hd0 hd1 c3 h hJ hp
  rw [if_neg c3]
  by_cases c4 : τ.1 18 d = 3 ∨ τ.1 18 d = 4 ∨ τ.1 18 d = 6 ∨ τ.1 18 d = 9
  · rw [if_pos c4, b_letsGo_no (lets_no c4)]
    exact ⟨P, h, hJ, lets_no c4⟩
  · rw [if_neg c4]
    exact sg_sim hd0 hd1 (by omega) h hJ hp
theorem go_no {κ : aS} {τ : bS} {d : Int} {Λ : Int → List Int} {pre P : List Int} (hd0 : 0 ≤ d) (hd1 : d < 12) (h : Mq κ τ d Λ pre P) (hJ : JA τ) (hk : τ.1 18 d = 3 ∨ τ.1 18 d = 4 ∨ τ.1 18 d = 6 ∨ τ.1 18 d = 9) : Mq (c_go κ d) (b_letsGo τ d 17) d Λ pre P ∧ JA (b_letsGo τ d 17) := by
  have e18 : κ 18 d = τ.1 18 d := h.1.1 18 d rfl
  unfold c_go
  rw [e18, if_neg (by omega), if_neg (by omega), if_neg (by omega), if_pos hk, b_letsGo_no (lets_no hk)]
  exact ⟨h, hJ⟩
/-- all end, one after the other: what it does to the invariant -/
theorem WI.outs {d : Int} (hd0 : 0 ≤ d) (hd1 : d < 12) {o : Int} {F : bS → Int → Int} : ∀ (l : List Int) (τ : bS), τ.2 d = l → WI τ → WI (l.foldl (fun τ u => b_out τ u o (F τ u)) τ) := by
  intro l
  induction l with
  | nil => intro τ _ h; exact h
  | cons x l ih =>
    intro τ hl h
    have hx : x ∈ τ.2 d := by rw [hl]; exact List.mem_cons_self
    rw [List.foldl_cons]
    refine ih _ ?_ (h.out hd0 hd1 hx _ _)
    rw [b_out_2, ((h.2.2.1 d hd0 hd1).2 x hx).2.2.1, if_pos rfl, hl, List.erase_cons_head]
theorem JA.outs {d : Int} (hd0 : 0 ≤ d) (hd1 : d < 12) {o : Int} {F : bS → Int → Int} (Q : bS → Prop) (hQ : ∀ τ x, WI τ → Q τ → x ∈ τ.2 d → Q (b_out τ x o (F τ x))) : ∀ (l : List Int) (τ : bS), τ.2 d = l → WI τ → Q τ → Q (l.foldl (fun τ u => b_out τ u o (F τ u)) τ) ∧ (l.foldl (fun τ u => b_out τ u o (F τ u)) τ).2 d = [] := by
  intro l
  induction l with
  | nil => intro τ hl _ h; exact ⟨h, hl⟩
  | cons x l ih =>
    intro τ hl h hq
    have hx : x ∈ τ.2 d := by rw [hl]; exact List.mem_cons_self
    rw [List.foldl_cons]
    refine ih _ ?_ (h.out hd0 hd1 hx _ _) (hQ τ x h hq hx)
    rw [b_out_2, ((h.2.2.1 d hd0 hd1).2 x hx).2.2.1, if_pos rfl, hl, List.erase_cons_head]
theorem b_allEnd_out {τ : bS} {d o : Int} (ho : o ≠ 0) : b_allEnd τ d o = (τ.2 d).foldl (fun τ u => b_out τ u o 0) τ := by
  unfold b_allEnd
  congr 1
  funext τ u
  unfold b_out
  rw [if_neg ho]
/-- all that wait end with outcome o -/
theorem end_sim {κ : aS} {τ : bS} {d o : Int} {Λ : Int → List Int} {pre P : List Int} (hd0 : 0 ≤ d) (hd1 : d < 12) (ho : o ≠ 0) (ho1 : o ≠ 1) (h : Mq κ τ d Λ pre P) (hp : ∀ z ∈ Λ d, ps τ z = false) : ∃ P', Mq (c_endAll κ d o) (b_allEnd τ d o) d Λ pre P' := by
  have g := all_sim (Λ := Λ) (pre := pre) (F := fun _ _ => 0) (W := fun κ s => κ 15 s) (f := fun κ s => pu_up κ 14 s o) hd0 hd1 ho1 (fun κ s c i h1 _ => pu_up_ne _ _ _ _ h1) (fun κ s i => pu_up_c _ _ _ _ _) (fun κ s i => by
    rw [pu_up_ne _ _ _ _ (by decide)]
    split
    · rename_i e
      rw [e]
    · rfl) (fun _ => True) (fun _ _ _ _ => trivial) (fun _ _ _ _ _ _ _ h0 => absurd h0 ho) (Λ d) [] κ τ P rfl trivial h (by simp) hp
  obtain ⟨P', g⟩ := g
  refine ⟨P', ?_⟩
  rw [b_allEnd_out ho]
  unfold c_endAll
  rw [(h.2.1 d hd0 hd1).1, Int.toNat_natCast]
  exact g
