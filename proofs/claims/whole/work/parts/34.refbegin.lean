/-- components that no beat changes -/
def se_c (c : Nat) : Bool := c == 0 || c == 1 || c == 2 || c == 3 || c == 10 || c == 11 || c == 12 || c == 13 || c == 18 || c == 19 || c == 21 || c == 35 || c == 36 || c == 37 || c == 38
def SE (τ τ' : bS) : Prop := ∀ (c : Nat) (i : Int), se_c c = true → τ'.1 c i = τ.1 c i
theorem SE.refl (τ : bS) : SE τ τ := fun _ _ _ => rfl
theorem SE.trans {τ τ1 τ2 : bS} (h : SE τ τ1) (h2 : SE τ1 τ2) : SE τ τ2 := fun c i hc => by rw [h2 c i hc, h c i hc]
theorem se_ne {c k : Nat} (h : se_c c = true) (hk : se_c k = false) : c ≠ k := fun e => by subst e; rw [h] at hk; cases hk
theorem SE.up {τ τ1 : bS} (h : SE τ τ1) {k : Nat} (j v : Int) (hk : se_c k = false) : SE τ (b_up τ1 k j v) := fun c i hc => by rw [b_up_c _ _ _ _ _ _ (se_ne hc hk)]; exact h c i hc
theorem SE.ln {τ τ1 : bS} (h : SE τ τ1) (d : Int) (l : List Int) : SE τ (b_ln τ1 d l) := h
theorem SE.ends {τ τ1 : bS} (h : SE τ τ1) (t x v : Int) : SE τ (b_ends τ1 t x v) := fun c i hc => by rw [b_ends_c _ _ _ _ _ _ ⟨se_ne hc rfl, se_ne hc rfl, se_ne hc rfl, se_ne hc rfl⟩]; exact h c i hc
theorem SE.passes {τ τ1 : bS} (h : SE τ τ1) (t v : Int) : SE τ (b_passes τ1 t v) := fun c i hc => by rw [b_passes_c _ _ _ _ _ ⟨se_ne hc rfl, se_ne hc rfl, se_ne hc rfl, se_ne hc rfl, se_ne hc rfl, se_ne hc rfl⟩]; exact h c i hc
theorem SE.leaves {τ τ1 : bS} (h : SE τ τ1) (t : Int) : SE τ (b_leaves τ1 t) := fun c i hc => by rw [b_leaves_c _ _ _ _ ⟨se_ne hc rfl, se_ne hc rfl⟩]; exact h c i hc
theorem SE.goes {τ τ1 : bS} (h : SE τ τ1) (t v : Int) : SE τ (b_goes τ1 t v) := (h.leaves t).passes t v
theorem SE.foldl {f : bS → Int → bS} (hf : ∀ τ u, SE τ (f τ u)) : ∀ (l : List Int) {τ τ1 : bS}, SE τ τ1 → SE τ (l.foldl f τ1) := by
  intro l
  induction l with
  | nil => intro τ τ1 h; exact h
  | cons a l ih => intro τ τ1 h; exact ih (h.trans (hf τ1 a))
theorem SE.allEnd {τ τ1 : bS} (h : SE τ τ1) (d x : Int) : SE τ (b_allEnd τ1 d x) := SE.foldl (fun τ u => ((SE.refl τ).leaves u).ends u x 0) _ h
theorem SE.goAll {τ τ1 : bS} (h : SE τ τ1) (f : bS → Int → Int) (d : Int) : SE τ (b_goAll f τ1 d) := SE.foldl (fun τ u => (SE.refl τ).goes u _) _ h
theorem SE.lies {τ τ1 : bS} (h : SE τ τ1) (d j : Int) : SE τ (b_lies τ1 d j) := fun c i hc => by rw [b_lies_c _ _ _ _ _ (se_ne hc rfl)]; exact h c i hc
theorem SE.rise {τ τ1 : bS} (h : SE τ τ1) (d : Int) : SE τ (b_rise τ1 d) := fun c i hc => by rw [b_rise_c _ _ _ _ ⟨se_ne hc rfl, se_ne hc rfl⟩]; exact h c i hc
theorem SE.wk {τ τ1 : bS} (h : SE τ τ1) (d a al : Int) (l : List Int) (m : Int) : SE τ (b_wk d a al τ1 l m).1 := fun c i hc => by rw [b_wk_c _ _ _ _ _ (se_ne hc rfl)]; exact h c i hc
theorem SE.puts {τ τ1 : bS} (h : SE τ τ1) (d a : Int) : SE τ (b_puts τ1 d a) := (h.up _ _ rfl).up _ _ rfl
theorem SE.waits {τ τ1 : bS} (h : SE τ τ1) (t : Int) : SE τ (b_waits τ1 t) := by
  unfold b_waits
  split
  · split
    · exact (((h.up _ _ rfl).ends _ _ _).up _ _ rfl).allEnd _ _
    · exact (h.up _ _ rfl).ends _ _ _
  · exact ((h.up _ _ rfl).up _ _ rfl).ln _ _
theorem SE.rises {τ τ1 : bS} (h : SE τ τ1) (d t : Int) : SE τ (b_rises τ1 d t) := by
  unfold b_rises
  split
  · exact (((h.up _ _ rfl).rise _).passes _ _).goAll _ _
  · exact h.passes _ _
theorem SE.one {τ τ1 : bS} {d : Int} (h1 : b_letsOne τ d = some τ1) : SE τ τ1 := by
  unfold b_letsOne b_perm b_tick b_letsLock at h1
  split at h1
  · cases h1
  · repeat' split at h1
    all_goals (first | (cases h1; done) | (cases h1; ((repeat' split) <;> (repeat' (first | assumption | exact SE.refl _ | apply SE.ends | apply SE.passes | apply SE.waits | apply SE.goes | apply SE.leaves | apply SE.allEnd | apply SE.goAll | apply SE.lies | apply SE.rises | apply SE.wk | apply SE.puts | (refine SE.up ?_ _ _ rfl))))))
theorem SE.letsGo {d : Int} : ∀ (k : Nat) {τ τ1 : bS}, SE τ τ1 → SE τ (b_letsGo τ1 d k) := by
  intro k
  induction k with
  | zero => intro τ τ1 h; exact h
  | succ k ih =>
    intro τ τ1 h
    unfold b_letsGo
    split
    · exact h
    · rename_i τ2 e
      exact ih (h.trans (SE.one e))
theorem SE.gives {τ τ1 : bS} (h : SE τ τ1) (t x : Int) : SE τ (b_gives τ1 t x) := by
  unfold b_gives
  refine SE.letsGo _ ?_
  split
  · exact ((((h.leaves _).ends _ _ _).up _ _ rfl)).allEnd _ _
  · exact (h.leaves _).ends _ _ _
def b_kind (τ : bS) (d t act a : Int) : bS :=
  if τ.1 18 d = 0 then b_permits τ d t act a
  else if τ.1 18 d = 1 then b_permits τ d t act a
  else if τ.1 18 d = 2 then b_gate τ d t act
  else if τ.1 18 d = 3 then b_barrier τ d t act
  else if τ.1 18 d = 4 then b_exchange τ d t act a
  else if τ.1 18 d = 5 then b_lockop τ d t act
  else if τ.1 18 d = 6 then b_hand τ d t act a
  else if τ.1 18 d = 7 then b_tickets τ d t act a
  else if τ.1 18 d = 8 then b_cell τ d t act a
  else if τ.1 18 d = 9 then b_phaser τ d t act
  else if τ.1 18 d = 10 then b_pause τ d t act
  else b_monitor τ d t act a
theorem SE.kind (τ : bS) (d t act a : Int) : SE τ (b_kind τ d t act a) := by
  have h := SE.refl τ
  unfold b_kind
  split
  · unfold b_permits
    ((repeat' split) <;> (repeat' (first | assumption | exact SE.refl _ | apply SE.ends | apply SE.passes | apply SE.waits | apply SE.goes | apply SE.leaves | apply SE.allEnd | apply SE.goAll | apply SE.lies | apply SE.rises | apply SE.wk | apply SE.puts | (refine SE.up ?_ _ _ rfl))))
  split
  · unfold b_permits
    ((repeat' split) <;> (repeat' (first | assumption | exact SE.refl _ | apply SE.ends | apply SE.passes | apply SE.waits | apply SE.goes | apply SE.leaves | apply SE.allEnd | apply SE.goAll | apply SE.lies | apply SE.rises | apply SE.wk | apply SE.puts | (refine SE.up ?_ _ _ rfl))))
  split
  · unfold b_gate
    ((repeat' split) <;> (repeat' (first | assumption | exact SE.refl _ | apply SE.ends | apply SE.passes | apply SE.waits | apply SE.goes | apply SE.leaves | apply SE.allEnd | apply SE.goAll | apply SE.lies | apply SE.rises | apply SE.wk | apply SE.puts | (refine SE.up ?_ _ _ rfl))))
  split
  · unfold b_barrier
    ((repeat' split) <;> (repeat' (first | assumption | exact SE.refl _ | apply SE.ends | apply SE.passes | apply SE.waits | apply SE.goes | apply SE.leaves | apply SE.allEnd | apply SE.goAll | apply SE.lies | apply SE.rises | apply SE.wk | apply SE.puts | (refine SE.up ?_ _ _ rfl))))
  split
  · unfold b_exchange
    ((repeat' split) <;> (repeat' (first | assumption | exact SE.refl _ | apply SE.ends | apply SE.passes | apply SE.waits | apply SE.goes | apply SE.leaves | apply SE.allEnd | apply SE.goAll | apply SE.lies | apply SE.rises | apply SE.wk | apply SE.puts | (refine SE.up ?_ _ _ rfl))))
  split
  · unfold b_lockop
    ((repeat' split) <;> (repeat' (first | assumption | exact SE.refl _ | apply SE.ends | apply SE.passes | apply SE.waits | apply SE.goes | apply SE.leaves | apply SE.allEnd | apply SE.goAll | apply SE.lies | apply SE.rises | apply SE.wk | apply SE.puts | (refine SE.up ?_ _ _ rfl))))
  split
  · unfold b_hand
    ((repeat' split) <;> (repeat' (first | assumption | exact SE.refl _ | apply SE.ends | apply SE.passes | apply SE.waits | apply SE.goes | apply SE.leaves | apply SE.allEnd | apply SE.goAll | apply SE.lies | apply SE.rises | apply SE.wk | apply SE.puts | (refine SE.up ?_ _ _ rfl))))
  split
  · unfold b_tickets
    ((repeat' split) <;> (repeat' (first | assumption | exact SE.refl _ | apply SE.ends | apply SE.passes | apply SE.waits | apply SE.goes | apply SE.leaves | apply SE.allEnd | apply SE.goAll | apply SE.lies | apply SE.rises | apply SE.wk | apply SE.puts | (refine SE.up ?_ _ _ rfl))))
  split
  · unfold b_cell
    ((repeat' split) <;> (repeat' (first | assumption | exact SE.refl _ | apply SE.ends | apply SE.passes | apply SE.waits | apply SE.goes | apply SE.leaves | apply SE.allEnd | apply SE.goAll | apply SE.lies | apply SE.rises | apply SE.wk | apply SE.puts | (refine SE.up ?_ _ _ rfl))))
  split
  · unfold b_phaser
    ((repeat' split) <;> (repeat' (first | assumption | exact SE.refl _ | apply SE.ends | apply SE.passes | apply SE.waits | apply SE.goes | apply SE.leaves | apply SE.allEnd | apply SE.goAll | apply SE.lies | apply SE.rises | apply SE.wk | apply SE.puts | (refine SE.up ?_ _ _ rfl))))
  split
  · unfold b_pause
    ((repeat' split) <;> (repeat' (first | assumption | exact SE.refl _ | apply SE.ends | apply SE.passes | apply SE.waits | apply SE.goes | apply SE.leaves | apply SE.allEnd | apply SE.goAll | apply SE.lies | apply SE.rises | apply SE.wk | apply SE.puts | (refine SE.up ?_ _ _ rfl))))
  · unfold b_monitor
    ((repeat' split) <;> (repeat' (first | assumption | exact SE.refl _ | apply SE.ends | apply SE.passes | apply SE.waits | apply SE.goes | apply SE.leaves | apply SE.allEnd | apply SE.goAll | apply SE.lies | apply SE.rises | apply SE.wk | apply SE.puts | (refine SE.up ?_ _ _ rfl))))
def b_bg (τ : bS) (t : Int) : bS := b_up (b_up τ 4 t (τ.1 4 t + 1)) 16 (20 * t + (τ.1 4 t + 1) - 1) (τ.1 2 0)
def b_begins (τ : bS) (t : Int) : bS :=
  if τ.1 20 (τ.1 10 (20 * t + (τ.1 4 t + 1) - 1)) = 1 then b_ends (b_bg τ t) t 4 0
  else b_letsGo (b_kind (b_bg τ t) (τ.1 10 (20 * t + (τ.1 4 t + 1) - 1)) t (τ.1 11 (20 * t + (τ.1 4 t + 1) - 1)) (τ.1 12 (20 * t + (τ.1 4 t + 1) - 1))) (τ.1 10 (20 * t + (τ.1 4 t + 1) - 1)) 17
theorem SE.begins {τ τ1 : bS} (h : SE τ τ1) (t : Int) : SE τ (b_begins τ1 t) := by
  have h1 : SE τ (b_bg τ1 t) := (h.up _ _ rfl).up _ _ rfl
  unfold b_begins
  split
  · exact h1.ends _ _ _
  · exact SE.letsGo _ (h1.trans (SE.kind _ _ _ _ _))
theorem WI.begin {τ : bS} (h : WI τ) {t : Int} (h5 : τ.1 5 t < 0) (h4 : τ.1 4 t < 20) : WI (b_up τ 4 t (τ.1 4 t + 1)) := by
  obtain ⟨a1, a2, a3, a4, a5, a6, a7, a8, a9⟩ := h
  have ec : ∀ (c : Nat) (i : Int), c ≠ 4 → (b_up τ 4 t (τ.1 4 t + 1)).1 c i = τ.1 c i := fun c i hc => pu_up_ne _ _ _ _ hc
  have e4 : ∀ i, (b_up τ 4 t (τ.1 4 t + 1)).1 4 i = if i = t then τ.1 4 t + 1 else τ.1 4 i := fun i => pu_up_c _ _ _ _ _
  refine ⟨fun u h0 h1 => ?_, fun u h0 h1 hp => ?_, fun d h0 h1 => ⟨(a3 d h0 h1).1, fun u hu => ?_⟩, fun d h0 h1 => by rw [ec 34 d (by decide), ec 18 d (by decide)]; exact a4 d h0 h1, fun s h0 h1 => by rw [ec 10 s (by decide)]; exact a5 s h0 h1, fun i h0 h1 => by rw [ec 29 i (by decide), ec 30 i (by decide), ec 31 i (by decide)]; exact a6 i h0 h1, fun d h0 h1 => by rw [ec 28 d (by decide), ec 18 d (by decide)]; exact a7 d h0 h1, fun d h0 h1 h6 => ?_, by rw [ec 0 _ (by decide), ec 1 _ (by decide), ec 38 _ (by decide)]; exact a9⟩
  · rw [e4, ec 3 _ (by decide)]
    have := a1 u h0 h1
    split
    · rename_i e
      subst e
      omega
    · exact this
  · rw [ec 5 _ (by decide)] at hp ⊢
    rw [ec 0 0 (by decide)] at h1
    exact a2 u h0 h1 hp
  · have h3 := (a3 d h0 h1).2 u hu
    rw [ec 5 u (by decide), e4, if_neg (fun e => by subst e; omega), ec 10 _ (by decide)]
    exact h3
  · rw [ec 18 d (by decide)] at h6
    rw [ec 24 d (by decide), ec 19 d (by decide)]
    exact a8 d h0 h1 h6
def WA (τ : bS) : Prop := ∀ s, 0 ≤ s → s < 320 → 0 ≤ τ.1 11 s
theorem WA.se {τ τ1 : bS} (h : WA τ) (e : SE τ τ1) : WA τ1 := fun s h0 h1 => by rw [e 11 s rfl]; exact h s h0 h1
set_option maxHeartbeats 4000000 in
theorem R_begins {y : jLay} {κ σ : aS} {g : jH} {n : Nat} {τ : bS} (hw : pm_WF y) (hn : 1000 ≤ n) (hR : RO σ τ) (hI : WI τ) {t : Int} (ht0 : 0 ≤ t) (ht1 : t < 16) (hA : WA τ) (h5 : τ.1 5 t < 0) (h43 : τ.1 4 t < τ.1 3 t) : ∃ σ', fX12_begins n [.inr (some (y.2 13 0)), .inl t] (pu_H y κ σ g) = some (none, pu_H y κ σ' g) ∧ RO σ' (b_begins τ t) ∧ WI (b_begins τ t) := by
  have h4 := hI.1 t ht0 ht1
  obtain ⟨s, hs⟩ : ∃ s, s = 20 * t + (τ.1 4 t + 1) - 1 := ⟨_, rfl⟩
  have hRa := hR.up (c := 4) t (τ.1 4 t + 1) (by decide) (by decide)
  have hIa := hI.begin h5 (by omega)
  have v4 := hR.1 4 t (by decide) (by decide)
  have v2 := hR.1 2 0 (by decide) (by decide)
  have e1 := R_stepOf (κ := κ) (g := g) (n := n) hw hn hRa hIa ht0 ht1
  have e4 : (b_up τ 4 t (τ.1 4 t + 1)).1 4 t = τ.1 4 t + 1 := pu_up_at _ _ _ _
  rw [e4, ← hs] at e1
  have hR1 := hRa.up (c := 16) s (τ.1 2 0) (by decide) (by decide)
  have hI1 := hIa.upd (c := 16) s (τ.1 2 0) (by decide)
  have hbg : b_up (b_up τ 4 t (τ.1 4 t + 1)) 16 s (τ.1 2 0) = b_bg τ t := by unfold b_bg; rw [hs]
  rw [hbg] at hR1 hI1
  have cc : ∀ (c : Nat) (i : Int), c ≠ 4 ∧ c ≠ 16 → (b_bg τ t).1 c i = τ.1 c i := fun c i hc => by unfold b_bg; rw [b_up_c _ _ _ _ _ _ hc.2, b_up_c _ _ _ _ _ _ hc.1]
  have c4 : (b_bg τ t).1 4 t = τ.1 4 t + 1 := by unfold b_bg; rw [b_up_c _ _ _ _ _ _ (by decide)]; exact e4
  have hb1 : 1 ≤ (b_bg τ t).1 4 t := by rw [c4]; omega
  have h51 : (b_bg τ t).1 5 t < 0 := by rw [cc 5 t (by decide)]; exact h5
  unfold b_begins
  rw [← hs]
  obtain ⟨d, hd⟩ : ∃ d, d = τ.1 10 s := ⟨_, rfl⟩
  obtain ⟨act, hact⟩ : ∃ a, a = τ.1 11 s := ⟨_, rfl⟩
  obtain ⟨a, haa⟩ : ∃ a, a = τ.1 12 s := ⟨_, rfl⟩
  rw [← hd, ← hact, ← haa]
  have hd0 : 0 ≤ d := by rw [hd]; exact (hI.2.2.2.2.1 s (by omega) (by omega)).1
  have hd1 : d < 12 := by rw [hd]; exact (hI.2.2.2.2.1 s (by omega) (by omega)).2
  have w10 : σ 10 s = d := by rw [hR.1 10 s (by decide) (by decide), hd]
  have w11 : σ 11 s = act := by rw [hR.1 11 s (by decide) (by decide), hact]
  have w12 : σ 12 s = a := by rw [hR.1 12 s (by decide) (by decide), haa]
  have w20 := hR.1 20 d (by decide) (by decide)
  have w18 := hR.1 18 d (by decide) (by decide)
  have c18 := cc 18 d (by decide)
  have ha0 : 0 ≤ act := by rw [hact]; exact hA s (by omega) (by omega)
  have hk10 : (b_bg τ t).1 10 (20 * t + (b_bg τ t).1 4 t - 1) = d := by rw [c4, ← hs, cc 10 s (by decide), hd]
  by_cases c20 : τ.1 20 d = 1
  · rw [if_pos c20]
    obtain ⟨σ2, e2, hR2⟩ := R_ends (κ := κ) (g := g) (n := n) hw hn hR1 hI1 ht0 ht1 4 0 hb1
    refine ⟨σ2, ?_, hR2, hI1.ends t 4 0⟩
    simp only [fX12_begins, jm_run, List.length_cons, List.length_nil, Nat.reduceAdd, if_true, jm_init, List.map_cons, List.map_nil, Nat.reduceSub, List.replicate, List.cons_append, List.nil_append, kX12_begins]
    rw [jk_fix_pos (by omega)]
    simp only [kX12_begins_b, kX12_begins_0, Nat.reduceEqDiff, if_false, if_true]
    simp (disch := first | omega | (simp only [List.length_cons, List.length_nil]; omega) | assumption) only [↓ja_int, ↓ja_null, ↓ja_iload_0, ↓ja_aload_0, ↓ja_istore_0, ↓ja_astore_0, ↓ja_kill_0, ↓ja_iinc_0, ↓ja_iload_1, ↓ja_aload_1, ↓ja_istore_1, ↓ja_astore_1, ↓ja_kill_1, ↓ja_iinc_1, ↓ja_iload_2, ↓ja_aload_2, ↓ja_istore_2, ↓ja_astore_2, ↓ja_kill_2, ↓ja_iinc_2, ↓ja_iload_3, ↓ja_aload_3, ↓ja_istore_3, ↓ja_astore_3, ↓ja_kill_3, ↓ja_iinc_3, ↓ja_iload_4, ↓ja_aload_4, ↓ja_istore_4, ↓ja_astore_4, ↓ja_kill_4, ↓ja_iinc_4, ↓ja_iload_5, ↓ja_aload_5, ↓ja_istore_5, ↓ja_astore_5, ↓ja_kill_5, ↓ja_iinc_5, ↓ja_iload_6, ↓ja_aload_6, ↓ja_istore_6, ↓ja_astore_6, ↓ja_kill_6, ↓ja_iinc_6, ↓ja_iload_7, ↓ja_aload_7, ↓ja_istore_7, ↓ja_astore_7, ↓ja_kill_7, ↓ja_iinc_7, ↓ja_iload_8, ↓ja_aload_8, ↓ja_istore_8, ↓ja_astore_8, ↓ja_kill_8, ↓ja_iinc_8, ↓ja_iload_9, ↓ja_aload_9, ↓ja_istore_9, ↓ja_astore_9, ↓ja_kill_9, ↓ja_iinc_9, ↓ja_iload_10, ↓ja_aload_10, ↓ja_istore_10, ↓ja_astore_10, ↓ja_kill_10, ↓ja_iinc_10, ↓ja_iadd, ↓ja_isub, ↓ja_imul, ↓ja_dup, ↓ja_dup2, ↓ja_i2b, ↓ja_ifeq, ↓ja_ifne, ↓ja_iflt, ↓ja_ifge, ↓ja_ifgt, ↓ja_ifle, ↓ja_icmpeq, ↓ja_icmpne, ↓ja_icmplt, ↓ja_icmpge, ↓ja_icmpgt, ↓ja_icmple, ↓ja_ifnull_n, ↓ja_ifnull_s, ↓ja_ifnonnull_n, ↓ja_ifnonnull_s, ↓ja_iret, ↓ja_aret, ↓ja_vret, ↓ja_zret0, ↓ja_zret1, ↓ja_sw, ↓ja_pe, ↓ja_pn, ↓ja_pz, ↓reduceIte, ite_self, Int.reduceEq, Int.reduceLT, Int.reduceLE, jm_wr_id, pb_none, pb_int, pg_3 hw, pl_3 hw, ps_3 hw, pg_4 hw, pl_4 hw, ps_4 hw, pg_5 hw, pl_5 hw, ps_5 hw, pg_6 hw, pl_6 hw, ps_6 hw, pg_7 hw, pl_7 hw, ps_7 hw, pg_8 hw, pl_8 hw, ps_8 hw, pg_9 hw, pl_9 hw, ps_9 hw, pg_10 hw, pl_10 hw, ps_10 hw, pg_11 hw, pl_11 hw, ps_11 hw, pg_12 hw, pl_12 hw, ps_12 hw, pg_13 hw, pl_13 hw, ps_13 hw, pg_14 hw, pl_14 hw, ps_14 hw, pg_15 hw, pl_15 hw, ps_15 hw, pg_16 hw, pl_16 hw, ps_16 hw, pg_17 hw, pl_17 hw, ps_17 hw, pg_18 hw, pl_18 hw, ps_18 hw, pg_19 hw, pl_19 hw, ps_19 hw, pg_20 hw, pl_20 hw, ps_20 hw, pg_21 hw, pl_21 hw, ps_21 hw, pg_22 hw, pl_22 hw, ps_22 hw, pg_23 hw, pl_23 hw, ps_23 hw, pg_24 hw, pl_24 hw, ps_24 hw, pg_25 hw, pl_25 hw, ps_25 hw, pg_26 hw, pl_26 hw, ps_26 hw, pg_27 hw, pl_27 hw, ps_27 hw, pg_28 hw, pl_28 hw, ps_28 hw, pg_29 hw, pl_29 hw, ps_29 hw, pg_30 hw, pl_30 hw, ps_30 hw, pg_31 hw, pl_31 hw, ps_31 hw, pg_32 hw, pl_32 hw, ps_32 hw, pg_33 hw, pm_bald hw, pm_bast hw, pg_34 hw, pl_34 hw, ps_34 hw, pg_35 hw, pl_35 hw, ps_35 hw, pg_36 hw, pl_36 hw, ps_36 hw, pg_0 hw, ps_0 hw, pg_1 hw, ps_1 hw, pg_2 hw, ps_2 hw, pg_37 hw, ps_37 hw, pg_38 hw, ps_38 hw, pc_0 hw, pc_1 hw, pc_2 hw, pc_3 hw, pc_4 hw, pc_5 hw, pu_up_ne, pu_up_at, v4, v2, e1, w10, w20, c20, e2]
  · rw [if_neg c20]
    have hk18 := (hI.2.2.2.1 d hd0 hd1).2.2
    have hkk : τ.1 18 d = 0 ∨ τ.1 18 d = 1 ∨ τ.1 18 d = 2 ∨ τ.1 18 d = 3 ∨ τ.1 18 d = 4 ∨ τ.1 18 d = 5 ∨ τ.1 18 d = 6 ∨ τ.1 18 d = 7 ∨ τ.1 18 d = 8 ∨ τ.1 18 d = 9 ∨ τ.1 18 d = 10 ∨ τ.1 18 d = 11 := by omega
    rcases hkk with hk | hk | hk | hk | hk | hk | hk | hk | hk | hk | hk | hk
    · have hk1 : (b_bg τ t).1 18 d = 0 := by rw [c18, hk]
      obtain ⟨σ2, e2, hR2, hI2⟩ := R_permits (κ := κ) (g := g) (n := n) hw hn hR1 hI1 ht0 ht1 hb1 h51 hd0 hd1 (act := act) (a := a) (Or.inl hk1)
      obtain ⟨σ3, e3, hR3, hI3⟩ := R_letsGo (κ := κ) (g := g) (n := n) hw hn hR2 hI2 hd0 hd1
      have eb : b_kind (b_bg τ t) d t act a = b_permits (b_bg τ t) d t act a := by unfold b_kind; rw [hk1]; simp only [Int.reduceEq, if_true, if_false]
      rw [eb]
      refine ⟨σ3, ?_, hR3, hI3⟩
      simp only [fX12_begins, jm_run, List.length_cons, List.length_nil, Nat.reduceAdd, if_true, jm_init, List.map_cons, List.map_nil, Nat.reduceSub, List.replicate, List.cons_append, List.nil_append, kX12_begins]
      rw [jk_fix_pos (by omega)]
      simp only [kX12_begins_b, kX12_begins_0, Nat.reduceEqDiff, if_false, if_true]
      simp (disch := first | omega | (simp only [List.length_cons, List.length_nil]; omega) | assumption) only [↓ja_int, ↓ja_null, ↓ja_iload_0, ↓ja_aload_0, ↓ja_istore_0, ↓ja_astore_0, ↓ja_kill_0, ↓ja_iinc_0, ↓ja_iload_1, ↓ja_aload_1, ↓ja_istore_1, ↓ja_astore_1, ↓ja_kill_1, ↓ja_iinc_1, ↓ja_iload_2, ↓ja_aload_2, ↓ja_istore_2, ↓ja_astore_2, ↓ja_kill_2, ↓ja_iinc_2, ↓ja_iload_3, ↓ja_aload_3, ↓ja_istore_3, ↓ja_astore_3, ↓ja_kill_3, ↓ja_iinc_3, ↓ja_iload_4, ↓ja_aload_4, ↓ja_istore_4, ↓ja_astore_4, ↓ja_kill_4, ↓ja_iinc_4, ↓ja_iload_5, ↓ja_aload_5, ↓ja_istore_5, ↓ja_astore_5, ↓ja_kill_5, ↓ja_iinc_5, ↓ja_iload_6, ↓ja_aload_6, ↓ja_istore_6, ↓ja_astore_6, ↓ja_kill_6, ↓ja_iinc_6, ↓ja_iload_7, ↓ja_aload_7, ↓ja_istore_7, ↓ja_astore_7, ↓ja_kill_7, ↓ja_iinc_7, ↓ja_iload_8, ↓ja_aload_8, ↓ja_istore_8, ↓ja_astore_8, ↓ja_kill_8, ↓ja_iinc_8, ↓ja_iload_9, ↓ja_aload_9, ↓ja_istore_9, ↓ja_astore_9, ↓ja_kill_9, ↓ja_iinc_9, ↓ja_iload_10, ↓ja_aload_10, ↓ja_istore_10, ↓ja_astore_10, ↓ja_kill_10, ↓ja_iinc_10, ↓ja_iadd, ↓ja_isub, ↓ja_imul, ↓ja_dup, ↓ja_dup2, ↓ja_i2b, ↓ja_ifeq, ↓ja_ifne, ↓ja_iflt, ↓ja_ifge, ↓ja_ifgt, ↓ja_ifle, ↓ja_icmpeq, ↓ja_icmpne, ↓ja_icmplt, ↓ja_icmpge, ↓ja_icmpgt, ↓ja_icmple, ↓ja_ifnull_n, ↓ja_ifnull_s, ↓ja_ifnonnull_n, ↓ja_ifnonnull_s, ↓ja_iret, ↓ja_aret, ↓ja_vret, ↓ja_zret0, ↓ja_zret1, ↓ja_sw, ↓ja_pe, ↓ja_pn, ↓ja_pz, ↓reduceIte, ite_self, Int.reduceEq, Int.reduceLT, Int.reduceLE, jm_wr_id, pb_none, pb_int, pg_3 hw, pl_3 hw, ps_3 hw, pg_4 hw, pl_4 hw, ps_4 hw, pg_5 hw, pl_5 hw, ps_5 hw, pg_6 hw, pl_6 hw, ps_6 hw, pg_7 hw, pl_7 hw, ps_7 hw, pg_8 hw, pl_8 hw, ps_8 hw, pg_9 hw, pl_9 hw, ps_9 hw, pg_10 hw, pl_10 hw, ps_10 hw, pg_11 hw, pl_11 hw, ps_11 hw, pg_12 hw, pl_12 hw, ps_12 hw, pg_13 hw, pl_13 hw, ps_13 hw, pg_14 hw, pl_14 hw, ps_14 hw, pg_15 hw, pl_15 hw, ps_15 hw, pg_16 hw, pl_16 hw, ps_16 hw, pg_17 hw, pl_17 hw, ps_17 hw, pg_18 hw, pl_18 hw, ps_18 hw, pg_19 hw, pl_19 hw, ps_19 hw, pg_20 hw, pl_20 hw, ps_20 hw, pg_21 hw, pl_21 hw, ps_21 hw, pg_22 hw, pl_22 hw, ps_22 hw, pg_23 hw, pl_23 hw, ps_23 hw, pg_24 hw, pl_24 hw, ps_24 hw, pg_25 hw, pl_25 hw, ps_25 hw, pg_26 hw, pl_26 hw, ps_26 hw, pg_27 hw, pl_27 hw, ps_27 hw, pg_28 hw, pl_28 hw, ps_28 hw, pg_29 hw, pl_29 hw, ps_29 hw, pg_30 hw, pl_30 hw, ps_30 hw, pg_31 hw, pl_31 hw, ps_31 hw, pg_32 hw, pl_32 hw, ps_32 hw, pg_33 hw, pm_bald hw, pm_bast hw, pg_34 hw, pl_34 hw, ps_34 hw, pg_35 hw, pl_35 hw, ps_35 hw, pg_36 hw, pl_36 hw, ps_36 hw, pg_0 hw, ps_0 hw, pg_1 hw, ps_1 hw, pg_2 hw, ps_2 hw, pg_37 hw, ps_37 hw, pg_38 hw, ps_38 hw, pc_0 hw, pc_1 hw, pc_2 hw, pc_3 hw, pc_4 hw, pc_5 hw, pu_up_ne, pu_up_at, v4, v2, e1, w10, w20, c20, w11, w12, w18, hk, e2, ↓jk_fix_pos, kX12_begins_b, kX12_begins_132, kX12_begins_262, Nat.reduceEqDiff, e3]
    · have hk1 : (b_bg τ t).1 18 d = 1 := by rw [c18, hk]
      obtain ⟨σ2, e2, hR2, hI2⟩ := R_permits (κ := κ) (g := g) (n := n) hw hn hR1 hI1 ht0 ht1 hb1 h51 hd0 hd1 (act := act) (a := a) (Or.inr hk1)
      obtain ⟨σ3, e3, hR3, hI3⟩ := R_letsGo (κ := κ) (g := g) (n := n) hw hn hR2 hI2 hd0 hd1
      have eb : b_kind (b_bg τ t) d t act a = b_permits (b_bg τ t) d t act a := by unfold b_kind; rw [hk1]; simp only [Int.reduceEq, if_true, if_false]
      rw [eb]
      refine ⟨σ3, ?_, hR3, hI3⟩
      simp only [fX12_begins, jm_run, List.length_cons, List.length_nil, Nat.reduceAdd, if_true, jm_init, List.map_cons, List.map_nil, Nat.reduceSub, List.replicate, List.cons_append, List.nil_append, kX12_begins]
      rw [jk_fix_pos (by omega)]
      simp only [kX12_begins_b, kX12_begins_0, Nat.reduceEqDiff, if_false, if_true]
      simp (disch := first | omega | (simp only [List.length_cons, List.length_nil]; omega) | assumption) only [↓ja_int, ↓ja_null, ↓ja_iload_0, ↓ja_aload_0, ↓ja_istore_0, ↓ja_astore_0, ↓ja_kill_0, ↓ja_iinc_0, ↓ja_iload_1, ↓ja_aload_1, ↓ja_istore_1, ↓ja_astore_1, ↓ja_kill_1, ↓ja_iinc_1, ↓ja_iload_2, ↓ja_aload_2, ↓ja_istore_2, ↓ja_astore_2, ↓ja_kill_2, ↓ja_iinc_2, ↓ja_iload_3, ↓ja_aload_3, ↓ja_istore_3, ↓ja_astore_3, ↓ja_kill_3, ↓ja_iinc_3, ↓ja_iload_4, ↓ja_aload_4, ↓ja_istore_4, ↓ja_astore_4, ↓ja_kill_4, ↓ja_iinc_4, ↓ja_iload_5, ↓ja_aload_5, ↓ja_istore_5, ↓ja_astore_5, ↓ja_kill_5, ↓ja_iinc_5, ↓ja_iload_6, ↓ja_aload_6, ↓ja_istore_6, ↓ja_astore_6, ↓ja_kill_6, ↓ja_iinc_6, ↓ja_iload_7, ↓ja_aload_7, ↓ja_istore_7, ↓ja_astore_7, ↓ja_kill_7, ↓ja_iinc_7, ↓ja_iload_8, ↓ja_aload_8, ↓ja_istore_8, ↓ja_astore_8, ↓ja_kill_8, ↓ja_iinc_8, ↓ja_iload_9, ↓ja_aload_9, ↓ja_istore_9, ↓ja_astore_9, ↓ja_kill_9, ↓ja_iinc_9, ↓ja_iload_10, ↓ja_aload_10, ↓ja_istore_10, ↓ja_astore_10, ↓ja_kill_10, ↓ja_iinc_10, ↓ja_iadd, ↓ja_isub, ↓ja_imul, ↓ja_dup, ↓ja_dup2, ↓ja_i2b, ↓ja_ifeq, ↓ja_ifne, ↓ja_iflt, ↓ja_ifge, ↓ja_ifgt, ↓ja_ifle, ↓ja_icmpeq, ↓ja_icmpne, ↓ja_icmplt, ↓ja_icmpge, ↓ja_icmpgt, ↓ja_icmple, ↓ja_ifnull_n, ↓ja_ifnull_s, ↓ja_ifnonnull_n, ↓ja_ifnonnull_s, ↓ja_iret, ↓ja_aret, ↓ja_vret, ↓ja_zret0, ↓ja_zret1, ↓ja_sw, ↓ja_pe, ↓ja_pn, ↓ja_pz, ↓reduceIte, ite_self, Int.reduceEq, Int.reduceLT, Int.reduceLE, jm_wr_id, pb_none, pb_int, pg_3 hw, pl_3 hw, ps_3 hw, pg_4 hw, pl_4 hw, ps_4 hw, pg_5 hw, pl_5 hw, ps_5 hw, pg_6 hw, pl_6 hw, ps_6 hw, pg_7 hw, pl_7 hw, ps_7 hw, pg_8 hw, pl_8 hw, ps_8 hw, pg_9 hw, pl_9 hw, ps_9 hw, pg_10 hw, pl_10 hw, ps_10 hw, pg_11 hw, pl_11 hw, ps_11 hw, pg_12 hw, pl_12 hw, ps_12 hw, pg_13 hw, pl_13 hw, ps_13 hw, pg_14 hw, pl_14 hw, ps_14 hw, pg_15 hw, pl_15 hw, ps_15 hw, pg_16 hw, pl_16 hw, ps_16 hw, pg_17 hw, pl_17 hw, ps_17 hw, pg_18 hw, pl_18 hw, ps_18 hw, pg_19 hw, pl_19 hw, ps_19 hw, pg_20 hw, pl_20 hw, ps_20 hw, pg_21 hw, pl_21 hw, ps_21 hw, pg_22 hw, pl_22 hw, ps_22 hw, pg_23 hw, pl_23 hw, ps_23 hw, pg_24 hw, pl_24 hw, ps_24 hw, pg_25 hw, pl_25 hw, ps_25 hw, pg_26 hw, pl_26 hw, ps_26 hw, pg_27 hw, pl_27 hw, ps_27 hw, pg_28 hw, pl_28 hw, ps_28 hw, pg_29 hw, pl_29 hw, ps_29 hw, pg_30 hw, pl_30 hw, ps_30 hw, pg_31 hw, pl_31 hw, ps_31 hw, pg_32 hw, pl_32 hw, ps_32 hw, pg_33 hw, pm_bald hw, pm_bast hw, pg_34 hw, pl_34 hw, ps_34 hw, pg_35 hw, pl_35 hw, ps_35 hw, pg_36 hw, pl_36 hw, ps_36 hw, pg_0 hw, ps_0 hw, pg_1 hw, ps_1 hw, pg_2 hw, ps_2 hw, pg_37 hw, ps_37 hw, pg_38 hw, ps_38 hw, pc_0 hw, pc_1 hw, pc_2 hw, pc_3 hw, pc_4 hw, pc_5 hw, pu_up_ne, pu_up_at, v4, v2, e1, w10, w20, c20, w11, w12, w18, hk, e2, ↓jk_fix_pos, kX12_begins_b, kX12_begins_132, kX12_begins_262, Nat.reduceEqDiff, e3]
    · have hk1 : (b_bg τ t).1 18 d = 2 := by rw [c18, hk]
      obtain ⟨σ2, e2, hR2, hI2⟩ := R_gate (κ := κ) (g := g) (n := n) hw hn hR1 hI1 ht0 ht1 hb1 h51 hd0 hd1 (act := act) hk1
      obtain ⟨σ3, e3, hR3, hI3⟩ := R_letsGo (κ := κ) (g := g) (n := n) hw hn hR2 hI2 hd0 hd1
      have eb : b_kind (b_bg τ t) d t act a = b_gate (b_bg τ t) d t act := by unfold b_kind; rw [hk1]; simp only [Int.reduceEq, if_true, if_false]
      rw [eb]
      refine ⟨σ3, ?_, hR3, hI3⟩
      simp only [fX12_begins, jm_run, List.length_cons, List.length_nil, Nat.reduceAdd, if_true, jm_init, List.map_cons, List.map_nil, Nat.reduceSub, List.replicate, List.cons_append, List.nil_append, kX12_begins]
      rw [jk_fix_pos (by omega)]
      simp only [kX12_begins_b, kX12_begins_0, Nat.reduceEqDiff, if_false, if_true]
      simp (disch := first | omega | (simp only [List.length_cons, List.length_nil]; omega) | assumption) only [↓ja_int, ↓ja_null, ↓ja_iload_0, ↓ja_aload_0, ↓ja_istore_0, ↓ja_astore_0, ↓ja_kill_0, ↓ja_iinc_0, ↓ja_iload_1, ↓ja_aload_1, ↓ja_istore_1, ↓ja_astore_1, ↓ja_kill_1, ↓ja_iinc_1, ↓ja_iload_2, ↓ja_aload_2, ↓ja_istore_2, ↓ja_astore_2, ↓ja_kill_2, ↓ja_iinc_2, ↓ja_iload_3, ↓ja_aload_3, ↓ja_istore_3, ↓ja_astore_3, ↓ja_kill_3, ↓ja_iinc_3, ↓ja_iload_4, ↓ja_aload_4, ↓ja_istore_4, ↓ja_astore_4, ↓ja_kill_4, ↓ja_iinc_4, ↓ja_iload_5, ↓ja_aload_5, ↓ja_istore_5, ↓ja_astore_5, ↓ja_kill_5, ↓ja_iinc_5, ↓ja_iload_6, ↓ja_aload_6, ↓ja_istore_6, ↓ja_astore_6, ↓ja_kill_6, ↓ja_iinc_6, ↓ja_iload_7, ↓ja_aload_7, ↓ja_istore_7, ↓ja_astore_7, ↓ja_kill_7, ↓ja_iinc_7, ↓ja_iload_8, ↓ja_aload_8, ↓ja_istore_8, ↓ja_astore_8, ↓ja_kill_8, ↓ja_iinc_8, ↓ja_iload_9, ↓ja_aload_9, ↓ja_istore_9, ↓ja_astore_9, ↓ja_kill_9, ↓ja_iinc_9, ↓ja_iload_10, ↓ja_aload_10, ↓ja_istore_10, ↓ja_astore_10, ↓ja_kill_10, ↓ja_iinc_10, ↓ja_iadd, ↓ja_isub, ↓ja_imul, ↓ja_dup, ↓ja_dup2, ↓ja_i2b, ↓ja_ifeq, ↓ja_ifne, ↓ja_iflt, ↓ja_ifge, ↓ja_ifgt, ↓ja_ifle, ↓ja_icmpeq, ↓ja_icmpne, ↓ja_icmplt, ↓ja_icmpge, ↓ja_icmpgt, ↓ja_icmple, ↓ja_ifnull_n, ↓ja_ifnull_s, ↓ja_ifnonnull_n, ↓ja_ifnonnull_s, ↓ja_iret, ↓ja_aret, ↓ja_vret, ↓ja_zret0, ↓ja_zret1, ↓ja_sw, ↓ja_pe, ↓ja_pn, ↓ja_pz, ↓reduceIte, ite_self, Int.reduceEq, Int.reduceLT, Int.reduceLE, jm_wr_id, pb_none, pb_int, pg_3 hw, pl_3 hw, ps_3 hw, pg_4 hw, pl_4 hw, ps_4 hw, pg_5 hw, pl_5 hw, ps_5 hw, pg_6 hw, pl_6 hw, ps_6 hw, pg_7 hw, pl_7 hw, ps_7 hw, pg_8 hw, pl_8 hw, ps_8 hw, pg_9 hw, pl_9 hw, ps_9 hw, pg_10 hw, pl_10 hw, ps_10 hw, pg_11 hw, pl_11 hw, ps_11 hw, pg_12 hw, pl_12 hw, ps_12 hw, pg_13 hw, pl_13 hw, ps_13 hw, pg_14 hw, pl_14 hw, ps_14 hw, pg_15 hw, pl_15 hw, ps_15 hw, pg_16 hw, pl_16 hw, ps_16 hw, pg_17 hw, pl_17 hw, ps_17 hw, pg_18 hw, pl_18 hw, ps_18 hw, pg_19 hw, pl_19 hw, ps_19 hw, pg_20 hw, pl_20 hw, ps_20 hw, pg_21 hw, pl_21 hw, ps_21 hw, pg_22 hw, pl_22 hw, ps_22 hw, pg_23 hw, pl_23 hw, ps_23 hw, pg_24 hw, pl_24 hw, ps_24 hw, pg_25 hw, pl_25 hw, ps_25 hw, pg_26 hw, pl_26 hw, ps_26 hw, pg_27 hw, pl_27 hw, ps_27 hw, pg_28 hw, pl_28 hw, ps_28 hw, pg_29 hw, pl_29 hw, ps_29 hw, pg_30 hw, pl_30 hw, ps_30 hw, pg_31 hw, pl_31 hw, ps_31 hw, pg_32 hw, pl_32 hw, ps_32 hw, pg_33 hw, pm_bald hw, pm_bast hw, pg_34 hw, pl_34 hw, ps_34 hw, pg_35 hw, pl_35 hw, ps_35 hw, pg_36 hw, pl_36 hw, ps_36 hw, pg_0 hw, ps_0 hw, pg_1 hw, ps_1 hw, pg_2 hw, ps_2 hw, pg_37 hw, ps_37 hw, pg_38 hw, ps_38 hw, pc_0 hw, pc_1 hw, pc_2 hw, pc_3 hw, pc_4 hw, pc_5 hw, pu_up_ne, pu_up_at, v4, v2, e1, w10, w20, c20, w11, w12, w18, hk, e2, ↓jk_fix_pos, kX12_begins_b, kX12_begins_132, kX12_begins_262, Nat.reduceEqDiff, e3]
    · have hk1 : (b_bg τ t).1 18 d = 3 := by rw [c18, hk]
      obtain ⟨σ2, e2, hR2, hI2⟩ := R_barrier (κ := κ) (g := g) (n := n) hw hn hR1 hI1 ht0 ht1 hb1 h51 hd0 hd1 (act := act) 
      obtain ⟨σ3, e3, hR3, hI3⟩ := R_letsGo (κ := κ) (g := g) (n := n) hw hn hR2 hI2 hd0 hd1
      have eb : b_kind (b_bg τ t) d t act a = b_barrier (b_bg τ t) d t act := by unfold b_kind; rw [hk1]; simp only [Int.reduceEq, if_true, if_false]
      rw [eb]
      refine ⟨σ3, ?_, hR3, hI3⟩
      simp only [fX12_begins, jm_run, List.length_cons, List.length_nil, Nat.reduceAdd, if_true, jm_init, List.map_cons, List.map_nil, Nat.reduceSub, List.replicate, List.cons_append, List.nil_append, kX12_begins]
      rw [jk_fix_pos (by omega)]
      simp only [kX12_begins_b, kX12_begins_0, Nat.reduceEqDiff, if_false, if_true]
      simp (disch := first | omega | (simp only [List.length_cons, List.length_nil]; omega) | assumption) only [↓ja_int, ↓ja_null, ↓ja_iload_0, ↓ja_aload_0, ↓ja_istore_0, ↓ja_astore_0, ↓ja_kill_0, ↓ja_iinc_0, ↓ja_iload_1, ↓ja_aload_1, ↓ja_istore_1, ↓ja_astore_1, ↓ja_kill_1, ↓ja_iinc_1, ↓ja_iload_2, ↓ja_aload_2, ↓ja_istore_2, ↓ja_astore_2, ↓ja_kill_2, ↓ja_iinc_2, ↓ja_iload_3, ↓ja_aload_3, ↓ja_istore_3, ↓ja_astore_3, ↓ja_kill_3, ↓ja_iinc_3, ↓ja_iload_4, ↓ja_aload_4, ↓ja_istore_4, ↓ja_astore_4, ↓ja_kill_4, ↓ja_iinc_4, ↓ja_iload_5, ↓ja_aload_5, ↓ja_istore_5, ↓ja_astore_5, ↓ja_kill_5, ↓ja_iinc_5, ↓ja_iload_6, ↓ja_aload_6, ↓ja_istore_6, ↓ja_astore_6, ↓ja_kill_6, ↓ja_iinc_6, ↓ja_iload_7, ↓ja_aload_7, ↓ja_istore_7, ↓ja_astore_7, ↓ja_kill_7, ↓ja_iinc_7, ↓ja_iload_8, ↓ja_aload_8, ↓ja_istore_8, ↓ja_astore_8, ↓ja_kill_8, ↓ja_iinc_8, ↓ja_iload_9, ↓ja_aload_9, ↓ja_istore_9, ↓ja_astore_9, ↓ja_kill_9, ↓ja_iinc_9, ↓ja_iload_10, ↓ja_aload_10, ↓ja_istore_10, ↓ja_astore_10, ↓ja_kill_10, ↓ja_iinc_10, ↓ja_iadd, ↓ja_isub, ↓ja_imul, ↓ja_dup, ↓ja_dup2, ↓ja_i2b, ↓ja_ifeq, ↓ja_ifne, ↓ja_iflt, ↓ja_ifge, ↓ja_ifgt, ↓ja_ifle, ↓ja_icmpeq, ↓ja_icmpne, ↓ja_icmplt, ↓ja_icmpge, ↓ja_icmpgt, ↓ja_icmple, ↓ja_ifnull_n, ↓ja_ifnull_s, ↓ja_ifnonnull_n, ↓ja_ifnonnull_s, ↓ja_iret, ↓ja_aret, ↓ja_vret, ↓ja_zret0, ↓ja_zret1, ↓ja_sw, ↓ja_pe, ↓ja_pn, ↓ja_pz, ↓reduceIte, ite_self, Int.reduceEq, Int.reduceLT, Int.reduceLE, jm_wr_id, pb_none, pb_int, pg_3 hw, pl_3 hw, ps_3 hw, pg_4 hw, pl_4 hw, ps_4 hw, pg_5 hw, pl_5 hw, ps_5 hw, pg_6 hw, pl_6 hw, ps_6 hw, pg_7 hw, pl_7 hw, ps_7 hw, pg_8 hw, pl_8 hw, ps_8 hw, pg_9 hw, pl_9 hw, ps_9 hw, pg_10 hw, pl_10 hw, ps_10 hw, pg_11 hw, pl_11 hw, ps_11 hw, pg_12 hw, pl_12 hw, ps_12 hw, pg_13 hw, pl_13 hw, ps_13 hw, pg_14 hw, pl_14 hw, ps_14 hw, pg_15 hw, pl_15 hw, ps_15 hw, pg_16 hw, pl_16 hw, ps_16 hw, pg_17 hw, pl_17 hw, ps_17 hw, pg_18 hw, pl_18 hw, ps_18 hw, pg_19 hw, pl_19 hw, ps_19 hw, pg_20 hw, pl_20 hw, ps_20 hw, pg_21 hw, pl_21 hw, ps_21 hw, pg_22 hw, pl_22 hw, ps_22 hw, pg_23 hw, pl_23 hw, ps_23 hw, pg_24 hw, pl_24 hw, ps_24 hw, pg_25 hw, pl_25 hw, ps_25 hw, pg_26 hw, pl_26 hw, ps_26 hw, pg_27 hw, pl_27 hw, ps_27 hw, pg_28 hw, pl_28 hw, ps_28 hw, pg_29 hw, pl_29 hw, ps_29 hw, pg_30 hw, pl_30 hw, ps_30 hw, pg_31 hw, pl_31 hw, ps_31 hw, pg_32 hw, pl_32 hw, ps_32 hw, pg_33 hw, pm_bald hw, pm_bast hw, pg_34 hw, pl_34 hw, ps_34 hw, pg_35 hw, pl_35 hw, ps_35 hw, pg_36 hw, pl_36 hw, ps_36 hw, pg_0 hw, ps_0 hw, pg_1 hw, ps_1 hw, pg_2 hw, ps_2 hw, pg_37 hw, ps_37 hw, pg_38 hw, ps_38 hw, pc_0 hw, pc_1 hw, pc_2 hw, pc_3 hw, pc_4 hw, pc_5 hw, pu_up_ne, pu_up_at, v4, v2, e1, w10, w20, c20, w11, w12, w18, hk, e2, ↓jk_fix_pos, kX12_begins_b, kX12_begins_132, kX12_begins_262, Nat.reduceEqDiff, e3]
    · have hk1 : (b_bg τ t).1 18 d = 4 := by rw [c18, hk]
      obtain ⟨σ2, e2, hR2, hI2⟩ := R_exchange (κ := κ) (g := g) (n := n) hw hn hR1 hI1 ht0 ht1 hb1 h51 hd0 hd1 (act := act) (a := a) 
      obtain ⟨σ3, e3, hR3, hI3⟩ := R_letsGo (κ := κ) (g := g) (n := n) hw hn hR2 hI2 hd0 hd1
      have eb : b_kind (b_bg τ t) d t act a = b_exchange (b_bg τ t) d t act a := by unfold b_kind; rw [hk1]; simp only [Int.reduceEq, if_true, if_false]
      rw [eb]
      refine ⟨σ3, ?_, hR3, hI3⟩
      simp only [fX12_begins, jm_run, List.length_cons, List.length_nil, Nat.reduceAdd, if_true, jm_init, List.map_cons, List.map_nil, Nat.reduceSub, List.replicate, List.cons_append, List.nil_append, kX12_begins]
      rw [jk_fix_pos (by omega)]
      simp only [kX12_begins_b, kX12_begins_0, Nat.reduceEqDiff, if_false, if_true]
      simp (disch := first | omega | (simp only [List.length_cons, List.length_nil]; omega) | assumption) only [↓ja_int, ↓ja_null, ↓ja_iload_0, ↓ja_aload_0, ↓ja_istore_0, ↓ja_astore_0, ↓ja_kill_0, ↓ja_iinc_0, ↓ja_iload_1, ↓ja_aload_1, ↓ja_istore_1, ↓ja_astore_1, ↓ja_kill_1, ↓ja_iinc_1, ↓ja_iload_2, ↓ja_aload_2, ↓ja_istore_2, ↓ja_astore_2, ↓ja_kill_2, ↓ja_iinc_2, ↓ja_iload_3, ↓ja_aload_3, ↓ja_istore_3, ↓ja_astore_3, ↓ja_kill_3, ↓ja_iinc_3, ↓ja_iload_4, ↓ja_aload_4, ↓ja_istore_4, ↓ja_astore_4, ↓ja_kill_4, ↓ja_iinc_4, ↓ja_iload_5, ↓ja_aload_5, ↓ja_istore_5, ↓ja_astore_5, ↓ja_kill_5, ↓ja_iinc_5, ↓ja_iload_6, ↓ja_aload_6, ↓ja_istore_6, ↓ja_astore_6, ↓ja_kill_6, ↓ja_iinc_6, ↓ja_iload_7, ↓ja_aload_7, ↓ja_istore_7, ↓ja_astore_7, ↓ja_kill_7, ↓ja_iinc_7, ↓ja_iload_8, ↓ja_aload_8, ↓ja_istore_8, ↓ja_astore_8, ↓ja_kill_8, ↓ja_iinc_8, ↓ja_iload_9, ↓ja_aload_9, ↓ja_istore_9, ↓ja_astore_9, ↓ja_kill_9, ↓ja_iinc_9, ↓ja_iload_10, ↓ja_aload_10, ↓ja_istore_10, ↓ja_astore_10, ↓ja_kill_10, ↓ja_iinc_10, ↓ja_iadd, ↓ja_isub, ↓ja_imul, ↓ja_dup, ↓ja_dup2, ↓ja_i2b, ↓ja_ifeq, ↓ja_ifne, ↓ja_iflt, ↓ja_ifge, ↓ja_ifgt, ↓ja_ifle, ↓ja_icmpeq, ↓ja_icmpne, ↓ja_icmplt, ↓ja_icmpge, ↓ja_icmpgt, ↓ja_icmple, ↓ja_ifnull_n, ↓ja_ifnull_s, ↓ja_ifnonnull_n, ↓ja_ifnonnull_s, ↓ja_iret, ↓ja_aret, ↓ja_vret, ↓ja_zret0, ↓ja_zret1, ↓ja_sw, ↓ja_pe, ↓ja_pn, ↓ja_pz, ↓reduceIte, ite_self, Int.reduceEq, Int.reduceLT, Int.reduceLE, jm_wr_id, pb_none, pb_int, pg_3 hw, pl_3 hw, ps_3 hw, pg_4 hw, pl_4 hw, ps_4 hw, pg_5 hw, pl_5 hw, ps_5 hw, pg_6 hw, pl_6 hw, ps_6 hw, pg_7 hw, pl_7 hw, ps_7 hw, pg_8 hw, pl_8 hw, ps_8 hw, pg_9 hw, pl_9 hw, ps_9 hw, pg_10 hw, pl_10 hw, ps_10 hw, pg_11 hw, pl_11 hw, ps_11 hw, pg_12 hw, pl_12 hw, ps_12 hw, pg_13 hw, pl_13 hw, ps_13 hw, pg_14 hw, pl_14 hw, ps_14 hw, pg_15 hw, pl_15 hw, ps_15 hw, pg_16 hw, pl_16 hw, ps_16 hw, pg_17 hw, pl_17 hw, ps_17 hw, pg_18 hw, pl_18 hw, ps_18 hw, pg_19 hw, pl_19 hw, ps_19 hw, pg_20 hw, pl_20 hw, ps_20 hw, pg_21 hw, pl_21 hw, ps_21 hw, pg_22 hw, pl_22 hw, ps_22 hw, pg_23 hw, pl_23 hw, ps_23 hw, pg_24 hw, pl_24 hw, ps_24 hw, pg_25 hw, pl_25 hw, ps_25 hw, pg_26 hw, pl_26 hw, ps_26 hw, pg_27 hw, pl_27 hw, ps_27 hw, pg_28 hw, pl_28 hw, ps_28 hw, pg_29 hw, pl_29 hw, ps_29 hw, pg_30 hw, pl_30 hw, ps_30 hw, pg_31 hw, pl_31 hw, ps_31 hw, pg_32 hw, pl_32 hw, ps_32 hw, pg_33 hw, pm_bald hw, pm_bast hw, pg_34 hw, pl_34 hw, ps_34 hw, pg_35 hw, pl_35 hw, ps_35 hw, pg_36 hw, pl_36 hw, ps_36 hw, pg_0 hw, ps_0 hw, pg_1 hw, ps_1 hw, pg_2 hw, ps_2 hw, pg_37 hw, ps_37 hw, pg_38 hw, ps_38 hw, pc_0 hw, pc_1 hw, pc_2 hw, pc_3 hw, pc_4 hw, pc_5 hw, pu_up_ne, pu_up_at, v4, v2, e1, w10, w20, c20, w11, w12, w18, hk, e2, ↓jk_fix_pos, kX12_begins_b, kX12_begins_132, kX12_begins_262, Nat.reduceEqDiff, e3]
    · have hk1 : (b_bg τ t).1 18 d = 5 := by rw [c18, hk]
      obtain ⟨σ2, e2, hR2, hI2⟩ := R_lock (κ := κ) (g := g) (n := n) hw hn hR1 hI1 ht0 ht1 hb1 h51 hd0 hd1 (act := act) ha0 hk10
      obtain ⟨σ3, e3, hR3, hI3⟩ := R_letsGo (κ := κ) (g := g) (n := n) hw hn hR2 hI2 hd0 hd1
      have eb : b_kind (b_bg τ t) d t act a = b_lockop (b_bg τ t) d t act := by unfold b_kind; rw [hk1]; simp only [Int.reduceEq, if_true, if_false]
      rw [eb]
      refine ⟨σ3, ?_, hR3, hI3⟩
      simp only [fX12_begins, jm_run, List.length_cons, List.length_nil, Nat.reduceAdd, if_true, jm_init, List.map_cons, List.map_nil, Nat.reduceSub, List.replicate, List.cons_append, List.nil_append, kX12_begins]
      rw [jk_fix_pos (by omega)]
      simp only [kX12_begins_b, kX12_begins_0, Nat.reduceEqDiff, if_false, if_true]
      simp (disch := first | omega | (simp only [List.length_cons, List.length_nil]; omega) | assumption) only [↓ja_int, ↓ja_null, ↓ja_iload_0, ↓ja_aload_0, ↓ja_istore_0, ↓ja_astore_0, ↓ja_kill_0, ↓ja_iinc_0, ↓ja_iload_1, ↓ja_aload_1, ↓ja_istore_1, ↓ja_astore_1, ↓ja_kill_1, ↓ja_iinc_1, ↓ja_iload_2, ↓ja_aload_2, ↓ja_istore_2, ↓ja_astore_2, ↓ja_kill_2, ↓ja_iinc_2, ↓ja_iload_3, ↓ja_aload_3, ↓ja_istore_3, ↓ja_astore_3, ↓ja_kill_3, ↓ja_iinc_3, ↓ja_iload_4, ↓ja_aload_4, ↓ja_istore_4, ↓ja_astore_4, ↓ja_kill_4, ↓ja_iinc_4, ↓ja_iload_5, ↓ja_aload_5, ↓ja_istore_5, ↓ja_astore_5, ↓ja_kill_5, ↓ja_iinc_5, ↓ja_iload_6, ↓ja_aload_6, ↓ja_istore_6, ↓ja_astore_6, ↓ja_kill_6, ↓ja_iinc_6, ↓ja_iload_7, ↓ja_aload_7, ↓ja_istore_7, ↓ja_astore_7, ↓ja_kill_7, ↓ja_iinc_7, ↓ja_iload_8, ↓ja_aload_8, ↓ja_istore_8, ↓ja_astore_8, ↓ja_kill_8, ↓ja_iinc_8, ↓ja_iload_9, ↓ja_aload_9, ↓ja_istore_9, ↓ja_astore_9, ↓ja_kill_9, ↓ja_iinc_9, ↓ja_iload_10, ↓ja_aload_10, ↓ja_istore_10, ↓ja_astore_10, ↓ja_kill_10, ↓ja_iinc_10, ↓ja_iadd, ↓ja_isub, ↓ja_imul, ↓ja_dup, ↓ja_dup2, ↓ja_i2b, ↓ja_ifeq, ↓ja_ifne, ↓ja_iflt, ↓ja_ifge, ↓ja_ifgt, ↓ja_ifle, ↓ja_icmpeq, ↓ja_icmpne, ↓ja_icmplt, ↓ja_icmpge, ↓ja_icmpgt, ↓ja_icmple, ↓ja_ifnull_n, ↓ja_ifnull_s, ↓ja_ifnonnull_n, ↓ja_ifnonnull_s, ↓ja_iret, ↓ja_aret, ↓ja_vret, ↓ja_zret0, ↓ja_zret1, ↓ja_sw, ↓ja_pe, ↓ja_pn, ↓ja_pz, ↓reduceIte, ite_self, Int.reduceEq, Int.reduceLT, Int.reduceLE, jm_wr_id, pb_none, pb_int, pg_3 hw, pl_3 hw, ps_3 hw, pg_4 hw, pl_4 hw, ps_4 hw, pg_5 hw, pl_5 hw, ps_5 hw, pg_6 hw, pl_6 hw, ps_6 hw, pg_7 hw, pl_7 hw, ps_7 hw, pg_8 hw, pl_8 hw, ps_8 hw, pg_9 hw, pl_9 hw, ps_9 hw, pg_10 hw, pl_10 hw, ps_10 hw, pg_11 hw, pl_11 hw, ps_11 hw, pg_12 hw, pl_12 hw, ps_12 hw, pg_13 hw, pl_13 hw, ps_13 hw, pg_14 hw, pl_14 hw, ps_14 hw, pg_15 hw, pl_15 hw, ps_15 hw, pg_16 hw, pl_16 hw, ps_16 hw, pg_17 hw, pl_17 hw, ps_17 hw, pg_18 hw, pl_18 hw, ps_18 hw, pg_19 hw, pl_19 hw, ps_19 hw, pg_20 hw, pl_20 hw, ps_20 hw, pg_21 hw, pl_21 hw, ps_21 hw, pg_22 hw, pl_22 hw, ps_22 hw, pg_23 hw, pl_23 hw, ps_23 hw, pg_24 hw, pl_24 hw, ps_24 hw, pg_25 hw, pl_25 hw, ps_25 hw, pg_26 hw, pl_26 hw, ps_26 hw, pg_27 hw, pl_27 hw, ps_27 hw, pg_28 hw, pl_28 hw, ps_28 hw, pg_29 hw, pl_29 hw, ps_29 hw, pg_30 hw, pl_30 hw, ps_30 hw, pg_31 hw, pl_31 hw, ps_31 hw, pg_32 hw, pl_32 hw, ps_32 hw, pg_33 hw, pm_bald hw, pm_bast hw, pg_34 hw, pl_34 hw, ps_34 hw, pg_35 hw, pl_35 hw, ps_35 hw, pg_36 hw, pl_36 hw, ps_36 hw, pg_0 hw, ps_0 hw, pg_1 hw, ps_1 hw, pg_2 hw, ps_2 hw, pg_37 hw, ps_37 hw, pg_38 hw, ps_38 hw, pc_0 hw, pc_1 hw, pc_2 hw, pc_3 hw, pc_4 hw, pc_5 hw, pu_up_ne, pu_up_at, v4, v2, e1, w10, w20, c20, w11, w12, w18, hk, e2, ↓jk_fix_pos, kX12_begins_b, kX12_begins_132, kX12_begins_262, Nat.reduceEqDiff, e3]
    · have hk1 : (b_bg τ t).1 18 d = 6 := by rw [c18, hk]
      obtain ⟨σ2, e2, hR2, hI2⟩ := R_handOver (κ := κ) (g := g) (n := n) hw hn hR1 hI1 ht0 ht1 hb1 h51 hd0 hd1 (act := act) (a := a) ha0 hk1
      obtain ⟨σ3, e3, hR3, hI3⟩ := R_letsGo (κ := κ) (g := g) (n := n) hw hn hR2 hI2 hd0 hd1
      have eb : b_kind (b_bg τ t) d t act a = b_hand (b_bg τ t) d t act a := by unfold b_kind; rw [hk1]; simp only [Int.reduceEq, if_true, if_false]
      rw [eb]
      refine ⟨σ3, ?_, hR3, hI3⟩
      simp only [fX12_begins, jm_run, List.length_cons, List.length_nil, Nat.reduceAdd, if_true, jm_init, List.map_cons, List.map_nil, Nat.reduceSub, List.replicate, List.cons_append, List.nil_append, kX12_begins]
      rw [jk_fix_pos (by omega)]
      simp only [kX12_begins_b, kX12_begins_0, Nat.reduceEqDiff, if_false, if_true]
      simp (disch := first | omega | (simp only [List.length_cons, List.length_nil]; omega) | assumption) only [↓ja_int, ↓ja_null, ↓ja_iload_0, ↓ja_aload_0, ↓ja_istore_0, ↓ja_astore_0, ↓ja_kill_0, ↓ja_iinc_0, ↓ja_iload_1, ↓ja_aload_1, ↓ja_istore_1, ↓ja_astore_1, ↓ja_kill_1, ↓ja_iinc_1, ↓ja_iload_2, ↓ja_aload_2, ↓ja_istore_2, ↓ja_astore_2, ↓ja_kill_2, ↓ja_iinc_2, ↓ja_iload_3, ↓ja_aload_3, ↓ja_istore_3, ↓ja_astore_3, ↓ja_kill_3, ↓ja_iinc_3, ↓ja_iload_4, ↓ja_aload_4, ↓ja_istore_4, ↓ja_astore_4, ↓ja_kill_4, ↓ja_iinc_4, ↓ja_iload_5, ↓ja_aload_5, ↓ja_istore_5, ↓ja_astore_5, ↓ja_kill_5, ↓ja_iinc_5, ↓ja_iload_6, ↓ja_aload_6, ↓ja_istore_6, ↓ja_astore_6, ↓ja_kill_6, ↓ja_iinc_6, ↓ja_iload_7, ↓ja_aload_7, ↓ja_istore_7, ↓ja_astore_7, ↓ja_kill_7, ↓ja_iinc_7, ↓ja_iload_8, ↓ja_aload_8, ↓ja_istore_8, ↓ja_astore_8, ↓ja_kill_8, ↓ja_iinc_8, ↓ja_iload_9, ↓ja_aload_9, ↓ja_istore_9, ↓ja_astore_9, ↓ja_kill_9, ↓ja_iinc_9, ↓ja_iload_10, ↓ja_aload_10, ↓ja_istore_10, ↓ja_astore_10, ↓ja_kill_10, ↓ja_iinc_10, ↓ja_iadd, ↓ja_isub, ↓ja_imul, ↓ja_dup, ↓ja_dup2, ↓ja_i2b, ↓ja_ifeq, ↓ja_ifne, ↓ja_iflt, ↓ja_ifge, ↓ja_ifgt, ↓ja_ifle, ↓ja_icmpeq, ↓ja_icmpne, ↓ja_icmplt, ↓ja_icmpge, ↓ja_icmpgt, ↓ja_icmple, ↓ja_ifnull_n, ↓ja_ifnull_s, ↓ja_ifnonnull_n, ↓ja_ifnonnull_s, ↓ja_iret, ↓ja_aret, ↓ja_vret, ↓ja_zret0, ↓ja_zret1, ↓ja_sw, ↓ja_pe, ↓ja_pn, ↓ja_pz, ↓reduceIte, ite_self, Int.reduceEq, Int.reduceLT, Int.reduceLE, jm_wr_id, pb_none, pb_int, pg_3 hw, pl_3 hw, ps_3 hw, pg_4 hw, pl_4 hw, ps_4 hw, pg_5 hw, pl_5 hw, ps_5 hw, pg_6 hw, pl_6 hw, ps_6 hw, pg_7 hw, pl_7 hw, ps_7 hw, pg_8 hw, pl_8 hw, ps_8 hw, pg_9 hw, pl_9 hw, ps_9 hw, pg_10 hw, pl_10 hw, ps_10 hw, pg_11 hw, pl_11 hw, ps_11 hw, pg_12 hw, pl_12 hw, ps_12 hw, pg_13 hw, pl_13 hw, ps_13 hw, pg_14 hw, pl_14 hw, ps_14 hw, pg_15 hw, pl_15 hw, ps_15 hw, pg_16 hw, pl_16 hw, ps_16 hw, pg_17 hw, pl_17 hw, ps_17 hw, pg_18 hw, pl_18 hw, ps_18 hw, pg_19 hw, pl_19 hw, ps_19 hw, pg_20 hw, pl_20 hw, ps_20 hw, pg_21 hw, pl_21 hw, ps_21 hw, pg_22 hw, pl_22 hw, ps_22 hw, pg_23 hw, pl_23 hw, ps_23 hw, pg_24 hw, pl_24 hw, ps_24 hw, pg_25 hw, pl_25 hw, ps_25 hw, pg_26 hw, pl_26 hw, ps_26 hw, pg_27 hw, pl_27 hw, ps_27 hw, pg_28 hw, pl_28 hw, ps_28 hw, pg_29 hw, pl_29 hw, ps_29 hw, pg_30 hw, pl_30 hw, ps_30 hw, pg_31 hw, pl_31 hw, ps_31 hw, pg_32 hw, pl_32 hw, ps_32 hw, pg_33 hw, pm_bald hw, pm_bast hw, pg_34 hw, pl_34 hw, ps_34 hw, pg_35 hw, pl_35 hw, ps_35 hw, pg_36 hw, pl_36 hw, ps_36 hw, pg_0 hw, ps_0 hw, pg_1 hw, ps_1 hw, pg_2 hw, ps_2 hw, pg_37 hw, ps_37 hw, pg_38 hw, ps_38 hw, pc_0 hw, pc_1 hw, pc_2 hw, pc_3 hw, pc_4 hw, pc_5 hw, pu_up_ne, pu_up_at, v4, v2, e1, w10, w20, c20, w11, w12, w18, hk, e2, ↓jk_fix_pos, kX12_begins_b, kX12_begins_132, kX12_begins_262, Nat.reduceEqDiff, e3]
    · have hk1 : (b_bg τ t).1 18 d = 7 := by rw [c18, hk]
      obtain ⟨σ2, e2, hR2, hI2⟩ := R_tickets (κ := κ) (g := g) (n := n) hw hn hR1 hI1 ht0 ht1 hb1 h51 hd0 hd1 (act := act) (a := a) hk1
      obtain ⟨σ3, e3, hR3, hI3⟩ := R_letsGo (κ := κ) (g := g) (n := n) hw hn hR2 hI2 hd0 hd1
      have eb : b_kind (b_bg τ t) d t act a = b_tickets (b_bg τ t) d t act a := by unfold b_kind; rw [hk1]; simp only [Int.reduceEq, if_true, if_false]
      rw [eb]
      refine ⟨σ3, ?_, hR3, hI3⟩
      simp only [fX12_begins, jm_run, List.length_cons, List.length_nil, Nat.reduceAdd, if_true, jm_init, List.map_cons, List.map_nil, Nat.reduceSub, List.replicate, List.cons_append, List.nil_append, kX12_begins]
      rw [jk_fix_pos (by omega)]
      simp only [kX12_begins_b, kX12_begins_0, Nat.reduceEqDiff, if_false, if_true]
      simp (disch := first | omega | (simp only [List.length_cons, List.length_nil]; omega) | assumption) only [↓ja_int, ↓ja_null, ↓ja_iload_0, ↓ja_aload_0, ↓ja_istore_0, ↓ja_astore_0, ↓ja_kill_0, ↓ja_iinc_0, ↓ja_iload_1, ↓ja_aload_1, ↓ja_istore_1, ↓ja_astore_1, ↓ja_kill_1, ↓ja_iinc_1, ↓ja_iload_2, ↓ja_aload_2, ↓ja_istore_2, ↓ja_astore_2, ↓ja_kill_2, ↓ja_iinc_2, ↓ja_iload_3, ↓ja_aload_3, ↓ja_istore_3, ↓ja_astore_3, ↓ja_kill_3, ↓ja_iinc_3, ↓ja_iload_4, ↓ja_aload_4, ↓ja_istore_4, ↓ja_astore_4, ↓ja_kill_4, ↓ja_iinc_4, ↓ja_iload_5, ↓ja_aload_5, ↓ja_istore_5, ↓ja_astore_5, ↓ja_kill_5, ↓ja_iinc_5, ↓ja_iload_6, ↓ja_aload_6, ↓ja_istore_6, ↓ja_astore_6, ↓ja_kill_6, ↓ja_iinc_6, ↓ja_iload_7, ↓ja_aload_7, ↓ja_istore_7, ↓ja_astore_7, ↓ja_kill_7, ↓ja_iinc_7, ↓ja_iload_8, ↓ja_aload_8, ↓ja_istore_8, ↓ja_astore_8, ↓ja_kill_8, ↓ja_iinc_8, ↓ja_iload_9, ↓ja_aload_9, ↓ja_istore_9, ↓ja_astore_9, ↓ja_kill_9, ↓ja_iinc_9, ↓ja_iload_10, ↓ja_aload_10, ↓ja_istore_10, ↓ja_astore_10, ↓ja_kill_10, ↓ja_iinc_10, ↓ja_iadd, ↓ja_isub, ↓ja_imul, ↓ja_dup, ↓ja_dup2, ↓ja_i2b, ↓ja_ifeq, ↓ja_ifne, ↓ja_iflt, ↓ja_ifge, ↓ja_ifgt, ↓ja_ifle, ↓ja_icmpeq, ↓ja_icmpne, ↓ja_icmplt, ↓ja_icmpge, ↓ja_icmpgt, ↓ja_icmple, ↓ja_ifnull_n, ↓ja_ifnull_s, ↓ja_ifnonnull_n, ↓ja_ifnonnull_s, ↓ja_iret, ↓ja_aret, ↓ja_vret, ↓ja_zret0, ↓ja_zret1, ↓ja_sw, ↓ja_pe, ↓ja_pn, ↓ja_pz, ↓reduceIte, ite_self, Int.reduceEq, Int.reduceLT, Int.reduceLE, jm_wr_id, pb_none, pb_int, pg_3 hw, pl_3 hw, ps_3 hw, pg_4 hw, pl_4 hw, ps_4 hw, pg_5 hw, pl_5 hw, ps_5 hw, pg_6 hw, pl_6 hw, ps_6 hw, pg_7 hw, pl_7 hw, ps_7 hw, pg_8 hw, pl_8 hw, ps_8 hw, pg_9 hw, pl_9 hw, ps_9 hw, pg_10 hw, pl_10 hw, ps_10 hw, pg_11 hw, pl_11 hw, ps_11 hw, pg_12 hw, pl_12 hw, ps_12 hw, pg_13 hw, pl_13 hw, ps_13 hw, pg_14 hw, pl_14 hw, ps_14 hw, pg_15 hw, pl_15 hw, ps_15 hw, pg_16 hw, pl_16 hw, ps_16 hw, pg_17 hw, pl_17 hw, ps_17 hw, pg_18 hw, pl_18 hw, ps_18 hw, pg_19 hw, pl_19 hw, ps_19 hw, pg_20 hw, pl_20 hw, ps_20 hw, pg_21 hw, pl_21 hw, ps_21 hw, pg_22 hw, pl_22 hw, ps_22 hw, pg_23 hw, pl_23 hw, ps_23 hw, pg_24 hw, pl_24 hw, ps_24 hw, pg_25 hw, pl_25 hw, ps_25 hw, pg_26 hw, pl_26 hw, ps_26 hw, pg_27 hw, pl_27 hw, ps_27 hw, pg_28 hw, pl_28 hw, ps_28 hw, pg_29 hw, pl_29 hw, ps_29 hw, pg_30 hw, pl_30 hw, ps_30 hw, pg_31 hw, pl_31 hw, ps_31 hw, pg_32 hw, pl_32 hw, ps_32 hw, pg_33 hw, pm_bald hw, pm_bast hw, pg_34 hw, pl_34 hw, ps_34 hw, pg_35 hw, pl_35 hw, ps_35 hw, pg_36 hw, pl_36 hw, ps_36 hw, pg_0 hw, ps_0 hw, pg_1 hw, ps_1 hw, pg_2 hw, ps_2 hw, pg_37 hw, ps_37 hw, pg_38 hw, ps_38 hw, pc_0 hw, pc_1 hw, pc_2 hw, pc_3 hw, pc_4 hw, pc_5 hw, pu_up_ne, pu_up_at, v4, v2, e1, w10, w20, c20, w11, w12, w18, hk, e2, ↓jk_fix_pos, kX12_begins_b, kX12_begins_132, kX12_begins_262, Nat.reduceEqDiff, e3]
    · have hk1 : (b_bg τ t).1 18 d = 8 := by rw [c18, hk]
      obtain ⟨σ2, e2, hR2, hI2⟩ := R_cell (κ := κ) (g := g) (n := n) hw hn hR1 hI1 ht0 ht1 hb1 h51 hd0 hd1 (act := act) (a := a) 
      obtain ⟨σ3, e3, hR3, hI3⟩ := R_letsGo (κ := κ) (g := g) (n := n) hw hn hR2 hI2 hd0 hd1
      have eb : b_kind (b_bg τ t) d t act a = b_cell (b_bg τ t) d t act a := by unfold b_kind; rw [hk1]; simp only [Int.reduceEq, if_true, if_false]
      rw [eb]
      refine ⟨σ3, ?_, hR3, hI3⟩
      simp only [fX12_begins, jm_run, List.length_cons, List.length_nil, Nat.reduceAdd, if_true, jm_init, List.map_cons, List.map_nil, Nat.reduceSub, List.replicate, List.cons_append, List.nil_append, kX12_begins]
      rw [jk_fix_pos (by omega)]
      simp only [kX12_begins_b, kX12_begins_0, Nat.reduceEqDiff, if_false, if_true]
      simp (disch := first | omega | (simp only [List.length_cons, List.length_nil]; omega) | assumption) only [↓ja_int, ↓ja_null, ↓ja_iload_0, ↓ja_aload_0, ↓ja_istore_0, ↓ja_astore_0, ↓ja_kill_0, ↓ja_iinc_0, ↓ja_iload_1, ↓ja_aload_1, ↓ja_istore_1, ↓ja_astore_1, ↓ja_kill_1, ↓ja_iinc_1, ↓ja_iload_2, ↓ja_aload_2, ↓ja_istore_2, ↓ja_astore_2, ↓ja_kill_2, ↓ja_iinc_2, ↓ja_iload_3, ↓ja_aload_3, ↓ja_istore_3, ↓ja_astore_3, ↓ja_kill_3, ↓ja_iinc_3, ↓ja_iload_4, ↓ja_aload_4, ↓ja_istore_4, ↓ja_astore_4, ↓ja_kill_4, ↓ja_iinc_4, ↓ja_iload_5, ↓ja_aload_5, ↓ja_istore_5, ↓ja_astore_5, ↓ja_kill_5, ↓ja_iinc_5, ↓ja_iload_6, ↓ja_aload_6, ↓ja_istore_6, ↓ja_astore_6, ↓ja_kill_6, ↓ja_iinc_6, ↓ja_iload_7, ↓ja_aload_7, ↓ja_istore_7, ↓ja_astore_7, ↓ja_kill_7, ↓ja_iinc_7, ↓ja_iload_8, ↓ja_aload_8, ↓ja_istore_8, ↓ja_astore_8, ↓ja_kill_8, ↓ja_iinc_8, ↓ja_iload_9, ↓ja_aload_9, ↓ja_istore_9, ↓ja_astore_9, ↓ja_kill_9, ↓ja_iinc_9, ↓ja_iload_10, ↓ja_aload_10, ↓ja_istore_10, ↓ja_astore_10, ↓ja_kill_10, ↓ja_iinc_10, ↓ja_iadd, ↓ja_isub, ↓ja_imul, ↓ja_dup, ↓ja_dup2, ↓ja_i2b, ↓ja_ifeq, ↓ja_ifne, ↓ja_iflt, ↓ja_ifge, ↓ja_ifgt, ↓ja_ifle, ↓ja_icmpeq, ↓ja_icmpne, ↓ja_icmplt, ↓ja_icmpge, ↓ja_icmpgt, ↓ja_icmple, ↓ja_ifnull_n, ↓ja_ifnull_s, ↓ja_ifnonnull_n, ↓ja_ifnonnull_s, ↓ja_iret, ↓ja_aret, ↓ja_vret, ↓ja_zret0, ↓ja_zret1, ↓ja_sw, ↓ja_pe, ↓ja_pn, ↓ja_pz, ↓reduceIte, ite_self, Int.reduceEq, Int.reduceLT, Int.reduceLE, jm_wr_id, pb_none, pb_int, pg_3 hw, pl_3 hw, ps_3 hw, pg_4 hw, pl_4 hw, ps_4 hw, pg_5 hw, pl_5 hw, ps_5 hw, pg_6 hw, pl_6 hw, ps_6 hw, pg_7 hw, pl_7 hw, ps_7 hw, pg_8 hw, pl_8 hw, ps_8 hw, pg_9 hw, pl_9 hw, ps_9 hw, pg_10 hw, pl_10 hw, ps_10 hw, pg_11 hw, pl_11 hw, ps_11 hw, pg_12 hw, pl_12 hw, ps_12 hw, pg_13 hw, pl_13 hw, ps_13 hw, pg_14 hw, pl_14 hw, ps_14 hw, pg_15 hw, pl_15 hw, ps_15 hw, pg_16 hw, pl_16 hw, ps_16 hw, pg_17 hw, pl_17 hw, ps_17 hw, pg_18 hw, pl_18 hw, ps_18 hw, pg_19 hw, pl_19 hw, ps_19 hw, pg_20 hw, pl_20 hw, ps_20 hw, pg_21 hw, pl_21 hw, ps_21 hw, pg_22 hw, pl_22 hw, ps_22 hw, pg_23 hw, pl_23 hw, ps_23 hw, pg_24 hw, pl_24 hw, ps_24 hw, pg_25 hw, pl_25 hw, ps_25 hw, pg_26 hw, pl_26 hw, ps_26 hw, pg_27 hw, pl_27 hw, ps_27 hw, pg_28 hw, pl_28 hw, ps_28 hw, pg_29 hw, pl_29 hw, ps_29 hw, pg_30 hw, pl_30 hw, ps_30 hw, pg_31 hw, pl_31 hw, ps_31 hw, pg_32 hw, pl_32 hw, ps_32 hw, pg_33 hw, pm_bald hw, pm_bast hw, pg_34 hw, pl_34 hw, ps_34 hw, pg_35 hw, pl_35 hw, ps_35 hw, pg_36 hw, pl_36 hw, ps_36 hw, pg_0 hw, ps_0 hw, pg_1 hw, ps_1 hw, pg_2 hw, ps_2 hw, pg_37 hw, ps_37 hw, pg_38 hw, ps_38 hw, pc_0 hw, pc_1 hw, pc_2 hw, pc_3 hw, pc_4 hw, pc_5 hw, pu_up_ne, pu_up_at, v4, v2, e1, w10, w20, c20, w11, w12, w18, hk, e2, ↓jk_fix_pos, kX12_begins_b, kX12_begins_132, kX12_begins_262, Nat.reduceEqDiff, e3]
    · have hk1 : (b_bg τ t).1 18 d = 9 := by rw [c18, hk]
      obtain ⟨σ2, e2, hR2, hI2⟩ := R_phaser (κ := κ) (g := g) (n := n) hw hn hR1 hI1 ht0 ht1 hb1 h51 hd0 hd1 (act := act) hk1
      obtain ⟨σ3, e3, hR3, hI3⟩ := R_letsGo (κ := κ) (g := g) (n := n) hw hn hR2 hI2 hd0 hd1
      have eb : b_kind (b_bg τ t) d t act a = b_phaser (b_bg τ t) d t act := by unfold b_kind; rw [hk1]; simp only [Int.reduceEq, if_true, if_false]
      rw [eb]
      refine ⟨σ3, ?_, hR3, hI3⟩
      simp only [fX12_begins, jm_run, List.length_cons, List.length_nil, Nat.reduceAdd, if_true, jm_init, List.map_cons, List.map_nil, Nat.reduceSub, List.replicate, List.cons_append, List.nil_append, kX12_begins]
      rw [jk_fix_pos (by omega)]
      simp only [kX12_begins_b, kX12_begins_0, Nat.reduceEqDiff, if_false, if_true]
      simp (disch := first | omega | (simp only [List.length_cons, List.length_nil]; omega) | assumption) only [↓ja_int, ↓ja_null, ↓ja_iload_0, ↓ja_aload_0, ↓ja_istore_0, ↓ja_astore_0, ↓ja_kill_0, ↓ja_iinc_0, ↓ja_iload_1, ↓ja_aload_1, ↓ja_istore_1, ↓ja_astore_1, ↓ja_kill_1, ↓ja_iinc_1, ↓ja_iload_2, ↓ja_aload_2, ↓ja_istore_2, ↓ja_astore_2, ↓ja_kill_2, ↓ja_iinc_2, ↓ja_iload_3, ↓ja_aload_3, ↓ja_istore_3, ↓ja_astore_3, ↓ja_kill_3, ↓ja_iinc_3, ↓ja_iload_4, ↓ja_aload_4, ↓ja_istore_4, ↓ja_astore_4, ↓ja_kill_4, ↓ja_iinc_4, ↓ja_iload_5, ↓ja_aload_5, ↓ja_istore_5, ↓ja_astore_5, ↓ja_kill_5, ↓ja_iinc_5, ↓ja_iload_6, ↓ja_aload_6, ↓ja_istore_6, ↓ja_astore_6, ↓ja_kill_6, ↓ja_iinc_6, ↓ja_iload_7, ↓ja_aload_7, ↓ja_istore_7, ↓ja_astore_7, ↓ja_kill_7, ↓ja_iinc_7, ↓ja_iload_8, ↓ja_aload_8, ↓ja_istore_8, ↓ja_astore_8, ↓ja_kill_8, ↓ja_iinc_8, ↓ja_iload_9, ↓ja_aload_9, ↓ja_istore_9, ↓ja_astore_9, ↓ja_kill_9, ↓ja_iinc_9, ↓ja_iload_10, ↓ja_aload_10, ↓ja_istore_10, ↓ja_astore_10, ↓ja_kill_10, ↓ja_iinc_10, ↓ja_iadd, ↓ja_isub, ↓ja_imul, ↓ja_dup, ↓ja_dup2, ↓ja_i2b, ↓ja_ifeq, ↓ja_ifne, ↓ja_iflt, ↓ja_ifge, ↓ja_ifgt, ↓ja_ifle, ↓ja_icmpeq, ↓ja_icmpne, ↓ja_icmplt, ↓ja_icmpge, ↓ja_icmpgt, ↓ja_icmple, ↓ja_ifnull_n, ↓ja_ifnull_s, ↓ja_ifnonnull_n, ↓ja_ifnonnull_s, ↓ja_iret, ↓ja_aret, ↓ja_vret, ↓ja_zret0, ↓ja_zret1, ↓ja_sw, ↓ja_pe, ↓ja_pn, ↓ja_pz, ↓reduceIte, ite_self, Int.reduceEq, Int.reduceLT, Int.reduceLE, jm_wr_id, pb_none, pb_int, pg_3 hw, pl_3 hw, ps_3 hw, pg_4 hw, pl_4 hw, ps_4 hw, pg_5 hw, pl_5 hw, ps_5 hw, pg_6 hw, pl_6 hw, ps_6 hw, pg_7 hw, pl_7 hw, ps_7 hw, pg_8 hw, pl_8 hw, ps_8 hw, pg_9 hw, pl_9 hw, ps_9 hw, pg_10 hw, pl_10 hw, ps_10 hw, pg_11 hw, pl_11 hw, ps_11 hw, pg_12 hw, pl_12 hw, ps_12 hw, pg_13 hw, pl_13 hw, ps_13 hw, pg_14 hw, pl_14 hw, ps_14 hw, pg_15 hw, pl_15 hw, ps_15 hw, pg_16 hw, pl_16 hw, ps_16 hw, pg_17 hw, pl_17 hw, ps_17 hw, pg_18 hw, pl_18 hw, ps_18 hw, pg_19 hw, pl_19 hw, ps_19 hw, pg_20 hw, pl_20 hw, ps_20 hw, pg_21 hw, pl_21 hw, ps_21 hw, pg_22 hw, pl_22 hw, ps_22 hw, pg_23 hw, pl_23 hw, ps_23 hw, pg_24 hw, pl_24 hw, ps_24 hw, pg_25 hw, pl_25 hw, ps_25 hw, pg_26 hw, pl_26 hw, ps_26 hw, pg_27 hw, pl_27 hw, ps_27 hw, pg_28 hw, pl_28 hw, ps_28 hw, pg_29 hw, pl_29 hw, ps_29 hw, pg_30 hw, pl_30 hw, ps_30 hw, pg_31 hw, pl_31 hw, ps_31 hw, pg_32 hw, pl_32 hw, ps_32 hw, pg_33 hw, pm_bald hw, pm_bast hw, pg_34 hw, pl_34 hw, ps_34 hw, pg_35 hw, pl_35 hw, ps_35 hw, pg_36 hw, pl_36 hw, ps_36 hw, pg_0 hw, ps_0 hw, pg_1 hw, ps_1 hw, pg_2 hw, ps_2 hw, pg_37 hw, ps_37 hw, pg_38 hw, ps_38 hw, pc_0 hw, pc_1 hw, pc_2 hw, pc_3 hw, pc_4 hw, pc_5 hw, pu_up_ne, pu_up_at, v4, v2, e1, w10, w20, c20, w11, w12, w18, hk, e2, ↓jk_fix_pos, kX12_begins_b, kX12_begins_132, kX12_begins_262, Nat.reduceEqDiff, e3]
    · have hk1 : (b_bg τ t).1 18 d = 10 := by rw [c18, hk]
      obtain ⟨σ2, e2, hR2, hI2⟩ := R_pause (κ := κ) (g := g) (n := n) hw hn hR1 hI1 ht0 ht1 hb1 h51 hd0 hd1 (act := act) 
      obtain ⟨σ3, e3, hR3, hI3⟩ := R_letsGo (κ := κ) (g := g) (n := n) hw hn hR2 hI2 hd0 hd1
      have eb : b_kind (b_bg τ t) d t act a = b_pause (b_bg τ t) d t act := by unfold b_kind; rw [hk1]; simp only [Int.reduceEq, if_true, if_false]
      rw [eb]
      refine ⟨σ3, ?_, hR3, hI3⟩
      simp only [fX12_begins, jm_run, List.length_cons, List.length_nil, Nat.reduceAdd, if_true, jm_init, List.map_cons, List.map_nil, Nat.reduceSub, List.replicate, List.cons_append, List.nil_append, kX12_begins]
      rw [jk_fix_pos (by omega)]
      simp only [kX12_begins_b, kX12_begins_0, Nat.reduceEqDiff, if_false, if_true]
      simp (disch := first | omega | (simp only [List.length_cons, List.length_nil]; omega) | assumption) only [↓ja_int, ↓ja_null, ↓ja_iload_0, ↓ja_aload_0, ↓ja_istore_0, ↓ja_astore_0, ↓ja_kill_0, ↓ja_iinc_0, ↓ja_iload_1, ↓ja_aload_1, ↓ja_istore_1, ↓ja_astore_1, ↓ja_kill_1, ↓ja_iinc_1, ↓ja_iload_2, ↓ja_aload_2, ↓ja_istore_2, ↓ja_astore_2, ↓ja_kill_2, ↓ja_iinc_2, ↓ja_iload_3, ↓ja_aload_3, ↓ja_istore_3, ↓ja_astore_3, ↓ja_kill_3, ↓ja_iinc_3, ↓ja_iload_4, ↓ja_aload_4, ↓ja_istore_4, ↓ja_astore_4, ↓ja_kill_4, ↓ja_iinc_4, ↓ja_iload_5, ↓ja_aload_5, ↓ja_istore_5, ↓ja_astore_5, ↓ja_kill_5, ↓ja_iinc_5, ↓ja_iload_6, ↓ja_aload_6, ↓ja_istore_6, ↓ja_astore_6, ↓ja_kill_6, ↓ja_iinc_6, ↓ja_iload_7, ↓ja_aload_7, ↓ja_istore_7, ↓ja_astore_7, ↓ja_kill_7, ↓ja_iinc_7, ↓ja_iload_8, ↓ja_aload_8, ↓ja_istore_8, ↓ja_astore_8, ↓ja_kill_8, ↓ja_iinc_8, ↓ja_iload_9, ↓ja_aload_9, ↓ja_istore_9, ↓ja_astore_9, ↓ja_kill_9, ↓ja_iinc_9, ↓ja_iload_10, ↓ja_aload_10, ↓ja_istore_10, ↓ja_astore_10, ↓ja_kill_10, ↓ja_iinc_10, ↓ja_iadd, ↓ja_isub, ↓ja_imul, ↓ja_dup, ↓ja_dup2, ↓ja_i2b, ↓ja_ifeq, ↓ja_ifne, ↓ja_iflt, ↓ja_ifge, ↓ja_ifgt, ↓ja_ifle, ↓ja_icmpeq, ↓ja_icmpne, ↓ja_icmplt, ↓ja_icmpge, ↓ja_icmpgt, ↓ja_icmple, ↓ja_ifnull_n, ↓ja_ifnull_s, ↓ja_ifnonnull_n, ↓ja_ifnonnull_s, ↓ja_iret, ↓ja_aret, ↓ja_vret, ↓ja_zret0, ↓ja_zret1, ↓ja_sw, ↓ja_pe, ↓ja_pn, ↓ja_pz, ↓reduceIte, ite_self, Int.reduceEq, Int.reduceLT, Int.reduceLE, jm_wr_id, pb_none, pb_int, pg_3 hw, pl_3 hw, ps_3 hw, pg_4 hw, pl_4 hw, ps_4 hw, pg_5 hw, pl_5 hw, ps_5 hw, pg_6 hw, pl_6 hw, ps_6 hw, pg_7 hw, pl_7 hw, ps_7 hw, pg_8 hw, pl_8 hw, ps_8 hw, pg_9 hw, pl_9 hw, ps_9 hw, pg_10 hw, pl_10 hw, ps_10 hw, pg_11 hw, pl_11 hw, ps_11 hw, pg_12 hw, pl_12 hw, ps_12 hw, pg_13 hw, pl_13 hw, ps_13 hw, pg_14 hw, pl_14 hw, ps_14 hw, pg_15 hw, pl_15 hw, ps_15 hw, pg_16 hw, pl_16 hw, ps_16 hw, pg_17 hw, pl_17 hw, ps_17 hw, pg_18 hw, pl_18 hw, ps_18 hw, pg_19 hw, pl_19 hw, ps_19 hw, pg_20 hw, pl_20 hw, ps_20 hw, pg_21 hw, pl_21 hw, ps_21 hw, pg_22 hw, pl_22 hw, ps_22 hw, pg_23 hw, pl_23 hw, ps_23 hw, pg_24 hw, pl_24 hw, ps_24 hw, pg_25 hw, pl_25 hw, ps_25 hw, pg_26 hw, pl_26 hw, ps_26 hw, pg_27 hw, pl_27 hw, ps_27 hw, pg_28 hw, pl_28 hw, ps_28 hw, pg_29 hw, pl_29 hw, ps_29 hw, pg_30 hw, pl_30 hw, ps_30 hw, pg_31 hw, pl_31 hw, ps_31 hw, pg_32 hw, pl_32 hw, ps_32 hw, pg_33 hw, pm_bald hw, pm_bast hw, pg_34 hw, pl_34 hw, ps_34 hw, pg_35 hw, pl_35 hw, ps_35 hw, pg_36 hw, pl_36 hw, ps_36 hw, pg_0 hw, ps_0 hw, pg_1 hw, ps_1 hw, pg_2 hw, ps_2 hw, pg_37 hw, ps_37 hw, pg_38 hw, ps_38 hw, pc_0 hw, pc_1 hw, pc_2 hw, pc_3 hw, pc_4 hw, pc_5 hw, pu_up_ne, pu_up_at, v4, v2, e1, w10, w20, c20, w11, w12, w18, hk, e2, ↓jk_fix_pos, kX12_begins_b, kX12_begins_132, kX12_begins_262, Nat.reduceEqDiff, e3]
    · have hk1 : (b_bg τ t).1 18 d = 11 := by rw [c18, hk]
      obtain ⟨σ2, e2, hR2, hI2⟩ := R_monitor (κ := κ) (g := g) (n := n) hw hn hR1 hI1 ht0 ht1 hb1 h51 hd0 hd1 (act := act) (a := a) 
      obtain ⟨σ3, e3, hR3, hI3⟩ := R_letsGo (κ := κ) (g := g) (n := n) hw hn hR2 hI2 hd0 hd1
      have eb : b_kind (b_bg τ t) d t act a = b_monitor (b_bg τ t) d t act a := by unfold b_kind; rw [hk1]; simp only [Int.reduceEq, if_true, if_false]
      rw [eb]
      refine ⟨σ3, ?_, hR3, hI3⟩
      simp only [fX12_begins, jm_run, List.length_cons, List.length_nil, Nat.reduceAdd, if_true, jm_init, List.map_cons, List.map_nil, Nat.reduceSub, List.replicate, List.cons_append, List.nil_append, kX12_begins]
      rw [jk_fix_pos (by omega)]
      simp only [kX12_begins_b, kX12_begins_0, Nat.reduceEqDiff, if_false, if_true]
      simp (disch := first | omega | (simp only [List.length_cons, List.length_nil]; omega) | assumption) only [↓ja_int, ↓ja_null, ↓ja_iload_0, ↓ja_aload_0, ↓ja_istore_0, ↓ja_astore_0, ↓ja_kill_0, ↓ja_iinc_0, ↓ja_iload_1, ↓ja_aload_1, ↓ja_istore_1, ↓ja_astore_1, ↓ja_kill_1, ↓ja_iinc_1, ↓ja_iload_2, ↓ja_aload_2, ↓ja_istore_2, ↓ja_astore_2, ↓ja_kill_2, ↓ja_iinc_2, ↓ja_iload_3, ↓ja_aload_3, ↓ja_istore_3, ↓ja_astore_3, ↓ja_kill_3, ↓ja_iinc_3, ↓ja_iload_4, ↓ja_aload_4, ↓ja_istore_4, ↓ja_astore_4, ↓ja_kill_4, ↓ja_iinc_4, ↓ja_iload_5, ↓ja_aload_5, ↓ja_istore_5, ↓ja_astore_5, ↓ja_kill_5, ↓ja_iinc_5, ↓ja_iload_6, ↓ja_aload_6, ↓ja_istore_6, ↓ja_astore_6, ↓ja_kill_6, ↓ja_iinc_6, ↓ja_iload_7, ↓ja_aload_7, ↓ja_istore_7, ↓ja_astore_7, ↓ja_kill_7, ↓ja_iinc_7, ↓ja_iload_8, ↓ja_aload_8, ↓ja_istore_8, ↓ja_astore_8, ↓ja_kill_8, ↓ja_iinc_8, ↓ja_iload_9, ↓ja_aload_9, ↓ja_istore_9, ↓ja_astore_9, ↓ja_kill_9, ↓ja_iinc_9, ↓ja_iload_10, ↓ja_aload_10, ↓ja_istore_10, ↓ja_astore_10, ↓ja_kill_10, ↓ja_iinc_10, ↓ja_iadd, ↓ja_isub, ↓ja_imul, ↓ja_dup, ↓ja_dup2, ↓ja_i2b, ↓ja_ifeq, ↓ja_ifne, ↓ja_iflt, ↓ja_ifge, ↓ja_ifgt, ↓ja_ifle, ↓ja_icmpeq, ↓ja_icmpne, ↓ja_icmplt, ↓ja_icmpge, ↓ja_icmpgt, ↓ja_icmple, ↓ja_ifnull_n, ↓ja_ifnull_s, ↓ja_ifnonnull_n, ↓ja_ifnonnull_s, ↓ja_iret, ↓ja_aret, ↓ja_vret, ↓ja_zret0, ↓ja_zret1, ↓ja_sw, ↓ja_pe, ↓ja_pn, ↓ja_pz, ↓reduceIte, ite_self, Int.reduceEq, Int.reduceLT, Int.reduceLE, jm_wr_id, pb_none, pb_int, pg_3 hw, pl_3 hw, ps_3 hw, pg_4 hw, pl_4 hw, ps_4 hw, pg_5 hw, pl_5 hw, ps_5 hw, pg_6 hw, pl_6 hw, ps_6 hw, pg_7 hw, pl_7 hw, ps_7 hw, pg_8 hw, pl_8 hw, ps_8 hw, pg_9 hw, pl_9 hw, ps_9 hw, pg_10 hw, pl_10 hw, ps_10 hw, pg_11 hw, pl_11 hw, ps_11 hw, pg_12 hw, pl_12 hw, ps_12 hw, pg_13 hw, pl_13 hw, ps_13 hw, pg_14 hw, pl_14 hw, ps_14 hw, pg_15 hw, pl_15 hw, ps_15 hw, pg_16 hw, pl_16 hw, ps_16 hw, pg_17 hw, pl_17 hw, ps_17 hw, pg_18 hw, pl_18 hw, ps_18 hw, pg_19 hw, pl_19 hw, ps_19 hw, pg_20 hw, pl_20 hw, ps_20 hw, pg_21 hw, pl_21 hw, ps_21 hw, pg_22 hw, pl_22 hw, ps_22 hw, pg_23 hw, pl_23 hw, ps_23 hw, pg_24 hw, pl_24 hw, ps_24 hw, pg_25 hw, pl_25 hw, ps_25 hw, pg_26 hw, pl_26 hw, ps_26 hw, pg_27 hw, pl_27 hw, ps_27 hw, pg_28 hw, pl_28 hw, ps_28 hw, pg_29 hw, pl_29 hw, ps_29 hw, pg_30 hw, pl_30 hw, ps_30 hw, pg_31 hw, pl_31 hw, ps_31 hw, pg_32 hw, pl_32 hw, ps_32 hw, pg_33 hw, pm_bald hw, pm_bast hw, pg_34 hw, pl_34 hw, ps_34 hw, pg_35 hw, pl_35 hw, ps_35 hw, pg_36 hw, pl_36 hw, ps_36 hw, pg_0 hw, ps_0 hw, pg_1 hw, ps_1 hw, pg_2 hw, ps_2 hw, pg_37 hw, ps_37 hw, pg_38 hw, ps_38 hw, pc_0 hw, pc_1 hw, pc_2 hw, pc_3 hw, pc_4 hw, pc_5 hw, pu_up_ne, pu_up_at, v4, v2, e1, w10, w20, c20, w11, w12, w18, hk, e2, ↓jk_fix_pos, kX12_begins_b, kX12_begins_132, kX12_begins_262, Nat.reduceEqDiff, e3]
