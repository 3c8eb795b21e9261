/-- a frame: what an act of thread w leaves of rows 4, 5, 16, 20 -/
def fx_c (c : Nat) : Bool := c == 4 || c == 5 || c == 16 || c == 20
def FX (w : Int) (τ τ' : bS) : Prop := (∀ (c : Nat) (i : Int), c = 4 ∨ c = 16 ∨ c = 20 → τ'.1 c i = τ.1 c i) ∧ ∀ i, i ≠ w → τ'.1 5 i = τ.1 5 i ∨ τ'.1 5 i = -1
theorem fx_ne {c k : Nat} (hc : fx_c c = true) (hk : fx_c k = false) : c ≠ k := fun e => by subst e; rw [hc] at hk; cases hk
theorem FX.gen {w : Int} {τ τ1 τ2 : bS} (h : FX w τ τ1) (h2 : ∀ (c : Nat) (i : Int), fx_c c = true → τ2.1 c i = τ1.1 c i) : FX w τ τ2 := by
  refine ⟨fun c i hc => ?_, fun i hi => ?_⟩
  · rw [h2 c i (by rcases hc with hc | hc | hc <;> (subst hc; rfl))]
    exact h.1 c i hc
  · rw [h2 5 i rfl]
    exact h.2 i hi
theorem FX.refl {w : Int} (τ : bS) : FX w τ τ := ⟨fun _ _ _ => rfl, fun _ _ => Or.inl rfl⟩
theorem FX.trans {w : Int} {τ τ1 τ2 : bS} (h : FX w τ τ1) (h2 : FX w τ1 τ2) : FX w τ τ2 := by
  refine ⟨fun c i hc => by rw [h2.1 c i hc, h.1 c i hc], fun i hi => ?_⟩
  rcases h2.2 i hi with e | e
  · rw [e]
    exact h.2 i hi
  · exact Or.inr e
theorem FX.up {w : Int} {τ τ1 : bS} (h : FX w τ τ1) {k : Nat} (j v : Int) (hk : fx_c k = false) : FX w τ (b_up τ1 k j v) := h.gen (fun c i hc => b_up_c _ _ _ _ _ _ (fx_ne hc hk))
theorem FX.up5 {w : Int} {τ τ1 : bS} (h : FX w τ τ1) (v : Int) : FX w τ (b_up τ1 5 w v) := by
  refine ⟨fun c i hc => by rw [b_up_c _ _ _ _ _ _ (by omega)]; exact h.1 c i hc, fun i hi => ?_⟩
  have : (b_up τ1 5 w v).1 5 i = τ1.1 5 i := by
    show pu_up τ1.1 5 w v 5 i = _
    rw [pu_up_c, if_neg hi]
  rw [this]
  exact h.2 i hi
theorem FX.ln {w : Int} {τ τ1 : bS} (h : FX w τ τ1) (d : Int) (l : List Int) : FX w τ (b_ln τ1 d l) := h
theorem FX.ends {w : Int} {τ τ1 : bS} (h : FX w τ τ1) (t x v : Int) : FX w τ (b_ends τ1 t x v) := h.gen (fun c i hc => b_ends_c _ _ _ _ _ _ ⟨fx_ne hc rfl, fx_ne hc rfl, fx_ne hc rfl, fx_ne hc rfl⟩)
theorem FX.passes {w : Int} {τ τ1 : bS} (h : FX w τ τ1) (t v : Int) : FX w τ (b_passes τ1 t v) := h.gen (fun c i hc => b_passes_c _ _ _ _ _ ⟨fx_ne hc rfl, fx_ne hc rfl, fx_ne hc rfl, fx_ne hc rfl, fx_ne hc rfl, fx_ne hc rfl⟩)
theorem FX.leaves {w : Int} {τ τ1 : bS} (h : FX w τ τ1) (t : Int) : FX w τ (b_leaves τ1 t) := by
  refine ⟨fun c i hc => by rw [b_leaves_c _ _ _ _ (by omega)]; exact h.1 c i hc, fun i hi => ?_⟩
  have : (b_leaves τ1 t).1 5 i = if i = t then -1 else τ1.1 5 i := q_left_5 _ _ _ _
  rw [this]
  split
  · exact Or.inr rfl
  · exact h.2 i hi
theorem FX.goes {w : Int} {τ τ1 : bS} (h : FX w τ τ1) (t v : Int) : FX w τ (b_goes τ1 t v) := (h.leaves t).passes t v
theorem FX.foldl {w : Int} {f : bS → Int → bS} (hf : ∀ τ u, FX w τ (f τ u)) : ∀ (l : List Int) {τ τ1 : bS}, FX w τ τ1 → FX w τ (l.foldl f τ1) := by
  intro l
  induction l with
  | nil => intro τ τ1 h; exact h
  | cons a l ih => intro τ τ1 h; exact ih (h.trans (hf τ1 a))
theorem FX.allEnd {w : Int} {τ τ1 : bS} (h : FX w τ τ1) (d x : Int) : FX w τ (b_allEnd τ1 d x) := FX.foldl (fun τ u => ((FX.refl τ).leaves u).ends u x 0) _ h
theorem FX.goAll {w : Int} {τ τ1 : bS} (h : FX w τ τ1) (f : bS → Int → Int) (d : Int) : FX w τ (b_goAll f τ1 d) := FX.foldl (fun τ u => (FX.refl τ).goes u _) _ h
theorem FX.lies {w : Int} {τ τ1 : bS} (h : FX w τ τ1) (d j : Int) : FX w τ (b_lies τ1 d j) := h.gen (fun c i hc => b_lies_c _ _ _ _ _ (fx_ne hc rfl))
theorem FX.rise {w : Int} {τ τ1 : bS} (h : FX w τ τ1) (d : Int) : FX w τ (b_rise τ1 d) := h.gen (fun c i hc => b_rise_c _ _ _ _ ⟨fx_ne hc rfl, fx_ne hc rfl⟩)
theorem FX.wk {w : Int} {τ τ1 : bS} (h : FX w τ τ1) (d a al : Int) (l : List Int) (m : Int) : FX w τ (b_wk d a al τ1 l m).1 := h.gen (fun c i hc => b_wk_c _ _ _ _ _ (fx_ne hc rfl) _ _ _)
theorem FX.puts {w : Int} {τ τ1 : bS} (h : FX w τ τ1) (d a : Int) : FX w τ (b_puts τ1 d a) := (h.up _ _ rfl).up _ _ rfl
theorem FX.waits {t : Int} {τ τ1 : bS} (h : FX t τ τ1) : FX t τ (b_waits τ1 t) := by
  unfold b_waits
  split
  · split
    · exact (((h.up _ _ rfl).ends _ _ _).up _ _ rfl).allEnd _ _
    · exact (h.up _ _ rfl).ends _ _ _
  · exact ((h.up _ _ rfl).up5 _).ln _ _
theorem FX.rises {w : Int} {τ τ1 : bS} (h : FX w τ τ1) (d t : Int) : FX w τ (b_rises τ1 d t) := by
  unfold b_rises
  split
  · exact (((h.up _ _ rfl).rise _).passes _ _).goAll _ _
  · exact h.passes _ _
theorem FX.one {w : Int} {τ τ1 : bS} {d : Int} (h1 : b_letsOne τ d = some τ1) : FX w τ τ1 := by
  unfold b_letsOne b_perm b_tick b_letsLock at h1
  split at h1
  · cases h1
  · repeat' split at h1
    all_goals (first | (cases h1; done) | (cases h1; ((repeat' split) <;> (repeat' (first | assumption | exact FX.refl _ | apply FX.ends | apply FX.passes | apply FX.waits | apply FX.goes | apply FX.leaves | apply FX.allEnd | apply FX.goAll | apply FX.lies | apply FX.rises | apply FX.wk | apply FX.puts | (refine FX.up ?_ _ _ rfl))))))
theorem FX.letsGo {w : Int} {d : Int} : ∀ (k : Nat) {τ τ1 : bS}, FX w τ τ1 → FX w τ (b_letsGo τ1 d k) := by
  intro k
  induction k with
  | zero => intro τ τ1 h; exact h
  | succ k ih =>
    intro τ τ1 h
    unfold b_letsGo
    split
    · exact h
    · rename_i τ2 e
      exact ih (h.trans (FX.one e))
theorem FX.gives {w : Int} {τ τ1 : bS} (h : FX w τ τ1) (t x : Int) : FX w τ (b_gives τ1 t x) := by
  unfold b_gives
  refine FX.letsGo _ ?_
  split
  · exact ((((h.leaves _).ends _ _ _).up _ _ rfl)).allEnd _ _
  · exact (h.leaves _).ends _ _ _
theorem FX.kind (τ : bS) (d t act a : Int) : FX t τ (b_kind τ d t act a) := by
  have h := FX.refl (w := t) τ
  unfold b_kind
  split
  · unfold b_permits
    ((repeat' split) <;> (repeat' (first | assumption | exact FX.refl _ | apply FX.ends | apply FX.passes | apply FX.waits | apply FX.goes | apply FX.leaves | apply FX.allEnd | apply FX.goAll | apply FX.lies | apply FX.rises | apply FX.wk | apply FX.puts | (refine FX.up ?_ _ _ rfl))))
  split
  · unfold b_permits
    ((repeat' split) <;> (repeat' (first | assumption | exact FX.refl _ | apply FX.ends | apply FX.passes | apply FX.waits | apply FX.goes | apply FX.leaves | apply FX.allEnd | apply FX.goAll | apply FX.lies | apply FX.rises | apply FX.wk | apply FX.puts | (refine FX.up ?_ _ _ rfl))))
  split
  · unfold b_gate
    ((repeat' split) <;> (repeat' (first | assumption | exact FX.refl _ | apply FX.ends | apply FX.passes | apply FX.waits | apply FX.goes | apply FX.leaves | apply FX.allEnd | apply FX.goAll | apply FX.lies | apply FX.rises | apply FX.wk | apply FX.puts | (refine FX.up ?_ _ _ rfl))))
  split
  · unfold b_barrier
    ((repeat' split) <;> (repeat' (first | assumption | exact FX.refl _ | apply FX.ends | apply FX.passes | apply FX.waits | apply FX.goes | apply FX.leaves | apply FX.allEnd | apply FX.goAll | apply FX.lies | apply FX.rises | apply FX.wk | apply FX.puts | (refine FX.up ?_ _ _ rfl))))
  split
  · unfold b_exchange
    ((repeat' split) <;> (repeat' (first | assumption | exact FX.refl _ | apply FX.ends | apply FX.passes | apply FX.waits | apply FX.goes | apply FX.leaves | apply FX.allEnd | apply FX.goAll | apply FX.lies | apply FX.rises | apply FX.wk | apply FX.puts | (refine FX.up ?_ _ _ rfl))))
  split
  · unfold b_lockop
    ((repeat' split) <;> (repeat' (first | assumption | exact FX.refl _ | apply FX.ends | apply FX.passes | apply FX.waits | apply FX.goes | apply FX.leaves | apply FX.allEnd | apply FX.goAll | apply FX.lies | apply FX.rises | apply FX.wk | apply FX.puts | (refine FX.up ?_ _ _ rfl))))
  split
  · unfold b_hand
    ((repeat' split) <;> (repeat' (first | assumption | exact FX.refl _ | apply FX.ends | apply FX.passes | apply FX.waits | apply FX.goes | apply FX.leaves | apply FX.allEnd | apply FX.goAll | apply FX.lies | apply FX.rises | apply FX.wk | apply FX.puts | (refine FX.up ?_ _ _ rfl))))
  split
  · unfold b_tickets
    ((repeat' split) <;> (repeat' (first | assumption | exact FX.refl _ | apply FX.ends | apply FX.passes | apply FX.waits | apply FX.goes | apply FX.leaves | apply FX.allEnd | apply FX.goAll | apply FX.lies | apply FX.rises | apply FX.wk | apply FX.puts | (refine FX.up ?_ _ _ rfl))))
  split
  · unfold b_cell
    ((repeat' split) <;> (repeat' (first | assumption | exact FX.refl _ | apply FX.ends | apply FX.passes | apply FX.waits | apply FX.goes | apply FX.leaves | apply FX.allEnd | apply FX.goAll | apply FX.lies | apply FX.rises | apply FX.wk | apply FX.puts | (refine FX.up ?_ _ _ rfl))))
  split
  · unfold b_phaser
    ((repeat' split) <;> (repeat' (first | assumption | exact FX.refl _ | apply FX.ends | apply FX.passes | apply FX.waits | apply FX.goes | apply FX.leaves | apply FX.allEnd | apply FX.goAll | apply FX.lies | apply FX.rises | apply FX.wk | apply FX.puts | (refine FX.up ?_ _ _ rfl))))
  split
  · unfold b_pause
    ((repeat' split) <;> (repeat' (first | assumption | exact FX.refl _ | apply FX.ends | apply FX.passes | apply FX.waits | apply FX.goes | apply FX.leaves | apply FX.allEnd | apply FX.goAll | apply FX.lies | apply FX.rises | apply FX.wk | apply FX.puts | (refine FX.up ?_ _ _ rfl))))
  · unfold b_monitor
    ((repeat' split) <;> (repeat' (first | assumption | exact FX.refl _ | apply FX.ends | apply FX.passes | apply FX.waits | apply FX.goes | apply FX.leaves | apply FX.allEnd | apply FX.goAll | apply FX.lies | apply FX.rises | apply FX.wk | apply FX.puts | (refine FX.up ?_ _ _ rfl))))
