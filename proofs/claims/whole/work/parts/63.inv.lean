/-! what holds of the reference's state besides WI: by kinds -/
def b_act (τ : bS) (x : Int) : Int := τ.1 11 (b_s τ x)
def J01 (τ : bS) (d : Int) : Prop := ∀ x ∈ τ.2 d, 1 ≤ b_num τ x
def J2 (τ : bS) (d : Int) : Prop := 0 ≤ τ.1 24 d ∧ τ.1 24 d ≤ 100 ∧ τ.1 27 d = 0
def J3 (τ : bS) (d : Int) : Prop := (τ.1 25 d = 0 ∨ τ.1 25 d = 1) ∧ ((τ.2 d).length : Int) < τ.1 19 d
def J5 (τ : bS) (d : Int) : Prop := -1 ≤ τ.1 26 d ∧ τ.1 26 d < 16 ∧ (0 ≤ τ.1 26 d → ∀ i, 0 ≤ i → i < 16 → τ.1 29 (16 * d + i) = 0) ∧ ∀ x ∈ τ.2 d, (b_act τ x = 0 ∨ b_act τ x = 1 ∨ b_act τ x = 3) ∧ (b_act τ x = 3 ↔ τ.1 28 d = x) ∧ τ.1 29 (16 * d + x) = if b_act τ x = 3 then 1 else 0
def J6 (τ : bS) (d : Int) : Prop := (∀ x ∈ τ.2 d, b_act τ x = 0 ∨ b_act τ x = 1) ∧ (∀ x ∈ τ.2 d, ∀ z ∈ τ.2 d, b_act τ x = b_act τ z) ∧ ∀ x ∈ τ.2 d, b_act τ x = 1 → τ.1 24 d = 0
def J7 (τ : bS) (d : Int) : Prop := 0 ≤ τ.1 27 d ∧ τ.1 27 d ≤ τ.1 24 d ∧ τ.1 24 d ≤ b_sum (fun t => τ.1 4 t) 16
def J8 (τ : bS) (d : Int) : Prop := τ.1 25 d = 0 ∨ τ.1 25 d = 1
def J10 (τ : bS) (d : Int) : Prop := (τ.1 25 d = 0 ∨ τ.1 25 d = 1) ∧ τ.1 27 d = 0
def J11 (τ : bS) (d : Int) : Prop := -1 ≤ τ.1 26 d ∧ τ.1 26 d < 16 ∧ ∀ x ∈ τ.2 d, τ.1 9 x = 1 ∨ 0 ≤ b_num τ x
def JK (τ : bS) (d : Int) : Prop := (τ.1 18 d = 0 ∨ τ.1 18 d = 1 → J01 τ d) ∧ (τ.1 18 d = 2 → J2 τ d) ∧ (τ.1 18 d = 3 → J3 τ d) ∧ (τ.1 18 d = 5 → J5 τ d) ∧ (τ.1 18 d = 6 → J6 τ d) ∧ (τ.1 18 d = 7 → J7 τ d) ∧ (τ.1 18 d = 8 → J8 τ d) ∧ (τ.1 18 d = 10 → J10 τ d) ∧ (τ.1 18 d = 11 → J11 τ d) ∧ (τ.1 20 d = 0 ∨ τ.1 20 d = 1) ∧ (τ.1 20 d = 1 → τ.2 d = [])
def JK0 (τ : bS) (d : Int) : Prop := (τ.1 18 d = 0 ∨ τ.1 18 d = 1 → J01 τ d) ∧ (τ.1 18 d = 2 → J2 τ d) ∧ (τ.1 18 d = 3 → J3 τ d) ∧ (τ.1 18 d = 5 → J5 τ d) ∧ (τ.1 18 d = 6 → J6 τ d) ∧ (τ.1 18 d = 7 → J7 τ d) ∧ (τ.1 18 d = 8 → J8 τ d) ∧ (τ.1 18 d = 10 → J10 τ d) ∧ (τ.1 18 d = 11 → J11 τ d)
theorem JK.j0 {τ : bS} {d : Int} (h : JK τ d) : JK0 τ d := ⟨h.1, h.2.1, h.2.2.1, h.2.2.2.1, h.2.2.2.2.1, h.2.2.2.2.2.1, h.2.2.2.2.2.2.1, h.2.2.2.2.2.2.2.1, h.2.2.2.2.2.2.2.2.1⟩
theorem JK0.of {τ : bS} {d : Int} (h : JK0 τ d) (hc : (τ.1 20 d = 0 ∨ τ.1 20 d = 1) ∧ (τ.1 20 d = 1 → τ.2 d = [])) : JK τ d := ⟨h.1, h.2.1, h.2.2.1, h.2.2.2.1, h.2.2.2.2.1, h.2.2.2.2.2.1, h.2.2.2.2.2.2.1, h.2.2.2.2.2.2.2.1, h.2.2.2.2.2.2.2.2, hc.1, hc.2⟩
theorem JK0.sub {τ τ' : bS} {e : Int} (h : JK0 τ e) (hp : ∀ x ∈ τ.2 e, 0 ≤ x ∧ x < 16) (hc : ∀ c : Nat, c = 18 ∨ c = 19 ∨ c = 24 ∨ c = 25 ∨ c = 26 ∨ c = 27 → τ'.1 c e = τ.1 c e) (h28 : τ'.1 28 e = τ.1 28 e ∨ (τ'.1 28 e = -1 ∧ ∀ x ∈ τ'.2 e, τ.1 28 e ≠ x)) (h29 : ∀ i, 0 ≤ i → i < 16 → τ'.1 29 (16 * e + i) = τ.1 29 (16 * e + i)) (hl : ∀ x ∈ τ'.2 e, x ∈ τ.2 e) (hn : (τ'.2 e).length ≤ (τ.2 e).length) (hx : ∀ x ∈ τ'.2 e, τ'.1 4 x = τ.1 4 x ∧ τ'.1 9 x = τ.1 9 x) (h11 : ∀ s, τ'.1 11 s = τ.1 11 s) (h12 : ∀ s, τ'.1 12 s = τ.1 12 s) (hs : b_sum (fun t => τ.1 4 t) 16 ≤ b_sum (fun t => τ'.1 4 t) 16) : JK0 τ' e := by
  obtain ⟨j01, j2, j3, j5, j6, j7, j8, j10, j11⟩ := h
  have e18 := hc 18 (by decide)
  have e19 := hc 19 (by decide)
  have e24 := hc 24 (by decide)
  have e25 := hc 25 (by decide)
  have e26 := hc 26 (by decide)
  have e27 := hc 27 (by decide)
  have ea : ∀ x ∈ τ'.2 e, b_act τ' x = b_act τ x := fun x hx' => by
    unfold b_act b_s
    rw [(hx x hx').1, h11]
  have en : ∀ x ∈ τ'.2 e, b_num τ' x = b_num τ x := fun x hx' => by
    unfold b_num
    rw [(hx x hx').1, h12]
  unfold JK0
  rw [e18]
  refine ⟨fun k x hx' => ?_, fun k => ?_, fun k => ?_, fun k => ?_, fun k => ?_, fun k => ?_, fun k => ?_, fun k => ?_, fun k => ?_⟩
  · rw [en x hx']
    exact j01 k x (hl x hx')
  · unfold J2
    rw [e24, e27]
    exact j2 k
  · unfold J3
    rw [e25, e19]
    have := j3 k
    unfold J3 at this
    exact ⟨this.1, by omega⟩
  · obtain ⟨k1, k2, k3, k4⟩ := j5 k
    unfold J5
    rw [e26]
    refine ⟨k1, k2, fun z i i0 i1 => by rw [h29 i i0 i1]; exact k3 z i i0 i1, fun x hx' => ?_⟩
    obtain ⟨q1, q2, q3⟩ := k4 x (hl x hx')
    have p := hp x (hl x hx')
    rw [ea x hx', h29 x p.1 p.2]
    refine ⟨q1, ?_, q3⟩
    rcases h28 with h28 | ⟨h28, h28b⟩
    · rw [h28]
      exact q2
    · rw [h28]
      have := h28b x hx'
      constructor
      · intro z
        exact absurd (q2.mp z) this
      · intro z
        omega
  · obtain ⟨k1, k2, k3⟩ := j6 k
    unfold J6
    rw [e24]
    exact ⟨fun x hx' => by rw [ea x hx']; exact k1 x (hl x hx'), fun x hx' z hz' => by rw [ea x hx', ea z hz']; exact k2 x (hl x hx') z (hl z hz'), fun x hx' => by rw [ea x hx']; exact k3 x (hl x hx')⟩
  · have := j7 k
    unfold J7 at this ⊢
    rw [e24, e27]
    omega
  · unfold J8
    rw [e25]
    exact j8 k
  · unfold J10
    rw [e25, e27]
    exact j10 k
  · obtain ⟨k1, k2, k3⟩ := j11 k
    unfold J11
    rw [e26]
    refine ⟨k1, k2, fun x hx' => ?_⟩
    rw [(hx x hx').2, en x hx']
    exact k3 x (hl x hx')
theorem JK.sub {τ τ' : bS} {e : Int} (h : JK τ e) (hp : ∀ x ∈ τ.2 e, 0 ≤ x ∧ x < 16) (hc : ∀ c : Nat, c = 18 ∨ c = 19 ∨ c = 20 ∨ c = 24 ∨ c = 25 ∨ c = 26 ∨ c = 27 → τ'.1 c e = τ.1 c e) (h28 : τ'.1 28 e = τ.1 28 e ∨ (τ'.1 28 e = -1 ∧ ∀ x ∈ τ'.2 e, τ.1 28 e ≠ x)) (h29 : ∀ i, 0 ≤ i → i < 16 → τ'.1 29 (16 * e + i) = τ.1 29 (16 * e + i)) (hl : ∀ x ∈ τ'.2 e, x ∈ τ.2 e) (hn : (τ'.2 e).length ≤ (τ.2 e).length) (hx : ∀ x ∈ τ'.2 e, τ'.1 4 x = τ.1 4 x ∧ τ'.1 9 x = τ.1 9 x) (h11 : ∀ s, τ'.1 11 s = τ.1 11 s) (h12 : ∀ s, τ'.1 12 s = τ.1 12 s) (hs : b_sum (fun t => τ.1 4 t) 16 ≤ b_sum (fun t => τ'.1 4 t) 16) : JK τ' e := by
  refine JK0.of (h.j0.sub hp (fun c hc' => hc c (by omega)) h28 h29 hl hn hx h11 h12 hs) ?_
  obtain ⟨j20, j20e⟩ := h.2.2.2.2.2.2.2.2.2
  rw [hc 20 (by decide)]
  refine ⟨j20, fun k => ?_⟩
  have := j20e k
  rw [this] at hl
  exact List.eq_nil_iff_forall_not_mem.mpr (fun x hx' => by
    have := hl x hx'
    simp at this)
theorem WI.rg {τ : bS} (h : WI τ) {e : Int} (he0 : 0 ≤ e) (he1 : e < 12) : ∀ x ∈ τ.2 e, 0 ≤ x ∧ x < 16 := fun x hx => ⟨((h.2.2.1 e he0 he1).2 x hx).1, ((h.2.2.1 e he0 he1).2 x hx).2.1⟩
theorem JK0.out {τ : bS} {e : Int} (h : JK0 τ e) (hI : WI τ) (he0 : 0 ≤ e) (he1 : e < 12) {d x : Int} (hd0 : 0 ≤ d) (hd1 : d < 12) (hx : x ∈ τ.2 d) (o v : Int) : JK0 (b_out τ x o v) e := by
  have eC := b_out_c τ x o v
  have x5 := ((hI.2.2.1 d hd0 hd1).2 x hx).2.2.1
  have hsub : ∀ z ∈ (b_out τ x o v).2 e, z ∈ τ.2 e := fun z hz => by
    rw [b_out_2] at hz
    split at hz
    · exact List.mem_of_mem_erase hz
    · exact hz
  refine h.sub (hI.rg he0 he1) (fun c hc => eC c e (by omega)) ?_ (fun i _ _ => eC 29 _ (by decide)) hsub ?_ (fun z _ => ⟨eC 4 z (by decide), eC 9 z (by decide)⟩) (fun s => eC 11 s (by decide)) (fun s => eC 12 s (by decide)) ?_
  · have e28 : (b_out τ x o v).1 28 e = if e = τ.1 5 x ∧ τ.1 28 (τ.1 5 x) = x then -1 else τ.1 28 e := by
      rw [b_out_e _ _ _ _ _ _ (by decide), q_ends_c _ _ _ _ _ _ (by decide), q_left_28]
    rw [e28]
    by_cases c1 : e = τ.1 5 x ∧ τ.1 28 (τ.1 5 x) = x
    · rw [if_pos c1]
      refine Or.inr ⟨rfl, fun z hz e1 => ?_⟩
      rw [b_out_2, if_pos c1.1] at hz
      have : z = x := by
        rw [← e1, c1.1]
        exact c1.2
      subst this
      exact absurd hz (List.Nodup.not_mem_erase (hI.2.2.1 e he0 he1).1)
    · rw [if_neg c1]
      exact Or.inl rfl
  · rw [b_out_2]
    split
    · exact List.length_erase_le
    · exact Nat.le_refl _
  · refine Int.le_of_eq ?_
    congr 1
    funext t
    exact (eC 4 t (by decide)).symm
theorem JK.out {τ : bS} {e : Int} (h : JK τ e) (hI : WI τ) (he0 : 0 ≤ e) (he1 : e < 12) {d x : Int} (hd0 : 0 ≤ d) (hd1 : d < 12) (hx : x ∈ τ.2 d) (o v : Int) : JK (b_out τ x o v) e := by
  refine JK0.of (h.j0.out hI he0 he1 hd0 hd1 hx o v) ?_
  obtain ⟨j20, j20e⟩ := h.2.2.2.2.2.2.2.2.2
  rw [b_out_c _ _ _ _ _ _ (by decide), b_out_2]
  refine ⟨j20, fun k => ?_⟩
  rw [j20e k]
  split <;> rfl
theorem JK.up {τ : bS} {e : Int} (h : JK τ e) (hp : ∀ x ∈ τ.2 e, 0 ≤ x ∧ x < 16) (he1 : e < 12) {c : Nat} (i v : Int) (hc : ((c = 24 ∨ c = 25 ∨ c = 26 ∨ c = 27) ∧ i ≠ e) ∨ c = 30 ∨ c = 31 ∨ c = 32 ∨ c = 7 ∨ c = 14 ∨ c = 15 ∨ c = 16 ∨ c = 17 ∨ c = 6 ∨ c = 8 ∨ (c = 29 ∧ (i < 16 * e ∨ 16 * e + 16 ≤ i)) ∨ (c = 9 ∧ i ∉ τ.2 e)) : JK (b_up τ c i v) e := by
  have eC : ∀ (c' : Nat) (j : Int), c' ≠ c → (b_up τ c i v).1 c' j = τ.1 c' j := fun c' j h' => b_up_c τ c i v c' j h'
  have eI : ∀ (c' : Nat) (j : Int), j ≠ i → (b_up τ c i v).1 c' j = τ.1 c' j := fun c' j h' => by
    show pu_up τ.1 c i v c' j = _
    unfold pu_up
    rw [if_neg (fun z => h' z.2)]
  have eA : ∀ (c' : Nat) (j : Int), (c' ≠ c ∨ j ≠ i) → (b_up τ c i v).1 c' j = τ.1 c' j := fun c' j h' => by
    rcases h' with h' | h'
    · exact eC c' j h'
    · exact eI c' j h'
  refine h.sub hp (fun c' hc' => eA c' e (by omega)) (Or.inl (eA 28 e (by omega))) (fun j j0 j1 => eA 29 _ (by omega)) (fun x hx => hx) (Nat.le_refl _) (fun x hx => ⟨eC 4 x (by omega), eA 9 x ?_⟩) (fun s => eC 11 s (by omega)) (fun s => eC 12 s (by omega)) ?_
  · by_cases c9 : c = 9
    · refine Or.inr (fun e1 => ?_)
      subst e1
      have : x ∉ τ.2 e := by
        rcases hc with hc | hc | hc | hc | hc | hc | hc | hc | hc | hc | hc | hc | hc
        all_goals first | omega | exact hc.2
      exact this hx
    · exact Or.inl (by omega)
  · refine Int.le_of_eq ?_
    congr 1
    funext t
    exact (eC 4 t (by omega)).symm
def JA (τ : bS) : Prop := ∀ e, 0 ≤ e → e < 12 → JK τ e
