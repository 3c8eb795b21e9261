theorem l_first_uq {P : Int → Prop} : ∀ {l p m1 q m2 : List Int} {x y : Int}, l = p ++ x :: q → l = m1 ++ y :: m2 → (∀ z ∈ p, ¬ P z) → P x → (∀ z ∈ m1, ¬ P z) → P y → p = m1 := by
  intro l p
  induction p generalizing l with
  | nil =>
    intro m1 q m2 x y h1 h2 _ hx hm _
    cases m1 with
    | nil => rfl
    | cons z m1 =>
      rw [h1] at h2
      have : x = z := (List.cons.inj h2).1
      exact absurd (this ▸ hx) (hm z List.mem_cons_self)
  | cons z p ih =>
    intro m1 q m2 x y h1 h2 hp hx hm hy
    cases m1 with
    | nil =>
      rw [h1] at h2
      have : z = y := (List.cons.inj h2).1
      exact absurd (this ▸ hy) (hp z List.mem_cons_self)
    | cons z' m1 =>
      rw [h1] at h2
      obtain ⟨e1, e2⟩ := List.cons.inj h2
      rw [e1, ih rfl e2 (fun u hu => hp u (List.mem_cons_of_mem _ hu)) hx (fun u hu => hm u (List.mem_cons_of_mem _ hu)) hy]
def mt (τ : bS) (a z : Int) : Prop := ¬ τ.1 9 z = 1 ∧ b_num τ z = a
theorem place_no {κ : aS} {τ : bS} {d a : Int} (hd0 : 0 ≤ d) (hd1 : d < 12) (hC : CR κ τ) (hI : WI τ) (hk : τ.1 18 d = 11) (ha : 0 ≤ a) (hn : ∀ z ∈ τ.2 d, ¬ mt τ a z) : c_place κ d a = -1 := by
  obtain ⟨hM, _⟩ := hC.mq hI hd0 hd1
  rcases hM.place hd0 hd1 a with ⟨g, _⟩ | ⟨m1, y, m2, g1, g2, g3, g4, g5⟩
  · exact g
  · have hy : y ∈ τ.2 d := by rw [g1]; simp
    have := hM.sp11 hd0 hd1 hk hy
    rw [g4] at this
    refine absurd ⟨fun e => ?_, ?_⟩ (hn y hy)
    · rw [if_pos e] at this
      omega
    · by_cases c : τ.1 9 y = 1
      · rw [if_pos c] at this
        omega
      · rw [if_neg c] at this
        exact this.symm
theorem place_at {κ : aS} {τ : bS} {d a x : Int} {p q : List Int} (hd0 : 0 ≤ d) (hd1 : d < 12) (hC : CR κ τ) (hI : WI τ) (hk : τ.1 18 d = 11) (ha : 0 ≤ a) (hl : τ.2 d = p ++ x :: q) (hn : ∀ z ∈ p, ¬ mt τ a z) (hx : mt τ a x) : c_place κ d a = (p.length : Int) := by
  obtain ⟨hM, _⟩ := hC.mq hI hd0 hd1
  have e42 : ∀ z ∈ τ.2 d, (κ 42 (16 * d + z) = a ↔ mt τ a z) := fun z hz => by
    rw [hM.sp11 hd0 hd1 hk hz]
    unfold mt
    by_cases c : τ.1 9 z = 1
    · rw [if_pos c]
      constructor
      · intro e
        omega
      · intro e
        exact absurd c e.1
    · rw [if_neg c]
      exact ⟨fun e => ⟨c, e⟩, fun e => e.2⟩
  have hwt : ∀ z ∈ τ.2 d, wt τ z = true := fun z hz => by
    rw [(hC.2 d hd0 hd1).2.2.1] at hz
    exact (List.mem_filter.mp hz).2
  rcases hM.place hd0 hd1 a with ⟨_, g⟩ | ⟨m1, y, m2, g1, g2, g3, g4, g5⟩
  · have hxm : x ∈ τ.2 d := by rw [hl]; simp
    exact absurd ((e42 x hxm).mpr hx) (g x hxm (hwt x hxm))
  · rw [g2]
    have : p = m1 := l_first_uq hl g1 hn hx (fun z hz => fun hm => g5 z hz (hwt z (by rw [g1]; exact List.mem_append_left _ hz)) ((e42 z (by rw [g1]; exact List.mem_append_left _ hz)).mpr hm)) ((e42 y (by rw [g1]; simp)).mp g4)
    rw [this]
theorem JA.wk1 {τ : bS} {d x : Int} (hJ : JA τ) (hI : WI τ) (hd0 : 0 ≤ d) (hd1 : d < 12) (hk : τ.1 18 d = 11) (hx : x ∈ τ.2 d) : JA (b_wk1 τ d x) := by
  have eC : ∀ (c : Nat) (i : Int), c ≠ 9 → (b_wk1 τ d x).1 c i = τ.1 c i := fun c i hc => b_wk1_c _ _ _ _ _ hc
  have e9 : ∀ i, (b_wk1 τ d x).1 9 i = if i = x then 1 else τ.1 9 i := fun i => pu_up_c _ _ _ _ _
  intro e e0 e1
  by_cases ed : e = d
  · subst ed
    have hj := hJ e e0 e1
    obtain ⟨k1, k2, k3⟩ := hj.2.2.2.2.2.2.2.2.1 hk
    refine JK.k11 (by rw [eC _ _ (by decide)]; exact hk) ⟨by rw [eC _ _ (by decide)]; exact k1, by rw [eC _ _ (by decide)]; exact k2, fun z hz => ?_⟩ ?_
    · rw [e9]
      have hnum : b_num (b_wk1 τ e x) z = b_num τ z := by
        unfold b_num
        rw [eC 4 z (by decide), eC 12 _ (by decide)]
      rw [hnum]
      split
      · exact Or.inl rfl
      · rename_i zx
        have hz2 : z ∈ τ.2 e := by
          have : z ∈ (if e = e then (τ.2 e).erase x ++ [x] else τ.2 e) := hz
          rw [if_pos rfl] at this
          rcases List.mem_append.mp this with h | h
          · exact List.mem_of_mem_erase h
          · exact absurd (List.mem_singleton.mp h) zx
        exact k3 z hz2
    · rw [eC _ _ (by decide)]
      refine ⟨hj.c.1, fun h => ?_⟩
      have := hj.c.2 h
      rw [this] at hx
      cases hx
  · have el : (b_wk1 τ d x).2 e = τ.2 e := if_neg ed
    refine (hJ e e0 e1).sub (hI.rg e0 e1) (fun c hc => eC c e (by omega)) (Or.inl (eC _ _ (by decide))) (fun i _ _ => eC _ _ (by decide)) (fun z hz => by rw [el] at hz; exact hz) (by rw [el]; exact Nat.le_refl _) (fun z hz => ⟨eC _ _ (by decide), ?_⟩) (fun s => eC _ _ (by decide)) (fun s => eC _ _ (by decide)) (Int.le_of_eq (b_sum_ext 16 (fun i _ _ => (eC 4 i (by decide)).symm)))
    rw [el] at hz
    rw [e9, if_neg]
    intro zx
    rw [zx] at hz
    have h1 := ((hI.2.2.1 e e0 e1).2 x hz).2.2.1
    have h2 := ((hI.2.2.1 d hd0 hd1).2 x hx).2.2.1
    omega
theorem mt_wk1 {τ : bS} {d x a z : Int} (h : z ≠ x) : mt (b_wk1 τ d x) a z ↔ mt τ a z := by
  unfold mt
  have e9 : (b_wk1 τ d x).1 9 z = τ.1 9 z := by
    show pu_up τ.1 9 x 1 9 z = _
    rw [pu_up_c, if_neg h]
  have hnum : b_num (b_wk1 τ d x) z = b_num τ z := by
    unfold b_num
    rw [b_wk1_c _ _ _ _ _ (by decide), b_wk1_c _ _ _ _ _ (by decide)]
  rw [e9, hnum]
theorem mt_self {τ : bS} {d x a : Int} : ¬ mt (b_wk1 τ d x) a x := fun h => h.1 (by
  show pu_up τ.1 9 x 1 9 x = 1
  rw [pu_up_at])
def WKR (κ' : aS) (τ τ' : bS) (d : Int) : Prop := CR κ' τ' ∧ WI τ' ∧ JA τ' ∧ (∀ e, e ≠ d → τ'.2 e = τ.2 e) ∧ ∀ z, z ∈ τ'.2 d ↔ z ∈ τ.2 d
theorem WKR.step {κ κ' : aS} {τ τ1 τ' : bS} {d x : Int} {m1 m2 : List Int} (hl : τ.2 d = m1 ++ x :: m2) (e2 : τ1.2 d = m1 ++ m2 ++ [x]) (eo : ∀ e, e ≠ d → τ1.2 e = τ.2 e) (h : WKR κ' τ1 τ' d) : WKR κ' τ τ' d := by
  obtain ⟨h1, h2, h3, h4, h5⟩ := h
  refine ⟨h1, h2, h3, fun e he => by rw [h4 e he, eo e he], fun z => ?_⟩
  rw [h5 z, e2, hl]
  simp only [List.mem_append, List.mem_cons, List.mem_singleton, List.not_mem_nil, or_false]
  constructor
  · rintro ((h | h) | h)
    · exact Or.inl h
    · exact Or.inr (Or.inr h)
    · exact Or.inr (Or.inl h)
  · rintro (h | h | h)
    · exact Or.inl (Or.inl h)
    · exact Or.inr h
    · exact Or.inl (Or.inr h)
theorem wk_all {d a : Int} (hd0 : 0 ≤ d) (hd1 : d < 12) (ha : 0 ≤ a) : ∀ (l p w : List Int) (κ : aS) (τ : bS) (n : Int) (m : Nat), CR κ τ → WI τ → JA τ → τ.1 18 d = 11 → τ.2 d = p ++ l ++ w → (∀ z ∈ p, ¬ mt τ a z) → (∀ z ∈ w, ¬ mt τ a z) → l.length ≤ m → (c_wk d a m n κ).1 = (b_wk d a 1 τ l n).2 ∧ WKR (c_wk d a m n κ).2 τ (b_wk d a 1 τ l n).1 d := by
  intro l
  induction l with
  | nil =>
    intro p w κ τ n m hC hI hJ hk hl hp hw hm
    have hno : c_place κ d a = -1 := place_no hd0 hd1 hC hI hk ha (fun z hz => by
      rw [hl, List.append_nil] at hz
      rcases List.mem_append.mp hz with hz | hz
      · exact hp z hz
      · exact hw z hz)
    have e : c_wk d a m n κ = (n, κ) := by
      cases m with
      | zero => rfl
      | succ m => rw [c_wk, if_pos (by omega)]
    rw [e]
    exact ⟨rfl, hC, hI, hJ, fun _ _ => rfl, fun _ => Iff.rfl⟩
  | cons x l ih =>
    intro p w κ τ n m hC hI hJ hk hl hp hw hm
    have hl1 : τ.2 d = p ++ x :: (l ++ w) := by rw [hl]; simp
    have hnd := (hI.2.2.1 d hd0 hd1).1
    rw [hl1] at hnd
    have hnd2 := List.nodup_append.mp hnd
    have xp : x ∉ p := fun z => hnd2.2.2 x z x List.mem_cons_self rfl
    have xlw : x ∉ l ++ w := (List.nodup_cons.mp hnd2.2.1).1
    by_cases hx : mt τ a x
    · obtain ⟨m, rfl⟩ : ∃ m', m = m' + 1 := ⟨m - 1, by simp at hm; omega⟩
      have hpl := place_at hd0 hd1 hC hI hk ha hl1 hp hx
      have eb : b_wk d a 1 τ (x :: l) n = b_wk d a 1 (b_wk1 τ d x) l (n + 1) := by
        rw [b_wk, if_neg hx.1, if_pos hx.2]
        split
        · rw [if_neg (by decide)]
        · rfl
      rw [c_wk, if_neg (by omega), hpl, eb]
      obtain ⟨g1, g2, g3⟩ := wk1_sim hd0 hd1 hC hI hl1
      have hxm : x ∈ τ.2 d := by rw [hl1]; simp
      have r := ih p (w ++ [x]) _ _ (n + 1) m g1 (hI.wk1 hxm) (hJ.wk1 hI hd0 hd1 hk hxm) (by rw [b_wk1_c _ _ _ _ _ (by decide)]; exact hk) (by rw [g2]; simp) (fun z hz => ?_) (fun z hz => ?_) (by simp at hm; omega)
      · exact ⟨r.1, WKR.step (κ := κ) hl1 g2 g3 r.2⟩
      · have zx : z ≠ x := fun e => xp (e ▸ hz)
        rw [mt_wk1 zx]
        exact hp z hz
      · rcases List.mem_append.mp hz with hz | hz
        · have zx : z ≠ x := fun e => xlw (e ▸ List.mem_append_right _ hz)
          rw [mt_wk1 zx]
          exact hw z hz
        · rw [List.mem_singleton.mp hz]
          exact mt_self
    · have eb : b_wk d a 1 τ (x :: l) n = b_wk d a 1 τ l n := by
        rw [b_wk]
        by_cases c : τ.1 9 x = 1
        · rw [if_pos c]
        · rw [if_neg c, if_neg (fun e => hx ⟨c, e⟩)]
      rw [eb]
      refine ih (p ++ [x]) w κ τ n m hC hI hJ hk (by rw [hl]; simp) (fun z hz => ?_) hw (by simp at hm; omega)
      rcases List.mem_append.mp hz with hz | hz
      · exact hp z hz
      · rw [List.mem_singleton.mp hz]
        exact hx
theorem b_wk_pos {d a n : Int} (hn : 0 < n) : ∀ (l : List Int) (τ : bS), b_wk d a 0 τ l n = (τ, n) := by
  intro l
  induction l with
  | nil => intro τ; rfl
  | cons x l ih =>
    intro τ
    rw [b_wk]
    split
    · exact ih τ
    · split
      · first
          | (rw [if_pos hn, if_pos rfl]; exact ih τ)
          | (rw [if_pos rfl]; exact ih τ)
      · exact ih τ
theorem wk_one {d a : Int} (hd0 : 0 ≤ d) (hd1 : d < 12) (ha : 0 ≤ a) {κ : aS} {τ : bS} (hC : CR κ τ) (hI : WI τ) (hJ : JA τ) (hk : τ.1 18 d = 11) : ∀ (l p : List Int), τ.2 d = p ++ l → (∀ z ∈ p, ¬ mt τ a z) → (c_wk d a 1 0 κ).1 = (b_wk d a 0 τ l 0).2 ∧ WKR (c_wk d a 1 0 κ).2 τ (b_wk d a 0 τ l 0).1 d := by
  intro l
  induction l with
  | nil =>
    intro p hl hp
    have hno : c_place κ d a = -1 := place_no hd0 hd1 hC hI hk ha (fun z hz => by
      rw [hl, List.append_nil] at hz
      exact hp z hz)
    have e : c_wk d a 1 0 κ = (0, κ) := by rw [c_wk, if_pos (by omega)]
    rw [e]
    exact ⟨rfl, hC, hI, hJ, fun _ _ => rfl, fun _ => Iff.rfl⟩
  | cons x l ih =>
    intro p hl hp
    by_cases hx : mt τ a x
    · have hpl := place_at hd0 hd1 hC hI hk ha hl hp hx
      have eb : b_wk d a 0 τ (x :: l) 0 = (b_wk1 τ d x, 1) := by
        rw [b_wk, if_neg hx.1, if_pos hx.2, if_neg (by decide)]
        exact b_wk_pos (by decide) l _
      have ec : c_wk d a 1 0 κ = (1, c_wk1 κ d (p.length : Int)) := by
        rw [c_wk, if_neg (by omega), hpl]
        rfl
      obtain ⟨g1, g2, g3⟩ := wk1_sim hd0 hd1 hC hI hl
      have hxm : x ∈ τ.2 d := by rw [hl]; simp
      rw [eb, ec]
      refine ⟨rfl, WKR.step (κ := κ) hl g2 g3 ⟨g1, hI.wk1 hxm, hJ.wk1 hI hd0 hd1 hk hxm, fun _ _ => rfl, fun _ => Iff.rfl⟩⟩
    · have eb : b_wk d a 0 τ (x :: l) 0 = b_wk d a 0 τ l 0 := by
        rw [b_wk]
        by_cases c : τ.1 9 x = 1
        · rw [if_pos c]
        · rw [if_neg c, if_neg (fun e => hx ⟨c, e⟩)]
      rw [eb]
      refine ih (p ++ [x]) (by rw [hl]; simp) (fun z hz => ?_)
      rcases List.mem_append.mp hz with hz | hz
      · exact hp z hz
      · rw [List.mem_singleton.mp hz]
        exact hx
theorem monitor_ps {κ : aS} {τ : bS} {d t : Int} (h : AH κ τ d t) (hk : τ.1 18 d = 11) : PS τ (b_monitor τ d t (b_act τ t) (b_num τ t)) d t (c_monitor κ d (b_s τ t)) := by
  have hI := h.2.1
  have hJ := h.2.2.1
  have ha := h.2.2.2.1
  have hact := h.2.2.2.2.2.2.1
  have hd0 := h.2.2.2.2.2.2.2.2.1
  have hd1 := h.2.2.2.2.2.2.2.2.2
  obtain ⟨e11, e12⟩ := h.act
  have td := bs_div ha.1
  have t0 := ha.1.1
  have t1 := ha.1.2.1
  have e26 := h.e 26 d rfl
  obtain ⟨k1, k2, k3⟩ := h.jk.2.2.2.2.2.2.2.2.1 hk
  have hne : ∀ e, 0 ≤ e → e < 12 → ∀ x ∈ τ.2 e, x ≠ t ∧ 16 * e + x ≠ 16 * d + t := fun e e0 e1 x hx => by
    have h1 := ha.ne e0 e1 hx
    have h2 := hI.rg e0 e1 x hx
    exact ⟨h1, by omega⟩
  have huse : ∀ v, -1 ≤ v → v < 16 → PS τ (b_passes (b_up τ 26 d v) t 0) d t (0, pu_up κ 26 d v) := fun v v0 v1 => by
    have hI1 : WI (b_up τ 26 d v) := hI.upd _ _ rfl
    have e1 : (b_up τ 26 d v).1 26 d = v := pu_up_at _ _ _ _
    have hJ1 : JA (b_up τ 26 d v) := hJ.up1 hI (by decide) (JK.k11 (by rw [b_up_c _ _ _ _ _ _ (by decide)]; exact hk) ⟨by rw [e1]; exact v0, by rw [e1]; exact v1, fun z hz => by rw [b_up_c _ _ _ _ _ _ (by decide), b_num_up _ _ _ _ (by decide)]; exact k3 z hz⟩ (h.cu _ _ (by decide)))
    exact ps_pass h (h.mq.up d v (c := 26) (by decide) hI1) rfl (fun c i hc => b_up_c _ _ _ _ _ _ (by omega)) hJ1 (fun _ _ _ _ => rfl) (fun _ _ => rfl) (h.v0 (fun i => by rw [pu_up_ne _ _ _ _ (by decide)]) (fun i => by rw [pu_up_ne _ _ _ _ (by decide)]))
  -- t's own entry of where it waits
  have hC9 : ∀ u v, CR (pu_up κ 42 (16 * d + t) u) (b_up τ 9 t v) := fun u v => h.1.loose (fun c i _ _ n9 => b_up_c _ _ _ _ _ _ n9) rfl (fun e e0 e1 x hx => ⟨b_up_c _ _ _ _ _ _ (by decide), by
    show pu_up τ.1 9 t v 9 x = _
    rw [pu_up_c, if_neg (hne e e0 e1 x hx).1]⟩) (fun c i n42 _ => pu_up_ne _ _ _ _ n42) (fun e e0 e1 x hx => ⟨by rw [pu_up_c, if_neg (hne e e0 e1 x hx).2], pu_up_ne _ _ _ _ (by decide)⟩) (fun s _ => pu_up_ne _ _ _ _ (by decide)) (fun s _ _ => pu_up_ne _ _ _ _ (by decide))
  have hI9 : ∀ v, WI (b_up τ 9 t v) := fun v => hI.upd _ _ rfl
  have hJ9 : ∀ v, JA (b_up τ 9 t v) := fun v e e0 e1 => (hJ e e0 e1).up (hI.rg e0 e1) e1 t v (by
    have : t ∉ τ.2 e := ha.2.2.2.2 e e0 e1
    simp [this])
  have hwait0 : PS τ (b_waits (b_up τ 9 t 1) t) d t (1, pu_up κ 42 (16 * d + t) (-1)) := by
    have ha1 : ACT (b_up τ 9 t 1) t d := ha.up _ _ (by decide)
    have e9 : (b_up τ 9 t 1).1 9 t = 1 := pu_up_at _ _ _ _
    refine Or.inr ⟨rfl, b_up τ 9 t 1, hC9 _ _, hI9 1, hJ9 1, ha1, rfl, b_up_c _ _ _ _ _ _ (by decide), b_up_c _ _ _ _ _ _ (by decide), b_s_up _ _ _ _ (by decide), ⟨fun e => ?_, fun e => ?_⟩, fun _ => rfl, fun h6 => ⟨Or.inl rfl, ?_⟩⟩
    · rw [e9, if_pos rfl]
      exact pu_up_at κ 42 _ _
    · rw [b_up_c _ _ _ _ _ _ (by decide)] at e
      omega
    · rw [b_waits_n (by rw [b_up_c _ _ _ _ _ _ (by decide)]; exact h6) ha1.2.2.1]
      refine JK.k11 (by rw [b_wait_c _ _ _ _ _ (by decide), b_up_c _ _ _ _ _ _ (by decide)]; exact hk) ⟨by rw [b_wait_c _ _ _ _ _ (by decide), b_up_c _ _ _ _ _ _ (by decide)]; exact k1, by rw [b_wait_c _ _ _ _ _ (by decide), b_up_c _ _ _ _ _ _ (by decide)]; exact k2, fun z hz => ?_⟩ ?_
      · rw [b_wait_c _ _ _ _ _ (by decide), b_wait_num, b_num_up _ _ _ _ (by decide)]
        rw [b_wait_2, if_pos rfl] at hz
        rcases List.mem_append.mp hz with hz | hz
        · have e : (b_up τ 9 t 1).1 9 z = τ.1 9 z := by
            show pu_up τ.1 9 t 1 9 z = _
            rw [pu_up_c, if_neg (hne d hd0 hd1 z hz).1]
          rw [e]
          exact k3 z hz
        · rw [List.mem_singleton.mp hz]
          exact Or.inl e9
      · rw [b_wait_c _ _ _ _ _ (by decide), b_up_c _ _ _ _ _ _ (by decide), h.2.2.2.2.2.1]
        exact ⟨Or.inl rfl, fun e => absurd e (by decide)⟩
  have hfirst : c_place κ d (-1) = -1 ↔ b_first τ d < 0 := by
    have hM := h.mq
    have plc : ∀ z ∈ τ.2 d, (κ 42 (16 * d + z) = -1 ↔ τ.1 9 z = 1) := fun z hz => by
      rw [hM.sp11 hd0 hd1 hk hz]
      have := k3 z hz
      by_cases c : τ.1 9 z = 1
      · rw [if_pos c]
        exact ⟨fun _ => c, fun _ => rfl⟩
      · rw [if_neg c]
        constructor
        · intro e
          omega
        · intro e
          exact absurd e c
    have hwt : ∀ z ∈ τ.2 d, wt τ z = true := fun z hz => by
      rw [(h.1.2 d hd0 hd1).2.2.1] at hz
      exact (List.mem_filter.mp hz).2
    rcases hM.place hd0 hd1 (-1) with ⟨g1, g2⟩ | ⟨m1, x, m2, g1, g2, g3, g4, g5⟩
    · have hb : b_first τ d = -1 := by
        unfold b_first
        rw [l_find_no (fun z hz => ?_)]
        · rfl
        · have : ¬ τ.1 9 z = 1 := fun e => g2 z hz (hwt z hz) ((plc z hz).mpr e)
          simpa using this
      rw [g1, hb]
      exact ⟨fun _ => by decide, fun _ => rfl⟩
    · have hx : x ∈ τ.2 d := by rw [g1]; simp
      have xr := hI.rg hd0 hd1 x hx
      have hb : b_first τ d = x := by
        unfold b_first
        rw [g1, l_find_mid (fun z hz => ?_) (by simpa using (plc x hx).mp g4)]
        · rfl
        · have hz2 : z ∈ τ.2 d := by rw [g1]; exact List.mem_append_left _ hz
          have : ¬ τ.1 9 z = 1 := fun e => g5 z hz (hwt z hz2) ((plc z hz2).mpr e)
          simpa using this
      rw [g2, hb]
      constructor <;> (intro e; omega)
  -- t wakes others
  have hwk : ∀ (r : Int × aS) (b : bS × Int), r.1 = b.2 → WKR r.2 τ b.1 d → (∀ (c : Nat) (i : Int), c ≠ 9 → b.1.1 c i = τ.1 c i) → PS τ (b_passes b.1 t b.2) d t (0, pu_up r.2 15 (b_s τ t) r.1) := fun r b e1 ⟨w1, w2, w3, w4, w5⟩ eC => by
    obtain ⟨hM, _⟩ := w1.mq w2 hd0 hd1
    have es : b_s b.1 t = b_s τ t := by unfold b_s; rw [eC 4 t (by decide)]
    obtain ⟨tO, t5, t10, t14, tl⟩ := ha
    rw [e1]
    refine Or.inl ⟨show (0 : Int) ≠ 1 by decide, pfd_pass (κ' := pu_up r.2 15 (b_s τ t) b.2) (κ1 := r.2) (v := b.2) hd0 hd1 hM ⟨?_, ?_, ?_, ?_, ?_⟩ w3 es (eC 2 0 (by decide)) (fun c i h1 _ => pu_up_ne _ _ _ _ h1) (fun i _ => pu_up_ne _ _ _ _ (by decide)) (fun i => pu_up_c _ _ _ _ _)⟩
    · unfold OKt
      rw [eC 4 t (by decide)]
      exact tO
    · rw [eC 5 t (by decide)]; exact t5
    · rw [es, eC 10 _ (by decide)]; exact t10
    · rw [es, eC 14 _ (by decide)]; exact t14
    · intro e e0 e1'
      by_cases ed : e = d
      · rw [ed, w5 t]
        exact tl d hd0 hd1
      · rw [w4 e ed]
        exact tl e e0 e1'
  unfold c_monitor b_monitor c_menter c_minl
  rw [td, e11, e12, e26]
  by_cases a0 : b_act τ t = 0
  · simp only [if_pos a0]
    by_cases c1 : τ.1 26 d = t
    · rw [if_pos c1, if_pos c1]
      exact ps_end h (by decide) (by decide)
    · rw [if_neg c1, if_neg c1]
      by_cases c2 : τ.1 26 d = -1
      · by_cases c3 : b_first τ d < 0
        · have hb : τ.1 26 d = -1 ∧ c_place κ d (-1) = -1 := ⟨c2, hfirst.mpr c3⟩
          simp only [if_pos hb, if_pos (show τ.1 26 d < 0 by omega), if_pos c3]
          exact huse t (by omega) t1
        · have hb : ¬ (τ.1 26 d = -1 ∧ c_place κ d (-1) = -1) := fun z => c3 (hfirst.mp z.2)
          simp only [if_neg hb, if_neg c3, ite_self]
          exact hwait0
      · have hb : ¬ (τ.1 26 d = -1 ∧ c_place κ d (-1) = -1) := fun z => c2 z.1
        simp only [if_neg hb, if_neg (show ¬ τ.1 26 d < 0 by omega)]
        exact hwait0
  simp only [if_neg a0]
  by_cases c1 : τ.1 26 d = t
  · simp only [if_pos c1]
    by_cases a1 : b_act τ t = 1
    · simp only [if_pos a1, if_pos (show b_act τ t < 5 by omega)]
      exact huse (-1) (by omega) (by omega)
    simp only [if_neg a1]
    by_cases b1 : b_num τ t < 0
    · rw [if_pos b1]
      have : ¬ (0 ≤ b_num τ t ∧ b_num τ t < 4) := by omega
      simp only [if_neg this, ite_self]
      exact ps_end h (by decide) (by decide)
    rw [if_neg b1]
    by_cases b2 : b_num τ t < 4
    · have hin : 0 ≤ b_num τ t ∧ b_num τ t < 4 := by omega
      simp only [if_pos b2, if_pos hin]
      have ha0 : 0 ≤ b_num τ t := hin.1
      by_cases a2 : b_act τ t = 2
      · simp only [if_pos a2, if_pos (show b_act τ t < 5 by omega)]
        have hI1 : WI (b_up (b_up τ 9 t 0) 26 d (-1)) := (hI9 0).upd _ _ rfl
        have e1 : (b_up (b_up τ 9 t 0) 26 d (-1)).1 26 d = -1 := pu_up_at _ _ _ _
        have eC : ∀ (c : Nat) (i : Int), c ≠ 9 → c ≠ 26 → (b_up (b_up τ 9 t 0) 26 d (-1)).1 c i = τ.1 c i := fun c i n9 n26 => by rw [b_up_c _ _ _ _ _ _ n26, b_up_c _ _ _ _ _ _ n9]
        have e9 : ∀ i, (b_up (b_up τ 9 t 0) 26 d (-1)).1 9 i = if i = t then 0 else τ.1 9 i := fun i => by
          rw [b_up_c _ _ _ _ _ _ (by decide)]
          exact pu_up_c _ _ _ _ _
        obtain ⟨hM9, _⟩ := (hC9 (b_num τ t) 0).mq (hI9 0) hd0 hd1
        have hM1 := hM9.up d (-1) (c := 26) (by decide) hI1
        have hC1 : CR (pu_up (pu_up κ 26 d (-1)) 42 (16 * d + t) (b_num τ t)) (b_up (b_up τ 9 t 0) 26 d (-1)) := by
          rw [pu_up_comm κ _ _ _ _ (by decide)]
          exact ⟨hM1.1, hM1.2.1⟩
        have ha1 : ACT (b_up (b_up τ 9 t 0) 26 d (-1)) t d := (ha.up _ _ (by decide)).up _ _ (by decide)
        have hnum : ∀ z, b_num (b_up (b_up τ 9 t 0) 26 d (-1)) z = b_num τ z := fun z => by rw [b_num_up _ _ _ _ (by decide), b_num_up _ _ _ _ (by decide)]
        have hz9 : ∀ z ∈ τ.2 d, (b_up (b_up τ 9 t 0) 26 d (-1)).1 9 z = τ.1 9 z := fun z hz => by rw [e9, if_neg (hne d hd0 hd1 z hz).1]
        have hJ1 : JA (b_up (b_up τ 9 t 0) 26 d (-1)) := (hJ9 0).up1 (hI9 0) (by decide) (JK.k11 (by rw [eC _ _ (by decide) (by decide)]; exact hk) ⟨by rw [e1]; omega, by rw [e1]; omega, fun z hz => by rw [hz9 z hz, hnum]; exact k3 z hz⟩ (by rw [eC _ _ (by decide) (by decide)]; exact h.jk.c))
        refine Or.inr ⟨rfl, _, hC1, hI1, hJ1, ha1, rfl, eC _ _ (by decide) (by decide), eC _ _ (by decide) (by decide), by rw [b_s_up _ _ _ _ (by decide), b_s_up _ _ _ _ (by decide)], ⟨fun e => ?_, fun e => ?_⟩, fun _ => rfl, fun h6 => ⟨Or.inl rfl, ?_⟩⟩
        · rw [e9, if_pos rfl, if_neg (by decide), hnum]
          exact pu_up_at (pu_up κ 26 d (-1)) 42 _ _
        · rw [eC _ _ (by decide) (by decide)] at e
          omega
        · rw [b_waits_n (by rw [eC _ _ (by decide) (by decide)]; exact h6) ha1.2.2.1]
          refine JK.k11 (by rw [b_wait_c _ _ _ _ _ (by decide), eC _ _ (by decide) (by decide)]; exact hk) ⟨by rw [b_wait_c _ _ _ _ _ (by decide), e1]; omega, by rw [b_wait_c _ _ _ _ _ (by decide), e1]; omega, fun z hz => ?_⟩ ?_
          · rw [b_wait_c _ _ _ _ _ (by decide), b_wait_num, hnum]
            rw [b_wait_2, if_pos rfl] at hz
            rcases List.mem_append.mp hz with hz | hz
            · rw [hz9 z hz]
              exact k3 z hz
            · rw [List.mem_singleton.mp hz]
              exact Or.inr ha0
          · rw [b_wait_c _ _ _ _ _ (by decide), eC _ _ (by decide) (by decide), h.2.2.2.2.2.1]
            exact ⟨Or.inl rfl, fun e => absurd e (by decide)⟩
      simp only [if_neg a2]
      by_cases a3 : b_act τ t = 3
      · simp only [if_pos a3, if_pos (show b_act τ t < 5 by omega), if_neg (show ¬ b_act τ t = 4 by omega)]
        obtain ⟨w1, w2⟩ := wk_one hd0 hd1 ha0 h.1 hI hJ hk (τ.2 d) [] rfl (by simp)
        exact hwk _ _ w1 w2 (fun c i hc => b_wk_c _ _ _ _ _ hc _ _ _)
      simp only [if_neg a3]
      by_cases a4 : b_act τ t = 4
      · simp only [if_pos a4, if_pos (show b_act τ t < 5 by omega)]
        obtain ⟨w1, w2⟩ := wk_all hd0 hd1 ha0 (τ.2 d) [] [] κ τ 0 16 h.1 hI hJ hk (by simp) (by simp) (by simp) (hI.len d hd0 hd1)
        exact hwk _ _ w1 w2 (fun c i hc => b_wk_c _ _ _ _ _ hc _ _ _)
      · simp only [if_neg a4, if_neg (show ¬ b_act τ t < 5 by omega)]
        exact ps_end h (by decide) (by decide)
    · have : ¬ (0 ≤ b_num τ t ∧ b_num τ t < 4) := by omega
      simp only [if_neg b2, if_neg this, ite_self]
      exact ps_end h (by decide) (by decide)
  · simp only [if_neg c1, ite_self]
    exact ps_end h (by decide) (by decide)
