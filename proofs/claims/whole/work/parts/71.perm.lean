/-- t acts at d, which is open: what is known -/
def AH (κ : aS) (τ : bS) (d t : Int) : Prop := CR κ τ ∧ WI τ ∧ JA τ ∧ ACT τ t d ∧ κ 15 (b_s τ t) = 0 ∧ τ.1 20 d = 0 ∧ 0 ≤ b_act τ t ∧ (τ.1 18 d = 7 → τ.1 24 d + 1 ≤ b_sum (fun t => τ.1 4 t) 16) ∧ 0 ≤ d ∧ d < 12
section AHs
variable {κ κ1 κ' : aS} {τ τ1 τ' : bS} {d t o v : Int}
theorem AH.e (h : AH κ τ d t) (c : Nat) (i : Int) (hc : mr_c c = true) : κ c i = τ.1 c i := h.1.1.1 c i hc
theorem AH.mq (h : AH κ τ d t) : Mq κ τ d τ.2 [] [] := (h.1.mq h.2.1 h.2.2.2.2.2.2.2.2.1 h.2.2.2.2.2.2.2.2.2).1
theorem AH.act (h : AH κ τ d t) : κ 11 (b_s τ t) = b_act τ t ∧ κ 12 (b_s τ t) = b_num τ t := ⟨h.e 11 _ rfl, h.e 12 _ rfl⟩
theorem AH.len (h : AH κ τ d t) : κ 23 d = ((τ.2 d).length : Nat) := (h.1.2 d h.2.2.2.2.2.2.2.2.1 h.2.2.2.2.2.2.2.2.2).1
theorem AH.jk (h : AH κ τ d t) : JK τ d := h.2.2.1 d h.2.2.2.2.2.2.2.2.1 h.2.2.2.2.2.2.2.2.2
theorem ps_end (h : AH κ τ d t) (ho : o ≠ 0) (ho1 : o ≠ 1) : PS τ (b_ends τ t o 0) d t (o, κ) := by
  obtain ⟨hC, hI, hJ, ha, h15, h20, hact, h7, hd0, hd1⟩ := h
  exact Or.inl ⟨ho1, pfd_end hd0 hd1 hC hI hJ ha ho⟩
theorem ps_pass (h : AH κ τ d t) (hM : Mq κ1 τ1 d τ1.2 [] []) (h2 : τ1.2 = τ.2) (hC : ∀ (c : Nat) (i : Int), c = 4 ∨ c = 5 ∨ c = 10 ∨ c = 14 ∨ c = 2 → τ1.1 c i = τ.1 c i) (hJ1 : JA τ1) (hκ : ∀ (c : Nat) (i : Int), c ≠ 15 → c ≠ 14 → κ' c i = κ1 c i) (h14 : ∀ i, i ≠ b_s τ t → κ' 14 i = κ1 14 i) (h15 : ∀ i, κ' 15 i = if i = b_s τ t then v else κ1 15 i) : PS τ (b_passes τ1 t v) d t (0, κ') := by
  obtain ⟨_, hI, hJ, ⟨tO, t5, t10, t14, tl⟩, _, h20, hact, h7, hd0, hd1⟩ := h
  have es : b_s τ1 t = b_s τ t := by unfold b_s; rw [hC 4 t (by decide)]
  refine Or.inl ⟨show (0 : Int) ≠ 1 by decide, pfd_pass hd0 hd1 hM ⟨?_, ?_, ?_, ?_, ?_⟩ hJ1 es (hC 2 0 (by decide)) hκ h14 h15⟩
  · unfold OKt
    rw [hC 4 t (by decide)]
    exact tO
  · rw [hC 5 t (by decide)]; exact t5
  · rw [es, hC 10 _ (by decide)]; exact t10
  · rw [es, hC 14 _ (by decide)]; exact t14
  · rw [h2]; exact tl
/-- t passes, nothing else changes -/
theorem ps_pass0 (h : AH κ τ d t) (hκ : ∀ (c : Nat) (i : Int), c ≠ 15 → c ≠ 14 → κ' c i = κ c i) (h14 : ∀ i, i ≠ b_s τ t → κ' 14 i = κ 14 i) (h15 : ∀ i, κ' 15 i = if i = b_s τ t then v else κ 15 i) : PS τ (b_passes τ t v) d t (0, κ') := ps_pass h h.mq rfl (fun _ _ _ => rfl) h.2.2.1 hκ h14 h15
theorem pw_plain (h : AH κ τ d t) (hk : τ.1 18 d ≠ 11 ∧ τ.1 18 d ≠ 3) (hJ : JK (b_wait τ d t) d) : PS τ (b_waits τ t) d t (1, κ) := by
  obtain ⟨hC, hI, hJA, ha, h15, h20, hact, h7, hd0, hd1⟩ := h
  refine Or.inr ⟨rfl, τ, hC, hI, hJA, ha, rfl, rfl, rfl, rfl, ⟨fun e => absurd e hk.1, fun e => absurd e hk.2⟩, fun _ => rfl, fun h6 => ⟨Or.inl rfl, ?_⟩⟩
  rw [b_waits_n h6 ha.2.2.1]
  exact hJ
theorem AH.cw (h : AH κ τ d t) : ((b_wait τ d t).1 20 d = 0 ∨ (b_wait τ d t).1 20 d = 1) ∧ ((b_wait τ d t).1 20 d = 1 → (b_wait τ d t).2 d = []) := by
  have h20 := h.2.2.2.2.2.1
  rw [b_wait_c _ _ _ _ _ (by decide), h20]
  exact ⟨Or.inl rfl, fun e => absurd e (by decide)⟩
theorem AH.cu (h : AH κ τ d t) {c : Nat} (i w : Int) (hc : c ≠ 20) : ((b_up τ c i w).1 20 d = 0 ∨ (b_up τ c i w).1 20 d = 1) ∧ ((b_up τ c i w).1 20 d = 1 → (b_up τ c i w).2 d = []) := by
  rw [b_up_c _ _ _ _ _ _ (Ne.symm hc)]
  exact h.jk.c
theorem AH.wm (h : AH κ τ d t) {z : Int} (hz : z ∈ (b_wait τ d t).2 d) : z ∈ τ.2 d ∨ z = t := by
  rw [b_wait_2, if_pos rfl] at hz
  rcases List.mem_append.mp hz with hz | hz
  · exact Or.inl hz
  · exact Or.inr (List.mem_singleton.mp hz)
end AHs
theorem bk_01 {τ : bS} {d t a b : Int} (hk : τ.1 18 d = 0 ∨ τ.1 18 d = 1) : b_kind τ d t a b = b_permits τ d t a b := by
  unfold b_kind
  rcases hk with hk | hk
  · rw [if_pos hk]
  · rw [if_neg (by omega), if_pos hk]
theorem perm_ps {κ : aS} {τ : bS} {d t : Int} (h : AH κ τ d t) (hk : τ.1 18 d = 0 ∨ τ.1 18 d = 1) : PS τ (b_permits τ d t (b_act τ t) (b_num τ t)) d t (c_permits κ d (b_s τ t)) := by
  have hI := h.2.1
  have hJ := h.2.2.1
  have hact := h.2.2.2.2.2.2.1
  have e24 := h.e 24 d rfl
  have e18 := h.e 18 d rfl
  have e23 := h.len
  obtain ⟨e11, e12⟩ := h.act
  have h01 := h.jk.1 hk
  unfold c_permits b_permits c_give
  rw [e11, e12, e24, e18, e23]
  by_cases c1 : 2 < b_act τ t
  · rw [if_pos c1, if_pos c1]
    exact ps_end h (by decide) (by decide)
  rw [if_neg c1, if_neg c1]
  by_cases c2 : b_num τ t < 1
  · rw [if_pos c2, if_pos c2]
    exact ps_end h (by decide) (by decide)
  rw [if_neg c2, if_neg c2]
  by_cases c3 : 100 < b_num τ t
  · rw [if_pos c3, if_pos c3]
    exact ps_end h (by decide) (by decide)
  rw [if_neg c3, if_neg c3]
  have hI1 : ∀ p, WI (b_up τ 24 d p) := fun p => hI.up24 d p (fun h6 => by omega)
  have hJ1 : ∀ p, JA (b_up τ 24 d p) := fun p => hJ.up1 hI (by decide) (JK.k01 (by rw [b_up_c _ _ _ _ _ _ (by decide)]; exact hk) (fun z hz => by rw [b_num_up _ _ _ _ (by decide)]; exact h01 z hz) (h.cu _ _ (by decide)))
  have hM1 : ∀ p, Mq (pu_up κ 24 d p) (b_up τ 24 d p) d τ.2 [] [] := fun p => h.mq.up d p (by decide) (hI1 p)
  have hpass : ∀ p, PS τ (b_passes (b_up τ 24 d p) t p) d t (0, c_pass (pu_up κ 24 d p) (b_s τ t) p) := fun p => ps_pass h (hM1 p) rfl (fun c i hc => b_up_c _ _ _ _ _ _ (by omega)) (hJ1 p) (fun c i h1 h2 => c_pass_c _ _ _ _ _ h2 h1) (fun i hi => by rw [c_pass_14, if_neg hi]) (fun i => c_pass_15 _ _ _ _)
  have hwait : PS τ (b_waits τ t) d t (1, κ) := pw_plain h ⟨by omega, by omega⟩ (JK.k01 (by rw [b_wait_c _ _ _ _ _ (by decide)]; exact hk) (fun z hz => by
    rw [b_wait_num]
    rcases h.wm hz with hz | hz
    · exact h01 z hz
    · rw [hz]
      omega) h.cw)
  by_cases c4 : b_act τ t = 1
  · rw [if_pos c4, if_pos c4]
    by_cases c5 : 1000 < jm_wr (τ.1 24 d + b_num τ t)
    · rw [if_pos c5, if_pos c5]
      exact ps_end h (by decide) (by decide)
    · rw [if_neg c5, if_neg c5]
      exact ps_pass h (hM1 _) rfl (fun c i hc => b_up_c _ _ _ _ _ _ (by omega)) (hJ1 _) (fun c i h1 h2 => pu_up_ne _ _ _ _ h1) (fun i hi => pu_up_ne _ _ _ _ (by decide)) (fun i => pu_up_c _ _ _ _ _)
  rw [if_neg c4, if_neg c4]
  have hlast : PS τ (if b_act τ t = 2 then b_ends τ t 7 0 else b_waits τ t) d t (if b_act τ t = 0 then 1 else 7, κ) := by
    by_cases c6 : b_act τ t = 0
    · rw [if_pos c6, if_neg (by omega)]
      exact hwait
    · rw [if_neg c6, if_pos (by omega)]
      exact ps_end h (by decide) (by decide)
  by_cases c5 : τ.1 24 d < b_num τ t
  · rw [if_pos (Or.inl c5), if_pos c5]
    exact hlast
  rw [if_neg c5]
  rcases hk with hk | hk
  · rw [if_pos hk, if_neg (by omega)]
    exact hpass _
  · rw [if_neg (by omega)]
    by_cases c6 : τ.2 d = []
    · rw [if_pos c6, c6, if_neg (by simp; omega)]
      exact hpass _
    · have hpos := List.length_pos_iff.mpr c6
      rw [if_neg c6, if_pos (show τ.1 24 d < b_num τ t ∨ τ.1 18 d = 1 ∧ 0 < (((τ.2 d).length : Nat) : Int) from Or.inr ⟨hk, by omega⟩)]
      exact hlast
