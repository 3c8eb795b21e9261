/-! the layout grows by a block of roles -/
def ly_blk (y : jLay) (N r0 m : Nat) (i : Int) : jLay := (fun b => if N ≤ b ∧ b < N + m then (b - N + r0, i) else y.1 b, fun r j => if r0 ≤ r ∧ r < r0 + m ∧ j = i then N + (r - r0) else y.2 r j)
section LB
variable {y : jLay} {N r0 m : Nat} {i : Int}
theorem lb_new {r : Nat} (h1 : r0 ≤ r) (h2 : r < r0 + m) : (ly_blk y N r0 m i).2 r i = N + (r - r0) := if_pos ⟨h1, h2, rfl⟩
theorem lb_old {r : Nat} {j : Int} (h : ¬ (r0 ≤ r ∧ r < r0 + m ∧ j = i)) : (ly_blk y N r0 m i).2 r j = y.2 r j := if_neg h
theorem lb_in {b : Nat} (h1 : N ≤ b) (h2 : b < N + m) : (ly_blk y N r0 m i).1 b = (b - N + r0, i) := if_pos ⟨h1, h2⟩
theorem lb_out {b : Nat} (h : ¬ (N ≤ b ∧ b < N + m)) : (ly_blk y N r0 m i).1 b = y.1 b := if_neg h
theorem lb_on {r : Nat} (h1 : r0 ≤ r) (h2 : r < r0 + m) : pu_on (ly_blk y N r0 m i) r i := by
  unfold pu_on
  rw [lb_new h1 h2, lb_in (by omega) (by omega)]
  congr 1
  omega
theorem lb_keep {r : Nat} {j : Int} (h : pu_on y r j) (hn : ¬ (r0 ≤ r ∧ r < r0 + m ∧ j = i)) (hl : y.2 r j < N) : pu_on (ly_blk y N r0 m i) r j := by
  unfold pu_on
  rw [lb_old hn, lb_out (by omega)]
  exact h
theorem lb_inv (h : pu_inv y) (hn : ∀ a, (y.1 a).1 ≠ 0 → ¬ (r0 ≤ (y.1 a).1 ∧ (y.1 a).1 < r0 + m ∧ (y.1 a).2 = i)) : pu_inv (ly_blk y N r0 m i) := by
  intro a ha
  by_cases c : N ≤ a ∧ a < N + m
  · rw [lb_in c.1 c.2]
    show a = (ly_blk y N r0 m i).2 (a - N + r0) i
    rw [lb_new (by omega) (by omega)]
    omega
  · rw [lb_out c] at ha ⊢
    rw [lb_old (hn a ha)]
    exact h a ha
theorem lb_heap {κ' σ : aS} {g h : jH} (hr : 1 ≤ r0) (ha : ∀ b, N ≤ b → b < N + m → h.1 b = some (pu_cell (ly_blk y N r0 m i).2 κ' σ (b - N + r0) i)) (hb : ∀ b, ¬ (N ≤ b ∧ b < N + m) → (y.1 b).1 = 0 → h.1 b = g.1 b) (hc : ∀ b, ¬ (N ≤ b ∧ b < N + m) → (y.1 b).1 ≠ 0 → h.1 b = some (pu_cell (ly_blk y N r0 m i).2 κ' σ (y.1 b).1 (y.1 b).2)) : h = pu_H (ly_blk y N r0 m i) κ' σ (g.1, h.2) := by
  show (h.1, h.2) = (_, h.2)
  congr 1
  funext b
  show h.1 b = if ((ly_blk y N r0 m i).1 b).1 = 0 then g.1 b else some (pu_cell (ly_blk y N r0 m i).2 κ' σ ((ly_blk y N r0 m i).1 b).1 ((ly_blk y N r0 m i).1 b).2)
  by_cases c : N ≤ b ∧ b < N + m
  · rw [lb_in c.1 c.2, if_neg (by show b - N + r0 ≠ 0; omega)]
    exact ha b c.1 c.2
  · rw [lb_out c]
    by_cases c0 : (y.1 b).1 = 0
    · rw [if_pos c0]
      exact hb b c c0
    · rw [if_neg c0]
      exact hc b c c0
end LB
/-- what is there: a role and its index -/
def lv (ρ : aS) (r : Nat) (i : Int) : Prop := (1 ≤ r ∧ r ≤ 2 ∧ 0 ≤ i ∧ i < ρ 0 0) ∨ (3 ≤ r ∧ r ≤ 7 ∧ 0 ≤ i ∧ i < ρ 1 0) ∨ (r = 8 ∧ ∃ t j, 0 ≤ t ∧ t < ρ 0 0 ∧ 0 ≤ j ∧ j < ρ 3 t ∧ i = 20 * t + j) ∨ (9 ≤ r ∧ r ≤ 13 ∧ i = 0) ∨ (r = 14 ∧ 3 ≤ i ∧ i ≤ 36)
/-- all roles lie between B and N, and are there -/
def LA (y : jLay) (ρ : aS) (B N : Nat) : Prop := ∀ a, (y.1 a).1 ≠ 0 → B ≤ a ∧ a < N ∧ lv ρ (y.1 a).1 (y.1 a).2
theorem LA.on {y : jLay} {ρ : aS} {B N r : Nat} {i : Int} (h : LA y ρ B N) (ho : pu_on y r i) (hr : r ≠ 0) : B ≤ y.2 r i ∧ y.2 r i < N ∧ lv ρ r i := by
  have e : y.1 (y.2 r i) = (r, i) := ho
  have q := h (y.2 r i) (by rw [e]; exact hr)
  rw [e] at q
  exact q
theorem lv.same {ρ ρ' : aS} {r : Nat} {i : Int} (h : lv ρ r i) (h0 : ρ' 0 0 = ρ 0 0) (h1 : ρ' 1 0 = ρ 1 0) (h3 : ∀ i, ρ' 3 i = ρ 3 i) : lv ρ' r i := by
  unfold lv at h ⊢
  rw [h0, h1]
  rcases h with h | h | ⟨h, t, j, a, b, c, d, e⟩ | h | h
  · exact Or.inl h
  · exact Or.inr (Or.inl h)
  · exact Or.inr (Or.inr (Or.inl ⟨h, t, j, a, b, c, by rw [h3]; exact d, e⟩))
  · exact Or.inr (Or.inr (Or.inr (Or.inl h)))
  · exact Or.inr (Or.inr (Or.inr (Or.inr h)))
theorem LA.same {y : jLay} {ρ ρ' : aS} {B N : Nat} (h : LA y ρ B N) (h0 : ρ' 0 0 = ρ 0 0) (h1 : ρ' 1 0 = ρ 1 0) (h3 : ∀ i, ρ' 3 i = ρ 3 i) : LA y ρ' B N := fun a ha => ⟨(h a ha).1, (h a ha).2.1, (h a ha).2.2.same h0 h1 h3⟩
/-- cells with another layout -/
theorem pc_ad {ad ad' : Nat → Int → Nat} {κ σ : aS} {r : Nat} {i : Int} (h1 : r = 1 → ad' 2 i = ad 2 i ∧ (¬ κ 5 i < 0 → ad' 8 (20 * i + κ 4 i - 1) = ad 8 (20 * i + κ 4 i - 1))) (h2 : r = 2 → ∀ j : Nat, (j : Int) < κ 3 i → ad' 8 (20 * i + j) = ad 8 (20 * i + j)) (h3 : r = 3 → ∀ q : Nat, 4 ≤ q → q ≤ 7 → ad' q i = ad q i) (h4 : r = 4 → ∀ j : Nat, j < 16 → ¬ κ 22 (16 * i + j) < 0 → ad' 8 (κ 22 (16 * i + j)) = ad 8 (κ 22 (16 * i + j))) (h8 : r = 8 → ad' 1 (i / 20) = ad 1 (i / 20) ∧ ad' 3 (κ 10 i) = ad 3 (κ 10 i)) (h9 : r = 9 → ad' 10 0 = ad 10 0 ∧ ad' 11 0 = ad 11 0 ∧ ad' 12 0 = ad 12 0) (h10 : r = 10 → ∀ j : Nat, (j : Int) < κ 0 0 → ad' 1 j = ad 1 j) (h11 : r = 11 → ∀ j : Nat, (j : Int) < κ 1 0 → ad' 3 j = ad 3 j) (h13 : r = 13 → ∀ k : Int, ad' 14 k = ad 14 k) : pu_cell ad' κ σ r i = pu_cell ad κ σ r i := by
  by_cases c1 : r = 1
  · subst c1
    obtain ⟨a, b⟩ := h1 rfl
    simp only [pu_cell, Nat.reduceEqDiff, if_false, if_true]
    congr 2
    funext k
    simp only [pu_actor]
    rw [a]
    by_cases c : κ 5 i < 0
    · simp only [if_pos c]
    · rw [b c]
  by_cases c2 : r = 2
  · subst c2
    have a := h2 rfl
    simp only [pu_cell, Nat.reduceEqDiff, if_false, if_true]
    congr 2
    funext j
    by_cases c : (j : Int) < κ 3 i
    · rw [if_pos c, if_pos c, a j c]
    · rw [if_neg c, if_neg c]
  by_cases c3 : r = 3
  · subst c3
    have a := h3 rfl
    simp only [pu_cell, Nat.reduceEqDiff, if_false, if_true]
    congr 2
    funext k
    simp only [pu_dev, pu_own]
    rw [a 4 (by decide) (by decide), a 5 (by decide) (by decide), a 6 (by decide) (by decide), a 7 (by decide) (by decide)]
  by_cases c4 : r = 4
  · subst c4
    have a := h4 rfl
    simp only [pu_cell, Nat.reduceEqDiff, if_false, if_true]
    congr 2
    funext j
    by_cases c : j < 16
    · rw [if_pos c, if_pos c]
      by_cases c' : κ 22 (16 * i + j) < 0
      · rw [if_pos c', if_pos c']
      · rw [if_neg c', if_neg c', a j c c']
    · rw [if_neg c, if_neg c]
  by_cases c8 : r = 8
  · subst c8
    obtain ⟨a, b⟩ := h8 rfl
    simp only [pu_cell, Nat.reduceEqDiff, if_false, if_true]
    congr 2
    funext k
    simp only [pu_step]
    rw [a, b]
  by_cases c9 : r = 9
  · subst c9
    obtain ⟨a, b, c⟩ := h9 rfl
    simp only [pu_cell, Nat.reduceEqDiff, if_false, if_true]
    by_cases hi : i = 0
    · rw [if_pos hi, if_pos hi]
      congr 2
      funext k
      simp only [pu_kit]
      rw [a, b, c]
    · rw [if_neg hi, if_neg hi]
  by_cases c10 : r = 10
  · subst c10
    have a := h10 rfl
    simp only [pu_cell, Nat.reduceEqDiff, if_false, if_true]
    by_cases hi : i = 0
    · rw [if_pos hi, if_pos hi]
      congr 2
      funext j
      by_cases c : (j : Int) < κ 0 0
      · rw [if_pos c, if_pos c, a j c]
      · rw [if_neg c, if_neg c]
    · rw [if_neg hi, if_neg hi]
  by_cases c11 : r = 11
  · subst c11
    have a := h11 rfl
    simp only [pu_cell, Nat.reduceEqDiff, if_false, if_true]
    by_cases hi : i = 0
    · rw [if_pos hi, if_pos hi]
      congr 2
      funext j
      by_cases c : (j : Int) < κ 1 0
      · rw [if_pos c, if_pos c, a j c]
      · rw [if_neg c, if_neg c]
    · rw [if_neg hi, if_neg hi]
  by_cases c13 : r = 13
  · subst c13
    have a := h13 rfl
    simp only [pu_cell, Nat.reduceEqDiff, if_false, if_true]
    by_cases hi : i = 0
    · rw [if_pos hi, if_pos hi]
      congr 2
      funext k
      simp only [pu_mod]
      rw [a]
    · rw [if_neg hi, if_neg hi]
  simp only [pu_cell, c1, c2, c3, c4, c8, c9, c10, c11, c13, if_false]
theorem pc_u0 {r' : Nat} {i' j : Int} (h : pc_uses r' i' 0 j) : (r' = 9 ∨ r' = 10) ∧ i' = 0 ∧ j = 0 := by
  rcases h with ⟨h1, h2, h3⟩ | ⟨h1, h2, h3⟩ | ⟨h1, h2, h3⟩ | ⟨h1, h2, h3⟩ | ⟨h1, h2, h3⟩ | ⟨h1, h2⟩ | ⟨h1, h2, h3⟩ | ⟨h1, h2, h3⟩ | ⟨h1, h2, h3⟩ | ⟨h1, h2, h3⟩ | ⟨h1, h2, h3⟩ | ⟨h1, h2, h3⟩
  all_goals (first | exact absurd h2 (by decide) | omega)
theorem pc_u1 {r' : Nat} {i' j : Int} (h : pc_uses r' i' 1 j) : (r' = 9 ∨ r' = 11) ∧ i' = 0 ∧ j = 0 := by
  rcases h with ⟨h1, h2, h3⟩ | ⟨h1, h2, h3⟩ | ⟨h1, h2, h3⟩ | ⟨h1, h2, h3⟩ | ⟨h1, h2, h3⟩ | ⟨h1, h2⟩ | ⟨h1, h2, h3⟩ | ⟨h1, h2, h3⟩ | ⟨h1, h2, h3⟩ | ⟨h1, h2, h3⟩ | ⟨h1, h2, h3⟩ | ⟨h1, h2, h3⟩
  all_goals (first | exact absurd h2 (by decide) | omega)
theorem pc_u3 {r' : Nat} {i' j : Int} (h : pc_uses r' i' 3 j) : (r' = 1 ∨ r' = 2) ∧ i' = j := by
  rcases h with ⟨h1, h2, h3⟩ | ⟨h1, h2, h3⟩ | ⟨h1, h2, h3⟩ | ⟨h1, h2, h3⟩ | ⟨h1, h2, h3⟩ | ⟨h1, h2⟩ | ⟨h1, h2, h3⟩ | ⟨h1, h2, h3⟩ | ⟨h1, h2, h3⟩ | ⟨h1, h2, h3⟩ | ⟨h1, h2, h3⟩ | ⟨h1, h2, h3⟩
  all_goals (first | exact absurd h2 (by decide) | omega)
theorem pc_u18 {r' : Nat} {i' j : Int} (h : pc_uses r' i' 18 j) : (r' = 3 ∨ r' = 6) ∧ i' = j := by
  rcases h with ⟨h1, h2, h3⟩ | ⟨h1, h2, h3⟩ | ⟨h1, h2, h3⟩ | ⟨h1, h2, h3⟩ | ⟨h1, h2, h3⟩ | ⟨h1, h2⟩ | ⟨h1, h2, h3⟩ | ⟨h1, h2, h3⟩ | ⟨h1, h2, h3⟩ | ⟨h1, h2, h3⟩ | ⟨h1, h2, h3⟩ | ⟨h1, h2, h3⟩
  all_goals (first | exact absurd h2 (by decide) | omega)
/-! rows on any heap -/
section RW
variable {h : jH} {a b v : Nat} {q w : jC} {tags : List Nat} {f : Nat} {k : jK} {L : List (Option jV)} {S : List jV} {u : jV} {x i : Int} {r : Option Nat}
theorem nw_at : (jm_new h q).1 h.2.1 = some q := if_pos rfl
theorem nw_ne (hb : b ≠ h.2.1) : (jm_new h q).1 b = h.1 b := if_neg hb
theorem nw_2 : (jm_new h q).2 = (h.2.1 + 1, h.2.2 + q.2.1) := rfl
theorem st_at : (jm_set h a q f u).1 a = some (q.1, q.2.1, jm_upd q.2.2 f u) := if_pos rfl
theorem st_ne (hb : b ≠ a) : (jm_set h a q f u).1 b = h.1 b := if_neg hb
theorem st_2 : (jm_set h a q f u).2 = h.2 := rfl
theorem rw_get (hq : h.1 a = some q) (ht : q.1 ∈ tags) : jk_get tags f k L (.inr (some a) :: S) h = k L (q.2.2 f :: S) h := by
  unfold jk_get
  simp only [hq, ht, if_true]
theorem rw_puti (hq : h.1 a = some q) (ht : q.1 ∈ tags) : jk_puti tags f k L (.inl x :: .inr (some a) :: S) h = k L S (jm_set h a q f (.inl x)) := by
  unfold jk_puti
  simp only [hq, ht, if_true]
theorem rw_puta (hq : h.1 a = some q) (ht : q.1 ∈ tags) : jk_puta tags f k L (.inr r :: .inr (some a) :: S) h = k L S (jm_set h a q f (.inr r)) := by
  unfold jk_puta
  simp only [hq, ht, if_true]
theorem rw_aast {tag : Nat} (hq : h.1 a = some q) (hw : h.1 v = some w) (ht : q.1 = tag) (h0 : 0 ≤ i) (h1 : i < q.2.1) (hm : w.1 ∈ jm_may tag) : jk_aast tag k L (.inr (some v) :: .inl i :: .inr (some a) :: S) h = k L S (jm_set h a q i.toNat (.inr (some v))) := by
  unfold jk_aast
  simp only [hq, hw]
  rw [if_pos ⟨ht, h0, h1, hm⟩]
theorem rw_newarr {tag : Nat} {c : Int} (h0 : 0 ≤ c) (h1 : c ≤ 100000) : jk_newarr tag u k L (.inl c :: S) h = k L (.inr (some h.2.1) :: S) (jm_new h (tag, c.toNat, fun _ => u)) := by
  unfold jk_newarr
  simp only [h0, h1, and_self, if_true]
theorem rw_new {tag m : Nat} {refs : List Nat} : jk_new tag m refs k L S h = k L (.inr (some h.2.1) :: S) (jm_new h (tag, m, fun j => if j ∈ refs then .inr none else .inl 0)) := rfl
theorem rw_obj (hS : S.length ≤ 8) : jk_obj k L (.inr (some a) :: S) h = k L S h := by
  unfold jk_obj
  simp only [hS, if_true]
theorem rw_alen (hq : h.1 a = some q) (h0 : 20 ≤ q.1) (h1 : q.1 ≤ 30) : jk_alen k L (.inr (some a) :: S) h = k L (.inl q.2.1 :: S) h := by
  unfold jk_alen
  simp only [hq, h0, h1, and_self, if_true]
theorem rw_iald (hq : h.1 a = some q) (ht : q.1 = 20 ∨ q.1 = 30) (h0 : 0 ≤ i) (h1 : i < q.2.1) : jk_iald k L (.inl i :: .inr (some a) :: S) h = k L (q.2.2 i.toNat :: S) h := by
  unfold jk_iald
  simp only [hq]
  rw [if_pos ⟨ht, h0, h1⟩]
theorem rw_ic0 {F : jF} (hS : S.length ≤ 8) : jk_icall F 0 k L (.inr (some a) :: S) h = jm_back k L S (F [.inr (some a)] h) := by
  unfold jk_icall
  rw [if_pos ⟨by simp only [List.length_cons]; omega, by simp only [List.length_cons]; omega⟩]
  rfl
theorem rw_ic1 {F : jF} {u1 : jV} (hS : S.length ≤ 8) : jk_icall F 1 k L (u1 :: .inr (some a) :: S) h = jm_back k L S (F [.inr (some a), u1] h) := by
  unfold jk_icall
  rw [if_pos ⟨by simp only [List.length_cons]; omega, by simp only [List.length_cons]; omega⟩]
  rfl
theorem rw_ic2 {F : jF} {u1 u2 : jV} (hS : S.length ≤ 8) : jk_icall F 2 k L (u2 :: u1 :: .inr (some a) :: S) h = jm_back k L S (F [.inr (some a), u1, u2] h) := by
  unfold jk_icall
  rw [if_pos ⟨by simp only [List.length_cons]; omega, by simp only [List.length_cons]; omega⟩]
  rfl
theorem rw_ic3 {F : jF} {u1 u2 u3 : jV} (hS : S.length ≤ 8) : jk_icall F 3 k L (u3 :: u2 :: u1 :: .inr (some a) :: S) h = jm_back k L S (F [.inr (some a), u1, u2, u3] h) := by
  unfold jk_icall
  rw [if_pos ⟨by simp only [List.length_cons]; omega, by simp only [List.length_cons]; omega⟩]
  rfl
theorem rw_ic5 {F : jF} {u1 u2 u3 u4 u5 : jV} (hS : S.length ≤ 8) : jk_icall F 5 k L (u5 :: u4 :: u3 :: u2 :: u1 :: .inr (some a) :: S) h = jm_back k L S (F [.inr (some a), u1, u2, u3, u4, u5] h) := by
  unfold jk_icall
  rw [if_pos ⟨by simp only [List.length_cons]; omega, by simp only [List.length_cons]; omega⟩]
  rfl
theorem rw_c3 {F : jF} {u1 u2 u3 : jV} (hS : S.length ≤ 8) : jk_call F 3 k L (u3 :: u2 :: u1 :: S) h = jm_back k L S (F [u1, u2, u3] h) := by
  unfold jk_call
  rw [if_pos ⟨by simp only [List.length_cons]; omega, by simp only [List.length_cons]; omega⟩]
  rfl
theorem rw_vc1 {t : Nat} {F : jF} {u1 : jV} (hq : h.1 a = some q) (ht : q.1 = t) (hS : S.length ≤ 8) : jk_vcall [(t, F)] 1 k L (u1 :: .inr (some a) :: S) h = jm_back k L S (F [.inr (some a), u1] h) := by
  unfold jk_vcall
  rw [if_pos ⟨by simp only [List.length_cons]; omega, by simp only [List.length_cons]; omega⟩]
  simp only [List.getElem?_cons_succ, List.getElem?_cons_zero, hq, jm_look, ht, if_true]
  rfl
end RW
def fn_10 (ad : Nat → Int → Nat) (κ : aS) : Nat → jV := fun j => if (j : Int) < κ 0 0 then .inr (some (ad 1 j)) else .inr none
def fn_11 (ad : Nat → Int → Nat) (κ : aS) : Nat → jV := fun j => if (j : Int) < κ 1 0 then .inr (some (ad 3 j)) else .inr none
def fn_2 (ad : Nat → Int → Nat) (κ : aS) (t : Int) : Nat → jV := fun j => if (j : Int) < κ 3 t then .inr (some (ad 8 (20 * t + j))) else .inr none
