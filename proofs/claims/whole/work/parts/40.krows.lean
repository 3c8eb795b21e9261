/-! the class's rows: which cells read a component -/
def pc_uses (r : Nat) (i : Int) (c : Nat) (j : Int) : Prop :=
  (r = 1 ∧ (c = 3 ∨ c = 4 ∨ c = 5 ∨ c = 6 ∨ c = 7) ∧ j = i) ∨ (r = 2 ∧ c = 3 ∧ j = i) ∨
  (r = 3 ∧ (c = 18 ∨ c = 19 ∨ c = 20 ∨ c = 21 ∨ c = 23 ∨ c = 24 ∨ c = 25 ∨ c = 26 ∨ c = 27 ∨ c = 34 ∨ c = 43) ∧ j = i) ∨
  (r = 4 ∧ c = 22 ∧ 16 * i ≤ j ∧ j < 16 * i + 16) ∨ (r = 5 ∧ c = 33 ∧ 300 * i ≤ j ∧ j < 300 * i + 300) ∨
  (r = 6 ∧ ((c = 18 ∧ j = i) ∨ ((c = 29 ∨ c = 30 ∨ c = 42) ∧ 16 * i ≤ j ∧ j < 16 * i + 16) ∨ (c = 32 ∧ 8 * i ≤ j ∧ j < 8 * i + 8))) ∨
  (r = 7 ∧ c = 31 ∧ 16 * i ≤ j ∧ j < 16 * i + 16) ∨
  (r = 8 ∧ (c = 10 ∨ c = 11 ∨ c = 12 ∨ c = 13 ∨ c = 14 ∨ c = 15 ∨ c = 16 ∨ c = 17) ∧ j = i) ∨
  (r = 9 ∧ (c = 0 ∨ c = 1 ∨ c = 2 ∨ c = 37 ∨ c = 38 ∨ c = 41) ∧ i = 0 ∧ j = 0) ∨
  (r = 10 ∧ c = 0 ∧ i = 0 ∧ j = 0) ∨ (r = 11 ∧ c = 1 ∧ i = 0 ∧ j = 0) ∨ (r = 12 ∧ c = 40 ∧ i = 0)
theorem pu_arr_congr {n : Nat} {f f' : Int → jV} (h : ∀ j : Nat, j < n → f' j = f j) : pu_arr n f' = pu_arr n f := by
  funext j
  unfold pu_arr
  split
  · rename_i hj; exact h j hj
  · rfl
theorem pc_cong {ad : Nat → Int → Nat} {κ κ' σ : aS} {r : Nat} {i : Int} (h : ∀ c j, pc_uses r i c j → κ' c j = κ c j) : pu_cell ad κ' σ r i = pu_cell ad κ σ r i := by
  by_cases h1 : r = 1
  · subst h1
    have e : ∀ c, (c = 3 ∨ c = 4 ∨ c = 5 ∨ c = 6 ∨ c = 7) → κ' c i = κ c i := fun c hc => h c i (Or.inl (⟨rfl, hc, rfl⟩))
    have e' : pu_actor ad κ' i = pu_actor ad κ i := by
      funext k
      simp only [pu_actor, e 3 (by decide), e 4 (by decide), e 5 (by decide), e 6 (by decide), e 7 (by decide)]
    simp only [pu_cell, Nat.reduceEqDiff, if_false, if_true]
    rw [e']
  by_cases h2 : r = 2
  · subst h2
    have e : κ' 3 i = κ 3 i := h 3 i (Or.inr (Or.inl (⟨rfl, rfl, rfl⟩)))
    simp only [pu_cell, Nat.reduceEqDiff, if_false, if_true]
    rw [e]
  by_cases h3 : r = 3
  · subst h3
    have e : ∀ c, (c = 18 ∨ c = 19 ∨ c = 20 ∨ c = 21 ∨ c = 23 ∨ c = 24 ∨ c = 25 ∨ c = 26 ∨ c = 27 ∨ c = 34 ∨ c = 43) → κ' c i = κ c i := fun c hc => h c i (Or.inr (Or.inr (Or.inl (⟨rfl, hc, rfl⟩))))
    have e' : pu_dev ad κ' i = pu_dev ad κ i := by
      funext k
      simp only [pu_dev, pu_own, e 18 (by decide), e 19 (by decide), e 20 (by decide), e 21 (by decide), e 23 (by decide), e 24 (by decide), e 25 (by decide), e 26 (by decide), e 27 (by decide), e 34 (by decide), e 43 (by decide)]
    simp only [pu_cell, Nat.reduceEqDiff, if_false, if_true]
    rw [e', e 18 (by decide)]
  by_cases h4 : r = 4
  · subst h4
    have e : ∀ j : Nat, j < 16 → κ' 22 (16 * i + j) = κ 22 (16 * i + j) := fun j hj => h 22 _ (Or.inr (Or.inr (Or.inr (Or.inl (⟨rfl, rfl, by omega, by omega⟩)))))
    simp only [pu_cell, Nat.reduceEqDiff, if_false, if_true]
    congr 2
    funext j
    by_cases hj : j < 16
    · rw [if_pos hj, if_pos hj, e j hj]
    · rw [if_neg hj, if_neg hj]
  by_cases h5 : r = 5
  · subst h5
    have e' : ∀ j : Nat, j < 300 → κ' 33 (300 * i + j) = κ 33 (300 * i + j) := fun j hj => h 33 _ (Or.inr (Or.inr (Or.inr (Or.inr (Or.inl (⟨rfl, rfl, by omega, by omega⟩))))))
    simp only [pu_cell, Nat.reduceEqDiff, if_false, if_true]
    have e : pu_arr 300 (fun j => (.inl (κ' 33 (300 * i + j)) : jV)) = pu_arr 300 (fun j => .inl (κ 33 (300 * i + j))) := pu_arr_congr (fun j hj => by rw [e' j hj])
    rw [e]
  by_cases h6 : r = 6
  · subst h6
    have e0 : κ' 18 i = κ 18 i := h 18 i (Or.inr (Or.inr (Or.inr (Or.inr (Or.inr (Or.inl (⟨rfl, Or.inl ⟨rfl, rfl⟩⟩)))))))
    have e29 : pu_arr 16 (fun j => (.inl (κ' 29 (16 * i + j)) : jV)) = pu_arr 16 (fun j => .inl (κ 29 (16 * i + j))) := pu_arr_congr (fun j hj => by rw [h 29 (16 * i + j) (Or.inr (Or.inr (Or.inr (Or.inr (Or.inr (Or.inl (⟨rfl, Or.inr (Or.inl ⟨Or.inl rfl, by omega, by omega⟩)⟩)))))))])
    have e30 : pu_arr 16 (fun j => (.inl (κ' 30 (16 * i + j)) : jV)) = pu_arr 16 (fun j => .inl (κ 30 (16 * i + j))) := pu_arr_congr (fun j hj => by rw [h 30 (16 * i + j) (Or.inr (Or.inr (Or.inr (Or.inr (Or.inr (Or.inl (⟨rfl, Or.inr (Or.inl ⟨Or.inr (Or.inl rfl), by omega, by omega⟩)⟩)))))))])
    have e42 : pu_arr 16 (fun j => (.inl (κ' 42 (16 * i + j)) : jV)) = pu_arr 16 (fun j => .inl (κ 42 (16 * i + j))) := pu_arr_congr (fun j hj => by rw [h 42 (16 * i + j) (Or.inr (Or.inr (Or.inr (Or.inr (Or.inr (Or.inl (⟨rfl, Or.inr (Or.inl ⟨Or.inr (Or.inr rfl), by omega, by omega⟩)⟩)))))))])
    have e32 : pu_arr 8 (fun j => (.inl (κ' 32 (8 * i + j)) : jV)) = pu_arr 8 (fun j => .inl (κ 32 (8 * i + j))) := pu_arr_congr (fun j hj => by rw [h 32 (8 * i + j) (Or.inr (Or.inr (Or.inr (Or.inr (Or.inr (Or.inl (⟨rfl, Or.inr (Or.inr ⟨rfl, by omega, by omega⟩)⟩)))))))])
    simp only [pu_cell, Nat.reduceEqDiff, if_false, if_true]
    rw [e0, e29, e30, e32, e42]
  by_cases h7 : r = 7
  · subst h7
    have e' : ∀ j : Nat, j < 16 → κ' 31 (16 * i + j) = κ 31 (16 * i + j) := fun j hj => h 31 _ (Or.inr (Or.inr (Or.inr (Or.inr (Or.inr (Or.inr (Or.inl (⟨rfl, rfl, by omega, by omega⟩))))))))
    simp only [pu_cell, Nat.reduceEqDiff, if_false, if_true]
    have e : pu_arr 16 (fun j => (.inl (κ' 31 (16 * i + j)) : jV)) = pu_arr 16 (fun j => .inl (κ 31 (16 * i + j))) := pu_arr_congr (fun j hj => by rw [e' j hj])
    rw [e]
  by_cases h8 : r = 8
  · subst h8
    have e : ∀ c, (c = 10 ∨ c = 11 ∨ c = 12 ∨ c = 13 ∨ c = 14 ∨ c = 15 ∨ c = 16 ∨ c = 17) → κ' c i = κ c i := fun c hc => h c i (Or.inr (Or.inr (Or.inr (Or.inr (Or.inr (Or.inr (Or.inr (Or.inl (⟨rfl, hc, rfl⟩)))))))))
    have e' : pu_step ad κ' i = pu_step ad κ i := by
      funext k
      simp only [pu_step, e 10 (by decide), e 11 (by decide), e 12 (by decide), e 13 (by decide), e 14 (by decide), e 15 (by decide), e 16 (by decide), e 17 (by decide)]
    simp only [pu_cell, Nat.reduceEqDiff, if_false, if_true]
    rw [e']
  by_cases h9 : r = 9
  · subst h9
    by_cases hi : i = 0
    · subst hi
      have e : ∀ c, (c = 0 ∨ c = 1 ∨ c = 2 ∨ c = 37 ∨ c = 38 ∨ c = 41) → κ' c 0 = κ c 0 := fun c hc => h c 0 (Or.inr (Or.inr (Or.inr (Or.inr (Or.inr (Or.inr (Or.inr (Or.inr (Or.inl (⟨rfl, hc, rfl, rfl⟩))))))))))
      have e' : pu_kit ad κ' = pu_kit ad κ := by
        funext k
        simp only [pu_kit, e 0 (by decide), e 1 (by decide), e 2 (by decide), e 37 (by decide), e 38 (by decide), e 41 (by decide)]
      simp only [pu_cell, Nat.reduceEqDiff, if_false, if_true]
      rw [e']
    · simp [pu_cell, hi]
  by_cases h10 : r = 10
  · subst h10
    by_cases hi : i = 0
    · subst hi
      have e : κ' 0 0 = κ 0 0 := h 0 0 (Or.inr (Or.inr (Or.inr (Or.inr (Or.inr (Or.inr (Or.inr (Or.inr (Or.inr (Or.inl (⟨rfl, rfl, rfl, rfl⟩)))))))))))
      simp only [pu_cell, Nat.reduceEqDiff, if_false, if_true]
      rw [e]
    · simp [pu_cell, hi]
  by_cases h11 : r = 11
  · subst h11
    by_cases hi : i = 0
    · subst hi
      have e : κ' 1 0 = κ 1 0 := h 1 0 (Or.inr (Or.inr (Or.inr (Or.inr (Or.inr (Or.inr (Or.inr (Or.inr (Or.inr (Or.inr (Or.inl (⟨rfl, rfl, rfl, rfl⟩))))))))))))
      simp only [pu_cell, Nat.reduceEqDiff, if_false, if_true]
      rw [e]
    · simp [pu_cell, hi]
  by_cases h12 : r = 12
  · subst h12
    by_cases hi : i = 0
    · subst hi
      have e : ∀ j, κ' 40 j = κ 40 j := fun j => h 40 j (Or.inr (Or.inr (Or.inr (Or.inr (Or.inr (Or.inr (Or.inr (Or.inr (Or.inr (Or.inr (Or.inr (⟨rfl, rfl, rfl⟩))))))))))))
      simp only [pu_cell, Nat.reduceEqDiff, if_false, if_true]
      simp only [e]
    · simp [pu_cell, hi]
  simp only [pu_cell, h1, h2, h3, h4, h5, h6, h7, h8, h9, h10, h11, h12, if_false]
theorem pc_put {y : jLay} {κ σ : aS} {g : jH} {r : Nat} {i : Int} {c : Nat} {j v : Int} {q : jC} (h : pu_on y r i) (hr : r ≠ 0) (hy : pu_inv y) (h1 : pu_cell y.2 (pu_up κ c j v) σ r i = q) (hu : ∀ r' i', pc_uses r' i' c j → r' = r ∧ i' = i) : jm_put (pu_H y κ σ g) (y.2 r i) q = pu_H y (pu_up κ c j v) σ g := by
  refine pu_put h hr hy h1 (fun r' i' hne => pc_cong (fun c' j' hus => ?_))
  unfold pu_up
  rw [if_neg ?_]
  rintro ⟨rfl, rfl⟩
  have := hu r' i' hus
  omega
theorem pc_u2 {r' : Nat} {i' j : Int} (h : pc_uses r' i' 2 j) : r' = 9 ∧ i' = 0 ∧ j = 0 := by
  rcases h with ⟨h1, h2, h3⟩ | ⟨h1, h2, h3⟩ | ⟨h1, h2, h3⟩ | ⟨h1, h2, h3⟩ | ⟨h1, h2, h3⟩ | ⟨h1, h2⟩ | ⟨h1, h2, h3⟩ | ⟨h1, h2, h3⟩ | ⟨h1, h2, h3⟩ | ⟨h1, h2, h3⟩ | ⟨h1, h2, h3⟩ | ⟨h1, h2, h3⟩
  all_goals (first | exact absurd h2 (by decide) | omega)
theorem pc_u4 {r' : Nat} {i' j : Int} (h : pc_uses r' i' 4 j) : r' = 1 ∧ i' = j := by
  rcases h with ⟨h1, h2, h3⟩ | ⟨h1, h2, h3⟩ | ⟨h1, h2, h3⟩ | ⟨h1, h2, h3⟩ | ⟨h1, h2, h3⟩ | ⟨h1, h2⟩ | ⟨h1, h2, h3⟩ | ⟨h1, h2, h3⟩ | ⟨h1, h2, h3⟩ | ⟨h1, h2, h3⟩ | ⟨h1, h2, h3⟩ | ⟨h1, h2, h3⟩
  all_goals (first | exact absurd h2 (by decide) | omega)
theorem pc_u5 {r' : Nat} {i' j : Int} (h : pc_uses r' i' 5 j) : r' = 1 ∧ i' = j := by
  rcases h with ⟨h1, h2, h3⟩ | ⟨h1, h2, h3⟩ | ⟨h1, h2, h3⟩ | ⟨h1, h2, h3⟩ | ⟨h1, h2, h3⟩ | ⟨h1, h2⟩ | ⟨h1, h2, h3⟩ | ⟨h1, h2, h3⟩ | ⟨h1, h2, h3⟩ | ⟨h1, h2, h3⟩ | ⟨h1, h2, h3⟩ | ⟨h1, h2, h3⟩
  all_goals (first | exact absurd h2 (by decide) | omega)
theorem pc_u6 {r' : Nat} {i' j : Int} (h : pc_uses r' i' 6 j) : r' = 1 ∧ i' = j := by
  rcases h with ⟨h1, h2, h3⟩ | ⟨h1, h2, h3⟩ | ⟨h1, h2, h3⟩ | ⟨h1, h2, h3⟩ | ⟨h1, h2, h3⟩ | ⟨h1, h2⟩ | ⟨h1, h2, h3⟩ | ⟨h1, h2, h3⟩ | ⟨h1, h2, h3⟩ | ⟨h1, h2, h3⟩ | ⟨h1, h2, h3⟩ | ⟨h1, h2, h3⟩
  all_goals (first | exact absurd h2 (by decide) | omega)
theorem pc_u7 {r' : Nat} {i' j : Int} (h : pc_uses r' i' 7 j) : r' = 1 ∧ i' = j := by
  rcases h with ⟨h1, h2, h3⟩ | ⟨h1, h2, h3⟩ | ⟨h1, h2, h3⟩ | ⟨h1, h2, h3⟩ | ⟨h1, h2, h3⟩ | ⟨h1, h2⟩ | ⟨h1, h2, h3⟩ | ⟨h1, h2, h3⟩ | ⟨h1, h2, h3⟩ | ⟨h1, h2, h3⟩ | ⟨h1, h2, h3⟩ | ⟨h1, h2, h3⟩
  all_goals (first | exact absurd h2 (by decide) | omega)
theorem pc_u10 {r' : Nat} {i' j : Int} (h : pc_uses r' i' 10 j) : r' = 8 ∧ i' = j := by
  rcases h with ⟨h1, h2, h3⟩ | ⟨h1, h2, h3⟩ | ⟨h1, h2, h3⟩ | ⟨h1, h2, h3⟩ | ⟨h1, h2, h3⟩ | ⟨h1, h2⟩ | ⟨h1, h2, h3⟩ | ⟨h1, h2, h3⟩ | ⟨h1, h2, h3⟩ | ⟨h1, h2, h3⟩ | ⟨h1, h2, h3⟩ | ⟨h1, h2, h3⟩
  all_goals (first | exact absurd h2 (by decide) | omega)
theorem pc_u11 {r' : Nat} {i' j : Int} (h : pc_uses r' i' 11 j) : r' = 8 ∧ i' = j := by
  rcases h with ⟨h1, h2, h3⟩ | ⟨h1, h2, h3⟩ | ⟨h1, h2, h3⟩ | ⟨h1, h2, h3⟩ | ⟨h1, h2, h3⟩ | ⟨h1, h2⟩ | ⟨h1, h2, h3⟩ | ⟨h1, h2, h3⟩ | ⟨h1, h2, h3⟩ | ⟨h1, h2, h3⟩ | ⟨h1, h2, h3⟩ | ⟨h1, h2, h3⟩
  all_goals (first | exact absurd h2 (by decide) | omega)
theorem pc_u12 {r' : Nat} {i' j : Int} (h : pc_uses r' i' 12 j) : r' = 8 ∧ i' = j := by
  rcases h with ⟨h1, h2, h3⟩ | ⟨h1, h2, h3⟩ | ⟨h1, h2, h3⟩ | ⟨h1, h2, h3⟩ | ⟨h1, h2, h3⟩ | ⟨h1, h2⟩ | ⟨h1, h2, h3⟩ | ⟨h1, h2, h3⟩ | ⟨h1, h2, h3⟩ | ⟨h1, h2, h3⟩ | ⟨h1, h2, h3⟩ | ⟨h1, h2, h3⟩
  all_goals (first | exact absurd h2 (by decide) | omega)
theorem pc_u13 {r' : Nat} {i' j : Int} (h : pc_uses r' i' 13 j) : r' = 8 ∧ i' = j := by
  rcases h with ⟨h1, h2, h3⟩ | ⟨h1, h2, h3⟩ | ⟨h1, h2, h3⟩ | ⟨h1, h2, h3⟩ | ⟨h1, h2, h3⟩ | ⟨h1, h2⟩ | ⟨h1, h2, h3⟩ | ⟨h1, h2, h3⟩ | ⟨h1, h2, h3⟩ | ⟨h1, h2, h3⟩ | ⟨h1, h2, h3⟩ | ⟨h1, h2, h3⟩
  all_goals (first | exact absurd h2 (by decide) | omega)
theorem pc_u14 {r' : Nat} {i' j : Int} (h : pc_uses r' i' 14 j) : r' = 8 ∧ i' = j := by
  rcases h with ⟨h1, h2, h3⟩ | ⟨h1, h2, h3⟩ | ⟨h1, h2, h3⟩ | ⟨h1, h2, h3⟩ | ⟨h1, h2, h3⟩ | ⟨h1, h2⟩ | ⟨h1, h2, h3⟩ | ⟨h1, h2, h3⟩ | ⟨h1, h2, h3⟩ | ⟨h1, h2, h3⟩ | ⟨h1, h2, h3⟩ | ⟨h1, h2, h3⟩
  all_goals (first | exact absurd h2 (by decide) | omega)
theorem pc_u15 {r' : Nat} {i' j : Int} (h : pc_uses r' i' 15 j) : r' = 8 ∧ i' = j := by
  rcases h with ⟨h1, h2, h3⟩ | ⟨h1, h2, h3⟩ | ⟨h1, h2, h3⟩ | ⟨h1, h2, h3⟩ | ⟨h1, h2, h3⟩ | ⟨h1, h2⟩ | ⟨h1, h2, h3⟩ | ⟨h1, h2, h3⟩ | ⟨h1, h2, h3⟩ | ⟨h1, h2, h3⟩ | ⟨h1, h2, h3⟩ | ⟨h1, h2, h3⟩
  all_goals (first | exact absurd h2 (by decide) | omega)
theorem pc_u16 {r' : Nat} {i' j : Int} (h : pc_uses r' i' 16 j) : r' = 8 ∧ i' = j := by
  rcases h with ⟨h1, h2, h3⟩ | ⟨h1, h2, h3⟩ | ⟨h1, h2, h3⟩ | ⟨h1, h2, h3⟩ | ⟨h1, h2, h3⟩ | ⟨h1, h2⟩ | ⟨h1, h2, h3⟩ | ⟨h1, h2, h3⟩ | ⟨h1, h2, h3⟩ | ⟨h1, h2, h3⟩ | ⟨h1, h2, h3⟩ | ⟨h1, h2, h3⟩
  all_goals (first | exact absurd h2 (by decide) | omega)
theorem pc_u17 {r' : Nat} {i' j : Int} (h : pc_uses r' i' 17 j) : r' = 8 ∧ i' = j := by
  rcases h with ⟨h1, h2, h3⟩ | ⟨h1, h2, h3⟩ | ⟨h1, h2, h3⟩ | ⟨h1, h2, h3⟩ | ⟨h1, h2, h3⟩ | ⟨h1, h2⟩ | ⟨h1, h2, h3⟩ | ⟨h1, h2, h3⟩ | ⟨h1, h2, h3⟩ | ⟨h1, h2, h3⟩ | ⟨h1, h2, h3⟩ | ⟨h1, h2, h3⟩
  all_goals (first | exact absurd h2 (by decide) | omega)
theorem pc_u19 {r' : Nat} {i' j : Int} (h : pc_uses r' i' 19 j) : r' = 3 ∧ i' = j := by
  rcases h with ⟨h1, h2, h3⟩ | ⟨h1, h2, h3⟩ | ⟨h1, h2, h3⟩ | ⟨h1, h2, h3⟩ | ⟨h1, h2, h3⟩ | ⟨h1, h2⟩ | ⟨h1, h2, h3⟩ | ⟨h1, h2, h3⟩ | ⟨h1, h2, h3⟩ | ⟨h1, h2, h3⟩ | ⟨h1, h2, h3⟩ | ⟨h1, h2, h3⟩
  all_goals (first | exact absurd h2 (by decide) | omega)
theorem pc_u20 {r' : Nat} {i' j : Int} (h : pc_uses r' i' 20 j) : r' = 3 ∧ i' = j := by
  rcases h with ⟨h1, h2, h3⟩ | ⟨h1, h2, h3⟩ | ⟨h1, h2, h3⟩ | ⟨h1, h2, h3⟩ | ⟨h1, h2, h3⟩ | ⟨h1, h2⟩ | ⟨h1, h2, h3⟩ | ⟨h1, h2, h3⟩ | ⟨h1, h2, h3⟩ | ⟨h1, h2, h3⟩ | ⟨h1, h2, h3⟩ | ⟨h1, h2, h3⟩
  all_goals (first | exact absurd h2 (by decide) | omega)
theorem pc_u21 {r' : Nat} {i' j : Int} (h : pc_uses r' i' 21 j) : r' = 3 ∧ i' = j := by
  rcases h with ⟨h1, h2, h3⟩ | ⟨h1, h2, h3⟩ | ⟨h1, h2, h3⟩ | ⟨h1, h2, h3⟩ | ⟨h1, h2, h3⟩ | ⟨h1, h2⟩ | ⟨h1, h2, h3⟩ | ⟨h1, h2, h3⟩ | ⟨h1, h2, h3⟩ | ⟨h1, h2, h3⟩ | ⟨h1, h2, h3⟩ | ⟨h1, h2, h3⟩
  all_goals (first | exact absurd h2 (by decide) | omega)
theorem pc_u22 {r' : Nat} {i' j : Int} (h : pc_uses r' i' 22 j) : r' = 4 ∧ 16 * i' ≤ j ∧ j < 16 * i' + 16 := by
  rcases h with ⟨h1, h2, h3⟩ | ⟨h1, h2, h3⟩ | ⟨h1, h2, h3⟩ | ⟨h1, h2, h3⟩ | ⟨h1, h2, h3⟩ | ⟨h1, h2⟩ | ⟨h1, h2, h3⟩ | ⟨h1, h2, h3⟩ | ⟨h1, h2, h3⟩ | ⟨h1, h2, h3⟩ | ⟨h1, h2, h3⟩ | ⟨h1, h2, h3⟩
  all_goals (first | exact absurd h2 (by decide) | omega)
theorem pc_u23 {r' : Nat} {i' j : Int} (h : pc_uses r' i' 23 j) : r' = 3 ∧ i' = j := by
  rcases h with ⟨h1, h2, h3⟩ | ⟨h1, h2, h3⟩ | ⟨h1, h2, h3⟩ | ⟨h1, h2, h3⟩ | ⟨h1, h2, h3⟩ | ⟨h1, h2⟩ | ⟨h1, h2, h3⟩ | ⟨h1, h2, h3⟩ | ⟨h1, h2, h3⟩ | ⟨h1, h2, h3⟩ | ⟨h1, h2, h3⟩ | ⟨h1, h2, h3⟩
  all_goals (first | exact absurd h2 (by decide) | omega)
theorem pc_u24 {r' : Nat} {i' j : Int} (h : pc_uses r' i' 24 j) : r' = 3 ∧ i' = j := by
  rcases h with ⟨h1, h2, h3⟩ | ⟨h1, h2, h3⟩ | ⟨h1, h2, h3⟩ | ⟨h1, h2, h3⟩ | ⟨h1, h2, h3⟩ | ⟨h1, h2⟩ | ⟨h1, h2, h3⟩ | ⟨h1, h2, h3⟩ | ⟨h1, h2, h3⟩ | ⟨h1, h2, h3⟩ | ⟨h1, h2, h3⟩ | ⟨h1, h2, h3⟩
  all_goals (first | exact absurd h2 (by decide) | omega)
theorem pc_u25 {r' : Nat} {i' j : Int} (h : pc_uses r' i' 25 j) : r' = 3 ∧ i' = j := by
  rcases h with ⟨h1, h2, h3⟩ | ⟨h1, h2, h3⟩ | ⟨h1, h2, h3⟩ | ⟨h1, h2, h3⟩ | ⟨h1, h2, h3⟩ | ⟨h1, h2⟩ | ⟨h1, h2, h3⟩ | ⟨h1, h2, h3⟩ | ⟨h1, h2, h3⟩ | ⟨h1, h2, h3⟩ | ⟨h1, h2, h3⟩ | ⟨h1, h2, h3⟩
  all_goals (first | exact absurd h2 (by decide) | omega)
theorem pc_u26 {r' : Nat} {i' j : Int} (h : pc_uses r' i' 26 j) : r' = 3 ∧ i' = j := by
  rcases h with ⟨h1, h2, h3⟩ | ⟨h1, h2, h3⟩ | ⟨h1, h2, h3⟩ | ⟨h1, h2, h3⟩ | ⟨h1, h2, h3⟩ | ⟨h1, h2⟩ | ⟨h1, h2, h3⟩ | ⟨h1, h2, h3⟩ | ⟨h1, h2, h3⟩ | ⟨h1, h2, h3⟩ | ⟨h1, h2, h3⟩ | ⟨h1, h2, h3⟩
  all_goals (first | exact absurd h2 (by decide) | omega)
theorem pc_u27 {r' : Nat} {i' j : Int} (h : pc_uses r' i' 27 j) : r' = 3 ∧ i' = j := by
  rcases h with ⟨h1, h2, h3⟩ | ⟨h1, h2, h3⟩ | ⟨h1, h2, h3⟩ | ⟨h1, h2, h3⟩ | ⟨h1, h2, h3⟩ | ⟨h1, h2⟩ | ⟨h1, h2, h3⟩ | ⟨h1, h2, h3⟩ | ⟨h1, h2, h3⟩ | ⟨h1, h2, h3⟩ | ⟨h1, h2, h3⟩ | ⟨h1, h2, h3⟩
  all_goals (first | exact absurd h2 (by decide) | omega)
theorem pc_u29 {r' : Nat} {i' j : Int} (h : pc_uses r' i' 29 j) : r' = 6 ∧ 16 * i' ≤ j ∧ j < 16 * i' + 16 := by
  rcases h with ⟨h1, h2, h3⟩ | ⟨h1, h2, h3⟩ | ⟨h1, h2, h3⟩ | ⟨h1, h2, h3⟩ | ⟨h1, h2, h3⟩ | ⟨h1, h2⟩ | ⟨h1, h2, h3⟩ | ⟨h1, h2, h3⟩ | ⟨h1, h2, h3⟩ | ⟨h1, h2, h3⟩ | ⟨h1, h2, h3⟩ | ⟨h1, h2, h3⟩
  all_goals (first | exact absurd h2 (by decide) | omega)
theorem pc_u30 {r' : Nat} {i' j : Int} (h : pc_uses r' i' 30 j) : r' = 6 ∧ 16 * i' ≤ j ∧ j < 16 * i' + 16 := by
  rcases h with ⟨h1, h2, h3⟩ | ⟨h1, h2, h3⟩ | ⟨h1, h2, h3⟩ | ⟨h1, h2, h3⟩ | ⟨h1, h2, h3⟩ | ⟨h1, h2⟩ | ⟨h1, h2, h3⟩ | ⟨h1, h2, h3⟩ | ⟨h1, h2, h3⟩ | ⟨h1, h2, h3⟩ | ⟨h1, h2, h3⟩ | ⟨h1, h2, h3⟩
  all_goals (first | exact absurd h2 (by decide) | omega)
theorem pc_u31 {r' : Nat} {i' j : Int} (h : pc_uses r' i' 31 j) : r' = 7 ∧ 16 * i' ≤ j ∧ j < 16 * i' + 16 := by
  rcases h with ⟨h1, h2, h3⟩ | ⟨h1, h2, h3⟩ | ⟨h1, h2, h3⟩ | ⟨h1, h2, h3⟩ | ⟨h1, h2, h3⟩ | ⟨h1, h2⟩ | ⟨h1, h2, h3⟩ | ⟨h1, h2, h3⟩ | ⟨h1, h2, h3⟩ | ⟨h1, h2, h3⟩ | ⟨h1, h2, h3⟩ | ⟨h1, h2, h3⟩
  all_goals (first | exact absurd h2 (by decide) | omega)
theorem pc_u32 {r' : Nat} {i' j : Int} (h : pc_uses r' i' 32 j) : r' = 6 ∧ 8 * i' ≤ j ∧ j < 8 * i' + 8 := by
  rcases h with ⟨h1, h2, h3⟩ | ⟨h1, h2, h3⟩ | ⟨h1, h2, h3⟩ | ⟨h1, h2, h3⟩ | ⟨h1, h2, h3⟩ | ⟨h1, h2⟩ | ⟨h1, h2, h3⟩ | ⟨h1, h2, h3⟩ | ⟨h1, h2, h3⟩ | ⟨h1, h2, h3⟩ | ⟨h1, h2, h3⟩ | ⟨h1, h2, h3⟩
  all_goals (first | exact absurd h2 (by decide) | omega)
theorem pc_u33 {r' : Nat} {i' j : Int} (h : pc_uses r' i' 33 j) : r' = 5 ∧ 300 * i' ≤ j ∧ j < 300 * i' + 300 := by
  rcases h with ⟨h1, h2, h3⟩ | ⟨h1, h2, h3⟩ | ⟨h1, h2, h3⟩ | ⟨h1, h2, h3⟩ | ⟨h1, h2, h3⟩ | ⟨h1, h2⟩ | ⟨h1, h2, h3⟩ | ⟨h1, h2, h3⟩ | ⟨h1, h2, h3⟩ | ⟨h1, h2, h3⟩ | ⟨h1, h2, h3⟩ | ⟨h1, h2, h3⟩
  all_goals (first | exact absurd h2 (by decide) | omega)
theorem pc_u34 {r' : Nat} {i' j : Int} (h : pc_uses r' i' 34 j) : r' = 3 ∧ i' = j := by
  rcases h with ⟨h1, h2, h3⟩ | ⟨h1, h2, h3⟩ | ⟨h1, h2, h3⟩ | ⟨h1, h2, h3⟩ | ⟨h1, h2, h3⟩ | ⟨h1, h2⟩ | ⟨h1, h2, h3⟩ | ⟨h1, h2, h3⟩ | ⟨h1, h2, h3⟩ | ⟨h1, h2, h3⟩ | ⟨h1, h2, h3⟩ | ⟨h1, h2, h3⟩
  all_goals (first | exact absurd h2 (by decide) | omega)
theorem pc_u37 {r' : Nat} {i' j : Int} (h : pc_uses r' i' 37 j) : r' = 9 ∧ i' = 0 ∧ j = 0 := by
  rcases h with ⟨h1, h2, h3⟩ | ⟨h1, h2, h3⟩ | ⟨h1, h2, h3⟩ | ⟨h1, h2, h3⟩ | ⟨h1, h2, h3⟩ | ⟨h1, h2⟩ | ⟨h1, h2, h3⟩ | ⟨h1, h2, h3⟩ | ⟨h1, h2, h3⟩ | ⟨h1, h2, h3⟩ | ⟨h1, h2, h3⟩ | ⟨h1, h2, h3⟩
  all_goals (first | exact absurd h2 (by decide) | omega)
theorem pc_u38 {r' : Nat} {i' j : Int} (h : pc_uses r' i' 38 j) : r' = 9 ∧ i' = 0 ∧ j = 0 := by
  rcases h with ⟨h1, h2, h3⟩ | ⟨h1, h2, h3⟩ | ⟨h1, h2, h3⟩ | ⟨h1, h2, h3⟩ | ⟨h1, h2, h3⟩ | ⟨h1, h2⟩ | ⟨h1, h2, h3⟩ | ⟨h1, h2, h3⟩ | ⟨h1, h2, h3⟩ | ⟨h1, h2, h3⟩ | ⟨h1, h2, h3⟩ | ⟨h1, h2, h3⟩
  all_goals (first | exact absurd h2 (by decide) | omega)
theorem pc_u40 {r' : Nat} {i' j : Int} (h : pc_uses r' i' 40 j) : r' = 12 ∧ i' = 0 := by
  rcases h with ⟨h1, h2, h3⟩ | ⟨h1, h2, h3⟩ | ⟨h1, h2, h3⟩ | ⟨h1, h2, h3⟩ | ⟨h1, h2, h3⟩ | ⟨h1, h2⟩ | ⟨h1, h2, h3⟩ | ⟨h1, h2, h3⟩ | ⟨h1, h2, h3⟩ | ⟨h1, h2, h3⟩ | ⟨h1, h2, h3⟩ | ⟨h1, h2, h3⟩
  all_goals (first | exact absurd h2 (by decide) | omega)
theorem pc_u41 {r' : Nat} {i' j : Int} (h : pc_uses r' i' 41 j) : r' = 9 ∧ i' = 0 ∧ j = 0 := by
  rcases h with ⟨h1, h2, h3⟩ | ⟨h1, h2, h3⟩ | ⟨h1, h2, h3⟩ | ⟨h1, h2, h3⟩ | ⟨h1, h2, h3⟩ | ⟨h1, h2⟩ | ⟨h1, h2, h3⟩ | ⟨h1, h2, h3⟩ | ⟨h1, h2, h3⟩ | ⟨h1, h2, h3⟩ | ⟨h1, h2, h3⟩ | ⟨h1, h2, h3⟩
  all_goals (first | exact absurd h2 (by decide) | omega)
theorem pc_u42 {r' : Nat} {i' j : Int} (h : pc_uses r' i' 42 j) : r' = 6 ∧ 16 * i' ≤ j ∧ j < 16 * i' + 16 := by
  rcases h with ⟨h1, h2, h3⟩ | ⟨h1, h2, h3⟩ | ⟨h1, h2, h3⟩ | ⟨h1, h2, h3⟩ | ⟨h1, h2, h3⟩ | ⟨h1, h2⟩ | ⟨h1, h2, h3⟩ | ⟨h1, h2, h3⟩ | ⟨h1, h2, h3⟩ | ⟨h1, h2, h3⟩ | ⟨h1, h2, h3⟩ | ⟨h1, h2, h3⟩
  all_goals (first | exact absurd h2 (by decide) | omega)
theorem pc_u43 {r' : Nat} {i' j : Int} (h : pc_uses r' i' 43 j) : r' = 3 ∧ i' = j := by
  rcases h with ⟨h1, h2, h3⟩ | ⟨h1, h2, h3⟩ | ⟨h1, h2, h3⟩ | ⟨h1, h2, h3⟩ | ⟨h1, h2, h3⟩ | ⟨h1, h2⟩ | ⟨h1, h2, h3⟩ | ⟨h1, h2, h3⟩ | ⟨h1, h2, h3⟩ | ⟨h1, h2, h3⟩ | ⟨h1, h2, h3⟩ | ⟨h1, h2, h3⟩
  all_goals (first | exact absurd h2 (by decide) | omega)
theorem pu_tag_mem (k : Int) : pu_tag k ∈ [1, 2, 3, 4, 5, 6, 7, 8] := by
  unfold pu_tag
  (repeat' split) <;> decide
section PC
variable {y : jLay} {κ σ : aS} {g : jH} {k : jK} {L : List (Option jV)} {S : List jV} {t d s i j v x : Int} {f : jF} {u1 u2 u3 u4 u5 : jV}
theorem ca_g0 (ho : pu_on y 1 t) : jk_get [0] 0 k L (.inr (some (y.2 1 t)) :: S) (pu_H y κ σ g) = k L (.inl t :: S) (pu_H y κ σ g) := by
  unfold jk_get
  simp only [pu_get ho (by decide)]
  rfl
theorem ca_g1 (ho : pu_on y 1 t) : jk_get [0] 1 k L (.inr (some (y.2 1 t)) :: S) (pu_H y κ σ g) = k L (.inr (some (y.2 2 t)) :: S) (pu_H y κ σ g) := by
  unfold jk_get
  simp only [pu_get ho (by decide)]
  rfl
theorem ca_g2 (ho : pu_on y 1 t) : jk_get [0] 2 k L (.inr (some (y.2 1 t)) :: S) (pu_H y κ σ g) = k L (.inl (κ 3 t) :: S) (pu_H y κ σ g) := by
  unfold jk_get
  simp only [pu_get ho (by decide)]
  rfl
theorem ca_g3 (ho : pu_on y 1 t) : jk_get [0] 3 k L (.inr (some (y.2 1 t)) :: S) (pu_H y κ σ g) = k L (.inl (κ 4 t) :: S) (pu_H y κ σ g) := by
  unfold jk_get
  simp only [pu_get ho (by decide)]
  rfl
theorem ca_g5 (ho : pu_on y 1 t) : jk_get [0] 5 k L (.inr (some (y.2 1 t)) :: S) (pu_H y κ σ g) = k L (.inl (κ 6 t) :: S) (pu_H y κ σ g) := by
  unfold jk_get
  simp only [pu_get ho (by decide)]
  rfl
theorem ca_g6 (ho : pu_on y 1 t) : jk_get [0] 6 k L (.inr (some (y.2 1 t)) :: S) (pu_H y κ σ g) = k L (.inl (κ 7 t) :: S) (pu_H y κ σ g) := by
  unfold jk_get
  simp only [pu_get ho (by decide)]
  rfl
theorem ca_g4n (ho : pu_on y 1 t) (h5 : κ 5 t < 0) : jk_get [0] 4 k L (.inr (some (y.2 1 t)) :: S) (pu_H y κ σ g) = k L (.inr none :: S) (pu_H y κ σ g) := by
  unfold jk_get
  simp only [pu_get ho (by decide)]
  have e : pu_cell y.2 κ σ 1 t = (0, 7, pu_actor y.2 κ t) := rfl
  simp [e, pu_actor, h5]
theorem ca_g4s (ho : pu_on y 1 t) (h5 : ¬ κ 5 t < 0) : jk_get [0] 4 k L (.inr (some (y.2 1 t)) :: S) (pu_H y κ σ g) = k L (.inr (some (y.2 8 (20 * t + κ 4 t - 1))) :: S) (pu_H y κ σ g) := by
  unfold jk_get
  simp only [pu_get ho (by decide)]
  have e : pu_cell y.2 κ σ 1 t = (0, 7, pu_actor y.2 κ t) := rfl
  simp [e, pu_actor, h5]
theorem ca_p3 (hy : pu_inv y) (ho : pu_on y 1 t) (h5 : κ 5 t < 0) : jk_puti [0] 3 k L (.inl v :: .inr (some (y.2 1 t)) :: S) (pu_H y κ σ g) = k L S (pu_H y (pu_up κ 4 t v) σ g) := by
  unfold jk_puti
  simp only [pu_get ho (by decide)]
  have e : ∀ κ : aS, pu_cell y.2 κ σ 1 t = (0, 7, pu_actor y.2 κ t) := fun _ => rfl
  simp only [e, List.mem_singleton, if_true, true_and]
  congr 1
  unfold jm_set
  refine pc_put ho (by decide) hy ?_ (fun r' i' hus => by have := pc_u4 hus; omega)
  rw [e]
  congr 2
  funext j
  unfold jm_upd pu_actor
  by_cases hj : j = 3
  · subst hj
    simp [pu_up_c, pu_up_ne, h5]
  · simp only [pu_up_c, pu_up, hj, if_false]
    simp [h5]
theorem ca_p5 (hy : pu_inv y) (ho : pu_on y 1 t) (hz : v = 0 ∨ v = 1) : jk_putz [0] 5 k L (.inl v :: .inr (some (y.2 1 t)) :: S) (pu_H y κ σ g) = k L S (pu_H y (pu_up κ 6 t v) σ g) := by
  unfold jk_putz
  simp only [pu_get ho (by decide)]
  have e : ∀ κ : aS, pu_cell y.2 κ σ 1 t = (0, 7, pu_actor y.2 κ t) := fun _ => rfl
  simp only [e, List.mem_singleton, if_true, true_and, hz]
  congr 1
  unfold jm_set
  refine pc_put ho (by decide) hy ?_ (fun r' i' hus => by have := pc_u6 hus; omega)
  rw [e]
  congr 2
  funext j
  unfold jm_upd pu_actor
  by_cases hj : j = 5
  · subst hj
    simp [pu_up_c, pu_up_ne, pu_up_at]
  · simp only [pu_up_c, pu_up, hj, if_false]
    simp
theorem ca_p6 (hy : pu_inv y) (ho : pu_on y 1 t) : jk_puti [0] 6 k L (.inl v :: .inr (some (y.2 1 t)) :: S) (pu_H y κ σ g) = k L S (pu_H y (pu_up κ 7 t v) σ g) := by
  unfold jk_puti
  simp only [pu_get ho (by decide)]
  have e : ∀ κ : aS, pu_cell y.2 κ σ 1 t = (0, 7, pu_actor y.2 κ t) := fun _ => rfl
  simp only [e, List.mem_singleton, if_true, true_and]
  congr 1
  unfold jm_set
  refine pc_put ho (by decide) hy ?_ (fun r' i' hus => by have := pc_u7 hus; omega)
  rw [e]
  congr 2
  funext j
  unfold jm_upd pu_actor
  by_cases hj : j = 6
  · subst hj
    simp [pu_up_c, pu_up_ne, pu_up_at]
  · simp only [pu_up_c, pu_up, hj, if_false]
    simp
theorem ca_p4n (hy : pu_inv y) (ho : pu_on y 1 t) : jk_puta [0] 4 k L (.inr none :: .inr (some (y.2 1 t)) :: S) (pu_H y κ σ g) = k L S (pu_H y (pu_up κ 5 t (-1)) σ g) := by
  unfold jk_puta
  simp only [pu_get ho (by decide)]
  have e : ∀ κ : aS, pu_cell y.2 κ σ 1 t = (0, 7, pu_actor y.2 κ t) := fun _ => rfl
  simp only [e, List.mem_singleton, if_true]
  congr 1
  unfold jm_set
  refine pc_put ho (by decide) hy ?_ (fun r' i' hus => by have := pc_u5 hus; omega)
  rw [e]
  congr 2
  funext j
  unfold jm_upd pu_actor
  by_cases hj : j = 4
  · subst hj
    simp [pu_up_c, pu_up_ne]
  · simp only [pu_up_c, pu_up, hj, if_false]
    simp
theorem ca_p4s (hy : pu_inv y) (ho : pu_on y 1 t) (hv : ¬ κ 10 (20 * t + κ 4 t - 1) < 0) : jk_puta [0] 4 k L (.inr (some (y.2 8 (20 * t + κ 4 t - 1))) :: .inr (some (y.2 1 t)) :: S) (pu_H y κ σ g) = k L S (pu_H y (pu_up κ 5 t (κ 10 (20 * t + κ 4 t - 1))) σ g) := by
  unfold jk_puta
  simp only [pu_get ho (by decide)]
  have e : ∀ κ : aS, pu_cell y.2 κ σ 1 t = (0, 7, pu_actor y.2 κ t) := fun _ => rfl
  simp only [e, List.mem_singleton, if_true]
  congr 1
  unfold jm_set
  refine pc_put ho (by decide) hy ?_ (fun r' i' hus => by have := pc_u5 hus; omega)
  rw [e]
  congr 2
  funext j
  unfold jm_upd pu_actor
  by_cases hj : j = 4
  · subst hj
    simp [pu_up_c, pu_up_ne, hv]
  · simp only [pu_up_c, pu_up, hj, if_false]
    simp
theorem cs_g0 (ho : pu_on y 8 s) : jk_get [9] 0 k L (.inr (some (y.2 8 s)) :: S) (pu_H y κ σ g) = k L (.inr (some (y.2 1 (s / 20))) :: S) (pu_H y κ σ g) := by
  unfold jk_get
  simp only [pu_get ho (by decide)]
  rfl
theorem cs_g1 (ho : pu_on y 8 s) : jk_get [9] 1 k L (.inr (some (y.2 8 s)) :: S) (pu_H y κ σ g) = k L (.inr (some (y.2 3 (κ 10 s))) :: S) (pu_H y κ σ g) := by
  unfold jk_get
  simp only [pu_get ho (by decide)]
  rfl
theorem cs_g2 (ho : pu_on y 8 s) : jk_get [9] 2 k L (.inr (some (y.2 8 s)) :: S) (pu_H y κ σ g) = k L (.inl (κ 11 s) :: S) (pu_H y κ σ g) := by
  unfold jk_get
  simp only [pu_get ho (by decide)]
  rfl
theorem cs_g3 (ho : pu_on y 8 s) : jk_get [9] 3 k L (.inr (some (y.2 8 s)) :: S) (pu_H y κ σ g) = k L (.inl (κ 12 s) :: S) (pu_H y κ σ g) := by
  unfold jk_get
  simp only [pu_get ho (by decide)]
  rfl
theorem cs_g4 (ho : pu_on y 8 s) : jk_get [9] 4 k L (.inr (some (y.2 8 s)) :: S) (pu_H y κ σ g) = k L (.inl (κ 13 s) :: S) (pu_H y κ σ g) := by
  unfold jk_get
  simp only [pu_get ho (by decide)]
  rfl
theorem cs_g5 (ho : pu_on y 8 s) : jk_get [9] 5 k L (.inr (some (y.2 8 s)) :: S) (pu_H y κ σ g) = k L (.inl (κ 14 s) :: S) (pu_H y κ σ g) := by
  unfold jk_get
  simp only [pu_get ho (by decide)]
  rfl
theorem cs_g6 (ho : pu_on y 8 s) : jk_get [9] 6 k L (.inr (some (y.2 8 s)) :: S) (pu_H y κ σ g) = k L (.inl (κ 15 s) :: S) (pu_H y κ σ g) := by
  unfold jk_get
  simp only [pu_get ho (by decide)]
  rfl
theorem cs_g7 (ho : pu_on y 8 s) : jk_get [9] 7 k L (.inr (some (y.2 8 s)) :: S) (pu_H y κ σ g) = k L (.inl (κ 16 s) :: S) (pu_H y κ σ g) := by
  unfold jk_get
  simp only [pu_get ho (by decide)]
  rfl
theorem cs_g8 (ho : pu_on y 8 s) : jk_get [9] 8 k L (.inr (some (y.2 8 s)) :: S) (pu_H y κ σ g) = k L (.inl (κ 17 s) :: S) (pu_H y κ σ g) := by
  unfold jk_get
  simp only [pu_get ho (by decide)]
  rfl
theorem cs_p5 (hy : pu_inv y) (ho : pu_on y 8 s) : jk_puti [9] 5 k L (.inl v :: .inr (some (y.2 8 s)) :: S) (pu_H y κ σ g) = k L S (pu_H y (pu_up κ 14 s v) σ g) := by
  unfold jk_puti
  simp only [pu_get ho (by decide)]
  have e : ∀ κ : aS, pu_cell y.2 κ σ 8 s = (9, 9, pu_step y.2 κ s) := fun _ => rfl
  simp only [e, List.mem_singleton, if_true]
  congr 1
  unfold jm_set
  refine pc_put ho (by decide) hy ?_ (fun r' i' hus => by have := pc_u14 hus; omega)
  rw [e]
  congr 2
  funext j
  unfold jm_upd pu_step
  by_cases hj : j = 5
  · subst hj
    simp [pu_up_c, pu_up_ne]
  · simp only [pu_up_c, pu_up, hj, if_false]
    simp
theorem cs_p6 (hy : pu_inv y) (ho : pu_on y 8 s) : jk_puti [9] 6 k L (.inl v :: .inr (some (y.2 8 s)) :: S) (pu_H y κ σ g) = k L S (pu_H y (pu_up κ 15 s v) σ g) := by
  unfold jk_puti
  simp only [pu_get ho (by decide)]
  have e : ∀ κ : aS, pu_cell y.2 κ σ 8 s = (9, 9, pu_step y.2 κ s) := fun _ => rfl
  simp only [e, List.mem_singleton, if_true]
  congr 1
  unfold jm_set
  refine pc_put ho (by decide) hy ?_ (fun r' i' hus => by have := pc_u15 hus; omega)
  rw [e]
  congr 2
  funext j
  unfold jm_upd pu_step
  by_cases hj : j = 6
  · subst hj
    simp [pu_up_c, pu_up_ne]
  · simp only [pu_up_c, pu_up, hj, if_false]
    simp
theorem cs_p7 (hy : pu_inv y) (ho : pu_on y 8 s) : jk_puti [9] 7 k L (.inl v :: .inr (some (y.2 8 s)) :: S) (pu_H y κ σ g) = k L S (pu_H y (pu_up κ 16 s v) σ g) := by
  unfold jk_puti
  simp only [pu_get ho (by decide)]
  have e : ∀ κ : aS, pu_cell y.2 κ σ 8 s = (9, 9, pu_step y.2 κ s) := fun _ => rfl
  simp only [e, List.mem_singleton, if_true]
  congr 1
  unfold jm_set
  refine pc_put ho (by decide) hy ?_ (fun r' i' hus => by have := pc_u16 hus; omega)
  rw [e]
  congr 2
  funext j
  unfold jm_upd pu_step
  by_cases hj : j = 7
  · subst hj
    simp [pu_up_c, pu_up_ne]
  · simp only [pu_up_c, pu_up, hj, if_false]
    simp
theorem cs_p8 (hy : pu_inv y) (ho : pu_on y 8 s) : jk_puti [9] 8 k L (.inl v :: .inr (some (y.2 8 s)) :: S) (pu_H y κ σ g) = k L S (pu_H y (pu_up κ 17 s v) σ g) := by
  unfold jk_puti
  simp only [pu_get ho (by decide)]
  have e : ∀ κ : aS, pu_cell y.2 κ σ 8 s = (9, 9, pu_step y.2 κ s) := fun _ => rfl
  simp only [e, List.mem_singleton, if_true]
  congr 1
  unfold jm_set
  refine pc_put ho (by decide) hy ?_ (fun r' i' hus => by have := pc_u17 hus; omega)
  rw [e]
  congr 2
  funext j
  unfold jm_upd pu_step
  by_cases hj : j = 8
  · subst hj
    simp [pu_up_c, pu_up_ne]
  · simp only [pu_up_c, pu_up, hj, if_false]
    simp
theorem ck_g0 (ho : pu_on y 9 0) : jk_get [10] 0 k L (.inr (some (y.2 9 0)) :: S) (pu_H y κ σ g) = k L (.inr (some (y.2 10 0)) :: S) (pu_H y κ σ g) := by
  unfold jk_get
  simp only [pu_get ho (by decide)]
  rfl
theorem ck_g1 (ho : pu_on y 9 0) : jk_get [10] 1 k L (.inr (some (y.2 9 0)) :: S) (pu_H y κ σ g) = k L (.inl (κ 0 0) :: S) (pu_H y κ σ g) := by
  unfold jk_get
  simp only [pu_get ho (by decide)]
  rfl
theorem ck_g2 (ho : pu_on y 9 0) : jk_get [10] 2 k L (.inr (some (y.2 9 0)) :: S) (pu_H y κ σ g) = k L (.inr (some (y.2 11 0)) :: S) (pu_H y κ σ g) := by
  unfold jk_get
  simp only [pu_get ho (by decide)]
  rfl
theorem ck_g3 (ho : pu_on y 9 0) : jk_get [10] 3 k L (.inr (some (y.2 9 0)) :: S) (pu_H y κ σ g) = k L (.inl (κ 1 0) :: S) (pu_H y κ σ g) := by
  unfold jk_get
  simp only [pu_get ho (by decide)]
  rfl
theorem ck_g4 (ho : pu_on y 9 0) : jk_get [10] 4 k L (.inr (some (y.2 9 0)) :: S) (pu_H y κ σ g) = k L (.inr (some (y.2 12 0)) :: S) (pu_H y κ σ g) := by
  unfold jk_get
  simp only [pu_get ho (by decide)]
  rfl
theorem ck_g5 (ho : pu_on y 9 0) : jk_get [10] 5 k L (.inr (some (y.2 9 0)) :: S) (pu_H y κ σ g) = k L (.inl (κ 38 0) :: S) (pu_H y κ σ g) := by
  unfold jk_get
  simp only [pu_get ho (by decide)]
  rfl
theorem ck_g6 (ho : pu_on y 9 0) : jk_get [10] 6 k L (.inr (some (y.2 9 0)) :: S) (pu_H y κ σ g) = k L (.inl (κ 41 0) :: S) (pu_H y κ σ g) := by
  unfold jk_get
  simp only [pu_get ho (by decide)]
  rfl
theorem ck_g7 (ho : pu_on y 9 0) : jk_get [10] 7 k L (.inr (some (y.2 9 0)) :: S) (pu_H y κ σ g) = k L (.inl (κ 37 0) :: S) (pu_H y κ σ g) := by
  unfold jk_get
  simp only [pu_get ho (by decide)]
  rfl
theorem ck_g8 (ho : pu_on y 9 0) : jk_get [10] 8 k L (.inr (some (y.2 9 0)) :: S) (pu_H y κ σ g) = k L (.inl (κ 2 0) :: S) (pu_H y κ σ g) := by
  unfold jk_get
  simp only [pu_get ho (by decide)]
  rfl
theorem ck_p5 (hy : pu_inv y) (ho : pu_on y 9 0) : jk_puti [10] 5 k L (.inl v :: .inr (some (y.2 9 0)) :: S) (pu_H y κ σ g) = k L S (pu_H y (pu_up κ 38 0 v) σ g) := by
  unfold jk_puti
  simp only [pu_get ho (by decide)]
  have e : ∀ κ : aS, pu_cell y.2 κ σ 9 0 = (10, 9, pu_kit y.2 κ) := fun _ => rfl
  simp only [e, List.mem_singleton, if_true]
  congr 1
  unfold jm_set
  refine pc_put ho (by decide) hy ?_ (fun r' i' hus => by have := pc_u38 hus; omega)
  rw [e]
  congr 2
  funext j
  unfold jm_upd pu_kit
  by_cases hj : j = 5
  · subst hj
    simp [pu_up]
  · simp [pu_up, hj]
theorem ck_p6 (hy : pu_inv y) (ho : pu_on y 9 0) : jk_puti [10] 6 k L (.inl v :: .inr (some (y.2 9 0)) :: S) (pu_H y κ σ g) = k L S (pu_H y (pu_up κ 41 0 v) σ g) := by
  unfold jk_puti
  simp only [pu_get ho (by decide)]
  have e : ∀ κ : aS, pu_cell y.2 κ σ 9 0 = (10, 9, pu_kit y.2 κ) := fun _ => rfl
  simp only [e, List.mem_singleton, if_true]
  congr 1
  unfold jm_set
  refine pc_put ho (by decide) hy ?_ (fun r' i' hus => by have := pc_u41 hus; omega)
  rw [e]
  congr 2
  funext j
  unfold jm_upd pu_kit
  by_cases hj : j = 6
  · subst hj
    simp [pu_up]
  · simp [pu_up, hj]
theorem ck_p7 (hy : pu_inv y) (ho : pu_on y 9 0) : jk_puti [10] 7 k L (.inl v :: .inr (some (y.2 9 0)) :: S) (pu_H y κ σ g) = k L S (pu_H y (pu_up κ 37 0 v) σ g) := by
  unfold jk_puti
  simp only [pu_get ho (by decide)]
  have e : ∀ κ : aS, pu_cell y.2 κ σ 9 0 = (10, 9, pu_kit y.2 κ) := fun _ => rfl
  simp only [e, List.mem_singleton, if_true]
  congr 1
  unfold jm_set
  refine pc_put ho (by decide) hy ?_ (fun r' i' hus => by have := pc_u37 hus; omega)
  rw [e]
  congr 2
  funext j
  unfold jm_upd pu_kit
  by_cases hj : j = 7
  · subst hj
    simp [pu_up]
  · simp [pu_up, hj]
theorem ck_p8 (hy : pu_inv y) (ho : pu_on y 9 0) : jk_puti [10] 8 k L (.inl v :: .inr (some (y.2 9 0)) :: S) (pu_H y κ σ g) = k L S (pu_H y (pu_up κ 2 0 v) σ g) := by
  unfold jk_puti
  simp only [pu_get ho (by decide)]
  have e : ∀ κ : aS, pu_cell y.2 κ σ 9 0 = (10, 9, pu_kit y.2 κ) := fun _ => rfl
  simp only [e, List.mem_singleton, if_true]
  congr 1
  unfold jm_set
  refine pc_put ho (by decide) hy ?_ (fun r' i' hus => by have := pc_u2 hus; omega)
  rw [e]
  congr 2
  funext j
  unfold jm_upd pu_kit
  by_cases hj : j = 8
  · subst hj
    simp [pu_up]
  · simp [pu_up, hj]
end PC
