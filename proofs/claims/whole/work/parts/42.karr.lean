section PC
variable {y : jLay} {κ σ : aS} {g : jH} {k : jK} {L : List (Option jV)} {S : List jV} {t d s i j v x : Int} {f : jF} {u1 u2 u3 u4 u5 : jV}
theorem cr2 (ho : pu_on y 2 t) (h0 : 0 ≤ i) (h1 : i < κ 3 t) (h2 : i < 20) : jk_xald 25 k L (.inl i :: .inr (some (y.2 2 t)) :: S) (pu_H y κ σ g) = k L (.inr (some (y.2 8 (20 * t + i))) :: S) (pu_H y κ σ g) := by
  have e : pu_cell y.2 κ σ 2 t = ((25, 20, fun j => if (j : Int) < κ 3 t then .inr (some (y.2 8 (20 * t + j))) else .inr none) : jC) := rfl
  unfold jk_xald
  simp only [pu_get ho (by decide), e]
  rw [if_pos ⟨trivial, h0, h2⟩]
  have ei : ((i.toNat : Nat) : Int) = i := Int.toNat_of_nonneg h0
  simp [ei, h1]
theorem cr4 (ho : pu_on y 4 d) (h0 : 0 ≤ i) (h1 : i < 16) (h2 : ¬ κ 22 (16 * d + i) < 0) : jk_xald 25 k L (.inl i :: .inr (some (y.2 4 d)) :: S) (pu_H y κ σ g) = k L (.inr (some (y.2 8 (κ 22 (16 * d + i)))) :: S) (pu_H y κ σ g) := by
  have e : pu_cell y.2 κ σ 4 d = ((25, 16, fun j => if j < 16 then (if κ 22 (16 * d + j) < 0 then .inr none else .inr (some (y.2 8 (κ 22 (16 * d + j))))) else .inr none) : jC) := rfl
  unfold jk_xald
  simp only [pu_get ho (by decide), e]
  rw [if_pos ⟨trivial, h0, h1⟩]
  have ei : ((i.toNat : Nat) : Int) = i := Int.toNat_of_nonneg h0
  simp [ei, h2, show i.toNat < 16 by omega]
theorem cr5 (ho : pu_on y 5 d) (h0 : 0 ≤ i) (h1 : i < 300) : jk_iald k L (.inl i :: .inr (some (y.2 5 d)) :: S) (pu_H y κ σ g) = k L (.inl (κ 33 (300 * d + i)) :: S) (pu_H y κ σ g) := by
  have e : pu_cell y.2 κ σ 5 d = ((20, 300, pu_arr 300 fun j => .inl (κ 33 (300 * d + j))) : jC) := rfl
  unfold jk_iald
  simp only [pu_get ho (by decide), e]
  rw [if_pos ⟨Or.inl trivial, h0, h1⟩]
  have ei : ((i.toNat : Nat) : Int) = i := Int.toNat_of_nonneg h0
  simp [ei, pu_arr, show i.toNat < 300 by omega]
theorem cr10 (ho : pu_on y 10 0) (h0 : 0 ≤ i) (h1 : i < κ 0 0) (h2 : i < 16) : jk_xald 23 k L (.inl i :: .inr (some (y.2 10 0)) :: S) (pu_H y κ σ g) = k L (.inr (some (y.2 1 i)) :: S) (pu_H y κ σ g) := by
  have e : pu_cell y.2 κ σ 10 0 = ((23, 16, fun j => if (j : Int) < κ 0 0 then .inr (some (y.2 1 j)) else .inr none) : jC) := rfl
  unfold jk_xald
  simp only [pu_get ho (by decide), e]
  rw [if_pos ⟨trivial, h0, h2⟩]
  have ei : ((i.toNat : Nat) : Int) = i := Int.toNat_of_nonneg h0
  simp [ei, h1]
theorem cr11 (ho : pu_on y 11 0) (h0 : 0 ≤ i) (h1 : i < κ 1 0) (h2 : i < 12) : jk_xald 24 k L (.inl i :: .inr (some (y.2 11 0)) :: S) (pu_H y κ σ g) = k L (.inr (some (y.2 3 i)) :: S) (pu_H y κ σ g) := by
  have e : pu_cell y.2 κ σ 11 0 = ((24, 12, fun j => if (j : Int) < κ 1 0 then .inr (some (y.2 3 j)) else .inr none) : jC) := rfl
  unfold jk_xald
  simp only [pu_get ho (by decide), e]
  rw [if_pos ⟨trivial, h0, h2⟩]
  have ei : ((i.toNat : Nat) : Int) = i := Int.toNat_of_nonneg h0
  simp [ei, h1]
theorem cr12 (ho : pu_on y 12 0) (h0 : 0 ≤ i) (h1 : i < 200) : jk_iald k L (.inl i :: .inr (some (y.2 12 0)) :: S) (pu_H y κ σ g) = k L (.inl (κ 40 i) :: S) (pu_H y κ σ g) := by
  have e : pu_cell y.2 κ σ 12 0 = ((20, 200, fun j => .inl (κ 40 j)) : jC) := rfl
  unfold jk_iald
  simp only [pu_get ho (by decide), e]
  rw [if_pos ⟨Or.inl trivial, h0, h1⟩]
  have ei : ((i.toNat : Nat) : Int) = i := Int.toNat_of_nonneg h0
  simp [ei]
theorem cr6_5 (ho : pu_on y 6 d) (hk : κ 18 d = 5) (h0 : 0 ≤ i) (h1 : i < 16) : jk_xald 21 k L (.inl i :: .inr (some (y.2 6 d)) :: S) (pu_H y κ σ g) = k L (.inl (κ 29 (16 * d + i)) :: S) (pu_H y κ σ g) := by
  have e : pu_cell y.2 κ σ 6 d = ((21, 16, pu_arr 16 fun j => .inl (κ 29 (16 * d + j))) : jC) := by simp [pu_cell, hk]
  unfold jk_xald
  simp only [pu_get ho (by decide), e]
  rw [if_pos ⟨trivial, h0, h1⟩]
  have ei : ((i.toNat : Nat) : Int) = i := Int.toNat_of_nonneg h0
  simp [ei, pu_arr, show i.toNat < 16 by omega]
theorem cr6_6 (ho : pu_on y 6 d) (hk : κ 18 d = 6) (h0 : 0 ≤ i) (h1 : i < 8) : jk_iald k L (.inl i :: .inr (some (y.2 6 d)) :: S) (pu_H y κ σ g) = k L (.inl (κ 32 (8 * d + i)) :: S) (pu_H y κ σ g) := by
  have e : pu_cell y.2 κ σ 6 d = ((20, 8, pu_arr 8 fun j => .inl (κ 32 (8 * d + j))) : jC) := by simp [pu_cell, hk]
  unfold jk_iald
  simp only [pu_get ho (by decide), e]
  rw [if_pos ⟨Or.inl trivial, h0, h1⟩]
  have ei : ((i.toNat : Nat) : Int) = i := Int.toNat_of_nonneg h0
  simp [ei, pu_arr, show i.toNat < 8 by omega]
theorem cr6_9 (ho : pu_on y 6 d) (hk : κ 18 d = 9) (h0 : 0 ≤ i) (h1 : i < 16) : jk_iald k L (.inl i :: .inr (some (y.2 6 d)) :: S) (pu_H y κ σ g) = k L (.inl (κ 30 (16 * d + i)) :: S) (pu_H y κ σ g) := by
  have e : pu_cell y.2 κ σ 6 d = ((20, 16, pu_arr 16 fun j => .inl (κ 30 (16 * d + j))) : jC) := by simp [pu_cell, hk]
  unfold jk_iald
  simp only [pu_get ho (by decide), e]
  rw [if_pos ⟨Or.inl trivial, h0, h1⟩]
  have ei : ((i.toNat : Nat) : Int) = i := Int.toNat_of_nonneg h0
  simp [ei, pu_arr, show i.toNat < 16 by omega]
theorem cr6_11 (ho : pu_on y 6 d) (hk : κ 18 d = 11) (h0 : 0 ≤ i) (h1 : i < 16) : jk_iald k L (.inl i :: .inr (some (y.2 6 d)) :: S) (pu_H y κ σ g) = k L (.inl (κ 42 (16 * d + i)) :: S) (pu_H y κ σ g) := by
  have e : pu_cell y.2 κ σ 6 d = ((20, 16, pu_arr 16 fun j => .inl (κ 42 (16 * d + j))) : jC) := by simp [pu_cell, hk]
  unfold jk_iald
  simp only [pu_get ho (by decide), e]
  rw [if_pos ⟨Or.inl trivial, h0, h1⟩]
  have ei : ((i.toNat : Nat) : Int) = i := Int.toNat_of_nonneg h0
  simp [ei, pu_arr, show i.toNat < 16 by omega]
theorem cr7 (ho : pu_on y 7 d) (h0 : 0 ≤ i) (h1 : i < 16) : jk_xald 21 k L (.inl i :: .inr (some (y.2 7 d)) :: S) (pu_H y κ σ g) = k L (.inl (κ 31 (16 * d + i)) :: S) (pu_H y κ σ g) := by
  have e : pu_cell y.2 κ σ 7 d = ((21, 16, pu_arr 16 fun j => .inl (κ 31 (16 * d + j))) : jC) := rfl
  unfold jk_xald
  simp only [pu_get ho (by decide), e]
  rw [if_pos ⟨trivial, h0, h1⟩]
  have ei : ((i.toNat : Nat) : Int) = i := Int.toNat_of_nonneg h0
  simp [ei, pu_arr, show i.toNat < 16 by omega]
theorem cw5 (hy : pu_inv y) (ho : pu_on y 5 d) (h0 : 0 ≤ i) (h1 : i < 300) : jk_iast k L (.inl v :: .inl i :: .inr (some (y.2 5 d)) :: S) (pu_H y κ σ g) = k L S (pu_H y (pu_up κ 33 (300 * d + i) v) σ g) := by
  have e : ∀ κ : aS,  pu_cell y.2 κ σ 5 d = ((20, 300, pu_arr 300 fun j => .inl (κ 33 (300 * d + j))) : jC) := fun _ => rfl
  unfold jk_iast
  simp only [pu_get ho (by decide), e κ]
  rw [if_pos ⟨trivial, h0, h1⟩]
  congr 1
  unfold jm_set
  refine pc_put ho (by decide) hy ?_ (fun r' i' hus => by have := pc_u33 hus; omega)
  rw [e _]
  congr 2
  funext j
  unfold jm_upd pu_arr
  dsimp only
  by_cases hj : j < 300
  · rw [if_pos hj, if_pos hj, pu_up_c]
    by_cases hi : j = i.toNat
    · rw [if_pos (by omega), if_pos hi]
    · rw [if_neg (by omega), if_neg hi]
  · rw [if_neg hj, if_neg hj, if_neg (by omega)]
theorem cw6_5 (hy : pu_inv y) (ho : pu_on y 6 d) (hk : κ 18 d = 5) (hz : v = 0 ∨ v = 1) (h0 : 0 ≤ i) (h1 : i < 16) : jk_zast k L (.inl v :: .inl i :: .inr (some (y.2 6 d)) :: S) (pu_H y κ σ g) = k L S (pu_H y (pu_up κ 29 (16 * d + i) v) σ g) := by
  have e : ∀ κ : aS, κ 18 d = 5 → pu_cell y.2 κ σ 6 d = ((21, 16, pu_arr 16 fun j => .inl (κ 29 (16 * d + j))) : jC) := fun κ hk => by simp [pu_cell, hk]
  unfold jk_zast
  simp only [pu_get ho (by decide), e κ hk]
  rw [if_pos ⟨trivial, h0, h1, hz⟩]
  congr 1
  unfold jm_set
  refine pc_put ho (by decide) hy ?_ (fun r' i' hus => by have := pc_u29 hus; omega)
  rw [e _ (by rw [pu_up_ne _ _ _ _ (by decide)]; exact hk)]
  congr 2
  funext j
  unfold jm_upd pu_arr
  dsimp only
  by_cases hj : j < 16
  · rw [if_pos hj, if_pos hj, pu_up_c]
    by_cases hi : j = i.toNat
    · rw [if_pos (by omega), if_pos hi]
    · rw [if_neg (by omega), if_neg hi]
  · rw [if_neg hj, if_neg hj, if_neg (by omega)]
theorem cw6_6 (hy : pu_inv y) (ho : pu_on y 6 d) (hk : κ 18 d = 6) (h0 : 0 ≤ i) (h1 : i < 8) : jk_iast k L (.inl v :: .inl i :: .inr (some (y.2 6 d)) :: S) (pu_H y κ σ g) = k L S (pu_H y (pu_up κ 32 (8 * d + i) v) σ g) := by
  have e : ∀ κ : aS, κ 18 d = 6 → pu_cell y.2 κ σ 6 d = ((20, 8, pu_arr 8 fun j => .inl (κ 32 (8 * d + j))) : jC) := fun κ hk => by simp [pu_cell, hk]
  unfold jk_iast
  simp only [pu_get ho (by decide), e κ hk]
  rw [if_pos ⟨trivial, h0, h1⟩]
  congr 1
  unfold jm_set
  refine pc_put ho (by decide) hy ?_ (fun r' i' hus => by have := pc_u32 hus; omega)
  rw [e _ (by rw [pu_up_ne _ _ _ _ (by decide)]; exact hk)]
  congr 2
  funext j
  unfold jm_upd pu_arr
  dsimp only
  by_cases hj : j < 8
  · rw [if_pos hj, if_pos hj, pu_up_c]
    by_cases hi : j = i.toNat
    · rw [if_pos (by omega), if_pos hi]
    · rw [if_neg (by omega), if_neg hi]
  · rw [if_neg hj, if_neg hj, if_neg (by omega)]
theorem cw6_9 (hy : pu_inv y) (ho : pu_on y 6 d) (hk : κ 18 d = 9) (h0 : 0 ≤ i) (h1 : i < 16) : jk_iast k L (.inl v :: .inl i :: .inr (some (y.2 6 d)) :: S) (pu_H y κ σ g) = k L S (pu_H y (pu_up κ 30 (16 * d + i) v) σ g) := by
  have e : ∀ κ : aS, κ 18 d = 9 → pu_cell y.2 κ σ 6 d = ((20, 16, pu_arr 16 fun j => .inl (κ 30 (16 * d + j))) : jC) := fun κ hk => by simp [pu_cell, hk]
  unfold jk_iast
  simp only [pu_get ho (by decide), e κ hk]
  rw [if_pos ⟨trivial, h0, h1⟩]
  congr 1
  unfold jm_set
  refine pc_put ho (by decide) hy ?_ (fun r' i' hus => by have := pc_u30 hus; omega)
  rw [e _ (by rw [pu_up_ne _ _ _ _ (by decide)]; exact hk)]
  congr 2
  funext j
  unfold jm_upd pu_arr
  dsimp only
  by_cases hj : j < 16
  · rw [if_pos hj, if_pos hj, pu_up_c]
    by_cases hi : j = i.toNat
    · rw [if_pos (by omega), if_pos hi]
    · rw [if_neg (by omega), if_neg hi]
  · rw [if_neg hj, if_neg hj, if_neg (by omega)]
theorem cw6_11 (hy : pu_inv y) (ho : pu_on y 6 d) (hk : κ 18 d = 11) (h0 : 0 ≤ i) (h1 : i < 16) : jk_iast k L (.inl v :: .inl i :: .inr (some (y.2 6 d)) :: S) (pu_H y κ σ g) = k L S (pu_H y (pu_up κ 42 (16 * d + i) v) σ g) := by
  have e : ∀ κ : aS, κ 18 d = 11 → pu_cell y.2 κ σ 6 d = ((20, 16, pu_arr 16 fun j => .inl (κ 42 (16 * d + j))) : jC) := fun κ hk => by simp [pu_cell, hk]
  unfold jk_iast
  simp only [pu_get ho (by decide), e κ hk]
  rw [if_pos ⟨trivial, h0, h1⟩]
  congr 1
  unfold jm_set
  refine pc_put ho (by decide) hy ?_ (fun r' i' hus => by have := pc_u42 hus; omega)
  rw [e _ (by rw [pu_up_ne _ _ _ _ (by decide)]; exact hk)]
  congr 2
  funext j
  unfold jm_upd pu_arr
  dsimp only
  by_cases hj : j < 16
  · rw [if_pos hj, if_pos hj, pu_up_c]
    by_cases hi : j = i.toNat
    · rw [if_pos (by omega), if_pos hi]
    · rw [if_neg (by omega), if_neg hi]
  · rw [if_neg hj, if_neg hj, if_neg (by omega)]
theorem cw7 (hy : pu_inv y) (ho : pu_on y 7 d) (hz : v = 0 ∨ v = 1) (h0 : 0 ≤ i) (h1 : i < 16) : jk_zast k L (.inl v :: .inl i :: .inr (some (y.2 7 d)) :: S) (pu_H y κ σ g) = k L S (pu_H y (pu_up κ 31 (16 * d + i) v) σ g) := by
  have e : ∀ κ : aS,  pu_cell y.2 κ σ 7 d = ((21, 16, pu_arr 16 fun j => .inl (κ 31 (16 * d + j))) : jC) := fun _ => rfl
  unfold jk_zast
  simp only [pu_get ho (by decide), e κ]
  rw [if_pos ⟨trivial, h0, h1, hz⟩]
  congr 1
  unfold jm_set
  refine pc_put ho (by decide) hy ?_ (fun r' i' hus => by have := pc_u31 hus; omega)
  rw [e _]
  congr 2
  funext j
  unfold jm_upd pu_arr
  dsimp only
  by_cases hj : j < 16
  · rw [if_pos hj, if_pos hj, pu_up_c]
    by_cases hi : j = i.toNat
    · rw [if_pos (by omega), if_pos hi]
    · rw [if_neg (by omega), if_neg hi]
  · rw [if_neg hj, if_neg hj, if_neg (by omega)]
theorem cw12 (hy : pu_inv y) (ho : pu_on y 12 0) (h0 : 0 ≤ i) (h1 : i < 200) : jk_iast k L (.inl v :: .inl i :: .inr (some (y.2 12 0)) :: S) (pu_H y κ σ g) = k L S (pu_H y (pu_up κ 40 i v) σ g) := by
  have e : ∀ κ : aS, pu_cell y.2 κ σ 12 0 = ((20, 200, fun j => .inl (κ 40 j)) : jC) := fun _ => rfl
  unfold jk_iast
  simp only [pu_get ho (by decide), e κ]
  rw [if_pos ⟨trivial, h0, h1⟩]
  congr 1
  unfold jm_set
  refine pc_put ho (by decide) hy ?_ (fun r' i' hus => by have := pc_u40 hus; omega)
  rw [e _]
  congr 2
  funext j
  unfold jm_upd
  rw [pu_up_c]
  by_cases hi : j = i.toNat
  · rw [if_pos (by omega), if_pos hi]
  · rw [if_neg (by omega), if_neg hi]
theorem cw4 (hy : pu_inv y) (ho : pu_on y 4 d) (hs : pu_on y 8 s) (hs0 : 0 ≤ s) (h0 : 0 ≤ i) (h1 : i < 16) : jk_aast 25 k L (.inr (some (y.2 8 s)) :: .inl i :: .inr (some (y.2 4 d)) :: S) (pu_H y κ σ g) = k L S (pu_H y (pu_up κ 22 (16 * d + i) s) σ g) := by
  have e : ∀ κ : aS, pu_cell y.2 κ σ 4 d = ((25, 16, fun j => if j < 16 then (if κ 22 (16 * d + j) < 0 then .inr none else .inr (some (y.2 8 (κ 22 (16 * d + j))))) else .inr none) : jC) := fun _ => rfl
  have e8 : pu_cell y.2 κ σ 8 s = (9, 9, pu_step y.2 κ s) := rfl
  unfold jk_aast
  simp only [pu_get ho (by decide), pu_get hs (by decide), e κ, e8]
  rw [if_pos ⟨trivial, h0, h1, by decide⟩]
  congr 1
  unfold jm_set
  refine pc_put ho (by decide) hy ?_ (fun r' i' hus => by have := pc_u22 hus; omega)
  rw [e _]
  congr 2
  funext j
  unfold jm_upd
  dsimp only
  by_cases hj : j < 16
  · rw [if_pos hj, if_pos hj, pu_up_c]
    by_cases hi : j = i.toNat
    · rw [if_pos (show 16 * d + (j : Int) = 16 * d + i by omega), if_pos hi, if_neg (by omega)]
    · rw [if_neg (show ¬ 16 * d + (j : Int) = 16 * d + i by omega), if_neg hi]
  · rw [if_neg hj, if_neg hj, if_neg (by omega)]
theorem cl2 (ho : pu_on y 2 t) : jk_alen k L (.inr (some (y.2 2 t)) :: S) (pu_H y κ σ g) = k L (.inl 20 :: S) (pu_H y κ σ g) := by
  unfold jk_alen
  simp only [pu_get ho (by decide)]
  rfl
theorem cl4 (ho : pu_on y 4 d) : jk_alen k L (.inr (some (y.2 4 d)) :: S) (pu_H y κ σ g) = k L (.inl 16 :: S) (pu_H y κ σ g) := by
  unfold jk_alen
  simp only [pu_get ho (by decide)]
  rfl
theorem cl5 (ho : pu_on y 5 d) : jk_alen k L (.inr (some (y.2 5 d)) :: S) (pu_H y κ σ g) = k L (.inl 300 :: S) (pu_H y κ σ g) := by
  unfold jk_alen
  simp only [pu_get ho (by decide)]
  rfl
theorem cl12 (ho : pu_on y 12 0) : jk_alen k L (.inr (some (y.2 12 0)) :: S) (pu_H y κ σ g) = k L (.inl 200 :: S) (pu_H y κ σ g) := by
  unfold jk_alen
  simp only [pu_get ho (by decide)]
  rfl
theorem cc_a0 (ho : pu_on y 1 t) (hS : S.length ≤ 8) : jk_vcall [(0, f)] 0 k L (.inr (some (y.2 1 t)) :: S) (pu_H y κ σ g) = jm_back k L S (f [.inr (some (y.2 1 t))] (pu_H y κ σ g)) := by
  unfold jk_vcall
  rw [if_pos (by simp; omega)]
  have e : (pu_cell y.2 κ σ 1 t).1 = 0 := rfl
  simp [pu_get ho (by decide), jm_look, e]
theorem cc_s0 (ho : pu_on y 8 s) (hS : S.length ≤ 8) : jk_vcall [(9, f)] 0 k L (.inr (some (y.2 8 s)) :: S) (pu_H y κ σ g) = jm_back k L S (f [.inr (some (y.2 8 s))] (pu_H y κ σ g)) := by
  unfold jk_vcall
  rw [if_pos (by simp; omega)]
  have e : (pu_cell y.2 κ σ 8 s).1 = 9 := rfl
  simp [pu_get ho (by decide), jm_look, e]
theorem cc_k0 (ho : pu_on y 9 0) (hS : S.length ≤ 8) : jk_vcall [(10, f)] 0 k L (.inr (some (y.2 9 0)) :: S) (pu_H y κ σ g) = jm_back k L S (f [.inr (some (y.2 9 0))] (pu_H y κ σ g)) := by
  unfold jk_vcall
  rw [if_pos (by simp; omega)]
  have e : (pu_cell y.2 κ σ 9 0).1 = 10 := rfl
  simp [pu_get ho (by decide), jm_look, e]
theorem cc_1_0 (ho : pu_on y 3 d) (ht : pu_tag (κ 18 d) = 1) (hS : S.length ≤ 8) : jk_vcall [(1, f)] 0 k L (.inr (some (y.2 3 d)) :: S) (pu_H y κ σ g) = jm_back k L S (f [.inr (some (y.2 3 d))] (pu_H y κ σ g)) := by
  unfold jk_vcall
  rw [if_pos (by simp; omega)]
  have e : (pu_cell y.2 κ σ 3 d).1 = 1 := ht
  simp [pu_get ho (by decide), jm_look, e]
theorem cc_2_0 (ho : pu_on y 3 d) (ht : pu_tag (κ 18 d) = 2) (hS : S.length ≤ 8) : jk_vcall [(2, f)] 0 k L (.inr (some (y.2 3 d)) :: S) (pu_H y κ σ g) = jm_back k L S (f [.inr (some (y.2 3 d))] (pu_H y κ σ g)) := by
  unfold jk_vcall
  rw [if_pos (by simp; omega)]
  have e : (pu_cell y.2 κ σ 3 d).1 = 2 := ht
  simp [pu_get ho (by decide), jm_look, e]
theorem cc_3_0 (ho : pu_on y 3 d) (ht : pu_tag (κ 18 d) = 3) (hS : S.length ≤ 8) : jk_vcall [(3, f)] 0 k L (.inr (some (y.2 3 d)) :: S) (pu_H y κ σ g) = jm_back k L S (f [.inr (some (y.2 3 d))] (pu_H y κ σ g)) := by
  unfold jk_vcall
  rw [if_pos (by simp; omega)]
  have e : (pu_cell y.2 κ σ 3 d).1 = 3 := ht
  simp [pu_get ho (by decide), jm_look, e]
theorem cc_4_0 (ho : pu_on y 3 d) (ht : pu_tag (κ 18 d) = 4) (hS : S.length ≤ 8) : jk_vcall [(4, f)] 0 k L (.inr (some (y.2 3 d)) :: S) (pu_H y κ σ g) = jm_back k L S (f [.inr (some (y.2 3 d))] (pu_H y κ σ g)) := by
  unfold jk_vcall
  rw [if_pos (by simp; omega)]
  have e : (pu_cell y.2 κ σ 3 d).1 = 4 := ht
  simp [pu_get ho (by decide), jm_look, e]
theorem cc_5_0 (ho : pu_on y 3 d) (ht : pu_tag (κ 18 d) = 5) (hS : S.length ≤ 8) : jk_vcall [(5, f)] 0 k L (.inr (some (y.2 3 d)) :: S) (pu_H y κ σ g) = jm_back k L S (f [.inr (some (y.2 3 d))] (pu_H y κ σ g)) := by
  unfold jk_vcall
  rw [if_pos (by simp; omega)]
  have e : (pu_cell y.2 κ σ 3 d).1 = 5 := ht
  simp [pu_get ho (by decide), jm_look, e]
theorem cc_6_0 (ho : pu_on y 3 d) (ht : pu_tag (κ 18 d) = 6) (hS : S.length ≤ 8) : jk_vcall [(6, f)] 0 k L (.inr (some (y.2 3 d)) :: S) (pu_H y κ σ g) = jm_back k L S (f [.inr (some (y.2 3 d))] (pu_H y κ σ g)) := by
  unfold jk_vcall
  rw [if_pos (by simp; omega)]
  have e : (pu_cell y.2 κ σ 3 d).1 = 6 := ht
  simp [pu_get ho (by decide), jm_look, e]
theorem cc_7_0 (ho : pu_on y 3 d) (ht : pu_tag (κ 18 d) = 7) (hS : S.length ≤ 8) : jk_vcall [(7, f)] 0 k L (.inr (some (y.2 3 d)) :: S) (pu_H y κ σ g) = jm_back k L S (f [.inr (some (y.2 3 d))] (pu_H y κ σ g)) := by
  unfold jk_vcall
  rw [if_pos (by simp; omega)]
  have e : (pu_cell y.2 κ σ 3 d).1 = 7 := ht
  simp [pu_get ho (by decide), jm_look, e]
theorem cc_8_0 (ho : pu_on y 3 d) (ht : pu_tag (κ 18 d) = 8) (hS : S.length ≤ 8) : jk_vcall [(8, f)] 0 k L (.inr (some (y.2 3 d)) :: S) (pu_H y κ σ g) = jm_back k L S (f [.inr (some (y.2 3 d))] (pu_H y κ σ g)) := by
  unfold jk_vcall
  rw [if_pos (by simp; omega)]
  have e : (pu_cell y.2 κ σ 3 d).1 = 8 := ht
  simp [pu_get ho (by decide), jm_look, e]
theorem cc_d0 {f1 f2 f3 f4 f5 f6 f7 f8 : jF} (ho : pu_on y 3 d) (hS : S.length ≤ 8) : jk_vcall [(1, f1), (2, f2), (3, f3), (4, f4), (5, f5), (6, f6), (7, f7), (8, f8)] 0 k L (.inr (some (y.2 3 d)) :: S) (pu_H y κ σ g) = jm_back k L S ((if pu_tag (κ 18 d) = 1 then f1 else if pu_tag (κ 18 d) = 2 then f2 else if pu_tag (κ 18 d) = 3 then f3 else if pu_tag (κ 18 d) = 4 then f4 else if pu_tag (κ 18 d) = 5 then f5 else if pu_tag (κ 18 d) = 6 then f6 else if pu_tag (κ 18 d) = 7 then f7 else f8) [.inr (some (y.2 3 d))] (pu_H y κ σ g)) := by
  unfold jk_vcall
  rw [if_pos (by simp; omega)]
  have e : (pu_cell y.2 κ σ 3 d).1 = pu_tag (κ 18 d) := rfl
  have hm := pu_tag_mem (κ 18 d)
  simp only [List.mem_cons, List.not_mem_nil, or_false] at hm
  rcases hm with h | h | h | h | h | h | h | h <;> simp [pu_get ho (by decide), jm_look, e, h]
theorem cc_a1 (ho : pu_on y 1 t) (hS : S.length ≤ 8) : jk_vcall [(0, f)] 1 k L (u1 :: .inr (some (y.2 1 t)) :: S) (pu_H y κ σ g) = jm_back k L S (f [.inr (some (y.2 1 t)), u1] (pu_H y κ σ g)) := by
  unfold jk_vcall
  rw [if_pos (by simp; omega)]
  have e : (pu_cell y.2 κ σ 1 t).1 = 0 := rfl
  simp [pu_get ho (by decide), jm_look, e]
theorem cc_s1 (ho : pu_on y 8 s) (hS : S.length ≤ 8) : jk_vcall [(9, f)] 1 k L (u1 :: .inr (some (y.2 8 s)) :: S) (pu_H y κ σ g) = jm_back k L S (f [.inr (some (y.2 8 s)), u1] (pu_H y κ σ g)) := by
  unfold jk_vcall
  rw [if_pos (by simp; omega)]
  have e : (pu_cell y.2 κ σ 8 s).1 = 9 := rfl
  simp [pu_get ho (by decide), jm_look, e]
theorem cc_k1 (ho : pu_on y 9 0) (hS : S.length ≤ 8) : jk_vcall [(10, f)] 1 k L (u1 :: .inr (some (y.2 9 0)) :: S) (pu_H y κ σ g) = jm_back k L S (f [.inr (some (y.2 9 0)), u1] (pu_H y κ σ g)) := by
  unfold jk_vcall
  rw [if_pos (by simp; omega)]
  have e : (pu_cell y.2 κ σ 9 0).1 = 10 := rfl
  simp [pu_get ho (by decide), jm_look, e]
theorem cc_1_1 (ho : pu_on y 3 d) (ht : pu_tag (κ 18 d) = 1) (hS : S.length ≤ 8) : jk_vcall [(1, f)] 1 k L (u1 :: .inr (some (y.2 3 d)) :: S) (pu_H y κ σ g) = jm_back k L S (f [.inr (some (y.2 3 d)), u1] (pu_H y κ σ g)) := by
  unfold jk_vcall
  rw [if_pos (by simp; omega)]
  have e : (pu_cell y.2 κ σ 3 d).1 = 1 := ht
  simp [pu_get ho (by decide), jm_look, e]
theorem cc_2_1 (ho : pu_on y 3 d) (ht : pu_tag (κ 18 d) = 2) (hS : S.length ≤ 8) : jk_vcall [(2, f)] 1 k L (u1 :: .inr (some (y.2 3 d)) :: S) (pu_H y κ σ g) = jm_back k L S (f [.inr (some (y.2 3 d)), u1] (pu_H y κ σ g)) := by
  unfold jk_vcall
  rw [if_pos (by simp; omega)]
  have e : (pu_cell y.2 κ σ 3 d).1 = 2 := ht
  simp [pu_get ho (by decide), jm_look, e]
theorem cc_3_1 (ho : pu_on y 3 d) (ht : pu_tag (κ 18 d) = 3) (hS : S.length ≤ 8) : jk_vcall [(3, f)] 1 k L (u1 :: .inr (some (y.2 3 d)) :: S) (pu_H y κ σ g) = jm_back k L S (f [.inr (some (y.2 3 d)), u1] (pu_H y κ σ g)) := by
  unfold jk_vcall
  rw [if_pos (by simp; omega)]
  have e : (pu_cell y.2 κ σ 3 d).1 = 3 := ht
  simp [pu_get ho (by decide), jm_look, e]
theorem cc_4_1 (ho : pu_on y 3 d) (ht : pu_tag (κ 18 d) = 4) (hS : S.length ≤ 8) : jk_vcall [(4, f)] 1 k L (u1 :: .inr (some (y.2 3 d)) :: S) (pu_H y κ σ g) = jm_back k L S (f [.inr (some (y.2 3 d)), u1] (pu_H y κ σ g)) := by
  unfold jk_vcall
  rw [if_pos (by simp; omega)]
  have e : (pu_cell y.2 κ σ 3 d).1 = 4 := ht
  simp [pu_get ho (by decide), jm_look, e]
theorem cc_5_1 (ho : pu_on y 3 d) (ht : pu_tag (κ 18 d) = 5) (hS : S.length ≤ 8) : jk_vcall [(5, f)] 1 k L (u1 :: .inr (some (y.2 3 d)) :: S) (pu_H y κ σ g) = jm_back k L S (f [.inr (some (y.2 3 d)), u1] (pu_H y κ σ g)) := by
  unfold jk_vcall
  rw [if_pos (by simp; omega)]
  have e : (pu_cell y.2 κ σ 3 d).1 = 5 := ht
  simp [pu_get ho (by decide), jm_look, e]
theorem cc_6_1 (ho : pu_on y 3 d) (ht : pu_tag (κ 18 d) = 6) (hS : S.length ≤ 8) : jk_vcall [(6, f)] 1 k L (u1 :: .inr (some (y.2 3 d)) :: S) (pu_H y κ σ g) = jm_back k L S (f [.inr (some (y.2 3 d)), u1] (pu_H y κ σ g)) := by
  unfold jk_vcall
  rw [if_pos (by simp; omega)]
  have e : (pu_cell y.2 κ σ 3 d).1 = 6 := ht
  simp [pu_get ho (by decide), jm_look, e]
theorem cc_7_1 (ho : pu_on y 3 d) (ht : pu_tag (κ 18 d) = 7) (hS : S.length ≤ 8) : jk_vcall [(7, f)] 1 k L (u1 :: .inr (some (y.2 3 d)) :: S) (pu_H y κ σ g) = jm_back k L S (f [.inr (some (y.2 3 d)), u1] (pu_H y κ σ g)) := by
  unfold jk_vcall
  rw [if_pos (by simp; omega)]
  have e : (pu_cell y.2 κ σ 3 d).1 = 7 := ht
  simp [pu_get ho (by decide), jm_look, e]
theorem cc_8_1 (ho : pu_on y 3 d) (ht : pu_tag (κ 18 d) = 8) (hS : S.length ≤ 8) : jk_vcall [(8, f)] 1 k L (u1 :: .inr (some (y.2 3 d)) :: S) (pu_H y κ σ g) = jm_back k L S (f [.inr (some (y.2 3 d)), u1] (pu_H y κ σ g)) := by
  unfold jk_vcall
  rw [if_pos (by simp; omega)]
  have e : (pu_cell y.2 κ σ 3 d).1 = 8 := ht
  simp [pu_get ho (by decide), jm_look, e]
theorem cc_d1 {f1 f2 f3 f4 f5 f6 f7 f8 : jF} (ho : pu_on y 3 d) (hS : S.length ≤ 8) : jk_vcall [(1, f1), (2, f2), (3, f3), (4, f4), (5, f5), (6, f6), (7, f7), (8, f8)] 1 k L (u1 :: .inr (some (y.2 3 d)) :: S) (pu_H y κ σ g) = jm_back k L S ((if pu_tag (κ 18 d) = 1 then f1 else if pu_tag (κ 18 d) = 2 then f2 else if pu_tag (κ 18 d) = 3 then f3 else if pu_tag (κ 18 d) = 4 then f4 else if pu_tag (κ 18 d) = 5 then f5 else if pu_tag (κ 18 d) = 6 then f6 else if pu_tag (κ 18 d) = 7 then f7 else f8) [.inr (some (y.2 3 d)), u1] (pu_H y κ σ g)) := by
  unfold jk_vcall
  rw [if_pos (by simp; omega)]
  have e : (pu_cell y.2 κ σ 3 d).1 = pu_tag (κ 18 d) := rfl
  have hm := pu_tag_mem (κ 18 d)
  simp only [List.mem_cons, List.not_mem_nil, or_false] at hm
  rcases hm with h | h | h | h | h | h | h | h <;> simp [pu_get ho (by decide), jm_look, e, h]
theorem cc_k2 (ho : pu_on y 9 0) (hS : S.length ≤ 8) : jk_vcall [(10, f)] 2 k L (u2 :: u1 :: .inr (some (y.2 9 0)) :: S) (pu_H y κ σ g) = jm_back k L S (f [.inr (some (y.2 9 0)), u1, u2] (pu_H y κ σ g)) := by
  unfold jk_vcall
  rw [if_pos (by simp; omega)]
  have e : (pu_cell y.2 κ σ 9 0).1 = 10 := rfl
  simp [pu_get ho (by decide), jm_look, e]
theorem cc_1_2 (ho : pu_on y 3 d) (ht : pu_tag (κ 18 d) = 1) (hS : S.length ≤ 8) : jk_vcall [(1, f)] 2 k L (u2 :: u1 :: .inr (some (y.2 3 d)) :: S) (pu_H y κ σ g) = jm_back k L S (f [.inr (some (y.2 3 d)), u1, u2] (pu_H y κ σ g)) := by
  unfold jk_vcall
  rw [if_pos (by simp; omega)]
  have e : (pu_cell y.2 κ σ 3 d).1 = 1 := ht
  simp [pu_get ho (by decide), jm_look, e]
theorem cc_2_2 (ho : pu_on y 3 d) (ht : pu_tag (κ 18 d) = 2) (hS : S.length ≤ 8) : jk_vcall [(2, f)] 2 k L (u2 :: u1 :: .inr (some (y.2 3 d)) :: S) (pu_H y κ σ g) = jm_back k L S (f [.inr (some (y.2 3 d)), u1, u2] (pu_H y κ σ g)) := by
  unfold jk_vcall
  rw [if_pos (by simp; omega)]
  have e : (pu_cell y.2 κ σ 3 d).1 = 2 := ht
  simp [pu_get ho (by decide), jm_look, e]
theorem cc_3_2 (ho : pu_on y 3 d) (ht : pu_tag (κ 18 d) = 3) (hS : S.length ≤ 8) : jk_vcall [(3, f)] 2 k L (u2 :: u1 :: .inr (some (y.2 3 d)) :: S) (pu_H y κ σ g) = jm_back k L S (f [.inr (some (y.2 3 d)), u1, u2] (pu_H y κ σ g)) := by
  unfold jk_vcall
  rw [if_pos (by simp; omega)]
  have e : (pu_cell y.2 κ σ 3 d).1 = 3 := ht
  simp [pu_get ho (by decide), jm_look, e]
theorem cc_4_2 (ho : pu_on y 3 d) (ht : pu_tag (κ 18 d) = 4) (hS : S.length ≤ 8) : jk_vcall [(4, f)] 2 k L (u2 :: u1 :: .inr (some (y.2 3 d)) :: S) (pu_H y κ σ g) = jm_back k L S (f [.inr (some (y.2 3 d)), u1, u2] (pu_H y κ σ g)) := by
  unfold jk_vcall
  rw [if_pos (by simp; omega)]
  have e : (pu_cell y.2 κ σ 3 d).1 = 4 := ht
  simp [pu_get ho (by decide), jm_look, e]
theorem cc_5_2 (ho : pu_on y 3 d) (ht : pu_tag (κ 18 d) = 5) (hS : S.length ≤ 8) : jk_vcall [(5, f)] 2 k L (u2 :: u1 :: .inr (some (y.2 3 d)) :: S) (pu_H y κ σ g) = jm_back k L S (f [.inr (some (y.2 3 d)), u1, u2] (pu_H y κ σ g)) := by
  unfold jk_vcall
  rw [if_pos (by simp; omega)]
  have e : (pu_cell y.2 κ σ 3 d).1 = 5 := ht
  simp [pu_get ho (by decide), jm_look, e]
theorem cc_6_2 (ho : pu_on y 3 d) (ht : pu_tag (κ 18 d) = 6) (hS : S.length ≤ 8) : jk_vcall [(6, f)] 2 k L (u2 :: u1 :: .inr (some (y.2 3 d)) :: S) (pu_H y κ σ g) = jm_back k L S (f [.inr (some (y.2 3 d)), u1, u2] (pu_H y κ σ g)) := by
  unfold jk_vcall
  rw [if_pos (by simp; omega)]
  have e : (pu_cell y.2 κ σ 3 d).1 = 6 := ht
  simp [pu_get ho (by decide), jm_look, e]
theorem cc_7_2 (ho : pu_on y 3 d) (ht : pu_tag (κ 18 d) = 7) (hS : S.length ≤ 8) : jk_vcall [(7, f)] 2 k L (u2 :: u1 :: .inr (some (y.2 3 d)) :: S) (pu_H y κ σ g) = jm_back k L S (f [.inr (some (y.2 3 d)), u1, u2] (pu_H y κ σ g)) := by
  unfold jk_vcall
  rw [if_pos (by simp; omega)]
  have e : (pu_cell y.2 κ σ 3 d).1 = 7 := ht
  simp [pu_get ho (by decide), jm_look, e]
theorem cc_8_2 (ho : pu_on y 3 d) (ht : pu_tag (κ 18 d) = 8) (hS : S.length ≤ 8) : jk_vcall [(8, f)] 2 k L (u2 :: u1 :: .inr (some (y.2 3 d)) :: S) (pu_H y κ σ g) = jm_back k L S (f [.inr (some (y.2 3 d)), u1, u2] (pu_H y κ σ g)) := by
  unfold jk_vcall
  rw [if_pos (by simp; omega)]
  have e : (pu_cell y.2 κ σ 3 d).1 = 8 := ht
  simp [pu_get ho (by decide), jm_look, e]
theorem cc_d2 {f1 f2 f3 f4 f5 f6 f7 f8 : jF} (ho : pu_on y 3 d) (hS : S.length ≤ 8) : jk_vcall [(1, f1), (2, f2), (3, f3), (4, f4), (5, f5), (6, f6), (7, f7), (8, f8)] 2 k L (u2 :: u1 :: .inr (some (y.2 3 d)) :: S) (pu_H y κ σ g) = jm_back k L S ((if pu_tag (κ 18 d) = 1 then f1 else if pu_tag (κ 18 d) = 2 then f2 else if pu_tag (κ 18 d) = 3 then f3 else if pu_tag (κ 18 d) = 4 then f4 else if pu_tag (κ 18 d) = 5 then f5 else if pu_tag (κ 18 d) = 6 then f6 else if pu_tag (κ 18 d) = 7 then f7 else f8) [.inr (some (y.2 3 d)), u1, u2] (pu_H y κ σ g)) := by
  unfold jk_vcall
  rw [if_pos (by simp; omega)]
  have e : (pu_cell y.2 κ σ 3 d).1 = pu_tag (κ 18 d) := rfl
  have hm := pu_tag_mem (κ 18 d)
  simp only [List.mem_cons, List.not_mem_nil, or_false] at hm
  rcases hm with h | h | h | h | h | h | h | h <;> simp [pu_get ho (by decide), jm_look, e, h]
theorem cc_k3 (ho : pu_on y 9 0) (hS : S.length ≤ 8) : jk_vcall [(10, f)] 3 k L (u3 :: u2 :: u1 :: .inr (some (y.2 9 0)) :: S) (pu_H y κ σ g) = jm_back k L S (f [.inr (some (y.2 9 0)), u1, u2, u3] (pu_H y κ σ g)) := by
  unfold jk_vcall
  rw [if_pos (by simp; omega)]
  have e : (pu_cell y.2 κ σ 9 0).1 = 10 := rfl
  simp [pu_get ho (by decide), jm_look, e]
theorem cc_1_3 (ho : pu_on y 3 d) (ht : pu_tag (κ 18 d) = 1) (hS : S.length ≤ 8) : jk_vcall [(1, f)] 3 k L (u3 :: u2 :: u1 :: .inr (some (y.2 3 d)) :: S) (pu_H y κ σ g) = jm_back k L S (f [.inr (some (y.2 3 d)), u1, u2, u3] (pu_H y κ σ g)) := by
  unfold jk_vcall
  rw [if_pos (by simp; omega)]
  have e : (pu_cell y.2 κ σ 3 d).1 = 1 := ht
  simp [pu_get ho (by decide), jm_look, e]
theorem cc_2_3 (ho : pu_on y 3 d) (ht : pu_tag (κ 18 d) = 2) (hS : S.length ≤ 8) : jk_vcall [(2, f)] 3 k L (u3 :: u2 :: u1 :: .inr (some (y.2 3 d)) :: S) (pu_H y κ σ g) = jm_back k L S (f [.inr (some (y.2 3 d)), u1, u2, u3] (pu_H y κ σ g)) := by
  unfold jk_vcall
  rw [if_pos (by simp; omega)]
  have e : (pu_cell y.2 κ σ 3 d).1 = 2 := ht
  simp [pu_get ho (by decide), jm_look, e]
theorem cc_3_3 (ho : pu_on y 3 d) (ht : pu_tag (κ 18 d) = 3) (hS : S.length ≤ 8) : jk_vcall [(3, f)] 3 k L (u3 :: u2 :: u1 :: .inr (some (y.2 3 d)) :: S) (pu_H y κ σ g) = jm_back k L S (f [.inr (some (y.2 3 d)), u1, u2, u3] (pu_H y κ σ g)) := by
  unfold jk_vcall
  rw [if_pos (by simp; omega)]
  have e : (pu_cell y.2 κ σ 3 d).1 = 3 := ht
  simp [pu_get ho (by decide), jm_look, e]
theorem cc_4_3 (ho : pu_on y 3 d) (ht : pu_tag (κ 18 d) = 4) (hS : S.length ≤ 8) : jk_vcall [(4, f)] 3 k L (u3 :: u2 :: u1 :: .inr (some (y.2 3 d)) :: S) (pu_H y κ σ g) = jm_back k L S (f [.inr (some (y.2 3 d)), u1, u2, u3] (pu_H y κ σ g)) := by
  unfold jk_vcall
  rw [if_pos (by simp; omega)]
  have e : (pu_cell y.2 κ σ 3 d).1 = 4 := ht
  simp [pu_get ho (by decide), jm_look, e]
theorem cc_5_3 (ho : pu_on y 3 d) (ht : pu_tag (κ 18 d) = 5) (hS : S.length ≤ 8) : jk_vcall [(5, f)] 3 k L (u3 :: u2 :: u1 :: .inr (some (y.2 3 d)) :: S) (pu_H y κ σ g) = jm_back k L S (f [.inr (some (y.2 3 d)), u1, u2, u3] (pu_H y κ σ g)) := by
  unfold jk_vcall
  rw [if_pos (by simp; omega)]
  have e : (pu_cell y.2 κ σ 3 d).1 = 5 := ht
  simp [pu_get ho (by decide), jm_look, e]
theorem cc_6_3 (ho : pu_on y 3 d) (ht : pu_tag (κ 18 d) = 6) (hS : S.length ≤ 8) : jk_vcall [(6, f)] 3 k L (u3 :: u2 :: u1 :: .inr (some (y.2 3 d)) :: S) (pu_H y κ σ g) = jm_back k L S (f [.inr (some (y.2 3 d)), u1, u2, u3] (pu_H y κ σ g)) := by
  unfold jk_vcall
  rw [if_pos (by simp; omega)]
  have e : (pu_cell y.2 κ σ 3 d).1 = 6 := ht
  simp [pu_get ho (by decide), jm_look, e]
theorem cc_7_3 (ho : pu_on y 3 d) (ht : pu_tag (κ 18 d) = 7) (hS : S.length ≤ 8) : jk_vcall [(7, f)] 3 k L (u3 :: u2 :: u1 :: .inr (some (y.2 3 d)) :: S) (pu_H y κ σ g) = jm_back k L S (f [.inr (some (y.2 3 d)), u1, u2, u3] (pu_H y κ σ g)) := by
  unfold jk_vcall
  rw [if_pos (by simp; omega)]
  have e : (pu_cell y.2 κ σ 3 d).1 = 7 := ht
  simp [pu_get ho (by decide), jm_look, e]
theorem cc_8_3 (ho : pu_on y 3 d) (ht : pu_tag (κ 18 d) = 8) (hS : S.length ≤ 8) : jk_vcall [(8, f)] 3 k L (u3 :: u2 :: u1 :: .inr (some (y.2 3 d)) :: S) (pu_H y κ σ g) = jm_back k L S (f [.inr (some (y.2 3 d)), u1, u2, u3] (pu_H y κ σ g)) := by
  unfold jk_vcall
  rw [if_pos (by simp; omega)]
  have e : (pu_cell y.2 κ σ 3 d).1 = 8 := ht
  simp [pu_get ho (by decide), jm_look, e]
theorem cc_d3 {f1 f2 f3 f4 f5 f6 f7 f8 : jF} (ho : pu_on y 3 d) (hS : S.length ≤ 8) : jk_vcall [(1, f1), (2, f2), (3, f3), (4, f4), (5, f5), (6, f6), (7, f7), (8, f8)] 3 k L (u3 :: u2 :: u1 :: .inr (some (y.2 3 d)) :: S) (pu_H y κ σ g) = jm_back k L S ((if pu_tag (κ 18 d) = 1 then f1 else if pu_tag (κ 18 d) = 2 then f2 else if pu_tag (κ 18 d) = 3 then f3 else if pu_tag (κ 18 d) = 4 then f4 else if pu_tag (κ 18 d) = 5 then f5 else if pu_tag (κ 18 d) = 6 then f6 else if pu_tag (κ 18 d) = 7 then f7 else f8) [.inr (some (y.2 3 d)), u1, u2, u3] (pu_H y κ σ g)) := by
  unfold jk_vcall
  rw [if_pos (by simp; omega)]
  have e : (pu_cell y.2 κ σ 3 d).1 = pu_tag (κ 18 d) := rfl
  have hm := pu_tag_mem (κ 18 d)
  simp only [List.mem_cons, List.not_mem_nil, or_false] at hm
  rcases hm with h | h | h | h | h | h | h | h <;> simp [pu_get ho (by decide), jm_look, e, h]
theorem cc_k4 (ho : pu_on y 9 0) (hS : S.length ≤ 8) : jk_vcall [(10, f)] 4 k L (u4 :: u3 :: u2 :: u1 :: .inr (some (y.2 9 0)) :: S) (pu_H y κ σ g) = jm_back k L S (f [.inr (some (y.2 9 0)), u1, u2, u3, u4] (pu_H y κ σ g)) := by
  unfold jk_vcall
  rw [if_pos (by simp; omega)]
  have e : (pu_cell y.2 κ σ 9 0).1 = 10 := rfl
  simp [pu_get ho (by decide), jm_look, e]
theorem cc_k5 (ho : pu_on y 9 0) (hS : S.length ≤ 8) : jk_vcall [(10, f)] 5 k L (u5 :: u4 :: u3 :: u2 :: u1 :: .inr (some (y.2 9 0)) :: S) (pu_H y κ σ g) = jm_back k L S (f [.inr (some (y.2 9 0)), u1, u2, u3, u4, u5] (pu_H y κ σ g)) := by
  unfold jk_vcall
  rw [if_pos (by simp; omega)]
  have e : (pu_cell y.2 κ σ 9 0).1 = 10 := rfl
  simp [pu_get ho (by decide), jm_look, e]
end PC
