section PC
variable {y : jLay} {κ σ : aS} {g : jH} {k : jK} {L : List (Option jV)} {S : List jV} {t d s i j v x : Int} {f : jF} {u1 u2 u3 u4 u5 : jV}
theorem cd_g0 (ho : pu_on y 3 d) : jk_get [1, 2, 3, 4, 5, 6, 7, 8] 0 k L (.inr (some (y.2 3 d)) :: S) (pu_H y κ σ g) = k L (.inl (κ 18 d) :: S) (pu_H y κ σ g) := by
  unfold jk_get
  simp only [pu_get ho (by decide)]
  have e : pu_cell y.2 κ σ 3 d = (pu_tag (κ 18 d), pu_nf (pu_tag (κ 18 d)), pu_dev y.2 κ d) := rfl
  rw [e, if_pos (pu_tag_mem _)]
  rfl
theorem cd_g1 (ho : pu_on y 3 d) : jk_get [1, 2, 3, 4, 5, 6, 7, 8] 1 k L (.inr (some (y.2 3 d)) :: S) (pu_H y κ σ g) = k L (.inl d :: S) (pu_H y κ σ g) := by
  unfold jk_get
  simp only [pu_get ho (by decide)]
  have e : pu_cell y.2 κ σ 3 d = (pu_tag (κ 18 d), pu_nf (pu_tag (κ 18 d)), pu_dev y.2 κ d) := rfl
  rw [e, if_pos (pu_tag_mem _)]
  rfl
theorem cd_g2 (ho : pu_on y 3 d) : jk_get [1, 2, 3, 4, 5, 6, 7, 8] 2 k L (.inr (some (y.2 3 d)) :: S) (pu_H y κ σ g) = k L (.inl (κ 21 d) :: S) (pu_H y κ σ g) := by
  unfold jk_get
  simp only [pu_get ho (by decide)]
  have e : pu_cell y.2 κ σ 3 d = (pu_tag (κ 18 d), pu_nf (pu_tag (κ 18 d)), pu_dev y.2 κ d) := rfl
  rw [e, if_pos (pu_tag_mem _)]
  rfl
theorem cd_g3 (ho : pu_on y 3 d) : jk_get [1, 2, 3, 4, 5, 6, 7, 8] 3 k L (.inr (some (y.2 3 d)) :: S) (pu_H y κ σ g) = k L (.inl (κ 20 d) :: S) (pu_H y κ σ g) := by
  unfold jk_get
  simp only [pu_get ho (by decide)]
  have e : pu_cell y.2 κ σ 3 d = (pu_tag (κ 18 d), pu_nf (pu_tag (κ 18 d)), pu_dev y.2 κ d) := rfl
  rw [e, if_pos (pu_tag_mem _)]
  rfl
theorem cd_g4 (ho : pu_on y 3 d) : jk_get [1, 2, 3, 4, 5, 6, 7, 8] 4 k L (.inr (some (y.2 3 d)) :: S) (pu_H y κ σ g) = k L (.inr (some (y.2 4 d)) :: S) (pu_H y κ σ g) := by
  unfold jk_get
  simp only [pu_get ho (by decide)]
  have e : pu_cell y.2 κ σ 3 d = (pu_tag (κ 18 d), pu_nf (pu_tag (κ 18 d)), pu_dev y.2 κ d) := rfl
  rw [e, if_pos (pu_tag_mem _)]
  rfl
theorem cd_g5 (ho : pu_on y 3 d) : jk_get [1, 2, 3, 4, 5, 6, 7, 8] 5 k L (.inr (some (y.2 3 d)) :: S) (pu_H y κ σ g) = k L (.inl (κ 23 d) :: S) (pu_H y κ σ g) := by
  unfold jk_get
  simp only [pu_get ho (by decide)]
  have e : pu_cell y.2 κ σ 3 d = (pu_tag (κ 18 d), pu_nf (pu_tag (κ 18 d)), pu_dev y.2 κ d) := rfl
  rw [e, if_pos (pu_tag_mem _)]
  rfl
theorem cd_g6 (ho : pu_on y 3 d) : jk_get [1, 2, 3, 4, 5, 6, 7, 8] 6 k L (.inr (some (y.2 3 d)) :: S) (pu_H y κ σ g) = k L (.inr (some (y.2 5 d)) :: S) (pu_H y κ σ g) := by
  unfold jk_get
  simp only [pu_get ho (by decide)]
  have e : pu_cell y.2 κ σ 3 d = (pu_tag (κ 18 d), pu_nf (pu_tag (κ 18 d)), pu_dev y.2 κ d) := rfl
  rw [e, if_pos (pu_tag_mem _)]
  rfl
theorem cd_g7 (ho : pu_on y 3 d) : jk_get [1, 2, 3, 4, 5, 6, 7, 8] 7 k L (.inr (some (y.2 3 d)) :: S) (pu_H y κ σ g) = k L (.inl (κ 34 d) :: S) (pu_H y κ σ g) := by
  unfold jk_get
  simp only [pu_get ho (by decide)]
  have e : pu_cell y.2 κ σ 3 d = (pu_tag (κ 18 d), pu_nf (pu_tag (κ 18 d)), pu_dev y.2 κ d) := rfl
  rw [e, if_pos (pu_tag_mem _)]
  rfl
theorem cd1_g0 (ho : pu_on y 3 d) (ht : pu_tag (κ 18 d) = 1) : jk_get [1] 0 k L (.inr (some (y.2 3 d)) :: S) (pu_H y κ σ g) = k L (.inl (κ 18 d) :: S) (pu_H y κ σ g) := by
  unfold jk_get
  simp only [pu_get ho (by decide)]
  have e : pu_cell y.2 κ σ 3 d = (pu_tag (κ 18 d), pu_nf (pu_tag (κ 18 d)), pu_dev y.2 κ d) := rfl
  rw [e, if_pos (by rw [ht]; exact List.mem_singleton.mpr rfl)]
  simp [pu_dev, pu_own, ht]
theorem cd1_g1 (ho : pu_on y 3 d) (ht : pu_tag (κ 18 d) = 1) : jk_get [1] 1 k L (.inr (some (y.2 3 d)) :: S) (pu_H y κ σ g) = k L (.inl d :: S) (pu_H y κ σ g) := by
  unfold jk_get
  simp only [pu_get ho (by decide)]
  have e : pu_cell y.2 κ σ 3 d = (pu_tag (κ 18 d), pu_nf (pu_tag (κ 18 d)), pu_dev y.2 κ d) := rfl
  rw [e, if_pos (by rw [ht]; exact List.mem_singleton.mpr rfl)]
  simp [pu_dev, pu_own, ht]
theorem cd1_g2 (ho : pu_on y 3 d) (ht : pu_tag (κ 18 d) = 1) : jk_get [1] 2 k L (.inr (some (y.2 3 d)) :: S) (pu_H y κ σ g) = k L (.inl (κ 21 d) :: S) (pu_H y κ σ g) := by
  unfold jk_get
  simp only [pu_get ho (by decide)]
  have e : pu_cell y.2 κ σ 3 d = (pu_tag (κ 18 d), pu_nf (pu_tag (κ 18 d)), pu_dev y.2 κ d) := rfl
  rw [e, if_pos (by rw [ht]; exact List.mem_singleton.mpr rfl)]
  simp [pu_dev, pu_own, ht]
theorem cd1_g3 (ho : pu_on y 3 d) (ht : pu_tag (κ 18 d) = 1) : jk_get [1] 3 k L (.inr (some (y.2 3 d)) :: S) (pu_H y κ σ g) = k L (.inl (κ 20 d) :: S) (pu_H y κ σ g) := by
  unfold jk_get
  simp only [pu_get ho (by decide)]
  have e : pu_cell y.2 κ σ 3 d = (pu_tag (κ 18 d), pu_nf (pu_tag (κ 18 d)), pu_dev y.2 κ d) := rfl
  rw [e, if_pos (by rw [ht]; exact List.mem_singleton.mpr rfl)]
  simp [pu_dev, pu_own, ht]
theorem cd1_g4 (ho : pu_on y 3 d) (ht : pu_tag (κ 18 d) = 1) : jk_get [1] 4 k L (.inr (some (y.2 3 d)) :: S) (pu_H y κ σ g) = k L (.inr (some (y.2 4 d)) :: S) (pu_H y κ σ g) := by
  unfold jk_get
  simp only [pu_get ho (by decide)]
  have e : pu_cell y.2 κ σ 3 d = (pu_tag (κ 18 d), pu_nf (pu_tag (κ 18 d)), pu_dev y.2 κ d) := rfl
  rw [e, if_pos (by rw [ht]; exact List.mem_singleton.mpr rfl)]
  simp [pu_dev, pu_own, ht]
theorem cd1_g5 (ho : pu_on y 3 d) (ht : pu_tag (κ 18 d) = 1) : jk_get [1] 5 k L (.inr (some (y.2 3 d)) :: S) (pu_H y κ σ g) = k L (.inl (κ 23 d) :: S) (pu_H y κ σ g) := by
  unfold jk_get
  simp only [pu_get ho (by decide)]
  have e : pu_cell y.2 κ σ 3 d = (pu_tag (κ 18 d), pu_nf (pu_tag (κ 18 d)), pu_dev y.2 κ d) := rfl
  rw [e, if_pos (by rw [ht]; exact List.mem_singleton.mpr rfl)]
  simp [pu_dev, pu_own, ht]
theorem cd1_g6 (ho : pu_on y 3 d) (ht : pu_tag (κ 18 d) = 1) : jk_get [1] 6 k L (.inr (some (y.2 3 d)) :: S) (pu_H y κ σ g) = k L (.inr (some (y.2 5 d)) :: S) (pu_H y κ σ g) := by
  unfold jk_get
  simp only [pu_get ho (by decide)]
  have e : pu_cell y.2 κ σ 3 d = (pu_tag (κ 18 d), pu_nf (pu_tag (κ 18 d)), pu_dev y.2 κ d) := rfl
  rw [e, if_pos (by rw [ht]; exact List.mem_singleton.mpr rfl)]
  simp [pu_dev, pu_own, ht]
theorem cd1_g7 (ho : pu_on y 3 d) (ht : pu_tag (κ 18 d) = 1) : jk_get [1] 7 k L (.inr (some (y.2 3 d)) :: S) (pu_H y κ σ g) = k L (.inl (κ 34 d) :: S) (pu_H y κ σ g) := by
  unfold jk_get
  simp only [pu_get ho (by decide)]
  have e : pu_cell y.2 κ σ 3 d = (pu_tag (κ 18 d), pu_nf (pu_tag (κ 18 d)), pu_dev y.2 κ d) := rfl
  rw [e, if_pos (by rw [ht]; exact List.mem_singleton.mpr rfl)]
  simp [pu_dev, pu_own, ht]
theorem cd1_g8 (ho : pu_on y 3 d) (ht : pu_tag (κ 18 d) = 1) : jk_get [1] 8 k L (.inr (some (y.2 3 d)) :: S) (pu_H y κ σ g) = k L (.inl (κ 19 d) :: S) (pu_H y κ σ g) := by
  unfold jk_get
  simp only [pu_get ho (by decide)]
  have e : pu_cell y.2 κ σ 3 d = (pu_tag (κ 18 d), pu_nf (pu_tag (κ 18 d)), pu_dev y.2 κ d) := rfl
  rw [e, if_pos (by rw [ht]; exact List.mem_singleton.mpr rfl)]
  simp [pu_dev, pu_own, ht]
theorem cd1_g9 (ho : pu_on y 3 d) (ht : pu_tag (κ 18 d) = 1) : jk_get [1] 9 k L (.inr (some (y.2 3 d)) :: S) (pu_H y κ σ g) = k L (.inl (κ 25 d) :: S) (pu_H y κ σ g) := by
  unfold jk_get
  simp only [pu_get ho (by decide)]
  have e : pu_cell y.2 κ σ 3 d = (pu_tag (κ 18 d), pu_nf (pu_tag (κ 18 d)), pu_dev y.2 κ d) := rfl
  rw [e, if_pos (by rw [ht]; exact List.mem_singleton.mpr rfl)]
  simp [pu_dev, pu_own, ht]
theorem cd2_g0 (ho : pu_on y 3 d) (ht : pu_tag (κ 18 d) = 2) : jk_get [2] 0 k L (.inr (some (y.2 3 d)) :: S) (pu_H y κ σ g) = k L (.inl (κ 18 d) :: S) (pu_H y κ σ g) := by
  unfold jk_get
  simp only [pu_get ho (by decide)]
  have e : pu_cell y.2 κ σ 3 d = (pu_tag (κ 18 d), pu_nf (pu_tag (κ 18 d)), pu_dev y.2 κ d) := rfl
  rw [e, if_pos (by rw [ht]; exact List.mem_singleton.mpr rfl)]
  simp [pu_dev, pu_own, ht]
theorem cd2_g1 (ho : pu_on y 3 d) (ht : pu_tag (κ 18 d) = 2) : jk_get [2] 1 k L (.inr (some (y.2 3 d)) :: S) (pu_H y κ σ g) = k L (.inl d :: S) (pu_H y κ σ g) := by
  unfold jk_get
  simp only [pu_get ho (by decide)]
  have e : pu_cell y.2 κ σ 3 d = (pu_tag (κ 18 d), pu_nf (pu_tag (κ 18 d)), pu_dev y.2 κ d) := rfl
  rw [e, if_pos (by rw [ht]; exact List.mem_singleton.mpr rfl)]
  simp [pu_dev, pu_own, ht]
theorem cd2_g2 (ho : pu_on y 3 d) (ht : pu_tag (κ 18 d) = 2) : jk_get [2] 2 k L (.inr (some (y.2 3 d)) :: S) (pu_H y κ σ g) = k L (.inl (κ 21 d) :: S) (pu_H y κ σ g) := by
  unfold jk_get
  simp only [pu_get ho (by decide)]
  have e : pu_cell y.2 κ σ 3 d = (pu_tag (κ 18 d), pu_nf (pu_tag (κ 18 d)), pu_dev y.2 κ d) := rfl
  rw [e, if_pos (by rw [ht]; exact List.mem_singleton.mpr rfl)]
  simp [pu_dev, pu_own, ht]
theorem cd2_g3 (ho : pu_on y 3 d) (ht : pu_tag (κ 18 d) = 2) : jk_get [2] 3 k L (.inr (some (y.2 3 d)) :: S) (pu_H y κ σ g) = k L (.inl (κ 20 d) :: S) (pu_H y κ σ g) := by
  unfold jk_get
  simp only [pu_get ho (by decide)]
  have e : pu_cell y.2 κ σ 3 d = (pu_tag (κ 18 d), pu_nf (pu_tag (κ 18 d)), pu_dev y.2 κ d) := rfl
  rw [e, if_pos (by rw [ht]; exact List.mem_singleton.mpr rfl)]
  simp [pu_dev, pu_own, ht]
theorem cd2_g4 (ho : pu_on y 3 d) (ht : pu_tag (κ 18 d) = 2) : jk_get [2] 4 k L (.inr (some (y.2 3 d)) :: S) (pu_H y κ σ g) = k L (.inr (some (y.2 4 d)) :: S) (pu_H y κ σ g) := by
  unfold jk_get
  simp only [pu_get ho (by decide)]
  have e : pu_cell y.2 κ σ 3 d = (pu_tag (κ 18 d), pu_nf (pu_tag (κ 18 d)), pu_dev y.2 κ d) := rfl
  rw [e, if_pos (by rw [ht]; exact List.mem_singleton.mpr rfl)]
  simp [pu_dev, pu_own, ht]
theorem cd2_g5 (ho : pu_on y 3 d) (ht : pu_tag (κ 18 d) = 2) : jk_get [2] 5 k L (.inr (some (y.2 3 d)) :: S) (pu_H y κ σ g) = k L (.inl (κ 23 d) :: S) (pu_H y κ σ g) := by
  unfold jk_get
  simp only [pu_get ho (by decide)]
  have e : pu_cell y.2 κ σ 3 d = (pu_tag (κ 18 d), pu_nf (pu_tag (κ 18 d)), pu_dev y.2 κ d) := rfl
  rw [e, if_pos (by rw [ht]; exact List.mem_singleton.mpr rfl)]
  simp [pu_dev, pu_own, ht]
theorem cd2_g6 (ho : pu_on y 3 d) (ht : pu_tag (κ 18 d) = 2) : jk_get [2] 6 k L (.inr (some (y.2 3 d)) :: S) (pu_H y κ σ g) = k L (.inr (some (y.2 5 d)) :: S) (pu_H y κ σ g) := by
  unfold jk_get
  simp only [pu_get ho (by decide)]
  have e : pu_cell y.2 κ σ 3 d = (pu_tag (κ 18 d), pu_nf (pu_tag (κ 18 d)), pu_dev y.2 κ d) := rfl
  rw [e, if_pos (by rw [ht]; exact List.mem_singleton.mpr rfl)]
  simp [pu_dev, pu_own, ht]
theorem cd2_g7 (ho : pu_on y 3 d) (ht : pu_tag (κ 18 d) = 2) : jk_get [2] 7 k L (.inr (some (y.2 3 d)) :: S) (pu_H y κ σ g) = k L (.inl (κ 34 d) :: S) (pu_H y κ σ g) := by
  unfold jk_get
  simp only [pu_get ho (by decide)]
  have e : pu_cell y.2 κ σ 3 d = (pu_tag (κ 18 d), pu_nf (pu_tag (κ 18 d)), pu_dev y.2 κ d) := rfl
  rw [e, if_pos (by rw [ht]; exact List.mem_singleton.mpr rfl)]
  simp [pu_dev, pu_own, ht]
theorem cd3_g0 (ho : pu_on y 3 d) (ht : pu_tag (κ 18 d) = 3) : jk_get [3] 0 k L (.inr (some (y.2 3 d)) :: S) (pu_H y κ σ g) = k L (.inl (κ 18 d) :: S) (pu_H y κ σ g) := by
  unfold jk_get
  simp only [pu_get ho (by decide)]
  have e : pu_cell y.2 κ σ 3 d = (pu_tag (κ 18 d), pu_nf (pu_tag (κ 18 d)), pu_dev y.2 κ d) := rfl
  rw [e, if_pos (by rw [ht]; exact List.mem_singleton.mpr rfl)]
  simp [pu_dev, pu_own, ht]
theorem cd3_g1 (ho : pu_on y 3 d) (ht : pu_tag (κ 18 d) = 3) : jk_get [3] 1 k L (.inr (some (y.2 3 d)) :: S) (pu_H y κ σ g) = k L (.inl d :: S) (pu_H y κ σ g) := by
  unfold jk_get
  simp only [pu_get ho (by decide)]
  have e : pu_cell y.2 κ σ 3 d = (pu_tag (κ 18 d), pu_nf (pu_tag (κ 18 d)), pu_dev y.2 κ d) := rfl
  rw [e, if_pos (by rw [ht]; exact List.mem_singleton.mpr rfl)]
  simp [pu_dev, pu_own, ht]
theorem cd3_g2 (ho : pu_on y 3 d) (ht : pu_tag (κ 18 d) = 3) : jk_get [3] 2 k L (.inr (some (y.2 3 d)) :: S) (pu_H y κ σ g) = k L (.inl (κ 21 d) :: S) (pu_H y κ σ g) := by
  unfold jk_get
  simp only [pu_get ho (by decide)]
  have e : pu_cell y.2 κ σ 3 d = (pu_tag (κ 18 d), pu_nf (pu_tag (κ 18 d)), pu_dev y.2 κ d) := rfl
  rw [e, if_pos (by rw [ht]; exact List.mem_singleton.mpr rfl)]
  simp [pu_dev, pu_own, ht]
theorem cd3_g3 (ho : pu_on y 3 d) (ht : pu_tag (κ 18 d) = 3) : jk_get [3] 3 k L (.inr (some (y.2 3 d)) :: S) (pu_H y κ σ g) = k L (.inl (κ 20 d) :: S) (pu_H y κ σ g) := by
  unfold jk_get
  simp only [pu_get ho (by decide)]
  have e : pu_cell y.2 κ σ 3 d = (pu_tag (κ 18 d), pu_nf (pu_tag (κ 18 d)), pu_dev y.2 κ d) := rfl
  rw [e, if_pos (by rw [ht]; exact List.mem_singleton.mpr rfl)]
  simp [pu_dev, pu_own, ht]
theorem cd3_g4 (ho : pu_on y 3 d) (ht : pu_tag (κ 18 d) = 3) : jk_get [3] 4 k L (.inr (some (y.2 3 d)) :: S) (pu_H y κ σ g) = k L (.inr (some (y.2 4 d)) :: S) (pu_H y κ σ g) := by
  unfold jk_get
  simp only [pu_get ho (by decide)]
  have e : pu_cell y.2 κ σ 3 d = (pu_tag (κ 18 d), pu_nf (pu_tag (κ 18 d)), pu_dev y.2 κ d) := rfl
  rw [e, if_pos (by rw [ht]; exact List.mem_singleton.mpr rfl)]
  simp [pu_dev, pu_own, ht]
theorem cd3_g5 (ho : pu_on y 3 d) (ht : pu_tag (κ 18 d) = 3) : jk_get [3] 5 k L (.inr (some (y.2 3 d)) :: S) (pu_H y κ σ g) = k L (.inl (κ 23 d) :: S) (pu_H y κ σ g) := by
  unfold jk_get
  simp only [pu_get ho (by decide)]
  have e : pu_cell y.2 κ σ 3 d = (pu_tag (κ 18 d), pu_nf (pu_tag (κ 18 d)), pu_dev y.2 κ d) := rfl
  rw [e, if_pos (by rw [ht]; exact List.mem_singleton.mpr rfl)]
  simp [pu_dev, pu_own, ht]
theorem cd3_g6 (ho : pu_on y 3 d) (ht : pu_tag (κ 18 d) = 3) : jk_get [3] 6 k L (.inr (some (y.2 3 d)) :: S) (pu_H y κ σ g) = k L (.inr (some (y.2 5 d)) :: S) (pu_H y κ σ g) := by
  unfold jk_get
  simp only [pu_get ho (by decide)]
  have e : pu_cell y.2 κ σ 3 d = (pu_tag (κ 18 d), pu_nf (pu_tag (κ 18 d)), pu_dev y.2 κ d) := rfl
  rw [e, if_pos (by rw [ht]; exact List.mem_singleton.mpr rfl)]
  simp [pu_dev, pu_own, ht]
theorem cd3_g7 (ho : pu_on y 3 d) (ht : pu_tag (κ 18 d) = 3) : jk_get [3] 7 k L (.inr (some (y.2 3 d)) :: S) (pu_H y κ σ g) = k L (.inl (κ 34 d) :: S) (pu_H y κ σ g) := by
  unfold jk_get
  simp only [pu_get ho (by decide)]
  have e : pu_cell y.2 κ σ 3 d = (pu_tag (κ 18 d), pu_nf (pu_tag (κ 18 d)), pu_dev y.2 κ d) := rfl
  rw [e, if_pos (by rw [ht]; exact List.mem_singleton.mpr rfl)]
  simp [pu_dev, pu_own, ht]
theorem cd3_g8 (ho : pu_on y 3 d) (ht : pu_tag (κ 18 d) = 3) : jk_get [3] 8 k L (.inr (some (y.2 3 d)) :: S) (pu_H y κ σ g) = k L (.inl (κ 19 d) :: S) (pu_H y κ σ g) := by
  unfold jk_get
  simp only [pu_get ho (by decide)]
  have e : pu_cell y.2 κ σ 3 d = (pu_tag (κ 18 d), pu_nf (pu_tag (κ 18 d)), pu_dev y.2 κ d) := rfl
  rw [e, if_pos (by rw [ht]; exact List.mem_singleton.mpr rfl)]
  simp [pu_dev, pu_own, ht]
theorem cd3_g9 (ho : pu_on y 3 d) (ht : pu_tag (κ 18 d) = 3) : jk_get [3] 9 k L (.inr (some (y.2 3 d)) :: S) (pu_H y κ σ g) = k L (.inr (some (y.2 6 d)) :: S) (pu_H y κ σ g) := by
  unfold jk_get
  simp only [pu_get ho (by decide)]
  have e : pu_cell y.2 κ σ 3 d = (pu_tag (κ 18 d), pu_nf (pu_tag (κ 18 d)), pu_dev y.2 κ d) := rfl
  rw [e, if_pos (by rw [ht]; exact List.mem_singleton.mpr rfl)]
  simp [pu_dev, pu_own, ht]
theorem cd3_g10 (ho : pu_on y 3 d) (ht : pu_tag (κ 18 d) = 3) : jk_get [3] 10 k L (.inr (some (y.2 3 d)) :: S) (pu_H y κ σ g) = k L (.inl (κ 24 d) :: S) (pu_H y κ σ g) := by
  unfold jk_get
  simp only [pu_get ho (by decide)]
  have e : pu_cell y.2 κ σ 3 d = (pu_tag (κ 18 d), pu_nf (pu_tag (κ 18 d)), pu_dev y.2 κ d) := rfl
  rw [e, if_pos (by rw [ht]; exact List.mem_singleton.mpr rfl)]
  simp [pu_dev, pu_own, ht]
theorem cd4_g0 (ho : pu_on y 3 d) (ht : pu_tag (κ 18 d) = 4) : jk_get [4] 0 k L (.inr (some (y.2 3 d)) :: S) (pu_H y κ σ g) = k L (.inl (κ 18 d) :: S) (pu_H y κ σ g) := by
  unfold jk_get
  simp only [pu_get ho (by decide)]
  have e : pu_cell y.2 κ σ 3 d = (pu_tag (κ 18 d), pu_nf (pu_tag (κ 18 d)), pu_dev y.2 κ d) := rfl
  rw [e, if_pos (by rw [ht]; exact List.mem_singleton.mpr rfl)]
  simp [pu_dev, pu_own, ht]
theorem cd4_g1 (ho : pu_on y 3 d) (ht : pu_tag (κ 18 d) = 4) : jk_get [4] 1 k L (.inr (some (y.2 3 d)) :: S) (pu_H y κ σ g) = k L (.inl d :: S) (pu_H y κ σ g) := by
  unfold jk_get
  simp only [pu_get ho (by decide)]
  have e : pu_cell y.2 κ σ 3 d = (pu_tag (κ 18 d), pu_nf (pu_tag (κ 18 d)), pu_dev y.2 κ d) := rfl
  rw [e, if_pos (by rw [ht]; exact List.mem_singleton.mpr rfl)]
  simp [pu_dev, pu_own, ht]
theorem cd4_g2 (ho : pu_on y 3 d) (ht : pu_tag (κ 18 d) = 4) : jk_get [4] 2 k L (.inr (some (y.2 3 d)) :: S) (pu_H y κ σ g) = k L (.inl (κ 21 d) :: S) (pu_H y κ σ g) := by
  unfold jk_get
  simp only [pu_get ho (by decide)]
  have e : pu_cell y.2 κ σ 3 d = (pu_tag (κ 18 d), pu_nf (pu_tag (κ 18 d)), pu_dev y.2 κ d) := rfl
  rw [e, if_pos (by rw [ht]; exact List.mem_singleton.mpr rfl)]
  simp [pu_dev, pu_own, ht]
theorem cd4_g3 (ho : pu_on y 3 d) (ht : pu_tag (κ 18 d) = 4) : jk_get [4] 3 k L (.inr (some (y.2 3 d)) :: S) (pu_H y κ σ g) = k L (.inl (κ 20 d) :: S) (pu_H y κ σ g) := by
  unfold jk_get
  simp only [pu_get ho (by decide)]
  have e : pu_cell y.2 κ σ 3 d = (pu_tag (κ 18 d), pu_nf (pu_tag (κ 18 d)), pu_dev y.2 κ d) := rfl
  rw [e, if_pos (by rw [ht]; exact List.mem_singleton.mpr rfl)]
  simp [pu_dev, pu_own, ht]
theorem cd4_g4 (ho : pu_on y 3 d) (ht : pu_tag (κ 18 d) = 4) : jk_get [4] 4 k L (.inr (some (y.2 3 d)) :: S) (pu_H y κ σ g) = k L (.inr (some (y.2 4 d)) :: S) (pu_H y κ σ g) := by
  unfold jk_get
  simp only [pu_get ho (by decide)]
  have e : pu_cell y.2 κ σ 3 d = (pu_tag (κ 18 d), pu_nf (pu_tag (κ 18 d)), pu_dev y.2 κ d) := rfl
  rw [e, if_pos (by rw [ht]; exact List.mem_singleton.mpr rfl)]
  simp [pu_dev, pu_own, ht]
theorem cd4_g5 (ho : pu_on y 3 d) (ht : pu_tag (κ 18 d) = 4) : jk_get [4] 5 k L (.inr (some (y.2 3 d)) :: S) (pu_H y κ σ g) = k L (.inl (κ 23 d) :: S) (pu_H y κ σ g) := by
  unfold jk_get
  simp only [pu_get ho (by decide)]
  have e : pu_cell y.2 κ σ 3 d = (pu_tag (κ 18 d), pu_nf (pu_tag (κ 18 d)), pu_dev y.2 κ d) := rfl
  rw [e, if_pos (by rw [ht]; exact List.mem_singleton.mpr rfl)]
  simp [pu_dev, pu_own, ht]
theorem cd4_g6 (ho : pu_on y 3 d) (ht : pu_tag (κ 18 d) = 4) : jk_get [4] 6 k L (.inr (some (y.2 3 d)) :: S) (pu_H y κ σ g) = k L (.inr (some (y.2 5 d)) :: S) (pu_H y κ σ g) := by
  unfold jk_get
  simp only [pu_get ho (by decide)]
  have e : pu_cell y.2 κ σ 3 d = (pu_tag (κ 18 d), pu_nf (pu_tag (κ 18 d)), pu_dev y.2 κ d) := rfl
  rw [e, if_pos (by rw [ht]; exact List.mem_singleton.mpr rfl)]
  simp [pu_dev, pu_own, ht]
theorem cd4_g7 (ho : pu_on y 3 d) (ht : pu_tag (κ 18 d) = 4) : jk_get [4] 7 k L (.inr (some (y.2 3 d)) :: S) (pu_H y κ σ g) = k L (.inl (κ 34 d) :: S) (pu_H y κ σ g) := by
  unfold jk_get
  simp only [pu_get ho (by decide)]
  have e : pu_cell y.2 κ σ 3 d = (pu_tag (κ 18 d), pu_nf (pu_tag (κ 18 d)), pu_dev y.2 κ d) := rfl
  rw [e, if_pos (by rw [ht]; exact List.mem_singleton.mpr rfl)]
  simp [pu_dev, pu_own, ht]
theorem cd4_g8 (ho : pu_on y 3 d) (ht : pu_tag (κ 18 d) = 4) : jk_get [4] 8 k L (.inr (some (y.2 3 d)) :: S) (pu_H y κ σ g) = k L (.inr (some (y.2 6 d)) :: S) (pu_H y κ σ g) := by
  unfold jk_get
  simp only [pu_get ho (by decide)]
  have e : pu_cell y.2 κ σ 3 d = (pu_tag (κ 18 d), pu_nf (pu_tag (κ 18 d)), pu_dev y.2 κ d) := rfl
  rw [e, if_pos (by rw [ht]; exact List.mem_singleton.mpr rfl)]
  simp [pu_dev, pu_own, ht]
theorem cd4_g9 (ho : pu_on y 3 d) (ht : pu_tag (κ 18 d) = 4) : jk_get [4] 9 k L (.inr (some (y.2 3 d)) :: S) (pu_H y κ σ g) = k L (.inl (κ 43 d) :: S) (pu_H y κ σ g) := by
  unfold jk_get
  simp only [pu_get ho (by decide)]
  have e : pu_cell y.2 κ σ 3 d = (pu_tag (κ 18 d), pu_nf (pu_tag (κ 18 d)), pu_dev y.2 κ d) := rfl
  rw [e, if_pos (by rw [ht]; exact List.mem_singleton.mpr rfl)]
  simp [pu_dev, pu_own, ht]
theorem cd4_g10 (ho : pu_on y 3 d) (ht : pu_tag (κ 18 d) = 4) : jk_get [4] 10 k L (.inr (some (y.2 3 d)) :: S) (pu_H y κ σ g) = k L (.inl (κ 26 d) :: S) (pu_H y κ σ g) := by
  unfold jk_get
  simp only [pu_get ho (by decide)]
  have e : pu_cell y.2 κ σ 3 d = (pu_tag (κ 18 d), pu_nf (pu_tag (κ 18 d)), pu_dev y.2 κ d) := rfl
  rw [e, if_pos (by rw [ht]; exact List.mem_singleton.mpr rfl)]
  simp [pu_dev, pu_own, ht]
theorem cd5_g0 (ho : pu_on y 3 d) (ht : pu_tag (κ 18 d) = 5) : jk_get [5] 0 k L (.inr (some (y.2 3 d)) :: S) (pu_H y κ σ g) = k L (.inl (κ 18 d) :: S) (pu_H y κ σ g) := by
  unfold jk_get
  simp only [pu_get ho (by decide)]
  have e : pu_cell y.2 κ σ 3 d = (pu_tag (κ 18 d), pu_nf (pu_tag (κ 18 d)), pu_dev y.2 κ d) := rfl
  rw [e, if_pos (by rw [ht]; exact List.mem_singleton.mpr rfl)]
  simp [pu_dev, pu_own, ht]
theorem cd5_g1 (ho : pu_on y 3 d) (ht : pu_tag (κ 18 d) = 5) : jk_get [5] 1 k L (.inr (some (y.2 3 d)) :: S) (pu_H y κ σ g) = k L (.inl d :: S) (pu_H y κ σ g) := by
  unfold jk_get
  simp only [pu_get ho (by decide)]
  have e : pu_cell y.2 κ σ 3 d = (pu_tag (κ 18 d), pu_nf (pu_tag (κ 18 d)), pu_dev y.2 κ d) := rfl
  rw [e, if_pos (by rw [ht]; exact List.mem_singleton.mpr rfl)]
  simp [pu_dev, pu_own, ht]
theorem cd5_g2 (ho : pu_on y 3 d) (ht : pu_tag (κ 18 d) = 5) : jk_get [5] 2 k L (.inr (some (y.2 3 d)) :: S) (pu_H y κ σ g) = k L (.inl (κ 21 d) :: S) (pu_H y κ σ g) := by
  unfold jk_get
  simp only [pu_get ho (by decide)]
  have e : pu_cell y.2 κ σ 3 d = (pu_tag (κ 18 d), pu_nf (pu_tag (κ 18 d)), pu_dev y.2 κ d) := rfl
  rw [e, if_pos (by rw [ht]; exact List.mem_singleton.mpr rfl)]
  simp [pu_dev, pu_own, ht]
theorem cd5_g3 (ho : pu_on y 3 d) (ht : pu_tag (κ 18 d) = 5) : jk_get [5] 3 k L (.inr (some (y.2 3 d)) :: S) (pu_H y κ σ g) = k L (.inl (κ 20 d) :: S) (pu_H y κ σ g) := by
  unfold jk_get
  simp only [pu_get ho (by decide)]
  have e : pu_cell y.2 κ σ 3 d = (pu_tag (κ 18 d), pu_nf (pu_tag (κ 18 d)), pu_dev y.2 κ d) := rfl
  rw [e, if_pos (by rw [ht]; exact List.mem_singleton.mpr rfl)]
  simp [pu_dev, pu_own, ht]
theorem cd5_g4 (ho : pu_on y 3 d) (ht : pu_tag (κ 18 d) = 5) : jk_get [5] 4 k L (.inr (some (y.2 3 d)) :: S) (pu_H y κ σ g) = k L (.inr (some (y.2 4 d)) :: S) (pu_H y κ σ g) := by
  unfold jk_get
  simp only [pu_get ho (by decide)]
  have e : pu_cell y.2 κ σ 3 d = (pu_tag (κ 18 d), pu_nf (pu_tag (κ 18 d)), pu_dev y.2 κ d) := rfl
  rw [e, if_pos (by rw [ht]; exact List.mem_singleton.mpr rfl)]
  simp [pu_dev, pu_own, ht]
theorem cd5_g5 (ho : pu_on y 3 d) (ht : pu_tag (κ 18 d) = 5) : jk_get [5] 5 k L (.inr (some (y.2 3 d)) :: S) (pu_H y κ σ g) = k L (.inl (κ 23 d) :: S) (pu_H y κ σ g) := by
  unfold jk_get
  simp only [pu_get ho (by decide)]
  have e : pu_cell y.2 κ σ 3 d = (pu_tag (κ 18 d), pu_nf (pu_tag (κ 18 d)), pu_dev y.2 κ d) := rfl
  rw [e, if_pos (by rw [ht]; exact List.mem_singleton.mpr rfl)]
  simp [pu_dev, pu_own, ht]
theorem cd5_g6 (ho : pu_on y 3 d) (ht : pu_tag (κ 18 d) = 5) : jk_get [5] 6 k L (.inr (some (y.2 3 d)) :: S) (pu_H y κ σ g) = k L (.inr (some (y.2 5 d)) :: S) (pu_H y κ σ g) := by
  unfold jk_get
  simp only [pu_get ho (by decide)]
  have e : pu_cell y.2 κ σ 3 d = (pu_tag (κ 18 d), pu_nf (pu_tag (κ 18 d)), pu_dev y.2 κ d) := rfl
  rw [e, if_pos (by rw [ht]; exact List.mem_singleton.mpr rfl)]
  simp [pu_dev, pu_own, ht]
theorem cd5_g7 (ho : pu_on y 3 d) (ht : pu_tag (κ 18 d) = 5) : jk_get [5] 7 k L (.inr (some (y.2 3 d)) :: S) (pu_H y κ σ g) = k L (.inl (κ 34 d) :: S) (pu_H y κ σ g) := by
  unfold jk_get
  simp only [pu_get ho (by decide)]
  have e : pu_cell y.2 κ σ 3 d = (pu_tag (κ 18 d), pu_nf (pu_tag (κ 18 d)), pu_dev y.2 κ d) := rfl
  rw [e, if_pos (by rw [ht]; exact List.mem_singleton.mpr rfl)]
  simp [pu_dev, pu_own, ht]
theorem cd5_g8 (ho : pu_on y 3 d) (ht : pu_tag (κ 18 d) = 5) : jk_get [5] 8 k L (.inr (some (y.2 3 d)) :: S) (pu_H y κ σ g) = k L (.inr (some (y.2 6 d)) :: S) (pu_H y κ σ g) := by
  unfold jk_get
  simp only [pu_get ho (by decide)]
  have e : pu_cell y.2 κ σ 3 d = (pu_tag (κ 18 d), pu_nf (pu_tag (κ 18 d)), pu_dev y.2 κ d) := rfl
  rw [e, if_pos (by rw [ht]; exact List.mem_singleton.mpr rfl)]
  simp [pu_dev, pu_own, ht]
theorem cd5_g9 (ho : pu_on y 3 d) (ht : pu_tag (κ 18 d) = 5) : jk_get [5] 9 k L (.inr (some (y.2 3 d)) :: S) (pu_H y κ σ g) = k L (.inl (κ 26 d) :: S) (pu_H y κ σ g) := by
  unfold jk_get
  simp only [pu_get ho (by decide)]
  have e : pu_cell y.2 κ σ 3 d = (pu_tag (κ 18 d), pu_nf (pu_tag (κ 18 d)), pu_dev y.2 κ d) := rfl
  rw [e, if_pos (by rw [ht]; exact List.mem_singleton.mpr rfl)]
  simp [pu_dev, pu_own, ht]
theorem cd6_g0 (ho : pu_on y 3 d) (ht : pu_tag (κ 18 d) = 6) : jk_get [6] 0 k L (.inr (some (y.2 3 d)) :: S) (pu_H y κ σ g) = k L (.inl (κ 18 d) :: S) (pu_H y κ σ g) := by
  unfold jk_get
  simp only [pu_get ho (by decide)]
  have e : pu_cell y.2 κ σ 3 d = (pu_tag (κ 18 d), pu_nf (pu_tag (κ 18 d)), pu_dev y.2 κ d) := rfl
  rw [e, if_pos (by rw [ht]; exact List.mem_singleton.mpr rfl)]
  simp [pu_dev, pu_own, ht]
theorem cd6_g1 (ho : pu_on y 3 d) (ht : pu_tag (κ 18 d) = 6) : jk_get [6] 1 k L (.inr (some (y.2 3 d)) :: S) (pu_H y κ σ g) = k L (.inl d :: S) (pu_H y κ σ g) := by
  unfold jk_get
  simp only [pu_get ho (by decide)]
  have e : pu_cell y.2 κ σ 3 d = (pu_tag (κ 18 d), pu_nf (pu_tag (κ 18 d)), pu_dev y.2 κ d) := rfl
  rw [e, if_pos (by rw [ht]; exact List.mem_singleton.mpr rfl)]
  simp [pu_dev, pu_own, ht]
theorem cd6_g2 (ho : pu_on y 3 d) (ht : pu_tag (κ 18 d) = 6) : jk_get [6] 2 k L (.inr (some (y.2 3 d)) :: S) (pu_H y κ σ g) = k L (.inl (κ 21 d) :: S) (pu_H y κ σ g) := by
  unfold jk_get
  simp only [pu_get ho (by decide)]
  have e : pu_cell y.2 κ σ 3 d = (pu_tag (κ 18 d), pu_nf (pu_tag (κ 18 d)), pu_dev y.2 κ d) := rfl
  rw [e, if_pos (by rw [ht]; exact List.mem_singleton.mpr rfl)]
  simp [pu_dev, pu_own, ht]
theorem cd6_g3 (ho : pu_on y 3 d) (ht : pu_tag (κ 18 d) = 6) : jk_get [6] 3 k L (.inr (some (y.2 3 d)) :: S) (pu_H y κ σ g) = k L (.inl (κ 20 d) :: S) (pu_H y κ σ g) := by
  unfold jk_get
  simp only [pu_get ho (by decide)]
  have e : pu_cell y.2 κ σ 3 d = (pu_tag (κ 18 d), pu_nf (pu_tag (κ 18 d)), pu_dev y.2 κ d) := rfl
  rw [e, if_pos (by rw [ht]; exact List.mem_singleton.mpr rfl)]
  simp [pu_dev, pu_own, ht]
theorem cd6_g4 (ho : pu_on y 3 d) (ht : pu_tag (κ 18 d) = 6) : jk_get [6] 4 k L (.inr (some (y.2 3 d)) :: S) (pu_H y κ σ g) = k L (.inr (some (y.2 4 d)) :: S) (pu_H y κ σ g) := by
  unfold jk_get
  simp only [pu_get ho (by decide)]
  have e : pu_cell y.2 κ σ 3 d = (pu_tag (κ 18 d), pu_nf (pu_tag (κ 18 d)), pu_dev y.2 κ d) := rfl
  rw [e, if_pos (by rw [ht]; exact List.mem_singleton.mpr rfl)]
  simp [pu_dev, pu_own, ht]
theorem cd6_g5 (ho : pu_on y 3 d) (ht : pu_tag (κ 18 d) = 6) : jk_get [6] 5 k L (.inr (some (y.2 3 d)) :: S) (pu_H y κ σ g) = k L (.inl (κ 23 d) :: S) (pu_H y κ σ g) := by
  unfold jk_get
  simp only [pu_get ho (by decide)]
  have e : pu_cell y.2 κ σ 3 d = (pu_tag (κ 18 d), pu_nf (pu_tag (κ 18 d)), pu_dev y.2 κ d) := rfl
  rw [e, if_pos (by rw [ht]; exact List.mem_singleton.mpr rfl)]
  simp [pu_dev, pu_own, ht]
theorem cd6_g6 (ho : pu_on y 3 d) (ht : pu_tag (κ 18 d) = 6) : jk_get [6] 6 k L (.inr (some (y.2 3 d)) :: S) (pu_H y κ σ g) = k L (.inr (some (y.2 5 d)) :: S) (pu_H y κ σ g) := by
  unfold jk_get
  simp only [pu_get ho (by decide)]
  have e : pu_cell y.2 κ σ 3 d = (pu_tag (κ 18 d), pu_nf (pu_tag (κ 18 d)), pu_dev y.2 κ d) := rfl
  rw [e, if_pos (by rw [ht]; exact List.mem_singleton.mpr rfl)]
  simp [pu_dev, pu_own, ht]
theorem cd6_g7 (ho : pu_on y 3 d) (ht : pu_tag (κ 18 d) = 6) : jk_get [6] 7 k L (.inr (some (y.2 3 d)) :: S) (pu_H y κ σ g) = k L (.inl (κ 34 d) :: S) (pu_H y κ σ g) := by
  unfold jk_get
  simp only [pu_get ho (by decide)]
  have e : pu_cell y.2 κ σ 3 d = (pu_tag (κ 18 d), pu_nf (pu_tag (κ 18 d)), pu_dev y.2 κ d) := rfl
  rw [e, if_pos (by rw [ht]; exact List.mem_singleton.mpr rfl)]
  simp [pu_dev, pu_own, ht]
theorem cd6_g8 (ho : pu_on y 3 d) (ht : pu_tag (κ 18 d) = 6) : jk_get [6] 8 k L (.inr (some (y.2 3 d)) :: S) (pu_H y κ σ g) = k L (.inl (κ 24 d) :: S) (pu_H y κ σ g) := by
  unfold jk_get
  simp only [pu_get ho (by decide)]
  have e : pu_cell y.2 κ σ 3 d = (pu_tag (κ 18 d), pu_nf (pu_tag (κ 18 d)), pu_dev y.2 κ d) := rfl
  rw [e, if_pos (by rw [ht]; exact List.mem_singleton.mpr rfl)]
  simp [pu_dev, pu_own, ht]
theorem cd7_g0 (ho : pu_on y 3 d) (ht : pu_tag (κ 18 d) = 7) : jk_get [7] 0 k L (.inr (some (y.2 3 d)) :: S) (pu_H y κ σ g) = k L (.inl (κ 18 d) :: S) (pu_H y κ σ g) := by
  unfold jk_get
  simp only [pu_get ho (by decide)]
  have e : pu_cell y.2 κ σ 3 d = (pu_tag (κ 18 d), pu_nf (pu_tag (κ 18 d)), pu_dev y.2 κ d) := rfl
  rw [e, if_pos (by rw [ht]; exact List.mem_singleton.mpr rfl)]
  simp [pu_dev, pu_own, ht]
theorem cd7_g1 (ho : pu_on y 3 d) (ht : pu_tag (κ 18 d) = 7) : jk_get [7] 1 k L (.inr (some (y.2 3 d)) :: S) (pu_H y κ σ g) = k L (.inl d :: S) (pu_H y κ σ g) := by
  unfold jk_get
  simp only [pu_get ho (by decide)]
  have e : pu_cell y.2 κ σ 3 d = (pu_tag (κ 18 d), pu_nf (pu_tag (κ 18 d)), pu_dev y.2 κ d) := rfl
  rw [e, if_pos (by rw [ht]; exact List.mem_singleton.mpr rfl)]
  simp [pu_dev, pu_own, ht]
theorem cd7_g2 (ho : pu_on y 3 d) (ht : pu_tag (κ 18 d) = 7) : jk_get [7] 2 k L (.inr (some (y.2 3 d)) :: S) (pu_H y κ σ g) = k L (.inl (κ 21 d) :: S) (pu_H y κ σ g) := by
  unfold jk_get
  simp only [pu_get ho (by decide)]
  have e : pu_cell y.2 κ σ 3 d = (pu_tag (κ 18 d), pu_nf (pu_tag (κ 18 d)), pu_dev y.2 κ d) := rfl
  rw [e, if_pos (by rw [ht]; exact List.mem_singleton.mpr rfl)]
  simp [pu_dev, pu_own, ht]
theorem cd7_g3 (ho : pu_on y 3 d) (ht : pu_tag (κ 18 d) = 7) : jk_get [7] 3 k L (.inr (some (y.2 3 d)) :: S) (pu_H y κ σ g) = k L (.inl (κ 20 d) :: S) (pu_H y κ σ g) := by
  unfold jk_get
  simp only [pu_get ho (by decide)]
  have e : pu_cell y.2 κ σ 3 d = (pu_tag (κ 18 d), pu_nf (pu_tag (κ 18 d)), pu_dev y.2 κ d) := rfl
  rw [e, if_pos (by rw [ht]; exact List.mem_singleton.mpr rfl)]
  simp [pu_dev, pu_own, ht]
theorem cd7_g4 (ho : pu_on y 3 d) (ht : pu_tag (κ 18 d) = 7) : jk_get [7] 4 k L (.inr (some (y.2 3 d)) :: S) (pu_H y κ σ g) = k L (.inr (some (y.2 4 d)) :: S) (pu_H y κ σ g) := by
  unfold jk_get
  simp only [pu_get ho (by decide)]
  have e : pu_cell y.2 κ σ 3 d = (pu_tag (κ 18 d), pu_nf (pu_tag (κ 18 d)), pu_dev y.2 κ d) := rfl
  rw [e, if_pos (by rw [ht]; exact List.mem_singleton.mpr rfl)]
  simp [pu_dev, pu_own, ht]
theorem cd7_g5 (ho : pu_on y 3 d) (ht : pu_tag (κ 18 d) = 7) : jk_get [7] 5 k L (.inr (some (y.2 3 d)) :: S) (pu_H y κ σ g) = k L (.inl (κ 23 d) :: S) (pu_H y κ σ g) := by
  unfold jk_get
  simp only [pu_get ho (by decide)]
  have e : pu_cell y.2 κ σ 3 d = (pu_tag (κ 18 d), pu_nf (pu_tag (κ 18 d)), pu_dev y.2 κ d) := rfl
  rw [e, if_pos (by rw [ht]; exact List.mem_singleton.mpr rfl)]
  simp [pu_dev, pu_own, ht]
theorem cd7_g6 (ho : pu_on y 3 d) (ht : pu_tag (κ 18 d) = 7) : jk_get [7] 6 k L (.inr (some (y.2 3 d)) :: S) (pu_H y κ σ g) = k L (.inr (some (y.2 5 d)) :: S) (pu_H y κ σ g) := by
  unfold jk_get
  simp only [pu_get ho (by decide)]
  have e : pu_cell y.2 κ σ 3 d = (pu_tag (κ 18 d), pu_nf (pu_tag (κ 18 d)), pu_dev y.2 κ d) := rfl
  rw [e, if_pos (by rw [ht]; exact List.mem_singleton.mpr rfl)]
  simp [pu_dev, pu_own, ht]
theorem cd7_g7 (ho : pu_on y 3 d) (ht : pu_tag (κ 18 d) = 7) : jk_get [7] 7 k L (.inr (some (y.2 3 d)) :: S) (pu_H y κ σ g) = k L (.inl (κ 34 d) :: S) (pu_H y κ σ g) := by
  unfold jk_get
  simp only [pu_get ho (by decide)]
  have e : pu_cell y.2 κ σ 3 d = (pu_tag (κ 18 d), pu_nf (pu_tag (κ 18 d)), pu_dev y.2 κ d) := rfl
  rw [e, if_pos (by rw [ht]; exact List.mem_singleton.mpr rfl)]
  simp [pu_dev, pu_own, ht]
theorem cd7_g8 (ho : pu_on y 3 d) (ht : pu_tag (κ 18 d) = 7) : jk_get [7] 8 k L (.inr (some (y.2 3 d)) :: S) (pu_H y κ σ g) = k L (.inr (some (y.2 6 d)) :: S) (pu_H y κ σ g) := by
  unfold jk_get
  simp only [pu_get ho (by decide)]
  have e : pu_cell y.2 κ σ 3 d = (pu_tag (κ 18 d), pu_nf (pu_tag (κ 18 d)), pu_dev y.2 κ d) := rfl
  rw [e, if_pos (by rw [ht]; exact List.mem_singleton.mpr rfl)]
  simp [pu_dev, pu_own, ht]
theorem cd7_g9 (ho : pu_on y 3 d) (ht : pu_tag (κ 18 d) = 7) : jk_get [7] 9 k L (.inr (some (y.2 3 d)) :: S) (pu_H y κ σ g) = k L (.inr (some (y.2 7 d)) :: S) (pu_H y κ σ g) := by
  unfold jk_get
  simp only [pu_get ho (by decide)]
  have e : pu_cell y.2 κ σ 3 d = (pu_tag (κ 18 d), pu_nf (pu_tag (κ 18 d)), pu_dev y.2 κ d) := rfl
  rw [e, if_pos (by rw [ht]; exact List.mem_singleton.mpr rfl)]
  simp [pu_dev, pu_own, ht]
theorem cd7_g10 (ho : pu_on y 3 d) (ht : pu_tag (κ 18 d) = 7) : jk_get [7] 10 k L (.inr (some (y.2 3 d)) :: S) (pu_H y κ σ g) = k L (.inl (κ 24 d) :: S) (pu_H y κ σ g) := by
  unfold jk_get
  simp only [pu_get ho (by decide)]
  have e : pu_cell y.2 κ σ 3 d = (pu_tag (κ 18 d), pu_nf (pu_tag (κ 18 d)), pu_dev y.2 κ d) := rfl
  rw [e, if_pos (by rw [ht]; exact List.mem_singleton.mpr rfl)]
  simp [pu_dev, pu_own, ht]
theorem cd8_g0 (ho : pu_on y 3 d) (ht : pu_tag (κ 18 d) = 8) : jk_get [8] 0 k L (.inr (some (y.2 3 d)) :: S) (pu_H y κ σ g) = k L (.inl (κ 18 d) :: S) (pu_H y κ σ g) := by
  unfold jk_get
  simp only [pu_get ho (by decide)]
  have e : pu_cell y.2 κ σ 3 d = (pu_tag (κ 18 d), pu_nf (pu_tag (κ 18 d)), pu_dev y.2 κ d) := rfl
  rw [e, if_pos (by rw [ht]; exact List.mem_singleton.mpr rfl)]
  simp [pu_dev, pu_own, ht]
theorem cd8_g1 (ho : pu_on y 3 d) (ht : pu_tag (κ 18 d) = 8) : jk_get [8] 1 k L (.inr (some (y.2 3 d)) :: S) (pu_H y κ σ g) = k L (.inl d :: S) (pu_H y κ σ g) := by
  unfold jk_get
  simp only [pu_get ho (by decide)]
  have e : pu_cell y.2 κ σ 3 d = (pu_tag (κ 18 d), pu_nf (pu_tag (κ 18 d)), pu_dev y.2 κ d) := rfl
  rw [e, if_pos (by rw [ht]; exact List.mem_singleton.mpr rfl)]
  simp [pu_dev, pu_own, ht]
theorem cd8_g2 (ho : pu_on y 3 d) (ht : pu_tag (κ 18 d) = 8) : jk_get [8] 2 k L (.inr (some (y.2 3 d)) :: S) (pu_H y κ σ g) = k L (.inl (κ 21 d) :: S) (pu_H y κ σ g) := by
  unfold jk_get
  simp only [pu_get ho (by decide)]
  have e : pu_cell y.2 κ σ 3 d = (pu_tag (κ 18 d), pu_nf (pu_tag (κ 18 d)), pu_dev y.2 κ d) := rfl
  rw [e, if_pos (by rw [ht]; exact List.mem_singleton.mpr rfl)]
  simp [pu_dev, pu_own, ht]
theorem cd8_g3 (ho : pu_on y 3 d) (ht : pu_tag (κ 18 d) = 8) : jk_get [8] 3 k L (.inr (some (y.2 3 d)) :: S) (pu_H y κ σ g) = k L (.inl (κ 20 d) :: S) (pu_H y κ σ g) := by
  unfold jk_get
  simp only [pu_get ho (by decide)]
  have e : pu_cell y.2 κ σ 3 d = (pu_tag (κ 18 d), pu_nf (pu_tag (κ 18 d)), pu_dev y.2 κ d) := rfl
  rw [e, if_pos (by rw [ht]; exact List.mem_singleton.mpr rfl)]
  simp [pu_dev, pu_own, ht]
theorem cd8_g4 (ho : pu_on y 3 d) (ht : pu_tag (κ 18 d) = 8) : jk_get [8] 4 k L (.inr (some (y.2 3 d)) :: S) (pu_H y κ σ g) = k L (.inr (some (y.2 4 d)) :: S) (pu_H y κ σ g) := by
  unfold jk_get
  simp only [pu_get ho (by decide)]
  have e : pu_cell y.2 κ σ 3 d = (pu_tag (κ 18 d), pu_nf (pu_tag (κ 18 d)), pu_dev y.2 κ d) := rfl
  rw [e, if_pos (by rw [ht]; exact List.mem_singleton.mpr rfl)]
  simp [pu_dev, pu_own, ht]
theorem cd8_g5 (ho : pu_on y 3 d) (ht : pu_tag (κ 18 d) = 8) : jk_get [8] 5 k L (.inr (some (y.2 3 d)) :: S) (pu_H y κ σ g) = k L (.inl (κ 23 d) :: S) (pu_H y κ σ g) := by
  unfold jk_get
  simp only [pu_get ho (by decide)]
  have e : pu_cell y.2 κ σ 3 d = (pu_tag (κ 18 d), pu_nf (pu_tag (κ 18 d)), pu_dev y.2 κ d) := rfl
  rw [e, if_pos (by rw [ht]; exact List.mem_singleton.mpr rfl)]
  simp [pu_dev, pu_own, ht]
theorem cd8_g6 (ho : pu_on y 3 d) (ht : pu_tag (κ 18 d) = 8) : jk_get [8] 6 k L (.inr (some (y.2 3 d)) :: S) (pu_H y κ σ g) = k L (.inr (some (y.2 5 d)) :: S) (pu_H y κ σ g) := by
  unfold jk_get
  simp only [pu_get ho (by decide)]
  have e : pu_cell y.2 κ σ 3 d = (pu_tag (κ 18 d), pu_nf (pu_tag (κ 18 d)), pu_dev y.2 κ d) := rfl
  rw [e, if_pos (by rw [ht]; exact List.mem_singleton.mpr rfl)]
  simp [pu_dev, pu_own, ht]
theorem cd8_g7 (ho : pu_on y 3 d) (ht : pu_tag (κ 18 d) = 8) : jk_get [8] 7 k L (.inr (some (y.2 3 d)) :: S) (pu_H y κ σ g) = k L (.inl (κ 34 d) :: S) (pu_H y κ σ g) := by
  unfold jk_get
  simp only [pu_get ho (by decide)]
  have e : pu_cell y.2 κ σ 3 d = (pu_tag (κ 18 d), pu_nf (pu_tag (κ 18 d)), pu_dev y.2 κ d) := rfl
  rw [e, if_pos (by rw [ht]; exact List.mem_singleton.mpr rfl)]
  simp [pu_dev, pu_own, ht]
theorem cd8_g9 (ho : pu_on y 3 d) (ht : pu_tag (κ 18 d) = 8) : jk_get [8] 9 k L (.inr (some (y.2 3 d)) :: S) (pu_H y κ σ g) = k L (.inl (κ 27 d) :: S) (pu_H y κ σ g) := by
  unfold jk_get
  simp only [pu_get ho (by decide)]
  have e : pu_cell y.2 κ σ 3 d = (pu_tag (κ 18 d), pu_nf (pu_tag (κ 18 d)), pu_dev y.2 κ d) := rfl
  rw [e, if_pos (by rw [ht]; exact List.mem_singleton.mpr rfl)]
  simp [pu_dev, pu_own, ht]
theorem cd8_g8a (ho : pu_on y 3 d) (hk : κ 18 d = 2 ∨ κ 18 d = 7) : jk_get [8] 8 k L (.inr (some (y.2 3 d)) :: S) (pu_H y κ σ g) = k L (.inl (κ 24 d) :: S) (pu_H y κ σ g) := by
  unfold jk_get
  simp only [pu_get ho (by decide)]
  have e : pu_cell y.2 κ σ 3 d = (pu_tag (κ 18 d), pu_nf (pu_tag (κ 18 d)), pu_dev y.2 κ d) := rfl
  have ht : pu_tag (κ 18 d) = 8 := by rcases hk with hk | hk <;> rw [hk] <;> rfl
  rw [e, if_pos (by rw [ht]; exact List.mem_singleton.mpr rfl)]
  rcases hk with hk | hk <;> simp [pu_dev, pu_own, hk, pu_tag]
theorem cd8_g8b (ho : pu_on y 3 d) (hk : κ 18 d = 8 ∨ κ 18 d = 10) : jk_get [8] 8 k L (.inr (some (y.2 3 d)) :: S) (pu_H y κ σ g) = k L (.inl (κ 25 d) :: S) (pu_H y κ σ g) := by
  unfold jk_get
  simp only [pu_get ho (by decide)]
  have e : pu_cell y.2 κ σ 3 d = (pu_tag (κ 18 d), pu_nf (pu_tag (κ 18 d)), pu_dev y.2 κ d) := rfl
  have ht : pu_tag (κ 18 d) = 8 := by rcases hk with hk | hk <;> rw [hk] <;> rfl
  rw [e, if_pos (by rw [ht]; exact List.mem_singleton.mpr rfl)]
  rcases hk with hk | hk <;> simp [pu_dev, pu_own, hk, pu_tag]
theorem cd_p2 (hy : pu_inv y) (ho : pu_on y 3 d) : jk_puti [1, 2, 3, 4, 5, 6, 7, 8] 2 k L (.inl v :: .inr (some (y.2 3 d)) :: S) (pu_H y κ σ g) = k L S (pu_H y (pu_up κ 21 d v) σ g) := by
  unfold jk_puti
  simp only [pu_get ho (by decide)]
  have e : ∀ κ : aS, pu_cell y.2 κ σ 3 d = (pu_tag (κ 18 d), pu_nf (pu_tag (κ 18 d)), pu_dev y.2 κ d) := fun _ => rfl
  have e18 : pu_up κ 21 d v 18 d = κ 18 d := pu_up_ne _ _ _ _ (by decide)
  rw [e, if_pos (pu_tag_mem _)]
  congr 1
  unfold jm_set
  refine pc_put ho (by decide) hy ?_ (fun r' i' hus => by have := pc_u21 hus; omega)
  rw [e, e18]
  congr 2
  funext j
  unfold jm_upd
  by_cases hj : j = 2
  · subst hj
    simp [pu_dev, pu_own, pu_up]
  · simp [pu_dev, pu_own, pu_up, hj]
theorem cd_p3 (hy : pu_inv y) (ho : pu_on y 3 d) (hz : v = 0 ∨ v = 1) : jk_putz [1, 2, 3, 4, 5, 6, 7, 8] 3 k L (.inl v :: .inr (some (y.2 3 d)) :: S) (pu_H y κ σ g) = k L S (pu_H y (pu_up κ 20 d v) σ g) := by
  unfold jk_putz
  simp only [pu_get ho (by decide)]
  have e : ∀ κ : aS, pu_cell y.2 κ σ 3 d = (pu_tag (κ 18 d), pu_nf (pu_tag (κ 18 d)), pu_dev y.2 κ d) := fun _ => rfl
  have e18 : pu_up κ 20 d v 18 d = κ 18 d := pu_up_ne _ _ _ _ (by decide)
  rw [e, if_pos ⟨pu_tag_mem _, hz⟩]
  congr 1
  unfold jm_set
  refine pc_put ho (by decide) hy ?_ (fun r' i' hus => by have := pc_u20 hus; omega)
  rw [e, e18]
  congr 2
  funext j
  unfold jm_upd
  by_cases hj : j = 3
  · subst hj
    simp [pu_dev, pu_own, pu_up]
  · simp [pu_dev, pu_own, pu_up, hj]
theorem cd_p5 (hy : pu_inv y) (ho : pu_on y 3 d) : jk_puti [1, 2, 3, 4, 5, 6, 7, 8] 5 k L (.inl v :: .inr (some (y.2 3 d)) :: S) (pu_H y κ σ g) = k L S (pu_H y (pu_up κ 23 d v) σ g) := by
  unfold jk_puti
  simp only [pu_get ho (by decide)]
  have e : ∀ κ : aS, pu_cell y.2 κ σ 3 d = (pu_tag (κ 18 d), pu_nf (pu_tag (κ 18 d)), pu_dev y.2 κ d) := fun _ => rfl
  have e18 : pu_up κ 23 d v 18 d = κ 18 d := pu_up_ne _ _ _ _ (by decide)
  rw [e, if_pos (pu_tag_mem _)]
  congr 1
  unfold jm_set
  refine pc_put ho (by decide) hy ?_ (fun r' i' hus => by have := pc_u23 hus; omega)
  rw [e, e18]
  congr 2
  funext j
  unfold jm_upd
  by_cases hj : j = 5
  · subst hj
    simp [pu_dev, pu_own, pu_up]
  · simp [pu_dev, pu_own, pu_up, hj]
theorem cd_p7 (hy : pu_inv y) (ho : pu_on y 3 d) : jk_puti [1, 2, 3, 4, 5, 6, 7, 8] 7 k L (.inl v :: .inr (some (y.2 3 d)) :: S) (pu_H y κ σ g) = k L S (pu_H y (pu_up κ 34 d v) σ g) := by
  unfold jk_puti
  simp only [pu_get ho (by decide)]
  have e : ∀ κ : aS, pu_cell y.2 κ σ 3 d = (pu_tag (κ 18 d), pu_nf (pu_tag (κ 18 d)), pu_dev y.2 κ d) := fun _ => rfl
  have e18 : pu_up κ 34 d v 18 d = κ 18 d := pu_up_ne _ _ _ _ (by decide)
  rw [e, if_pos (pu_tag_mem _)]
  congr 1
  unfold jm_set
  refine pc_put ho (by decide) hy ?_ (fun r' i' hus => by have := pc_u34 hus; omega)
  rw [e, e18]
  congr 2
  funext j
  unfold jm_upd
  by_cases hj : j = 7
  · subst hj
    simp [pu_dev, pu_own, pu_up]
  · simp [pu_dev, pu_own, pu_up, hj]
theorem cd1_p9 (hy : pu_inv y) (ho : pu_on y 3 d) (ht : pu_tag (κ 18 d) = 1) (hz : v = 0 ∨ v = 1) : jk_putz [1] 9 k L (.inl v :: .inr (some (y.2 3 d)) :: S) (pu_H y κ σ g) = k L S (pu_H y (pu_up κ 25 d v) σ g) := by
  unfold jk_putz
  simp only [pu_get ho (by decide)]
  have e : ∀ κ : aS, pu_cell y.2 κ σ 3 d = (pu_tag (κ 18 d), pu_nf (pu_tag (κ 18 d)), pu_dev y.2 κ d) := fun _ => rfl
  have e18 : pu_up κ 25 d v 18 d = κ 18 d := pu_up_ne _ _ _ _ (by decide)
  rw [e, if_pos ⟨(by rw [ht]; exact List.mem_singleton.mpr rfl), hz⟩]
  congr 1
  unfold jm_set
  refine pc_put ho (by decide) hy ?_ (fun r' i' hus => by have := pc_u25 hus; omega)
  rw [e, e18]
  congr 2
  funext j
  unfold jm_upd
  by_cases hj : j = 9
  · subst hj
    simp [pu_dev, pu_own, pu_up, ht]
  · simp [pu_dev, pu_own, pu_up, hj, ht]
theorem cd3_p10 (hy : pu_inv y) (ho : pu_on y 3 d) (ht : pu_tag (κ 18 d) = 3) : jk_puti [3] 10 k L (.inl v :: .inr (some (y.2 3 d)) :: S) (pu_H y κ σ g) = k L S (pu_H y (pu_up κ 24 d v) σ g) := by
  unfold jk_puti
  simp only [pu_get ho (by decide)]
  have e : ∀ κ : aS, pu_cell y.2 κ σ 3 d = (pu_tag (κ 18 d), pu_nf (pu_tag (κ 18 d)), pu_dev y.2 κ d) := fun _ => rfl
  have e18 : pu_up κ 24 d v 18 d = κ 18 d := pu_up_ne _ _ _ _ (by decide)
  rw [e, if_pos (by rw [ht]; exact List.mem_singleton.mpr rfl)]
  congr 1
  unfold jm_set
  refine pc_put ho (by decide) hy ?_ (fun r' i' hus => by have := pc_u24 hus; omega)
  rw [e, e18]
  congr 2
  funext j
  unfold jm_upd
  by_cases hj : j = 10
  · subst hj
    simp [pu_dev, pu_own, pu_up, ht]
  · simp [pu_dev, pu_own, pu_up, hj, ht]
theorem cd4_p9 (hy : pu_inv y) (ho : pu_on y 3 d) (ht : pu_tag (κ 18 d) = 4) : jk_puti [4] 9 k L (.inl v :: .inr (some (y.2 3 d)) :: S) (pu_H y κ σ g) = k L S (pu_H y (pu_up κ 43 d v) σ g) := by
  unfold jk_puti
  simp only [pu_get ho (by decide)]
  have e : ∀ κ : aS, pu_cell y.2 κ σ 3 d = (pu_tag (κ 18 d), pu_nf (pu_tag (κ 18 d)), pu_dev y.2 κ d) := fun _ => rfl
  have e18 : pu_up κ 43 d v 18 d = κ 18 d := pu_up_ne _ _ _ _ (by decide)
  rw [e, if_pos (by rw [ht]; exact List.mem_singleton.mpr rfl)]
  congr 1
  unfold jm_set
  refine pc_put ho (by decide) hy ?_ (fun r' i' hus => by have := pc_u43 hus; omega)
  rw [e, e18]
  congr 2
  funext j
  unfold jm_upd
  by_cases hj : j = 9
  · subst hj
    simp [pu_dev, pu_own, pu_up, ht]
  · simp [pu_dev, pu_own, pu_up, hj, ht]
theorem cd4_p10 (hy : pu_inv y) (ho : pu_on y 3 d) (ht : pu_tag (κ 18 d) = 4) : jk_puti [4] 10 k L (.inl v :: .inr (some (y.2 3 d)) :: S) (pu_H y κ σ g) = k L S (pu_H y (pu_up κ 26 d v) σ g) := by
  unfold jk_puti
  simp only [pu_get ho (by decide)]
  have e : ∀ κ : aS, pu_cell y.2 κ σ 3 d = (pu_tag (κ 18 d), pu_nf (pu_tag (κ 18 d)), pu_dev y.2 κ d) := fun _ => rfl
  have e18 : pu_up κ 26 d v 18 d = κ 18 d := pu_up_ne _ _ _ _ (by decide)
  rw [e, if_pos (by rw [ht]; exact List.mem_singleton.mpr rfl)]
  congr 1
  unfold jm_set
  refine pc_put ho (by decide) hy ?_ (fun r' i' hus => by have := pc_u26 hus; omega)
  rw [e, e18]
  congr 2
  funext j
  unfold jm_upd
  by_cases hj : j = 10
  · subst hj
    simp [pu_dev, pu_own, pu_up, ht]
  · simp [pu_dev, pu_own, pu_up, hj, ht]
theorem cd5_p9 (hy : pu_inv y) (ho : pu_on y 3 d) (ht : pu_tag (κ 18 d) = 5) : jk_puti [5] 9 k L (.inl v :: .inr (some (y.2 3 d)) :: S) (pu_H y κ σ g) = k L S (pu_H y (pu_up κ 26 d v) σ g) := by
  unfold jk_puti
  simp only [pu_get ho (by decide)]
  have e : ∀ κ : aS, pu_cell y.2 κ σ 3 d = (pu_tag (κ 18 d), pu_nf (pu_tag (κ 18 d)), pu_dev y.2 κ d) := fun _ => rfl
  have e18 : pu_up κ 26 d v 18 d = κ 18 d := pu_up_ne _ _ _ _ (by decide)
  rw [e, if_pos (by rw [ht]; exact List.mem_singleton.mpr rfl)]
  congr 1
  unfold jm_set
  refine pc_put ho (by decide) hy ?_ (fun r' i' hus => by have := pc_u26 hus; omega)
  rw [e, e18]
  congr 2
  funext j
  unfold jm_upd
  by_cases hj : j = 9
  · subst hj
    simp [pu_dev, pu_own, pu_up, ht]
  · simp [pu_dev, pu_own, pu_up, hj, ht]
theorem cd6_p8 (hy : pu_inv y) (ho : pu_on y 3 d) (ht : pu_tag (κ 18 d) = 6) : jk_puti [6] 8 k L (.inl v :: .inr (some (y.2 3 d)) :: S) (pu_H y κ σ g) = k L S (pu_H y (pu_up κ 24 d v) σ g) := by
  unfold jk_puti
  simp only [pu_get ho (by decide)]
  have e : ∀ κ : aS, pu_cell y.2 κ σ 3 d = (pu_tag (κ 18 d), pu_nf (pu_tag (κ 18 d)), pu_dev y.2 κ d) := fun _ => rfl
  have e18 : pu_up κ 24 d v 18 d = κ 18 d := pu_up_ne _ _ _ _ (by decide)
  rw [e, if_pos (by rw [ht]; exact List.mem_singleton.mpr rfl)]
  congr 1
  unfold jm_set
  refine pc_put ho (by decide) hy ?_ (fun r' i' hus => by have := pc_u24 hus; omega)
  rw [e, e18]
  congr 2
  funext j
  unfold jm_upd
  by_cases hj : j = 8
  · subst hj
    simp [pu_dev, pu_own, pu_up, ht]
  · simp [pu_dev, pu_own, pu_up, hj, ht]
theorem cd7_p10 (hy : pu_inv y) (ho : pu_on y 3 d) (ht : pu_tag (κ 18 d) = 7) : jk_puti [7] 10 k L (.inl v :: .inr (some (y.2 3 d)) :: S) (pu_H y κ σ g) = k L S (pu_H y (pu_up κ 24 d v) σ g) := by
  unfold jk_puti
  simp only [pu_get ho (by decide)]
  have e : ∀ κ : aS, pu_cell y.2 κ σ 3 d = (pu_tag (κ 18 d), pu_nf (pu_tag (κ 18 d)), pu_dev y.2 κ d) := fun _ => rfl
  have e18 : pu_up κ 24 d v 18 d = κ 18 d := pu_up_ne _ _ _ _ (by decide)
  rw [e, if_pos (by rw [ht]; exact List.mem_singleton.mpr rfl)]
  congr 1
  unfold jm_set
  refine pc_put ho (by decide) hy ?_ (fun r' i' hus => by have := pc_u24 hus; omega)
  rw [e, e18]
  congr 2
  funext j
  unfold jm_upd
  by_cases hj : j = 10
  · subst hj
    simp [pu_dev, pu_own, pu_up, ht]
  · simp [pu_dev, pu_own, pu_up, hj, ht]
theorem cd8_p9 (hy : pu_inv y) (ho : pu_on y 3 d) (ht : pu_tag (κ 18 d) = 8) : jk_puti [8] 9 k L (.inl v :: .inr (some (y.2 3 d)) :: S) (pu_H y κ σ g) = k L S (pu_H y (pu_up κ 27 d v) σ g) := by
  unfold jk_puti
  simp only [pu_get ho (by decide)]
  have e : ∀ κ : aS, pu_cell y.2 κ σ 3 d = (pu_tag (κ 18 d), pu_nf (pu_tag (κ 18 d)), pu_dev y.2 κ d) := fun _ => rfl
  have e18 : pu_up κ 27 d v 18 d = κ 18 d := pu_up_ne _ _ _ _ (by decide)
  rw [e, if_pos (by rw [ht]; exact List.mem_singleton.mpr rfl)]
  congr 1
  unfold jm_set
  refine pc_put ho (by decide) hy ?_ (fun r' i' hus => by have := pc_u27 hus; omega)
  rw [e, e18]
  congr 2
  funext j
  unfold jm_upd
  by_cases hj : j = 9
  · subst hj
    simp [pu_dev, pu_own, pu_up, ht]
  · simp [pu_dev, pu_own, pu_up, hj, ht]
theorem cd8_p8a (hy : pu_inv y) (ho : pu_on y 3 d) (hk : κ 18 d = 2 ∨ κ 18 d = 7) : jk_puti [8] 8 k L (.inl v :: .inr (some (y.2 3 d)) :: S) (pu_H y κ σ g) = k L S (pu_H y (pu_up κ 24 d v) σ g) := by
  unfold jk_puti
  simp only [pu_get ho (by decide)]
  have ht : pu_tag (κ 18 d) = 8 := by rcases hk with hk | hk <;> rw [hk] <;> rfl
  have e : ∀ κ : aS, pu_cell y.2 κ σ 3 d = (pu_tag (κ 18 d), pu_nf (pu_tag (κ 18 d)), pu_dev y.2 κ d) := fun _ => rfl
  have e18 : pu_up κ 24 d v 18 d = κ 18 d := pu_up_ne _ _ _ _ (by decide)
  rw [e, if_pos (by rw [ht]; exact List.mem_singleton.mpr rfl)]
  congr 1
  unfold jm_set
  refine pc_put ho (by decide) hy ?_ (fun r' i' hus => by have := pc_u24 hus; omega)
  rw [e, e18]
  congr 2
  funext j
  unfold jm_upd
  by_cases hj : j = 8
  · subst hj
    rcases hk with hk | hk <;> simp [pu_dev, pu_own, pu_up, hk, pu_tag]
  · rcases hk with hk | hk <;> simp [pu_dev, pu_own, pu_up, hj, hk, pu_tag]
theorem cd8_p8b (hy : pu_inv y) (ho : pu_on y 3 d) (hk : κ 18 d = 8 ∨ κ 18 d = 10) : jk_puti [8] 8 k L (.inl v :: .inr (some (y.2 3 d)) :: S) (pu_H y κ σ g) = k L S (pu_H y (pu_up κ 25 d v) σ g) := by
  unfold jk_puti
  simp only [pu_get ho (by decide)]
  have ht : pu_tag (κ 18 d) = 8 := by rcases hk with hk | hk <;> rw [hk] <;> rfl
  have e : ∀ κ : aS, pu_cell y.2 κ σ 3 d = (pu_tag (κ 18 d), pu_nf (pu_tag (κ 18 d)), pu_dev y.2 κ d) := fun _ => rfl
  have e18 : pu_up κ 25 d v 18 d = κ 18 d := pu_up_ne _ _ _ _ (by decide)
  rw [e, if_pos (by rw [ht]; exact List.mem_singleton.mpr rfl)]
  congr 1
  unfold jm_set
  refine pc_put ho (by decide) hy ?_ (fun r' i' hus => by have := pc_u25 hus; omega)
  rw [e, e18]
  congr 2
  funext j
  unfold jm_upd
  by_cases hj : j = 8
  · subst hj
    rcases hk with hk | hk <;> simp [pu_dev, pu_own, pu_up, hk, pu_tag]
  · rcases hk with hk | hk <;> simp [pu_dev, pu_own, pu_up, hj, hk, pu_tag]
end PC
