section PN
variable {y : jLay} {κ σ : aS} {g : jH} {k : jK} {L : List (Option jV)} {S : List jV} {i v x a1 a2 a3 a4 a5 : Int} {f : jF} {h : jH}
theorem pg_3 (hw : pm_WF y) : jk_get [11] 3 k L (.inr (some (y.2 13 0)) :: S) (pu_H y κ σ g) = k L (.inr (some (y.2 14 3)) :: S) (pu_H y κ σ g) := pm_geta (f := 3) hw (by decide) (by decide)
theorem pl_3 (hw : pm_WF y) (h1 : 0 ≤ i) (h2 : i < 16) : jk_iald k L (.inl i :: .inr (some (y.2 14 3)) :: S) (pu_H y κ σ g) = k L (.inl (σ 3 i) :: S) (pu_H y κ σ g) := pm_iald (c := 3) hw (by decide) (by decide) (by decide) h1 h2
theorem ps_3 (hw : pm_WF y) (h1 : 0 ≤ i) (h2 : i < 16) : jk_iast k L (.inl v :: .inl i :: .inr (some (y.2 14 3)) :: S) (pu_H y κ σ g) = k L S (pu_H y κ (pu_up σ 3 i v) g) := pm_iast (c := 3) hw (by decide) (by decide) (by decide) h1 h2
theorem pg_4 (hw : pm_WF y) : jk_get [11] 4 k L (.inr (some (y.2 13 0)) :: S) (pu_H y κ σ g) = k L (.inr (some (y.2 14 4)) :: S) (pu_H y κ σ g) := pm_geta (f := 4) hw (by decide) (by decide)
theorem pl_4 (hw : pm_WF y) (h1 : 0 ≤ i) (h2 : i < 16) : jk_iald k L (.inl i :: .inr (some (y.2 14 4)) :: S) (pu_H y κ σ g) = k L (.inl (σ 4 i) :: S) (pu_H y κ σ g) := pm_iald (c := 4) hw (by decide) (by decide) (by decide) h1 h2
theorem ps_4 (hw : pm_WF y) (h1 : 0 ≤ i) (h2 : i < 16) : jk_iast k L (.inl v :: .inl i :: .inr (some (y.2 14 4)) :: S) (pu_H y κ σ g) = k L S (pu_H y κ (pu_up σ 4 i v) g) := pm_iast (c := 4) hw (by decide) (by decide) (by decide) h1 h2
theorem pg_5 (hw : pm_WF y) : jk_get [11] 5 k L (.inr (some (y.2 13 0)) :: S) (pu_H y κ σ g) = k L (.inr (some (y.2 14 5)) :: S) (pu_H y κ σ g) := pm_geta (f := 5) hw (by decide) (by decide)
theorem pl_5 (hw : pm_WF y) (h1 : 0 ≤ i) (h2 : i < 16) : jk_iald k L (.inl i :: .inr (some (y.2 14 5)) :: S) (pu_H y κ σ g) = k L (.inl (σ 5 i) :: S) (pu_H y κ σ g) := pm_iald (c := 5) hw (by decide) (by decide) (by decide) h1 h2
theorem ps_5 (hw : pm_WF y) (h1 : 0 ≤ i) (h2 : i < 16) : jk_iast k L (.inl v :: .inl i :: .inr (some (y.2 14 5)) :: S) (pu_H y κ σ g) = k L S (pu_H y κ (pu_up σ 5 i v) g) := pm_iast (c := 5) hw (by decide) (by decide) (by decide) h1 h2
theorem pg_6 (hw : pm_WF y) : jk_get [11] 6 k L (.inr (some (y.2 13 0)) :: S) (pu_H y κ σ g) = k L (.inr (some (y.2 14 6)) :: S) (pu_H y κ σ g) := pm_geta (f := 6) hw (by decide) (by decide)
theorem pl_6 (hw : pm_WF y) (h1 : 0 ≤ i) (h2 : i < 16) : jk_iald k L (.inl i :: .inr (some (y.2 14 6)) :: S) (pu_H y κ σ g) = k L (.inl (σ 6 i) :: S) (pu_H y κ σ g) := pm_iald (c := 6) hw (by decide) (by decide) (by decide) h1 h2
theorem ps_6 (hw : pm_WF y) (h1 : 0 ≤ i) (h2 : i < 16) : jk_iast k L (.inl v :: .inl i :: .inr (some (y.2 14 6)) :: S) (pu_H y κ σ g) = k L S (pu_H y κ (pu_up σ 6 i v) g) := pm_iast (c := 6) hw (by decide) (by decide) (by decide) h1 h2
theorem pg_7 (hw : pm_WF y) : jk_get [11] 7 k L (.inr (some (y.2 13 0)) :: S) (pu_H y κ σ g) = k L (.inr (some (y.2 14 7)) :: S) (pu_H y κ σ g) := pm_geta (f := 7) hw (by decide) (by decide)
theorem pl_7 (hw : pm_WF y) (h1 : 0 ≤ i) (h2 : i < 16) : jk_iald k L (.inl i :: .inr (some (y.2 14 7)) :: S) (pu_H y κ σ g) = k L (.inl (σ 7 i) :: S) (pu_H y κ σ g) := pm_iald (c := 7) hw (by decide) (by decide) (by decide) h1 h2
theorem ps_7 (hw : pm_WF y) (h1 : 0 ≤ i) (h2 : i < 16) : jk_iast k L (.inl v :: .inl i :: .inr (some (y.2 14 7)) :: S) (pu_H y κ σ g) = k L S (pu_H y κ (pu_up σ 7 i v) g) := pm_iast (c := 7) hw (by decide) (by decide) (by decide) h1 h2
theorem pg_8 (hw : pm_WF y) : jk_get [11] 8 k L (.inr (some (y.2 13 0)) :: S) (pu_H y κ σ g) = k L (.inr (some (y.2 14 8)) :: S) (pu_H y κ σ g) := pm_geta (f := 8) hw (by decide) (by decide)
theorem pl_8 (hw : pm_WF y) (h1 : 0 ≤ i) (h2 : i < 16) : jk_iald k L (.inl i :: .inr (some (y.2 14 8)) :: S) (pu_H y κ σ g) = k L (.inl (σ 8 i) :: S) (pu_H y κ σ g) := pm_iald (c := 8) hw (by decide) (by decide) (by decide) h1 h2
theorem ps_8 (hw : pm_WF y) (h1 : 0 ≤ i) (h2 : i < 16) : jk_iast k L (.inl v :: .inl i :: .inr (some (y.2 14 8)) :: S) (pu_H y κ σ g) = k L S (pu_H y κ (pu_up σ 8 i v) g) := pm_iast (c := 8) hw (by decide) (by decide) (by decide) h1 h2
theorem pg_9 (hw : pm_WF y) : jk_get [11] 9 k L (.inr (some (y.2 13 0)) :: S) (pu_H y κ σ g) = k L (.inr (some (y.2 14 9)) :: S) (pu_H y κ σ g) := pm_geta (f := 9) hw (by decide) (by decide)
theorem pl_9 (hw : pm_WF y) (h1 : 0 ≤ i) (h2 : i < 16) : jk_iald k L (.inl i :: .inr (some (y.2 14 9)) :: S) (pu_H y κ σ g) = k L (.inl (σ 9 i) :: S) (pu_H y κ σ g) := pm_iald (c := 9) hw (by decide) (by decide) (by decide) h1 h2
theorem ps_9 (hw : pm_WF y) (h1 : 0 ≤ i) (h2 : i < 16) : jk_iast k L (.inl v :: .inl i :: .inr (some (y.2 14 9)) :: S) (pu_H y κ σ g) = k L S (pu_H y κ (pu_up σ 9 i v) g) := pm_iast (c := 9) hw (by decide) (by decide) (by decide) h1 h2
theorem pg_10 (hw : pm_WF y) : jk_get [11] 10 k L (.inr (some (y.2 13 0)) :: S) (pu_H y κ σ g) = k L (.inr (some (y.2 14 10)) :: S) (pu_H y κ σ g) := pm_geta (f := 10) hw (by decide) (by decide)
theorem pl_10 (hw : pm_WF y) (h1 : 0 ≤ i) (h2 : i < 320) : jk_iald k L (.inl i :: .inr (some (y.2 14 10)) :: S) (pu_H y κ σ g) = k L (.inl (σ 10 i) :: S) (pu_H y κ σ g) := pm_iald (c := 10) hw (by decide) (by decide) (by decide) h1 h2
theorem ps_10 (hw : pm_WF y) (h1 : 0 ≤ i) (h2 : i < 320) : jk_iast k L (.inl v :: .inl i :: .inr (some (y.2 14 10)) :: S) (pu_H y κ σ g) = k L S (pu_H y κ (pu_up σ 10 i v) g) := pm_iast (c := 10) hw (by decide) (by decide) (by decide) h1 h2
theorem pg_11 (hw : pm_WF y) : jk_get [11] 11 k L (.inr (some (y.2 13 0)) :: S) (pu_H y κ σ g) = k L (.inr (some (y.2 14 11)) :: S) (pu_H y κ σ g) := pm_geta (f := 11) hw (by decide) (by decide)
theorem pl_11 (hw : pm_WF y) (h1 : 0 ≤ i) (h2 : i < 320) : jk_iald k L (.inl i :: .inr (some (y.2 14 11)) :: S) (pu_H y κ σ g) = k L (.inl (σ 11 i) :: S) (pu_H y κ σ g) := pm_iald (c := 11) hw (by decide) (by decide) (by decide) h1 h2
theorem ps_11 (hw : pm_WF y) (h1 : 0 ≤ i) (h2 : i < 320) : jk_iast k L (.inl v :: .inl i :: .inr (some (y.2 14 11)) :: S) (pu_H y κ σ g) = k L S (pu_H y κ (pu_up σ 11 i v) g) := pm_iast (c := 11) hw (by decide) (by decide) (by decide) h1 h2
theorem pg_12 (hw : pm_WF y) : jk_get [11] 12 k L (.inr (some (y.2 13 0)) :: S) (pu_H y κ σ g) = k L (.inr (some (y.2 14 12)) :: S) (pu_H y κ σ g) := pm_geta (f := 12) hw (by decide) (by decide)
theorem pl_12 (hw : pm_WF y) (h1 : 0 ≤ i) (h2 : i < 320) : jk_iald k L (.inl i :: .inr (some (y.2 14 12)) :: S) (pu_H y κ σ g) = k L (.inl (σ 12 i) :: S) (pu_H y κ σ g) := pm_iald (c := 12) hw (by decide) (by decide) (by decide) h1 h2
theorem ps_12 (hw : pm_WF y) (h1 : 0 ≤ i) (h2 : i < 320) : jk_iast k L (.inl v :: .inl i :: .inr (some (y.2 14 12)) :: S) (pu_H y κ σ g) = k L S (pu_H y κ (pu_up σ 12 i v) g) := pm_iast (c := 12) hw (by decide) (by decide) (by decide) h1 h2
theorem pg_13 (hw : pm_WF y) : jk_get [11] 13 k L (.inr (some (y.2 13 0)) :: S) (pu_H y κ σ g) = k L (.inr (some (y.2 14 13)) :: S) (pu_H y κ σ g) := pm_geta (f := 13) hw (by decide) (by decide)
theorem pl_13 (hw : pm_WF y) (h1 : 0 ≤ i) (h2 : i < 320) : jk_iald k L (.inl i :: .inr (some (y.2 14 13)) :: S) (pu_H y κ σ g) = k L (.inl (σ 13 i) :: S) (pu_H y κ σ g) := pm_iald (c := 13) hw (by decide) (by decide) (by decide) h1 h2
theorem ps_13 (hw : pm_WF y) (h1 : 0 ≤ i) (h2 : i < 320) : jk_iast k L (.inl v :: .inl i :: .inr (some (y.2 14 13)) :: S) (pu_H y κ σ g) = k L S (pu_H y κ (pu_up σ 13 i v) g) := pm_iast (c := 13) hw (by decide) (by decide) (by decide) h1 h2
theorem pg_14 (hw : pm_WF y) : jk_get [11] 14 k L (.inr (some (y.2 13 0)) :: S) (pu_H y κ σ g) = k L (.inr (some (y.2 14 14)) :: S) (pu_H y κ σ g) := pm_geta (f := 14) hw (by decide) (by decide)
theorem pl_14 (hw : pm_WF y) (h1 : 0 ≤ i) (h2 : i < 320) : jk_iald k L (.inl i :: .inr (some (y.2 14 14)) :: S) (pu_H y κ σ g) = k L (.inl (σ 14 i) :: S) (pu_H y κ σ g) := pm_iald (c := 14) hw (by decide) (by decide) (by decide) h1 h2
theorem ps_14 (hw : pm_WF y) (h1 : 0 ≤ i) (h2 : i < 320) : jk_iast k L (.inl v :: .inl i :: .inr (some (y.2 14 14)) :: S) (pu_H y κ σ g) = k L S (pu_H y κ (pu_up σ 14 i v) g) := pm_iast (c := 14) hw (by decide) (by decide) (by decide) h1 h2
theorem pg_15 (hw : pm_WF y) : jk_get [11] 15 k L (.inr (some (y.2 13 0)) :: S) (pu_H y κ σ g) = k L (.inr (some (y.2 14 15)) :: S) (pu_H y κ σ g) := pm_geta (f := 15) hw (by decide) (by decide)
theorem pl_15 (hw : pm_WF y) (h1 : 0 ≤ i) (h2 : i < 320) : jk_iald k L (.inl i :: .inr (some (y.2 14 15)) :: S) (pu_H y κ σ g) = k L (.inl (σ 15 i) :: S) (pu_H y κ σ g) := pm_iald (c := 15) hw (by decide) (by decide) (by decide) h1 h2
theorem ps_15 (hw : pm_WF y) (h1 : 0 ≤ i) (h2 : i < 320) : jk_iast k L (.inl v :: .inl i :: .inr (some (y.2 14 15)) :: S) (pu_H y κ σ g) = k L S (pu_H y κ (pu_up σ 15 i v) g) := pm_iast (c := 15) hw (by decide) (by decide) (by decide) h1 h2
theorem pg_16 (hw : pm_WF y) : jk_get [11] 16 k L (.inr (some (y.2 13 0)) :: S) (pu_H y κ σ g) = k L (.inr (some (y.2 14 16)) :: S) (pu_H y κ σ g) := pm_geta (f := 16) hw (by decide) (by decide)
theorem pl_16 (hw : pm_WF y) (h1 : 0 ≤ i) (h2 : i < 320) : jk_iald k L (.inl i :: .inr (some (y.2 14 16)) :: S) (pu_H y κ σ g) = k L (.inl (σ 16 i) :: S) (pu_H y κ σ g) := pm_iald (c := 16) hw (by decide) (by decide) (by decide) h1 h2
theorem ps_16 (hw : pm_WF y) (h1 : 0 ≤ i) (h2 : i < 320) : jk_iast k L (.inl v :: .inl i :: .inr (some (y.2 14 16)) :: S) (pu_H y κ σ g) = k L S (pu_H y κ (pu_up σ 16 i v) g) := pm_iast (c := 16) hw (by decide) (by decide) (by decide) h1 h2
theorem pg_17 (hw : pm_WF y) : jk_get [11] 17 k L (.inr (some (y.2 13 0)) :: S) (pu_H y κ σ g) = k L (.inr (some (y.2 14 17)) :: S) (pu_H y κ σ g) := pm_geta (f := 17) hw (by decide) (by decide)
theorem pl_17 (hw : pm_WF y) (h1 : 0 ≤ i) (h2 : i < 320) : jk_iald k L (.inl i :: .inr (some (y.2 14 17)) :: S) (pu_H y κ σ g) = k L (.inl (σ 17 i) :: S) (pu_H y κ σ g) := pm_iald (c := 17) hw (by decide) (by decide) (by decide) h1 h2
theorem ps_17 (hw : pm_WF y) (h1 : 0 ≤ i) (h2 : i < 320) : jk_iast k L (.inl v :: .inl i :: .inr (some (y.2 14 17)) :: S) (pu_H y κ σ g) = k L S (pu_H y κ (pu_up σ 17 i v) g) := pm_iast (c := 17) hw (by decide) (by decide) (by decide) h1 h2
theorem pg_18 (hw : pm_WF y) : jk_get [11] 18 k L (.inr (some (y.2 13 0)) :: S) (pu_H y κ σ g) = k L (.inr (some (y.2 14 18)) :: S) (pu_H y κ σ g) := pm_geta (f := 18) hw (by decide) (by decide)
theorem pl_18 (hw : pm_WF y) (h1 : 0 ≤ i) (h2 : i < 12) : jk_iald k L (.inl i :: .inr (some (y.2 14 18)) :: S) (pu_H y κ σ g) = k L (.inl (σ 18 i) :: S) (pu_H y κ σ g) := pm_iald (c := 18) hw (by decide) (by decide) (by decide) h1 h2
theorem ps_18 (hw : pm_WF y) (h1 : 0 ≤ i) (h2 : i < 12) : jk_iast k L (.inl v :: .inl i :: .inr (some (y.2 14 18)) :: S) (pu_H y κ σ g) = k L S (pu_H y κ (pu_up σ 18 i v) g) := pm_iast (c := 18) hw (by decide) (by decide) (by decide) h1 h2
theorem pg_19 (hw : pm_WF y) : jk_get [11] 19 k L (.inr (some (y.2 13 0)) :: S) (pu_H y κ σ g) = k L (.inr (some (y.2 14 19)) :: S) (pu_H y κ σ g) := pm_geta (f := 19) hw (by decide) (by decide)
theorem pl_19 (hw : pm_WF y) (h1 : 0 ≤ i) (h2 : i < 12) : jk_iald k L (.inl i :: .inr (some (y.2 14 19)) :: S) (pu_H y κ σ g) = k L (.inl (σ 19 i) :: S) (pu_H y κ σ g) := pm_iald (c := 19) hw (by decide) (by decide) (by decide) h1 h2
theorem ps_19 (hw : pm_WF y) (h1 : 0 ≤ i) (h2 : i < 12) : jk_iast k L (.inl v :: .inl i :: .inr (some (y.2 14 19)) :: S) (pu_H y κ σ g) = k L S (pu_H y κ (pu_up σ 19 i v) g) := pm_iast (c := 19) hw (by decide) (by decide) (by decide) h1 h2
theorem pg_20 (hw : pm_WF y) : jk_get [11] 20 k L (.inr (some (y.2 13 0)) :: S) (pu_H y κ σ g) = k L (.inr (some (y.2 14 20)) :: S) (pu_H y κ σ g) := pm_geta (f := 20) hw (by decide) (by decide)
theorem pl_20 (hw : pm_WF y) (h1 : 0 ≤ i) (h2 : i < 12) : jk_iald k L (.inl i :: .inr (some (y.2 14 20)) :: S) (pu_H y κ σ g) = k L (.inl (σ 20 i) :: S) (pu_H y κ σ g) := pm_iald (c := 20) hw (by decide) (by decide) (by decide) h1 h2
theorem ps_20 (hw : pm_WF y) (h1 : 0 ≤ i) (h2 : i < 12) : jk_iast k L (.inl v :: .inl i :: .inr (some (y.2 14 20)) :: S) (pu_H y κ σ g) = k L S (pu_H y κ (pu_up σ 20 i v) g) := pm_iast (c := 20) hw (by decide) (by decide) (by decide) h1 h2
theorem pg_21 (hw : pm_WF y) : jk_get [11] 21 k L (.inr (some (y.2 13 0)) :: S) (pu_H y κ σ g) = k L (.inr (some (y.2 14 21)) :: S) (pu_H y κ σ g) := pm_geta (f := 21) hw (by decide) (by decide)
theorem pl_21 (hw : pm_WF y) (h1 : 0 ≤ i) (h2 : i < 12) : jk_iald k L (.inl i :: .inr (some (y.2 14 21)) :: S) (pu_H y κ σ g) = k L (.inl (σ 21 i) :: S) (pu_H y κ σ g) := pm_iald (c := 21) hw (by decide) (by decide) (by decide) h1 h2
theorem ps_21 (hw : pm_WF y) (h1 : 0 ≤ i) (h2 : i < 12) : jk_iast k L (.inl v :: .inl i :: .inr (some (y.2 14 21)) :: S) (pu_H y κ σ g) = k L S (pu_H y κ (pu_up σ 21 i v) g) := pm_iast (c := 21) hw (by decide) (by decide) (by decide) h1 h2
theorem pg_22 (hw : pm_WF y) : jk_get [11] 22 k L (.inr (some (y.2 13 0)) :: S) (pu_H y κ σ g) = k L (.inr (some (y.2 14 22)) :: S) (pu_H y κ σ g) := pm_geta (f := 22) hw (by decide) (by decide)
theorem pl_22 (hw : pm_WF y) (h1 : 0 ≤ i) (h2 : i < 192) : jk_iald k L (.inl i :: .inr (some (y.2 14 22)) :: S) (pu_H y κ σ g) = k L (.inl (σ 22 i) :: S) (pu_H y κ σ g) := pm_iald (c := 22) hw (by decide) (by decide) (by decide) h1 h2
theorem ps_22 (hw : pm_WF y) (h1 : 0 ≤ i) (h2 : i < 192) : jk_iast k L (.inl v :: .inl i :: .inr (some (y.2 14 22)) :: S) (pu_H y κ σ g) = k L S (pu_H y κ (pu_up σ 22 i v) g) := pm_iast (c := 22) hw (by decide) (by decide) (by decide) h1 h2
theorem pg_23 (hw : pm_WF y) : jk_get [11] 23 k L (.inr (some (y.2 13 0)) :: S) (pu_H y κ σ g) = k L (.inr (some (y.2 14 23)) :: S) (pu_H y κ σ g) := pm_geta (f := 23) hw (by decide) (by decide)
theorem pl_23 (hw : pm_WF y) (h1 : 0 ≤ i) (h2 : i < 12) : jk_iald k L (.inl i :: .inr (some (y.2 14 23)) :: S) (pu_H y κ σ g) = k L (.inl (σ 23 i) :: S) (pu_H y κ σ g) := pm_iald (c := 23) hw (by decide) (by decide) (by decide) h1 h2
theorem ps_23 (hw : pm_WF y) (h1 : 0 ≤ i) (h2 : i < 12) : jk_iast k L (.inl v :: .inl i :: .inr (some (y.2 14 23)) :: S) (pu_H y κ σ g) = k L S (pu_H y κ (pu_up σ 23 i v) g) := pm_iast (c := 23) hw (by decide) (by decide) (by decide) h1 h2
theorem pg_24 (hw : pm_WF y) : jk_get [11] 24 k L (.inr (some (y.2 13 0)) :: S) (pu_H y κ σ g) = k L (.inr (some (y.2 14 24)) :: S) (pu_H y κ σ g) := pm_geta (f := 24) hw (by decide) (by decide)
theorem pl_24 (hw : pm_WF y) (h1 : 0 ≤ i) (h2 : i < 12) : jk_iald k L (.inl i :: .inr (some (y.2 14 24)) :: S) (pu_H y κ σ g) = k L (.inl (σ 24 i) :: S) (pu_H y κ σ g) := pm_iald (c := 24) hw (by decide) (by decide) (by decide) h1 h2
theorem ps_24 (hw : pm_WF y) (h1 : 0 ≤ i) (h2 : i < 12) : jk_iast k L (.inl v :: .inl i :: .inr (some (y.2 14 24)) :: S) (pu_H y κ σ g) = k L S (pu_H y κ (pu_up σ 24 i v) g) := pm_iast (c := 24) hw (by decide) (by decide) (by decide) h1 h2
theorem pg_25 (hw : pm_WF y) : jk_get [11] 25 k L (.inr (some (y.2 13 0)) :: S) (pu_H y κ σ g) = k L (.inr (some (y.2 14 25)) :: S) (pu_H y κ σ g) := pm_geta (f := 25) hw (by decide) (by decide)
theorem pl_25 (hw : pm_WF y) (h1 : 0 ≤ i) (h2 : i < 12) : jk_iald k L (.inl i :: .inr (some (y.2 14 25)) :: S) (pu_H y κ σ g) = k L (.inl (σ 25 i) :: S) (pu_H y κ σ g) := pm_iald (c := 25) hw (by decide) (by decide) (by decide) h1 h2
theorem ps_25 (hw : pm_WF y) (h1 : 0 ≤ i) (h2 : i < 12) : jk_iast k L (.inl v :: .inl i :: .inr (some (y.2 14 25)) :: S) (pu_H y κ σ g) = k L S (pu_H y κ (pu_up σ 25 i v) g) := pm_iast (c := 25) hw (by decide) (by decide) (by decide) h1 h2
theorem pg_26 (hw : pm_WF y) : jk_get [11] 26 k L (.inr (some (y.2 13 0)) :: S) (pu_H y κ σ g) = k L (.inr (some (y.2 14 26)) :: S) (pu_H y κ σ g) := pm_geta (f := 26) hw (by decide) (by decide)
theorem pl_26 (hw : pm_WF y) (h1 : 0 ≤ i) (h2 : i < 12) : jk_iald k L (.inl i :: .inr (some (y.2 14 26)) :: S) (pu_H y κ σ g) = k L (.inl (σ 26 i) :: S) (pu_H y κ σ g) := pm_iald (c := 26) hw (by decide) (by decide) (by decide) h1 h2
theorem ps_26 (hw : pm_WF y) (h1 : 0 ≤ i) (h2 : i < 12) : jk_iast k L (.inl v :: .inl i :: .inr (some (y.2 14 26)) :: S) (pu_H y κ σ g) = k L S (pu_H y κ (pu_up σ 26 i v) g) := pm_iast (c := 26) hw (by decide) (by decide) (by decide) h1 h2
theorem pg_27 (hw : pm_WF y) : jk_get [11] 27 k L (.inr (some (y.2 13 0)) :: S) (pu_H y κ σ g) = k L (.inr (some (y.2 14 27)) :: S) (pu_H y κ σ g) := pm_geta (f := 27) hw (by decide) (by decide)
theorem pl_27 (hw : pm_WF y) (h1 : 0 ≤ i) (h2 : i < 12) : jk_iald k L (.inl i :: .inr (some (y.2 14 27)) :: S) (pu_H y κ σ g) = k L (.inl (σ 27 i) :: S) (pu_H y κ σ g) := pm_iald (c := 27) hw (by decide) (by decide) (by decide) h1 h2
theorem ps_27 (hw : pm_WF y) (h1 : 0 ≤ i) (h2 : i < 12) : jk_iast k L (.inl v :: .inl i :: .inr (some (y.2 14 27)) :: S) (pu_H y κ σ g) = k L S (pu_H y κ (pu_up σ 27 i v) g) := pm_iast (c := 27) hw (by decide) (by decide) (by decide) h1 h2
theorem pg_28 (hw : pm_WF y) : jk_get [11] 28 k L (.inr (some (y.2 13 0)) :: S) (pu_H y κ σ g) = k L (.inr (some (y.2 14 28)) :: S) (pu_H y κ σ g) := pm_geta (f := 28) hw (by decide) (by decide)
theorem pl_28 (hw : pm_WF y) (h1 : 0 ≤ i) (h2 : i < 12) : jk_iald k L (.inl i :: .inr (some (y.2 14 28)) :: S) (pu_H y κ σ g) = k L (.inl (σ 28 i) :: S) (pu_H y κ σ g) := pm_iald (c := 28) hw (by decide) (by decide) (by decide) h1 h2
theorem ps_28 (hw : pm_WF y) (h1 : 0 ≤ i) (h2 : i < 12) : jk_iast k L (.inl v :: .inl i :: .inr (some (y.2 14 28)) :: S) (pu_H y κ σ g) = k L S (pu_H y κ (pu_up σ 28 i v) g) := pm_iast (c := 28) hw (by decide) (by decide) (by decide) h1 h2
theorem pg_29 (hw : pm_WF y) : jk_get [11] 29 k L (.inr (some (y.2 13 0)) :: S) (pu_H y κ σ g) = k L (.inr (some (y.2 14 29)) :: S) (pu_H y κ σ g) := pm_geta (f := 29) hw (by decide) (by decide)
theorem pl_29 (hw : pm_WF y) (h1 : 0 ≤ i) (h2 : i < 192) : jk_iald k L (.inl i :: .inr (some (y.2 14 29)) :: S) (pu_H y κ σ g) = k L (.inl (σ 29 i) :: S) (pu_H y κ σ g) := pm_iald (c := 29) hw (by decide) (by decide) (by decide) h1 h2
theorem ps_29 (hw : pm_WF y) (h1 : 0 ≤ i) (h2 : i < 192) : jk_iast k L (.inl v :: .inl i :: .inr (some (y.2 14 29)) :: S) (pu_H y κ σ g) = k L S (pu_H y κ (pu_up σ 29 i v) g) := pm_iast (c := 29) hw (by decide) (by decide) (by decide) h1 h2
theorem pg_30 (hw : pm_WF y) : jk_get [11] 30 k L (.inr (some (y.2 13 0)) :: S) (pu_H y κ σ g) = k L (.inr (some (y.2 14 30)) :: S) (pu_H y κ σ g) := pm_geta (f := 30) hw (by decide) (by decide)
theorem pl_30 (hw : pm_WF y) (h1 : 0 ≤ i) (h2 : i < 192) : jk_iald k L (.inl i :: .inr (some (y.2 14 30)) :: S) (pu_H y κ σ g) = k L (.inl (σ 30 i) :: S) (pu_H y κ σ g) := pm_iald (c := 30) hw (by decide) (by decide) (by decide) h1 h2
theorem ps_30 (hw : pm_WF y) (h1 : 0 ≤ i) (h2 : i < 192) : jk_iast k L (.inl v :: .inl i :: .inr (some (y.2 14 30)) :: S) (pu_H y κ σ g) = k L S (pu_H y κ (pu_up σ 30 i v) g) := pm_iast (c := 30) hw (by decide) (by decide) (by decide) h1 h2
theorem pg_31 (hw : pm_WF y) : jk_get [11] 31 k L (.inr (some (y.2 13 0)) :: S) (pu_H y κ σ g) = k L (.inr (some (y.2 14 31)) :: S) (pu_H y κ σ g) := pm_geta (f := 31) hw (by decide) (by decide)
theorem pl_31 (hw : pm_WF y) (h1 : 0 ≤ i) (h2 : i < 192) : jk_iald k L (.inl i :: .inr (some (y.2 14 31)) :: S) (pu_H y κ σ g) = k L (.inl (σ 31 i) :: S) (pu_H y κ σ g) := pm_iald (c := 31) hw (by decide) (by decide) (by decide) h1 h2
theorem ps_31 (hw : pm_WF y) (h1 : 0 ≤ i) (h2 : i < 192) : jk_iast k L (.inl v :: .inl i :: .inr (some (y.2 14 31)) :: S) (pu_H y κ σ g) = k L S (pu_H y κ (pu_up σ 31 i v) g) := pm_iast (c := 31) hw (by decide) (by decide) (by decide) h1 h2
theorem pg_32 (hw : pm_WF y) : jk_get [11] 32 k L (.inr (some (y.2 13 0)) :: S) (pu_H y κ σ g) = k L (.inr (some (y.2 14 32)) :: S) (pu_H y κ σ g) := pm_geta (f := 32) hw (by decide) (by decide)
theorem pl_32 (hw : pm_WF y) (h1 : 0 ≤ i) (h2 : i < 96) : jk_iald k L (.inl i :: .inr (some (y.2 14 32)) :: S) (pu_H y κ σ g) = k L (.inl (σ 32 i) :: S) (pu_H y κ σ g) := pm_iald (c := 32) hw (by decide) (by decide) (by decide) h1 h2
theorem ps_32 (hw : pm_WF y) (h1 : 0 ≤ i) (h2 : i < 96) : jk_iast k L (.inl v :: .inl i :: .inr (some (y.2 14 32)) :: S) (pu_H y κ σ g) = k L S (pu_H y κ (pu_up σ 32 i v) g) := pm_iast (c := 32) hw (by decide) (by decide) (by decide) h1 h2
theorem pg_33 (hw : pm_WF y) : jk_get [11] 33 k L (.inr (some (y.2 13 0)) :: S) (pu_H y κ σ g) = k L (.inr (some (y.2 14 33)) :: S) (pu_H y κ σ g) := pm_geta (f := 33) hw (by decide) (by decide)
theorem pg_34 (hw : pm_WF y) : jk_get [11] 34 k L (.inr (some (y.2 13 0)) :: S) (pu_H y κ σ g) = k L (.inr (some (y.2 14 34)) :: S) (pu_H y κ σ g) := pm_geta (f := 34) hw (by decide) (by decide)
theorem pl_34 (hw : pm_WF y) (h1 : 0 ≤ i) (h2 : i < 12) : jk_iald k L (.inl i :: .inr (some (y.2 14 34)) :: S) (pu_H y κ σ g) = k L (.inl (σ 34 i) :: S) (pu_H y κ σ g) := pm_iald (c := 34) hw (by decide) (by decide) (by decide) h1 h2
theorem ps_34 (hw : pm_WF y) (h1 : 0 ≤ i) (h2 : i < 12) : jk_iast k L (.inl v :: .inl i :: .inr (some (y.2 14 34)) :: S) (pu_H y κ σ g) = k L S (pu_H y κ (pu_up σ 34 i v) g) := pm_iast (c := 34) hw (by decide) (by decide) (by decide) h1 h2
theorem pg_35 (hw : pm_WF y) : jk_get [11] 35 k L (.inr (some (y.2 13 0)) :: S) (pu_H y κ σ g) = k L (.inr (some (y.2 14 35)) :: S) (pu_H y κ σ g) := pm_geta (f := 35) hw (by decide) (by decide)
theorem pl_35 (hw : pm_WF y) (h1 : 0 ≤ i) (h2 : i < 200) : jk_iald k L (.inl i :: .inr (some (y.2 14 35)) :: S) (pu_H y κ σ g) = k L (.inl (σ 35 i) :: S) (pu_H y κ σ g) := pm_iald (c := 35) hw (by decide) (by decide) (by decide) h1 h2
theorem ps_35 (hw : pm_WF y) (h1 : 0 ≤ i) (h2 : i < 200) : jk_iast k L (.inl v :: .inl i :: .inr (some (y.2 14 35)) :: S) (pu_H y κ σ g) = k L S (pu_H y κ (pu_up σ 35 i v) g) := pm_iast (c := 35) hw (by decide) (by decide) (by decide) h1 h2
theorem pg_36 (hw : pm_WF y) : jk_get [11] 36 k L (.inr (some (y.2 13 0)) :: S) (pu_H y κ σ g) = k L (.inr (some (y.2 14 36)) :: S) (pu_H y κ σ g) := pm_geta (f := 36) hw (by decide) (by decide)
theorem pl_36 (hw : pm_WF y) (h1 : 0 ≤ i) (h2 : i < 200) : jk_iald k L (.inl i :: .inr (some (y.2 14 36)) :: S) (pu_H y κ σ g) = k L (.inl (σ 36 i) :: S) (pu_H y κ σ g) := pm_iald (c := 36) hw (by decide) (by decide) (by decide) h1 h2
theorem ps_36 (hw : pm_WF y) (h1 : 0 ≤ i) (h2 : i < 200) : jk_iast k L (.inl v :: .inl i :: .inr (some (y.2 14 36)) :: S) (pu_H y κ σ g) = k L S (pu_H y κ (pu_up σ 36 i v) g) := pm_iast (c := 36) hw (by decide) (by decide) (by decide) h1 h2
theorem pg_0 (hw : pm_WF y) : jk_get [11] 0 k L (.inr (some (y.2 13 0)) :: S) (pu_H y κ σ g) = k L (.inl (σ 0 0) :: S) (pu_H y κ σ g) := pm_geti (f := 0) hw (by decide)
theorem ps_0 (hw : pm_WF y) : jk_puti [11] 0 k L (.inl v :: .inr (some (y.2 13 0)) :: S) (pu_H y κ σ g) = k L S (pu_H y κ (pu_up σ 0 0 v) g) := pm_puti (f := 0) hw (by decide)
theorem pg_1 (hw : pm_WF y) : jk_get [11] 1 k L (.inr (some (y.2 13 0)) :: S) (pu_H y κ σ g) = k L (.inl (σ 1 0) :: S) (pu_H y κ σ g) := pm_geti (f := 1) hw (by decide)
theorem ps_1 (hw : pm_WF y) : jk_puti [11] 1 k L (.inl v :: .inr (some (y.2 13 0)) :: S) (pu_H y κ σ g) = k L S (pu_H y κ (pu_up σ 1 0 v) g) := pm_puti (f := 1) hw (by decide)
theorem pg_2 (hw : pm_WF y) : jk_get [11] 2 k L (.inr (some (y.2 13 0)) :: S) (pu_H y κ σ g) = k L (.inl (σ 2 0) :: S) (pu_H y κ σ g) := pm_geti (f := 2) hw (by decide)
theorem ps_2 (hw : pm_WF y) : jk_puti [11] 2 k L (.inl v :: .inr (some (y.2 13 0)) :: S) (pu_H y κ σ g) = k L S (pu_H y κ (pu_up σ 2 0 v) g) := pm_puti (f := 2) hw (by decide)
theorem pg_37 (hw : pm_WF y) : jk_get [11] 37 k L (.inr (some (y.2 13 0)) :: S) (pu_H y κ σ g) = k L (.inl (σ 37 0) :: S) (pu_H y κ σ g) := pm_geti (f := 37) hw (by decide)
theorem ps_37 (hw : pm_WF y) : jk_puti [11] 37 k L (.inl v :: .inr (some (y.2 13 0)) :: S) (pu_H y κ σ g) = k L S (pu_H y κ (pu_up σ 37 0 v) g) := pm_puti (f := 37) hw (by decide)
theorem pg_38 (hw : pm_WF y) : jk_get [11] 38 k L (.inr (some (y.2 13 0)) :: S) (pu_H y κ σ g) = k L (.inl (σ 38 0) :: S) (pu_H y κ σ g) := pm_geti (f := 38) hw (by decide)
theorem ps_38 (hw : pm_WF y) : jk_puti [11] 38 k L (.inl v :: .inr (some (y.2 13 0)) :: S) (pu_H y κ σ g) = k L S (pu_H y κ (pu_up σ 38 0 v) g) := pm_puti (f := 38) hw (by decide)
theorem pc_0 (hw : pm_WF y) (hS : S.length ≤ 8) : jk_vcall [(11, f)] 0 k L (.inr (some (y.2 13 0)) :: S) (pu_H y κ σ g) = jm_back k L S (f [.inr (some (y.2 13 0))] (pu_H y κ σ g)) := by
  unfold jk_vcall
  rw [if_pos (by simp; omega)]
  simp [pm_at13 hw, jm_look]
theorem pc_1 (hw : pm_WF y) (hS : S.length ≤ 8) : jk_vcall [(11, f)] 1 k L (.inl a1 :: .inr (some (y.2 13 0)) :: S) (pu_H y κ σ g) = jm_back k L S (f [.inr (some (y.2 13 0)), .inl a1] (pu_H y κ σ g)) := by
  unfold jk_vcall
  rw [if_pos (by simp; omega)]
  simp [pm_at13 hw, jm_look]
theorem pc_2 (hw : pm_WF y) (hS : S.length ≤ 8) : jk_vcall [(11, f)] 2 k L (.inl a2 :: .inl a1 :: .inr (some (y.2 13 0)) :: S) (pu_H y κ σ g) = jm_back k L S (f [.inr (some (y.2 13 0)), .inl a1, .inl a2] (pu_H y κ σ g)) := by
  unfold jk_vcall
  rw [if_pos (by simp; omega)]
  simp [pm_at13 hw, jm_look]
theorem pc_3 (hw : pm_WF y) (hS : S.length ≤ 8) : jk_vcall [(11, f)] 3 k L (.inl a3 :: .inl a2 :: .inl a1 :: .inr (some (y.2 13 0)) :: S) (pu_H y κ σ g) = jm_back k L S (f [.inr (some (y.2 13 0)), .inl a1, .inl a2, .inl a3] (pu_H y κ σ g)) := by
  unfold jk_vcall
  rw [if_pos (by simp; omega)]
  simp [pm_at13 hw, jm_look]
theorem pc_4 (hw : pm_WF y) (hS : S.length ≤ 8) : jk_vcall [(11, f)] 4 k L (.inl a4 :: .inl a3 :: .inl a2 :: .inl a1 :: .inr (some (y.2 13 0)) :: S) (pu_H y κ σ g) = jm_back k L S (f [.inr (some (y.2 13 0)), .inl a1, .inl a2, .inl a3, .inl a4] (pu_H y κ σ g)) := by
  unfold jk_vcall
  rw [if_pos (by simp; omega)]
  simp [pm_at13 hw, jm_look]
theorem pc_5 (hw : pm_WF y) (hS : S.length ≤ 8) : jk_vcall [(11, f)] 5 k L (.inl a5 :: .inl a4 :: .inl a3 :: .inl a2 :: .inl a1 :: .inr (some (y.2 13 0)) :: S) (pu_H y κ σ g) = jm_back k L S (f [.inr (some (y.2 13 0)), .inl a1, .inl a2, .inl a3, .inl a4, .inl a5] (pu_H y κ σ g)) := by
  unfold jk_vcall
  rw [if_pos (by simp; omega)]
  simp [pm_at13 hw, jm_look]
theorem jz_0 : jk_zret L [.inl 0] h = some (some (.inl 0), h) := rfl
theorem jz_1 : jk_zret L [.inl 1] h = some (some (.inl 1), h) := rfl
theorem pb_none : jm_back k L S (some (none, h)) = k L S h := rfl
theorem pb_int : jm_back k L S (some (some (.inl i), h)) = k L (.inl i :: S) h := rfl
theorem pb_ref {r : Option Nat} : jm_back k L S (some (some (.inr r), h)) = k L (.inr r :: S) h := rfl
end PN
