/-! The cells behind the two constructors: kinds and lengths, and the references that never change (lay.py). -/
def ly_T : List (Nat × Nat) := [(0, 9), (2, 6), (100, 5), (100, 5), (10, 6), (100, 5), (100, 127), (100, 5), (7, 5), (200, 6), (201, 6), (8, 18), (100, 1024), (100, 5120), (101, 1024), (100, 1024), (100, 1024), (100, 1024), (100, 1024), (100, 1025), (10, 6), (100, 5), (100, 127), (100, 5), (102, 48), (11, 40), (101, 25), (100, 5), (100, 48), (100, 384), (100, 384), (100, 8), (100, 384), (100, 8), (100, 8), (101, 8), (101, 8), (100, 8), (100, 5), (100, 64), (100, 1024), (100, 5120), (101, 1024), (101, 1024), (100, 1024), (100, 1100)]
def ly_R : List (Nat × Nat × Nat) := [(0, 0, 1), (1, 0, 2), (1, 1, 3), (4, 1, 5), (4, 2, 6), (4, 3, 7), (4, 0, 1), (0, 1, 4), (8, 0, 9), (8, 1, 10), (0, 2, 8), (11, 3, 12), (11, 4, 13), (11, 5, 14), (11, 6, 15), (11, 7, 16), (11, 8, 17), (11, 9, 18), (11, 10, 19), (11, 0, 1), (11, 1, 8), (20, 1, 21), (20, 2, 22), (20, 3, 23), (20, 0, 1), (11, 2, 20), (0, 3, 11), (0, 4, 24), (25, 3, 26), (25, 4, 27), (25, 10, 28), (25, 12, 29), (25, 13, 30), (25, 14, 31), (25, 15, 32), (25, 16, 33), (25, 18, 34), (25, 19, 35), (25, 20, 36), (25, 21, 37), (25, 28, 38), (25, 29, 39), (25, 33, 40), (25, 34, 41), (25, 35, 42), (25, 36, 43), (25, 37, 44), (25, 39, 45)]
def Lay (h : MH) : Prop := 46 ≤ mj_z h ∧ (∀ a, a < 46 → mj_m h a = ly_T.getD a (0, 0)) ∧ ∀ q ∈ ly_R, mj_r h q.1 q.2.1 = some q.2.2
section LayRows
variable {h : MH}
theorem ly_0 (hL : Lay h) : mj_is h 0 0 9 := ⟨by have := hL.1; omega, hL.2.1 0 (by decide)⟩
theorem ly_1 (hL : Lay h) : mj_is h 1 2 6 := ⟨by have := hL.1; omega, hL.2.1 1 (by decide)⟩
theorem ly_2 (hL : Lay h) : mj_is h 2 100 5 := ⟨by have := hL.1; omega, hL.2.1 2 (by decide)⟩
theorem ly_3 (hL : Lay h) : mj_is h 3 100 5 := ⟨by have := hL.1; omega, hL.2.1 3 (by decide)⟩
theorem ly_4 (hL : Lay h) : mj_is h 4 10 6 := ⟨by have := hL.1; omega, hL.2.1 4 (by decide)⟩
theorem ly_5 (hL : Lay h) : mj_is h 5 100 5 := ⟨by have := hL.1; omega, hL.2.1 5 (by decide)⟩
theorem ly_6 (hL : Lay h) : mj_is h 6 100 127 := ⟨by have := hL.1; omega, hL.2.1 6 (by decide)⟩
theorem ly_7 (hL : Lay h) : mj_is h 7 100 5 := ⟨by have := hL.1; omega, hL.2.1 7 (by decide)⟩
theorem ly_8 (hL : Lay h) : mj_is h 8 7 5 := ⟨by have := hL.1; omega, hL.2.1 8 (by decide)⟩
theorem ly_9 (hL : Lay h) : mj_is h 9 200 6 := ⟨by have := hL.1; omega, hL.2.1 9 (by decide)⟩
theorem ly_10 (hL : Lay h) : mj_is h 10 201 6 := ⟨by have := hL.1; omega, hL.2.1 10 (by decide)⟩
theorem ly_11 (hL : Lay h) : mj_is h 11 8 18 := ⟨by have := hL.1; omega, hL.2.1 11 (by decide)⟩
theorem ly_12 (hL : Lay h) : mj_is h 12 100 1024 := ⟨by have := hL.1; omega, hL.2.1 12 (by decide)⟩
theorem ly_13 (hL : Lay h) : mj_is h 13 100 5120 := ⟨by have := hL.1; omega, hL.2.1 13 (by decide)⟩
theorem ly_14 (hL : Lay h) : mj_is h 14 101 1024 := ⟨by have := hL.1; omega, hL.2.1 14 (by decide)⟩
theorem ly_15 (hL : Lay h) : mj_is h 15 100 1024 := ⟨by have := hL.1; omega, hL.2.1 15 (by decide)⟩
theorem ly_16 (hL : Lay h) : mj_is h 16 100 1024 := ⟨by have := hL.1; omega, hL.2.1 16 (by decide)⟩
theorem ly_17 (hL : Lay h) : mj_is h 17 100 1024 := ⟨by have := hL.1; omega, hL.2.1 17 (by decide)⟩
theorem ly_18 (hL : Lay h) : mj_is h 18 100 1024 := ⟨by have := hL.1; omega, hL.2.1 18 (by decide)⟩
theorem ly_19 (hL : Lay h) : mj_is h 19 100 1025 := ⟨by have := hL.1; omega, hL.2.1 19 (by decide)⟩
theorem ly_20 (hL : Lay h) : mj_is h 20 10 6 := ⟨by have := hL.1; omega, hL.2.1 20 (by decide)⟩
theorem ly_21 (hL : Lay h) : mj_is h 21 100 5 := ⟨by have := hL.1; omega, hL.2.1 21 (by decide)⟩
theorem ly_22 (hL : Lay h) : mj_is h 22 100 127 := ⟨by have := hL.1; omega, hL.2.1 22 (by decide)⟩
theorem ly_23 (hL : Lay h) : mj_is h 23 100 5 := ⟨by have := hL.1; omega, hL.2.1 23 (by decide)⟩
theorem ly_24 (hL : Lay h) : mj_is h 24 102 48 := ⟨by have := hL.1; omega, hL.2.1 24 (by decide)⟩
theorem ly_25 (hL : Lay h) : mj_is h 25 11 40 := ⟨by have := hL.1; omega, hL.2.1 25 (by decide)⟩
theorem ly_26 (hL : Lay h) : mj_is h 26 101 25 := ⟨by have := hL.1; omega, hL.2.1 26 (by decide)⟩
theorem ly_27 (hL : Lay h) : mj_is h 27 100 5 := ⟨by have := hL.1; omega, hL.2.1 27 (by decide)⟩
theorem ly_28 (hL : Lay h) : mj_is h 28 100 48 := ⟨by have := hL.1; omega, hL.2.1 28 (by decide)⟩
theorem ly_29 (hL : Lay h) : mj_is h 29 100 384 := ⟨by have := hL.1; omega, hL.2.1 29 (by decide)⟩
theorem ly_30 (hL : Lay h) : mj_is h 30 100 384 := ⟨by have := hL.1; omega, hL.2.1 30 (by decide)⟩
theorem ly_31 (hL : Lay h) : mj_is h 31 100 8 := ⟨by have := hL.1; omega, hL.2.1 31 (by decide)⟩
theorem ly_32 (hL : Lay h) : mj_is h 32 100 384 := ⟨by have := hL.1; omega, hL.2.1 32 (by decide)⟩
theorem ly_33 (hL : Lay h) : mj_is h 33 100 8 := ⟨by have := hL.1; omega, hL.2.1 33 (by decide)⟩
theorem ly_34 (hL : Lay h) : mj_is h 34 100 8 := ⟨by have := hL.1; omega, hL.2.1 34 (by decide)⟩
theorem ly_35 (hL : Lay h) : mj_is h 35 101 8 := ⟨by have := hL.1; omega, hL.2.1 35 (by decide)⟩
theorem ly_36 (hL : Lay h) : mj_is h 36 101 8 := ⟨by have := hL.1; omega, hL.2.1 36 (by decide)⟩
theorem ly_37 (hL : Lay h) : mj_is h 37 100 8 := ⟨by have := hL.1; omega, hL.2.1 37 (by decide)⟩
theorem ly_38 (hL : Lay h) : mj_is h 38 100 5 := ⟨by have := hL.1; omega, hL.2.1 38 (by decide)⟩
theorem ly_39 (hL : Lay h) : mj_is h 39 100 64 := ⟨by have := hL.1; omega, hL.2.1 39 (by decide)⟩
theorem ly_40 (hL : Lay h) : mj_is h 40 100 1024 := ⟨by have := hL.1; omega, hL.2.1 40 (by decide)⟩
theorem ly_41 (hL : Lay h) : mj_is h 41 100 5120 := ⟨by have := hL.1; omega, hL.2.1 41 (by decide)⟩
theorem ly_42 (hL : Lay h) : mj_is h 42 101 1024 := ⟨by have := hL.1; omega, hL.2.1 42 (by decide)⟩
theorem ly_43 (hL : Lay h) : mj_is h 43 101 1024 := ⟨by have := hL.1; omega, hL.2.1 43 (by decide)⟩
theorem ly_44 (hL : Lay h) : mj_is h 44 100 1024 := ⟨by have := hL.1; omega, hL.2.1 44 (by decide)⟩
theorem ly_45 (hL : Lay h) : mj_is h 45 100 1100 := ⟨by have := hL.1; omega, hL.2.1 45 (by decide)⟩
theorem lk_2 (hL : Lay h) : mj_ik h 2 100 := ⟨(ly_2 hL).1, by rw [(ly_2 hL).2]⟩
theorem ln_2 (hL : Lay h) : mj_ln h 2 = 5 := by rw [mj_ln, (ly_2 hL).2]
theorem lk_3 (hL : Lay h) : mj_ik h 3 100 := ⟨(ly_3 hL).1, by rw [(ly_3 hL).2]⟩
theorem ln_3 (hL : Lay h) : mj_ln h 3 = 5 := by rw [mj_ln, (ly_3 hL).2]
theorem lk_5 (hL : Lay h) : mj_ik h 5 100 := ⟨(ly_5 hL).1, by rw [(ly_5 hL).2]⟩
theorem ln_5 (hL : Lay h) : mj_ln h 5 = 5 := by rw [mj_ln, (ly_5 hL).2]
theorem lk_6 (hL : Lay h) : mj_ik h 6 100 := ⟨(ly_6 hL).1, by rw [(ly_6 hL).2]⟩
theorem ln_6 (hL : Lay h) : mj_ln h 6 = 127 := by rw [mj_ln, (ly_6 hL).2]
theorem lk_7 (hL : Lay h) : mj_ik h 7 100 := ⟨(ly_7 hL).1, by rw [(ly_7 hL).2]⟩
theorem ln_7 (hL : Lay h) : mj_ln h 7 = 5 := by rw [mj_ln, (ly_7 hL).2]
theorem lk_9 (hL : Lay h) : mj_ik h 9 200 := ⟨(ly_9 hL).1, by rw [(ly_9 hL).2]⟩
theorem ln_9 (hL : Lay h) : mj_ln h 9 = 6 := by rw [mj_ln, (ly_9 hL).2]
theorem lk_10 (hL : Lay h) : mj_ik h 10 201 := ⟨(ly_10 hL).1, by rw [(ly_10 hL).2]⟩
theorem ln_10 (hL : Lay h) : mj_ln h 10 = 6 := by rw [mj_ln, (ly_10 hL).2]
theorem lk_12 (hL : Lay h) : mj_ik h 12 100 := ⟨(ly_12 hL).1, by rw [(ly_12 hL).2]⟩
theorem ln_12 (hL : Lay h) : mj_ln h 12 = 1024 := by rw [mj_ln, (ly_12 hL).2]
theorem lk_13 (hL : Lay h) : mj_ik h 13 100 := ⟨(ly_13 hL).1, by rw [(ly_13 hL).2]⟩
theorem ln_13 (hL : Lay h) : mj_ln h 13 = 5120 := by rw [mj_ln, (ly_13 hL).2]
theorem lk_14 (hL : Lay h) : mj_ik h 14 101 := ⟨(ly_14 hL).1, by rw [(ly_14 hL).2]⟩
theorem ln_14 (hL : Lay h) : mj_ln h 14 = 1024 := by rw [mj_ln, (ly_14 hL).2]
theorem lk_15 (hL : Lay h) : mj_ik h 15 100 := ⟨(ly_15 hL).1, by rw [(ly_15 hL).2]⟩
theorem ln_15 (hL : Lay h) : mj_ln h 15 = 1024 := by rw [mj_ln, (ly_15 hL).2]
theorem lk_16 (hL : Lay h) : mj_ik h 16 100 := ⟨(ly_16 hL).1, by rw [(ly_16 hL).2]⟩
theorem ln_16 (hL : Lay h) : mj_ln h 16 = 1024 := by rw [mj_ln, (ly_16 hL).2]
theorem lk_17 (hL : Lay h) : mj_ik h 17 100 := ⟨(ly_17 hL).1, by rw [(ly_17 hL).2]⟩
theorem ln_17 (hL : Lay h) : mj_ln h 17 = 1024 := by rw [mj_ln, (ly_17 hL).2]
theorem lk_18 (hL : Lay h) : mj_ik h 18 100 := ⟨(ly_18 hL).1, by rw [(ly_18 hL).2]⟩
theorem ln_18 (hL : Lay h) : mj_ln h 18 = 1024 := by rw [mj_ln, (ly_18 hL).2]
theorem lk_19 (hL : Lay h) : mj_ik h 19 100 := ⟨(ly_19 hL).1, by rw [(ly_19 hL).2]⟩
theorem ln_19 (hL : Lay h) : mj_ln h 19 = 1025 := by rw [mj_ln, (ly_19 hL).2]
theorem lk_21 (hL : Lay h) : mj_ik h 21 100 := ⟨(ly_21 hL).1, by rw [(ly_21 hL).2]⟩
theorem ln_21 (hL : Lay h) : mj_ln h 21 = 5 := by rw [mj_ln, (ly_21 hL).2]
theorem lk_22 (hL : Lay h) : mj_ik h 22 100 := ⟨(ly_22 hL).1, by rw [(ly_22 hL).2]⟩
theorem ln_22 (hL : Lay h) : mj_ln h 22 = 127 := by rw [mj_ln, (ly_22 hL).2]
theorem lk_23 (hL : Lay h) : mj_ik h 23 100 := ⟨(ly_23 hL).1, by rw [(ly_23 hL).2]⟩
theorem ln_23 (hL : Lay h) : mj_ln h 23 = 5 := by rw [mj_ln, (ly_23 hL).2]
theorem lk_24 (hL : Lay h) : mj_ik h 24 102 := ⟨(ly_24 hL).1, by rw [(ly_24 hL).2]⟩
theorem ln_24 (hL : Lay h) : mj_ln h 24 = 48 := by rw [mj_ln, (ly_24 hL).2]
theorem lk_26 (hL : Lay h) : mj_ik h 26 101 := ⟨(ly_26 hL).1, by rw [(ly_26 hL).2]⟩
theorem ln_26 (hL : Lay h) : mj_ln h 26 = 25 := by rw [mj_ln, (ly_26 hL).2]
theorem lk_27 (hL : Lay h) : mj_ik h 27 100 := ⟨(ly_27 hL).1, by rw [(ly_27 hL).2]⟩
theorem ln_27 (hL : Lay h) : mj_ln h 27 = 5 := by rw [mj_ln, (ly_27 hL).2]
theorem lk_28 (hL : Lay h) : mj_ik h 28 100 := ⟨(ly_28 hL).1, by rw [(ly_28 hL).2]⟩
theorem ln_28 (hL : Lay h) : mj_ln h 28 = 48 := by rw [mj_ln, (ly_28 hL).2]
theorem lk_29 (hL : Lay h) : mj_ik h 29 100 := ⟨(ly_29 hL).1, by rw [(ly_29 hL).2]⟩
theorem ln_29 (hL : Lay h) : mj_ln h 29 = 384 := by rw [mj_ln, (ly_29 hL).2]
theorem lk_30 (hL : Lay h) : mj_ik h 30 100 := ⟨(ly_30 hL).1, by rw [(ly_30 hL).2]⟩
theorem ln_30 (hL : Lay h) : mj_ln h 30 = 384 := by rw [mj_ln, (ly_30 hL).2]
theorem lk_31 (hL : Lay h) : mj_ik h 31 100 := ⟨(ly_31 hL).1, by rw [(ly_31 hL).2]⟩
theorem ln_31 (hL : Lay h) : mj_ln h 31 = 8 := by rw [mj_ln, (ly_31 hL).2]
theorem lk_32 (hL : Lay h) : mj_ik h 32 100 := ⟨(ly_32 hL).1, by rw [(ly_32 hL).2]⟩
theorem ln_32 (hL : Lay h) : mj_ln h 32 = 384 := by rw [mj_ln, (ly_32 hL).2]
theorem lk_33 (hL : Lay h) : mj_ik h 33 100 := ⟨(ly_33 hL).1, by rw [(ly_33 hL).2]⟩
theorem ln_33 (hL : Lay h) : mj_ln h 33 = 8 := by rw [mj_ln, (ly_33 hL).2]
theorem lk_34 (hL : Lay h) : mj_ik h 34 100 := ⟨(ly_34 hL).1, by rw [(ly_34 hL).2]⟩
theorem ln_34 (hL : Lay h) : mj_ln h 34 = 8 := by rw [mj_ln, (ly_34 hL).2]
theorem lk_35 (hL : Lay h) : mj_ik h 35 101 := ⟨(ly_35 hL).1, by rw [(ly_35 hL).2]⟩
theorem ln_35 (hL : Lay h) : mj_ln h 35 = 8 := by rw [mj_ln, (ly_35 hL).2]
theorem lk_36 (hL : Lay h) : mj_ik h 36 101 := ⟨(ly_36 hL).1, by rw [(ly_36 hL).2]⟩
theorem ln_36 (hL : Lay h) : mj_ln h 36 = 8 := by rw [mj_ln, (ly_36 hL).2]
theorem lk_37 (hL : Lay h) : mj_ik h 37 100 := ⟨(ly_37 hL).1, by rw [(ly_37 hL).2]⟩
theorem ln_37 (hL : Lay h) : mj_ln h 37 = 8 := by rw [mj_ln, (ly_37 hL).2]
theorem lk_38 (hL : Lay h) : mj_ik h 38 100 := ⟨(ly_38 hL).1, by rw [(ly_38 hL).2]⟩
theorem ln_38 (hL : Lay h) : mj_ln h 38 = 5 := by rw [mj_ln, (ly_38 hL).2]
theorem lk_39 (hL : Lay h) : mj_ik h 39 100 := ⟨(ly_39 hL).1, by rw [(ly_39 hL).2]⟩
theorem ln_39 (hL : Lay h) : mj_ln h 39 = 64 := by rw [mj_ln, (ly_39 hL).2]
theorem lk_40 (hL : Lay h) : mj_ik h 40 100 := ⟨(ly_40 hL).1, by rw [(ly_40 hL).2]⟩
theorem ln_40 (hL : Lay h) : mj_ln h 40 = 1024 := by rw [mj_ln, (ly_40 hL).2]
theorem lk_41 (hL : Lay h) : mj_ik h 41 100 := ⟨(ly_41 hL).1, by rw [(ly_41 hL).2]⟩
theorem ln_41 (hL : Lay h) : mj_ln h 41 = 5120 := by rw [mj_ln, (ly_41 hL).2]
theorem lk_42 (hL : Lay h) : mj_ik h 42 101 := ⟨(ly_42 hL).1, by rw [(ly_42 hL).2]⟩
theorem ln_42 (hL : Lay h) : mj_ln h 42 = 1024 := by rw [mj_ln, (ly_42 hL).2]
theorem lk_43 (hL : Lay h) : mj_ik h 43 101 := ⟨(ly_43 hL).1, by rw [(ly_43 hL).2]⟩
theorem ln_43 (hL : Lay h) : mj_ln h 43 = 1024 := by rw [mj_ln, (ly_43 hL).2]
theorem lk_44 (hL : Lay h) : mj_ik h 44 100 := ⟨(ly_44 hL).1, by rw [(ly_44 hL).2]⟩
theorem ln_44 (hL : Lay h) : mj_ln h 44 = 1024 := by rw [mj_ln, (ly_44 hL).2]
theorem lk_45 (hL : Lay h) : mj_ik h 45 100 := ⟨(ly_45 hL).1, by rw [(ly_45 hL).2]⟩
theorem ln_45 (hL : Lay h) : mj_ln h 45 = 1100 := by rw [mj_ln, (ly_45 hL).2]
theorem lr_0_0 (hL : Lay h) : mj_r h 0 0 = some 1 := hL.2.2 (0, 0, 1) (by decide)
theorem lr_1_0 (hL : Lay h) : mj_r h 1 0 = some 2 := hL.2.2 (1, 0, 2) (by decide)
theorem lr_1_1 (hL : Lay h) : mj_r h 1 1 = some 3 := hL.2.2 (1, 1, 3) (by decide)
theorem lr_4_1 (hL : Lay h) : mj_r h 4 1 = some 5 := hL.2.2 (4, 1, 5) (by decide)
theorem lr_4_2 (hL : Lay h) : mj_r h 4 2 = some 6 := hL.2.2 (4, 2, 6) (by decide)
theorem lr_4_3 (hL : Lay h) : mj_r h 4 3 = some 7 := hL.2.2 (4, 3, 7) (by decide)
theorem lr_4_0 (hL : Lay h) : mj_r h 4 0 = some 1 := hL.2.2 (4, 0, 1) (by decide)
theorem lr_0_1 (hL : Lay h) : mj_r h 0 1 = some 4 := hL.2.2 (0, 1, 4) (by decide)
theorem lr_8_0 (hL : Lay h) : mj_r h 8 0 = some 9 := hL.2.2 (8, 0, 9) (by decide)
theorem lr_8_1 (hL : Lay h) : mj_r h 8 1 = some 10 := hL.2.2 (8, 1, 10) (by decide)
theorem lr_0_2 (hL : Lay h) : mj_r h 0 2 = some 8 := hL.2.2 (0, 2, 8) (by decide)
theorem lr_11_3 (hL : Lay h) : mj_r h 11 3 = some 12 := hL.2.2 (11, 3, 12) (by decide)
theorem lr_11_4 (hL : Lay h) : mj_r h 11 4 = some 13 := hL.2.2 (11, 4, 13) (by decide)
theorem lr_11_5 (hL : Lay h) : mj_r h 11 5 = some 14 := hL.2.2 (11, 5, 14) (by decide)
theorem lr_11_6 (hL : Lay h) : mj_r h 11 6 = some 15 := hL.2.2 (11, 6, 15) (by decide)
theorem lr_11_7 (hL : Lay h) : mj_r h 11 7 = some 16 := hL.2.2 (11, 7, 16) (by decide)
theorem lr_11_8 (hL : Lay h) : mj_r h 11 8 = some 17 := hL.2.2 (11, 8, 17) (by decide)
theorem lr_11_9 (hL : Lay h) : mj_r h 11 9 = some 18 := hL.2.2 (11, 9, 18) (by decide)
theorem lr_11_10 (hL : Lay h) : mj_r h 11 10 = some 19 := hL.2.2 (11, 10, 19) (by decide)
theorem lr_11_0 (hL : Lay h) : mj_r h 11 0 = some 1 := hL.2.2 (11, 0, 1) (by decide)
theorem lr_11_1 (hL : Lay h) : mj_r h 11 1 = some 8 := hL.2.2 (11, 1, 8) (by decide)
theorem lr_20_1 (hL : Lay h) : mj_r h 20 1 = some 21 := hL.2.2 (20, 1, 21) (by decide)
theorem lr_20_2 (hL : Lay h) : mj_r h 20 2 = some 22 := hL.2.2 (20, 2, 22) (by decide)
theorem lr_20_3 (hL : Lay h) : mj_r h 20 3 = some 23 := hL.2.2 (20, 3, 23) (by decide)
theorem lr_20_0 (hL : Lay h) : mj_r h 20 0 = some 1 := hL.2.2 (20, 0, 1) (by decide)
theorem lr_11_2 (hL : Lay h) : mj_r h 11 2 = some 20 := hL.2.2 (11, 2, 20) (by decide)
theorem lr_0_3 (hL : Lay h) : mj_r h 0 3 = some 11 := hL.2.2 (0, 3, 11) (by decide)
theorem lr_0_4 (hL : Lay h) : mj_r h 0 4 = some 24 := hL.2.2 (0, 4, 24) (by decide)
theorem lr_25_3 (hL : Lay h) : mj_r h 25 3 = some 26 := hL.2.2 (25, 3, 26) (by decide)
theorem lr_25_4 (hL : Lay h) : mj_r h 25 4 = some 27 := hL.2.2 (25, 4, 27) (by decide)
theorem lr_25_10 (hL : Lay h) : mj_r h 25 10 = some 28 := hL.2.2 (25, 10, 28) (by decide)
theorem lr_25_12 (hL : Lay h) : mj_r h 25 12 = some 29 := hL.2.2 (25, 12, 29) (by decide)
theorem lr_25_13 (hL : Lay h) : mj_r h 25 13 = some 30 := hL.2.2 (25, 13, 30) (by decide)
theorem lr_25_14 (hL : Lay h) : mj_r h 25 14 = some 31 := hL.2.2 (25, 14, 31) (by decide)
theorem lr_25_15 (hL : Lay h) : mj_r h 25 15 = some 32 := hL.2.2 (25, 15, 32) (by decide)
theorem lr_25_16 (hL : Lay h) : mj_r h 25 16 = some 33 := hL.2.2 (25, 16, 33) (by decide)
theorem lr_25_18 (hL : Lay h) : mj_r h 25 18 = some 34 := hL.2.2 (25, 18, 34) (by decide)
theorem lr_25_19 (hL : Lay h) : mj_r h 25 19 = some 35 := hL.2.2 (25, 19, 35) (by decide)
theorem lr_25_20 (hL : Lay h) : mj_r h 25 20 = some 36 := hL.2.2 (25, 20, 36) (by decide)
theorem lr_25_21 (hL : Lay h) : mj_r h 25 21 = some 37 := hL.2.2 (25, 21, 37) (by decide)
theorem lr_25_28 (hL : Lay h) : mj_r h 25 28 = some 38 := hL.2.2 (25, 28, 38) (by decide)
theorem lr_25_29 (hL : Lay h) : mj_r h 25 29 = some 39 := hL.2.2 (25, 29, 39) (by decide)
theorem lr_25_33 (hL : Lay h) : mj_r h 25 33 = some 40 := hL.2.2 (25, 33, 40) (by decide)
theorem lr_25_34 (hL : Lay h) : mj_r h 25 34 = some 41 := hL.2.2 (25, 34, 41) (by decide)
theorem lr_25_35 (hL : Lay h) : mj_r h 25 35 = some 42 := hL.2.2 (25, 35, 42) (by decide)
theorem lr_25_36 (hL : Lay h) : mj_r h 25 36 = some 43 := hL.2.2 (25, 36, 43) (by decide)
theorem lr_25_37 (hL : Lay h) : mj_r h 25 37 = some 44 := hL.2.2 (25, 37, 44) (by decide)
theorem lr_25_39 (hL : Lay h) : mj_r h 25 39 = some 45 := hL.2.2 (25, 39, 45) (by decide)
end LayRows
section HeapRows
variable {h : MH} {a b k j n kd : Nat} {x : Int32} {f : Nat → Int32} {o : Option Nat}
theorem mj_is_wi : mj_is (mj_wi h a k x) b kd n ↔ mj_is h b kd n := Iff.rfl
theorem mj_is_wa : mj_is (mj_wa h a f) b kd n ↔ mj_is h b kd n := Iff.rfl
theorem mj_is_wr : mj_is (mj_wr h a k o) b kd n ↔ mj_is h b kd n := Iff.rfl
theorem mj_ik_wi : mj_ik (mj_wi h a k x) b kd ↔ mj_ik h b kd := Iff.rfl
theorem mj_ik_wa : mj_ik (mj_wa h a f) b kd ↔ mj_ik h b kd := Iff.rfl
theorem mj_ik_wr : mj_ik (mj_wr h a k o) b kd ↔ mj_ik h b kd := Iff.rfl
theorem mj_ln_wi : mj_ln (mj_wi h a k x) b = mj_ln h b := rfl
theorem mj_ln_wa : mj_ln (mj_wa h a f) b = mj_ln h b := rfl
theorem mj_ln_wr : mj_ln (mj_wr h a k o) b = mj_ln h b := rfl
theorem mj_z_wi : mj_z (mj_wi h a k x) = mj_z h := rfl
theorem mj_z_wa : mj_z (mj_wa h a f) = mj_z h := rfl
theorem mj_z_wr : mj_z (mj_wr h a k o) = mj_z h := rfl
theorem mj_u_wi : mj_u (mj_wi h a k x) = mj_u h := rfl
theorem mj_u_wa : mj_u (mj_wa h a f) = mj_u h := rfl
theorem mj_u_wr : mj_u (mj_wr h a k o) = mj_u h := rfl
theorem mj_i_wi : mj_i (mj_wi h a k x) b j = if b = a ∧ j = k then x else mj_i h b j := by
  by_cases hb : b = a
  · subst hb
    rw [mj_wi, mj_wa_i]
    by_cases hj : j = k <;> simp [upd, hj]
  · rw [mj_wi, mj_wa_o hb]
    simp [hb]
theorem mj_i_wa : mj_i (mj_wa h a f) b j = if b = a then f j else mj_i h b j := by
  by_cases hb : b = a
  · subst hb
    rw [mj_wa_i]
    simp
  · rw [mj_wa_o hb]
    simp [hb]
theorem mj_i_wr : mj_i (mj_wr h a k o) b j = mj_i h b j := rfl
theorem mj_r_wi : mj_r (mj_wi h a k x) b j = mj_r h b j := rfl
theorem mj_r_wa : mj_r (mj_wa h a f) b j = mj_r h b j := rfl
theorem mj_r_wr : mj_r (mj_wr h a k o) b j = if b = a ∧ j = k then o else mj_r h b j := by
  by_cases hb : b = a
  · subst hb
    rw [mj_wr_r]
    by_cases hj : j = k <;> simp [va_up, hj]
  · rw [mj_wr_o hb]
    simp [hb]
theorem mj_rv_some : mj_rv (some a) = .ref a := rfl
theorem mj_rv_none : mj_rv none = .null := rfl
theorem mj_fit_n0 : mj_fit .boolean (nI 0) = true := by decide
theorem mj_fit_n1 : mj_fit .boolean (nI 1) = true := by decide
theorem Lay_wi : Lay (mj_wi h a k x) ↔ Lay h := Iff.rfl
theorem Lay_wa : Lay (mj_wa h a f) ↔ Lay h := Iff.rfl
theorem Lay_wr (hn : ∀ q ∈ ly_R, ¬ (q.1 = a ∧ q.2.1 = k)) (hL : Lay h) : Lay (mj_wr h a k o) := by
  refine ⟨hL.1, hL.2.1, fun q hq => ?_⟩
  rw [mj_r_wr, if_neg (hn q hq)]
  exact hL.2.2 q hq
theorem Lay_nw (hL : Lay h) : Lay (mj_nw h kd n) := by
  have h0 := hL.1
  refine ⟨by rw [mj_nw_z]; omega, fun a ha => ?_, fun q hq => ?_⟩
  · rw [mj_nw_mo (by omega)]
    exact hL.2.1 a ha
  · have h1 : ∀ q ∈ ly_R, q.1 < 46 := by decide
    have h2 := h1 q hq
    rw [mj_nw_ro (by omega)]
    exact hL.2.2 q hq
theorem mj_in_nI {N : Nat} (hj : j < N) (hN : N < 2 ^ 31) : mj_in (nI j) N = true := by
  simp only [mj_in, Bool.and_eq_true, Bool.not_eq_true', decide_eq_false_iff_not, decide_eq_true_eq]
  exact ⟨nI_pos (by omega), by rw [nI_clamp (by omega)]; exact hj⟩
end HeapRows
