/-! The graph's methods. -/
section GraphK
variable {L : Nat} {xs : Nat → Int32} {d : Nat} {h : MH} {Q : Option Value × MH → Prop}
theorem k_has (hL : Lay h) {a : Int32} : mj_Wp L xs d 13 0 [some (.ref 1), some (.int a)] [] h Q ↔ Q (some (.int (if a < nI 0 ∨ mj_i h 1 2 ≤ a then nI 0 else nI 1)), h) := by
  simp only [w_13_0, w_13_1, w_13_4, w_13_5, w_13_6, w_13_9, w_13_12, w_13_13, w_13_16, w_13_17, ly_1 hL, mj_fit_n0, mj_fit_n1]
  by_cases h1 : a < nI 0 <;> by_cases h2 : mj_i h 1 2 ≤ a <;> simp [h1, h2]
theorem k_linked (hL : Lay h) {a b : Int32} (ha : mj_in a 5 = true) : mj_Wp L xs d 14 0 [some (.ref 1), some (.int a), some (.int b)] [] h Q ↔ Q (some (.int (if (mj_i h 2 a.toNatClampNeg >>> (b &&& 31)) &&& nI 1 = nI 0 then nI 0 else nI 1)), h) := by
  simp only [w_14_0, w_14_1, w_14_4, w_14_5, w_14_6, w_14_7, w_14_8, w_14_9, w_14_10, w_14_13, w_14_14, w_14_17, w_14_18, ly_1 hL, lr_1_0 hL, lk_2 hL, ln_2 hL, ha, mj_rv_some, mj_fit_n0, mj_fit_n1]
  split <;> rfl
theorem k_digit (hL : Lay h) {s a : Int32} (ha : mj_in a 5 = true) (hw : ¬ mj_i h 3 a.toNatClampNeg = 0) (hk : ¬ mj_i h 1 3 = 0) : mj_Wp L xs d 44 0 [some (.ref 1), some (.int s), some (.int a)] [] h Q ↔ Q (some (.int (s / mj_i h 3 a.toNatClampNeg - s / mj_i h 3 a.toNatClampNeg / mj_i h 1 3 * mj_i h 1 3)), h) := by
  simp only [w_44_0, w_44_1, w_44_2, w_44_5, w_44_6, w_44_7, w_44_8, w_44_9, w_44_12, w_44_13, ly_1 hL, lr_1_1 hL, lk_3 hL, ln_3 hL, ha, hw, hk, mj_rv_some, not_false_eq_true]
theorem k_link (hL : Lay h) {a b : Int32} (ha : mj_in a 5 = true) (hb : mj_in b 5 = true) : mj_Wp L xs d 15 0 [some (.ref 1), some (.int a), some (.int b)] [] h Q ↔ Q (none, mj_wi (mj_wi (mj_wi h 2 a.toNatClampNeg (mj_i h 2 a.toNatClampNeg ||| (nI 1 <<< (b &&& 31)))) 2 b.toNatClampNeg (mj_i (mj_wi h 2 a.toNatClampNeg (mj_i h 2 a.toNatClampNeg ||| (nI 1 <<< (b &&& 31)))) 2 b.toNatClampNeg ||| (nI 1 <<< (a &&& 31)))) 1 4 (mj_i h 1 4 + nI 1)) := by
  simp only [w_15_0, w_15_1, w_15_4, w_15_5, w_15_6, w_15_7, w_15_8, w_15_9, w_15_10, w_15_11, w_15_12, w_15_13, w_15_16, w_15_17, w_15_18, w_15_19, w_15_20, w_15_21, w_15_22, w_15_23, w_15_24, w_15_25, w_15_26, w_15_29, w_15_30, w_15_31, w_15_34, ly_1 hL, lr_1_0 hL, lk_2 hL, ln_2 hL, ha, hb, mj_rv_some, mj_is_wi, mj_ik_wi, mj_ln_wi, mj_r_wi]
  have e1 : ∀ (k : Nat) (x : Int32) (h' : MH), mj_i (mj_wi h' 2 k x) 1 4 = mj_i h' 1 4 := fun k x h' => by rw [mj_i_wi]; simp
  simp only [e1]
end GraphK
