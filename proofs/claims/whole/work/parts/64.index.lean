/-! The reader's letters: String.indexOf on the two literals. -/
def ixI (lit : Nat → Int32) (c : Int32) : Nat → Nat → Int32
  | 0, _ => -1
  | m + 1, i => if lit i = c then nI i else ixI lit c m (i + 1)
/-- is it a part of a sum -/
def isP (nb : Bool) (c : Nat) : Bool := (decide (48 ≤ c) && decide (c ≤ 57)) || c == 120 || c == 105 || c == 100 || c == 109 || c == 77 || c == 108 || c == 117 || c == 110 || c == 107 || (nb && (c == 121 || c == 106))
theorem isP_ok {nb : Bool} {c : Nat} : isP nb c = true ↔ okN nb c := by
  simp only [isP, okN, okC, Bool.or_eq_true, Bool.and_eq_true, decide_eq_true_eq, beq_iff_eq]
  cases nb <;> simp <;> omega
theorem ix0_P : ∀ c, c < 127 → decide (nI 0 ≤ ixI (mj_lit 0) (nI c).toInt8.toInt32 19 0) = isP false c := by decide +kernel
theorem ix1_P : ∀ c, c < 127 → decide (nI 0 ≤ ixI (mj_lit 1) (nI c).toInt8.toInt32 2 0) = (c == 121 || c == 106) := by decide +kernel
section IxK
variable {L : Nat} {xs : Nat → Int32} {d : Nat} {Q : Option Value × MH → Prop} {h : MH}
theorem k_ix0_loop {c' c2 : Int32} {X : Option Value} : ∀ (m i : Nat), i + m = 19 → (mj_Wp L xs d 149 7 [some (.retAddr 2), some (.int c'), X, some (.int (nI 19)), some (.int c2), some (.int (nI i))] [] h Q ↔ Q (some (.int (ixI (mj_lit 0) c2 m i)), h))
  | 0, i, hi => by
    have hi : i = 19 := by omega
    subst hi
    rw [w_149_7]
    simp only [w_149_9, w_149_10, w_149_31, w_149_32, show nI 19 ≤ nI 19 by decide, if_true, ixI]
  | m + 1, i, hi => by
    have e0 : ¬ nI 19 ≤ nI i := by rw [nI_leI (by omega) (by omega)]; omega
    have e1 : mj_in (nI i) 19 = true := mj_in_nI (by omega) (by omega)
    have e2 : (nI i).toNatClampNeg = i := nI_clamp (by omega)
    rw [w_149_7]
    simp only [w_149_9, w_149_10, e0, if_false, w_149_13, w_149_14, w_149_16_0 e1, e2, w_149_17, w_149_19, w_149_22, w_149_24, w_149_25, w_149_28, nI_add, k_ix0_loop m (i + 1) (by omega), ixI]
    by_cases hc : mj_lit 0 i = c2 <;> simp [hc]
theorem k_ix1_loop {c' c2 : Int32} {X : Option Value} : ∀ (m i : Nat), i + m = 2 → (mj_Wp L xs d 149 7 [some (.retAddr 4), some (.int c'), X, some (.int (nI 2)), some (.int c2), some (.int (nI i))] [] h Q ↔ Q (some (.int (ixI (mj_lit 1) c2 m i)), h))
  | 0, i, hi => by
    have hi : i = 2 := by omega
    subst hi
    rw [w_149_7]
    simp only [w_149_9, w_149_10, w_149_31, w_149_32, show nI 2 ≤ nI 2 by decide, if_true, ixI]
  | m + 1, i, hi => by
    have e0 : ¬ nI 2 ≤ nI i := by rw [nI_leI (by omega) (by omega)]; omega
    have e1 : mj_in (nI i) 2 = true := mj_in_nI (by omega) (by omega)
    have e2 : (nI i).toNatClampNeg = i := nI_clamp (by omega)
    rw [w_149_7]
    simp only [w_149_9, w_149_10, e0, if_false, w_149_13, w_149_14, w_149_16_1 e1, e2, w_149_17, w_149_19, w_149_22, w_149_24, w_149_25, w_149_28, nI_add, k_ix1_loop m (i + 1) (by omega), ixI]
    by_cases hc : mj_lit 1 i = c2 <;> simp [hc]
theorem k_indexOf0 {c : Nat} (hc : c < 127) : mj_Wp L xs (d + 1 + 1 + 1 + 1) 142 0 [some (.retAddr 1), some (.int (nI c))] [] h Q ↔ Q (some (.int (ixI (mj_lit 0) (nI c).toInt8.toInt32 19 0)), h) := by
  have p1 : ¬ nI c < nI 0 := by rw [nI_ltI (by omega) (by omega)]; omega
  have p2 : ¬ nI 255 < nI c := by rw [nI_ltI (by omega) (by omega)]; omega
  have n10 : ¬ nI 1 = nI 0 := by decide
  have z1 : nI 19 >>> (nI 0 &&& 31) = nI 19 := by decide
  have f0 : mj_fit .byte (nI 0) = true := by decide
  simp only [w_142_0, w_142_1, w_142_2, w_142_3_0, w_142_3_1, w_142_6, w_143_0, w_143_1_0, w_143_1_1, w_143_4, w_143_7, w_143_8_0, w_143_8_1, w_143_11, w_143_12, w_143_13, w_143_14_0, w_143_14_1, w_143_17, w_143_20, w_143_36, w_144_0, w_144_3, w_144_6, w_144_7_0, w_144_7_1, w_144_10, w_144_13, w_144_14, w_144_17, w_144_18, w_145_0, w_145_1_0, w_145_1_1, w_145_4_0, w_145_4_1, w_145_5, w_145_6_0, w_145_6_1, w_145_9, w_145_10, w_146_0, w_146_3, w_146_6, w_146_7_0, w_146_7_1, w_146_10, w_146_13, w_146_14, w_147_0, w_147_1, w_147_4, w_147_7, w_147_8, w_147_9, w_147_10, w_147_11, w_147_14, w_147_15, w_147_16, w_147_17_0, w_147_17_1, w_147_18, w_147_21, w_147_22, w_147_23, w_147_24, w_147_27, w_147_28, w_147_29, w_147_30, w_147_31, w_147_32, w_147_33, w_147_36, w_148_0, w_148_1, w_148_4, w_148_5, w_148_8, w_148_11, w_148_12, w_148_15, w_148_16, w_149_0, w_149_1, w_149_2, w_149_4, w_149_5, n10, if_false, if_true, not_true_eq_false, not_false_eq_true, mj_fit_n0, mj_fit_n1, f0, Option.toList, List.cons_append, List.nil_append, z1, p1, p2, k_max, k_min, show mxI (nI 0) (nI 0) = nI 0 by decide, show mnI (nI 19) (nI 19) = nI 19 by decide, show nI 0 < nI 19 by decide, k_ix0_loop 19 0 rfl]
theorem k_indexOf1 {c : Nat} (hc : c < 127) : mj_Wp L xs (d + 1 + 1 + 1 + 1) 142 0 [some (.retAddr 3), some (.int (nI c))] [] h Q ↔ Q (some (.int (ixI (mj_lit 1) (nI c).toInt8.toInt32 2 0)), h) := by
  have p1 : ¬ nI c < nI 0 := by rw [nI_ltI (by omega) (by omega)]; omega
  have p2 : ¬ nI 255 < nI c := by rw [nI_ltI (by omega) (by omega)]; omega
  have n10 : ¬ nI 1 = nI 0 := by decide
  have z1 : nI 2 >>> (nI 0 &&& 31) = nI 2 := by decide
  have f0 : mj_fit .byte (nI 0) = true := by decide
  simp only [w_142_0, w_142_1, w_142_2, w_142_3_0, w_142_3_1, w_142_6, w_143_0, w_143_1_0, w_143_1_1, w_143_4, w_143_7, w_143_8_0, w_143_8_1, w_143_11, w_143_12, w_143_13, w_143_14_0, w_143_14_1, w_143_17, w_143_20, w_143_36, w_144_0, w_144_3, w_144_6, w_144_7_0, w_144_7_1, w_144_10, w_144_13, w_144_14, w_144_17, w_144_18, w_145_0, w_145_1_0, w_145_1_1, w_145_4_0, w_145_4_1, w_145_5, w_145_6_0, w_145_6_1, w_145_9, w_145_10, w_146_0, w_146_3, w_146_6, w_146_7_0, w_146_7_1, w_146_10, w_146_13, w_146_14, w_147_0, w_147_1, w_147_4, w_147_7, w_147_8, w_147_9, w_147_10, w_147_11, w_147_14, w_147_15, w_147_16, w_147_17_0, w_147_17_1, w_147_18, w_147_21, w_147_22, w_147_23, w_147_24, w_147_27, w_147_28, w_147_29, w_147_30, w_147_31, w_147_32, w_147_33, w_147_36, w_148_0, w_148_1, w_148_4, w_148_5, w_148_8, w_148_11, w_148_12, w_148_15, w_148_16, w_149_0, w_149_1, w_149_2, w_149_4, w_149_5, n10, if_false, if_true, not_true_eq_false, not_false_eq_true, mj_fit_n0, mj_fit_n1, f0, Option.toList, List.cons_append, List.nil_append, z1, p1, p2, k_max, k_min, show mxI (nI 0) (nI 0) = nI 0 by decide, show mnI (nI 2) (nI 2) = nI 2 by decide, show nI 0 < nI 2 by decide, k_ix1_loop 2 0 rfl]
end IxK
