/-! Sums: Sum.total. -/
def svF (pt : Nat → Int32) (cs : Nat → Nat) (ng : Nat → Bool) : Nat → Int32
  | 0 => nI 0
  | i + 1 => svF pt cs ng i + (if ng i = true then -(pt (cs i)) else pt (cs i))
def smF (k : Nat) (pt : Nat → Int32) (m : Nat) (cs : Nat → Nat) (ng : Nat → Bool) (w : Bool) : Int32 := if w = true then fmI (svF pt cs ng m) (nI k) else svF pt cs ng m
/-- a is a Sum: m parts cs, negative where ng says so, wrapped where w -/
def SumAt (h : MH) (a m : Nat) (cs : Nat → Nat) (ng : Nat → Bool) (w : Bool) : Prop := ∃ T f len : Nat, 46 ≤ a ∧ 46 ≤ T ∧ mj_is h a 9 4 ∧ mj_r h a 0 = some T ∧ mj_ik h T 102 ∧ mj_ln h T = len ∧ len ≤ 48 ∧ mj_i h a 1 = nI f ∧ mj_i h a 2 = nI (f + 2 * m - 1) ∧ f + 2 * m - 1 ≤ len ∧ 1 ≤ m ∧ mj_i h a 3 = (if w = true then nI 1 else nI 0) ∧ (∀ i, i < m → mj_i h T (f + 2 * i) = nI (cs i) ∧ cs i < 127) ∧ (∀ i, 0 < i → i < m → (mj_i h T (f + 2 * i - 1) = nI 45 ↔ ng i = true)) ∧ ng 0 = false
section SumK
variable {L : Nat} {xs : Nat → Int32} {d : Nat} {Q : Option Value × MH → Prop}
theorem k_total_loop {h : MH} {a T f len m v k : Nat} {cs : Nat → Nat} {ng : Nat → Bool} {w : Bool} {X : Option Value} (hL : Lay h) (hV : VL h v) (hk : mj_i h 1 3 = nI k) (hk0 : 0 < k) (hk4 : k ≤ 4)
    (s1 : mj_is h a 9 4) (s2 : mj_r h a 0 = some T) (s3 : mj_ik h T 102) (s4 : mj_ln h T = len) (s5 : len ≤ 48) (s6 : mj_i h a 1 = nI f) (s7 : mj_i h a 2 = nI (f + 2 * m - 1)) (s8 : f + 2 * m - 1 ≤ len) (s9 : 1 ≤ m) (s10 : mj_i h a 3 = (if w = true then nI 1 else nI 0)) (s11 : ∀ i, i < m → mj_i h T (f + 2 * i) = nI (cs i) ∧ cs i < 127) (s12 : ∀ i, 0 < i → i < m → (mj_i h T (f + 2 * i - 1) = nI 45 ↔ ng i = true)) (s13 : ng 0 = false) : ∀ (r i : Nat) (X : Option Value), i + r = m →
    (mj_Wp L xs (d + 1) 51 7 [some (.ref a), some (.ref v), some (.int (svF (mj_i h (v + 2)) cs ng i)), some (.int (nI (f + 2 * i))), X] [] h Q ↔ Q (some (.int (smF k (mj_i h (v + 2)) m cs ng w)), h)) := by
  obtain ⟨v1, v2, v3, v4, v5, v6, v7, v8, v9, v10, v11⟩ := hV
  intro r
  induction r with
  | zero =>
    intro i X e
    have e : i = m := by omega
    subst e
    have h0 : f + 2 * i - 1 ≤ f + 2 * i := by omega
    have hkn : ¬ nI k = 0 := nI_ne0 hk0 (by omega)
    rw [w_51_7]
    simp only [w_51_8, w_51_9, w_51_12, w_51_66, w_51_67, w_51_70, w_51_73, w_51_74, w_51_75, w_51_78, w_51_81, w_51_84, w_51_87, w_51_88, s1, s7, s10, v1, v2, ly_1 hL, hk, hkn, mj_rv_some, nI_leI (show f + 2 * i - 1 < 2 ^ 31 by omega) (show f + 2 * i < 2 ^ 31 by omega), h0, if_true, k_floorMod hkn, Option.toList, List.cons_append, List.nil_append, smF]
    cases w <;> simp [show ¬ nI 1 = nI 0 by decide]
  | succ r ih =>
    intro i X e
    have h0 : ¬ f + 2 * m - 1 ≤ f + 2 * i := by omega
    have e1 : mj_in (nI (f + 2 * i)) len = true := mj_in_nI (by omega) (by omega)
    have e2 : (nI (f + 2 * i)).toNatClampNeg = f + 2 * i := nI_clamp (by omega)
    obtain ⟨c1, c2⟩ := s11 i (by omega)
    have e3 : mj_in (nI (cs i)) 127 = true := mj_in_nI c2 (by omega)
    have e4 : (nI (cs i)).toNatClampNeg = cs i := nI_clamp (by omega)
    have e5 : f + 2 * i + 2 = f + 2 * (i + 1) := by omega
    rw [w_51_7]
    simp only [w_51_8, w_51_9, w_51_12, w_51_15, w_51_16, w_51_19, w_51_20, w_51_23, w_51_24, w_51_25, w_51_26, w_51_28, w_51_29, w_51_30, w_51_31, w_51_34, w_51_56, w_51_58, w_51_59, w_51_60, w_51_63, s1, s2, s3, s4, s6, s7, v1, v4, v8, v9, mj_rv_some, nI_leI (show f + 2 * m - 1 < 2 ^ 31 by omega) (show f + 2 * i < 2 ^ 31 by omega), h0, if_false, e1, e2, c1, e3, e4, nI_leI (show f + 2 * i < 2 ^ 31 by omega) (show f < 2 ^ 31 by omega), nI_add, e5]
    by_cases hi : i = 0
    · subst hi
      simp only [show f + 2 * 0 ≤ f by omega, if_true]
      have := ih 1 (some (.int (mj_i h (v + 2) (cs 0)))) (by omega)
      simp only [svF, s13] at this
      simpa [svF] using this
    · have e6 : nI (f + 2 * i) - nI 1 = nI (f + 2 * i - 1) := pk_sub (by omega)
      have e7 : mj_in (nI (f + 2 * i - 1)) len = true := mj_in_nI (by omega) (by omega)
      have e8 : (nI (f + 2 * i - 1)).toNatClampNeg = f + 2 * i - 1 := nI_clamp (by omega)
      have e9 := s12 i (by omega) (by omega)
      simp only [show ¬ f + 2 * i ≤ f by omega, if_false, w_51_37, w_51_38, w_51_41, w_51_42, w_51_43, w_51_44, w_51_45, w_51_47, w_51_50, w_51_52, w_51_53, w_51_56, w_51_58, w_51_59, w_51_60, w_51_63, s1, s2, s3, s4, mj_rv_some, e6, e7, e8, nI_add, e5]
      have := ih (i + 1) (some (.int (mj_i h (v + 2) (cs i)))) (by omega)
      simp only [svF] at this
      by_cases hg : ng i = true
      · simp only [e9.mpr hg, not_true_eq_false, if_false]
        simp only [hg, if_true] at this
        exact this
      · have hg2 : ¬ mj_i h T (f + 2 * i - 1) = nI 45 := fun z => hg (e9.mp z)
        simp only [hg2, not_false_eq_true, if_true]
        simp only [hg, if_false] at this
        exact this
theorem k_total {h : MH} {a m v k : Nat} {cs : Nat → Nat} {ng : Nat → Bool} {w : Bool} (hL : Lay h) (hV : VL h v) (hk : mj_i h 1 3 = nI k) (hk0 : 0 < k) (hk4 : k ≤ 4) (hS : SumAt h a m cs ng w) : mj_Wp L xs (d + 1) 51 0 [some (.ref a), some (.ref v), none, none, none] [] h Q ↔ Q (some (.int (smF k (mj_i h (v + 2)) m cs ng w)), h) := by
  obtain ⟨T, f, len, -, -, s1, s2, s3, s4, s5, s6, s7, s8, s9, s10, s11, s12, s13⟩ := hS
  simp only [w_51_0, w_51_1, w_51_2, w_51_3, s1, s6, w_51_6]
  exact k_total_loop (X := none) hL hV hk hk0 hk4 s1 s2 s3 s4 s5 s6 s7 s8 s9 s10 s11 s12 s13 m 0 none (by omega)
end SumK
