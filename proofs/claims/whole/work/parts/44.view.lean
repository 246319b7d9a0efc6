/-! A state as a node sees it: View. -/
theorem ci_110 : mj_in (nI 110) 127 = true := by decide
theorem cc_110 : (nI 110).toNatClampNeg = 110 := by decide
theorem ci_107 : mj_in (nI 107) 127 = true := by decide
theorem cc_107 : (nI 107).toNatClampNeg = 107 := by decide
theorem ci_120 : mj_in (nI 120) 127 = true := by decide
theorem cc_120 : (nI 120).toNatClampNeg = 120 := by decide
theorem ci_105 : mj_in (nI 105) 127 = true := by decide
theorem cc_105 : (nI 105).toNatClampNeg = 105 := by decide
theorem ci_108 : mj_in (nI 108) 127 = true := by decide
theorem cc_108 : (nI 108).toNatClampNeg = 108 := by decide
theorem ci_117 : mj_in (nI 117) 127 = true := by decide
theorem cc_117 : (nI 117).toNatClampNeg = 117 := by decide
theorem ci_100 : mj_in (nI 100) 127 = true := by decide
theorem cc_100 : (nI 100).toNatClampNeg = 100 := by decide
theorem ci_109 : mj_in (nI 109) 127 = true := by decide
theorem cc_109 : (nI 109).toNatClampNeg = 109 := by decide
theorem ci_77 : mj_in (nI 77) 127 = true := by decide
theorem cc_77 : (nI 77).toNatClampNeg = 77 := by decide
theorem ci_121 : mj_in (nI 121) 127 = true := by decide
theorem cc_121 : (nI 121).toNatClampNeg = 121 := by decide
theorem ci_106 : mj_in (nI 106) 127 = true := by decide
theorem cc_106 : (nI 106).toNatClampNeg = 106 := by decide
/-- the value of node a in state s -/
def dg (n k s a : Nat) : Nat := s / k ^ (n - 1 - a) % k
/-- a view's cells: v is 4 or 20 -/
def VL (h : MH) (v : Nat) : Prop := mj_is h v 10 6 ∧ mj_r h v 0 = some 1 ∧ mj_r h v 1 = some (v + 1) ∧ mj_r h v 2 = some (v + 2) ∧ mj_r h v 3 = some (v + 3) ∧ mj_ik h (v + 1) 100 ∧ mj_ln h (v + 1) = 5 ∧ mj_ik h (v + 2) 100 ∧ mj_ln h (v + 2) = 127 ∧ mj_ik h (v + 3) 100 ∧ mj_ln h (v + 3) = 5
theorem VL_4 {h : MH} (hL : Lay h) : VL h 4 := ⟨ly_4 hL, lr_4_0 hL, lr_4_1 hL, lr_4_2 hL, lr_4_3 hL, lk_5 hL, ln_5 hL, lk_6 hL, ln_6 hL, lk_7 hL, ln_7 hL⟩
theorem VL_20 {h : MH} (hL : Lay h) : VL h 20 := ⟨ly_20 hL, lr_20_0 hL, lr_20_1 hL, lr_20_2 hL, lr_20_3 hL, lk_21 hL, ln_21 hL, lk_22 hL, ln_22 hL, lk_23 hL, ln_23 hL⟩
theorem VL_sx {S : List Nat} {h h' : MH} {v : Nat} (h1 : mj_sx S h h') (g : VL h v) : VL h' v := by
  simp only [VL, sx_is h1, sx_r h1, sx_ik h1, sx_ln h1]
  exact g
theorem Gr_sx {S : List Nat} {h h' : MH} {n k e : Nat} {lk : Nat → Nat} (h1 : mj_sx S h h') (hS : 1 ∉ S ∧ 2 ∉ S ∧ 3 ∉ S) (g : Gr h n k e lk) : Gr h' n k e lk := by
  simp only [Gr, sx_i h1 hS.1, sx_i h1 hS.2.1, sx_i h1 hS.2.2]
  exact g
theorem rm_nI {a b : Nat} (ha : a < 2 ^ 31) (h0 : 0 < b) (hb : b < 2 ^ 31) : nI a - nI a / nI b * nI b = nI (a % b) := pk_rem ha h0 hb
theorem pw_lt {k j : Nat} (hk : k ≤ 4) (hj : j ≤ 5) : k ^ j < 2 ^ 31 := Nat.lt_of_le_of_lt (Nat.pow_le_pow_left hk j) (Nat.lt_of_le_of_lt (Nat.pow_le_pow_right (by decide) hj) (by decide))
theorem dg_I {n k s a : Nat} (hk : 2 ≤ k) (hk4 : k ≤ 4) (hn : n ≤ 5) (hs : s < 2 ^ 31) : nI s / nI (k ^ (n - 1 - a)) - nI s / nI (k ^ (n - 1 - a)) / nI k * nI k = nI (dg n k s a) := by
  have h1 : 0 < k ^ (n - 1 - a) := Nat.pow_pos (by omega)
  have h2 := pw_lt (j := n - 1 - a) hk4 (by omega)
  rw [pk_div hs h1 h2, pk_rem (Nat.lt_of_le_of_lt (Nat.div_le_self _ _) hs) (by omega) (by omega)]
  rfl
section ViewK
variable {L : Nat} {xs : Nat → Int32} {d : Nat} {Q : Option Value × MH → Prop}
theorem k_dg {h : MH} (hL : Lay h) {n k e s a : Nat} {lk : Nat → Nat} (g : Gr h n k e lk) (hk : 2 ≤ k) (hk4 : k ≤ 4) (hn : n ≤ 5) (ha : a < n) (hs : s < 2 ^ 31) : mj_Wp L xs d 44 0 [some (.ref 1), some (.int (nI s)), some (.int (nI a))] [] h Q ↔ Q (some (.int (nI (dg n k s a))), h) := by
  obtain ⟨g1, g2, g3, g4, g5, g6⟩ := g
  have e1 : (nI a).toNatClampNeg = a := nI_clamp (by omega)
  have h1 : 0 < k ^ (n - 1 - a) := Nat.pow_pos (by omega)
  have h2 := pw_lt (j := n - 1 - a) hk4 (by omega)
  rw [k_digit hL (mj_in_nI (by omega) (by decide)) (by rw [e1, g5 a ha]; exact nI_ne0 h1 h2) (by rw [g2]; exact nI_ne0 (by omega) (by omega)), e1, g5 a ha, g2, dg_I hk hk4 hn hs]
theorem k_load_loop {n k e s v : Nat} {lk : Nat → Nat} (hv : v = 4 ∨ v = 20) (hk : 2 ≤ k) (hk4 : k ≤ 4) (hn : n ≤ 5) (hs : s < 2 ^ 31) : ∀ (m a : Nat) (h : MH), a + m = n → Lay h → VL h v → Gr h n k e lk →
    (∀ h', mj_sx [v + 1, v + 2] h h' → (∀ b, b < a → mj_i h' (v + 1) b = mj_i h (v + 1) b) → (∀ b, a ≤ b → b < n → mj_i h' (v + 1) b = nI (dg n k s b)) → (∀ c, mj_i h' (v + 2) c = if c = 110 then nI n else if c = 107 then nI k else mj_i h (v + 2) c) → Q (none, h')) → mj_Wp L xs (d + 1) 47 2 [some (.ref v), some (.int (nI s)), some (.int (nI a))] [] h Q := by
  intro m
  induction m with
  | zero =>
    intro a h ha hL g1 g2 hQ
    have ha : a = n := by omega
    subst ha
    obtain ⟨v1, v2, v3, v4, v5, v6, v7, v8, v9, v10, v11⟩ := g1
    rw [w_47_2]
    simp only [w_47_0, w_47_1, w_47_3, w_47_4, w_47_7, w_47_10, w_47_13, w_47_14, w_47_17, w_47_18, w_47_19, w_47_22, w_47_23, w_47_24, w_47_27, w_47_28, w_47_31, w_47_34, w_47_35, w_47_38, w_47_40, w_47_41, w_47_44, w_47_47, w_47_48, w_47_49, w_47_52, w_47_54, w_47_55, w_47_58, w_47_61, w_47_62, v1, v2, v4, v8, v9, ly_1 hL, mj_rv_some, g2.1, g2.2.1, nI_leI (show a < 2 ^ 31 by omega) (show a < 2 ^ 31 by omega), Nat.le_refl, if_true, ci_110, cc_110, ci_107, cc_107, ci_120, cc_120, ci_105, cc_105, ci_108, cc_108, ci_117, cc_117, ci_100, cc_100, ci_109, cc_109, ci_77, cc_77, ci_121, cc_121, ci_106, cc_106, mj_is_wi, mj_ik_wi, mj_ln_wi, mj_r_wi]
    have f1 : mj_i (mj_wi h (v + 2) 110 (nI a)) 1 3 = nI k := by
      rw [mj_i_wi, if_neg (by rcases hv with rfl | rfl <;> simp)]
      exact g2.2.1
    rw [f1]
    refine hQ _ (sx_tr (sx_wi (by simp)) (sx_wi (by simp))) (fun b hb => ?_) (fun b h1 h2 => by omega) (fun c => ?_)
    · rw [mj_i_wi, mj_i_wi]
      simp
    · rw [mj_i_wi, mj_i_wi]
      by_cases h1 : c = 110
      · subst h1; simp
      · by_cases h2 : c = 107
        · subst h2; simp
        · simp [h1, h2]
  | succ m ih =>
    intro a h ha hL g1 g2 hQ
    obtain ⟨v1, v2, v3, v4, v5, v6, v7, v8, v9, v10, v11⟩ := g1
    have e0 : ¬ n ≤ a := by omega
    have e3 : mj_in (nI a) 5 = true := mj_in_nI (by omega) (by omega)
    have e4 : (nI a).toNatClampNeg = a := nI_clamp (by omega)
    rw [w_47_2]
    simp only [w_47_3, w_47_4, w_47_7, w_47_10, w_47_13, w_47_14, w_47_17, w_47_18, w_47_19, w_47_22, w_47_23, w_47_24, w_47_27, w_47_28, w_47_31, v1, v2, v3, v6, v7, ly_1 hL, mj_rv_some, g2.1, nI_leI (show n < 2 ^ 31 by omega) (show a < 2 ^ 31 by omega), e0, if_false, e3, e4, k_dg hL g2 hk hk4 hn (show a < n by omega) hs, Option.toList, List.cons_append, List.nil_append, nI_add]
    have s1 : mj_sx [v + 1, v + 2] h (mj_wi h (v + 1) a (nI (dg n k s a))) := sx_wi (by simp)
    refine ih (a + 1) _ (by omega) (sx_Lay s1 hL) (VL_sx s1 ⟨v1, v2, v3, v4, v5, v6, v7, v8, v9, v10, v11⟩) (Gr_sx s1 (by rcases hv with rfl | rfl <;> decide) g2) (fun h' q1 q2 q3 q4 => ?_)
    refine hQ h' (sx_tr s1 q1) (fun b hb => ?_) (fun b h1 h2 => ?_) (fun c => ?_)
    · rw [q2 b (by omega), mj_i_wi]
      simp [show ¬ b = a by omega]
    · by_cases h3 : b = a
      · subst h3
        rw [q2 b (by omega), mj_i_wi]
        simp
      · exact q3 b (by omega) h2
    · rw [q4 c, mj_i_wi]
      simp
theorem k_load {n k e s v : Nat} {lk : Nat → Nat} {h : MH} (hv : v = 4 ∨ v = 20) (hk : 2 ≤ k) (hk4 : k ≤ 4) (hn : n ≤ 5) (hs : s < 2 ^ 31) (hL : Lay h) (g1 : VL h v) (g2 : Gr h n k e lk)
    (hQ : ∀ h', mj_sx [v + 1, v + 2] h h' → (∀ b, b < n → mj_i h' (v + 1) b = nI (dg n k s b)) → (∀ c, mj_i h' (v + 2) c = if c = 110 then nI n else if c = 107 then nI k else mj_i h (v + 2) c) → Q (none, h')) : mj_Wp L xs (d + 1) 47 0 [some (.ref v), some (.int (nI s)), none] [] h Q := by
  simp only [w_47_0, w_47_1]
  exact k_load_loop hv hk hk4 hn hs n 0 h (by omega) hL g1 g2 (fun h' q1 q2 q3 q4 => hQ h' q1 (fun b hb => q3 b (Nat.zero_le _) hb) q4)
end ViewK
