/-! The reference: its numbers and its letters. -/
def RB (h : MH) (n k e : Nat) (lk : Nat → Nat) : Prop := 2 ≤ n ∧ n ≤ 5 ∧ 2 ≤ k ∧ k ≤ 4 ∧ (∀ a, lk a < 2 ^ n) ∧ Lay h ∧ mj_i h 25 0 = nI n ∧ mj_i h 25 1 = nI k ∧ mj_i h 25 2 = nI e ∧ ∀ a b, a < 5 → b < 5 → mj_i h 26 (5 * a + b) = nI (lk a / 2 ^ b % 2)
theorem RB_sx {S : List Nat} {h h' : MH} {n k e : Nat} {lk : Nat → Nat} (q : mj_sx S h h') (hS : 26 ∉ S) (h25 : ∀ j, j < 3 → mj_i h' 25 j = mj_i h 25 j) (a : RB h n k e lk) : RB h' n k e lk := by
  obtain ⟨a1, a2, a3, a4, a5, a6, a7, a8, a9, a10⟩ := a
  exact ⟨a1, a2, a3, a4, a5, sx_Lay q a6, by rw [h25 0 (by decide)]; exact a7, by rw [h25 1 (by decide)]; exact a8, by rw [h25 2 (by decide)]; exact a9, fun x y hx hy => by rw [sx_i q hS]; exact a10 x y hx hy⟩
/-- the state that is looked at -/
def LK (h : MH) (n k s : Nat) : Prop := ∀ j, j < n → mj_i h 38 j = nI (dg n k s j)
theorem RB_N {h : MH} {n k e : Nat} {lk : Nat → Nat} (a : RB h n k e lk) : k ^ n ≤ 1024 := by
  obtain ⟨a1, a2, a3, a4, -⟩ := a
  calc k ^ n ≤ 4 ^ n := Nat.pow_le_pow_left a4 n
    _ ≤ 4 ^ 5 := Nat.pow_le_pow_right (by decide) a2
    _ = 1024 := by decide
def pcN (m : Nat) : Nat → Nat
  | 0 => 0
  | b + 1 => pcN m b + m / 2 ^ b % 2
theorem pc_bc0 : ∀ n, n < 6 → ∀ m, m < 32 → (!(decide (m < 2 ^ n)) || decide (bcI (nI m) = nI (pcN m n))) = true := by decide +kernel
theorem pc_bc {n m : Nat} (hn : n ≤ 5) (hm : m < 2 ^ n) : nI (pcN m n) = bcI (nI m) := by
  have h1 : m < 32 := Nat.lt_of_lt_of_le hm (Nat.pow_le_pow_right (by decide) hn : 2 ^ n ≤ 2 ^ 5)
  have := pc_bc0 n (by omega) m h1
  rw [decide_eq_true hm] at this
  have h2 : bcI (nI m) = nI (pcN m n) := by simpa using this
  exact h2.symm
section RefK
variable {L : Nat} {xs : Nat → Int32} {d : Nat} {Q : Option Value × MH → Prop} {h : MH} {n k e : Nat} {lk : Nat → Nat}
theorem r_power_loop {a m : Nat} (hm : m ≤ 5) : ∀ (r i : Nat), i + r = m → (mj_Wp L xs d 85 4 [some (.int (nI a)), some (.int (nI m)), some (.int (nI (a ^ i))), some (.int (nI i))] [] h Q ↔ Q (some (.int (nI (a ^ m))), h))
  | 0, i, hi => by
    have hi : i = m := by omega
    subst hi
    rw [w_85_4]
    simp only [w_85_5, w_85_6, w_85_9, w_85_10, w_85_11, w_85_12, w_85_13, w_85_16, w_85_19, w_85_20, nI_leI (show i < 2 ^ 31 by omega) (show i < 2 ^ 31 by omega), Nat.le_refl, if_true]
  | r + 1, i, hi => by
    have e0 : ¬ m ≤ i := by omega
    have ih := r_power_loop (a := a) hm r (i + 1) (by omega)
    rw [w_85_4]
    simp only [w_85_5, w_85_6, w_85_9, w_85_10, w_85_11, w_85_12, w_85_13, w_85_16, nI_leI (show m < 2 ^ 31 by omega) (show i < 2 ^ 31 by omega), e0, if_false, pk_mul, nI_add]
    rw [Nat.pow_succ] at ih
    exact ih
theorem r_power {a m : Nat} (hm : m ≤ 5) : mj_Wp L xs d 85 0 [some (.int (nI a)), some (.int (nI m)), none, none] [] h Q ↔ Q (some (.int (nI (a ^ m))), h) := by
  have := r_power_loop (L := L) (xs := xs) (d := d) (h := h) (Q := Q) (a := a) hm m 0 (by omega)
  rw [Nat.pow_zero] at this
  simp only [w_85_0, w_85_1, w_85_2, w_85_3]
  exact this
theorem r_states (a : RB h n k e lk) : mj_Wp L xs (d + 1) 84 0 [some (.ref 25)] [] h Q ↔ Q (some (.int (nI (k ^ n))), h) := by
  have hL := a.2.2.2.2.2.1
  simp only [w_84_0, w_84_1, w_84_4, w_84_5, w_84_8, w_84_11, ly_25 hL, a.2.2.2.2.2.2.1, a.2.2.2.2.2.2.2.1, r_power a.2.1, Option.toList, List.cons_append, List.nil_append]
theorem r_isNode {x : Int32} (a : RB h n k e lk) : mj_Wp L xs d 87 0 [some (.ref 25), some (.int x)] [] h Q ↔ Q (some (.int (if x < nI 0 ∨ nI n ≤ x then nI 0 else nI 1)), h) := by
  have hL := a.2.2.2.2.2.1
  simp only [w_87_0, w_87_1, w_87_4, w_87_5, w_87_6, w_87_9, w_87_12, w_87_13, w_87_16, w_87_17, ly_25 hL, a.2.2.2.2.2.2.1, mj_fit_n0, mj_fit_n1]
  by_cases h1 : x < nI 0 <;> by_cases h2 : nI n ≤ x <;> simp [h1, h2]
theorem n5x {a b : Nat} : nI 5 * nI a + nI b = nI (5 * a + b) := by rw [pk_mul, nI_add]
theorem r_nb_loop {x : Nat} (a : RB h n k e lk) (hx : x < 5) : ∀ (r b : Nat), b + r = n → (mj_Wp L xs d 116 4 [some (.ref 25), some (.int (nI x)), some (.int (nI (pcN (lk x) b))), some (.int (nI b))] [] h Q ↔ Q (some (.int (nI (pcN (lk x) n))), h))
  | 0, b, hb => by
    have hb : b = n := by omega
    subst hb
    have a2 := a.2.1
    rw [w_116_4]
    simp only [w_116_5, w_116_6, w_116_9, w_116_39, w_116_40, ly_25 a.2.2.2.2.2.1, a.2.2.2.2.2.2.1, nI_leI (show b < 2 ^ 31 by omega) (show b < 2 ^ 31 by omega), Nat.le_refl, if_true]
  | r + 1, b, hb => by
    have a2 := a.2.1
    have hL := a.2.2.2.2.2.1
    have e0 : ¬ n ≤ b := by omega
    have e1 : mj_in (nI (5 * x + b)) 25 = true := mj_in_nI (by omega) (by omega)
    have e2 : (nI (5 * x + b)).toNatClampNeg = 5 * x + b := nI_clamp (by omega)
    have ih := r_nb_loop a hx r (b + 1) (by omega)
    rw [w_116_4]
    simp only [w_116_5, w_116_6, w_116_9, w_116_12, w_116_13, w_116_16, w_116_17, w_116_18, w_116_19, w_116_20, w_116_21, w_116_22, w_116_25, w_116_26, w_116_27, w_116_28, w_116_31, w_116_32, w_116_33, w_116_36, ly_25 hL, lr_25_3 hL, lk_26 hL, ln_26 hL, mj_rv_some, a.2.2.2.2.2.2.1, nI_leI (show n < 2 ^ 31 by omega) (show b < 2 ^ 31 by omega), e0, if_false, n5x, e1, e2, a.2.2.2.2.2.2.2.2.2 x b hx (by omega), n2_0, nI_add]
    rw [pcN] at ih
    by_cases hz : lk x / 2 ^ b % 2 = 0
    · simp only [hz, if_true]
      rw [hz, Nat.add_zero] at ih
      exact ih
    · simp only [hz, if_false]
      rw [show lk x / 2 ^ b % 2 = 1 by omega] at ih
      exact ih
theorem r_neighbours {x : Nat} (a : RB h n k e lk) (hx : x < 5) : mj_Wp L xs d 116 0 [some (.ref 25), some (.int (nI x)), none, none] [] h Q ↔ Q (some (.int (bcI (nI (lk x)))), h) := by
  have := r_nb_loop (L := L) (xs := xs) (d := d) (Q := Q) a hx n 0 (by omega)
  rw [pc_bc a.2.1 (a.2.2.2.2.1 x)] at this
  simp only [w_116_0, w_116_1, w_116_2, w_116_3]
  exact this
theorem r_max_loop {x : Nat} {vs : Nat → Int32} (a : RB h n k e lk) (hx : x < 5) (hv : ∀ j, j < n → mj_i h 38 j = vs j) : ∀ (r b : Nat), b + r = n → (mj_Wp L xs d 117 16 [some (.ref 25), some (.int (nI x)), some (.int (nI 1)), some (.int (mxF (lk x) vs b)), some (.int (nI b))] [] h Q ↔ Q (some (.int (mxF (lk x) vs n)), h))
  | 0, b, hb => by
    have hb : b = n := by omega
    subst hb
    have a2 := a.2.1
    rw [w_117_16]
    simp only [w_117_18, w_117_19, w_117_22, w_117_82, w_117_83, ly_25 a.2.2.2.2.2.1, a.2.2.2.2.2.2.1, nI_leI (show b < 2 ^ 31 by omega) (show b < 2 ^ 31 by omega), Nat.le_refl, if_true]
  | r + 1, b, hb => by
    have a2 := a.2.1
    have hL := a.2.2.2.2.2.1
    have n10 : ¬ nI 1 = nI 0 := by decide
    have e0 : ¬ n ≤ b := by omega
    have e1 : mj_in (nI (5 * x + b)) 25 = true := mj_in_nI (by omega) (by omega)
    have e2 : (nI (5 * x + b)).toNatClampNeg = 5 * x + b := nI_clamp (by omega)
    have e3 : mj_in (nI b) 5 = true := mj_in_nI (by omega) (by omega)
    have e4 : (nI b).toNatClampNeg = b := nI_clamp (by omega)
    have ih := r_max_loop a hx hv r (b + 1) (by omega)
    rw [w_117_16]
    simp only [w_117_18, w_117_19, w_117_22, w_117_25, w_117_26, w_117_29, w_117_30, w_117_31, w_117_32, w_117_34, w_117_35, w_117_36, w_117_39, w_117_40, w_117_43, w_117_44, w_117_47, w_117_49, w_117_50, w_117_51, w_117_54, w_117_57, w_117_58, w_117_61, w_117_63, w_117_64, w_117_65, w_117_68, w_117_69, w_117_72, w_117_74, w_117_75, w_117_76, w_117_79, ly_25 hL, lr_25_3 hL, lr_25_28 hL, lk_26 hL, ln_26 hL, lk_38 hL, ln_38 hL, mj_rv_some, a.2.2.2.2.2.2.1, nI_leI (show n < 2 ^ 31 by omega) (show b < 2 ^ 31 by omega), e0, if_false, n10, n5x, e1, e2, e3, e4, hv b (by omega), a.2.2.2.2.2.2.2.2.2 x b hx (by omega), n2_0, nI_add]
    rw [mxF] at ih
    by_cases hz : lk x / 2 ^ b % 2 = 0
    · simp only [hz, if_true]
      rw [if_pos hz] at ih
      exact ih
    · simp only [hz, if_false]
      rw [if_neg hz, mxI] at ih
      by_cases hc : vs b ≤ mxF (lk x) vs b
      · simp only [hc, if_true]
        rw [if_neg (Int32.not_lt.mpr hc)] at ih
        exact ih
      · simp only [hc, if_false]
        rw [if_pos (Int32.not_le.mp hc)] at ih
        exact ih
theorem r_min_loop {x : Nat} {vs : Nat → Int32} (a : RB h n k e lk) (hx : x < 5) (hv : ∀ j, j < n → mj_i h 38 j = vs j) : ∀ (r b : Nat), b + r = n → (mj_Wp L xs d 117 16 [some (.ref 25), some (.int (nI x)), some (.int (nI 0)), some (.int (mnF (lk x) vs (nI k) b)), some (.int (nI b))] [] h Q ↔ Q (some (.int (mnF (lk x) vs (nI k) n)), h))
  | 0, b, hb => by
    have hb : b = n := by omega
    subst hb
    have a2 := a.2.1
    rw [w_117_16]
    simp only [w_117_18, w_117_19, w_117_22, w_117_82, w_117_83, ly_25 a.2.2.2.2.2.1, a.2.2.2.2.2.2.1, nI_leI (show b < 2 ^ 31 by omega) (show b < 2 ^ 31 by omega), Nat.le_refl, if_true]
  | r + 1, b, hb => by
    have a2 := a.2.1
    have hL := a.2.2.2.2.2.1
    have e0 : ¬ n ≤ b := by omega
    have e1 : mj_in (nI (5 * x + b)) 25 = true := mj_in_nI (by omega) (by omega)
    have e2 : (nI (5 * x + b)).toNatClampNeg = 5 * x + b := nI_clamp (by omega)
    have e3 : mj_in (nI b) 5 = true := mj_in_nI (by omega) (by omega)
    have e4 : (nI b).toNatClampNeg = b := nI_clamp (by omega)
    have ih := r_min_loop a hx hv r (b + 1) (by omega)
    rw [w_117_16]
    simp only [w_117_18, w_117_19, w_117_22, w_117_25, w_117_26, w_117_29, w_117_30, w_117_31, w_117_32, w_117_34, w_117_35, w_117_36, w_117_39, w_117_40, w_117_43, w_117_44, w_117_47, w_117_49, w_117_50, w_117_51, w_117_54, w_117_57, w_117_58, w_117_61, w_117_63, w_117_64, w_117_65, w_117_68, w_117_69, w_117_72, w_117_74, w_117_75, w_117_76, w_117_79, ly_25 hL, lr_25_3 hL, lr_25_28 hL, lk_26 hL, ln_26 hL, lk_38 hL, ln_38 hL, mj_rv_some, a.2.2.2.2.2.2.1, nI_leI (show n < 2 ^ 31 by omega) (show b < 2 ^ 31 by omega), e0, if_false, if_true, n5x, e1, e2, e3, e4, hv b (by omega), a.2.2.2.2.2.2.2.2.2 x b hx (by omega), n2_0, nI_add]
    rw [mnF] at ih
    by_cases hz : lk x / 2 ^ b % 2 = 0
    · simp only [hz, if_true]
      rw [if_pos hz] at ih
      exact ih
    · simp only [hz, if_false]
      rw [if_neg hz, mnI] at ih
      by_cases hc : mnF (lk x) vs (nI k) b ≤ vs b
      · simp only [hc, if_true]
        rw [if_neg (Int32.not_lt.mpr hc)] at ih
        exact ih
      · simp only [hc, if_false]
        rw [if_pos (Int32.not_le.mp hc)] at ih
        exact ih
theorem r_max {x : Nat} {vs : Nat → Int32} (a : RB h n k e lk) (hx : x < 5) (hv : ∀ j, j < n → mj_i h 38 j = vs j) : mj_Wp L xs d 117 0 [some (.ref 25), some (.int (nI x)), some (.int (nI 1)), none, none] [] h Q ↔ Q (some (.int (mxF (lk x) vs n)), h) := by
  have := r_max_loop (L := L) (xs := xs) (d := d) (Q := Q) a hx hv n 0 (by omega)
  simp only [w_117_0, w_117_1, w_117_4, w_117_5, w_117_8, w_117_9, w_117_12, w_117_13, w_117_14, show ¬ nI 1 = nI 0 by decide, if_false]
  exact this
theorem r_min {x : Nat} {vs : Nat → Int32} (a : RB h n k e lk) (hx : x < 5) (hv : ∀ j, j < n → mj_i h 38 j = vs j) : mj_Wp L xs d 117 0 [some (.ref 25), some (.int (nI x)), some (.int (nI 0)), none, none] [] h Q ↔ Q (some (.int (mnF (lk x) vs (nI k) n)), h) := by
  have := r_min_loop (L := L) (xs := xs) (d := d) (Q := Q) a hx hv n 0 (by omega)
  simp only [w_117_0, w_117_1, w_117_4, w_117_5, w_117_8, w_117_9, w_117_12, w_117_13, w_117_14, if_true, ly_25 a.2.2.2.2.2.1, a.2.2.2.2.2.2.2.1]
  exact this
theorem r_modulo {x : Int32} (a : RB h n k e lk) : mj_Wp L xs d 112 0 [some (.ref 25), some (.int x), none] [] h Q ↔ Q (some (.int (fmI x (nI k))), h) := by
  have hL := a.2.2.2.2.2.1
  have a3 := a.2.2.1
  have a4 := a.2.2.2.1
  have hkn : ¬ nI k = 0 := nI_ne0 (by omega) (by omega)
  rw [fm_eq (by omega) a4]
  simp only [w_112_0, w_112_1, w_112_2, w_112_5, w_112_6, w_112_7, w_112_8, w_112_11, w_112_12, w_112_13, w_112_16, w_112_17, w_112_20, w_112_21, ly_25 hL, a.2.2.2.2.2.2.2.1, hkn, not_false_eq_true, rmI]
  by_cases c : x - x / nI k * nI k < nI 0
  · have c2 : ¬ nI 0 ≤ x - x / nI k * nI k := fun z => Int32.not_lt.mpr z c
    simp only [c, c2, if_true, if_false]
  · have c2 : nI 0 ≤ x - x / nI k * nI k := Int32.not_lt.mp c
    simp only [c, c2, if_true, if_false]
/-- what a letter stands for at node x, beside node y -/
def ptR (n k : Nat) (lk : Nat → Nat) (s x y : Nat) : Nat → Int32 := ptU (ptN n k (lk x) s x) (vsF n k s y) (nI y)
theorem r_part {s x y c : Nat} (a : RB h n k e lk) (l : LK h n k s) (hx : x < n) (hy : y < n) (hc : okN true c) : mj_Wp L xs (d + 1) 115 0 [some (.ref 25), some (.int (nI c)), some (.int (nI x)), some (.int (nI y))] [] h Q ↔ Q (some (.int (ptR n k lk s x y c)), h) := by
  have a1 := a.1
  have a2 := a.2.1
  have hL := a.2.2.2.2.2.1
  have e3 : ∀ j, j < n → mj_in (nI j) 5 = true := fun j hj => mj_in_nI (by omega) (by omega)
  have e4 : ∀ j, j < n → (nI j).toNatClampNeg = j := fun j hj => nI_clamp (by omega)
  have hn0 : ¬ nI n = 0 := nI_ne0 (by omega) (by omega)
  have hv : ∀ j, j < n → mj_i h 38 j = vsF n k s j := l
  have hx5 : x < 5 := by omega
  rcases hc with hc | ⟨-, rfl | rfl⟩
  · unfold okC at hc
    rcases hc with ⟨c1, c2⟩ | rfl | rfl | rfl | rfl | rfl | rfl | rfl | rfl | rfl
    · have e5 : (nI c).toInt < 77 ∨ 121 < (nI c).toInt := by rw [nI_toInt (by omega)]; omega
      have e6 : ptR n k lk s x y c = nI (c - 48) := by
        simp only [ptR, ptU, ptN, show ¬ c = 106 by omega, show ¬ c = 121 by omega, if_false, c1, c2, and_self, if_true]
      simp only [w_115_0, w_115_1_d e5, w_115_277, w_115_278, w_115_280, w_115_281, e6, pk_sub (show 48 ≤ c by omega)]
    · simp only [w_115_0, w_115_1_120, w_115_196, w_115_197, w_115_200, w_115_201, w_115_202, ly_25 hL, lr_25_28 hL, lk_38 hL, ln_38 hL, mj_rv_some, e3 x hx, e4 x hx, hv x hx]
      simp [ptR, ptU, ptN, stF]
    · simp only [w_115_0, w_115_1_105, w_115_203, w_115_204]
      simp [ptR, ptU, ptN, stF]
    · simp only [w_115_0, w_115_1_100, w_115_205, w_115_206, w_115_207, w_115_210, ly_25 hL, r_neighbours a hx5, Option.toList, List.cons_append, List.nil_append]
      simp [ptR, ptU, ptN, stF]
    · simp only [w_115_0, w_115_1_109, w_115_211, w_115_212, w_115_213, w_115_214, w_115_217, ly_25 hL, r_min a hx5 hv, Option.toList, List.cons_append, List.nil_append, mj_fit_n0]
      simp [ptR, ptU, ptN, stF]
    · simp only [w_115_0, w_115_1_77, w_115_218, w_115_219, w_115_220, w_115_221, w_115_224, ly_25 hL, r_max a hx5 hv, Option.toList, List.cons_append, List.nil_append, mj_fit_n1]
      simp [ptR, ptU, ptN, stF]
    · have e7 : nI x + nI n - nI 1 = nI (x + n - 1) := by rw [nI_add, pk_sub (by omega)]
      have e8 : (x + n - 1) % n = if x = 0 then n - 1 else x - 1 := by
        by_cases z : x = 0
        · rw [if_pos z, z, Nat.zero_add]; exact Nat.mod_eq_of_lt (by omega)
        · rw [if_neg z, show x + n - 1 = (x - 1) + n by omega, Nat.add_mod_right]; exact Nat.mod_eq_of_lt (by omega)
      have e9 : (if x = 0 then n - 1 else x - 1) < n := by split <;> omega
      simp only [w_115_0, w_115_1_108, w_115_225, w_115_226, w_115_229, w_115_230, w_115_231, w_115_234, w_115_235, w_115_236, w_115_237, w_115_238, w_115_241, w_115_242, w_115_243, ly_25 hL, lr_25_28 hL, lk_38 hL, ln_38 hL, mj_rv_some, a.2.2.2.2.2.2.1, e7, hn0, not_false_eq_true, rm_nI (show x + n - 1 < 2 ^ 31 by omega) (show 0 < n by omega) (show n < 2 ^ 31 by omega), e8, e3 _ e9, e4 _ e9, hv _ e9]
      simp [ptR, ptU, ptN, stF]
    · have e8 : (x + 1) % n = if x = n - 1 then 0 else x + 1 := by
        by_cases z : x = n - 1
        · rw [if_pos z, z, show n - 1 + 1 = n by omega, Nat.mod_self]
        · rw [if_neg z]; exact Nat.mod_eq_of_lt (by omega)
      have e9 : (if x = n - 1 then 0 else x + 1) < n := by split <;> omega
      simp only [w_115_0, w_115_1_117, w_115_244, w_115_245, w_115_248, w_115_249, w_115_250, w_115_251, w_115_252, w_115_255, w_115_256, w_115_257, ly_25 hL, lr_25_28 hL, lk_38 hL, ln_38 hL, mj_rv_some, a.2.2.2.2.2.2.1, nI_add, hn0, not_false_eq_true, rm_nI (show x + 1 < 2 ^ 31 by omega) (show 0 < n by omega) (show n < 2 ^ 31 by omega), e8, e3 _ e9, e4 _ e9, hv _ e9]
      simp [ptR, ptU, ptN, stF]
    · simp only [w_115_0, w_115_1_110, w_115_258, w_115_259, w_115_262, ly_25 hL, a.2.2.2.2.2.2.1]
      simp [ptR, ptU, ptN, stF]
    · simp only [w_115_0, w_115_1_107, w_115_263, w_115_264, w_115_267, ly_25 hL, a.2.2.2.2.2.2.2.1]
      simp [ptR, ptU, ptN, stF]
  · simp only [w_115_0, w_115_1_121, w_115_268, w_115_269, w_115_272, w_115_273, w_115_274, ly_25 hL, lr_25_28 hL, lk_38 hL, ln_38 hL, mj_rv_some, e3 y hy, e4 y hy, hv y hy]
    simp [ptR, ptU]
  · simp only [w_115_0, w_115_1_106, w_115_275, w_115_276]
    simp [ptR, ptU]
end RefK
