/-! The bench's calls, one by one: those that read no text. -/
def orN (m x : Nat) : Nat := if m / 2 ^ x % 2 = 0 then m + 2 ^ x else m
theorem orN_I : ∀ m, m < 32 → ∀ x, x < 5 → nI m ||| (nI 1 <<< (nI x &&& 31)) = nI (orN m x) := by decide +kernel
theorem orN_bit : ∀ m, m < 32 → ∀ x, x < 5 → ∀ y, y < 5 → orN m x / 2 ^ y % 2 = if y = x then 1 else m / 2 ^ y % 2 := by decide +kernel
theorem orN_lt0 : ∀ n, n < 6 → ∀ m, m < 32 → ∀ x, x < 5 → (!(decide (m < 2 ^ n)) || !(decide (x < n)) || decide (orN m x < 2 ^ n)) = true := by decide +kernel
theorem orN_lt {n m x : Nat} (hn : n ≤ 5) (hm : m < 2 ^ n) (hx : x < n) : orN m x < 2 ^ n := by
  have h1 : m < 32 := Nat.lt_of_lt_of_le hm (Nat.pow_le_pow_right (by decide) hn : 2 ^ n ≤ 2 ^ 5)
  have := orN_lt0 n (by omega) m h1 x (by omega)
  rw [decide_eq_true hm, decide_eq_true hx] at this
  simpa using this
def lkU (lk : Nat → Nat) (a b c : Nat) : Nat := if c = b then orN (lk b) a else if c = a then orN (lk a) b else lk c
/-- what the bench holds, in plain words -/
def CI (h : MH) (n k e : Nat) (lk : Nat → Nat) (rn : Nat) (G : Nat → GD) (sm : SM) (ak : Nat) (GA : GD) (sc s : Nat) (stp mov : Int32) (ty : Nat) (tx : Nat → Nat) : Prop := CB h n k e lk rn G sm ak GA ∧ CC h n k lk rn G sm ak GA sc ∧ s < k ^ n ∧ (∀ a, lk a < 2 ^ n) ∧ (mj_i h 0 5 = nI ty ∧ ty ≤ 48 ∧ ∀ i, i < ty → mj_i h 24 i = nI (tx i) ∧ 32 ≤ tx i ∧ tx i ≤ 126) ∧ mj_i h 0 6 = nI s ∧ mj_i h 0 7 = stp ∧ mj_i h 0 8 = mov
/-- what a call of the bench leaves as it was -/
def CF (h h' : MH) : Prop := Lay h' ∧ mj_z h ≤ mj_z h' ∧ mj_z h' ≤ mj_z h + 300 ∧ mj_u h' ≤ mj_u h + 1300 ∧ ∀ a, 25 ≤ a → a < 46 → mj_i h' a = mj_i h a
theorem CF_sx {S : List Nat} {h h' : MH} (hL : Lay h) (q : mj_sx S h h') (hS : ∀ a ∈ S, a < 25) : CF h h' := ⟨sx_Lay q hL, Nat.le_of_eq q.1.symm, by have := q.1; omega, by have := q.2.1; omega, fun a h1 _ => q.2.2.2.2 a (fun z => by have := hS a z; omega)⟩
theorem VK_sx {S : List Nat} {h h' : MH} {n k : Nat} {lk : Nat → Nat} {rn : Nat} {G : Nat → GD} {sm : SM} {ak : Nat} {GA : GD} {sc : Nat} (q : mj_sx S h h') (hS : 11 ∉ S ∧ 15 ∉ S ∧ 19 ∉ S) (a : VK h n k lk rn G sm ak GA sc) : VK h' n k lk rn G sm ak GA sc := by
  obtain ⟨vd, rl, run, D, a1, a2, a3, a4, a5, a6, a7, a8⟩ := a
  have e11 : ∀ j, mj_i h' 11 j = mj_i h 11 j := fun j => sx_i q hS.1
  exact ⟨vd, rl, run, D, a1, a2, by rw [e11]; exact a3, by rw [e11]; exact a4, a5, fun i hi => by rw [sx_i q hS.2.2]; exact a6 i hi, fun z => ⟨by rw [e11]; exact (a7 z).1, fun s hs => by rw [sx_i q hS.2.1]; exact (a7 z).2 s hs⟩, by rw [e11]; exact a8⟩
theorem CC_sx {S : List Nat} {h h' : MH} {n k : Nat} {lk : Nat → Nat} {rn : Nat} {G : Nat → GD} {sm : SM} {ak : Nat} {GA : GD} {sc : Nat} (q : mj_sx S h h') (hS : 11 ∉ S ∧ 12 ∉ S ∧ 13 ∉ S ∧ 15 ∉ S ∧ 19 ∉ S) (a : CC h n k lk rn G sm ak GA sc) : CC h' n k lk rn G sm ak GA sc := by
  obtain ⟨a1, a2, a3, a4⟩ := a
  have e11 : ∀ j, mj_i h' 11 j = mj_i h 11 j := fun j => sx_i q hS.1
  refine ⟨a1, by rw [e11]; exact a2, ?_, ?_⟩
  · rcases a3 with a3 | ⟨a3, t⟩
    · exact Or.inl (by rw [e11]; exact a3)
    · exact Or.inr ⟨by rw [e11]; exact a3, TB_sx q ⟨hS.2.1, hS.2.2.1⟩ t⟩
  · rcases a4 with a4 | ⟨a4, t⟩
    · exact Or.inl (by rw [e11]; exact a4)
    · exact Or.inr ⟨by rw [e11]; exact a4, VK_sx q ⟨hS.1, hS.2.2.2.1, hS.2.2.2.2⟩ t⟩
/-- nothing is known any more -/
theorem CC_new {h : MH} {n k : Nat} {lk : Nat → Nat} {rn : Nat} {G : Nat → GD} {sm : SM} {ak : Nat} {GA : GD} {sc : Nat} (h1 : sc < 3) (h2 : mj_i h 11 12 = nI sc) (h3 : mj_i h 11 16 = nI 0) (h4 : mj_i h 11 17 = nI 0) : CC h n k lk rn G sm ak GA sc := ⟨h1, h2, Or.inl h3, Or.inl h4⟩
section CallsK
variable {L : Nat} {xs : Nat → Int32} {d : Nat} {Q : Option Value × MH → Prop} {h : MH} {n k e : Nat} {lk : Nat → Nat} {rn : Nat} {G : Nat → GD} {sm : SM} {ak : Nat} {GA : GD} {sc s : Nat} {stp mov : Int32} {ty : Nat} {tx : Nat → Nat}
theorem CI_sx {S : List Nat} {h' : MH} (q : mj_sx S h h') (hS : ∀ a ∈ S, 25 ≤ a ∧ a < 46) (a : CI h n k e lk rn G sm ak GA sc s stp mov ty tx) : CI h' n k e lk rn G sm ak GA sc s stp mov ty tx := by
  obtain ⟨a1, a2, a3, a4, a5, a6, a7, a8⟩ := a
  have ns : ∀ b, b < 25 → b ∉ S := fun b hb z => by have := (hS b z).1; omega
  have e0 : ∀ j, mj_i h' 0 j = mj_i h 0 j := fun j => sx_i q (ns 0 (by decide))
  have e24 : ∀ j, mj_i h' 24 j = mj_i h 24 j := fun j => sx_i q (ns 24 (by decide))
  refine ⟨CB_sx q (fun b hb => (hS b hb).2) ⟨ns 1 (by decide), ns 2 (by decide), ns 3 (by decide), ns 8 (by decide)⟩ (fun c _ _ => ⟨sx_i q (ns 6 (by decide)), sx_i q (ns 22 (by decide))⟩) a1, CC_sx q ⟨ns 11 (by decide), ns 12 (by decide), ns 13 (by decide), ns 15 (by decide), ns 19 (by decide)⟩ a2, a3, a4, ?_, ?_, ?_, ?_⟩
  · simp only [e0, e24]; exact a5
  · rw [e0]; exact a6
  · rw [e0]; exact a7
  · rw [e0]; exact a8
/-- a view is changed, no more -/
theorem CI_v4 {h' : MH} (q : mj_sx [4, 5, 6, 7] h h') (hd : ∀ c, 48 ≤ c → c ≤ 57 → mj_i h' 6 c = mj_i h 6 c) (a : CI h n k e lk rn G sm ak GA sc s stp mov ty tx) : CI h' n k e lk rn G sm ak GA sc s stp mov ty tx := by
  obtain ⟨a1, a2, a3, a4, a5, a6, a7, a8⟩ := a
  have e0 : ∀ j, mj_i h' 0 j = mj_i h 0 j := fun j => sx_i q (by decide)
  have e24 : ∀ j, mj_i h' 24 j = mj_i h 24 j := fun j => sx_i q (by decide)
  refine ⟨CB_sx q (by decide) (by decide) (fun c c1 c2 => ⟨hd c c1 c2, sx_i q (by decide)⟩) a1, CC_sx q (by decide) a2, a3, a4, ?_, ?_, ?_, ?_⟩
  · simp only [e0, e24]; exact a5
  · rw [e0]; exact a6
  · rw [e0]; exact a7
  · rw [e0]; exact a8
theorem in_25 {x : Int32} {a b : Nat} (h1 : ¬ x < nI a) (h2 : ¬ nI b < x) (hb : b < 2 ^ 31) (ha : a < 2 ^ 31) : ∃ j, a ≤ j ∧ j ≤ b ∧ x = nI j := by
  have h3 : nI a ≤ x := Int32.not_lt.mp h1
  have h4 : x ≤ nI b := Int32.not_lt.mp h2
  have h0 : ¬ x < 0 := fun z => nI_pos ha (Int32.lt_of_le_of_lt h3 z)
  obtain ⟨j, j1, rfl⟩ := nI_of h0
  exact ⟨j, (nI_leI ha j1).mp h3, (nI_leI j1 hb).mp h4, rfl⟩
theorem c_graph {x y : Int32} (a : CI h n k e lk rn G sm ak GA sc s stp mov ty tx) (hbad : (x < nI 2 ∨ nI 5 < x ∨ y < nI 2 ∨ nI 4 < y) → Q (some (.int (-1)), h))
    (hok : ∀ n' k' h', x = nI n' → y = nI k' → 2 ≤ n' → n' ≤ 5 → 2 ≤ k' → k' ≤ 4 → CF h h' → CI h' n' k' 0 (fun _ => 0) 0 G sm 1 GA sc 0 (nI 0) (nI 0) ty tx → Q (some (.int (nI (k' ^ n'))), h')) : mj_Wp L xs (d + 1 + 1 + 1) 7 0 [some (.ref 0), some (.int x), some (.int y)] [] h Q := by
  obtain ⟨a1, a2, a3, a4, a5, a6, a7, a8⟩ := id a
  have hL := a1.2.2.2.2.2.1
  simp only [w_7_0, w_7_1, w_7_2, w_7_5, w_7_6, w_7_7, w_7_10, w_7_11, w_7_12, w_7_15, w_7_16, w_7_17, w_7_20, w_7_21]
  by_cases c1 : x < nI 2
  · simp only [c1, if_true]; exact hbad (Or.inl c1)
  by_cases c2 : nI 5 < x
  · simp only [c1, c2, if_true, if_false]; exact hbad (Or.inr (Or.inl c2))
  by_cases c3 : y < nI 2
  · simp only [c1, c2, c3, if_true, if_false]; exact hbad (Or.inr (Or.inr (Or.inl c3)))
  by_cases c4 : nI 4 < y
  · have c5 : ¬ y ≤ nI 4 := fun z => Int32.not_lt.mpr z c4
    simp only [c1, c2, c3, c5, if_true, if_false]; exact hbad (Or.inr (Or.inr (Or.inr c4)))
  have c5 : y ≤ nI 4 := Int32.not_lt.mp c4
  obtain ⟨n', n1, n2, rfl⟩ := in_25 c1 c2 (by decide) (by decide)
  obtain ⟨k', k1, k2, rfl⟩ := in_25 c3 c4 (by decide) (by decide)
  simp only [c1, c2, c3, c5, if_true, if_false, w_7_22, w_7_23, w_7_26, w_7_27, w_7_28, ly_0 hL, lr_0_0 hL, ly_1 hL, mj_rv_some]
  refine k_renew (d := d + 1) n2 (by omega) (GL_of hL) (fun h1 q1 q2 => ?_)
  have hL1 := sx_Lay q1 hL
  simp only [w_7_31, w_7_32, w_7_35, w_7_38, w_7_39, w_7_42, w_7_45, w_7_46, w_7_47, w_7_50, w_7_51, w_7_54, w_7_55, w_7_58, w_7_61, w_8_0, w_8_1, w_8_2, w_8_5, w_8_6, w_8_7, w_8_8, w_8_8_n, w_8_11, w_9_0, w_9_1, w_9_2, w_9_5, w_9_6, w_9_6_n, w_9_7, w_9_7_n, w_9_10, w_10_0, w_10_1, w_10_2, w_10_5, w_10_6, w_10_7, w_10_10, w_11_0, w_11_1, w_11_2, w_11_5, w_11_6, w_11_7, w_11_10, Option.toList, List.nil_append, ly_0 hL1, lr_0_2 hL1, lr_0_3 hL1, lr_0_0 hL1, ly_1 hL1, ly_8 hL1, ly_11 hL1, mj_rv_some, mj_is_wi, mj_is_wr, mj_r_wi, mj_r_wr, mj_fit_n0, show ¬ ((0 : Nat) = 8 ∧ (3 : Nat) = 4) by decide, show ¬ ((0 : Nat) = 8 ∧ (0 : Nat) = 4) by decide, if_false]
  obtain ⟨h2, hh⟩ : ∃ h2, h2 = mj_wi (mj_wi (mj_wi (mj_wi (mj_wi (mj_wr (mj_wi (mj_wi h1 8 2 (nI 0)) 8 3 (nI 1)) 8 4 none) 11 16 (nI 0)) 11 17 (nI 0)) 0 6 (nI 0)) 0 7 (nI 0)) 0 8 (nI 0) := ⟨_, rfl⟩
  rw [← hh]
  have r2 : ∀ b, b ≠ 8 → b ≠ 11 → b ≠ 0 → ∀ j, mj_i h2 b j = mj_i h1 b j := fun b b1 b2 b3 j => by rw [hh]; simp [mj_i_wi, mj_i_wr, b1, b2, b3]
  have r11 : ∀ j, j ≠ 16 → j ≠ 17 → mj_i h2 11 j = mj_i h1 11 j := fun j b1 b2 => by rw [hh]; simp [mj_i_wi, mj_i_wr, b1, b2]
  have r0 : mj_i h2 0 5 = mj_i h1 0 5 := by rw [hh]; simp [mj_i_wi, mj_i_wr]
  have hL2 : Lay h2 := by
    rw [hh]
    exact (Lay_wi.mpr (Lay_wi.mpr (Lay_wi.mpr (Lay_wi.mpr (Lay_wi.mpr (Lay_wr (by decide) (Lay_wi.mpr (Lay_wi.mpr hL1))))))))
  have zz : mj_z h2 = mj_z h1 ∧ mj_u h2 = mj_u h1 := by rw [hh]; exact ⟨rfl, rfl⟩
  have gr : Gr h2 n' k' 0 (fun _ => 0) := by
    simp only [Gr, r2 1 (by decide) (by decide) (by decide), r2 2 (by decide) (by decide) (by decide), r2 3 (by decide) (by decide) (by decide)]
    exact q2
  have e15 : mj_i h2 1 5 = nI (k' ^ n') := gr.2.2.2.1
  rw [e15]
  refine hok n' k' h2 rfl rfl n1 n2 k1 k2 ⟨hL2, by rw [zz.1, q1.1]; exact Nat.le_refl _, by rw [zz.1, q1.1]; omega, by rw [zz.2, q1.2.1]; omega, fun b b1 b2 => ?_⟩ ⟨⟨n1, n2, k1, k2, fun _ => (by decide : 0 < 32), hL2, gr, ⟨by decide, ?_, fun r hr => by omega⟩, ⟨by decide, ?_, fun z => by cases z⟩, fun c c1 c2 => ?_⟩, CC_new a2.1 ?_ ?_ ?_, Nat.pow_pos (by omega), fun _ => Nat.two_pow_pos _, ⟨?_, a5.2.1, fun i hi => ?_⟩, ?_, ?_, ?_⟩
  · funext j
    rw [r2 b (by omega) (by omega) (by omega), sx_i q1 (fun z => by simp at z; omega)]
  · rw [hh]; simp [mj_i_wi, mj_i_wr]
  · rw [hh]; simp [mj_i_wi, mj_i_wr]
  · rw [r2 6 (by decide) (by decide) (by decide), r2 22 (by decide) (by decide) (by decide), sx_i q1 (by decide), sx_i q1 (by decide)]
    exact a1.2.2.2.2.2.2.2.2.2 c c1 c2
  · rw [r11 12 (by decide) (by decide), sx_i q1 (by decide)]; exact a2.2.1
  · rw [hh]; simp [mj_i_wi, mj_i_wr]
  · rw [hh]; simp [mj_i_wi, mj_i_wr]
  · rw [r0, sx_i q1 (by decide)]; exact a5.1
  · rw [r2 24 (by decide) (by decide) (by decide), sx_i q1 (by decide)]; exact a5.2.2 i hi
  · rw [hh]; simp [mj_i_wi, mj_i_wr]
  · rw [hh]; simp [mj_i_wi, mj_i_wr]
  · rw [hh]; simp [mj_i_wi, mj_i_wr]
end CallsK
