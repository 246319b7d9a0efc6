/-! More calls of the bench. -/
section Calls2K
variable {L : Nat} {xs : Nat → Int32} {d : Nat} {Q : Option Value × MH → Prop} {h : MH} {n k e : Nat} {lk : Nat → Nat} {rn : Nat} {G : Nat → GD} {sm : SM} {ak : Nat} {GA : GD} {sc s : Nat} {stp mov : Int32} {ty : Nat} {tx : Nat → Nat}
/-- is it a node's number -/
theorem nd_of {x : Int32} (hn : n ≤ 5) (h1 : ¬ (x < nI 0 ∨ nI n ≤ x)) : ∃ a, a < n ∧ x = nI a := by
  have h0 : ¬ x < 0 := fun z => h1 (Or.inl z)
  obtain ⟨j, j1, rfl⟩ := nI_of h0
  refine ⟨j, Nat.lt_of_not_le (fun z => h1 (Or.inr ((nI_leI (by omega) j1).mpr z))), rfl⟩
theorem c_edge {x y : Int32} (a : CI h n k e lk rn G sm ak GA sc s stp mov ty tx) (hbad : ((x < nI 0 ∨ nI n ≤ x) ∨ (y < nI 0 ∨ nI n ≤ y) ∨ x = y ∨ ∃ a b, a < n ∧ b < n ∧ x = nI a ∧ y = nI b ∧ lk a / 2 ^ b % 2 ≠ 0) → Q (some (.int (-1)), h))
    (hok : ∀ a b h', x = nI a → y = nI b → a < n → b < n → a ≠ b → lk a / 2 ^ b % 2 = 0 → CF h h' → CI h' n k (e + 1) (lkU lk a b) rn G sm ak GA sc s stp mov ty tx → Q (some (.int (nI (e + 1))), h')) : mj_Wp L xs (d + 1) 12 0 [some (.ref 0), some (.int x), some (.int y)] [] h Q := by
  obtain ⟨a1, a2, a3, a4, a5, a6, a7, a8⟩ := id a
  obtain ⟨b1, b2, b3, b4, b5, hL, gr, b8, b9, b10⟩ := id a1
  have n10 : ¬ nI 1 = nI 0 := by decide
  simp only [w_12_0, w_12_1, w_12_4, w_12_5, w_12_8, ly_0 hL, lr_0_0 hL, ly_1 hL, mj_rv_some, k_has hL, gr.1, Option.toList, List.cons_append, List.nil_append]
  by_cases c1 : x < nI 0 ∨ nI n ≤ x
  · simp only [c1, if_true, w_12_39, w_12_40]; exact hbad (Or.inl c1)
  simp only [c1, if_false, n10, w_12_11, w_12_12, w_12_15, w_12_16, w_12_19, ly_0 hL, lr_0_0 hL, ly_1 hL, mj_rv_some, k_has hL, gr.1, Option.toList, List.cons_append, List.nil_append]
  by_cases c2 : y < nI 0 ∨ nI n ≤ y
  · simp only [c2, if_true, w_12_39, w_12_40]; exact hbad (Or.inr (Or.inl c2))
  simp only [c2, if_false, n10, w_12_22, w_12_23, w_12_24]
  by_cases c3 : x = y
  · simp only [c3, if_true, w_12_39, w_12_40]; exact hbad (Or.inr (Or.inr (Or.inl c3)))
  obtain ⟨p, p1, rfl⟩ := nd_of b2 c1
  obtain ⟨q, q1, rfl⟩ := nd_of b2 c2
  have hpq : p ≠ q := fun z => c3 (by rw [z])
  have i1 : mj_in (nI p) 5 = true := mj_in_nI (by omega) (by omega)
  have i2 : (nI p).toNatClampNeg = p := nI_clamp (by omega)
  have i3 : mj_in (nI q) 5 = true := mj_in_nI (by omega) (by omega)
  have i4 : (nI q).toNatClampNeg = q := nI_clamp (by omega)
  simp only [c3, if_false, w_12_27, w_12_28, w_12_31, w_12_32, w_12_33, w_12_36, ly_0 hL, lr_0_0 hL, ly_1 hL, mj_rv_some, k_lk hL gr b5 (show p < 5 by omega) (show q < 5 by omega), Option.toList, List.cons_append, List.nil_append]
  by_cases c4 : lk p / 2 ^ q % 2 = 0
  · simp only [c4, if_true, w_12_41, w_12_42, w_12_45, w_12_46, w_12_47, ly_0 hL, lr_0_0 hL, ly_1 hL, mj_rv_some, k_link hL i1 i3, i2, i4]
    have l1 := gr.2.2.2.2.2 p (by omega)
    have l2 := gr.2.2.2.2.2 q (by omega)
    have l3 : mj_i (mj_wi h 2 p (nI (orN (lk p) q))) 2 q = nI (lk q) := by
      rw [mj_i_wi]
      simp only [show ¬ q = p from fun z => hpq z.symm, and_false, if_false]
      exact l2
    simp only [l1, orN_I (lk p) (b5 p) q (show q < 5 by omega), l3, orN_I (lk q) (b5 q) p (show p < 5 by omega), gr.2.2.1, nI_add]
    obtain ⟨h1, hh1⟩ : ∃ h1, h1 = mj_wi (mj_wi (mj_wi h 2 p (nI (orN (lk p) q))) 2 q (nI (orN (lk q) p))) 1 4 (nI (e + 1)) := ⟨_, rfl⟩
    have s1 : mj_sx [1, 2] h h1 := by rw [hh1]; exact sx_tr (sx_tr (sx_wi (by decide)) (sx_wi (by decide))) (sx_wi (by decide))
    have hL1 := sx_Lay s1 hL
    simp only [← hh1, w_12_50, w_12_51, w_12_54, w_12_57, w_12_58, w_12_61, w_12_64, w_10_0, w_10_1, w_10_2, w_10_5, w_10_6, w_10_7, w_10_10, ly_0 hL1, lr_0_0 hL1, lr_0_3 hL1, ly_1 hL1, ly_11 hL1, mj_rv_some, mj_is_wi, mj_r_wi, mj_fit_n0, Option.toList, List.nil_append]
    obtain ⟨h2, hh2⟩ : ∃ h2, h2 = mj_wi (mj_wi h1 11 16 (nI 0)) 11 17 (nI 0) := ⟨_, rfl⟩
    rw [← hh2]
    have s2 : mj_sx [11] h1 h2 := by rw [hh2]; exact sx_tr (sx_wi (by decide)) (sx_wi (by decide))
    have s3 : mj_sx [1, 2, 11] h h2 := sx_tr (sx_mono s1 (by decide)) (sx_mono s2 (by decide))
    have e14 : mj_i h2 1 4 = nI (e + 1) := by rw [sx_i s2 (by decide), hh1]; simp [mj_i_wi]
    have g2 : Gr h2 n k (e + 1) (lkU lk p q) := by
      refine ⟨?_, ?_, e14, ?_, fun c hc => ?_, fun c hc => ?_⟩
      · rw [sx_i s2 (by decide), hh1]; simp [mj_i_wi, gr.1]
      · rw [sx_i s2 (by decide), hh1]; simp [mj_i_wi, gr.2.1]
      · rw [sx_i s2 (by decide), hh1]; simp [mj_i_wi, gr.2.2.2.1]
      · rw [sx_i s3 (by decide)]; exact gr.2.2.2.2.1 c hc
      · rw [sx_i s2 (by decide), hh1]
        unfold lkU
        by_cases d1 : c = q
        · simp [mj_i_wi, d1]
        · by_cases d2 : c = p
          · simp [mj_i_wi, d2, hpq]
          · simp [mj_i_wi, d1, d2, gr.2.2.2.2.2 c hc]
    have hlk : ∀ c, lkU lk p q c < 2 ^ n := fun c => by
      unfold lkU
      split
      · exact orN_lt b2 (a4 q) p1
      · split
        · exact orN_lt b2 (a4 p) q1
        · exact a4 c
    rw [e14]
    refine hok p q h2 rfl rfl p1 q1 hpq c4 (CF_sx hL s3 (by decide)) ⟨⟨b1, b2, b3, b4, fun c => Nat.lt_of_lt_of_le (hlk c) (Nat.pow_le_pow_right (by decide) b2 : 2 ^ n ≤ 2 ^ 5), sx_Lay s3 hL, g2, RU_sx s3 (by decide) (by decide) b8, AI_sx s3 (by decide) (by decide) b9, fun c c1 c2 => ?_⟩, CC_new a2.1 ?_ ?_ ?_, a3, hlk, ⟨?_, a5.2.1, fun i hi => ?_⟩, ?_, ?_, ?_⟩
    · rw [sx_i s3 (by decide), sx_i s3 (by decide)]; exact b10 c c1 c2
    · rw [hh2]; simp [mj_i_wi]; rw [sx_i s1 (by decide)]; exact a2.2.1
    · rw [hh2]; simp [mj_i_wi]
    · rw [hh2]; simp [mj_i_wi]
    · rw [sx_i s3 (by decide)]; exact a5.1
    · rw [sx_i s3 (by decide)]; exact a5.2.2 i hi
    · rw [sx_i s3 (by decide)]; exact a6
    · rw [sx_i s3 (by decide)]; exact a7
    · rw [sx_i s3 (by decide)]; exact a8
  · simp only [c4, if_false, n10, w_12_39, w_12_40]
    exact hbad (Or.inr (Or.inr (Or.inr ⟨p, q, p1, q1, rfl, rfl, c4⟩)))
theorem ch_I : ∀ c, c < 127 → vp_nar .char ((nI c).toUInt32 % 65536).toInt32 = nI c := by decide +kernel
theorem c_type {x : Int32} (a : CI h n k e lk rn G sm ak GA sc s stp mov ty tx) (hbad : (x < nI 32 ∨ nI 126 < x) → Q (some (.int (-1)), h)) (hfull : (¬ (x < nI 32 ∨ nI 126 < x)) → ty = 48 → Q (some (.int (-2)), h))
    (hok : ∀ c h', x = nI c → 32 ≤ c → c ≤ 126 → ty < 48 → CF h h' → CI h' n k e lk rn G sm ak GA sc s stp mov (ty + 1) (uN tx ty c) → Q (some (.int (nI (ty + 1))), h')) : mj_Wp L xs d 16 0 [some (.ref 0), some (.int x)] [] h Q := by
  obtain ⟨a1, a2, a3, a4, a5, a6, a7, a8⟩ := id a
  obtain ⟨b1, b2, b3, b4, b5, hL, gr, b8, b9, b10⟩ := id a1
  obtain ⟨t1, t2, t3⟩ := a5
  simp only [w_16_0, w_16_1, w_16_3, w_16_6, w_16_7, w_16_9, w_16_12, w_16_13, w_16_14, w_16_15, w_16_18, w_16_20, w_16_23, w_16_25, ly_0 hL, t1]
  by_cases c1 : x < nI 32
  · simp only [c1, if_true]; exact hbad (Or.inl c1)
  by_cases c2 : nI 126 < x
  · have c3 : ¬ x ≤ nI 126 := fun z => Int32.not_lt.mpr z c2
    simp only [c1, c3, if_false]; exact hbad (Or.inr c2)
  have c3 : x ≤ nI 126 := Int32.not_lt.mp c2
  simp only [c1, c3, if_false, if_true]
  by_cases c4 : ty = 48
  · have : ¬ nI ty < nI 48 := by rw [c4]; decide
    simp only [this, if_false]
    exact hfull (fun z => by rcases z with z | z; exact c1 z; exact c2 z) c4
  have c5 : nI ty < nI 48 := by rw [nI_ltI (by omega) (by omega)]; omega
  obtain ⟨c, x1, x2, rfl⟩ := in_25 c1 c2 (by decide) (by decide)
  have e1 : mj_in (nI ty) 48 = true := mj_in_nI (by omega) (by omega)
  have e2 : (nI ty).toNatClampNeg = ty := nI_clamp (by omega)
  simp only [c5, if_true, w_16_26, w_16_27, w_16_30, w_16_31, w_16_34, w_16_35, w_16_36, w_16_37, w_16_38, w_16_39, w_16_42, w_16_43, w_16_44, w_16_47, w_16_48, w_16_51, ly_0 hL, lr_0_4 hL, lk_24 hL, ln_24 hL, mj_rv_some, t1, e1, e2, ch_I c (show c < 127 by omega), mj_is_wi, mj_i_ne (show 0 ≠ 24 by decide), nI_add]
  obtain ⟨h1, hh1⟩ : ∃ h1, h1 = mj_wi (mj_wi h 24 ty (nI c)) 0 5 (nI (ty + 1)) := ⟨_, rfl⟩
  rw [← hh1]
  have s1 : mj_sx [0, 24] h h1 := by rw [hh1]; exact sx_tr (sx_wi (by decide)) (sx_wi (by decide))
  have f1 : mj_i h1 0 5 = nI (ty + 1) := by rw [hh1]; simp [mj_i_wi]
  rw [f1]
  refine hok c h1 rfl x1 x2 (by omega) (CF_sx hL s1 (by decide)) ⟨CB_sx s1 (by decide) (by decide) (fun c _ _ => ⟨sx_i s1 (by decide), sx_i s1 (by decide)⟩) a1, CC_sx s1 (by decide) a2, a3, a4, ⟨f1, by omega, fun i hi => ?_⟩, ?_, ?_, ?_⟩
  · by_cases d1 : i = ty
    · rw [d1, uN_s, hh1]
      exact ⟨by simp [mj_i_wi], x1, x2⟩
    · rw [uN_o d1, hh1]
      have := t3 i (by omega)
      exact ⟨by simp [mj_i_wi, d1, this.1], this.2⟩
  · rw [hh1]; simp [mj_i_wi, a6]
  · rw [hh1]; simp [mj_i_wi, a7]
  · rw [hh1]; simp [mj_i_wi, a8]
/-- row 11's and row 8's flags are written -/
theorem c_drop (a : CI h n k e lk rn G sm ak GA sc s stp mov ty tx) (hbad : rn = 0 → Q (some (.int (-1)), h))
    (hok : ∀ r h', rn = r + 1 → CF h h' → CI h' n k e lk r G sm ak GA sc s stp mov ty tx → Q (some (.int (nI r)), h')) : mj_Wp L xs (d + 1) 38 0 [some (.ref 0)] [] h Q := by
  obtain ⟨a1, a2, a3, a4, a5, a6, a7, a8⟩ := id a
  obtain ⟨b1, b2, b3, b4, b5, hL, gr, b8, b9, b10⟩ := id a1
  have hr6 := b8.1
  have z0 : (nI rn = nI 0) = (rn = 0) := by rw [nI_eq (by omega) (by omega)]
  simp only [w_38_0, w_38_1, w_38_4, w_38_7, w_38_10, w_38_11, ly_0 hL, lr_0_2 hL, ly_8 hL, mj_rv_some, b8.2.1, z0]
  cases rn with
  | zero => simp only [not_true_eq_false, if_false]; exact hbad rfl
  | succ r =>
    have e1 : nI (r + 1) - nI 1 = nI r := pk_sub (by omega)
    simp only [show ¬ r + 1 = 0 by omega, not_false_eq_true, if_true, w_38_12, w_38_13, w_38_16, w_38_19, w_38_20, w_38_23, w_38_26, w_38_27, w_38_30, w_38_33, w_39_0, w_39_1, w_39_2, w_39_5, w_39_6, w_39_7, w_39_10, w_10_0, w_10_1, w_10_2, w_10_5, w_10_6, w_10_7, w_10_10, ly_0 hL, lr_0_2 hL, lr_0_3 hL, ly_8 hL, ly_11 hL, mj_rv_some, b8.2.1, e1, mj_is_wi, mj_r_wi, mj_fit_n0, Option.toList, List.nil_append]
    obtain ⟨h1, hh1⟩ : ∃ h1, h1 = mj_wi (mj_wi (mj_wi h 8 2 (nI r)) 11 16 (nI 0)) 11 17 (nI 0) := ⟨_, rfl⟩
    rw [← hh1]
    have s1 : mj_sx [8, 11] h h1 := by rw [hh1]; exact sx_tr (sx_tr (sx_wi (by decide)) (sx_wi (by decide))) (sx_wi (by decide))
    have f1 : mj_i h1 8 2 = nI r := by rw [hh1]; simp [mj_i_wi]
    rw [f1]
    have ex := Ext_sx s1 (by decide)
    refine hok r h1 rfl (CF_sx hL s1 (by decide)) ⟨⟨b1, b2, b3, b4, b5, sx_Lay s1 hL, Gr_sx s1 (by decide) gr, ⟨by omega, f1, fun r' hr' => ?_⟩, ⟨b9.1, ?_, fun z => ?_⟩, fun c c1 c2 => ?_⟩, CC_new a2.1 ?_ ?_ ?_, a3, a4, ⟨?_, a5.2.1, fun i hi => ?_⟩, ?_, ?_, ?_⟩
    · obtain ⟨⟨g, y1, y2⟩, sa, y3, y4, y5⟩ := b8.2.2 r' (by omega)
      exact ⟨⟨g, by rw [sx_r s1]; exact y1, Ext_TG ex _ _ _ _ y2⟩, sa, by rw [sx_r s1]; exact y3, Ext_Sum ex y4, y5⟩
    · rw [hh1]; simp [mj_i_wi, b9.2.1]
    · obtain ⟨g, y1, y2⟩ := b9.2.2 z
      exact ⟨g, by rw [sx_r s1]; exact y1, Ext_TG ex _ _ _ _ y2⟩
    · rw [sx_i s1 (by decide), sx_i s1 (by decide)]; exact b10 c c1 c2
    · rw [hh1]; simp [mj_i_wi, a2.2.1]
    · rw [hh1]; simp [mj_i_wi]
    · rw [hh1]; simp [mj_i_wi]
    · rw [sx_i s1 (by decide)]; exact a5.1
    · rw [sx_i s1 (by decide)]; exact a5.2.2 i hi
    · rw [sx_i s1 (by decide)]; exact a6
    · rw [sx_i s1 (by decide)]; exact a7
    · rw [sx_i s1 (by decide)]; exact a8
theorem c_scheduler {x : Int32} (a : CI h n k e lk rn G sm ak GA sc s stp mov ty tx) (hbad : (∀ j, j < 3 → x ≠ nI j) → Q (some (.int (-1)), h))
    (hok : ∀ j h', x = nI j → j < 3 → CF h h' → CI h' n k e lk rn G sm ak GA j s stp mov ty tx → Q (some (.int (nI sc)), h')) : mj_Wp L xs (d + 1) 42 0 [some (.ref 0), some (.int x), none] [] h Q := by
  obtain ⟨a1, a2, a3, a4, a5, a6, a7, a8⟩ := id a
  obtain ⟨b1, b2, b3, b4, b5, hL, gr, b8, b9, b10⟩ := id a1
  have go : ∀ j, x = nI j → j < 3 → mj_Wp L xs (d + 1) 42 16 [some (.ref 0), some (.int x), none] [] h Q := by
    intro j hx hj
    simp only [w_42_16, w_42_17, w_42_20, w_42_23, w_42_24, w_42_25, w_42_28, w_42_29, w_42_32, w_42_33, w_42_36, w_42_39, w_42_40, w_41_0, w_41_1, w_41_2, w_41_5, ly_0 hL, lr_0_3 hL, ly_11 hL, mj_rv_some, a2.2.1, mj_is_wi, mj_r_wi, mj_fit_n0, Option.toList, List.nil_append]
    obtain ⟨h1, hh1⟩ : ∃ h1, h1 = mj_wi (mj_wi h 11 12 x) 11 17 (nI 0) := ⟨_, rfl⟩
    rw [← hh1]
    have s1 : mj_sx [11] h h1 := by rw [hh1]; exact sx_tr (sx_wi (by decide)) (sx_wi (by decide))
    refine hok j h1 hx hj (CF_sx hL s1 (by decide)) ⟨CB_sx s1 (by decide) (by decide) (fun c _ _ => ⟨sx_i s1 (by decide), sx_i s1 (by decide)⟩) a1, ⟨hj, ?_, ?_, Or.inl ?_⟩, a3, a4, ⟨?_, a5.2.1, fun i hi => ?_⟩, ?_, ?_, ?_⟩
    · rw [hh1]; simp [mj_i_wi, hx]
    · have e16 : mj_i h1 11 16 = mj_i h 11 16 := by rw [hh1]; simp [mj_i_wi]
      rw [e16]
      rcases a2.2.2.1 with z | ⟨z, t⟩
      · exact Or.inl z
      · exact Or.inr ⟨z, TB_sx s1 (by decide) t⟩
    · rw [hh1]; simp [mj_i_wi]
    · rw [sx_i s1 (by decide)]; exact a5.1
    · rw [sx_i s1 (by decide)]; exact a5.2.2 i hi
    · rw [sx_i s1 (by decide)]; exact a6
    · rw [sx_i s1 (by decide)]; exact a7
    · rw [sx_i s1 (by decide)]; exact a8
  simp only [w_42_0, w_42_1, w_42_4, w_42_5, w_42_6, w_42_9, w_42_10, w_42_11, w_42_14, w_42_15]
  by_cases c0 : x = nI 0
  · rw [if_pos c0]; exact go 0 c0 (by decide)
  by_cases c1 : x = nI 1
  · rw [if_neg c0, if_pos c1]; exact go 1 c1 (by decide)
  by_cases c2 : x = nI 2
  · rw [if_neg c0, if_neg c1, if_pos c2]; exact go 2 c2 (by decide)
  rw [if_neg c0, if_neg c1, if_neg c2]
  refine hbad (fun j hj => ?_)
  have : j = 0 ∨ j = 1 ∨ j = 2 := by omega
  rcases this with rfl | rfl | rfl
  · exact c0
  · exact c1
  · exact c2
theorem bit_2 : ∀ a, a < 5 → ∀ x, x < 5 → 2 ^ a / 2 ^ x % 2 = if x = a then 1 else 0 := by decide +kernel
/-- one node's value is set -/
def stS (n k s a x : Nat) : Nat := hn (fun j => if j = a then x else dg n k s j) k n
theorem af_one {sh : Nat → Int32} {s0 : Int32} {a : Nat} (ha : a < 5) : ∀ j, j ≤ 5 → afF sh (2 ^ a) s0 j = if a < j then s0 + sh a else s0
  | 0, _ => by simp [afF]
  | j + 1, hj => by
    rw [afF, bit_2 a ha j (by omega), af_one ha j (by omega)]
    by_cases h1 : j = a
    · subst h1; simp
    · simp only [h1, if_false, if_true]
      by_cases h2 : a < j
      · rw [if_pos h2, if_pos (by omega)]
      · rw [if_neg h2, if_neg (by omega)]
theorem stS_I {a x : Nat} (hn : n ≤ 5) (hs : s < k ^ n) (ha : a < n) : nI s + (nI x - nI (dg n k s a)) * nI (k ^ (n - 1 - a)) = nI (stS n k s a x) := by
  have h1 := af_hn (n := n) (k := k) (s := s) (c := 2 ^ a) (nv := fun _ => x) (sh := fun j => (nI x - nI (dg n k s j)) * nI (k ^ (n - 1 - j))) hs (fun _ _ _ => rfl) n (Nat.le_refl _)
  rw [af_one (by omega) n hn, if_pos ha] at h1
  rw [h1]
  simp only [Nat.sub_self, Nat.pow_zero, Nat.mul_one, Nat.mod_one, Nat.add_zero]
  congr 1
  refine hn_cong n (fun j hj => ?_)
  unfold ndF
  rw [bit_2 a (by omega) j (by omega)]
  by_cases h2 : j = a
  · subst h2; simp
  · simp [h2]
theorem stS_lt {a x : Nat} (hk : 0 < k) (hx : x < k) : stS n k s a x < k ^ n := by
  refine hn_lt n (fun j _ => ?_)
  split
  · exact hx
  · exact dg_lt hk
theorem stS_dg {a x j : Nat} (hk : 0 < k) (hx : x < k) (hj : j < n) : dg n k (stS n k s a x) j = if j = a then x else dg n k s j := by
  refine dg_hn (nd := fun j => if j = a then x else dg n k s j) (fun b _ => ?_) hj
  show (if b = a then x else dg n k s b) < k
  split
  · exact hx
  · exact dg_lt hk
theorem c_set {x y : Int32} (a : CI h n k e lk rn G sm ak GA sc s stp mov ty tx) (hbad : ((x < nI 0 ∨ nI n ≤ x) ∨ (y < nI 0 ∨ nI k ≤ y)) → Q (some (.int (-1)), h))
    (hok : ∀ p q h', x = nI p → y = nI q → p < n → q < k → CF h h' → CI h' n k e lk rn G sm ak GA sc (stS n k s p q) (nI 0) (nI 0) ty tx → Q (some (.int (nI (dg n k s p))), h')) : mj_Wp L xs (d + 1) 43 0 [some (.ref 0), some (.int x), some (.int y), none] [] h Q := by
  have hN := CB_N a.1
  obtain ⟨a1, a2, a3, a4, a5, a6, a7, a8⟩ := id a
  obtain ⟨b1, b2, b3, b4, b5, hL, gr, b8, b9, b10⟩ := id a1
  have n10 : ¬ nI 1 = nI 0 := by decide
  simp only [w_43_0, w_43_1, w_43_4, w_43_5, w_43_8, w_43_11, w_43_12, w_43_15, w_43_16, w_43_17, w_43_20, w_43_23, w_43_26, w_43_27, ly_0 hL, lr_0_0 hL, ly_1 hL, mj_rv_some, k_has hL, gr.1, gr.2.1, Option.toList, List.cons_append, List.nil_append]
  by_cases c1 : x < nI 0 ∨ nI n ≤ x
  · simp only [c1, if_true]; exact hbad (Or.inl c1)
  simp only [c1, if_false, n10]
  by_cases c2 : y < nI 0
  · simp only [c2, if_true]; exact hbad (Or.inr (Or.inl c2))
  simp only [c2, if_false]
  by_cases c3 : nI k ≤ y
  · have : ¬ y < nI k := Int32.not_lt.mpr c3
    simp only [this, if_false]; exact hbad (Or.inr (Or.inr c3))
  have c4 : y < nI k := Int32.not_le.mp c3
  obtain ⟨p, p1, rfl⟩ := nd_of b2 c1
  obtain ⟨q, q1, rfl⟩ := nd_of (n := k) (by omega) (show ¬ (y < nI 0 ∨ nI k ≤ y) from fun z => by rcases z with z | z; exact c2 z; exact c3 z)
  have i1 : mj_in (nI p) 5 = true := mj_in_nI (by omega) (by omega)
  have i2 : (nI p).toNatClampNeg = p := nI_clamp (by omega)
  simp only [c4, if_true, w_43_28, w_43_29, w_43_32, w_43_33, w_43_36, w_43_37, w_43_40, w_43_41, w_43_42, w_43_43, w_43_46, w_43_47, w_43_48, w_43_49, w_43_50, w_43_53, w_43_56, w_43_57, w_43_58, w_43_59, w_43_60, w_43_63, w_43_64, w_43_67, w_43_68, w_11_0, w_11_1, w_11_2, w_11_5, w_11_6, w_11_7, w_11_10, ly_0 hL, lr_0_0 hL, ly_1 hL, lr_1_1 hL, lk_3 hL, ln_3 hL, mj_rv_some, a6, k_dg hL gr b3 b4 b2 p1 (show s < 2 ^ 31 by omega), i1, i2, gr.2.2.2.2.1 p p1, stS_I b2 a3 p1, mj_is_wi, Option.toList, List.cons_append, List.nil_append]
  obtain ⟨h1, hh1⟩ : ∃ h1, h1 = mj_wi (mj_wi (mj_wi h 0 6 (nI (stS n k s p q))) 0 7 (nI 0)) 0 8 (nI 0) := ⟨_, rfl⟩
  rw [← hh1]
  have s1 : mj_sx [0] h h1 := by rw [hh1]; exact sx_tr (sx_tr (sx_wi (by decide)) (sx_wi (by decide))) (sx_wi (by decide))
  refine hok p q h1 rfl rfl p1 q1 (CF_sx hL s1 (by decide)) ⟨CB_sx s1 (by decide) (by decide) (fun c _ _ => ⟨sx_i s1 (by decide), sx_i s1 (by decide)⟩) a1, CC_sx s1 (by decide) a2, stS_lt (by omega) q1, a4, ⟨?_, a5.2.1, fun i hi => ?_⟩, ?_, ?_, ?_⟩
  · rw [hh1]; simp [mj_i_wi, a5.1]
  · rw [sx_i s1 (by decide)]; exact a5.2.2 i hi
  · rw [hh1]; simp [mj_i_wi]
  · rw [hh1]; simp [mj_i_wi]
  · rw [hh1]; simp [mj_i_wi]
theorem c_value {x : Int32} (a : CI h n k e lk rn G sm ak GA sc s stp mov ty tx) (hbad : (x < nI 0 ∨ nI n ≤ x) → Q (some (.int (-1)), h)) (hok : ∀ p, x = nI p → p < n → Q (some (.int (nI (dg n k s p))), h)) : mj_Wp L xs (d + 1) 45 0 [some (.ref 0), some (.int x)] [] h Q := by
  have hN := CB_N a.1
  obtain ⟨a1, a2, a3, a4, a5, a6, a7, a8⟩ := id a
  obtain ⟨b1, b2, b3, b4, b5, hL, gr, b8, b9, b10⟩ := id a1
  have n10 : ¬ nI 1 = nI 0 := by decide
  simp only [w_45_0, w_45_1, w_45_4, w_45_5, w_45_8, w_45_26, w_45_27, ly_0 hL, lr_0_0 hL, ly_1 hL, mj_rv_some, k_has hL, gr.1, Option.toList, List.cons_append, List.nil_append]
  by_cases c1 : x < nI 0 ∨ nI n ≤ x
  · simp only [c1, if_true]; exact hbad c1
  obtain ⟨p, p1, rfl⟩ := nd_of b2 c1
  simp only [c1, if_false, n10, w_45_11, w_45_12, w_45_15, w_45_16, w_45_19, w_45_20, w_45_23, w_45_26, w_45_27, ly_0 hL, lr_0_0 hL, ly_1 hL, mj_rv_some, a6, k_dg hL gr b3 b4 b2 p1 (show s < 2 ^ 31 by omega), Option.toList, List.cons_append, List.nil_append]
  exact hok p rfl p1
end Calls2K
