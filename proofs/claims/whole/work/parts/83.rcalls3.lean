/-! The reference's graph and edge. -/
theorem lkU_bit {lk : Nat → Nat} {a b x y : Nat} (hlk : ∀ a, lk a < 32) (ha : a < 5) (hb : b < 5) (hab : a ≠ b) (hy : y < 5) : lkU lk a b x / 2 ^ y % 2 = if (x = a ∧ y = b) ∨ (x = b ∧ y = a) then 1 else lk x / 2 ^ y % 2 := by
  unfold lkU
  by_cases h1 : x = b
  · rw [if_pos h1, orN_bit _ (hlk b) a ha y hy, h1]
    by_cases h2 : y = a
    · rw [if_pos h2, if_pos (Or.inr ⟨rfl, h2⟩)]
    · rw [if_neg h2, if_neg (by omega)]
  · rw [if_neg h1]
    by_cases h3 : x = a
    · rw [if_pos h3, orN_bit _ (hlk a) b hb y hy, h3]
      by_cases h2 : y = b
      · rw [if_pos h2, if_pos (Or.inl ⟨rfl, h2⟩)]
      · rw [if_neg h2, if_neg (by omega)]
    · rw [if_neg h3, if_neg (by omega)]
theorem lkU_lt {n : Nat} {lk : Nat → Nat} {a b x : Nat} (hn : n ≤ 5) (hlk : ∀ a, lk a < 2 ^ n) (ha : a < n) (hb : b < n) : lkU lk a b x < 2 ^ n := by
  unfold lkU
  split
  · exact orN_lt hn (hlk b) ha
  · split
    · exact orN_lt hn (hlk a) hb
    · exact hlk x
section RCalls3K
variable {L : Nat} {xs : Nat → Int32} {d : Nat} {Q : Option Value × MH → Prop} {h : MH} {n k e : Nat} {lk : Nat → Nat} {rn : Nat} {G : Nat → GD} {sm : SM} {ak : Nat} {GA : GD} {sc s : Nat} {stp mov : Int32} {ty : Nat} {tx : Nat → Nat}
theorem r_edge_bad {x y : Int32} (a : RI h n k e lk rn G sm ak GA sc s stp mov ty tx) (hb : (x < nI 0 ∨ nI n ≤ x) ∨ (y < nI 0 ∨ nI n ≤ y) ∨ x = y ∨ ∃ a b, a < n ∧ b < n ∧ x = nI a ∧ y = nI b ∧ lk a / 2 ^ b % 2 ≠ 0) : mj_Wp L xs (d + 1) 86 0 [some (.ref 25), some (.int x), some (.int y)] [] h Q ↔ Q (some (.int (-1)), h) := by
  have n10 : ¬ nI 1 = nI 0 := by decide
  have hL := a.1.2.2.2.2.2.1
  have hn := a.1.2.1
  simp only [w_86_0, w_86_1, w_86_2, w_86_5, w_86_8, w_86_9, w_86_10, w_86_13, w_86_16, w_86_17, w_86_18, w_86_34, w_86_35, ly_25 hL, r_isNode a.1, Option.toList, List.cons_append, List.nil_append]
  by_cases c1 : x < nI 0 ∨ nI n ≤ x
  · simp only [c1, if_true]
  by_cases c2 : y < nI 0 ∨ nI n ≤ y
  · simp only [c1, c2, n10, if_true, if_false]
  by_cases c3 : x = y
  · rw [c3] at c1
    simp only [c1, c2, c3, n10, if_true, if_false]
  rcases hb with hb | hb | hb | ⟨p, q, hp, hq, rfl, rfl, hbit⟩
  · exact absurd hb c1
  · exact absurd hb c2
  · exact absurd hb c3
  · have j1 : mj_in (nI (5 * p + q)) 25 = true := mj_in_nI (by omega) (by omega)
    have j2 : (nI (5 * p + q)).toNatClampNeg = 5 * p + q := nI_clamp (by omega)
    simp only [c1, c2, c3, n10, if_false, w_86_21, w_86_22, w_86_25, w_86_26, w_86_27, w_86_28, w_86_29, w_86_30, w_86_31, w_86_34, w_86_35, ly_25 hL, lr_25_3 hL, lk_26 hL, ln_26 hL, mj_rv_some, n5x, j1, j2, a.1.2.2.2.2.2.2.2.2.2 p q (by omega) (by omega), n2_0, hbit]
theorem r_edge_ok {p q : Nat} (a : RI h n k e lk rn G sm ak GA sc s stp mov ty tx) (hp : p < n) (hq : q < n) (hpq : p ≠ q) (hbit : lk p / 2 ^ q % 2 = 0) (hok : ∀ h', mj_sx rfS h h' → RI h' n k (e + 1) (lkU lk p q) rn G sm ak GA sc s stp mov ty tx → Q (some (.int (nI (e + 1))), h')) : mj_Wp L xs (d + 1) 86 0 [some (.ref 25), some (.int (nI p)), some (.int (nI q))] [] h Q := by
  have n10 : ¬ nI 1 = nI 0 := by decide
  obtain ⟨a1, a2, a3, a4, a5, a6, a7, a8, a9, a10⟩ := id a
  obtain ⟨b1, b2, b3, b4, b5, hL, b7, b8, b9, b10⟩ := id a1
  have hlk : ∀ a, lk a < 32 := fun a => Nat.lt_of_lt_of_le (b5 a) (Nat.pow_le_pow_right (by decide) b2 : 2 ^ n ≤ 2 ^ 5)
  have c3 : ¬ nI p = nI q := by rw [nI_eq (by omega) (by omega)]; exact hpq
  have j1 : mj_in (nI (5 * p + q)) 25 = true := mj_in_nI (by omega) (by omega)
  have j2 : (nI (5 * p + q)).toNatClampNeg = 5 * p + q := nI_clamp (by omega)
  have i1 : mj_in (nI (5 * q + p)) 25 = true := mj_in_nI (by omega) (by omega)
  have i2 : (nI (5 * q + p)).toNatClampNeg = 5 * q + p := nI_clamp (by omega)
  have v1 : vp_nar .boolean (nI 1) = nI 1 := nar_bI true
  obtain ⟨h1, hh1⟩ : ∃ h1, h1 = mj_wi (mj_wi h 26 (5 * p + q) (nI 1)) 26 (5 * q + p) (nI 1) := ⟨_, rfl⟩
  have e2 : mj_i h1 25 2 = nI e := by rw [hh1, mj_i_ne (by decide), mj_i_ne (by decide)]; exact b9
  obtain ⟨h2, hh2⟩ : ∃ h2, h2 = mj_wi (mj_wi h1 25 2 (nI (e + 1))) 25 31 (nI 0) := ⟨_, rfl⟩
  have s1 : mj_sx [26] h h1 := by rw [hh1]; exact sx_tr (sx_wi (by decide)) (sx_wi (by decide))
  have s2 : mj_sx [25, 26] h h2 := sx_tr (sx_mono s1 (by decide)) (by rw [hh2]; exact sx_tr (sx_wi (by decide)) (sx_wi (by decide)))
  have hL1 := sx_Lay s1 hL
  have hL2 := sx_Lay s2 hL
  have e22 : mj_i h2 25 2 = nI (e + 1) := by rw [hh2]; simp [mj_i_wi]
  simp only [w_86_0, w_86_1, w_86_2, w_86_5, w_86_8, w_86_9, w_86_10, w_86_13, w_86_16, w_86_17, w_86_18, w_86_21, w_86_22, w_86_25, w_86_26, w_86_27, w_86_28, w_86_29, w_86_30, w_86_31, w_86_34, w_86_35, w_86_36, w_86_37, w_86_40, w_86_41, w_86_42, w_86_43, w_86_44, w_86_45, w_86_46, w_86_47, w_86_48, w_86_51, w_86_52, w_86_53, w_86_54, w_86_55, w_86_56, w_86_57, w_86_58, w_86_59, w_86_60, w_86_63, w_86_64, w_86_65, w_86_68, w_86_69, w_86_70, w_86_73, w_86_74, w_86_77, ly_25 hL, lr_25_3 hL, lk_26 hL, ln_26 hL, mj_rv_some, r_isNode a1, not_nd b2 hp, not_nd b2 hq, Option.toList, List.cons_append, List.nil_append, n10, c3, if_false, n5x, j1, j2, i1, i2, b10 p q (by omega) (by omega), hbit, if_true, v1, mj_is_wi, mj_ik_wi, mj_ln_wi, mj_r_wi, ← hh1, ly_25 hL1, e2, nI_add, mj_fit_n0, ← hh2, ly_25 hL2, e22]
  have q25 : ∀ j, j ≠ 2 → j ≠ 31 → mj_i h2 25 j = mj_i h 25 j := fun j j1 j2 => by rw [← sx_i s1 (show 25 ∉ [26] by decide), hh2]; simp [mj_i_wi, j1, j2]
  refine hok h2 (sx_mono s2 (by decide)) ⟨⟨b1, b2, b3, b4, fun x => lkU_lt b2 b5 hp hq, hL2, by rw [q25 0 (by decide) (by decide)]; exact b7, by rw [q25 1 (by decide) (by decide)]; exact b8, e22, fun x y hx hy => ?_⟩, RR_sx s2 (by decide) (q25 11 (by decide) (by decide)) a2, RA_sx s2 (by decide) (q25 8 (by decide) (by decide)) a3, ⟨a4.1, by rw [q25 7 (by decide) (by decide)]; exact a4.2⟩, Or.inl (by rw [hh2]; simp [mj_i_wi]), a6, fun j hj => by rw [sx_i s2 (by decide)]; exact a7 j hj, ⟨by rw [q25 9 (by decide) (by decide)]; exact a8.1, a8.2.1, fun i hi => by rw [sx_i s2 (by decide)]; exact a8.2.2 i hi⟩, by rw [q25 5 (by decide) (by decide)]; exact a9, by rw [q25 6 (by decide) (by decide)]; exact a10⟩
  rw [lkU_bit hlk (by omega) (by omega) hpq hy, hh2, mj_i_ne (by decide), mj_i_ne (by decide), hh1, mj_i_wi, mj_i_wi]
  by_cases h1 : x = p ∧ y = q
  · rw [if_pos (Or.inl h1), h1.1, h1.2]
    simp
  · by_cases h2 : x = q ∧ y = p
    · rw [if_pos (Or.inr h2), h2.1, h2.2]
      simp
    · rw [if_neg (by omega), if_neg (by omega), if_neg (by omega)]
      exact b10 x y hx hy
theorem r_graph_bad {x y : Int32} (hb : x < nI 2 ∨ nI 5 < x ∨ y < nI 2 ∨ nI 4 < y) : mj_Wp L xs d 83 0 [some (.ref 25), some (.int x), some (.int y), none] [] h Q ↔ Q (some (.int (-1)), h) := by
  simp only [w_83_0, w_83_1, w_83_2, w_83_5, w_83_6, w_83_7, w_83_10, w_83_11, w_83_12, w_83_15, w_83_16, w_83_17, w_83_20, w_83_21]
  by_cases c1 : x < nI 2
  · simp only [c1, if_true]
  by_cases c2 : nI 5 < x
  · simp only [c1, c2, if_true, if_false]
  by_cases c3 : y < nI 2
  · simp only [c1, c2, c3, if_true, if_false]
  have c4 : nI 4 < y := by
    rcases hb with hb | hb | hb | hb
    · exact absurd hb c1
    · exact absurd hb c2
    · exact absurd hb c3
    · exact hb
  have c5 : ¬ y ≤ nI 4 := fun z => Int32.not_lt.mpr z c4
  simp only [c1, c2, c3, c5, if_false]
theorem dg_0 {n k a : Nat} : dg n k 0 a = 0 := by rw [dg, Nat.zero_div, Nat.zero_mod]
theorem r_graph_ok {n' k' : Nat} (a : RI h n k e lk rn G sm ak GA sc s stp mov ty tx) (hn1 : 2 ≤ n') (hn2 : n' ≤ 5) (hk1 : 2 ≤ k') (hk2 : k' ≤ 4) (hok : ∀ h', mj_sx rfS h h' → RI h' n' k' 0 (fun _ => 0) 0 G sm 1 GA sc 0 (nI 0) (nI 0) ty tx → Q (some (.int (nI (k' ^ n'))), h')) : mj_Wp L xs (d + 1 + 1) 83 0 [some (.ref 25), some (.int (nI n')), some (.int (nI k')), none] [] h Q := by
  obtain ⟨a1, a2, a3, a4, a5, a6, a7, a8, a9, a10⟩ := id a
  have hL := a1.2.2.2.2.2.1
  have c1 : ¬ nI n' < nI 2 := by rw [nI_ltI (by omega) (by omega)]; omega
  have c2 : ¬ nI 5 < nI n' := by rw [nI_ltI (by omega) (by omega)]; omega
  have c3 : ¬ nI k' < nI 2 := by rw [nI_ltI (by omega) (by omega)]; omega
  have c4 : nI k' ≤ nI 4 := (nI_leI (by omega) (by omega)).mpr hk2
  obtain ⟨h0, hh0⟩ : ∃ h0, h0 = mj_wi (mj_wi (mj_wi h 25 0 (nI n')) 25 1 (nI k')) 25 2 (nI 0) := ⟨_, rfl⟩
  have s0 : mj_sx [25, 26, 27] h h0 := by rw [hh0]; exact sx_tr (sx_tr (sx_wi (by decide)) (sx_wi (by decide))) (sx_wi (by decide))
  have v0 : vp_nar .boolean (nI 0) = nI 0 := nar_bI false
  have lp : ∀ (m i : Nat) (h1 : MH), i + m = 25 → mj_sx [26, 27] h0 h1 → (∀ j, j < i → mj_i h1 26 j = nI 0) → (∀ j, j < 5 → j < i → mj_i h1 27 j = nI 0) → mj_Wp L xs (d + 1 + 1) 83 39 [some (.ref 25), some (.int (nI n')), some (.int (nI k')), some (.int (nI i))] [] h1 Q := by
    intro m
    induction m with
    | zero =>
      intro i h1 hi s1 f1 f2
      have hi : i = 25 := by omega
      have hL1 := sx_Lay s1 (sx_Lay s0 hL)
      obtain ⟨h2, hh2⟩ : ∃ h2, h2 = mj_wi (mj_wi (mj_wi (mj_wi (mj_wi h1 25 11 (nI 0)) 25 8 (nI 1)) 25 5 (nI 0)) 25 6 (nI 0)) 25 31 (nI 0) := ⟨_, rfl⟩
      have s2 : mj_sx [25] h1 h2 := by rw [hh2]; exact sx_tr (sx_tr (sx_tr (sx_tr (sx_wi (by decide)) (sx_wi (by decide))) (sx_wi (by decide))) (sx_wi (by decide))) (sx_wi (by decide))
      have sA : mj_sx [25, 26, 27] h h2 := sx_tr s0 (sx_tr (sx_mono s1 (by decide)) (sx_mono s2 (by decide)))
      have hL2 := sx_Lay sA hL
      have q25 : ∀ j, j ≠ 11 → j ≠ 8 → j ≠ 5 → j ≠ 6 → j ≠ 31 → mj_i h2 25 j = mj_i h0 25 j := fun j j1 j2 j3 j4 j5 => by rw [← sx_i s1 (show 25 ∉ [26, 27] by decide), hh2]; simp [mj_i_wi, j1, j2, j3, j4, j5]
      have o25 : ∀ j, j ≠ 0 → j ≠ 1 → j ≠ 2 → mj_i h0 25 j = mj_i h 25 j := fun j j1 j2 j3 => by rw [hh0]; simp [mj_i_wi, j1, j2, j3]
      have rb : RB h2 n' k' 0 (fun _ => 0) := by
        refine ⟨hn1, hn2, hk1, hk2, fun _ => Nat.two_pow_pos _, hL2, ?_, ?_, ?_, fun x y hx hy => ?_⟩
        · rw [q25 0 (by decide) (by decide) (by decide) (by decide) (by decide), hh0]; simp [mj_i_wi]
        · rw [q25 1 (by decide) (by decide) (by decide) (by decide) (by decide), hh0]; simp [mj_i_wi]
        · rw [q25 2 (by decide) (by decide) (by decide) (by decide) (by decide), hh0]; simp [mj_i_wi]
        · rw [sx_i s2 (by decide), f1 _ (by omega), Nat.zero_div, Nat.zero_mod]
      rw [w_83_39]
      simp only [w_83_40, w_83_42, w_83_67, w_83_68, w_83_69, w_83_72, w_83_73, w_83_74, w_83_77, w_83_78, w_83_79, w_83_82, w_83_83, w_83_84, w_83_87, w_83_88, w_83_89, w_83_92, w_83_93, w_83_96, hi, Int32.le_refl, if_true, ly_25 hL1, mj_is_wi, mj_fit_n0, ← hh2, ly_25 hL2, r_states rb, Option.toList, List.cons_append, List.nil_append]
      refine hok h2 (sx_mono sA (by decide)) ⟨rb, ⟨by decide, by rw [hh2]; simp [mj_i_wi], fun r hr => by omega⟩, ⟨by decide, by rw [hh2]; simp [mj_i_wi], fun z => by cases z⟩, ⟨a4.1, by rw [q25 7 (by decide) (by decide) (by decide) (by decide) (by decide), o25 7 (by decide) (by decide) (by decide)]; exact a4.2⟩, Or.inl (by rw [hh2]; simp [mj_i_wi]), Nat.pow_pos (by omega), fun j hj => ?_, ⟨by rw [q25 9 (by decide) (by decide) (by decide) (by decide) (by decide), o25 9 (by decide) (by decide) (by decide)]; exact a8.1, a8.2.1, fun i hi => by rw [sx_i sA (by decide)]; exact a8.2.2 i hi⟩, by rw [hh2]; simp [mj_i_wi], by rw [hh2]; simp [mj_i_wi]⟩
      rw [sx_i s2 (by decide), f2 j (by omega) (by omega), dg_0]
    | succ m ih =>
      intro i h1 hi s1 f1 f2
      have hL1 := sx_Lay s1 (sx_Lay s0 hL)
      have e0 : ¬ nI 25 ≤ nI i := by rw [nI_leI (by omega) (by omega)]; omega
      have j1 : mj_in (nI i) 25 = true := mj_in_nI (by omega) (by omega)
      have j2 : (nI i).toNatClampNeg = i := nI_clamp (by omega)
      have h5 : i % 5 < 5 := Nat.mod_lt _ (by decide)
      have i1 : mj_in (nI (i % 5)) 5 = true := mj_in_nI h5 (by omega)
      have i2 : (nI (i % 5)).toNatClampNeg = i % 5 := nI_clamp (by omega)
      rw [w_83_39]
      simp only [w_83_40, w_83_42, w_83_45, w_83_46, w_83_49, w_83_50, w_83_51, w_83_52, w_83_53, w_83_56, w_83_57, w_83_58, w_83_59, w_83_60, w_83_61, w_83_64, e0, if_false, ly_25 hL1, lr_25_3 hL1, lr_25_4 hL1, lk_26 hL1, ln_26 hL1, lk_27 hL1, ln_27 hL1, mj_rv_some, j1, j2, v0, mj_is_wi, mj_ik_wi, mj_ln_wi, mj_r_wi, show ¬ nI 5 = 0 by decide, not_false_eq_true, rm_nI (show i < 2 ^ 31 by omega) (show 0 < 5 by decide) (show 5 < 2 ^ 31 by decide), i1, i2, nI_add]
      refine ih (i + 1) _ (by omega) (sx_tr s1 (sx_tr (sx_wi (by decide)) (sx_wi (by decide)))) (fun j hj => ?_) (fun j hj hj2 => ?_)
      · rw [mj_i_ne (by decide), mj_i_wi]
        by_cases hji : j = i
        · simp [hji]
        · simp only [hji, and_false, if_false]; exact f1 j (by omega)
      · rw [mj_i_wi]
        by_cases hji : j = i % 5
        · simp [hji]
        · simp only [hji, and_false, if_false]
          rw [mj_i_ne (by decide)]
          by_cases hjj : j < i
          · exact f2 j hj hjj
          · have : j = i := by omega
            rw [this, Nat.mod_eq_of_lt (by omega)] at hji
            exact absurd rfl hji
  simp only [w_83_0, w_83_1, w_83_2, w_83_5, w_83_6, w_83_7, w_83_10, w_83_11, w_83_12, w_83_15, w_83_16, w_83_17, w_83_20, w_83_21, w_83_22, w_83_23, w_83_24, w_83_27, w_83_28, w_83_29, w_83_32, w_83_33, w_83_34, w_83_37, w_83_38, c1, c2, c3, c4, if_true, if_false, ly_25 hL, mj_is_wi, ← hh0]
  exact lp 25 0 h0 (by omega) sx_rf (fun j hj => by omega) (fun j _ hj => by omega)
end RCalls3K
