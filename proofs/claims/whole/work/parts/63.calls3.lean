/-! More calls of the bench: enabled, fire, good, counts, and what the search answers. -/
section Calls3K
variable {L : Nat} {xs : Nat → Int32} {d : Nat} {Q : Option Value × MH → Prop} {h : MH} {n k e : Nat} {lk : Nat → Nat} {rn : Nat} {G : Nat → GD} {sm : SM} {ak : Nat} {GA : GD} {sc s : Nat} {stp mov : Int32} {ty : Nat} {tx : Nat → Nat}
theorem c_enabled {x : Int32} (a : CI h n k e lk rn G sm ak GA sc s stp mov ty tx) (hbad : (x < nI 0 ∨ nI n ≤ x) → Q (some (.int (-1)), h)) (hok : ∀ p h', x = nI p → p < n → CF h h' → CI h' n k e lk rn G sm ak GA sc s stp mov ty tx → Q (some (.int (frI n k lk rn G s p + nI 1)), h')) : mj_Wp L xs (d + 60 + 1 + 1 + 1) 46 0 [some (.ref 0), some (.int x)] [] h Q := by
  obtain ⟨a1, a2, a3, a4, a5, a6, a7, a8⟩ := id a
  obtain ⟨b1, b2, b3, b4, b5, hL, gr, b8, b9, b10⟩ := id a1
  have n10 : ¬ nI 1 = nI 0 := by decide
  simp only [w_46_0, w_46_1, w_46_4, w_46_5, w_46_8, w_46_11, w_46_12, ly_0 hL, lr_0_0 hL, ly_1 hL, mj_rv_some, k_has hL, gr.1, Option.toList, List.cons_append, List.nil_append]
  by_cases c1 : x < nI 0 ∨ nI n ≤ x
  · simp only [c1, if_true, not_true_eq_false, if_false]; exact hbad c1
  obtain ⟨p, p1, rfl⟩ := nd_of b2 c1
  simp only [c1, if_false, n10, not_false_eq_true, if_true, w_46_13, w_46_14, w_46_17, w_46_18, w_46_21, ly_0 hL, lr_0_1 hL, ly_4 hL, mj_rv_some, a6]
  refine k_load2 (d := d + 60 + 1) (Or.inl rfl) a1 a3 (fun h1 q1 q2 q3 => ?_)
  have hL1 := q2.2.2.2.2.2.1
  simp only [w_46_24, w_46_25, w_46_28, w_46_29, ly_0 hL1, lr_0_1 hL1, ly_4 hL1, mj_rv_some, Option.toList, List.nil_append]
  refine k_stand2 (d := d + 60 + 1) p1 q3 (fun h2 u1 u2 u3 u4 => ?_)
  have c2 := CB_v (Or.inl rfl) q2 (sx_mono u1 (by decide)) u4
  have hL2 := c2.2.2.2.2.2.1
  simp only [w_46_32, w_46_33, w_46_36, w_46_37, w_46_40, ly_0 hL2, lr_0_1 hL2, lr_0_2 hL2, ly_8 hL2, mj_rv_some, Option.toList, List.nil_append]
  refine k_first u3 c2.2.2.2.2.2.2.2.1 (fun h3 y1 y2 => ?_)
  simp only [w_46_43, w_46_44, w_46_45, Option.toList, List.cons_append, List.nil_append]
  have s3 : mj_sx [4, 5, 6, 7] h h3 := sx_tr (sx_mono q1 (by decide)) (sx_tr (sx_mono u1 (by decide)) (sx_mono y1 (by decide)))
  refine hok p h3 rfl p1 (CF_sx hL s3 (by decide)) (CI_v4 s3 (fun c c1 c2 => ?_) a)
  rw [y2 c (by omega) (by omega), u4.2.2.2.2.2.2.2.2.2.2.1 c c1 c2]
  exact ((b10 c c1 c2).1).symm
theorem k_lookAround (a : CI h n k e lk rn G sm ak GA sc s stp mov ty tx) (hQ : ∀ h', mj_sx [4, 5, 6, 7] h h' → CI h' n k e lk rn G sm ak GA sc s stp mov ty tx → VLd h' 4 n k e lk s → mj_i h' 4 4 = nI (enS n k lk rn G s) → (∀ x, x < n → mj_i h' 7 x = shI n k lk rn G sm s x) → Q (none, h')) : mj_Wp L xs (d + 60 + 1 + 1 + 1 + 1) 57 0 [some (.ref 0)] [] h Q := by
  obtain ⟨a1, a2, a3, a4, a5, a6, a7, a8⟩ := id a
  obtain ⟨b1, b2, b3, b4, b5, hL, gr, b8, b9, b10⟩ := id a1
  simp only [w_57_0, w_57_1, w_57_4, w_57_5, w_57_8, ly_0 hL, lr_0_1 hL, ly_4 hL, mj_rv_some, a6]
  refine k_load2 (d := d + 60 + 1 + 1) (Or.inl rfl) a1 a3 (fun h1 q1 q2 q3 => ?_)
  have hL1 := q2.2.2.2.2.2.1
  simp only [w_57_11, w_57_12, w_57_15, w_57_16, w_57_19, ly_0 hL1, lr_0_1 hL1, lr_0_2 hL1, ly_8 hL1, mj_rv_some, Option.toList, List.nil_append]
  refine k_findMoves q3 q2.2.2.2.2.2.2.2.1 (fun h2 p1 p2 p3 p4 => ?_)
  simp only [w_57_22, Option.toList, List.nil_append]
  have s3 : mj_sx [4, 5, 6, 7] h h2 := sx_tr (sx_mono q1 (by decide)) (sx_mono p1 (by decide))
  refine hQ h2 s3 (CI_v4 s3 (fun c c1 c2 => ?_) a) p2 p3 p4
  rw [p2.2.2.2.2.2.2.2.2.2.2.1 c c1 c2]
  exact ((b10 c c1 c2).1).symm
theorem c_good (a : CI h n k e lk rn G sm ak GA sc s stp mov ty tx) (hok : ∀ h', CF h h' → CI h' n k e lk rn G sm ak GA sc s stp mov ty tx → Q (some (.int (bI (gdS n k lk rn G ak GA s))), h')) : mj_Wp L xs (d + 60 + 1 + 1 + 1 + 1 + 1) 60 0 [some (.ref 0)] [] h Q := by
  obtain ⟨a1, a2, a3, a4, a5, a6, a7, a8⟩ := id a
  obtain ⟨b1, b2, b3, b4, b5, hL, gr, b8, b9, b10⟩ := id a1
  simp only [w_60_0, w_60_1, ly_0 hL]
  refine k_lookAround a (fun h1 q1 q2 q3 q4 q5 => ?_)
  have hL1 := q2.1.2.2.2.2.2.1
  have h32 : enS n k lk rn G s < 32 := Nat.lt_of_lt_of_le (enN_lt n) (Nat.pow_le_pow_right (by decide) b2 : 2 ^ n ≤ 2 ^ 5)
  simp only [w_60_4, w_60_5, w_60_8, w_60_9, w_60_12, ly_0 hL1, lr_0_1 hL1, lr_0_2 hL1, ly_8 hL1, mj_rv_some, Option.toList, List.nil_append]
  refine k_meetAim (d := d + 1 + 1) q3 q2.1.2.2.2.2.2.2.2.2.1 q4 h32 (fun h2 p1 p2 p3 => ?_)
  simp only [w_60_15, Option.toList, List.cons_append, List.nil_append, fit_bI]
  have s3 : mj_sx [4, 5, 6, 7] h h2 := sx_tr q1 (sx_mono p1 (by decide))
  refine hok h2 (CF_sx hL s3 (by decide)) (CI_v4 s3 (fun c c1 c2 => ?_) a)
  rw [p3.2.2.2.2.2.2.2.2.2.2.1 c c1 c2]
  exact ((b10 c c1 c2).1).symm
/-- how many of the first x nodes lie in c, added to m -/
def mvF (c : Nat) (m : Int32) : Nat → Int32
  | 0 => m
  | x + 1 => if c / 2 ^ x % 2 = 0 then mvF c m x else mvF c m x + nI 1
theorem c_fire {x : Int32} (a : CI h n k e lk rn G sm ak GA sc s stp mov ty tx) (hbad : ∀ h', alI sc (enS n k lk rn G s) x = false → CF h h' → CI h' n k e lk rn G sm ak GA sc s stp mov ty tx → Q (some (.int (-1)), h')) (hok : ∀ c h', x = nI c → c < 32 → alB sc (enS n k lk rn G s) c = true → CF h h' → CI h' n k e lk rn G sm ak GA sc (afS n k lk rn G sm s c) (stp + nI 1) (mvF c mov n) ty tx → Q (some (.int (nI (afS n k lk rn G sm s c))), h')) : mj_Wp L xs (d + 60 + 1 + 1 + 1 + 1 + 1) 56 0 [some (.ref 0), some (.int x), none] [] h Q := by
  obtain ⟨a1, a2, a3, a4, a5, a6, a7, a8⟩ := id a
  obtain ⟨b1, b2, b3, b4, b5, hL, gr, b8, b9, b10⟩ := id a1
  have n10 : ¬ nI 1 = nI 0 := by decide
  simp only [w_56_0, w_56_1, ly_0 hL]
  refine k_lookAround a (fun h1 q1 q2 q3 q4 q5 => ?_)
  have hL1 := q2.1.2.2.2.2.2.1
  have h32 : enS n k lk rn G s < 32 := Nat.lt_of_lt_of_le (enN_lt n) (Nat.pow_le_pow_right (by decide) b2 : 2 ^ n ≤ 2 ^ 5)
  simp only [w_56_4, w_56_5, w_56_8, w_56_9, w_56_12, w_56_15, w_56_16, w_56_19, w_56_22, w_56_23, ly_0 hL1, lr_0_1 hL1, lr_0_3 hL1, ly_4 hL1, ly_11 hL1, mj_rv_some, q4, k_allows hL1 q2.2.1.2.1 a2.1, Option.toList, List.cons_append, List.nil_append]
  cases hal : alI sc (enS n k lk rn G s) x with
  | false =>
    simp only [bI_0, not_true_eq_false, if_false]
    exact hbad h1 hal (CF_sx hL q1 (by decide)) q2
  | true =>
    obtain ⟨c, x1, x2, x3, rfl⟩ := alI_nI h32 hal
    have haf := afN_ok (sm := sm) b2 (show 0 < k by omega) b4 a3 x2 hal (fun _ _ _ => rfl)
    simp only [bI_1, n10, not_false_eq_true, if_true, w_56_24, w_56_25]
    have lp : ∀ (m y : Nat) (h2 : MH), y + m = n → mj_sx [0] h1 h2 → (∀ j, j ≠ 6 → j ≠ 8 → mj_i h2 0 j = mj_i h1 0 j) → mj_i h2 0 6 = afF (shI n k lk rn G sm s) c (nI s) y → mj_i h2 0 8 = mvF c mov y → mj_Wp L xs (d + 60 + 1 + 1 + 1 + 1 + 1) 56 26 [some (.ref 0), some (.int (nI c)), some (.int (nI y))] [] h2 Q := by
      intro m
      induction m with
      | zero =>
        intro y h2 hy s2 f1 f2 f3
        have hy : y = n := by omega
        subst hy
        have hL2 := sx_Lay s2 hL1
        have g2 : mj_i h2 1 2 = nI y := by rw [sx_i s2 (by decide)]; exact q2.1.2.2.2.2.2.2.1.1
        rw [w_56_26]
        simp only [w_56_27, w_56_28, w_56_31, w_56_34, w_56_79, w_56_80, w_56_81, w_56_84, w_56_85, w_56_86, w_56_89, w_56_90, w_56_93, ly_0 hL2, lr_0_0 hL2, ly_1 hL2, mj_rv_some, g2, nI_leI (show y < 2 ^ 31 by omega) (show y < 2 ^ 31 by omega), Nat.le_refl, if_true, mj_is_wi]
        obtain ⟨h3, hh3⟩ : ∃ h3, h3 = mj_wi h2 0 7 (mj_i h2 0 7 + nI 1) := ⟨_, rfl⟩
        rw [← hh3]
        have s3 : mj_sx [0, 4, 5, 6, 7] h h3 := by rw [hh3]; exact sx_tr (sx_mono q1 (by decide)) (sx_tr (sx_mono s2 (by decide)) (sx_wi (by decide)))
        have s3' : mj_sx [0] h1 h3 := by rw [hh3]; exact sx_tr s2 (sx_wi (by decide))
        have e6 : mj_i h3 0 6 = nI (afS y k lk rn G sm s c) := by
          rw [hh3]; simp [mj_i_wi, f2]
          exact haf.1
        rw [e6]
        refine hok c h3 rfl x2 hal (CF_sx hL s3 (by decide)) ⟨CB_sx s3' (by decide) (by decide) (fun c _ _ => ⟨sx_i s3' (by decide), sx_i s3' (by decide)⟩) q2.1, CC_sx s3' (by decide) q2.2.1, haf.2, a4, ⟨?_, a5.2.1, fun i hi => ?_⟩, e6, ?_, ?_⟩
        · rw [hh3]; simp [mj_i_wi, f1]; exact q2.2.2.2.2.1.1
        · rw [sx_i s3' (by decide)]; exact q2.2.2.2.2.1.2.2 i hi
        · rw [hh3]; simp [mj_i_wi, f1]; rw [q2.2.2.2.2.2.2.1]
        · rw [hh3]; simp [mj_i_wi, f3]
      | succ m ih =>
        intro y h2 hy s2 f1 f2 f3
        have hL2 := sx_Lay s2 hL1
        have g2 : mj_i h2 1 2 = nI n := by rw [sx_i s2 (by decide)]; exact q2.1.2.2.2.2.2.2.1.1
        have e0 : ¬ n ≤ y := by omega
        have e1 : mj_in (nI y) 5 = true := mj_in_nI (by omega) (by omega)
        have e2 : (nI y).toNatClampNeg = y := nI_clamp (by omega)
        have e7 : mj_i h2 7 y = shI n k lk rn G sm s y := by rw [sx_i s2 (by decide)]; exact q5 y (by omega)
        rw [w_56_26]
        simp only [w_56_27, w_56_28, w_56_31, w_56_34, w_56_37, w_56_38, w_56_39, w_56_40, w_56_41, w_56_42, w_56_45, w_56_46, w_56_47, w_56_50, w_56_51, w_56_54, w_56_57, w_56_58, w_56_59, w_56_60, w_56_63, w_56_64, w_56_65, w_56_68, w_56_69, w_56_70, w_56_73, w_56_76, ly_0 hL2, lr_0_0 hL2, lr_0_1 hL2, ly_1 hL2, ly_4 hL2, lr_4_3 hL2, lk_7 hL2, ln_7 hL2, mj_rv_some, g2, nI_leI (show n < 2 ^ 31 by omega) (show y < 2 ^ 31 by omega), e0, if_false, lb_I (show c < 2 ^ 31 by omega) (show y < 5 by omega), n2_0, e1, e2, e7, mj_is_wi, nI_add]
        by_cases hb : c / 2 ^ y % 2 = 0
        · simp only [hb, if_true]
          exact ih (y + 1) h2 (by omega) s2 f1 (by rw [f2, afF, if_pos hb]) (by rw [f3, mvF, if_pos hb])
        · simp only [hb, if_false]
          refine ih (y + 1) _ (by omega) (sx_tr s2 (sx_tr (sx_wi (by decide)) (sx_wi (by decide)))) (fun j j1 j2 => ?_) ?_ ?_
          · simp [mj_i_wi, j1, j2, f1 j j1 j2]
          · simp [mj_i_wi, f2, afF, hb]
          · simp [mj_i_wi, f3, mvF, hb]
    refine lp n 0 h1 (by omega) sx_rf (fun _ _ _ => rfl) ?_ ?_
    · rw [q2.2.2.2.2.2.1]; rfl
    · rw [q2.2.2.2.2.2.2.2]; rfl
theorem c_state (a : CI h n k e lk rn G sm ak GA sc s stp mov ty tx) : mj_Wp L xs d 62 0 [some (.ref 0)] [] h Q ↔ Q (some (.int (nI s)), h) := by
  have hL := a.1.2.2.2.2.2.1
  simp only [w_62_0, w_62_1, w_62_4, ly_0 hL, a.2.2.2.2.2.1]
/-- what count answers -/
def ctI (n k e rn ty : Nat) (stp mov x : Int32) : Int32 := if x = nI 0 then stp else if x = nI 1 then mov else if x = nI 2 then nI n else if x = nI 3 then nI e else if x = nI 4 then nI rn else if x = nI 5 then nI k else if x = nI 6 then nI ty else -1
theorem c_count {x : Int32} (a : CI h n k e lk rn G sm ak GA sc s stp mov ty tx) : mj_Wp L xs d 63 0 [some (.ref 0), some (.int x)] [] h Q ↔ Q (some (.int (ctI n k e rn ty stp mov x)), h) := by
  obtain ⟨a1, a2, a3, a4, a5, a6, a7, a8⟩ := id a
  obtain ⟨b1, b2, b3, b4, b5, hL, gr, b8, b9, b10⟩ := id a1
  rw [w_63_0]
  by_cases c0 : x = nI 0
  · rw [c0]; simp only [w_63_1_0, w_63_44, w_63_45, w_63_48, ly_0 hL, a7, ctI, if_true]
  by_cases c1 : x = nI 1
  · rw [c1]; simp only [w_63_1_1, w_63_49, w_63_50, w_63_53, ly_0 hL, a8, ctI, show ¬ nI 1 = nI 0 by decide, if_false, if_true]
  by_cases c2 : x = nI 2
  · rw [c2]; simp only [w_63_1_2, w_63_54, w_63_55, w_63_58, w_63_61, ly_0 hL, lr_0_0 hL, ly_1 hL, mj_rv_some, gr.1, ctI, show ¬ nI 2 = nI 0 by decide, show ¬ nI 2 = nI 1 by decide, if_false, if_true]
  by_cases c3 : x = nI 3
  · rw [c3]; simp only [w_63_1_3, w_63_62, w_63_63, w_63_66, w_63_69, ly_0 hL, lr_0_0 hL, ly_1 hL, mj_rv_some, gr.2.2.1, ctI, show ¬ nI 3 = nI 0 by decide, show ¬ nI 3 = nI 1 by decide, show ¬ nI 3 = nI 2 by decide, if_false, if_true]
  by_cases c4 : x = nI 4
  · rw [c4]; simp only [w_63_1_4, w_63_70, w_63_71, w_63_74, w_63_77, ly_0 hL, lr_0_2 hL, ly_8 hL, mj_rv_some, b8.2.1, ctI, show ¬ nI 4 = nI 0 by decide, show ¬ nI 4 = nI 1 by decide, show ¬ nI 4 = nI 2 by decide, show ¬ nI 4 = nI 3 by decide, if_false, if_true]
  by_cases c5 : x = nI 5
  · rw [c5]; simp only [w_63_1_5, w_63_78, w_63_79, w_63_82, w_63_85, ly_0 hL, lr_0_0 hL, ly_1 hL, mj_rv_some, gr.2.1, ctI, show ¬ nI 5 = nI 0 by decide, show ¬ nI 5 = nI 1 by decide, show ¬ nI 5 = nI 2 by decide, show ¬ nI 5 = nI 3 by decide, show ¬ nI 5 = nI 4 by decide, if_false, if_true]
  by_cases c6 : x = nI 6
  · rw [c6]; simp only [w_63_1_6, w_63_86, w_63_87, w_63_90, ly_0 hL, a5.1, ctI, show ¬ nI 6 = nI 0 by decide, show ¬ nI 6 = nI 1 by decide, show ¬ nI 6 = nI 2 by decide, show ¬ nI 6 = nI 3 by decide, show ¬ nI 6 = nI 4 by decide, show ¬ nI 6 = nI 5 by decide, if_false, if_true]
  have hx : x.toInt < 0 ∨ 6 < x.toInt := by
    refine Classical.byContradiction (fun z => ?_)
    have z1 : ∀ j : Nat, j < 7 → x ≠ nI j := by
      intro j hj
      have : j = 0 ∨ j = 1 ∨ j = 2 ∨ j = 3 ∨ j = 4 ∨ j = 5 ∨ j = 6 := by omega
      rcases this with rfl | rfl | rfl | rfl | rfl | rfl | rfl
      · exact c0
      · exact c1
      · exact c2
      · exact c3
      · exact c4
      · exact c5
      · exact c6
    refine z1 x.toInt.toNat (by omega) ?_
    apply Int32.toInt_inj.mp
    rw [nI_toInt (by omega)]
    omega
  simp only [w_63_1_d hx, w_63_91, w_63_92, ctI, c0, c1, c2, c3, c4, c5, c6, if_false]
theorem k_judge2 (a : CI h n k e lk rn G sm ak GA sc s stp mov ty tx) (hQ : ∀ h', CF h h' → CI h' n k e lk rn G sm ak GA sc s stp mov ty tx → VK h' n k lk rn G sm ak GA sc → Q (none, h')) : mj_Wp L xs (d + 60 + 1 + 1 + 1 + 1 + 1) 65 0 [some (.ref 11)] [] h Q := by
  obtain ⟨a1, a2, a3, a4, a5, a6, a7, a8⟩ := id a
  refine k_judge a1 a2 (fun h1 q1 q2 q3 q4 => hQ h1 (CF_sx a1.2.2.2.2.2.1 q1 (by decide)) ⟨q2, q3, a3, a4, ⟨?_, a5.2.1, fun i hi => ?_⟩, ?_, ?_, ?_⟩ q4)
  · rw [sx_i q1 (by decide)]; exact a5.1
  · rw [sx_i q1 (by decide)]; exact a5.2.2 i hi
  · rw [sx_i q1 (by decide)]; exact a6
  · rw [sx_i q1 (by decide)]; exact a7
  · rw [sx_i q1 (by decide)]; exact a8
theorem c_search (a : CI h n k e lk rn G sm ak GA sc s stp mov ty tx) (hok : ∀ h' vd rl run D, CF h h' → CI h' n k e lk rn G sm ak GA sc s stp mov ty tx → SR (k ^ n) (enS n k lk rn G) (fun s => alB sc (enS n k lk rn G s)) (afS n k lk rn G sm) (gdS n k lk rn G ak GA) vd rl run D → Q (some (.int (nI vd)), h')) : mj_Wp L xs (d + 60 + 1 + 1 + 1 + 1 + 1 + 1) 64 0 [some (.ref 0)] [] h Q := by
  have hL := a.1.2.2.2.2.2.1
  simp only [w_64_0, w_64_1, w_64_4, ly_0 hL, lr_0_3 hL, ly_11 hL, mj_rv_some]
  refine k_judge2 a (fun h1 q1 q2 q3 => ?_)
  have hL1 := q2.1.2.2.2.2.2.1
  obtain ⟨vd, rl, run, D, p1, p2, p3, p4, p5, p6, p7, p8⟩ := q3
  simp only [w_64_7, w_64_8, w_64_11, w_64_14, ly_0 hL1, lr_0_3 hL1, ly_11 hL1, mj_rv_some, p3, Option.toList, List.nil_append]
  exact hok h1 vd rl run D q1 q2 p1
theorem c_worst (a : CI h n k e lk rn G sm ak GA sc s stp mov ty tx) (hok : ∀ h' vd rl run D, CF h h' → CI h' n k e lk rn G sm ak GA sc s stp mov ty tx → SR (k ^ n) (enS n k lk rn G) (fun s => alB sc (enS n k lk rn G s)) (afS n k lk rn G sm) (gdS n k lk rn G ak GA) vd rl run D → Q (some (.int (if vd = 0 then nI (mxN D (k ^ n)) else -1)), h')) : mj_Wp L xs (d + 60 + 1 + 1 + 1 + 1 + 1 + 1) 78 0 [some (.ref 0)] [] h Q := by
  have hL := a.1.2.2.2.2.2.1
  simp only [w_78_0, w_78_1, w_78_4, ly_0 hL, lr_0_3 hL, ly_11 hL, mj_rv_some]
  refine k_judge2 a (fun h1 q1 q2 q3 => ?_)
  have hL1 := q2.1.2.2.2.2.2.1
  obtain ⟨vd, rl, run, D, p1, p2, p3, p4, p5, p6, p7, p8⟩ := q3
  have fin := hok h1 vd rl run D q1 q2 p1
  have z0 : (nI vd = nI 0) = (vd = 0) := by rw [nI_eq (by omega) (by omega)]
  simp only [w_78_7, w_78_8, w_78_11, w_78_14, w_78_17, w_78_18, w_78_21, w_78_24, w_78_27, w_78_28, ly_0 hL1, lr_0_3 hL1, ly_11 hL1, mj_rv_some, p3, z0, Option.toList, List.nil_append]
  by_cases hz : vd = 0
  · simp only [hz, not_true_eq_false, if_false, (p7 hz).1]
    simpa [hz] using fin
  · simp only [hz, not_false_eq_true, if_true]
    simpa [hz] using fin
def frA (vd N : Nat) (D : Nat → Nat) (x : Int32) : Int32 := if vd ≠ 0 ∨ x < nI 0 ∨ nI N ≤ x then -1 else nI (D x.toNatClampNeg)
def bdA (rl : Nat) (run : Nat → Nat) (x : Int32) : Int32 := if x < nI 0 ∨ nI rl ≤ x then -1 else nI (run x.toNatClampNeg)
theorem c_far {x : Int32} (a : CI h n k e lk rn G sm ak GA sc s stp mov ty tx) (hok : ∀ h' vd rl run D, CF h h' → CI h' n k e lk rn G sm ak GA sc s stp mov ty tx → SR (k ^ n) (enS n k lk rn G) (fun s => alB sc (enS n k lk rn G s)) (afS n k lk rn G sm) (gdS n k lk rn G ak GA) vd rl run D → Q (some (.int (frA vd (k ^ n) D x)), h')) : mj_Wp L xs (d + 60 + 1 + 1 + 1 + 1 + 1 + 1) 79 0 [some (.ref 0), some (.int x)] [] h Q := by
  have hN := CB_N a.1
  have hL := a.1.2.2.2.2.2.1
  simp only [w_79_0, w_79_1, w_79_4, ly_0 hL, lr_0_3 hL, ly_11 hL, mj_rv_some]
  refine k_judge2 a (fun h1 q1 q2 q3 => ?_)
  have hL1 := q2.1.2.2.2.2.2.1
  have gr := q2.1.2.2.2.2.2.2.1
  obtain ⟨vd, rl, run, D, p1, p2, p3, p4, p5, p6, p7, p8⟩ := q3
  have fin := hok h1 vd rl run D q1 q2 p1
  have z0 : (nI vd = nI 0) = (vd = 0) := by rw [nI_eq (by omega) (by omega)]
  simp only [w_79_7, w_79_8, w_79_11, w_79_14, w_79_17, w_79_18, w_79_21, w_79_22, w_79_23, w_79_26, w_79_29, w_79_32, w_79_33, ly_0 hL1, lr_0_0 hL1, lr_0_3 hL1, ly_1 hL1, ly_11 hL1, mj_rv_some, p3, z0, gr.2.2.2.1, Option.toList, List.nil_append]
  by_cases hz : vd = 0
  · simp only [hz, not_true_eq_false, if_false]
    by_cases c1 : x < nI 0
    · simp only [c1, if_true]
      rw [frA, if_pos (Or.inr (Or.inl c1))] at fin
      exact fin
    · simp only [c1, if_false]
      by_cases c2 : nI (k ^ n) ≤ x
      · have c3 : ¬ x < nI (k ^ n) := Int32.not_lt.mpr c2
        simp only [c3, if_false]
        rw [frA, if_pos (Or.inr (Or.inr c2))] at fin
        exact fin
      · have c3 : x < nI (k ^ n) := Int32.not_le.mp c2
        obtain ⟨j, j1, rfl⟩ := nI_of c1
        have j2 : j < k ^ n := (nI_ltI j1 (by omega)).mp c3
        have e1 : mj_in (nI j) 1024 = true := mj_in_nI (by omega) (by omega)
        have e2 : (nI j).toNatClampNeg = j := nI_clamp (by omega)
        simp only [c3, if_true, w_79_34, w_79_35, w_79_38, w_79_41, w_79_42, w_79_43, ly_0 hL1, lr_0_3 hL1, ly_11 hL1, lr_11_6 hL1, lk_15 hL1, ln_15 hL1, mj_rv_some, e1, e2, (p7 hz).2 j j2]
        rw [frA, if_neg (fun z => by rcases z with z | z | z; exact z hz; exact c1 z; exact c2 z), e2] at fin
        exact fin
  · simp only [hz, not_false_eq_true, if_true]
    rw [frA, if_pos (Or.inl hz)] at fin
    exact fin
theorem c_bad {x : Int32} (a : CI h n k e lk rn G sm ak GA sc s stp mov ty tx) (hok : ∀ h' vd rl run D, CF h h' → CI h' n k e lk rn G sm ak GA sc s stp mov ty tx → rl ≤ 1025 → SR (k ^ n) (enS n k lk rn G) (fun s => alB sc (enS n k lk rn G s)) (afS n k lk rn G sm) (gdS n k lk rn G ak GA) vd rl run D → Q (some (.int (bdA rl run x)), h')) : mj_Wp L xs (d + 60 + 1 + 1 + 1 + 1 + 1 + 1) 80 0 [some (.ref 0), some (.int x)] [] h Q := by
  have hL := a.1.2.2.2.2.2.1
  simp only [w_80_0, w_80_1, w_80_4, ly_0 hL, lr_0_3 hL, ly_11 hL, mj_rv_some]
  refine k_judge2 a (fun h1 q1 q2 q3 => ?_)
  have hL1 := q2.1.2.2.2.2.2.1
  obtain ⟨vd, rl, run, D, p1, p2, p3, p4, p5, p6, p7, p8⟩ := q3
  have fin := hok h1 vd rl run D q1 q2 p5 p1
  simp only [w_80_7, w_80_8, w_80_11, w_80_12, w_80_13, w_80_16, w_80_19, w_80_22, w_80_23, w_80_26, w_80_29, w_80_30, w_80_31, w_80_34, w_80_35, ly_0 hL1, lr_0_3 hL1, ly_11 hL1, lr_11_10 hL1, mj_rv_some, p4, Option.toList, List.nil_append]
  by_cases c1 : x < nI 0
  · simp only [c1, if_true]
    rw [bdA, if_pos (Or.inl c1)] at fin
    exact fin
  · by_cases c2 : nI rl ≤ x
    · simp only [c1, c2, if_false, if_true]
      rw [bdA, if_pos (Or.inr c2)] at fin
      exact fin
    · obtain ⟨j, j1, rfl⟩ := nI_of c1
      have j2 : j < rl := Nat.lt_of_not_le (fun z => c2 ((nI_leI (by omega) j1).mpr z))
      have e1 : mj_in (nI j) 1025 = true := mj_in_nI (by omega) (by omega)
      have e2 : (nI j).toNatClampNeg = j := nI_clamp (by omega)
      simp only [c1, c2, if_false, w_80_30, w_80_31, w_80_34, w_80_35, lk_19 hL1, ln_19 hL1, e1, e2, p6 j j2]
      rw [bdA, if_neg (fun z => by rcases z with z | z; exact c1 z; exact c2 z), e2] at fin
      exact fin
theorem c_goods (a : CI h n k e lk rn G sm ak GA sc s stp mov ty tx) (hok : ∀ h', CF h h' → CI h' n k e lk rn G sm ak GA sc s stp mov ty tx → Q (some (.int (nI (cnN (gdS n k lk rn G ak GA) (k ^ n)))), h')) : mj_Wp L xs (d + 60 + 1 + 1 + 1 + 1 + 1 + 1) 81 0 [some (.ref 0)] [] h Q := by
  have hL := a.1.2.2.2.2.2.1
  simp only [w_81_0, w_81_1, w_81_4, ly_0 hL, lr_0_3 hL, ly_11 hL, mj_rv_some]
  refine k_judge2 a (fun h1 q1 q2 q3 => ?_)
  have hL1 := q2.1.2.2.2.2.2.1
  obtain ⟨vd, rl, run, D, p1, p2, p3, p4, p5, p6, p7, p8⟩ := q3
  simp only [w_81_7, w_81_8, w_81_11, w_81_14, ly_0 hL1, lr_0_3 hL1, ly_11 hL1, mj_rv_some, p8, Option.toList, List.nil_append]
  exact hok h1 q1 q2
end Calls3K
