/-! The reference's calls that look at the search. -/
def rfS : List Nat := [25, 26, 27, 28, 29, 30, 31, 32, 33, 34, 35, 36, 37, 38, 39, 40, 41, 42, 43, 44, 45]
theorem rfS_in : ∀ a ∈ rfS, 25 ≤ a ∧ a < 46 := by decide
theorem SR_D {N : Nat} {en : Nat → Nat} {ok : Nat → Nat → Bool} {af : Nat → Nat → Nat} {gd : Nat → Bool} {vd rl : Nat} {run D : Nat → Nat} (a : SR N en ok af gd vd rl run D) (hv : vd = 0) : Dst N ok af gd D := by
  rcases a with ⟨a1, -⟩ | ⟨-, a1, -⟩ | ⟨-, -, a1, -⟩ | ⟨-, -, -, -, a1⟩
  · omega
  · omega
  · omega
  · exact a1
section RCallsK
variable {L : Nat} {xs : Nat → Int32} {d : Nat} {Q : Option Value × MH → Prop} {h : MH} {n k e : Nat} {lk : Nat → Nat} {rn : Nat} {G : Nat → GD} {sm : SM} {ak : Nat} {GA : GD} {sc s : Nat} {stp mov : Int32} {ty : Nat} {tx : Nat → Nat}
theorem afS_lt (a : RB h n k e lk) (hsc : sc < 3) : ∀ s, s < k ^ n → ∀ c, c < 32 → alB sc (enS n k lk rn G s) c = true → afS n k lk rn G sm s c < k ^ n := fun s hs c hc ho => by
  have a3 := a.2.2.1
  exact (afN_ok (sm := sm) (sh := shI n k lk rn G sm s) a.2.1 (show 0 < k by omega) a.2.2.2.1 hs hc ho (fun _ _ _ => rfl)).2
theorem r_search (a : RI h n k e lk rn G sm ak GA sc s stp mov ty tx) (hok : ∀ h' vd rl run D, mj_sx rfS h h' → RI h' n k e lk rn G sm ak GA sc s stp mov ty tx → SR (k ^ n) (enS n k lk rn G) (fun s => alB sc (enS n k lk rn G s)) (afS n k lk rn G sm) (gdS n k lk rn G ak GA) vd rl run D → Q (some (.int (nI vd)), h')) : mj_Wp L xs (d + 1 + 1 + 1 + 1 + 1 + 1 + 1 + 1) 104 0 [some (.ref 25)] [] h Q := by
  have hL := a.1.2.2.2.2.2.1
  simp only [w_104_0, w_104_1, ly_25 hL]
  refine r_findOut a (fun h1 s1 a1 kn => ?_)
  obtain ⟨t, vd, rl, run, D, p1, p2, p3, p4, p5, p6, p7⟩ := kn
  simp only [w_104_4, w_104_5, w_104_8, ly_25 a1.1.2.2.2.2.2.1, p3, Option.toList, List.nil_append]
  exact hok h1 vd rl run D (sx_mono s1 (by decide)) a1 p1
theorem r_worst (a : RI h n k e lk rn G sm ak GA sc s stp mov ty tx) (hok : ∀ h' vd rl run D, mj_sx rfS h h' → RI h' n k e lk rn G sm ak GA sc s stp mov ty tx → SR (k ^ n) (enS n k lk rn G) (fun s => alB sc (enS n k lk rn G s)) (afS n k lk rn G sm) (gdS n k lk rn G ak GA) vd rl run D → Q (some (.int (if vd = 0 then nI (mxN D (k ^ n)) else -1)), h')) : mj_Wp L xs (d + 1 + 1 + 1 + 1 + 1 + 1 + 1 + 1) 126 0 [some (.ref 25), none, none] [] h Q := by
  have hL := a.1.2.2.2.2.2.1
  have hN := RB_N a.1
  simp only [w_126_0, w_126_1, ly_25 hL]
  refine r_findOut a (fun h1 s1 a1 kn => ?_)
  have hL1 := a1.1.2.2.2.2.2.1
  obtain ⟨t, vd, rl, run, D, p1, p2, p3, p4, p5, p6, p7⟩ := kn
  have fin := hok h1 vd rl run D (sx_mono s1 (by decide)) a1 p1
  have z0 : (nI vd = nI 0) = (vd = 0) := by rw [nI_eq (by omega) (by omega)]
  simp only [w_126_4, w_126_5, w_126_6, w_126_7, Option.toList, List.nil_append]
  by_cases hz : vd = 0
  · have hD := SR_D p1 hz
    have hlt := fun u hu => Dst_lt (afS_lt (rn := rn) (G := G) (sm := sm) a1.1 a1.2.2.2.1.1) hD (s := u) hu
    rw [if_pos hz] at fin
    have lp : ∀ (m u : Nat), u + m = k ^ n → mxN D u < 2 ^ 30 → mj_Wp L xs (d + 1 + 1 + 1 + 1 + 1 + 1 + 1 + 1) 126 8 [some (.ref 25), some (.int (nI (mxN D u))), some (.int (nI u))] [] h1 Q := by
      intro m
      induction m with
      | zero =>
        intro u hu _
        have hu : u = k ^ n := by omega
        rw [w_126_8]
        simp only [w_126_9, w_126_10, w_126_13, w_126_50, w_126_51, w_126_54, w_126_57, w_126_58, w_126_61, w_126_62, ly_25 hL1, r_states a1.1, Option.toList, List.cons_append, List.nil_append, hu, nI_leI (show k ^ n < 2 ^ 31 by omega) (show k ^ n < 2 ^ 31 by omega), Nat.le_refl, if_true, p3, hz, not_true_eq_false, if_false]
        exact fin
      | succ m ih =>
        intro u hu hb
        have huN : u < k ^ n := by omega
        have e0 : ¬ k ^ n ≤ u := by omega
        have j1 : mj_in (nI u) 1024 = true := mj_in_nI (by omega) (by omega)
        have j2 : (nI u).toNatClampNeg = u := nI_clamp (by omega)
        have hDu := hlt u huN
        have iha := ih (u + 1) (by omega) (by rw [mxN]; omega)
        rw [mxN] at iha
        rw [w_126_8]
        simp only [w_126_9, w_126_10, w_126_13, w_126_16, w_126_17, w_126_20, w_126_23, w_126_24, w_126_27, w_126_28, w_126_29, w_126_30, ly_25 hL1, lr_25_37 hL1, lk_44 hL1, ln_44 hL1, mj_rv_some, j1, j2, p7 hz u huN, r_states a1.1, Option.toList, List.cons_append, List.nil_append, nI_leI (show k ^ n < 2 ^ 31 by omega) (show u < 2 ^ 31 by omega), e0, if_false, p3, hz, not_true_eq_false, nI_leI (show D u < 2 ^ 31 by omega) (show mxN D u < 2 ^ 31 by omega)]
        by_cases hle : D u ≤ mxN D u
        · simp only [hle, if_true, w_126_42, w_126_43, w_126_44, w_126_47, nI_add]
          rw [Nat.max_eq_left hle] at iha
          exact iha
        · simp only [hle, if_false, w_126_33, w_126_34, w_126_37, w_126_38, w_126_39, w_126_42, w_126_43, w_126_44, w_126_47, ly_25 hL1, lr_25_37 hL1, lk_44 hL1, ln_44 hL1, mj_rv_some, j1, j2, p7 hz u huN, nI_add]
          rw [Nat.max_eq_right (by omega)] at iha
          exact iha
    exact lp (k ^ n) 0 (by omega) (by rw [mxN]; decide)
  · have e0 : ¬ k ^ n ≤ 0 := by have := Nat.pow_pos (n := n) (show 0 < k by have := a1.1.2.2.1; omega); omega
    rw [if_neg hz] at fin
    simp only [w_126_8, w_126_9, w_126_10, w_126_13, w_126_16, w_126_17, w_126_20, w_126_50, w_126_51, w_126_54, w_126_57, w_126_58, w_126_61, w_126_62, ly_25 hL1, r_states a1.1, Option.toList, List.cons_append, List.nil_append, nI_leI (show k ^ n < 2 ^ 31 by omega) (show 0 < 2 ^ 31 by decide), e0, if_false, p3, z0, hz, not_false_eq_true, if_true]
    exact fin
theorem r_far {x : Int32} (a : RI h n k e lk rn G sm ak GA sc s stp mov ty tx) (hok : ∀ h' vd rl run D, mj_sx rfS h h' → RI h' n k e lk rn G sm ak GA sc s stp mov ty tx → SR (k ^ n) (enS n k lk rn G) (fun s => alB sc (enS n k lk rn G s)) (afS n k lk rn G sm) (gdS n k lk rn G ak GA) vd rl run D → Q (some (.int (frA vd (k ^ n) D x)), h')) : mj_Wp L xs (d + 1 + 1 + 1 + 1 + 1 + 1 + 1 + 1) 127 0 [some (.ref 25), some (.int x)] [] h Q := by
  have hL := a.1.2.2.2.2.2.1
  have hN := RB_N a.1
  simp only [w_127_0, w_127_1, ly_25 hL]
  refine r_findOut a (fun h1 s1 a1 kn => ?_)
  have hL1 := a1.1.2.2.2.2.2.1
  obtain ⟨t, vd, rl, run, D, p1, p2, p3, p4, p5, p6, p7⟩ := kn
  have fin := hok h1 vd rl run D (sx_mono s1 (by decide)) a1 p1
  have z0 : (nI vd = nI 0) = (vd = 0) := by rw [nI_eq (by omega) (by omega)]
  simp only [w_127_4, w_127_5, w_127_8, w_127_11, w_127_12, w_127_15, w_127_16, w_127_17, w_127_20, w_127_32, w_127_33, ly_25 hL1, r_states a1.1, p3, z0, Option.toList, List.cons_append, List.nil_append]
  by_cases hz : vd = 0
  · simp only [hz, not_true_eq_false, if_false]
    by_cases c1 : x < nI 0
    · simp only [c1, if_true]
      rw [frA, if_pos (Or.inr (Or.inl c1))] at fin
      exact fin
    · by_cases c2 : nI (k ^ n) ≤ x
      · simp only [c1, c2, if_true, if_false]
        rw [frA, if_pos (Or.inr (Or.inr c2))] at fin
        exact fin
      · obtain ⟨j, j1, rfl⟩ := nI_of c1
        have j2 : j < k ^ n := Nat.lt_of_not_le (fun z => c2 ((nI_leI (by omega) j1).mpr z))
        have e1 : mj_in (nI j) 1024 = true := mj_in_nI (by omega) (by omega)
        have e2 : (nI j).toNatClampNeg = j := nI_clamp (by omega)
        simp only [c1, c2, if_false, w_127_23, w_127_24, w_127_27, w_127_28, w_127_29, w_127_32, w_127_33, ly_25 hL1, lr_25_37 hL1, lk_44 hL1, ln_44 hL1, mj_rv_some, e1, e2, p7 hz j j2]
        rw [frA, if_neg (fun z => by rcases z with z | z | z; exact z hz; exact c1 z; exact c2 z), e2] at fin
        exact fin
  · simp only [hz, not_false_eq_true, if_true]
    rw [frA, if_pos (Or.inl hz)] at fin
    exact fin
theorem r_bad {x : Int32} (a : RI h n k e lk rn G sm ak GA sc s stp mov ty tx) (hok : ∀ h' vd rl run D, mj_sx rfS h h' → RI h' n k e lk rn G sm ak GA sc s stp mov ty tx → rl ≤ 1025 → SR (k ^ n) (enS n k lk rn G) (fun s => alB sc (enS n k lk rn G s)) (afS n k lk rn G sm) (gdS n k lk rn G ak GA) vd rl run D → Q (some (.int (bdA rl run x)), h')) : mj_Wp L xs (d + 1 + 1 + 1 + 1 + 1 + 1 + 1 + 1) 128 0 [some (.ref 25), some (.int x)] [] h Q := by
  have hL := a.1.2.2.2.2.2.1
  simp only [w_128_0, w_128_1, ly_25 hL]
  refine r_findOut a (fun h1 s1 a1 kn => ?_)
  have hL1 := a1.1.2.2.2.2.2.1
  obtain ⟨t, vd, rl, run, D, p1, p2, p3, p4, p5, p6, p7⟩ := kn
  have fin := hok h1 vd rl run D (sx_mono s1 (by decide)) a1 p5 p1
  simp only [w_128_4, w_128_5, w_128_8, w_128_9, w_128_10, w_128_13, w_128_25, w_128_26, ly_25 hL1, p4, Option.toList, List.nil_append]
  by_cases c1 : x < nI 0
  · simp only [c1, if_true]
    rw [bdA, if_pos (Or.inl c1)] at fin
    exact fin
  · by_cases c2 : nI rl ≤ x
    · simp only [c1, c2, if_false, if_true]
      rw [bdA, if_pos (Or.inr c2)] at fin
      exact fin
    · obtain ⟨j, j1, rfl⟩ := nI_of c1
      have j2 : j < rl := Nat.lt_of_not_le (fun z => c2 ((nI_leI (by omega) j1).mpr z))
      have e1 : mj_in (nI j) 1100 = true := mj_in_nI (by omega) (by omega)
      have e2 : (nI j).toNatClampNeg = j := nI_clamp (by omega)
      simp only [c1, c2, if_false, w_128_16, w_128_17, w_128_20, w_128_21, w_128_22, w_128_25, w_128_26, ly_25 hL1, lr_25_39 hL1, lk_45 hL1, ln_45 hL1, mj_rv_some, e1, e2, p6 j j2]
      rw [bdA, if_neg (fun z => by rcases z with z | z; exact c1 z; exact c2 z), e2] at fin
      exact fin
theorem r_goods (a : RI h n k e lk rn G sm ak GA sc s stp mov ty tx) (hok : ∀ h', mj_sx rfS h h' → RI h' n k e lk rn G sm ak GA sc s stp mov ty tx → Q (some (.int (nI (cnN (gdS n k lk rn G ak GA) (k ^ n)))), h')) : mj_Wp L xs (d + 1 + 1 + 1 + 1 + 1 + 1 + 1 + 1) 129 0 [some (.ref 25), none, none] [] h Q := by
  have n10 : ¬ nI 1 = nI 0 := by decide
  have hL := a.1.2.2.2.2.2.1
  have hN := RB_N a.1
  simp only [w_129_0, w_129_1, ly_25 hL]
  refine r_findOut a (fun h1 s1 a1 kn => ?_)
  have hL1 := a1.1.2.2.2.2.2.1
  have fin := hok h1 (sx_mono s1 (by decide)) a1
  have lp : ∀ (m u : Nat), u + m = k ^ n → mj_Wp L xs (d + 1 + 1 + 1 + 1 + 1 + 1 + 1 + 1) 129 8 [some (.ref 25), some (.int (nI (cnN (gdS n k lk rn G ak GA) u))), some (.int (nI u))] [] h1 Q := by
    intro m
    induction m with
    | zero =>
      intro u hu
      have hu : u = k ^ n := by omega
      rw [w_129_8]
      simp only [w_129_9, w_129_10, w_129_13, w_129_39, w_129_40, ly_25 hL1, r_states a1.1, Option.toList, List.cons_append, List.nil_append, hu, nI_leI (show k ^ n < 2 ^ 31 by omega) (show k ^ n < 2 ^ 31 by omega), Nat.le_refl, if_true]
      exact fin
    | succ m ih =>
      intro u hu
      have huN : u < k ^ n := by omega
      have e0 : ¬ k ^ n ≤ u := by omega
      have j1 : mj_in (nI u) 1024 = true := mj_in_nI (by omega) (by omega)
      have j2 : (nI u).toNatClampNeg = u := nI_clamp (by omega)
      have iha := ih (u + 1) (by omega)
      rw [cnN] at iha
      rw [w_129_8]
      simp only [w_129_9, w_129_10, w_129_13, w_129_16, w_129_17, w_129_20, w_129_21, w_129_22, w_129_25, w_129_26, w_129_27, w_129_28, w_129_31, w_129_32, w_129_33, w_129_36, ly_25 hL1, lr_25_35 hL1, lk_42 hL1, ln_42 hL1, mj_rv_some, j1, j2, (kn.1 u huN).2.2, r_states a1.1, Option.toList, List.cons_append, List.nil_append, nI_leI (show k ^ n < 2 ^ 31 by omega) (show u < 2 ^ 31 by omega), e0, if_false, nI_add]
      rcases Bool.eq_false_or_eq_true (gdS n k lk rn G ak GA u) with hg | hg
      · rw [if_pos hg] at iha
        simp only [hg, bI_1, n10, if_false]
        exact iha
      · rw [if_neg (by rw [hg]; decide), Nat.add_zero] at iha
        simp only [hg, bI_0, if_true]
        exact iha
  simp only [w_129_4, w_129_5, w_129_6, w_129_7, Option.toList, List.nil_append]
  exact lp (k ^ n) 0 (by omega)
theorem r_state0 {nd : Nat → Nat} (a : RB h n k e lk) (hv : ∀ j, j < n → mj_i h 27 j = nI (nd j)) : mj_Wp L xs d 130 0 [some (.ref 25), none, none] [] h Q ↔ Q (some (.int (nI (hn nd k n))), h) := by
  have hL := a.2.2.2.2.2.1
  have a2 := a.2.1
  have lp : ∀ (m j : Nat), j + m = n → (mj_Wp L xs d 130 4 [some (.ref 25), some (.int (nI (hn nd k j))), some (.int (nI j))] [] h Q ↔ Q (some (.int (nI (hn nd k n))), h)) := by
    intro m
    induction m with
    | zero =>
      intro j hj
      have hj : j = n := by omega
      rw [w_130_4]
      simp only [w_130_5, w_130_6, w_130_9, w_130_32, w_130_33, ly_25 hL, a.2.2.2.2.2.2.1, hj, nI_leI (show n < 2 ^ 31 by omega) (show n < 2 ^ 31 by omega), Nat.le_refl, if_true]
    | succ m ih =>
      intro j hj
      have e0 : ¬ n ≤ j := by omega
      have j1 : mj_in (nI j) 5 = true := mj_in_nI (by omega) (by omega)
      have j2 : (nI j).toNatClampNeg = j := nI_clamp (by omega)
      have iha := ih (j + 1) (by omega)
      rw [hn, Nat.mul_comm] at iha
      rw [w_130_4]
      simp only [w_130_5, w_130_6, w_130_9, w_130_12, w_130_13, w_130_16, w_130_17, w_130_18, w_130_19, w_130_22, w_130_23, w_130_24, w_130_25, w_130_26, w_130_29, ly_25 hL, lr_25_4 hL, lk_27 hL, ln_27 hL, mj_rv_some, a.2.2.2.2.2.2.1, a.2.2.2.2.2.2.2.1, nI_leI (show n < 2 ^ 31 by omega) (show j < 2 ^ 31 by omega), e0, if_false, j1, j2, hv j (by omega), pk_mul, nI_add]
      exact iha
  simp only [w_130_0, w_130_1, w_130_2, w_130_3]
  exact lp n 0 (by omega)
theorem r_state (a : RI h n k e lk rn G sm ak GA sc s stp mov ty tx) : mj_Wp L xs d 130 0 [some (.ref 25), none, none] [] h Q ↔ Q (some (.int (nI s)), h) := by
  rw [r_state0 a.1 a.2.2.2.2.2.2.1, hn_s a.2.2.2.2.2.1]
theorem r_good (a : RI h n k e lk rn G sm ak GA sc s stp mov ty tx) (hok : ∀ h', mj_sx rfS h h' → RI h' n k e lk rn G sm ak GA sc s stp mov ty tx → Q (some (.int (bI (gdS n k lk rn G ak GA s))), h')) : mj_Wp L xs (d + 1 + 1 + 1 + 1 + 1 + 1 + 1 + 1) 135 0 [some (.ref 25)] [] h Q := by
  have hL := a.1.2.2.2.2.2.1
  have hN := RB_N a.1
  simp only [w_135_0, w_135_1, ly_25 hL]
  refine r_findOut a (fun h1 s1 a1 kn => ?_)
  have hL1 := a1.1.2.2.2.2.2.1
  have hs := a1.2.2.2.2.2.1
  have j1 : mj_in (nI s) 1024 = true := mj_in_nI (by omega) (by omega)
  have j2 : (nI s).toNatClampNeg = s := nI_clamp (by omega)
  simp only [w_135_4, w_135_5, w_135_8, w_135_9, w_135_12, w_135_13, ly_25 hL1, lr_25_35 hL1, lk_42 hL1, ln_42 hL1, mj_rv_some, r_state a1, j1, j2, (kn.1 s hs).2.2, fit_bI, Option.toList, List.cons_append, List.nil_append]
  exact hok h1 (sx_mono s1 (by decide)) a1
theorem r_count {x : Int32} (a : RI h n k e lk rn G sm ak GA sc s stp mov ty tx) : mj_Wp L xs d 136 0 [some (.ref 25), some (.int x)] [] h Q ↔ Q (some (.int (ctI n k e rn ty stp mov x)), h) := by
  obtain ⟨a1, a2, a3, a4, a5, a6, a7, a8, a9, a10⟩ := id a
  have hL := a1.2.2.2.2.2.1
  simp only [w_136_0, w_136_1, w_136_4, w_136_5, w_136_8, w_136_11, w_136_12, w_136_13, w_136_16, w_136_17, w_136_20, w_136_23, w_136_24, w_136_25, w_136_28, w_136_29, w_136_32, w_136_35, w_136_36, w_136_37, w_136_40, w_136_41, w_136_44, w_136_47, w_136_48, w_136_49, w_136_52, w_136_53, w_136_56, w_136_59, w_136_60, w_136_61, w_136_64, w_136_65, w_136_68, w_136_71, w_136_72, w_136_74, w_136_77, w_136_78, w_136_81, w_136_84, w_136_85, ly_25 hL, a1.2.2.2.2.2.2.1, a1.2.2.2.2.2.2.2.1, a1.2.2.2.2.2.2.2.2.1, a2.2.1, a8.1, a9, a10, ctI]
  by_cases c0 : x = nI 0
  · simp only [c0, not_true_eq_false, if_true, if_false]
  by_cases c1 : x = nI 1
  · simp only [c1, show ¬ nI 1 = nI 0 by decide, not_true_eq_false, not_false_eq_true, if_true, if_false]
  by_cases c2 : x = nI 2
  · simp only [c2, show ¬ nI 2 = nI 0 by decide, show ¬ nI 2 = nI 1 by decide, not_true_eq_false, not_false_eq_true, if_true, if_false]
  by_cases c3 : x = nI 3
  · simp only [c3, show ¬ nI 3 = nI 0 by decide, show ¬ nI 3 = nI 1 by decide, show ¬ nI 3 = nI 2 by decide, not_true_eq_false, not_false_eq_true, if_true, if_false]
  by_cases c4 : x = nI 4
  · simp only [c4, show ¬ nI 4 = nI 0 by decide, show ¬ nI 4 = nI 1 by decide, show ¬ nI 4 = nI 2 by decide, show ¬ nI 4 = nI 3 by decide, not_true_eq_false, not_false_eq_true, if_true, if_false]
  by_cases c5 : x = nI 5
  · simp only [c5, show ¬ nI 5 = nI 0 by decide, show ¬ nI 5 = nI 1 by decide, show ¬ nI 5 = nI 2 by decide, show ¬ nI 5 = nI 3 by decide, show ¬ nI 5 = nI 4 by decide, not_true_eq_false, not_false_eq_true, if_true, if_false]
  by_cases c6 : x = nI 6
  · simp only [c6, show ¬ nI 6 = nI 0 by decide, show ¬ nI 6 = nI 1 by decide, show ¬ nI 6 = nI 2 by decide, show ¬ nI 6 = nI 3 by decide, show ¬ nI 6 = nI 4 by decide, show ¬ nI 6 = nI 5 by decide, not_true_eq_false, not_false_eq_true, if_true, if_false]
  simp only [c0, c1, c2, c3, c4, c5, c6, not_false_eq_true, if_true, if_false]
theorem r_enabled_bad {x : Int32} (a : RI h n k e lk rn G sm ak GA sc s stp mov ty tx) (hx : x < nI 0 ∨ nI n ≤ x) : mj_Wp L xs (d + 1) 133 0 [some (.ref 25), some (.int x)] [] h Q ↔ Q (some (.int (-1)), h) := by
  simp only [w_133_0, w_133_1, w_133_2, w_133_5, w_133_8, w_133_9, ly_25 a.1.2.2.2.2.2.1, r_isNode a.1, hx, if_true, Option.toList, List.cons_append, List.nil_append, not_true_eq_false, if_false]
theorem not_nd {p : Nat} (hn : n ≤ 5) (hp : p < n) : ¬ (nI p < nI 0 ∨ nI n ≤ nI p) := by
  rw [nI_ltI (by omega) (by omega), nI_leI (by omega) (by omega)]
  omega
theorem r_enabled_ok {p : Nat} (a : RI h n k e lk rn G sm ak GA sc s stp mov ty tx) (hp : p < n) (hok : ∀ h', mj_sx rfS h h' → RI h' n k e lk rn G sm ak GA sc s stp mov ty tx → Q (some (.int (frI n k lk rn G s p + nI 1)), h')) : mj_Wp L xs (d + 1 + 1 + 1 + 1 + 1 + 1) 133 0 [some (.ref 25), some (.int (nI p))] [] h Q := by
  have n10 : ¬ nI 1 = nI 0 := by decide
  have hL := a.1.2.2.2.2.2.1
  have hN := RB_N a.1
  have hs := a.2.2.2.2.2.1
  simp only [w_133_0, w_133_1, w_133_2, w_133_5, w_133_8, w_133_9, w_133_10, w_133_11, w_133_12, w_133_15, ly_25 hL, r_isNode a.1, not_nd a.1.2.1 hp, if_false, Option.toList, List.cons_append, List.nil_append, n10, not_false_eq_true, if_true, r_state a]
  refine r_lookAt a.1 (by omega) (fun h1 s1 l1 => ?_)
  have b1 : RB h1 n k e lk := RB_sx s1 (by decide) (fun j _ => sx_i s1 (by decide)) a.1
  have hL1 := b1.2.2.2.2.2.1
  simp only [w_133_18, w_133_19, w_133_20, ly_25 hL1, Option.toList, List.nil_append]
  refine r_ruleFor b1 l1 (RR_sx s1 (by decide) (sx_i s1 (by decide)) a.2.1) hp (fun h2 w2 => ?_)
  have s2 : mj_sx [25, 38, 39, 40, 41, 42, 43, 44, 45] h h2 := sx_tr (sx_mono s1 (by decide)) (sx_mono w2.1 (by decide))
  have q25 : ∀ j, j ≠ 30 → mj_i h2 25 j = mj_i h 25 j := fun j hj => by rw [w2.2 j hj, sx_i s1 (by decide)]
  simp only [w_133_23, w_133_24, w_133_25, Option.toList, List.cons_append, List.nil_append]
  refine hok h2 (sx_mono s2 (by decide)) (RI_of a s2 (fun j j1 _ _ _ => q25 j j1) ?_)
  have er : ∀ b, b ≠ 25 → b ≠ 38 → b ≠ 39 → mj_i h2 b = mj_i h b := fun b b1 b2 b3 => by
    rw [w2.1.2.2.2.2 b (by simp [b1, b3]), s1.2.2.2.2 b (by simp [b2])]
  simp only [RK, KN, TR, q25 31 (by decide), q25 32 (by decide), q25 38 (by decide), er 40 (by decide) (by decide) (by decide), er 41 (by decide) (by decide) (by decide), er 42 (by decide) (by decide) (by decide), er 44 (by decide) (by decide) (by decide), er 45 (by decide) (by decide) (by decide)]
  exact a.2.2.2.2.1
theorem r_value_bad {x : Int32} (a : RI h n k e lk rn G sm ak GA sc s stp mov ty tx) (hx : x < nI 0 ∨ nI n ≤ x) : mj_Wp L xs (d + 1) 132 0 [some (.ref 25), some (.int x)] [] h Q ↔ Q (some (.int (-1)), h) := by
  simp only [w_132_0, w_132_1, w_132_2, w_132_5, w_132_17, w_132_18, ly_25 a.1.2.2.2.2.2.1, r_isNode a.1, hx, if_true, Option.toList, List.cons_append, List.nil_append]
theorem r_value_ok {p : Nat} (a : RI h n k e lk rn G sm ak GA sc s stp mov ty tx) (hp : p < n) : mj_Wp L xs (d + 1) 132 0 [some (.ref 25), some (.int (nI p))] [] h Q ↔ Q (some (.int (nI (dg n k s p))), h) := by
  have n10 : ¬ nI 1 = nI 0 := by decide
  have hL := a.1.2.2.2.2.2.1
  have a2 := a.1.2.1
  have j1 : mj_in (nI p) 5 = true := mj_in_nI (by omega) (by omega)
  have j2 : (nI p).toNatClampNeg = p := nI_clamp (by omega)
  simp only [w_132_0, w_132_1, w_132_2, w_132_5, w_132_8, w_132_9, w_132_12, w_132_13, w_132_14, w_132_17, w_132_18, ly_25 hL, lr_25_4 hL, lk_27 hL, ln_27 hL, mj_rv_some, r_isNode a.1, not_nd a.1.2.1 hp, if_false, Option.toList, List.cons_append, List.nil_append, n10, j1, j2, a.2.2.2.2.2.2.1 p hp]
end RCallsK
