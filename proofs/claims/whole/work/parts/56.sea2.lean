/-! Search: steps out of good, standstills. -/
section SeaK2
variable {L : Nat} {xs : Nat → Int32} {d : Nat} {Q : Option Value × MH → Prop} {h : MH}
theorem k_so_in {N n sc s : Nat} {en : Nat → Nat} {sh : Nat → Nat → Int32} {af : Nat → Nat → Nat} {gd : Nat → Bool} (a : CS h N n sc en sh) (b : SE N n sc en sh af) (g : CG h N gd) (hs : s < N) (hr : mj_i h 11 11 = nI 0)
    (hQ1 : ∀ h' c, Fst (P1 N (fun s => alB sc (en s)) af gd s) c → mj_sx [11, 19] h h' → (∀ j, j ≠ 11 → mj_i h' 11 j = mj_i h 11 j) → mj_i h' 11 11 = nI 2 → mj_i h' 19 0 = nI s → mj_i h' 19 1 = nI (af s c) → Q (some (.int (nI 1)), h'))
    (hQ2 : (∀ c, ¬ P1 N (fun s => alB sc (en s)) af gd s c) → ∀ X, mj_Wp L xs (d + 1 + 1) 69 85 [some (.ref 11), some (.int (nI s)), X] [] h Q) : ∀ (m c : Nat), c + m = en s + 1 → (∀ c', c' < c → ¬ P1 N (fun s => alB sc (en s)) af gd s c') → mj_Wp L xs (d + 1 + 1) 69 15 [some (.ref 11), some (.int (nI s)), some (.int (nI c))] [] h Q := by
  obtain ⟨hL, a2, a3, a4, a5, a6⟩ := id a
  obtain ⟨b1, b2, b3, b4, b5, b6⟩ := id b
  have e1 : mj_in (nI s) 1024 = true := mj_in_nI (by omega) (by omega)
  have e2 : (nI s).toNatClampNeg = s := nI_clamp (by omega)
  have he := b5 s hs
  cases hg : gd s with
  | false =>
    intro m c _ _
    rw [w_69_15]
    simp only [w_69_16, w_69_19, w_69_20, w_69_21, ly_11 hL, lr_11_5 hL, lk_14 hL, ln_14 hL, mj_rv_some, e1, e2, g s hs, hg, bI_0, if_true]
    exact hQ2 (fun c q => by have := q.2.1; rw [hg] at this; cases this) _
  | true =>
    intro m
    induction m with
    | zero =>
      intro c hc hP
      have e3 : nI (en s) < nI c := by rw [nI_ltI (by omega) (by omega)]; omega
      rw [w_69_15]
      simp only [w_69_16, w_69_19, w_69_20, w_69_21, w_69_24, w_69_25, w_69_26, w_69_29, w_69_30, w_69_31, ly_11 hL, lr_11_5 hL, lr_11_3 hL, lk_12 hL, ln_12 hL, lk_14 hL, ln_14 hL, mj_rv_some, e1, e2, g s hs, hg, bI_1, show ¬ nI 1 = nI 0 by decide, if_false, a5 s hs, e3, if_true]
      refine hQ2 (fun c' q => ?_) _
      have := (alB_lt he q.2.2.1 q.2.2.2.1).2
      exact hP c' (by omega) q
    | succ m ih =>
      intro c hc hP
      have e3 : ¬ nI (en s) < nI c := by rw [nI_ltI (by omega) (by omega)]; omega
      rw [w_69_15]
      simp only [w_69_16, w_69_19, w_69_20, w_69_21, w_69_24, w_69_25, w_69_26, w_69_29, w_69_30, w_69_31, w_69_34, w_69_35, w_69_36, w_69_39, w_69_40, w_69_41, w_69_42, ly_11 hL, lr_11_5 hL, lr_11_3 hL, lk_12 hL, ln_12 hL, lk_14 hL, ln_14 hL, mj_rv_some, e1, e2, g s hs, hg, bI_1, show ¬ nI 1 = nI 0 by decide, if_false, a5 s hs, e3, k_allows hL a4 b4, Option.toList, List.cons_append, List.nil_append, w_69_45, bI_z, w_69_79, w_69_82, nI_add]
      cases ho : alI sc (en s) (nI c) with
      | false =>
        simp only [if_true]
        refine ih (c + 1) (by omega) (fun c' h1 => ?_)
        by_cases h2 : c' = c
        · intro q
          have q4 : alB sc (en s) c' = true := q.2.2.2.1
          rw [h2, show alB sc (en s) c = false from ho] at q4
          cases q4
        · exact hP c' (by omega)
      | true =>
        have ho' : alB sc (en s) c = true := ho
        have hc32 : c < 32 := by omega
        have haf := (b6 s hs c hc32 ho').2
        have e4 : mj_in (nI (af s c)) 1024 = true := mj_in_nI (by omega) (by omega)
        have e5 : (nI (af s c)).toNatClampNeg = af s c := nI_clamp (by omega)
        simp only [show ¬ (true = false) by decide, if_false, w_69_48, w_69_49, w_69_52, w_69_53, w_69_54, w_69_55, w_69_58, w_69_59, ly_11 hL, lr_11_5 hL, lk_14 hL, ln_14 hL, mj_rv_some, k_after a b hs hc32 ho', Option.toList, List.cons_append, List.nil_append, e4, e5, g _ haf, w_69_79, w_69_82, nI_add]
        cases hg2 : gd (af s c) with
        | true =>
          simp only [bI_1, show ¬ nI 1 = nI 0 by decide, not_false_eq_true, if_true]
          refine ih (c + 1) (by omega) (fun c' h1 => ?_)
          by_cases h2 : c' = c
          · intro q
            have := q.2.2.2.2
            rw [h2, hg2] at this
            cases this
          · exact hP c' (by omega)
        | false =>
          obtain ⟨h1, hh⟩ : ∃ h1, h1 = mj_wi (mj_wi h 19 0 (nI s)) 11 11 (nI (0 + 1)) := ⟨_, rfl⟩
          have s1 : mj_sx [11, 19] h h1 := by
            rw [hh]
            exact sx_tr (sx_wi (by decide)) (sx_wi (by decide))
          have f1 : mj_i h1 11 11 = nI 1 := by simp [hh, mj_i_wi]
          have f2 : ∀ j, j ≠ 11 → mj_i h1 11 j = mj_i h 11 j := fun j hj => by simp [hh, mj_i_wi, hj]
          have f3 : mj_i h1 19 0 = nI s := by simp [hh, mj_i_wi]
          have a' : CS h1 N n sc en sh := CS_sx s1 (by decide) (f2 12 (by decide)) a
          simp only [bI_0, not_true_eq_false, if_false, w_69_62, w_69_63, w_69_64, ly_11 hL, k_addToRun hL hr (by decide), ← hh, Option.toList, List.cons_append, List.nil_append]
          simp only [w_69_67, w_69_68, w_69_69, w_69_70, w_69_71, w_69_74, w_69_77, w_69_78, ly_11 a'.1, k_after a' b hs hc32 ho', k_addToRun a'.1 f1 (by decide), Option.toList, List.cons_append, List.nil_append, mj_fit_n1]
          refine hQ1 _ c ⟨⟨hs, hg, hc32, ho', hg2⟩, hP⟩ (sx_tr s1 (sx_tr (sx_wi (by decide)) (sx_wi (by decide)))) (fun j hj => ?_) ?_ ?_ ?_
          · rw [mj_i_wi, mj_i_wi]
            simp [hj, f2 j hj]
          · simp [mj_i_wi]
          · simp [mj_i_wi, f3]
          · simp [mj_i_wi]
theorem k_stepOut {N n sc : Nat} {en : Nat → Nat} {sh : Nat → Nat → Int32} {af : Nat → Nat → Nat} {gd : Nat → Bool} (a : CS h N n sc en sh) (b : SE N n sc en sh af) (g : CG h N gd) (hr : mj_i h 11 11 = nI 0)
    (hQ1 : ∀ h' s c, Fst (fun s => ∃ c, P1 N (fun s => alB sc (en s)) af gd s c) s → Fst (P1 N (fun s => alB sc (en s)) af gd s) c → mj_sx [11, 19] h h' → (∀ j, j ≠ 11 → mj_i h' 11 j = mj_i h 11 j) → mj_i h' 11 11 = nI 2 → mj_i h' 19 0 = nI s → mj_i h' 19 1 = nI (af s c) → Q (some (.int (nI 1)), h'))
    (hQ2 : (∀ s c, ¬ P1 N (fun s => alB sc (en s)) af gd s c) → Q (some (.int (nI 0)), h)) : mj_Wp L xs (d + 1 + 1) 69 0 [some (.ref 11), none, none] [] h Q := by
  obtain ⟨hL, a2, a3, a4, a5, a6⟩ := id a
  obtain ⟨b1, b2, b3, b4, b5, b6⟩ := id b
  have key : ∀ (m s : Nat) (X : Option Value), s + m = N → (∀ s', s' < s → ∀ c, ¬ P1 N (fun s => alB sc (en s)) af gd s' c) → mj_Wp L xs (d + 1 + 1) 69 2 [some (.ref 11), some (.int (nI s)), X] [] h Q := by
    intro m
    induction m with
    | zero =>
      intro s X hs hP
      have hs : s = N := by omega
      subst hs
      rw [w_69_2]
      simp only [w_69_3, w_69_4, w_69_7, w_69_10, w_69_91, w_69_92, ly_11 hL, lr_11_0 hL, ly_1 hL, mj_rv_some, a3, nI_leI (show s < 2 ^ 31 by omega) (show s < 2 ^ 31 by omega), Nat.le_refl, if_true, mj_fit_n0]
      exact hQ2 (fun s' c q => hP s' q.1 c q)
    | succ m ih =>
      intro s X hs hP
      have e0 : ¬ N ≤ s := by omega
      rw [w_69_2]
      simp only [w_69_3, w_69_4, w_69_7, w_69_10, w_69_13, w_69_14, ly_11 hL, lr_11_0 hL, ly_1 hL, mj_rv_some, a3, nI_leI (show N < 2 ^ 31 by omega) (show s < 2 ^ 31 by omega), e0, if_false]
      refine k_so_in a b g (show s < N by omega) hr (fun h' c q => hQ1 h' s c ⟨⟨c, q.1⟩, fun t ht => fun ⟨c', q'⟩ => hP t ht c' q'⟩ q) (fun q X => ?_) (en s) 1 (by omega) (fun c' h1 q => ?_)
      · simp only [w_69_85, w_69_88, nI_add]
        refine ih (s + 1) X (by omega) (fun s' h1 => ?_)
        by_cases h2 : s' = s
        · rw [h2]; exact q
        · exact hP s' (by omega)
      · have h2 := (alB_lt (b5 s (by omega)) q.2.2.1 q.2.2.2.1).1
        omega
  simp only [w_69_0, w_69_1]
  exact key N 0 _ (by omega) (fun s' h1 => by omega)
theorem k_still {N n sc : Nat} {en : Nat → Nat} {sh : Nat → Nat → Int32} {af : Nat → Nat → Nat} {gd : Nat → Bool} (a : CS h N n sc en sh) (b : SE N n sc en sh af) (g : CG h N gd) (hr : mj_i h 11 11 = nI 0)
    (hQ1 : ∀ h' s, Fst (P2 N en gd) s → mj_sx [11, 19] h h' → (∀ j, j ≠ 11 → mj_i h' 11 j = mj_i h 11 j) → mj_i h' 11 11 = nI 1 → mj_i h' 19 0 = nI s → Q (some (.int (nI 1)), h'))
    (hQ2 : (∀ s, ¬ P2 N en gd s) → Q (some (.int (nI 0)), h)) : mj_Wp L xs (d + 1) 72 0 [some (.ref 11), none] [] h Q := by
  obtain ⟨hL, a2, a3, a4, a5, a6⟩ := id a
  obtain ⟨b1, b2, b3, b4, b5, b6⟩ := id b
  have key : ∀ (m s : Nat), s + m = N → (∀ s', s' < s → ¬ P2 N en gd s') → mj_Wp L xs (d + 1) 72 2 [some (.ref 11), some (.int (nI s))] [] h Q := by
    intro m
    induction m with
    | zero =>
      intro s hs hP
      have hs : s = N := by omega
      subst hs
      rw [w_72_2]
      simp only [w_72_3, w_72_4, w_72_7, w_72_10, w_72_44, w_72_45, ly_11 hL, lr_11_0 hL, ly_1 hL, mj_rv_some, a3, nI_leI (show s < 2 ^ 31 by omega) (show s < 2 ^ 31 by omega), Nat.le_refl, if_true, mj_fit_n0]
      exact hQ2 (fun s' q => hP s' q.1 q)
    | succ m ih =>
      intro s hs hP
      have e0 : ¬ N ≤ s := by omega
      have hsN : s < N := by omega
      have e1 : mj_in (nI s) 1024 = true := mj_in_nI (by omega) (by omega)
      have e2 : (nI s).toNatClampNeg = s := nI_clamp (by omega)
      have he := b5 s hsN
      have z0 : (nI (en s) = nI 0) = (en s = 0) := by rw [nI_eq (by omega) (by omega)]
      have nxt : ¬ P2 N en gd s → mj_Wp L xs (d + 1) 72 38 [some (.ref 11), some (.int (nI s))] [] h Q := by
        intro q
        simp only [w_72_38, w_72_41, nI_add]
        refine ih (s + 1) (by omega) (fun s' h1 => ?_)
        by_cases h2 : s' = s
        · rw [h2]; exact q
        · exact hP s' (by omega)
      rw [w_72_2]
      simp only [w_72_3, w_72_4, w_72_7, w_72_10, w_72_13, w_72_14, w_72_17, w_72_18, w_72_19, w_72_22, w_72_23, w_72_26, w_72_27, w_72_28, w_72_31, w_72_32, w_72_33, w_72_36, w_72_37, ly_11 hL, lr_11_0 hL, lr_11_5 hL, lr_11_3 hL, lk_12 hL, ln_12 hL, lk_14 hL, ln_14 hL, ly_1 hL, mj_rv_some, a3, nI_leI (show N < 2 ^ 31 by omega) (show s < 2 ^ 31 by omega), e0, if_false, e1, e2, g s hsN, a5 s hsN, z0, k_addToRun hL hr (by decide), Option.toList, List.cons_append, List.nil_append, mj_fit_n1]
      cases hg : gd s with
      | true =>
        simp only [bI_1, show ¬ nI 1 = nI 0 by decide, not_false_eq_true, if_true]
        exact nxt (fun q => by have := q.2.1; rw [hg] at this; cases this)
      | false =>
        by_cases hz : en s = 0
        · simp only [bI_0, not_true_eq_false, if_false, hz]
          refine hQ1 _ s ⟨⟨hsN, hg, hz⟩, hP⟩ (sx_tr (sx_wi (by decide)) (sx_wi (by decide))) (fun j hj => ?_) ?_ ?_
          · simp [mj_i_wi, hj]
          · simp [mj_i_wi]
          · simp [mj_i_wi]
        · simp only [bI_0, not_true_eq_false, if_false, hz, not_false_eq_true, if_true]
          exact nxt (fun q => hz q.2.2)
  simp only [w_72_0, w_72_1]
  exact key N 0 (by omega) (fun s' h1 => by omega)
end SeaK2
