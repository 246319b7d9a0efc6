/-! The reference's reading: goOn, follow. -/
section Step3K
variable {L : Nat} {xs : Nat → Int32} {d : Nat} {Q : Option Value × MH → Prop} {h : MH} {stk : List SE4} {an o : Bool} {qn sd cp ad : Nat} {gs : List Nat} {en : Nat → Int32} {ss : List Nat}
theorem AS_pop {w : SE4} {st : List SE4} (a : AS h (w :: st, an, o, qn, sd, cp, ad, gs, en, ss)) : AS (mj_wi h 25 17 (nI st.length)) (st, an, o, qn, sd, cp, ad, gs, en, ss) := by
  obtain ⟨hL, a1, ⟨-, a2⟩, a3, a4, a5, a6, a7, a8, a9, a10, a11, a12, a13⟩ := id a
  have r2 : ∀ b j, ¬ (b = 25 ∧ j = 17) → mj_i (mj_wi h 25 17 (nI st.length)) b j = mj_i h b j := fun b j hb => by rw [mj_i_wi, if_neg hb]
  exact ⟨Lay_wi.mpr hL, by simp [mj_i_wi], skO_cong _ (fun i _ => ⟨r2 _ _ (by omega), r2 _ _ (by omega), r2 _ _ (by omega), r2 _ _ (by omega)⟩) a2, by rw [r2 _ _ (by omega)]; exact a3, by rw [r2 _ _ (by omega)]; exact a4, by rw [r2 _ _ (by omega)]; exact a5, by rw [r2 _ _ (by omega)]; exact a6, by rw [r2 _ _ (by omega)]; exact a7, by rw [r2 _ _ (by omega)]; exact a8, by rw [r2 _ _ (by omega)]; exact a9, cdA_cong _ _ (fun i _ _ => r2 _ _ (by omega)) a10, fun i => by rw [r2 _ _ (by omega)]; exact a11 i, by rw [r2 _ _ (by omega)]; exact a12, cdA_cong _ _ (fun i _ _ => r2 _ _ (by omega)) a13⟩
theorem r_goOn {rule : Bool} {c : Nat} (a : AS h (stk, an, o, qn, sd, cp, ad, gs, en, ss)) (wf : WF 4 (stk, an, o, qn, sd, cp, ad, gs, en, ss)) (hp : pot (stk, an, o, qn, sd, cp, ad, gs, en, ss) ≤ 47) (hc : c < 127)
    (hN : aGO rule c (stk, an, o, qn, sd, cp, ad, gs, en, ss) = none → Q (some (.int (-1)), h))
    (hS : ∀ h' w, aGO rule c (stk, an, o, qn, sd, cp, ad, gs, en, ss) = some w → AX h h' → AS h' w.2 → Q (some (.int (nI w.1)), h')) : mj_Wp L xs (d + 1 + 1) 98 0 [some (.ref 25), some (.int (nI c)), some (.int (bI rule))] [] h Q := by
  have n10 : ¬ nI 1 = nI 0 := by decide
  obtain ⟨h1, h2, h3, h4, h5, h6, h7, h8, h9, h10⟩ := id wf
  obtain ⟨hsd, htp⟩ := h7 rfl
  have hpe : pot (stk, an, o, qn, sd, cp, ad, gs, en, ss) = gs.length + ss.length + nz ad + nz cp + b2n an + b2n o + potS stk := rfl
  obtain ⟨hL, a1, a2, a3, a4, a5, a6, a7, a8, a9, a10, a11, a12, a13⟩ := id a
  have zc : ∀ j, j < 127 → (nI c = nI j) = (c = j) := fun j hj => by rw [nI_eq (by omega) (by omega)]
  unfold aGO at hN hS
  dsimp only at hN hS
  by_cases c38 : c = 38
  · rw [if_pos c38] at hS
    simp only [w_98_0, w_98_1, w_98_3, w_98_6, w_98_7, w_98_8, w_98_11, w_98_12, zc 38 (by decide), c38, not_true_eq_false, if_false, ly_25 hL, mj_fit_n1]
    exact hS _ (0, _) rfl (AX_25 (by omega)) (AS_w a (by decide) (by simp [bI]) (by simp) (by simp) (by simp) (by simp) (by simp))
  rw [if_neg c38] at hN hS
  by_cases c124 : c = 124
  · rw [if_pos c124] at hS
    simp only [w_98_0, w_98_1, w_98_3, w_98_13, w_98_14, w_98_16, w_98_19, w_98_20, zc 38 (by decide), zc 124 (by decide), c38, c124, not_true_eq_false, not_false_eq_true, if_true, if_false, ly_25 hL, show ¬ (124 = 38) by decide]
    refine r_endBoth a (by omega) (by omega) (fun h' x' as' => ?_)
    simp only [w_98_23, w_98_24, w_98_25, w_98_28, w_98_29, Option.toList, List.nil_append, ly_25 as'.1, mj_fit_n1]
    exact hS _ (0, _) rfl (AX_tr x' (AX_25 (by omega))) (AS_w as' (by decide) (by simp) (by simp [bI]) (by simp) (by simp) (by simp) (by simp))
  rw [if_neg c124] at hN hS
  by_cases c41 : c = 41
  · rw [if_pos c41] at hN hS
    cases stk with
    | nil =>
      rw [List.length_nil] at a1
      simp only [w_98_0, w_98_1, w_98_3, w_98_13, w_98_14, w_98_16, w_98_30, w_98_31, w_98_33, w_98_36, w_98_37, w_98_40, w_98_89, w_98_90, w_98_92, w_98_117, w_98_118, zc 38 (by decide), zc 124 (by decide), zc 41 (by decide), zc 62 (by decide), c41, not_true_eq_false, not_false_eq_true, if_true, if_false, ly_25 hL, a1, Int32.le_refl, show ¬ (41 = 38) by decide, show ¬ (41 = 124) by decide, show ¬ (41 = 62) by decide]
      exact hN rfl
    | cons w st =>
      rw [List.length_cons] at a1 h2
      have e0 : ¬ nI (st.length + 1) ≤ nI 0 := by rw [nI_leI (by omega) (by omega)]; omega
      have e1 : mj_in (nI st.length) 8 = true := mj_in_nI (by omega) (by omega)
      have e2 : (nI st.length).toNatClampNeg = st.length := nI_clamp (by omega)
      have hw40 : w.1 = 40 := htp w st rfl
      have hq : qn = qC st := by rw [h3, qC, if_pos (Or.inl hw40)]; rfl
      have hps : potS (w :: st) = potS st + (b2n w.2.1 + b2n w.2.2.1) := by rw [potS, if_neg (by omega), if_pos hw40]
      simp only [w_98_0, w_98_1, w_98_3, w_98_13, w_98_14, w_98_16, w_98_30, w_98_31, w_98_33, w_98_36, w_98_37, w_98_40, w_98_43, w_98_44, zc 38 (by decide), zc 124 (by decide), zc 41 (by decide), c41, not_true_eq_false, not_false_eq_true, if_true, if_false, ly_25 hL, a1, e0, show ¬ (41 = 38) by decide, show ¬ (41 = 124) by decide]
      refine r_endBoth a (by omega) (by omega) (fun h1 x1 as1 => ?_)
      have t17 : mj_i h1 25 17 = nI (st.length + 1) := as1.2.1
      have as2 := AS_pop as1
      obtain ⟨h2', hh2⟩ : ∃ h2', h2' = mj_wi h1 25 17 (nI st.length) := ⟨_, rfl⟩
      rw [← hh2] at as2
      have hL2 := as2.1
      have u17 : mj_i h2' 25 17 = nI st.length := as2.2.1
      have u35 : mj_i h2' 35 st.length = bI w.2.1 := by rw [hh2, mj_i_ne (by decide)]; exact as1.2.2.1.1.2.1
      have u36 : mj_i h2' 36 st.length = bI w.2.2.1 := by rw [hh2, mj_i_ne (by decide)]; exact as1.2.2.1.1.2.2.1
      have as3 : AS (mj_wi h2' 25 22 (bI w.2.1)) (st, w.2.1, false, qn, sd, cp, ad, orL o 124 gs, en, ss) := AS_w as2 (by decide) (by simp) (by simp) (by simp) (by simp) (by simp) (by simp)
      obtain ⟨h3', hh3⟩ : ∃ h3', h3' = mj_wi h2' 25 22 (bI w.2.1) := ⟨_, rfl⟩
      rw [← hh3] at as3
      have hL3 := as3.1
      have v17 : mj_i h3' 25 17 = nI st.length := as3.2.1
      have v36 : mj_i h3' 36 st.length = bI w.2.2.1 := by rw [hh3, mj_i_ne (by decide)]; exact u36
      have as4 : AS (mj_wi h3' 25 23 (bI w.2.2.1)) (st, w.2.1, w.2.2.1, qn, sd, cp, ad, orL o 124 gs, en, ss) := AS_w as3 (by decide) (by simp) (by simp) (by simp) (by simp) (by simp) (by simp)
      have x2 : AX h1 h2' := by rw [hh2]; exact AX_25 (by omega)
      have x3 : AX h2' h3' := by rw [hh3]; exact AX_25 (by omega)
      simp only [w_98_47, w_98_48, w_98_49, w_98_52, w_98_53, w_98_54, w_98_57, w_98_58, w_98_59, w_98_62, w_98_63, w_98_66, w_98_67, w_98_70, w_98_71, w_98_72, w_98_75, w_98_76, w_98_79, w_98_80, w_98_83, w_98_84, Option.toList, List.nil_append, ly_25 as1.1, t17, nI_s1, ← hh2, ly_25 hL2, lr_25_19 hL2, lk_35 hL2, ln_35 hL2, mj_rv_some, u17, e1, e2, u35, fit_bI, ← hh3, ly_25 hL3, lr_25_20 hL3, lk_36 hL3, ln_36 hL3, v17, v36, mj_is_wi]
      refine r_endTest as4 (by omega) (by omega) hq (fun w' hw' => h4 w' (List.mem_cons_of_mem _ hw')) ?_ (fun h5 x5 as5 => ?_)
      · rw [pot, orL_len]; omega
      · simp only [w_98_87, w_98_88, Option.toList, List.nil_append]
        exact hS h5 (4, _) rfl (AX_tr x1 (AX_tr x2 (AX_tr x3 (AX_tr (AX_25 (by omega)) x5)))) as5
  rw [if_neg c41] at hN hS
  by_cases c62 : c = 62 ∧ rule = true
  · rw [if_pos c62] at hN hS
    have z0 : (nI stk.length = nI 0) = (stk.length = 0) := by rw [nI_eq (by omega) (by omega)]
    rw [c62.2, bI_1]
    simp only [w_98_0, w_98_1, w_98_3, w_98_13, w_98_14, w_98_16, w_98_30, w_98_31, w_98_33, w_98_89, w_98_90, w_98_92, w_98_95, w_98_96, w_98_99, w_98_100, w_98_103, w_98_117, w_98_118, zc 38 (by decide), zc 124 (by decide), zc 41 (by decide), zc 62 (by decide), c62.1, not_true_eq_false, not_false_eq_true, if_true, if_false, ly_25 hL, a1, n10, z0, show ¬ (62 = 38) by decide, show ¬ (62 = 124) by decide, show ¬ (62 = 41) by decide]
    cases stk with
    | cons w st =>
      simp only [List.length_cons, show ¬ (st.length + 1 = 0) by omega, not_false_eq_true, if_true]
      exact hN rfl
    | nil =>
      simp only [List.length_nil, not_true_eq_false, if_false, w_98_106, w_98_107, ly_25 hL]
      refine r_endBoth a (by omega) (by omega) (fun h1 x1 as1 => ?_)
      simp only [w_98_110, w_98_111, w_98_112, w_98_115, w_98_116, Option.toList, List.nil_append, ly_25 as1.1]
      exact hS _ (1, _) rfl (AX_tr x1 (AX_25 (by omega))) (AS_w as1 (by decide) (by simp) (by simp) (by simp) (by simp) (by simp) (by simp))
  rw [if_neg c62] at hN
  simp only [w_98_0, w_98_1, w_98_3, w_98_13, w_98_14, w_98_16, w_98_30, w_98_31, w_98_33, w_98_89, w_98_90, w_98_92, w_98_95, w_98_96, w_98_117, w_98_118, zc 38 (by decide), zc 124 (by decide), zc 41 (by decide), zc 62 (by decide), c38, c124, c41, not_false_eq_true, if_true]
  by_cases k62 : c = 62
  · have hr : rule = false := by
      cases rule with
      | false => rfl
      | true => exact absurd ⟨k62, rfl⟩ c62
    simp only [k62, not_true_eq_false, if_false, hr, bI_0, if_true]
    exact hN rfl
  · simp only [k62, not_false_eq_true, if_true]
    exact hN rfl
theorem r_follow {rule : Bool} {due c : Nat} (a : AS h (stk, an, o, qn, sd, cp, ad, gs, en, ss)) (wf : WF due (stk, an, o, qn, sd, cp, ad, gs, en, ss)) (hp : pot (stk, an, o, qn, sd, cp, ad, gs, en, ss) ≤ 47) (hd : 2 ≤ due) (hc : c < 127)
    (hN : ∀ h', aFo rule due c (stk, an, o, qn, sd, cp, ad, gs, en, ss) = none → AX h h' → Q (some (.int (-1)), h'))
    (hS : ∀ h' w, aFo rule due c (stk, an, o, qn, sd, cp, ad, gs, en, ss) = some w → AX h h' → AS h' w.2 → Q (some (.int (nI w.1)), h')) : mj_Wp L xs (d + 1 + 1 + 1) 95 0 [some (.ref 25), some (.int (nI c)), some (.int (nI due)), some (.int (bI rule))] [] h Q := by
  obtain ⟨h1, h2, h3, h4, h5, h6, h7, h8, h9, h10⟩ := id wf
  have hpe : pot (stk, an, o, qn, sd, cp, ad, gs, en, ss) = gs.length + ss.length + nz ad + nz cp + b2n an + b2n o + potS stk := rfl
  obtain ⟨hL, a1, a2, a3, a4, a5, a6, a7, a8, a9, a10, a11, a12, a13⟩ := id a
  have zc : ∀ j, j < 127 → (nI c = nI j) = (c = j) := fun j hj => by rw [nI_eq (by omega) (by omega)]
  have zd : (nI due = nI 2) = (due = 2) := by rw [nI_eq (by omega) (by omega)]
  have z4 : (nI 4 ≤ nI due) = (4 ≤ due) := by rw [nI_leI (by omega) (by omega)]
  have zs0 : (nI sd = nI 0) = (sd = 0) := by rw [nI_eq (by omega) (by omega)]
  have zs1 : (nI sd = nI 1) = (sd = 1) := by rw [nI_eq (by omega) (by omega)]
  rw [aFo] at hN hS
  by_cases q1 : due = 2 ∧ (c = 43 ∨ c = 45)
  · rw [if_pos q1] at hS
    have key : mj_Wp L xs (d + 1 + 1 + 1) 95 17 [some (.ref 25), some (.int (nI c)), some (.int (nI due)), some (.int (bI rule))] [] h Q := by
      simp only [w_95_17, w_95_18, w_95_19, w_95_22, w_95_23, ly_25 hL]
      exact hS _ (1, _) rfl (AX_25 (by omega)) (AS_w a (by decide) (by simp) (by simp) (by simp) (by simp) (by simp) (by simp))
    simp only [w_95_0, w_95_1, w_95_2, w_95_5, w_95_6, w_95_8, w_95_11, w_95_12, w_95_14, zd, zc 43 (by decide), zc 45 (by decide)]
    by_cases k : c = 43
    · simp only [q1.1, k, not_true_eq_false, if_true, if_false]; rw [← q1.1, ← k]; exact key
    · have k2 : c = 45 := by omega
      simp only [q1.1, k2, not_true_eq_false, if_false, show ¬ (45 = 43) by decide]; rw [← q1.1, ← k2]; exact key
  rw [if_neg q1] at hN hS
  have g1 : mj_Wp L xs (d + 1 + 1 + 1) 95 24 [some (.ref 25), some (.int (nI c)), some (.int (nI due)), some (.int (bI rule))] [] h Q → mj_Wp L xs (d + 1 + 1 + 1) 95 0 [some (.ref 25), some (.int (nI c)), some (.int (nI due)), some (.int (bI rule))] [] h Q := by
    intro hx
    simp only [w_95_0, w_95_1, w_95_2, w_95_5, w_95_6, w_95_8, w_95_11, w_95_12, w_95_14, zd, zc 43 (by decide), zc 45 (by decide)]
    by_cases k : due = 2
    · have k1 : ¬ c = 43 := by omega
      have k2 : ¬ c = 45 := by omega
      simp only [k, k1, k2, not_true_eq_false, not_false_eq_true, if_true, if_false]; rw [← k]; exact hx
    · simp only [k, not_false_eq_true, if_true]; exact hx
  refine g1 ?_
  by_cases q2 : due = 2 ∧ c = 37
  · rw [if_pos q2] at hS
    simp only [w_95_24, w_95_25, w_95_26, w_95_29, w_95_30, w_95_32, w_95_35, w_95_36, w_95_37, zd, zc 37 (by decide), q2.1, q2.2, not_true_eq_false, if_false, ly_25 hL]
    refine r_sign2 a h1 (by omega) (fun h' x' as' => ?_)
    simp only [w_95_40, w_95_41, Option.toList, List.nil_append]
    exact hS h' (3, _) rfl x' as'
  rw [if_neg q2] at hN hS
  have g2 : mj_Wp L xs (d + 1 + 1 + 1) 95 42 [some (.ref 25), some (.int (nI c)), some (.int (nI due)), some (.int (bI rule))] [] h Q → mj_Wp L xs (d + 1 + 1 + 1) 95 24 [some (.ref 25), some (.int (nI c)), some (.int (nI due)), some (.int (bI rule))] [] h Q := by
    intro hx
    simp only [w_95_24, w_95_25, w_95_26, w_95_29, w_95_30, w_95_32, zd, zc 37 (by decide)]
    by_cases k : due = 2
    · have k1 : ¬ c = 37 := by omega
      simp only [k, k1, not_true_eq_false, not_false_eq_true, if_true, if_false]; rw [← k]; exact hx
    · simp only [k, not_false_eq_true, if_true]; exact hx
  refine g2 ?_
  by_cases q3 : due < 4 ∧ sd = 0 ∧ (c = 61 ∨ c = 35 ∨ c = 60)
  · rw [if_pos q3] at hS
    have key : mj_Wp L xs (d + 1 + 1 + 1) 95 72 [some (.ref 25), some (.int (nI c)), some (.int (nI due)), some (.int (bI rule))] [] h Q := by
      simp only [w_95_72, w_95_73, w_95_74, w_95_77, w_95_78, w_95_79, w_95_82, w_95_83, ly_25 hL, mj_is_wi]
      exact hS _ (1, _) rfl (AX_tr (AX_25 (by omega)) (AX_25 (by omega))) (AS_w (AS_w (an' := an) (o' := o) (qn' := qn) (sd' := sd) (cp' := c) (ad' := ad) a (by decide) (by simp) (by simp) (by simp) (by simp) (by simp) (by simp)) (by decide) (by simp) (by simp) (by simp) (by simp) (by simp) (by simp))
    simp only [w_95_42, w_95_43, w_95_44, w_95_47, w_95_48, w_95_51, w_95_54, w_95_55, w_95_57, w_95_60, w_95_61, w_95_63, w_95_66, w_95_67, w_95_69, z4, zc 61 (by decide), zc 35 (by decide), zc 60 (by decide), show ¬ 4 ≤ due by omega, if_false, ly_25 hL, a6, zs0, q3.2.1, not_true_eq_false]
    by_cases k : c = 61
    · simp only [k, if_true]; rw [← k]; exact key
    · by_cases k2 : c = 35
      · simp only [k2, if_true, if_false, show ¬ (35 = 61) by decide]; rw [← k2]; exact key
      · have k3 : c = 60 := by omega
        simp only [k3, not_true_eq_false, if_false, show ¬ (60 = 61) by decide, show ¬ (60 = 35) by decide]; rw [← k3]; exact key
  rw [if_neg q3] at hN hS
  have g3 : mj_Wp L xs (d + 1 + 1 + 1) 95 84 [some (.ref 25), some (.int (nI c)), some (.int (nI due)), some (.int (bI rule))] [] h Q → mj_Wp L xs (d + 1 + 1 + 1) 95 42 [some (.ref 25), some (.int (nI c)), some (.int (nI due)), some (.int (bI rule))] [] h Q := by
    intro hx
    simp only [w_95_42, w_95_43, w_95_44, w_95_47, w_95_48, w_95_51, w_95_54, w_95_55, w_95_57, w_95_60, w_95_61, w_95_63, w_95_66, w_95_67, w_95_69, z4, zc 61 (by decide), zc 35 (by decide), zc 60 (by decide), ly_25 hL, a6, zs0]
    by_cases k : 4 ≤ due
    · simp only [k, if_true]; exact hx
    · by_cases k0 : sd = 0
      · have k1 : ¬ c = 61 := by omega
        have k2 : ¬ c = 35 := by omega
        have k3 : ¬ c = 60 := by omega
        simp only [k, k0, k1, k2, k3, not_true_eq_false, not_false_eq_true, if_true, if_false]; exact hx
      · simp only [k, k0, not_false_eq_true, if_true, if_false]; exact hx
  refine g3 ?_
  by_cases q4 : due < 4 ∧ sd ≠ 1
  · rw [if_pos q4] at hN
    simp only [w_95_84, w_95_85, w_95_86, w_95_89, w_95_90, w_95_93, w_95_94, w_95_97, w_95_98, z4, show ¬ 4 ≤ due by omega, if_false, ly_25 hL, a6, zs1, q4.2]
    exact hN h rfl AX_rf
  rw [if_neg q4] at hN hS
  have g4 : mj_Wp L xs (d + 1 + 1 + 1) 95 99 [some (.ref 25), some (.int (nI c)), some (.int (nI due)), some (.int (bI rule))] [] h Q → mj_Wp L xs (d + 1 + 1 + 1) 95 84 [some (.ref 25), some (.int (nI c)), some (.int (nI due)), some (.int (bI rule))] [] h Q := by
    intro hx
    simp only [w_95_84, w_95_85, w_95_86, w_95_89, w_95_90, w_95_93, w_95_94, z4, ly_25 hL, a6, zs1]
    by_cases k : 4 ≤ due
    · simp only [k, if_true]; exact hx
    · have k0 : sd = 1 := by
        by_cases z : sd = 1
        · exact z
        · exact absurd ⟨by omega, z⟩ q4
      simp only [k, k0, if_true, if_false]; exact hx
  refine g4 ?_
  by_cases q5 : c ≠ 38 ∧ c ≠ 124 ∧ c ≠ 41 ∧ c ≠ 62
  · rw [if_pos q5] at hN
    simp only [w_95_99, w_95_100, w_95_102, w_95_105, w_95_106, w_95_108, w_95_111, w_95_112, w_95_114, w_95_117, w_95_118, w_95_120, w_95_123, w_95_124, zc 38 (by decide), zc 124 (by decide), zc 41 (by decide), zc 62 (by decide), q5.1, q5.2.1, q5.2.2.1, q5.2.2.2, if_false]
    exact hN h rfl AX_rf
  rw [if_neg q5] at hN hS
  have g5 : mj_Wp L xs (d + 1 + 1 + 1) 95 125 [some (.ref 25), some (.int (nI c)), some (.int (nI due)), some (.int (bI rule))] [] h Q → mj_Wp L xs (d + 1 + 1 + 1) 95 99 [some (.ref 25), some (.int (nI c)), some (.int (nI due)), some (.int (bI rule))] [] h Q := by
    intro hx
    simp only [w_95_99, w_95_100, w_95_102, w_95_105, w_95_106, w_95_108, w_95_111, w_95_112, w_95_114, w_95_117, w_95_118, w_95_120, zc 38 (by decide), zc 124 (by decide), zc 41 (by decide), zc 62 (by decide)]
    by_cases k1 : c = 38
    · simp only [k1, if_true]; rw [← k1]; exact hx
    · by_cases k2 : c = 124
      · simp only [k2, if_true, if_false, show ¬ (124 = 38) by decide]; rw [← k2]; exact hx
      · by_cases k3 : c = 41
        · simp only [k3, if_true, if_false, show ¬ (41 = 38) by decide, show ¬ (41 = 124) by decide]; rw [← k3]; exact hx
        · have k4 : c = 62 := by omega
          simp only [k4, if_true, if_false, show ¬ (62 = 38) by decide, show ¬ (62 = 124) by decide, show ¬ (62 = 41) by decide]; rw [← k4]; exact hx
  refine g5 ?_
  -- goOn, behind the closing
  have go : ∀ (h1 : MH) (τ : AU), AX h h1 → AS h1 τ → WF 4 τ → pot τ ≤ 47 → τ = (if due < 4 then aEC (stk, an, o, qn, sd, cp, ad, gs, en, ss) else (stk, an, o, qn, sd, cp, ad, gs, en, ss)) → mj_Wp L xs (d + 1 + 1 + 1) 95 134 [some (.ref 25), some (.int (nI c)), some (.int (nI due)), some (.int (bI rule))] [] h1 Q := by
    intro h1' τ x1 as1 wf1 hp1 hτ
    rw [← hτ] at hN hS
    obtain ⟨b1, b2, b3, b4, b5, b6, b7, b8, b9, b10⟩ := τ
    simp only [w_95_134, w_95_135, w_95_136, w_95_137, ly_25 as1.1, fit_bI]
    refine r_goOn as1 wf1 hp1 hc (fun e => ?_) (fun h' w e x' as' => ?_)
    · simp only [w_95_140, Option.toList, List.cons_append, List.nil_append]
      exact hN h1' e x1
    · simp only [w_95_140, Option.toList, List.cons_append, List.nil_append]
      exact hS h' w e (AX_tr x1 x') as'
  simp only [w_95_125, w_95_126, w_95_127, z4]
  by_cases q6 : due < 4
  · have hs1 : sd = 1 := by
      by_cases z : sd = 1
      · exact z
      · exact absurd ⟨q6, z⟩ q4
    have hcp := h9 (by omega) (by omega) hs1
    have w4 : WF 4 (aEC (stk, an, o, qn, sd, cp, ad, gs, en, ss)) := by
      rw [aEC]
      exact aET_WF hs1 h2 h3 h4 (by decide) h6
    have pe := aEC_WF (stk := stk) (an := an) (o := o) (qn := qn) (sd := sd) (ad := ad) (gs := gs) (en := en) (ss := ss) hcp
    simp only [show ¬ 4 ≤ due by omega, if_false, w_95_130, w_95_131, ly_25 hL]
    refine r_endCmp a (by omega) hcp h2 h3 h4 (by omega) (fun h1 x1 as1 => ?_)
    simp only [Option.toList, List.nil_append]
    exact go h1 _ x1 as1 w4 (by omega) (by rw [if_pos q6])
  · have e4 : due = 4 := by omega
    simp only [show 4 ≤ due by omega, if_true]
    rw [e4] at wf
    exact go h _ AX_rf a wf hp (by rw [if_neg q6])
end Step3K
