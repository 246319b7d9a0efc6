/-! The reference's read. -/
theorem step_sd {due c : Nat} {σ : AU} {due' : Nat} {σ' : AU} (h : σ.2.2.2.2.1 ≠ 2) (e : aStep false due c σ = some (due', σ')) : σ'.2.2.2.2.1 ≠ 2 := by
  obtain ⟨stk, an, o, qn, sd, cp, ad, gs, en, ss⟩ := σ
  have h' : sd ≠ 2 := h
  have hap : ∀ (cd : List Nat) (τ : AU), (aAp cd τ).2.2.2.2.1 = τ.2.2.2.2.1 := fun cd τ => by
    obtain ⟨b1, b2, b3, b4, b5, b6, b7, b8, b9, b10⟩ := τ
    unfold aAp
    by_cases z : b5 = 2 <;> simp [z]
  have hgo : ∀ τ : AU, τ.2.2.2.2.1 ≠ 2 → ∀ w, aGO false c τ = some w → w.2.2.2.2.2.1 ≠ 2 := fun τ hτ w ew => by
    obtain ⟨b1, b2, b3, b4, b5, b6, b7, b8, b9, b10⟩ := τ
    unfold aGO at ew
    dsimp only at ew hτ
    by_cases c38 : c = 38
    · rw [if_pos c38] at ew; cases ew; exact hτ
    rw [if_neg c38] at ew
    by_cases c124 : c = 124
    · rw [if_pos c124] at ew; cases ew; exact hτ
    rw [if_neg c124] at ew
    by_cases c41 : c = 41
    · rw [if_pos c41] at ew
      cases b1 with
      | nil => cases ew
      | cons w' st => cases ew; exact hτ
    rw [if_neg c41, if_neg (fun z => by cases z.2)] at ew
    cases ew
  unfold aStep at e
  by_cases hd : due < 2
  · rw [if_pos hd, aSt] at e
    split at e
    · cases e
      rw [hap]
      dsimp only
      split <;> omega
    · split at e
      · rw [aBg] at e
        split at e
        · cases e
        · split at e
          · cases e; exact h'
          · split at e
            · cases e; exact h'
            · cases e; exact h'
      · cases e
  · rw [if_neg hd, aFo] at e
    split at e
    · cases e; exact h'
    · split at e
      · cases e
        rw [hap]; exact h'
      · split at e
        · cases e; exact (by decide : (1 : Nat) ≠ 2)
        · split at e
          · cases e
          · split at e
            · cases e
            · refine hgo _ ?_ _ e
              split
              · exact h'
              · exact h'
section ReadAllK
variable {L : Nat} {xs : Nat → Int32} {d : Nat} {Q : Option Value × MH → Prop} {h : MH}
theorem AX_9 {h' : MH} (x : AX h h') : mj_i h' 25 9 = mj_i h 25 9 := x.2.1 9 (by decide) (by decide)
theorem r_read {rule : Bool} {ty : Nat} {tx : Nat → Nat} (hL : Lay h) (h9 : mj_i h 25 9 = nI ty) (h48 : ty ≤ 48) (htx : ∀ i, i < ty → mj_i h 28 i = nI (tx i) ∧ 32 ≤ tx i ∧ tx i ≤ 126)
    (hF : ∀ h' f, aR (tzF ty tx) ty rule 0 0 ([], false, false, 0, 0, 0, 0, [], (fun i => mj_i h 30 (336 + i)), []) = .inl f → f ≤ ty → AX h h' → Q (some (.int (nI f)), h'))
    (hR : ∀ h' σ, aR (tzF ty tx) ty rule 0 0 ([], false, false, 0, 0, 0, 0, [], (fun i => mj_i h 30 (336 + i)), []) = .inr σ → AX h h' → AS h' σ → pot σ ≤ 48 → Q (some (.int (-1)), h')) : mj_Wp L xs (d + 1 + 1 + 1 + 1) 90 0 [some (.ref 25), some (.int (bI rule)), none, none] [] h Q := by
  have n10 : ¬ nI 1 = nI 0 := by decide
  obtain ⟨σ0, hσ0⟩ : ∃ σ0 : AU, σ0 = ([], false, false, 0, 0, 0, 0, [], (fun i => mj_i h 30 (336 + i)), []) := ⟨_, rfl⟩
  rw [← hσ0] at hF hR
  have lp : ∀ (m i due : Nat) (σ : AU) (h1 : MH), i + m = ty → AX h h1 → AS h1 σ → WF due σ → pot σ ≤ i → (rule = false → σ.2.2.2.2.1 ≠ 2) → aR (tzF ty tx) ty rule 0 0 σ0 = aR (tzF ty tx) ty rule i due σ → mj_Wp L xs (d + 1 + 1 + 1 + 1) 90 55 [some (.ref 25), some (.int (bI rule)), some (.int (nI due)), some (.int (nI i))] [] h1 Q := by
    intro m
    induction m with
    | zero =>
      intro i due σ h1 hi x1 as1 wf hp hsd2 he
      have hi : i = ty := by omega
      obtain ⟨stk, an, o, qn, sd, cp, ad, gs, en, ss⟩ := σ
      obtain ⟨w1, w2, w3, w4, w5, w6, w7, w8, w9, w10⟩ := id wf
      have hsd2' : rule = false → sd ≠ 2 := hsd2
      have hpe : pot (stk, an, o, qn, sd, cp, ad, gs, en, ss) = gs.length + ss.length + nz ad + nz cp + b2n an + b2n o + potS stk := rfl
      have hL1 := as1.1
      have t9 : mj_i h1 25 9 = nI ty := by rw [AX_9 x1]; exact h9
      have t25 : mj_i h1 25 25 = nI sd := as1.2.2.2.2.2.2.1
      rw [hi, aR_ge (Nat.le_refl _), aFin] at he
      have zd2 : (nI 2 ≤ nI due) = (2 ≤ due) := by rw [nI_leI (by omega) (by omega)]
      have zd4 : (nI 4 ≤ nI due) = (4 ≤ due) := by rw [nI_leI (by omega) (by omega)]
      have zs2 : (nI sd = nI 2) = (sd = 2) := by rw [nI_eq (by omega) (by omega)]
      have zs0 : (nI sd = nI 0) = (sd = 0) := by rw [nI_eq (by omega) (by omega)]
      rw [w_90_55]
      simp only [w_90_56, w_90_57, w_90_60, ly_25 hL1, t9, hi, nI_leI (show ty < 2 ^ 31 by omega) (show ty < 2 ^ 31 by omega), Nat.le_refl, if_true, w_90_115, w_90_116, w_90_117, w_90_120, w_90_121, w_90_124, w_90_125, w_90_126, zd2]
      by_cases hd : due < 2
      · rw [if_pos hd] at he
        simp only [show ¬ 2 ≤ due by omega, if_false]
        exact hF h1 ty he (Nat.le_refl _) x1
      rw [if_neg hd] at he
      simp only [show 2 ≤ due by omega, if_true]
      cases rule with
      | true =>
        rw [if_pos rfl] at he
        simp only [bI_1, n10, if_false, w_90_129, w_90_130, w_90_133, w_90_134, w_90_137, w_90_138, w_90_141, w_90_142, w_90_145, ly_25 hL1, t25, t9, zs2]
        by_cases h2 : sd = 2
        · rw [if_pos h2] at he
          simp only [h2, not_true_eq_false, if_false]
          exact hR h1 _ he x1 as1 (by omega)
        · rw [if_neg h2] at he
          simp only [h2, not_false_eq_true, if_true]
          exact hF h1 ty he (Nat.le_refl _) x1
      | false =>
        rw [if_neg (by decide)] at he
        simp only [bI_0, if_true, w_90_146, w_90_147, w_90_148, w_90_151, w_90_152, w_90_155, w_90_158, w_90_159, w_90_162, w_90_163, w_90_164, w_90_165, ly_25 hL1, t25, t9, zd4, zs0]
        -- the end, behind the closing
        have fin : ∀ (h2 : MH) (τ : AU), AX h h2 → AS h2 τ → pot τ ≤ 48 → τ.2.2.2.2.1 = 1 → τ.1.length ≤ 8 → aR (tzF ty tx) ty false 0 0 σ0 = aEnd ty τ → mj_Wp L xs (d + 1 + 1 + 1 + 1) 90 172 [some (.ref 25), some (.int (nI 0)), some (.int (nI due)), some (.int (nI ty))] [] h2 Q := by
          intro h2 τ x2 as2 hp2 hs hl8 he2
          obtain ⟨b1, b2, b3, b4, b5, b6, b7, b8, b9, b10⟩ := τ
          have hs' : b5 = 1 := hs
          have hpe2 : pot (b1, b2, b3, b4, b5, b6, b7, b8, b9, b10) = b8.length + b10.length + nz b7 + nz b6 + b2n b2 + b2n b3 + potS b1 := rfl
          rw [aEnd] at he2
          simp only [w_90_172, w_90_173, ly_25 as2.1]
          refine r_endBoth as2 (by omega) (by omega) (fun h3 x3 as3 => ?_)
          have u17 : mj_i h3 25 17 = nI b1.length := as3.2.1
          have u9 : mj_i h3 25 9 = nI ty := by rw [AX_9 (AX_tr x2 x3)]; exact h9
          simp only [w_90_176, w_90_177, w_90_180, w_90_183, w_90_184, w_90_187, w_90_190, w_90_191, Option.toList, List.nil_append, ly_25 as3.1, u17, u9]
          cases b1 with
          | nil =>
            rw [if_pos (by simp [aEB])] at he2
            simp only [List.length_nil, Int32.le_refl, if_true]
            refine hR h3 _ he2 (AX_tr x2 x3) as3 ?_
            rw [aEB, pot, orL_len]
            have : b2n false = 0 := rfl
            omega
          | cons w st =>
            rw [if_neg (by simp [aEB])] at he2
            have hl8' : (w :: st).length ≤ 8 := hl8
            have hbig : ¬ nI (w :: st).length ≤ nI 0 := by
              rw [nI_leI (by omega) (by omega), List.length_cons]; omega
            simp only [hbig, if_false]
            exact hF h3 ty he2 (Nat.le_refl _) (AX_tr x2 x3)
        have hs2 := hsd2' rfl
        by_cases h4 : due < 4
        · by_cases h0 : sd = 0
          · rw [if_pos ⟨h4, h0⟩] at he
            simp only [show ¬ 4 ≤ due by omega, h0, not_true_eq_false, if_false]
            exact hF h1 ty he (Nat.le_refl _) x1
          · rw [if_neg (fun z => h0 z.2), if_pos h4] at he
            have hs1 : sd = 1 := by omega
            have hcp := w9 (by omega) (by omega) hs1
            have pe := aEC_WF (stk := stk) (an := an) (o := o) (qn := qn) (sd := sd) (ad := ad) (gs := gs) (en := en) (ss := ss) hcp
            simp only [show ¬ 4 ≤ due by omega, h0, not_false_eq_true, if_true, if_false, w_90_168, w_90_169, ly_25 hL1]
            refine r_endCmp as1 (by omega) hcp w2 w3 w4 (by omega) (fun h2 x2 as2 => ?_)
            simp only [Option.toList, List.nil_append]
            exact fin h2 _ (AX_tr x1 x2) as2 (by omega) hs1 (by rw [aEC, aET]; exact Nat.le_trans (popT_pot _ _ _ _).2.1 w2) he
        · rw [if_neg (fun z => h4 z.1), if_neg h4] at he
          have e4 : due = 4 := by omega
          simp only [show 4 ≤ due by omega, if_true]
          exact fin h1 _ x1 as1 (by omega) (w7 e4).1 w2 he
    | succ m ih =>
      intro i due σ h1 hi x1 as1 wf hp hsd2 he
      have hi' : i < ty := by omega
      obtain ⟨y1, y2, y3⟩ := htx i hi'
      have ett : tzF ty tx i = tx i := if_pos hi'
      have hL1 := as1.1
      have t9 : mj_i h1 25 9 = nI ty := by rw [AX_9 x1]; exact h9
      have t28 : mj_i h1 28 i = nI (tx i) := by rw [sx_i x1.1 (by decide)]; exact y1
      have e0 : ¬ ty ≤ i := by omega
      have e1 : mj_in (nI i) 48 = true := mj_in_nI (by omega) (by omega)
      have e2 : (nI i).toNatClampNeg = i := nI_clamp (by omega)
      have hdue : due ≤ 4 := by
        obtain ⟨stk, an, o, qn, sd, cp, ad, gs, en, ss⟩ := σ
        exact wf.2.2.2.2.2.2.2.2.2
      have zd2 : (nI 2 ≤ nI due) = (2 ≤ due) := by rw [nI_leI (by omega) (by omega)]
      have zd0 : (nI due = nI 0) = (due = 0) := by rw [nI_eq (by omega) (by omega)]
      rw [aR_lt hi', ett] at he
      -- a fault, and a good step
      have flt : ∀ (h2 : MH), AX h h2 → aStep rule due (tx i) σ = none → mj_Wp L xs (d + 1 + 1 + 1 + 1) 90 102 [some (.ref 25), some (.int (bI rule)), some (.int (nI due)), some (.int (nI i))] [.int (-1)] h2 Q := by
        intro h2 x2 e
        rw [e] at he
        simp only [w_90_102, w_90_103, w_90_104, w_90_107, w_90_108, show ¬ nI 0 ≤ (-1 : Int32) by decide, if_false]
        exact hF h2 i he (by omega) x2
      have goo : ∀ (h2 : MH) (w : Nat × AU), AX h h2 → AS h2 w.2 → aStep rule due (tx i) σ = some w → mj_Wp L xs (d + 1 + 1 + 1 + 1) 90 102 [some (.ref 25), some (.int (bI rule)), some (.int (nI due)), some (.int (nI i))] [.int (nI w.1)] h2 Q := by
        intro h2 w x2 as2 e
        rw [e] at he
        obtain ⟨due', σ'⟩ := w
        obtain ⟨wf', hp'⟩ := step_WF wf (by omega) (by omega) e
        have hd' : due' ≤ 4 := by
          obtain ⟨stk, an, o, qn, sd, cp, ad, gs, en, ss⟩ := σ'
          exact wf'.2.2.2.2.2.2.2.2.2
        have hge : nI 0 ≤ nI due' := (nI_leI (by omega) (by omega)).mpr (Nat.zero_le _)
        simp only [w_90_102, w_90_103, w_90_104, w_90_107, w_90_108, w_90_109, w_90_112, hge, if_true, nI_add]
        refine ih (i + 1) due' σ' h2 (by omega) x2 as2 wf' (by omega) (fun hr => ?_) he
        rw [hr] at e
        exact step_sd (hsd2 hr) e
      rw [w_90_55]
      simp only [w_90_56, w_90_57, w_90_60, w_90_63, w_90_64, w_90_65, ly_25 hL1, t9, nI_leI (show ty < 2 ^ 31 by omega) (show i < 2 ^ 31 by omega), e0, if_false, zd2]
      obtain ⟨stk, an, o, qn, sd, cp, ad, gs, en, ss⟩ := σ
      by_cases hd : due < 2
      · have est : aStep rule due (tx i) (stk, an, o, qn, sd, cp, ad, gs, en, ss) = aSt due (tx i) (stk, an, o, qn, sd, cp, ad, gs, en, ss) := by rw [aStep, if_pos hd]
        have key : mj_Wp L xs (d + 1 + 1 + 1 + 1) 90 84 [some (.ref 25), some (.int (bI rule)), some (.int (nI due)), some (.int (nI i))] [.int (bI (decide (due = 0))), .int (nI (tx i)), .ref 25] h1 Q := by
          simp only [w_90_84, ly_25 hL1, fit_bI]
          refine r_start (d := d + 1) as1 wf (by omega) hd (by omega) (fun h2 e x2 => ?_) (fun h2 w e x2 as2 => ?_)
          · simp only [w_90_87, Option.toList, List.cons_append, List.nil_append]
            exact flt h2 (AX_tr x1 x2) (est.trans e)
          · simp only [w_90_87, Option.toList, List.cons_append, List.nil_append]
            exact goo h2 w (AX_tr x1 x2) as2 (est.trans e)
        simp only [show ¬ 2 ≤ due by omega, if_false, w_90_68, w_90_69, w_90_70, w_90_73, w_90_74, w_90_75, w_90_76, w_90_79, w_90_80, w_90_83, ly_25 hL1, lr_25_10 hL1, lk_28 hL1, ln_28 hL1, mj_rv_some, e1, e2, t28, zd0]
        by_cases hd0 : due = 0
        · rw [decide_eq_true hd0, bI_1] at key
          simp only [hd0, not_true_eq_false, if_false]
          rw [hd0] at key
          exact key
        · rw [decide_eq_false hd0, bI_0] at key
          simp only [hd0, not_false_eq_true, if_true]
          exact key
      · have est : aStep rule due (tx i) (stk, an, o, qn, sd, cp, ad, gs, en, ss) = aFo rule due (tx i) (stk, an, o, qn, sd, cp, ad, gs, en, ss) := by rw [aStep, if_neg hd]
        simp only [show 2 ≤ due by omega, if_true, w_90_90, w_90_91, w_90_92, w_90_95, w_90_96, w_90_97, w_90_98, w_90_99, ly_25 hL1, lr_25_10 hL1, lk_28 hL1, ln_28 hL1, mj_rv_some, e1, e2, t28, fit_bI]
        refine r_follow as1 wf (by omega) (by omega) (by omega) (fun h2 e x2 => ?_) (fun h2 w e x2 as2 => ?_)
        · simp only [Option.toList, List.cons_append, List.nil_append]
          exact flt h2 (AX_tr x1 x2) (est.trans e)
        · simp only [Option.toList, List.cons_append, List.nil_append]
          exact goo h2 w (AX_tr x1 x2) as2 (est.trans e)
  obtain ⟨h1, hh1⟩ : ∃ h1, h1 = mj_wi (mj_wi (mj_wi (mj_wi (mj_wi (mj_wi (mj_wi (mj_wi (mj_wi h 25 17 (nI 0)) 25 22 (nI 0)) 25 23 (nI 0)) 25 24 (nI 0)) 25 25 (nI 0)) 25 26 (nI 0)) 25 27 (nI 0)) 31 7 (nI 0)) 33 7 (nI 0) := ⟨_, rfl⟩
  have x1 : AX h h1 := by
    rw [hh1]
    exact AX_tr (AX_tr (AX_tr (AX_tr (AX_tr (AX_tr (AX_tr (AX_tr (AX_25 (by omega)) (AX_25 (by omega))) (AX_25 (by omega))) (AX_25 (by omega))) (AX_25 (by omega))) (AX_25 (by omega))) (AX_25 (by omega))) (AX_7 (by omega))) (AX_7 (by omega))
  have as1 : AS h1 σ0 := by
    rw [hσ0, hh1]
    refine ⟨Lay_wi.mpr (Lay_wi.mpr (Lay_wi.mpr (Lay_wi.mpr (Lay_wi.mpr (Lay_wi.mpr (Lay_wi.mpr (Lay_wi.mpr (Lay_wi.mpr hL)))))))), by simp [mj_i_wi], trivial, by simp [mj_i_wi, bI], by simp [mj_i_wi, bI], by simp [mj_i_wi], by simp [mj_i_wi], by simp [mj_i_wi], by simp [mj_i_wi], by simp [mj_i_wi], trivial, fun i => by simp [mj_i_wi], by simp [mj_i_wi], trivial⟩
  simp only [w_90_0, w_90_1, w_90_2, w_90_5, w_90_6, w_90_7, w_90_10, w_90_11, w_90_12, w_90_15, w_90_16, w_90_17, w_90_20, w_90_21, w_90_22, w_90_25, w_90_26, w_90_27, w_90_30, w_90_31, w_90_32, w_90_35, w_90_36, w_90_39, w_90_41, w_90_42, w_90_43, w_90_44, w_90_47, w_90_49, w_90_50, w_90_51, w_90_52, w_90_53, w_90_54, ly_25 hL, lr_25_14 hL, lr_25_16 hL, lk_31 hL, ln_31 hL, lk_33 hL, ln_33 hL, mj_rv_some, mj_is_wi, mj_ik_wi, mj_ln_wi, mj_r_wi, mj_fit_n0, show mj_in (nI 7) 8 = true by decide, show (nI 7).toNatClampNeg = 7 by decide, ← hh1]
  refine lp ty 0 0 σ0 h1 (by omega) x1 as1 ?_ ?_ (fun _ => ?_) rfl
  · rw [hσ0]
    exact ⟨by decide, by decide, rfl, fun w hw => (by cases hw), by decide, by decide, fun z => (by cases z), fun _ => by decide, fun z => absurd rfl z, by decide⟩
  · rw [hσ0]; exact Nat.le_refl _
  · rw [hσ0]; exact (by decide : (0 : Nat) ≠ 2)
end ReadAllK
