/-! The reference's reading: begins, start, goOn, follow. -/
section Step2K
variable {L : Nat} {xs : Nat → Int32} {d : Nat} {Q : Option Value × MH → Prop} {h : MH} {stk : List SE4} {an o : Bool} {qn sd cp ad : Nat} {gs : List Nat} {en : Nat → Int32} {ss : List Nat}
theorem AS_push {w : SE4} (a : AS h (stk, an, o, qn, sd, cp, ad, gs, en, ss)) (h1 : mj_i h 34 stk.length = nI w.1) (h2 : mj_i h 35 stk.length = bI w.2.1) (h3 : mj_i h 36 stk.length = bI w.2.2.1) (h4 : mj_i h 37 stk.length = nI w.2.2.2) : AS (mj_wi h 25 17 (nI (stk.length + 1))) (w :: stk, an, o, qn, sd, cp, ad, gs, en, ss) := by
  obtain ⟨hL, a1, a2, a3, a4, a5, a6, a7, a8, a9, a10, a11, a12, a13⟩ := id a
  have r2 : ∀ b j, ¬ (b = 25 ∧ j = 17) → mj_i (mj_wi h 25 17 (nI (stk.length + 1))) b j = mj_i h b j := fun b j hb => by rw [mj_i_wi, if_neg hb]
  exact ⟨Lay_wi.mpr hL, by rw [List.length_cons]; simp [mj_i_wi], ⟨⟨by rw [r2 _ _ (by omega)]; exact h1, by rw [r2 _ _ (by omega)]; exact h2, by rw [r2 _ _ (by omega)]; exact h3, by rw [r2 _ _ (by omega)]; exact h4⟩, skO_cong _ (fun i _ => ⟨r2 _ _ (by omega), r2 _ _ (by omega), r2 _ _ (by omega), r2 _ _ (by omega)⟩) a2⟩, by rw [r2 _ _ (by omega)]; exact a3, by rw [r2 _ _ (by omega)]; exact a4, by rw [r2 _ _ (by omega)]; exact a5, by rw [r2 _ _ (by omega)]; exact a6, by rw [r2 _ _ (by omega)]; exact a7, by rw [r2 _ _ (by omega)]; exact a8, by rw [r2 _ _ (by omega)]; exact a9, cdA_cong _ _ (fun i _ _ => r2 _ _ (by omega)) a10, fun i => by rw [r2 _ _ (by omega)]; exact a11 i, by rw [r2 _ _ (by omega)]; exact a12, cdA_cong _ _ (fun i _ _ => r2 _ _ (by omega)) a13⟩
theorem r_begins {c : Nat} (a : AS h (stk, an, o, qn, sd, cp, ad, gs, en, ss)) (hc : c < 127) (hl : stk.length ≤ 8) (hq : qn ≤ 8) (hsd : sd < 2) (hg : gs.length < 48)
    (hN : aBg c (stk, an, o, qn, sd, cp, ad, gs, en, ss) = none → Q (some (.int (nI 0)), h))
    (hS : ∀ h' σ', aBg c (stk, an, o, qn, sd, cp, ad, gs, en, ss) = some (0, σ') → AX h h' → AS h' σ' → Q (some (.int (nI 1)), h')) : mj_Wp L xs (d + 1) 94 0 [some (.ref 25), some (.int (nI c)), none] [] h Q := by
  have n10 : ¬ nI 1 = nI 0 := by decide
  obtain ⟨hL, a1, a2, a3, a4, a5, a6, a7, a8, a9, a10, a11, a12, a13⟩ := id a
  have zc : ∀ j, j < 127 → (nI c = nI j) = (c = j) := fun j hj => by rw [nI_eq (by omega) (by omega)]
  have z8 : (nI stk.length = nI 8) = (stk.length = 8) := by rw [nI_eq (by omega) (by omega)]
  rw [aBg] at hN hS
  -- the flag
  have fl : mj_Wp L xs (d + 1) 94 18 [some (.ref 25), some (.int (nI c)), some (.int (bI (decide (c = 65 ∨ c = 69))))] [] h Q → mj_Wp L xs (d + 1) 94 0 [some (.ref 25), some (.int (nI c)), none] [] h Q := by
    intro hx
    simp only [w_94_0, w_94_1, w_94_3, w_94_6, w_94_7, w_94_9, w_94_12, w_94_13, w_94_16, w_94_17, zc 65 (by decide), zc 69 (by decide)]
    by_cases k1 : c = 65
    · simp only [k1, if_true]
      rw [k1] at hx
      exact hx
    · by_cases k2 : c = 69
      · simp only [k2, not_true_eq_false, if_false, show ¬ (69 = 65) by decide]
        rw [k2] at hx
        exact hx
      · simp only [k1, k2, not_false_eq_true, if_true, if_false]
        rw [decide_eq_false (by omega)] at hx
        exact hx
  refine fl ?_
  by_cases hb : stk.length = 8 ∨ (c ≠ 33 ∧ c ≠ 40 ∧ (¬ (c = 65 ∨ c = 69) ∨ 0 < qn))
  · have fin := hN (if_pos hb)
    simp only [w_94_18, w_94_19, w_94_22, w_94_24, w_94_27, w_94_28, w_94_30, w_94_33, w_94_34, w_94_36, w_94_39, w_94_40, w_94_43, w_94_44, w_94_47, w_94_50, w_94_51, ly_25 hL, a1, a5, z8, zc 33 (by decide), zc 40 (by decide), nI_leI (show qn < 2 ^ 31 by omega) (show 0 < 2 ^ 31 by decide), mj_fit_n0]
    by_cases k8 : stk.length = 8
    · simp only [k8, if_true]; exact fin
    · obtain ⟨k1, k2, k3⟩ : c ≠ 33 ∧ c ≠ 40 ∧ (¬ (c = 65 ∨ c = 69) ∨ 0 < qn) := by omega
      simp only [k8, k1, k2, if_false]
      by_cases k4 : c = 65 ∨ c = 69
      · have k5 : 0 < qn := by omega
        simp only [decide_eq_true k4, bI_1, n10, if_false, show ¬ qn ≤ 0 by omega]; exact fin
      · simp only [decide_eq_false k4, bI_0, if_true]; exact fin
  · rw [if_neg hb] at hS
    have k8 : ¬ stk.length = 8 := fun z => hb (Or.inl z)
    have e1 : mj_in (nI stk.length) 8 = true := mj_in_nI (by omega) (by omega)
    have e2 : (nI stk.length).toNatClampNeg = stk.length := nI_clamp (by omega)
    obtain ⟨h4, hh4⟩ : ∃ h4, h4 = mj_wi (mj_wi (mj_wi (mj_wi h 34 stk.length (nI c)) 35 stk.length (bI an)) 36 stk.length (bI o)) 37 stk.length (nI gs.length) := ⟨_, rfl⟩
    have x4 : AX h h4 := by rw [hh4]; exact AX_tr (AX_tr (AX_tr (AX_o (by omega)) (AX_o (by omega))) (AX_o (by omega))) (AX_o (by omega))
    have r4 : ∀ b j, ¬ ((b = 34 ∨ b = 35 ∨ b = 36 ∨ b = 37) ∧ j = stk.length) → mj_i h4 b j = mj_i h b j := fun b j hb => by
      rw [hh4, mj_i_wi, if_neg (by omega), mj_i_wi, if_neg (by omega), mj_i_wi, if_neg (by omega), mj_i_wi, if_neg (by omega)]
    have as4 : AS h4 (stk, an, o, qn, sd, cp, ad, gs, en, ss) := ⟨sx_Lay x4.1 hL, by rw [r4 _ _ (by omega)]; exact a1, skO_cong _ (fun i hi => ⟨r4 _ _ (by omega), r4 _ _ (by omega), r4 _ _ (by omega), r4 _ _ (by omega)⟩) a2, by rw [r4 _ _ (by omega)]; exact a3, by rw [r4 _ _ (by omega)]; exact a4, by rw [r4 _ _ (by omega)]; exact a5, by rw [r4 _ _ (by omega)]; exact a6, by rw [r4 _ _ (by omega)]; exact a7, by rw [r4 _ _ (by omega)]; exact a8, by rw [r4 _ _ (by omega)]; exact a9, cdA_cong _ _ (fun i _ _ => r4 _ _ (by omega)) a10, fun i => by rw [r4 _ _ (by omega)]; exact a11 i, by rw [r4 _ _ (by omega)]; exact a12, cdA_cong _ _ (fun i _ _ => r4 _ _ (by omega)) a13⟩
    have s34 : mj_i h4 34 stk.length = nI c := by rw [hh4]; simp [mj_i_wi]
    have s35 : mj_i h4 35 stk.length = bI an := by rw [hh4]; simp [mj_i_wi]
    have s36 : mj_i h4 36 stk.length = bI o := by rw [hh4]; simp [mj_i_wi]
    have s37 : mj_i h4 37 stk.length = nI gs.length := by rw [hh4]; simp [mj_i_wi]
    have hL4 := as4.1
    have p0 : ∀ (Z : Option Value), mj_Wp L xs (d + 1) 94 104 [some (.ref 25), some (.int (nI c)), Z] [] h4 Q → mj_Wp L xs (d + 1) 94 52 [some (.ref 25), some (.int (nI c)), Z] [] h Q := by
      intro Z hx
      simp only [w_94_52, w_94_53, w_94_56, w_94_57, w_94_60, w_94_61, w_94_62, w_94_63, w_94_66, w_94_67, w_94_70, w_94_71, w_94_74, w_94_75, w_94_76, w_94_79, w_94_80, w_94_83, w_94_84, w_94_87, w_94_88, w_94_89, w_94_92, w_94_93, w_94_96, w_94_97, w_94_100, w_94_102, w_94_103, ly_25 hL, lr_25_14 hL, lr_25_18 hL, lr_25_19 hL, lr_25_20 hL, lr_25_21 hL, lk_31 hL, ln_31 hL, lk_34 hL, ln_34 hL, lk_35 hL, ln_35 hL, lk_36 hL, ln_36 hL, lk_37 hL, ln_37 hL, mj_rv_some, mj_is_wi, mj_ik_wi, mj_ln_wi, mj_r_wi, mj_i_ne (show 25 ≠ 34 by decide), mj_i_ne (show 25 ≠ 35 by decide), mj_i_ne (show 25 ≠ 36 by decide), mj_i_ne (show 31 ≠ 34 by decide), mj_i_ne (show 31 ≠ 35 by decide), mj_i_ne (show 31 ≠ 36 by decide), a1, a3, a4, a9, e1, e2, nar_bI, show mj_in (nI 7) 8 = true by decide, show (nI 7).toNatClampNeg = 7 by decide, ← hh4]
      exact hx
    -- the last words: open grows
    have up : ∀ (h5 : MH) (Z : Option Value) (an' o' : Bool) (qn' : Nat) (gs' : List Nat), AX h h5 → AS h5 (stk, an', o', qn', sd, cp, ad, gs', en, ss) → (∀ b, b = 34 ∨ b = 35 ∨ b = 36 ∨ b = 37 → mj_i h5 b stk.length = mj_i h4 b stk.length) → (∀ h', AX h h' → AS h' ((c, an, o, gs.length) :: stk, an', o', qn', sd, cp, ad, gs', en, ss) → Q (some (.int (nI 1)), h')) → mj_Wp L xs (d + 1) 94 139 [some (.ref 25), some (.int (nI c)), Z] [] h5 Q := by
      intro h5 Z an' o' qn' gs' x5 as5 e5 hK
      have t17 : mj_i h5 25 17 = nI stk.length := as5.2.1
      simp only [w_94_139, w_94_140, w_94_141, w_94_144, w_94_145, w_94_146, w_94_149, w_94_150, ly_25 as5.1, t17, nI_add, mj_fit_n1]
      exact hK _ (AX_tr x5 (AX_25 (by omega))) (AS_push as5 (by rw [e5 34 (by omega)]; exact s34) (by rw [e5 35 (by omega)]; exact s35) (by rw [e5 36 (by omega)]; exact s36) (by rw [e5 37 (by omega)]; exact s37))
    simp only [w_94_18, w_94_19, w_94_22, w_94_24, w_94_27, w_94_28, w_94_30, w_94_33, w_94_34, w_94_36, w_94_39, w_94_40, w_94_43, w_94_44, w_94_47, ly_25 hL, a1, a5, z8, zc 33 (by decide), zc 40 (by decide), nI_leI (show qn < 2 ^ 31 by omega) (show 0 < 2 ^ 31 by decide), k8, if_false]
    by_cases c33 : c = 33
    · rw [if_pos c33] at hS
      simp only [c33, if_true]
      rw [← c33]
      refine p0 _ ?_
      rw [decide_eq_false (by omega), bI_0]
      simp only [w_94_104, w_94_105, w_94_107, zc 40 (by decide), show ¬ c = 40 by omega, not_false_eq_true, if_true, w_94_120, w_94_121]
      exact up h4 _ an o qn gs x4 as4 (fun _ _ => rfl) (fun h' x' as' => hS h' _ rfl x' as')
    · rw [if_neg c33] at hS
      simp only [c33, if_false]
      by_cases c40 : c = 40
      · rw [if_pos c40] at hS
        simp only [c40, if_true]
        rw [← c40]
        refine p0 _ ?_
        rw [decide_eq_false (by omega), bI_0]
        simp only [w_94_104, w_94_105, w_94_107, w_94_110, w_94_111, w_94_112, w_94_115, w_94_116, w_94_117, w_94_120, w_94_121, zc 40 (by decide), c40, not_true_eq_false, if_false, ly_25 hL4, mj_is_wi, mj_fit_n0, if_true]
        rw [← c40]
        refine up _ _ false false qn gs (AX_tr x4 (AX_tr (AX_25 (by omega)) (AX_25 (by omega)))) (AS_w (AS_w (an' := false) (o' := o) (qn' := qn) (sd' := sd) (cp' := cp) (ad' := ad) as4 (by decide) (by simp [bI]) (by simp) (by simp) (by simp) (by simp) (by simp)) (by decide) (by simp) (by simp [bI]) (by simp) (by simp) (by simp) (by simp)) (fun b hb => by rw [mj_i_ne (by omega), mj_i_ne (by omega)]) (fun h' x' as' => hS h' _ rfl x' as')
      · rw [if_neg c40] at hS
        have k4 : c = 65 ∨ c = 69 := by omega
        have k5 : qn ≤ 0 := by omega
        rw [decide_eq_true k4, bI_1]
        simp only [c40, n10, k5, if_true, if_false]
        refine p0 _ ?_
        simp only [w_94_104, w_94_105, w_94_107, zc 40 (by decide), c40, not_false_eq_true, if_true, w_94_120, w_94_121, w_94_124, w_94_125, w_94_126, n10, if_false, ly_25 hL4, r_sign0 as4 hsd hg]
        obtain ⟨h5, hh5⟩ : ∃ h5, h5 = mj_wi (mj_wi h4 29 (336 + gs.length) (nI c)) 31 7 (nI (gs.length + 1)) := ⟨_, rfl⟩
        obtain ⟨as5, x5⟩ := AS_sign as4 hh5
        have t24 : mj_i h5 25 24 = nI qn := as5.2.2.2.2.2.1
        simp only [← hh5, w_94_129, w_94_130, w_94_131, w_94_134, w_94_135, w_94_136, Option.toList, List.nil_append, ly_25 as5.1, t24, nI_add]
        refine up _ _ an o (qn + 1) (gs ++ [c]) (AX_tr x4 (AX_tr x5 (AX_25 (by omega)))) (AS_w as5 (by decide) (by simp) (by simp) (by simp) (by simp) (by simp) (by simp)) (fun b hb => by rw [mj_i_ne (by omega), hh5, mj_i_ne (by omega), mj_i_ne (by omega)]) (fun h' x' as' => hS h' _ rfl x' as')
theorem r_start {due c : Nat} (a : AS h (stk, an, o, qn, sd, cp, ad, gs, en, ss)) (wf : WF due (stk, an, o, qn, sd, cp, ad, gs, en, ss)) (hp : pot (stk, an, o, qn, sd, cp, ad, gs, en, ss) ≤ 47) (hd : due < 2) (hc : c < 127)
    (hN : ∀ h', aSt due c (stk, an, o, qn, sd, cp, ad, gs, en, ss) = none → AX h h' → Q (some (.int (-1)), h'))
    (hS : ∀ h' w, aSt due c (stk, an, o, qn, sd, cp, ad, gs, en, ss) = some w → AX h h' → AS h' w.2 → Q (some (.int (nI w.1)), h')) : mj_Wp L xs (d + 1 + 1) 91 0 [some (.ref 25), some (.int (nI c)), some (.int (bI (decide (due = 0))))] [] h Q := by
  have n10 : ¬ nI 1 = nI 0 := by decide
  obtain ⟨h1, h2, h3, h4, h5, h6, h7, h8, h9, h10⟩ := id wf
  have hq8 := qC_le stk
  have hpe : pot (stk, an, o, qn, sd, cp, ad, gs, en, ss) = gs.length + ss.length + nz ad + nz cp + b2n an + b2n o + potS stk := rfl
  have hL := a.1
  rw [aSt] at hN hS
  simp only [w_91_0, w_91_1, w_91_2, ly_25 hL, r_isPart a hc (show qn ≤ 8 by omega) h1, Option.toList, List.cons_append, List.nil_append]
  by_cases hP : isP (decide (0 < qn) && decide (sd ≠ 2)) c = true
  · rw [if_pos hP] at hS
    -- the word, and the one that was owed
    have rest : ∀ (h1 : MH) (Z : Option Value), AX h h1 → AS h1 (stk, an, o, qn, (if due = 0 then 0 else sd), cp, ad, gs, en, ss) → mj_Wp L xs (d + 1 + 1) 91 17 [some (.ref 25), some (.int (nI c)), Z] [] h1 Q := by
      intro h1' Z x1 as1
      have hsd' : (if due = 0 then 0 else sd) ≤ 2 := by split <;> omega
      generalize (if due = 0 then 0 else sd) = sd1 at as1 hS hsd'
      simp only [w_91_17, w_91_18, w_91_19, ly_25 as1.1]
      refine r_sign2 as1 hsd' (by omega) (fun h2 x2 as2 => ?_)
      obtain ⟨gs2, ss2, e2, l2⟩ : ∃ gs2 ss2, aAp [c] (stk, an, o, qn, sd1, cp, ad, gs, en, ss) = (stk, an, o, qn, sd1, cp, ad, gs2, en, ss2) ∧ gs2.length + ss2.length = gs.length + ss.length + 1 := by
        unfold aAp
        by_cases z : sd1 = 2
        · exact ⟨gs, ss ++ [c], by simp [z], by simp; omega⟩
        · exact ⟨gs ++ [c], ss, by simp [z], by simp; omega⟩
      have fin : ∀ (h4 : MH) (cd : List Nat), AX h h4 → cd = adL ad → AS h4 (aAp cd (stk, an, o, qn, sd1, cp, ad, gs2, en, ss2)) → mj_Wp L xs (d + 1 + 1) 91 37 [some (.ref 25), some (.int (nI c)), Z] [] h4 Q := by
        intro h4 cd x4 hcd as4
        obtain ⟨gs3, ss3, e3, e3'⟩ : ∃ gs3 ss3, aAp cd (stk, an, o, qn, sd1, cp, ad, gs2, en, ss2) = (stk, an, o, qn, sd1, cp, ad, gs3, en, ss3) ∧ aAp (c :: adL ad) (stk, an, o, qn, sd1, cp, 0, gs, en, ss) = (stk, an, o, qn, sd1, cp, 0, gs3, en, ss3) := by
          rw [← e2, aAp_app, hcd]
          unfold aAp
          by_cases z : sd1 = 2
          · exact ⟨gs, ss ++ ([c] ++ adL ad), by simp [z], by simp [z]⟩
          · exact ⟨gs ++ ([c] ++ adL ad), ss, by simp [z], by simp [z]⟩
        rw [e3] at as4
        simp only [w_91_37, w_91_38, w_91_39, w_91_42, w_91_43, ly_25 as4.1]
        refine hS _ (2, _) rfl (AX_tr x4 (AX_25 (by omega))) ?_
        dsimp only
        rw [e3']
        exact AS_w as4 (by decide) (by simp) (by simp) (by simp) (by simp) (by simp) (by simp)
      rw [e2] at as2
      have t27 : mj_i h2 25 27 = nI ad := as2.2.2.2.2.2.2.2.2.1
      have z0 : (nI ad = nI 0) = (ad = 0) := by rw [nI_eq (by omega) (by omega)]
      simp only [w_91_22, w_91_23, w_91_26, Option.toList, List.nil_append, ly_25 as2.1, t27, z0]
      by_cases had : ad = 0
      · simp only [had, if_true]
        refine fin h2 [] (AX_tr x1 x2) (by rw [adL, if_pos had]) ?_
        rw [aAp_nil]; exact as2
      · have : nz ad = 1 := if_neg had
        simp only [had, if_false, w_91_29, w_91_30, w_91_31, w_91_34, ly_25 as2.1, t27]
        refine r_sign2 as2 hsd' (by omega) (fun h3 x3 as3 => ?_)
        simp only [Option.toList, List.nil_append]
        exact fin h3 [ad] (AX_tr x1 (AX_tr x2 x3)) (by rw [adL, if_neg had]) as3
    rw [hP, bI_1]
    by_cases hd0 : due = 0
    · rw [if_pos hd0] at rest
      simp only [w_91_5, n10, if_false, w_91_8, w_91_9, decide_eq_true hd0, bI_1, w_91_12, w_91_13, w_91_14, ly_25 hL]
      exact rest _ _ (AX_25 (by omega)) (AS_w a (by decide) (by simp) (by simp) (by simp) (by simp) (by simp) (by simp))
    · rw [if_neg hd0] at rest
      simp only [w_91_5, n10, if_false, w_91_8, w_91_9, decide_eq_false hd0, bI_0, if_true]
      exact rest h _ AX_rf a
  · rw [if_neg hP] at hN hS
    have hP' : isP (decide (0 < qn) && decide (sd ≠ 2)) c = false := by simpa using hP
    rw [hP', bI_0]
    by_cases hd0 : due = 0
    · rw [if_pos hd0] at hN hS
      simp only [w_91_5, if_true, w_91_44, w_91_45, decide_eq_true hd0, bI_1, n10, if_false, w_91_48, w_91_49, w_91_50, ly_25 hL]
      refine r_begins a hc h2 (by omega) (by have := h8 hd0; omega) (by omega) (fun e => ?_) (fun h' σ' e x' as' => ?_)
      · simp only [w_91_53, if_true, w_91_60, w_91_61, Option.toList, List.cons_append, List.nil_append]
        exact hN h e AX_rf
      · simp only [w_91_53, n10, if_false, w_91_56, w_91_57, w_91_61, Option.toList, List.cons_append, List.nil_append]
        exact hS h' (0, σ') e x' as'
    · rw [if_neg hd0] at hN
      simp only [w_91_5, if_true, w_91_44, w_91_45, decide_eq_false hd0, bI_0, w_91_60, w_91_61]
      exact hN h rfl AX_rf
end Step2K
