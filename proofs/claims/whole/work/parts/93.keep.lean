/-! The reference's keep, rule and aim. -/
/-- slot r has become what was read -/
def KP (h h' : MH) (r : Nat) : Prop := mj_sx [25, 29, 30, 31, 32, 33] h h' ∧ (∀ j, j ≠ 31 → mj_i h' 25 j = mj_i h 25 j) ∧ mj_i h' 25 31 = nI 0 ∧ (∀ i, i < 48 → mj_i h' 29 (48 * r + i) = mj_i h 29 (336 + i) ∧ mj_i h' 30 (48 * r + i) = mj_i h 30 (336 + i) ∧ mj_i h' 32 (48 * r + i) = mj_i h 32 (336 + i)) ∧ (∀ i, i < 48 * r ∨ 48 * r + 48 ≤ i → mj_i h' 29 i = mj_i h 29 i ∧ mj_i h' 30 i = mj_i h 30 i ∧ mj_i h' 32 i = mj_i h 32 i) ∧ mj_i h' 31 r = mj_i h 31 7 ∧ mj_i h' 33 r = mj_i h 33 7 ∧ ∀ i, i ≠ r → mj_i h' 31 i = mj_i h 31 i ∧ mj_i h' 33 i = mj_i h 33 i
section KeepK
variable {L : Nat} {xs : Nat → Int32} {d : Nat} {Q : Option Value × MH → Prop} {h : MH} {n k e : Nat} {lk : Nat → Nat} {rn : Nat} {G : Nat → GD} {sm : SM} {ak : Nat} {GA : GD} {sc s : Nat} {stp mov : Int32} {ty : Nat} {tx : Nat → Nat}
theorem r_keep {r : Nat} (hL : Lay h) (hr : r < 7) (hQ : ∀ h', KP h h' r → Q (none, h')) : mj_Wp L xs d 100 0 [some (.ref 25), some (.int (nI r)), none] [] h Q := by
  have lp : ∀ (m i : Nat) (h1 : MH), i + m = 48 → mj_sx [29, 30, 32] h h1 → (∀ j, j < i → mj_i h1 29 (48 * r + j) = mj_i h 29 (336 + j) ∧ mj_i h1 30 (48 * r + j) = mj_i h 30 (336 + j) ∧ mj_i h1 32 (48 * r + j) = mj_i h 32 (336 + j)) → (∀ j, j < 48 * r ∨ 48 * r + 48 ≤ j → mj_i h1 29 j = mj_i h 29 j ∧ mj_i h1 30 j = mj_i h 30 j ∧ mj_i h1 32 j = mj_i h 32 j) → mj_Wp L xs d 100 2 [some (.ref 25), some (.int (nI r)), some (.int (nI i))] [] h1 Q := by
    intro m
    induction m with
    | zero =>
      intro i h1 hi s1 f1 f2
      have hi : i = 48 := by omega
      have hL1 := sx_Lay s1 hL
      have e1 : mj_in (nI r) 8 = true := mj_in_nI (by omega) (by omega)
      have e2 : (nI r).toNatClampNeg = r := nI_clamp (by omega)
      obtain ⟨h2, hh2⟩ : ∃ h2, h2 = mj_wi h1 31 r (mj_i h1 31 7) := ⟨_, rfl⟩
      have hL2 : Lay h2 := by rw [hh2]; exact Lay_wi.mpr hL1
      obtain ⟨h3, hh3⟩ : ∃ h3, h3 = mj_wi (mj_wi h2 33 r (mj_i h2 33 7)) 25 31 (nI 0) := ⟨_, rfl⟩
      rw [w_100_2]
      simp only [w_100_3, w_100_5, w_100_77, w_100_78, w_100_81, w_100_82, w_100_83, w_100_86, w_100_88, w_100_89, w_100_90, w_100_91, w_100_94, w_100_95, w_100_96, w_100_99, w_100_101, w_100_102, w_100_103, w_100_104, w_100_105, w_100_108, hi, Int32.le_refl, if_true, ly_25 hL1, lr_25_14 hL1, lk_31 hL1, ln_31 hL1, mj_rv_some, e1, e2, show mj_in (nI 7) 8 = true by decide, show (nI 7).toNatClampNeg = 7 by decide, ← hh2, ly_25 hL2, lr_25_16 hL2, lk_33 hL2, ln_33 hL2, mj_is_wi, mj_fit_n0, ← hh3]
      have s3 : mj_sx [25, 29, 30, 31, 32, 33] h h3 := by
        have s2 : mj_sx [25, 29, 30, 31, 32, 33] h1 h2 := by rw [hh2]; exact sx_wi (by decide)
        exact sx_tr (sx_mono s1 (by decide)) (sx_tr s2 (by rw [hh3]; exact sx_tr (sx_wi (by decide)) (sx_wi (by decide))))
      have r3 : ∀ b j, b ≠ 25 → b ≠ 31 → b ≠ 33 → mj_i h3 b j = mj_i h1 b j := fun b j b1 b2 b3 => by rw [hh3, mj_i_ne b1, mj_i_ne b3, hh2, mj_i_ne b2]
      have r31 : ∀ j, mj_i h3 31 j = if j = r then mj_i h 31 7 else mj_i h 31 j := fun j => by
        rw [hh3, mj_i_ne (by decide), mj_i_ne (by decide), hh2, mj_i_wi, sx_i s1 (by decide), sx_i s1 (by decide)]
        simp
      have r33 : ∀ j, mj_i h3 33 j = if j = r then mj_i h 33 7 else mj_i h 33 j := fun j => by
        rw [hh3, mj_i_ne (by decide), mj_i_wi, hh2, mj_i_ne (by decide), mj_i_ne (by decide), sx_i s1 (by decide), sx_i s1 (by decide)]
        simp
      refine hQ h3 ⟨s3, fun j hj => ?_, by rw [hh3]; simp [mj_i_wi], fun j hj => ?_, fun j hj => ?_, by rw [r31, if_pos rfl], by rw [r33, if_pos rfl], fun j hj => ⟨by rw [r31, if_neg hj], by rw [r33, if_neg hj]⟩⟩
      · rw [hh3, mj_i_wi, if_neg (fun z => hj z.2), mj_i_ne (by decide), hh2, mj_i_ne (by decide), sx_i s1 (by decide)]
      · rw [r3 _ _ (by decide) (by decide) (by decide), r3 _ _ (by decide) (by decide) (by decide), r3 _ _ (by decide) (by decide) (by decide)]
        exact f1 j (by omega)
      · rw [r3 _ _ (by decide) (by decide) (by decide), r3 _ _ (by decide) (by decide) (by decide), r3 _ _ (by decide) (by decide) (by decide)]
        exact f2 j hj
    | succ m ih =>
      intro i h1 hi s1 f1 f2
      have hL1 := sx_Lay s1 hL
      have e0 : ¬ nI 48 ≤ nI i := by rw [nI_leI (by omega) (by omega)]; omega
      have e1 : mj_in (nI (48 * r + i)) 384 = true := mj_in_nI (by omega) (by omega)
      have e2 : (nI (48 * r + i)).toNatClampNeg = 48 * r + i := nI_clamp (by omega)
      have e3 : mj_in (nI (336 + i)) 384 = true := mj_in_nI (by omega) (by omega)
      have e4 : (nI (336 + i)).toNatClampNeg = 336 + i := nI_clamp (by omega)
      obtain ⟨g1, g2, g3⟩ := f2 (336 + i) (by omega)
      rw [w_100_2]
      simp only [w_100_3, w_100_5, w_100_8, w_100_9, w_100_12, w_100_14, w_100_15, w_100_16, w_100_17, w_100_18, w_100_19, w_100_22, w_100_25, w_100_26, w_100_27, w_100_28, w_100_29, w_100_30, w_100_33, w_100_35, w_100_36, w_100_37, w_100_38, w_100_39, w_100_40, w_100_43, w_100_46, w_100_47, w_100_48, w_100_49, w_100_50, w_100_51, w_100_54, w_100_56, w_100_57, w_100_58, w_100_59, w_100_60, w_100_61, w_100_64, w_100_67, w_100_68, w_100_69, w_100_70, w_100_71, w_100_74, e0, if_false, ly_25 hL1, lr_25_12 hL1, lr_25_13 hL1, lr_25_15 hL1, lk_29 hL1, ln_29 hL1, lk_30 hL1, ln_30 hL1, lk_32 hL1, ln_32 hL1, mj_rv_some, pk_mul, nI_add, e1, e2, e3, e4, mj_is_wi, mj_ik_wi, mj_ln_wi, mj_r_wi, mj_i_ne (show 30 ≠ 29 by decide), mj_i_ne (show 32 ≠ 29 by decide), mj_i_ne (show 32 ≠ 30 by decide), g1, g2, g3]
      refine ih (i + 1) _ (by omega) (sx_tr s1 (sx_tr (sx_tr (sx_wi (by decide)) (sx_wi (by decide))) (sx_wi (by decide)))) (fun j hj => ?_) (fun j hj => ?_)
      · by_cases hji : j = i
        · simp [mj_i_wi, hji]
        · simp only [mj_i_wi, show ¬ (48 * r + j = 48 * r + i) by omega, and_false, if_false]
          exact f1 j (by omega)
      · simp only [mj_i_wi, show ¬ (j = 48 * r + i) by omega, and_false, if_false]
        exact f2 j hj
  simp only [w_100_0, w_100_1]
  exact lp 48 0 h (by omega) sx_rf (fun j hj => by omega) (fun j _ => ⟨rfl, rfl, rfl⟩)
theorem KP_new {h' : MH} {r : Nat} {stk : List SE4} {an o : Bool} {qn sd cp ad : Nat} {its : List IT} {en : Nat → Int32} {cd : List Nat} {D : GD} (a : AS h (stk, an, o, qn, sd, cp, ad, flI its, en, cd)) (sg : SG false its D 0 en) (h48 : (flI its).length ≤ 48) (q : KP h h' r) : PGm h' r D := by
  obtain ⟨q1, q2, q3, q4, q5, q6, q7, q8⟩ := q
  obtain ⟨hL, a1, a2, a3, a4, a5, a6, a7, a8, a9, a10, a11, a12, a13⟩ := id a
  refine ⟨its, h48, by rw [q6]; exact a9, cdA_cong _ _ (fun i _ hi => (q4 i (by omega)).1) a10, okI_cong _ _ (fun i _ hi => ?_) sg.1, fun n k m vs pt st => by rw [← exJ_I]; exact sg.2.2 n k m vs pt st⟩
  rw [(q4 i (by omega)).2.1]
  exact a11 i
theorem KP_sum {h' : MH} {r : Nat} {stk : List SE4} {an o : Bool} {qn sd cp ad : Nat} {gs : List Nat} {en : Nat → Int32} {cd : List Nat} {w : Nat × (Nat → Nat) × (Nat → Bool) × Bool} (a : AS h (stk, an, o, qn, sd, cp, ad, gs, en, cd)) (h48 : cd.length ≤ 48) (hs : ∀ (k : Nat) (pt : Nat → Int32) (st : List Int32), exL false k pt cd st = some (smF k pt w.1 w.2.1 w.2.2.1 w.2.2.2 :: st)) (q : KP h h' r) : PSm h' r w := by
  obtain ⟨q1, q2, q3, q4, q5, q6, q7, q8⟩ := q
  obtain ⟨hL, a1, a2, a3, a4, a5, a6, a7, a8, a9, a10, a11, a12, a13⟩ := id a
  exact ⟨cd, h48, by rw [q7]; exact a12, cdA_cong _ _ (fun i _ hi => (q4 i (by omega)).2.2) a13, hs⟩
theorem KP_old {h' : MH} {r r' : Nat} {D : GD} (hr : r ≠ r') (q : KP h h' r) (g : PGm h r' D) : PGm h' r' D := by
  obtain ⟨q1, q2, q3, q4, q5, q6, q7, q8⟩ := q
  obtain ⟨its, g1, g2, g3, g4, g5⟩ := g
  exact ⟨its, g1, by rw [(q8 r' (fun z => hr z.symm)).1]; exact g2, cdA_cong _ _ (fun i _ hi => (q5 _ (by omega)).1) g3, okI_cong _ _ (fun i _ hi => (q5 _ (by omega)).2.1) g4, g5⟩
theorem KP_olds {h' : MH} {r r' : Nat} {w : Nat × (Nat → Nat) × (Nat → Bool) × Bool} (hr : r ≠ r') (q : KP h h' r) (g : PSm h r' w) : PSm h' r' w := by
  obtain ⟨q1, q2, q3, q4, q5, q6, q7, q8⟩ := q
  obtain ⟨cd, g1, g2, g3, g4⟩ := g
  exact ⟨cd, g1, by rw [(q8 r' (fun z => hr z.symm)).2]; exact g2, cdA_cong _ _ (fun i _ hi => (q5 _ (by omega)).2.2) g3, g4⟩
theorem AX_PG {h' : MH} {r : Nat} {D : GD} (x : AX h h') (hr : r < 7) (g : PGm h r D) : PGm h' r D := by
  obtain ⟨its, g1, g2, g3, g4, g5⟩ := g
  exact ⟨its, g1, by rw [(x.2.2.2 r (by omega)).1]; exact g2, cdA_cong _ _ (fun i _ hi => (x.2.2.1 _ (by omega)).1) g3, okI_cong _ _ (fun i _ hi => (x.2.2.1 _ (by omega)).2.1) g4, g5⟩
theorem AX_PS {h' : MH} {r : Nat} {w : Nat × (Nat → Nat) × (Nat → Bool) × Bool} (x : AX h h') (hr : r < 7) (g : PSm h r w) : PSm h' r w := by
  obtain ⟨cd, g1, g2, g3, g4⟩ := g
  exact ⟨cd, g1, by rw [(x.2.2.2 r (by omega)).2]; exact g2, cdA_cong _ _ (fun i _ hi => (x.2.2.1 _ (by omega)).2.2) g3, g4⟩
/-- behind a reading, the text is gone -/
theorem RI_AX {h' h1 : MH} (x : AX h h1) (hh : h' = mj_wi h1 25 9 (nI 0)) (a : RI h n k e lk rn G sm ak GA sc s stp mov ty tx) : RI h' n k e lk rn G sm ak GA sc s stp mov 0 tx := by
  obtain ⟨a1, a2, a3, a4, a5, a6, a7, a8, a9, a10⟩ := a
  have s1 : mj_sx [25] h1 h' := by rw [hh]; exact sx_wi (by decide)
  have s2 : mj_sx [25, 29, 30, 31, 32, 33, 34, 35, 36, 37] h h' := sx_tr x.1 (sx_mono s1 (by decide))
  have q25 : ∀ j, j ≠ 9 → j ≠ 17 → (j < 22 ∨ 27 < j) → mj_i h' 25 j = mj_i h 25 j := fun j j1 j2 j3 => by rw [hh, mj_i_wi, if_neg (fun z => j1 z.2)]; exact x.2.1 j j2 j3
  have a21 := a2.1
  exact ⟨RB_sx s2 (by decide) (fun j hj => q25 j (by omega) (by omega) (by omega)) a1, ⟨a2.1, by rw [q25 11 (by decide) (by decide) (by decide)]; exact a2.2.1, fun r hr => ⟨PGm_sx s1 (by decide) (AX_PG x (by omega) (a2.2.2 r hr).1), PSm_sx s1 (by decide) (AX_PS x (by omega) (a2.2.2 r hr).2)⟩⟩, ⟨a3.1, by rw [q25 8 (by decide) (by decide) (by decide)]; exact a3.2.1, fun z => PGm_sx s1 (by decide) (AX_PG x (by decide) (a3.2.2 z))⟩, ⟨a4.1, by rw [q25 7 (by decide) (by decide) (by decide)]; exact a4.2⟩, RK_sx s2 (by decide) (q25 31 (by decide) (by decide) (by decide)) (q25 32 (by decide) (by decide) (by decide)) (q25 38 (by decide) (by decide) (by decide)) a5, a6, fun j hj => by rw [sx_i s2 (by decide)]; exact a7 j hj, ⟨by rw [hh]; simp [mj_i_wi], by decide, fun i hi => by omega⟩, by rw [q25 5 (by decide) (by decide) (by decide)]; exact a9, by rw [q25 6 (by decide) (by decide) (by decide)]; exact a10⟩
theorem tz_0 : ∀ i, ty ≤ i → tzF ty tx i = 0 := fun i hi => if_neg (by omega)
theorem AX_rf9 {h1 : MH} (x : AX h h1) : mj_sx rfS h (mj_wi h1 25 9 (nI 0)) := sx_tr (sx_mono x.1 (by decide)) (sx_wi (by decide))
theorem r_rule_full (a : RI h n k e lk rn G sm ak GA sc s stp mov ty tx) (h6 : rn = 6) (hok : ∀ h', mj_sx rfS h h' → RI h' n k e lk rn G sm ak GA sc s stp mov 0 tx → Q (some (.int (-2)), h')) : mj_Wp L xs d 89 0 [some (.ref 25), none] [] h Q := by
  have hL := a.1.2.2.2.2.2.1
  have r11 := a.2.1.2.1
  rw [h6] at r11
  have e11 : mj_i (mj_wi h 25 9 (nI 0)) 25 11 = nI 6 := by simp [mj_i_wi, r11]
  simp only [w_89_0, w_89_1, w_89_4, w_89_6, w_89_9, w_89_10, w_89_13, w_89_14, w_89_15, w_89_18, w_89_19, w_89_20, w_89_21, w_89_24, w_89_25, w_89_28, w_89_30, w_89_33, w_89_35, ly_25 hL, r11, not_true_eq_false, if_false, mj_is_wi, e11]
  exact hok _ (AX_rf9 AX_rf) (RI_AX AX_rf rfl a)
theorem r_rule_bad {f : Nat} (a : RI h n k e lk rn G sm ak GA sc s stp mov ty tx) (h6 : rn < 6) (hp : pRule (tzF ty tx) ty = (f, none)) (hok : ∀ h', mj_sx rfS h h' → RI h' n k e lk rn G sm ak GA sc s stp mov 0 tx → Q (some (.int (-10 - nI f)), h')) : mj_Wp L xs (d + 1 + 1 + 1 + 1 + 1) 89 0 [some (.ref 25), none] [] h Q := by
  obtain ⟨a1, a2, a3, a4, a5, a6, a7, a8, a9, a10⟩ := id a
  have hL := a1.2.2.2.2.2.1
  have z6 : ¬ nI rn = nI 6 := by rw [nI_eq (by omega) (by omega)]; omega
  have tie := (rule_tie (t := tzF ty tx) (len := ty) (en := fun i => mj_i h 30 (336 + i)) tz_0 a8.2.1).1 f hp
  simp only [w_89_0, w_89_1, w_89_4, w_89_6, w_89_9, w_89_10, w_89_13, w_89_14, w_89_15, ly_25 hL, a2.2.1, z6, not_false_eq_true, if_true, mj_fit_n1]
  have rd := r_read (L := L) (xs := xs) (d := d) (rule := true) (Q := fun r => mj_Wp L xs (d + 1 + 1 + 1 + 1 + 1) 89 18 [some (.ref 25), none] (r.1.toList ++ []) r.2 Q) hL a8.1 a8.2.1 a8.2.2
  rw [bI_1] at rd
  refine rd (fun h1 f' e hf x1 => ?_) (fun h1 σ e => by rw [tie] at e; cases e)
  rw [tie] at e
  cases e
  have a82 := a8.2.1
  have hL1 := sx_Lay x1.1 hL
  have e11 : mj_i (mj_wi h1 25 9 (nI 0)) 25 11 = nI rn := by rw [mj_i_wi, if_neg (by decide), x1.2.1 11 (by decide) (by decide)]; exact a2.2.1
  have hlt : ¬ nI f < nI 0 := by rw [nI_ltI (by omega) (by omega)]; omega
  simp only [w_89_18, w_89_19, w_89_20, w_89_21, w_89_24, w_89_25, w_89_28, w_89_30, w_89_33, w_89_35, w_89_36, w_89_37, w_89_40, w_89_42, w_89_43, w_89_44, Option.toList, List.cons_append, List.nil_append, ly_25 hL1, mj_is_wi, e11, z6, not_false_eq_true, if_true, hlt, if_false]
  exact hok _ (AX_rf9 x1) (RI_AX x1 rfl a)
theorem r_rule_ok {q p m : Nat} {D : GD} {w : Bool} (a : RI h n k e lk rn G sm ak GA sc s stp mov ty tx) (h6 : rn < 6) (hp : pRule (tzF ty tx) ty = (q, some (D, p, m, w))) (hok : ∀ h', mj_sx rfS h h' → RI h' n k e lk (rn + 1) (fun r => if r = rn then D else G r) (fun r => if r = rn then (m, fun i => tzF ty tx (p + 2 * i), sgF (tzF ty tx) p, w) else sm r) ak GA sc s stp mov 0 tx → Q (some (.int (nI (rn + 1))), h')) : mj_Wp L xs (d + 1 + 1 + 1 + 1 + 1) 89 0 [some (.ref 25), none] [] h Q := by
  obtain ⟨a1, a2, a3, a4, a5, a6, a7, a8, a9, a10⟩ := id a
  have hL := a1.2.2.2.2.2.1
  have z6 : ¬ nI rn = nI 6 := by rw [nI_eq (by omega) (by omega)]; omega
  obtain ⟨its, en', cd, stk, an, o, qn, sd, cp, ad, tie, sg, hsum⟩ := (rule_tie (t := tzF ty tx) (len := ty) (en := fun i => mj_i h 30 (336 + i)) tz_0 a8.2.1).2 q D p m w hp
  simp only [w_89_0, w_89_1, w_89_4, w_89_6, w_89_9, w_89_10, w_89_13, w_89_14, w_89_15, ly_25 hL, a2.2.1, z6, not_false_eq_true, if_true, mj_fit_n1]
  have rd := r_read (L := L) (xs := xs) (d := d) (rule := true) (Q := fun r => mj_Wp L xs (d + 1 + 1 + 1 + 1 + 1) 89 18 [some (.ref 25), none] (r.1.toList ++ []) r.2 Q) hL a8.1 a8.2.1 a8.2.2
  rw [bI_1] at rd
  refine rd (fun h1 f' e hf x1 => by rw [tie] at e; cases e) (fun h1 σ e x1 as1 hpot => ?_)
  rw [tie] at e
  cases e
  have hpe : pot (stk, an, o, qn, sd, cp, ad, flI its, en', cd) = (flI its).length + cd.length + nz ad + nz cp + b2n an + b2n o + potS stk := rfl
  have hL1 := sx_Lay x1.1 hL
  obtain ⟨h2, hh2⟩ : ∃ h2, h2 = mj_wi h1 25 9 (nI 0) := ⟨_, rfl⟩
  have ri2 := RI_AX x1 hh2 a
  have hL2 := ri2.1.2.2.2.2.2.1
  have as2 : AS h2 (stk, an, o, qn, sd, cp, ad, flI its, en', cd) := by rw [hh2]; exact AS_w as1 (by decide) (by simp) (by simp) (by simp) (by simp) (by simp) (by simp)
  have e11 : mj_i h2 25 11 = nI rn := ri2.2.1.2.1
  simp only [w_89_18, w_89_19, w_89_20, w_89_21, w_89_24, w_89_25, w_89_28, w_89_30, w_89_33, w_89_35, w_89_36, w_89_37, w_89_40, w_89_42, w_89_43, w_89_44, w_89_45, w_89_46, w_89_47, w_89_50, Option.toList, List.cons_append, List.nil_append, ly_25 hL1, ← hh2, ly_25 hL2, e11, z6, not_false_eq_true, if_true, show (-1 : Int32) < nI 0 by decide]
  refine r_keep hL2 (show rn < 7 by omega) (fun h3 kp => ?_)
  have kq := kp
  obtain ⟨k1, k2, k3, k4, k5, k6, k7, k8⟩ := kq
  have hL3 := sx_Lay k1 hL2
  have f11 : mj_i h3 25 11 = nI rn := by rw [k2 11 (by decide)]; exact e11
  obtain ⟨h4, hh4⟩ : ∃ h4, h4 = mj_wi h3 25 11 (nI (rn + 1)) := ⟨_, rfl⟩
  have s4 : mj_sx [25] h3 h4 := by rw [hh4]; exact sx_wi (by decide)
  have f4 : ∀ j, j ≠ 11 → mj_i h4 25 j = mj_i h3 25 j := fun j hj => by rw [hh4, mj_i_wi, if_neg (fun z => hj z.2)]
  have g11 : mj_i h4 25 11 = nI (rn + 1) := by rw [hh4]; simp [mj_i_wi]
  have hL4 := sx_Lay s4 hL3
  simp only [w_89_53, w_89_54, w_89_55, w_89_58, w_89_59, w_89_60, w_89_63, w_89_64, w_89_67, Option.toList, List.nil_append, ly_25 hL3, f11, nI_add, ← hh4, ly_25 hL4, g11]
  obtain ⟨b1, b2, b3, b4, b5, b6, b7, b8, b9, b10⟩ := id ri2
  have s24 : mj_sx [25, 29, 30, 31, 32, 33] h2 h4 := sx_tr k1 (sx_mono s4 (by decide))
  have q25 : ∀ j, j ≠ 11 → j ≠ 31 → mj_i h4 25 j = mj_i h2 25 j := fun j j1 j2 => by rw [f4 j j1, k2 j j2]
  have sA : mj_sx rfS h h4 := by
    have := AX_rf9 x1
    rw [← hh2] at this
    exact sx_tr this (sx_mono s24 (by decide))
  refine hok h4 sA ⟨RB_sx s24 (by decide) (fun j hj => q25 j (by omega) (by omega)) b1, ⟨by omega, g11, fun r hr => ?_⟩, ⟨b3.1, by rw [q25 8 (by decide) (by decide)]; exact b3.2.1, fun z => PGm_sx s4 (by decide) (KP_old (by omega) kp (b3.2.2 z))⟩, ⟨b4.1, by rw [q25 7 (by decide) (by decide)]; exact b4.2⟩, Or.inl (by rw [f4 31 (by decide)]; exact k3), b6, fun j hj => by rw [sx_i s24 (by decide)]; exact b7 j hj, ⟨by rw [q25 9 (by decide) (by decide)]; exact b8.1, b8.2.1, fun i hi => by omega⟩, by rw [q25 5 (by decide) (by decide)]; exact b9, by rw [q25 6 (by decide) (by decide)]; exact b10⟩
  by_cases hrr : r = rn
  · simp only [hrr, if_true]
    exact ⟨PGm_sx s4 (by decide) (KP_new as2 sg (by omega) kp), PSm_sx s4 (by decide) (KP_sum as2 (by omega) hsum kp)⟩
  · simp only [hrr, if_false]
    obtain ⟨u1, u2⟩ := b2.2.2 r (by omega)
    exact ⟨PGm_sx s4 (by decide) (KP_old (fun z => hrr z.symm) kp u1), PSm_sx s4 (by decide) (KP_olds (fun z => hrr z.symm) kp u2)⟩
theorem r_aim_bad {x : Int32} (h0 : x ≠ nI 0) (h1 : x ≠ nI 1) (h2 : x ≠ nI 2) : mj_Wp L xs d 102 0 [some (.ref 25), some (.int x), none] [] h Q ↔ Q (some (.int (-1)), h) := by
  simp only [w_102_0, w_102_1, w_102_4, w_102_5, w_102_6, w_102_9, w_102_10]
  by_cases c1 : x < nI 0
  · simp only [c1, if_true]
  · obtain ⟨j, j1, rfl⟩ := nI_of c1
    have c2 : ¬ nI j ≤ nI 2 := by
      rw [nI_leI (by omega) (by omega)]
      intro z
      have : j = 0 ∨ j = 1 ∨ j = 2 := by omega
      rcases this with rfl | rfl | rfl
      · exact h0 rfl
      · exact h1 rfl
      · exact h2 rfl
    simp only [c1, c2, if_false]
/-- the end of aim -/
theorem RI_aim {h' : MH} {j : Nat} {D : GD} (a : RI h n k e lk rn G sm ak GA sc s stp mov ty tx) (hh : h' = mj_wi (mj_wi h 25 8 (nI j)) 25 31 (nI 0)) (hj : j ≤ 2) (hD : j = 2 → PGm h 6 D) : RI h' n k e lk rn G sm j D sc s stp mov ty tx ∧ mj_sx rfS h h' := by
  obtain ⟨a1, a2, a3, a4, a5, a6, a7, a8, a9, a10⟩ := a
  have s1 : mj_sx [25] h h' := by rw [hh]; exact sx_tr (sx_wi (by decide)) (sx_wi (by decide))
  have q25 : ∀ i, i ≠ 8 → i ≠ 31 → mj_i h' 25 i = mj_i h 25 i := fun i j1 j2 => by rw [hh, mj_i_wi, if_neg (fun z => j2 z.2), mj_i_wi, if_neg (fun z => j1 z.2)]
  exact ⟨⟨RB_sx s1 (by decide) (fun j hj => q25 j (by omega) (by omega)) a1, RR_sx s1 (by decide) (q25 11 (by decide) (by decide)) a2, ⟨hj, by rw [hh]; simp [mj_i_wi], fun z => PGm_sx s1 (by decide) (hD z)⟩, ⟨a4.1, by rw [q25 7 (by decide) (by decide)]; exact a4.2⟩, Or.inl (by rw [hh]; simp [mj_i_wi]), a6, fun j hj => by rw [sx_i s1 (by decide)]; exact a7 j hj, ⟨by rw [q25 9 (by decide) (by decide)]; exact a8.1, a8.2.1, fun i hi => by rw [sx_i s1 (by decide)]; exact a8.2.2 i hi⟩, by rw [q25 5 (by decide) (by decide)]; exact a9, by rw [q25 6 (by decide) (by decide)]; exact a10⟩, sx_mono s1 (by decide)⟩
theorem r_aim_pl {j : Nat} (a : RI h n k e lk rn G sm ak GA sc s stp mov ty tx) (hj : j < 2) (hok : ∀ h', mj_sx rfS h h' → RI h' n k e lk rn G sm j GA sc s stp mov ty tx → Q (some (.int (nI 0)), h')) : mj_Wp L xs d 102 0 [some (.ref 25), some (.int (nI j)), none] [] h Q := by
  have hL := a.1.2.2.2.2.2.1
  have c1 : ¬ nI j < nI 0 := by rw [nI_ltI (by omega) (by omega)]; omega
  have c2 : nI j ≤ nI 2 := (nI_leI (by omega) (by omega)).mpr (by omega)
  have c3 : ¬ nI j = nI 2 := by rw [nI_eq (by omega) (by omega)]; omega
  obtain ⟨r1, r2⟩ := RI_aim (j := j) (D := GA) a rfl (by omega) (fun z => by omega)
  simp only [w_102_0, w_102_1, w_102_4, w_102_5, w_102_6, w_102_9, w_102_10, w_102_11, w_102_12, w_102_13, w_102_42, w_102_43, w_102_44, w_102_47, w_102_48, w_102_49, w_102_52, w_102_53, c1, c2, c3, not_false_eq_true, if_true, if_false, ly_25 hL, mj_is_wi, mj_fit_n0]
  exact hok _ r2 r1
theorem r_aim_flt {f : Nat} (a : RI h n k e lk rn G sm ak GA sc s stp mov ty tx) (hp : pAim (tzF ty tx) ty = (f, none)) (hok : ∀ h', mj_sx rfS h h' → RI h' n k e lk rn G sm ak GA sc s stp mov 0 tx → Q (some (.int (-10 - nI f)), h')) : mj_Wp L xs (d + 1 + 1 + 1 + 1 + 1) 102 0 [some (.ref 25), some (.int (nI 2)), none] [] h Q := by
  obtain ⟨a1, a2, a3, a4, a5, a6, a7, a8, a9, a10⟩ := id a
  have hL := a1.2.2.2.2.2.1
  have tie := (aim_tie (t := tzF ty tx) (len := ty) (en := fun i => mj_i h 30 (336 + i)) tz_0 a8.2.1).1 f hp
  simp only [w_102_0, w_102_1, w_102_4, w_102_5, w_102_6, w_102_9, w_102_10, w_102_11, w_102_12, w_102_13, w_102_16, w_102_17, w_102_18, ly_25 hL, show ¬ nI 2 < nI 0 by decide, Int32.le_refl, not_true_eq_false, if_true, if_false, mj_fit_n0]
  have rd := r_read (L := L) (xs := xs) (d := d) (rule := false) (Q := fun r => mj_Wp L xs (d + 1 + 1 + 1 + 1 + 1) 102 21 [some (.ref 25), some (.int (nI 2)), none] (r.1.toList ++ []) r.2 Q) hL a8.1 a8.2.1 a8.2.2
  rw [bI_0] at rd
  refine rd (fun h1 f' e hf x1 => ?_) (fun h1 σ e => by rw [tie] at e; cases e)
  rw [tie] at e
  cases e
  have a82 := a8.2.1
  have hL1 := sx_Lay x1.1 hL
  have hlt : ¬ nI f < nI 0 := by rw [nI_ltI (by omega) (by omega)]; omega
  simp only [w_102_21, w_102_22, w_102_23, w_102_24, w_102_27, w_102_28, w_102_31, w_102_33, w_102_34, w_102_35, Option.toList, List.cons_append, List.nil_append, ly_25 hL1, hlt, if_false]
  exact hok _ (AX_rf9 x1) (RI_AX x1 rfl a)
theorem r_aim_ok {q : Nat} {D : GD} (a : RI h n k e lk rn G sm ak GA sc s stp mov ty tx) (hp : pAim (tzF ty tx) ty = (q, some D)) (hok : ∀ h', mj_sx rfS h h' → RI h' n k e lk rn G sm 2 D sc s stp mov 0 tx → Q (some (.int (nI 0)), h')) : mj_Wp L xs (d + 1 + 1 + 1 + 1 + 1) 102 0 [some (.ref 25), some (.int (nI 2)), none] [] h Q := by
  obtain ⟨a1, a2, a3, a4, a5, a6, a7, a8, a9, a10⟩ := id a
  have hL := a1.2.2.2.2.2.1
  obtain ⟨its, en', cd, stk, an, o, qn, sd, cp, ad, tie, sg⟩ := (aim_tie (t := tzF ty tx) (len := ty) (en := fun i => mj_i h 30 (336 + i)) tz_0 a8.2.1).2 q D hp
  simp only [w_102_0, w_102_1, w_102_4, w_102_5, w_102_6, w_102_9, w_102_10, w_102_11, w_102_12, w_102_13, w_102_16, w_102_17, w_102_18, ly_25 hL, show ¬ nI 2 < nI 0 by decide, Int32.le_refl, not_true_eq_false, if_true, if_false, mj_fit_n0]
  have rd := r_read (L := L) (xs := xs) (d := d) (rule := false) (Q := fun r => mj_Wp L xs (d + 1 + 1 + 1 + 1 + 1) 102 21 [some (.ref 25), some (.int (nI 2)), none] (r.1.toList ++ []) r.2 Q) hL a8.1 a8.2.1 a8.2.2
  rw [bI_0] at rd
  refine rd (fun h1 f' e hf x1 => by rw [tie] at e; cases e) (fun h1 σ e x1 as1 hpot => ?_)
  rw [tie] at e
  cases e
  have hpe : pot (stk, an, o, qn, sd, cp, ad, flI its, en', cd) = (flI its).length + cd.length + nz ad + nz cp + b2n an + b2n o + potS stk := rfl
  have hL1 := sx_Lay x1.1 hL
  obtain ⟨h2, hh2⟩ : ∃ h2, h2 = mj_wi h1 25 9 (nI 0) := ⟨_, rfl⟩
  have ri2 := RI_AX x1 hh2 a
  have hL2 := ri2.1.2.2.2.2.2.1
  have as2 : AS h2 (stk, an, o, qn, sd, cp, ad, flI its, en', cd) := by rw [hh2]; exact AS_w as1 (by decide) (by simp) (by simp) (by simp) (by simp) (by simp) (by simp)
  simp only [w_102_21, w_102_22, w_102_23, w_102_24, w_102_27, w_102_28, w_102_31, w_102_33, w_102_34, w_102_35, w_102_36, w_102_37, w_102_39, Option.toList, List.cons_append, List.nil_append, ly_25 hL1, ← hh2, ly_25 hL2, if_true, show (-1 : Int32) < nI 0 by decide]
  refine r_keep hL2 (show 6 < 7 by decide) (fun h3 kp => ?_)
  have kq := kp
  obtain ⟨k1, k2, k3, k4, k5, k6, k7, k8⟩ := kq
  have hL3 := sx_Lay k1 hL2
  obtain ⟨b1, b2, b3, b4, b5, b6, b7, b8, b9, b10⟩ := id ri2
  have b21 := b2.1
  -- all but the aim, as it now stands: an aim that needs no program
  have ri3 : RI h3 n k e lk rn G sm (mj_i h3 25 8).toNatClampNeg D sc s stp mov 0 tx := by
    have h8 : mj_i h3 25 8 = nI ak := by rw [k2 8 (by decide)]; exact b3.2.1
    have b31 := b3.1
    rw [h8, nI_clamp (by omega)]
    exact ⟨RB_sx k1 (by decide) (fun j hj => k2 j (by omega)) b1, ⟨b2.1, by rw [k2 11 (by decide)]; exact b2.2.1, fun r hr => ⟨KP_old (by omega) kp (b2.2.2 r hr).1, KP_olds (by omega) kp (b2.2.2 r hr).2⟩⟩, ⟨b3.1, h8, fun _ => KP_new as2 sg (by omega) kp⟩, ⟨b4.1, by rw [k2 7 (by decide)]; exact b4.2⟩, Or.inl k3, b6, fun j hj => by rw [sx_i k1 (by decide)]; exact b7 j hj, ⟨by rw [k2 9 (by decide)]; exact b8.1, b8.2.1, fun i hi => by omega⟩, by rw [k2 5 (by decide)]; exact b9, by rw [k2 6 (by decide)]; exact b10⟩
  obtain ⟨r1, r2⟩ := RI_aim (j := 2) (D := D) ri3 rfl (by decide) (fun _ => KP_new as2 sg (by omega) kp)
  have sA : mj_sx rfS h h3 := by
    have := AX_rf9 x1
    rw [← hh2] at this
    exact sx_tr this (sx_mono k1 (by decide))
  simp only [w_102_42, w_102_43, w_102_44, w_102_47, w_102_48, w_102_49, w_102_52, w_102_53, Option.toList, List.nil_append, ly_25 hL3, mj_is_wi, mj_fit_n0]
  exact hok _ (sx_tr sA r2) r1
end KeepK
