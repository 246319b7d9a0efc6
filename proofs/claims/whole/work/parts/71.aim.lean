/-! The bench's call aim. -/
section AimCK
variable {L : Nat} {xs : Nat → Int32} {d : Nat} {Q : Option Value × MH → Prop} {h : MH} {n k e : Nat} {lk : Nat → Nat} {rn : Nat} {G : Nat → GD} {sm : SM} {ak : Nat} {GA : GD} {sc s : Nat} {stp mov : Int32} {ty : Nat} {tx : Nat → Nat}
theorem CI_aim {h5 : MH} {j : Nat} {o : Option Nat} {D : GD} (a : CI h n k e lk rn G sm ak GA sc s stp mov ty tx) (hh : h5 = mj_wi (mj_wr (mj_wi h 8 3 (nI j)) 8 4 o) 11 17 (nI 0)) (hj : j ≤ 2) (hA : j = 2 → ∃ A, o = some A ∧ TG 60 h A false D) : CI h5 n k e lk rn G sm j D sc s stp mov ty tx := by
  obtain ⟨⟨b1, b2, b3, b4, b5, hL, gr, b8, b9, b10⟩, a2, a3, a4, a5, a6, a7, a8⟩ := id a
  have ei : ∀ b, b ≠ 8 → b ≠ 11 → mj_i h5 b = mj_i h b := fun b c8 c11 => by funext i; rw [hh, mj_i_ne c11, mj_i_wr, mj_i_ne c8]
  have e11 : ∀ i, i ≠ 17 → mj_i h5 11 i = mj_i h 11 i := fun i hi => by rw [hh]; simp [mj_i_wi, mj_i_wr, hi]
  have er : ∀ b i, ¬ (b = 8 ∧ i = 4) → mj_r h5 b i = mj_r h b i := fun b i hb => by rw [hh, mj_r_wi, mj_r_wr, if_neg hb, mj_r_wi]
  have nR9 : ∀ q ∈ ly_R, ¬ (q.1 = 8 ∧ q.2.1 = 4) := by decide
  have ex : Ext h h5 := by rw [hh]; exact Ext_wi (Ext_wr (Ext_wi Ext_rf (by decide)) (by decide)) (by decide)
  have hL5 : Lay h5 := by rw [hh]; exact Lay_wi.mpr (Lay_wr nR9 (Lay_wi.mpr hL))
  refine ⟨⟨b1, b2, b3, b4, b5, hL5, ?_, ⟨b8.1, by rw [hh]; simp [mj_i_wi, mj_i_wr, b8.2.1], fun r hr => ?_⟩, ⟨hj, by rw [hh]; simp [mj_i_wi, mj_i_wr], fun z => ?_⟩, ?_⟩, ⟨a2.1, by rw [e11 12 (by decide)]; exact a2.2.1, ?_, Or.inl (by rw [hh]; simp [mj_i_wi])⟩, a3, a4, ?_, ?_, ?_, ?_⟩
  · simp only [Gr, ei 1 (by decide) (by decide), ei 2 (by decide) (by decide), ei 3 (by decide) (by decide)]; exact gr
  · obtain ⟨⟨g, y1, y2⟩, sa, y3, y4, y5⟩ := b8.2.2 r hr
    exact ⟨⟨g, by rw [er 9 r (by omega)]; exact y1, Ext_TG ex _ _ _ _ y2⟩, sa, by rw [er 10 r (by omega)]; exact y3, Ext_Sum ex y4, y5⟩
  · obtain ⟨A, y1, y2⟩ := hA z
    exact ⟨A, by rw [hh, mj_r_wi, mj_r_wr, if_pos ⟨rfl, rfl⟩]; exact y1, Ext_TG ex _ _ _ _ y2⟩
  · rw [ei 6 (by decide) (by decide), ei 22 (by decide) (by decide)]; exact b10
  · simp only [TB, e11 16 (by decide), ei 12 (by decide) (by decide), ei 13 (by decide) (by decide)]
    exact a2.2.2.1
  · rw [ei 0 (by decide) (by decide), ei 24 (by decide) (by decide)]; exact a5
  · rw [ei 0 (by decide) (by decide)]; exact a6
  · rw [ei 0 (by decide) (by decide)]; exact a7
  · rw [ei 0 (by decide) (by decide)]; exact a8
theorem CF_aim {h0 h5 : MH} {j : Nat} {o : Option Nat} (c : CF h0 h) (hh : h5 = mj_wi (mj_wr (mj_wi h 8 3 (nI j)) 8 4 o) 11 17 (nI 0)) : CF h0 h5 := by
  have nR9 : ∀ q ∈ ly_R, ¬ (q.1 = 8 ∧ q.2.1 = 4) := by decide
  have hL5 : Lay h5 := by rw [hh]; exact Lay_wi.mpr (Lay_wr nR9 (Lay_wi.mpr c.1))
  have zz : mj_z h5 = mj_z h ∧ mj_u h5 = mj_u h := by rw [hh]; exact ⟨rfl, rfl⟩
  refine ⟨hL5, by rw [zz.1]; exact c.2.1, by rw [zz.1]; exact c.2.2.1, by rw [zz.2]; exact c.2.2.2.1, fun b b1 b2 => ?_⟩
  rw [← c.2.2.2.2 b b1 b2]
  funext i
  rw [hh, mj_i_ne (by omega), mj_i_wr, mj_i_ne (by omega)]
theorem c_aim {x : Int32} (a : CI h n k e lk rn G sm ak GA sc s stp mov ty tx)
    (hbad : x ≠ nI 0 → x ≠ nI 1 → x ≠ nI 2 → Q (some (.int (-1)), h))
    (hpl : ∀ h' j, x = nI j → j < 2 → CF h h' → CI h' n k e lk rn G sm j GA sc s stp mov ty tx → Q (some (.int (nI 0)), h'))
    (hflt : ∀ h' f, x = nI 2 → pAim (tzF ty tx) ty = (f, none) → CF h h' → CI h' n k e lk rn G sm ak GA sc s stp mov 0 tx → Q (some (.int (-10 - nI f)), h'))
    (hok : ∀ h' q D, x = nI 2 → pAim (tzF ty tx) ty = (q, some D) → CF h h' → CI h' n k e lk rn G sm 2 D sc s stp mov 0 tx → Q (some (.int (nI 0)), h')) : mj_Wp L xs (d + 34 + 1) 40 0 [some (.ref 0), some (.int x), none, none] [] h Q := by
  have hL := a.1.2.2.2.2.2.1
  have t2 := a.2.2.2.2.1.2.1
  -- the end, without a guard
  have tl : ∀ j, x = nI j → j < 2 → mj_Wp L xs (d + 34 + 1) 40 55 [some (.ref 0), some (.int x), some .null, none] [] h Q := by
    intro j hx hj
    obtain ⟨h5, hh⟩ : ∃ h5, h5 = mj_wi (mj_wr (mj_wi h 8 3 (nI j)) 8 4 none) 11 17 (nI 0) := ⟨_, rfl⟩
    have nR : ¬ ((0 : Nat) = 8 ∧ (3 : Nat) = 4) := by decide
    rw [hx]
    simp only [w_40_55, w_40_56, w_40_59, w_40_60, w_40_60_n, w_40_61, w_40_61_n, w_40_64, w_40_65, w_40_68, w_40_71, w_40_72, w_9_0, w_9_1, w_9_2, w_9_5, w_9_6, w_9_6_n, w_9_7, w_9_7_n, w_9_10, w_41_0, w_41_1, w_41_2, w_41_5, Option.toList, List.nil_append, ly_0 hL, lr_0_2 hL, lr_0_3 hL, ly_8 hL, ly_11 hL, mj_rv_some, mj_is_wi, mj_is_wr, mj_r_wi, mj_r_wr, nR, if_false, mj_fit_n0, ← hh]
    exact hpl h5 j hx hj (CF_aim (CF_sx hL sx_rf (S := []) (by simp)) hh) (CI_aim a hh (by omega) (fun z => by omega))
  by_cases c0 : x = nI 0
  · have n02 : ¬ nI 0 = nI 2 := by decide
    rw [c0]
    rw [c0] at tl
    simp only [w_40_0, w_40_1, w_40_4, w_40_5, w_40_6, w_40_9, w_40_10, w_40_11, w_40_14, w_40_15, w_40_16, w_40_17, w_40_18, w_40_19, w_40_20, if_true, n02, not_false_eq_true]
    exact tl 0 rfl (by decide)
  by_cases c1 : x = nI 1
  · have n12 : ¬ nI 1 = nI 2 := by decide
    have n10 : ¬ nI 1 = nI 0 := by decide
    rw [c1]
    rw [c1] at tl
    simp only [w_40_0, w_40_1, w_40_4, w_40_5, w_40_6, w_40_9, w_40_10, w_40_11, w_40_14, w_40_15, w_40_16, w_40_17, w_40_18, w_40_19, w_40_20, if_true, n10, if_false, n12, not_false_eq_true]
    exact tl 1 rfl (by decide)
  by_cases c2' : ¬ x = nI 2
  · have c2 := c2'
    simp only [w_40_0, w_40_1, w_40_4, w_40_5, w_40_6, w_40_9, w_40_10, w_40_11, w_40_14, w_40_15, c0, c1, c2, if_false]
    exact hbad c0 c1 c2
  have c2 : x = nI 2 := Classical.not_not.mp c2'
  have n20 : ¬ nI 2 = nI 0 := by decide
  have n21 : ¬ nI 2 = nI 1 := by decide
  rw [c2]
  simp only [w_40_0, w_40_1, w_40_4, w_40_5, w_40_6, w_40_9, w_40_10, w_40_11, w_40_14, w_40_15, w_40_16, w_40_17, w_40_18, w_40_19, w_40_20, w_40_23, w_40_24, n20, n21, if_true, if_false, not_true_eq_false, ly_0 hL]
  refine k_takeText (d := d + 33) a (fun h1 R T cib py hR rd1 z1 u1 => ?_)
  have ci1 := CI_PY py cib
  have hL1 := ci1.1.2.2.2.2.2.1
  have hzb : mj_z (mj_wi h 0 5 (nI 0)) = mj_z h := rfl
  have hub : mj_u (mj_wi h 0 5 (nI 0)) = mj_u h := rfl
  have cf : ∀ h2, PX R h1 h2 → mj_z h2 ≤ mj_z h1 + 250 → CF h h2 := by
    intro h2 x2 z2
    have p2 := PY_PX py x2 (by rw [hzb]; omega)
    refine ⟨PY_Lay p2 cib.1.2.2.2.2.2.1, by have := p2.1; rw [hzb] at this; exact this, by omega, by have := x2.2.2; omega, fun b b1 b2 => ?_⟩
    have h46 := hL.1
    rw [(p2.2 b (by rw [hzb]; omega)).2.2]
    funext j
    rw [mj_i_ne (by omega)]
  simp only [w_40_27, w_40_28, w_40_29, w_40_30, w_40_31, Option.toList, List.cons_append, List.nil_append, rd1.2.2.2.1]
  refine k_readGuard rd1 (fun h2 A po => ?_)
  obtain ⟨x2, l2, z2, pn, ps⟩ := po
  have tell : ∀ (h' : MH) (q2 f : Nat), PX R h1 h' → mj_z h' ≤ mj_z h1 + 250 → RD h' R T ty (tzF ty tx) q2 (nI f) → f ≤ 48 → pAim (tzF ty tx) ty = (f, none) → mj_Wp L xs (d + 34 + 1) 40 39 [some (.ref 0), some (.int (nI 2)), some (.ref A), some (.ref R)] [] h' Q := by
    intro h' q2 f x' z' rd' hf hp
    have hne : nI f ≠ -1 := nI_nm1 (by omega)
    simp only [w_40_39, w_40_40, w_40_43, w_40_44, w_40_47, w_40_49, w_40_50, w_40_53, w_40_54, rd'.2.2.2.1, rd'.2.2.2.2.2.2.2.2.2.2.2.2.2, hne, if_false]
    exact hflt h' f c2 hp (cf h' x' z') (CI_PY (PY_PX py x' (by rw [hzb]; omega)) cib)
  simp only [Option.toList, List.cons_append, List.nil_append]
  cases hg : pGuard (tzF ty tx) (pTest (tzF ty tx) 8 false) 0 with
  | mk q D =>
    rw [hg] at l2 z2 pn ps
    dsimp only at l2 z2 pn ps
    cases D with
    | none =>
      have rd2 := pn rfl
      have hql := rd2.2.2.2.2.2.2.2.2.2.2.2.1
      have hp : pAim (tzF ty tx) ty = (q, none) := by rw [pAim, hg]
      have hne : nI q ≠ -1 := nI_nm1 (by omega)
      simp only [w_40_34, w_40_35, w_40_36, rd2.2.2.2.1, k_needEnd rd2, show ¬ (q < ty ∧ nI q = -1) from fun z => hne z.2, if_false, Option.toList, List.nil_append]
      exact tell h2 q q x2 (by omega) rd2 (by omega) hp
    | some D =>
      obtain ⟨rd2, lt2, tg2⟩ := ps D rfl
      have hql := rd2.2.2.2.2.2.2.2.2.2.2.2.1
      by_cases c7 : q < ty
      · have hp : pAim (tzF ty tx) ty = (q, none) := by rw [pAim, hg]; simp only [c7, if_true]
        have x5 : PX R h2 (mj_wi h2 R 2 (nI q)) := PX_wR PX_rf
        simp only [w_40_34, w_40_35, w_40_36, rd2.2.2.2.1, k_needEnd rd2, c7, true_and, if_true, Option.toList, List.nil_append]
        exact tell _ q q (PX_tr x2 x5) (by show mj_z h2 ≤ _; omega) (RD_PX rd2 x5 (by omega) (by simp [mj_i_wi]; exact rd2.2.2.2.2.2.2.2.2.2.2.2.2.1) (by simp [mj_i_wi])) (by omega) hp
      · have hp : pAim (tzF ty tx) ty = (q, some D) := by rw [pAim, hg]; simp only [c7, if_false]
        have py' := PY_PX py x2 (by rw [hzb]; omega)
        have ci' := CI_PY py' cib
        have hL' := ci'.1.2.2.2.2.2.1
        have tgA : TG 60 h2 A false D := TG_60 tg2 (by omega)
        obtain ⟨h5, hh⟩ : ∃ h5, h5 = mj_wi (mj_wr (mj_wi h2 8 3 (nI 2)) 8 4 (some A)) 11 17 (nI 0) := ⟨_, rfl⟩
        have nR : ¬ ((0 : Nat) = 8 ∧ (3 : Nat) = 4) := by decide
        simp only [w_40_34, w_40_35, w_40_36, w_40_39, w_40_40, w_40_43, w_40_44, w_40_47, w_40_49, w_40_50, w_40_53, w_40_54, w_40_55, w_40_56, w_40_59, w_40_60, w_40_60_n, w_40_61, w_40_61_n, w_40_64, w_40_65, w_40_68, w_40_71, w_40_72, rd2.2.2.2.1, k_needEnd rd2, c7, false_and, if_false, rd2.2.2.2.2.2.2.2.2.2.2.2.2.2, if_true, w_9_0, w_9_1, w_9_2, w_9_5, w_9_6, w_9_6_n, w_9_7, w_9_7_n, w_9_10, w_41_0, w_41_1, w_41_2, w_41_5, Option.toList, List.nil_append, ly_0 hL', lr_0_2 hL', lr_0_3 hL', ly_8 hL', ly_11 hL', mj_rv_some, mj_is_wi, mj_is_wr, mj_r_wi, mj_r_wr, nR, mj_fit_n0, ← hh]
        exact hok h5 q D c2 hp (CF_aim (cf h2 x2 (by omega)) hh) (CI_aim ci' hh (by decide) (fun _ => ⟨A, rfl, tgA⟩))
end AimCK
