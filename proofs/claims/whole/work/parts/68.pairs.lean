/-! Reading pairs; reading tests. -/
section RpK
variable {L : Nat} {xs : Nat → Int32} {d : Nat} {Q : Option Value × MH → Prop} {R T len : Nat} {t : Nat → Nat}
theorem k_seq21 {f : Nat → Nat × Option GD} {nb : Bool} {o : Nat} (hin : ∀ (p : Nat) (h : MH) (Q : Option Value × MH → Prop), RD h R T len t p (-1) → (∀ h' A, PO h h' R T len t p (f p) A nb → Q (some (.ref A), h')) → mj_Wp L xs (d + 1) 22 0 [some (.ref R), some (.int (nI o)), some (.int (bI nb)), none] [] h Q) {h : MH} {p : Nat} (r : RD h R T len t p (-1)) (hQ : ∀ h' A, PO h h' R T len t p (pSeq t 38 true f p) A nb → Q (some (.ref A), h')) : mj_Wp L xs (d + 1 + 1) 21 0 [some (.ref R), some (.int (nI o)), some (.int (bI nb)), none, none] [] h Q := by
  have n10 : ¬ nI 1 = nI 0 := by decide
  -- a fault ends the loop
  have flt : ∀ (h1 : MH) (q A i : Nat), PX R h h1 → RD h1 R T len t q (nI q) → pSeq t 38 true f p = (q, none) → p ≤ q → mj_z h1 ≤ mj_z h + 3 + 4 * (q - p) → mj_Wp L xs (d + 1 + 1) 21 10 [some (.ref R), some (.int (nI o)), some (.int (bI nb)), some (.ref A), some (.int (nI i))] [] h1 Q := by
    intro h1 q A i x1 rd1 hp hpq hz
    have hne : nI q ≠ -1 := nI_nm1 (by have := rd1.2.2.2.2.2.2.2.1; have := rd1.2.2.2.2.2.2.2.2.2.2.2.1; omega)
    have c0 : nxC t q (nI q) = 0 := if_neg hne
    have fin : Q (some (.ref A), h1) := hQ h1 A (by rw [hp]; exact ⟨x1, hpq, hz, fun _ => rd1, fun D hD => by cases hD⟩)
    rw [w_21_10]
    simp only [w_21_12, w_21_14, w_21_17, w_21_18, w_21_20, w_21_23, w_21_48, w_21_49, rd1.2.2.2.1, k_take rd1 (show 38 < 127 by decide), c0, show ¬ (0 = 38) by decide, if_false, if_true, Option.toList, List.cons_append, List.nil_append]
    split
    · exact fin
    · exact fin
  have lp : ∀ (m i q : Nat) (h1 : MH) (A0 : Nat) (D : GD), m + i = 48 → PX R h h1 → p < q → RD h1 R T len t q (-1) → TG (q - p) h1 A0 nb D → mj_z h1 ≤ mj_z h + 3 + 4 * (q - p) → pSeq t 38 true f p = pLoop t 38 true f m q D → mj_Wp L xs (d + 1 + 1) 21 10 [some (.ref R), some (.int (nI o)), some (.int (bI nb)), some (.ref A0), some (.int (nI i))] [] h1 Q := by
    intro m
    induction m with
    | zero =>
      intro i q h1 A0 D hi x1 hpq rd1 tg hz hp
      have hi : i = 48 := by omega
      subst hi
      rw [w_21_10]
      simp only [w_21_12, w_21_14, show nI 48 ≤ nI 48 by decide, if_true, w_21_48, w_21_49]
      refine hQ h1 A0 ?_
      rw [hp, pLoop]
      exact ⟨x1, by omega, hz, fun hz => (by cases hz), fun D' hD => ⟨rd1, hpq, by rw [← Option.some.inj hD]; exact tg⟩⟩
    | succ m ih =>
      intro i q h1 A0 D hi x1 hpq rd1 tg hz hp
      have e0 : ¬ nI 48 ≤ nI i := by rw [nI_leI (by omega) (by omega)]; omega
      have e1 : nxC t q (-1) = t q := if_pos rfl
      have isR1 := rd1.2.2.2.1
      rw [pLoop] at hp
      rw [w_21_10]
      simp only [w_21_12, w_21_14, w_21_17, w_21_18, w_21_20, e0, if_false, isR1, k_take rd1 (show 38 < 127 by decide), e1]
      by_cases c : t q = 38
      · rw [if_pos c] at hp
        have hql : q < len := RD_lt rd1 (by omega)
        obtain ⟨h2, hh2⟩ : ∃ h2, h2 = mj_wi h1 R 1 (nI (q + 1)) := ⟨_, rfl⟩
        have x2 : PX R h1 h2 := by rw [hh2]; exact PX_wR PX_rf
        have z2 : mj_z h2 = mj_z h1 := by rw [hh2]; rfl
        obtain ⟨h3, hh3⟩ : ∃ h3, h3 = mj_nw h2 5 3 := ⟨_, rfl⟩
        have x3 : PX R h1 h3 := by rw [hh3]; exact PX_nw x2 (by decide)
        have z3 : mj_z h3 = mj_z h1 + 1 := by rw [hh3, mj_nw_z, z2]
        have nR : R ≠ mj_z h2 := by have := isR1.1; omega
        have rd3 : RD h3 R T len t (q + 1) (-1) := RD_PX rd1 x3 (by omega) (by rw [hh3, mj_nw_io nR, hh2]; simp [mj_i_wi]) (by rw [hh3, mj_nw_io nR, hh2]; simp [mj_i_wi]; exact rd1.2.2.2.2.2.2.2.2.2.2.2.2.2)
        have isP3 : mj_is h3 (mj_z h2) 5 3 := ⟨by omega, by rw [hh3]; exact mj_nw_m⟩
        simp only [c, if_true, w_21_23, w_21_26, w_21_29, w_21_30, w_21_31, w_21_32, w_21_33, w_21_34, n10, if_false, Option.toList, List.cons_append, List.nil_append, ← hh2, ← hh3, rd3.2.2.2.1]
        refine hin (q + 1) h3 _ rd3 (fun h4 A1 po => ?_)
        obtain ⟨x4, l4, z4, pn, ps⟩ := po
        have isP4 := PX_is x4 isP3
        have rP : ∀ j, mj_r h4 (mj_z h2) j = none := fun j => by rw [(x4.2.1 _ isP3.1).2.1, hh3, mj_nw_r]
        simp only [w_21_37, w_21_38, w_21_41, w_21_42, w_21_45, w_35_0, w_35_1, w_35_4, w_35_5, w_35_6, w_35_9, w_35_10, w_35_11, w_35_14, w_35_15, w_35_16, w_35_19, w_26_0, w_26_1, w_26_4, Option.toList, List.cons_append, List.nil_append, isP4, mj_is_wr, mj_is_wi, mj_fit_n0, mj_fit_n1, nI_add]
        obtain ⟨h5, hh5⟩ : ∃ h5, h5 = mj_wi (mj_wr (mj_wr h4 (mj_z h2) 0 (some A0)) (mj_z h2) 1 (some A1)) (mj_z h2) 2 (bI true) := ⟨_, rfl⟩
        have hb : bI true = nI 1 := rfl
        rw [hb] at hh5
        rw [← hh5]
        have x5 : PX R h1 h5 := by rw [hh5]; exact PX_wi (PX_wr (PX_wr (PX_tr x3 x4) (by omega)) (by omega)) (by omega)
        have z5 : mj_z h5 = mj_z h4 := by rw [hh5]; rfl
        have eR : ∀ j, mj_i h5 R j = mj_i h4 R j := fun j => by rw [hh5]; simp [mj_i_wi, mj_i_wr, nR]
        have e45 : ExU h4 h5 := ⟨Nat.le_of_eq z5.symm, fun a _ ha => ⟨by rw [hh5]; rfl, by
          by_cases z : a = mj_z h2
          · rw [z]
            refine Or.inr (Or.inl ⟨?_, rP⟩)
            rw [isP4.2]; decide
          · refine Or.inr (Or.inr ⟨?_, ?_⟩)
            · funext j; rw [hh5, mj_i_ne z, mj_i_wr, mj_i_wr]
            · funext j; rw [hh5]; simp [mj_r_wr, mj_r_wi, z]⟩⟩
        cases hf : f (q + 1) with
        | mk q2 D1 =>
          rw [hf] at hp l4 z4 pn ps
          cases D1 with
          | none =>
            have rd4 := pn rfl
            have rd5 : RD h5 R T len t q2 (nI q2) := RD_PX rd1 x5 rd4.2.2.2.2.2.2.2.2.2.2.2.1 (by rw [eR]; exact rd4.2.2.2.2.2.2.2.2.2.2.2.2.1) (by rw [eR]; exact rd4.2.2.2.2.2.2.2.2.2.2.2.2.2)
            exact flt h5 q2 _ (i + 1) (PX_tr x1 x5) rd5 hp (by dsimp only at l4; omega) (by dsimp only at z4 l4; omega)
          | some D1 =>
            obtain ⟨rd4, lt4, tg4⟩ := ps D1 rfl
            have rd5 : RD h5 R T len t q2 (-1) := RD_PX rd1 x5 rd4.2.2.2.2.2.2.2.2.2.2.2.1 (by rw [eR]; exact rd4.2.2.2.2.2.2.2.2.2.2.2.2.1) (by rw [eR]; exact rd4.2.2.2.2.2.2.2.2.2.2.2.2.2)
            have hmR : (mj_m h1 R).1 = 6 := by rw [isR1.2]
            dsimp only at lt4 z4 l4 tg4
            obtain ⟨tt, htt⟩ : ∃ tt, q2 - p = tt + 1 := ⟨q2 - p - 1, by omega⟩
            have tA := TG_le (ExU_TG (PX_ExU x5 hmR) _ _ _ _ tg) (tt - (q - p))
            have tB := TG_le (ExU_TG e45 _ _ _ _ tg4) (tt - (q2 - (q + 1)))
            rw [show q - p + (tt - (q - p)) = tt by omega] at tA
            rw [show q2 - (q + 1) + (tt - (q2 - (q + 1))) = tt by omega] at tB
            refine ih (i + 1) q2 h5 (mj_z h2) (prD true D D1) (by omega) (PX_tr x1 x5) (by omega) rd5 ?_ (by omega) hp
            rw [htt]
            refine ⟨by have := isR1.1; have := rd1.1; omega, Or.inr (Or.inl ⟨A0, A1, true, D, D1, ?_, ?_, ?_, ?_, tA, tB, rfl⟩)⟩
            · rw [hh5]; simpa only [mj_is_wi, mj_is_wr] using isP4
            · rw [hh5]; simp [mj_r_wr, mj_r_wi]
            · rw [hh5]; simp [mj_r_wr, mj_r_wi]
            · rw [hh5]; simp [mj_i_wi]
      · rw [if_neg c] at hp
        simp only [c, if_false, w_21_23, if_true, w_21_48, w_21_49, Option.toList, List.cons_append, List.nil_append]
        refine hQ h1 A0 ?_
        rw [hp]
        exact ⟨x1, by omega, hz, fun hz => (by cases hz), fun D' hD => ⟨rd1, hpq, by rw [← Option.some.inj hD]; exact tg⟩⟩
  simp only [w_21_0, w_21_1, w_21_2, w_21_3, r.2.2.2.1]
  refine hin p h _ r (fun h1 A0 po => ?_)
  obtain ⟨x1, l1, z1, pn, ps⟩ := po
  simp only [w_21_6, w_21_7, w_21_8, Option.toList, List.cons_append, List.nil_append]
  cases hf : f p with
  | mk q D =>
    rw [hf] at l1 z1 pn ps
    cases D with
    | none => exact flt h1 q A0 0 x1 (pn rfl) (by rw [pSeq, hf]) l1 z1
    | some D =>
      obtain ⟨rd1, lt1, tg1⟩ := ps D rfl
      exact lp 48 0 q h1 A0 D (by omega) x1 lt1 rd1 tg1 z1 (by rw [pSeq, hf])
theorem k_seq20 {f : Nat → Nat × Option GD} {nb : Bool} {o : Nat} (hin : ∀ (p : Nat) (h : MH) (Q : Option Value × MH → Prop), RD h R T len t p (-1) → (∀ h' A, PO h h' R T len t p (f p) A nb → Q (some (.ref A), h')) → mj_Wp L xs (d + 1) 21 0 [some (.ref R), some (.int (nI o)), some (.int (bI nb)), none, none] [] h Q) {h : MH} {p : Nat} (r : RD h R T len t p (-1)) (hQ : ∀ h' A, PO h h' R T len t p (pSeq t 124 false f p) A nb → Q (some (.ref A), h')) : mj_Wp L xs (d + 1 + 1) 20 0 [some (.ref R), some (.int (nI o)), some (.int (bI nb)), none, none] [] h Q := by
  have n10 : ¬ nI 1 = nI 0 := by decide
  -- a fault ends the loop
  have flt : ∀ (h1 : MH) (q A i : Nat), PX R h h1 → RD h1 R T len t q (nI q) → pSeq t 124 false f p = (q, none) → p ≤ q → mj_z h1 ≤ mj_z h + 3 + 4 * (q - p) → mj_Wp L xs (d + 1 + 1) 20 10 [some (.ref R), some (.int (nI o)), some (.int (bI nb)), some (.ref A), some (.int (nI i))] [] h1 Q := by
    intro h1 q A i x1 rd1 hp hpq hz
    have hne : nI q ≠ -1 := nI_nm1 (by have := rd1.2.2.2.2.2.2.2.1; have := rd1.2.2.2.2.2.2.2.2.2.2.2.1; omega)
    have c0 : nxC t q (nI q) = 0 := if_neg hne
    have fin : Q (some (.ref A), h1) := hQ h1 A (by rw [hp]; exact ⟨x1, hpq, hz, fun _ => rd1, fun D hD => by cases hD⟩)
    rw [w_20_10]
    simp only [w_20_12, w_20_14, w_20_17, w_20_18, w_20_20, w_20_23, w_20_48, w_20_49, rd1.2.2.2.1, k_take rd1 (show 124 < 127 by decide), c0, show ¬ (0 = 124) by decide, if_false, if_true, Option.toList, List.cons_append, List.nil_append]
    split
    · exact fin
    · exact fin
  have lp : ∀ (m i q : Nat) (h1 : MH) (A0 : Nat) (D : GD), m + i = 48 → PX R h h1 → p < q → RD h1 R T len t q (-1) → TG (q - p) h1 A0 nb D → mj_z h1 ≤ mj_z h + 3 + 4 * (q - p) → pSeq t 124 false f p = pLoop t 124 false f m q D → mj_Wp L xs (d + 1 + 1) 20 10 [some (.ref R), some (.int (nI o)), some (.int (bI nb)), some (.ref A0), some (.int (nI i))] [] h1 Q := by
    intro m
    induction m with
    | zero =>
      intro i q h1 A0 D hi x1 hpq rd1 tg hz hp
      have hi : i = 48 := by omega
      subst hi
      rw [w_20_10]
      simp only [w_20_12, w_20_14, show nI 48 ≤ nI 48 by decide, if_true, w_20_48, w_20_49]
      refine hQ h1 A0 ?_
      rw [hp, pLoop]
      exact ⟨x1, by omega, hz, fun hz => (by cases hz), fun D' hD => ⟨rd1, hpq, by rw [← Option.some.inj hD]; exact tg⟩⟩
    | succ m ih =>
      intro i q h1 A0 D hi x1 hpq rd1 tg hz hp
      have e0 : ¬ nI 48 ≤ nI i := by rw [nI_leI (by omega) (by omega)]; omega
      have e1 : nxC t q (-1) = t q := if_pos rfl
      have isR1 := rd1.2.2.2.1
      rw [pLoop] at hp
      rw [w_20_10]
      simp only [w_20_12, w_20_14, w_20_17, w_20_18, w_20_20, e0, if_false, isR1, k_take rd1 (show 124 < 127 by decide), e1]
      by_cases c : t q = 124
      · rw [if_pos c] at hp
        have hql : q < len := RD_lt rd1 (by omega)
        obtain ⟨h2, hh2⟩ : ∃ h2, h2 = mj_wi h1 R 1 (nI (q + 1)) := ⟨_, rfl⟩
        have x2 : PX R h1 h2 := by rw [hh2]; exact PX_wR PX_rf
        have z2 : mj_z h2 = mj_z h1 := by rw [hh2]; rfl
        obtain ⟨h3, hh3⟩ : ∃ h3, h3 = mj_nw h2 5 3 := ⟨_, rfl⟩
        have x3 : PX R h1 h3 := by rw [hh3]; exact PX_nw x2 (by decide)
        have z3 : mj_z h3 = mj_z h1 + 1 := by rw [hh3, mj_nw_z, z2]
        have nR : R ≠ mj_z h2 := by have := isR1.1; omega
        have rd3 : RD h3 R T len t (q + 1) (-1) := RD_PX rd1 x3 (by omega) (by rw [hh3, mj_nw_io nR, hh2]; simp [mj_i_wi]) (by rw [hh3, mj_nw_io nR, hh2]; simp [mj_i_wi]; exact rd1.2.2.2.2.2.2.2.2.2.2.2.2.2)
        have isP3 : mj_is h3 (mj_z h2) 5 3 := ⟨by omega, by rw [hh3]; exact mj_nw_m⟩
        simp only [c, if_true, w_20_23, w_20_26, w_20_29, w_20_30, w_20_31, w_20_32, w_20_33, w_20_34, n10, if_false, Option.toList, List.cons_append, List.nil_append, ← hh2, ← hh3, rd3.2.2.2.1]
        refine hin (q + 1) h3 _ rd3 (fun h4 A1 po => ?_)
        obtain ⟨x4, l4, z4, pn, ps⟩ := po
        have isP4 := PX_is x4 isP3
        have rP : ∀ j, mj_r h4 (mj_z h2) j = none := fun j => by rw [(x4.2.1 _ isP3.1).2.1, hh3, mj_nw_r]
        simp only [w_20_37, w_20_38, w_20_41, w_20_42, w_20_45, w_35_0, w_35_1, w_35_4, w_35_5, w_35_6, w_35_9, w_35_10, w_35_11, w_35_14, w_35_15, w_35_16, w_35_19, w_26_0, w_26_1, w_26_4, Option.toList, List.cons_append, List.nil_append, isP4, mj_is_wr, mj_is_wi, mj_fit_n0, mj_fit_n1, nI_add]
        obtain ⟨h5, hh5⟩ : ∃ h5, h5 = mj_wi (mj_wr (mj_wr h4 (mj_z h2) 0 (some A0)) (mj_z h2) 1 (some A1)) (mj_z h2) 2 (bI false) := ⟨_, rfl⟩
        have hb : bI false = nI 0 := rfl
        rw [hb] at hh5
        rw [← hh5]
        have x5 : PX R h1 h5 := by rw [hh5]; exact PX_wi (PX_wr (PX_wr (PX_tr x3 x4) (by omega)) (by omega)) (by omega)
        have z5 : mj_z h5 = mj_z h4 := by rw [hh5]; rfl
        have eR : ∀ j, mj_i h5 R j = mj_i h4 R j := fun j => by rw [hh5]; simp [mj_i_wi, mj_i_wr, nR]
        have e45 : ExU h4 h5 := ⟨Nat.le_of_eq z5.symm, fun a _ ha => ⟨by rw [hh5]; rfl, by
          by_cases z : a = mj_z h2
          · rw [z]
            refine Or.inr (Or.inl ⟨?_, rP⟩)
            rw [isP4.2]; decide
          · refine Or.inr (Or.inr ⟨?_, ?_⟩)
            · funext j; rw [hh5, mj_i_ne z, mj_i_wr, mj_i_wr]
            · funext j; rw [hh5]; simp [mj_r_wr, mj_r_wi, z]⟩⟩
        cases hf : f (q + 1) with
        | mk q2 D1 =>
          rw [hf] at hp l4 z4 pn ps
          cases D1 with
          | none =>
            have rd4 := pn rfl
            have rd5 : RD h5 R T len t q2 (nI q2) := RD_PX rd1 x5 rd4.2.2.2.2.2.2.2.2.2.2.2.1 (by rw [eR]; exact rd4.2.2.2.2.2.2.2.2.2.2.2.2.1) (by rw [eR]; exact rd4.2.2.2.2.2.2.2.2.2.2.2.2.2)
            exact flt h5 q2 _ (i + 1) (PX_tr x1 x5) rd5 hp (by dsimp only at l4; omega) (by dsimp only at z4 l4; omega)
          | some D1 =>
            obtain ⟨rd4, lt4, tg4⟩ := ps D1 rfl
            have rd5 : RD h5 R T len t q2 (-1) := RD_PX rd1 x5 rd4.2.2.2.2.2.2.2.2.2.2.2.1 (by rw [eR]; exact rd4.2.2.2.2.2.2.2.2.2.2.2.2.1) (by rw [eR]; exact rd4.2.2.2.2.2.2.2.2.2.2.2.2.2)
            have hmR : (mj_m h1 R).1 = 6 := by rw [isR1.2]
            dsimp only at lt4 z4 l4 tg4
            obtain ⟨tt, htt⟩ : ∃ tt, q2 - p = tt + 1 := ⟨q2 - p - 1, by omega⟩
            have tA := TG_le (ExU_TG (PX_ExU x5 hmR) _ _ _ _ tg) (tt - (q - p))
            have tB := TG_le (ExU_TG e45 _ _ _ _ tg4) (tt - (q2 - (q + 1)))
            rw [show q - p + (tt - (q - p)) = tt by omega] at tA
            rw [show q2 - (q + 1) + (tt - (q2 - (q + 1))) = tt by omega] at tB
            refine ih (i + 1) q2 h5 (mj_z h2) (prD false D D1) (by omega) (PX_tr x1 x5) (by omega) rd5 ?_ (by omega) hp
            rw [htt]
            refine ⟨by have := isR1.1; have := rd1.1; omega, Or.inr (Or.inl ⟨A0, A1, false, D, D1, ?_, ?_, ?_, ?_, tA, tB, rfl⟩)⟩
            · rw [hh5]; simpa only [mj_is_wi, mj_is_wr] using isP4
            · rw [hh5]; simp [mj_r_wr, mj_r_wi]
            · rw [hh5]; simp [mj_r_wr, mj_r_wi]
            · rw [hh5]; simp [mj_i_wi]
      · rw [if_neg c] at hp
        simp only [c, if_false, w_20_23, if_true, w_20_48, w_20_49, Option.toList, List.cons_append, List.nil_append]
        refine hQ h1 A0 ?_
        rw [hp]
        exact ⟨x1, by omega, hz, fun hz => (by cases hz), fun D' hD => ⟨rd1, hpq, by rw [← Option.some.inj hD]; exact tg⟩⟩
  simp only [w_20_0, w_20_1, w_20_2, w_20_3, r.2.2.2.1]
  refine hin p h _ r (fun h1 A0 po => ?_)
  obtain ⟨x1, l1, z1, pn, ps⟩ := po
  simp only [w_20_6, w_20_7, w_20_8, Option.toList, List.cons_append, List.nil_append]
  cases hf : f p with
  | mk q D =>
    rw [hf] at l1 z1 pn ps
    cases D with
    | none => exact flt h1 q A0 0 x1 (pn rfl) (by rw [pSeq, hf]) l1 z1
    | some D =>
      obtain ⟨rd1, lt1, tg1⟩ := ps D rfl
      exact lp 48 0 q h1 A0 D (by omega) x1 lt1 rd1 tg1 z1 (by rw [pSeq, hf])
end RpK
