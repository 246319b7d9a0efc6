/-! The reference's reading: there is always room; endTest, endBoth, endComparison. -/
def b2n (b : Bool) : Nat := if b = true then 1 else 0
def nz (x : Nat) : Nat := if x = 0 then 0 else 1
def qC : List SE4 → Nat
  | [] => 0
  | w :: st => qC st + (if w.1 = 40 ∨ w.1 = 33 then 0 else 1)
def potS : List SE4 → Nat
  | [] => 0
  | w :: st => potS st + (if w.1 = 33 then 1 else if w.1 = 40 then b2n w.2.1 + b2n w.2.2.1 else 0)
/-- how many words are written or still owed -/
def pot : AU → Nat
  | (stk, an, o, _, _, cp, ad, gs, _, ss) => gs.length + ss.length + nz ad + nz cp + b2n an + b2n o + potS stk
def WF (due : Nat) : AU → Prop
  | (stk, _, _, qn, sd, cp, ad, _, _, _) => sd ≤ 2 ∧ stk.length ≤ 8 ∧ qn = qC stk ∧ (∀ w, w ∈ stk → w.1 < 127 ∧ w.2.2.2 < 48) ∧ cp < 127 ∧ ad < 127 ∧ (due = 4 → sd = 1 ∧ tpO stk) ∧ (due = 0 → sd ≠ 2) ∧ (due ≠ 0 → due ≠ 4 → sd = 1 → cp ≠ 0) ∧ due ≤ 4
theorem qC_le : ∀ stk : List SE4, qC stk ≤ stk.length
  | [] => Nat.le_refl _
  | w :: st => by
    have := qC_le st
    rw [qC, List.length_cons]
    split <;> omega
theorem popT_pot : ∀ (stk : List SE4) (qn : Nat) (gs : List Nat) (en : Nat → Int32), ((popT stk qn gs en).2.2.1.length + potS (popT stk qn gs en).1 = gs.length + potS stk) ∧ (popT stk qn gs en).1.length ≤ stk.length ∧ (qn = qC stk → (popT stk qn gs en).2.1 = qC (popT stk qn gs en).1) ∧ (∀ w, w ∈ (popT stk qn gs en).1 → w ∈ stk) ∧ tpO (popT stk qn gs en).1
  | [], qn, gs, en => ⟨rfl, Nat.le_refl _, fun h => h, fun w h => h, fun w st e => by cases e⟩
  | w :: st, qn, gs, en => by
    rw [popT]
    by_cases h40 : w.1 = 40
    · rw [if_pos h40]
      exact ⟨rfl, Nat.le_refl _, fun h => h, fun w h => h, fun w' st' e => by cases e; exact h40⟩
    · rw [if_neg h40]
      by_cases h33 : w.1 = 33
      · rw [if_pos h33]
        obtain ⟨i1, i2, i3, i4, i5⟩ := popT_pot st qn (gs ++ [33]) en
        refine ⟨?_, by rw [List.length_cons]; omega, fun h => i3 ?_, fun w' h => List.mem_cons_of_mem _ (i4 w' h), i5⟩
        · rw [i1, potS, if_pos h33]; simp; omega
        · rw [h, qC, if_pos (Or.inr h33)]; rfl
      · rw [if_neg h33]
        obtain ⟨i1, i2, i3, i4, i5⟩ := popT_pot st (qn - 1) gs (uI en w.2.2.2 (nI gs.length))
        refine ⟨?_, by rw [List.length_cons]; omega, fun h => i3 ?_, fun w' h => List.mem_cons_of_mem _ (i4 w' h), i5⟩
        · rw [i1, potS, if_neg h33, if_neg h40]; omega
        · rw [h, qC, if_neg (by omega)]; omega
theorem orL_len {o : Bool} {c : Nat} {gs : List Nat} : (orL o c gs).length = gs.length + b2n o := by
  cases o <;> simp [orL, b2n]
theorem aET_pot {σ : AU} : pot (aET σ) = pot σ := by
  obtain ⟨stk, an, o, qn, sd, cp, ad, gs, en, ss⟩ := σ
  have h1 := (popT_pot stk qn gs en).1
  simp only [aET, pot, orL_len]
  have : b2n false = 0 := rfl
  omega
section EndK
variable {L : Nat} {xs : Nat → Int32} {d : Nat} {Q : Option Value × MH → Prop} {an o : Bool} {sd cp ad : Nat} {ss : List Nat}
theorem r_popT (hsd : sd < 2) : ∀ (stk : List SE4) (qn : Nat) (gs : List Nat) (en : Nat → Int32) (h : MH), AS h (stk, an, o, qn, sd, cp, ad, gs, en, ss) → stk.length ≤ 8 → qn = qC stk → (∀ w, w ∈ stk → w.1 < 127 ∧ w.2.2.2 < 48) → gs.length + potS stk ≤ 48 →
    (∀ h', AX h h' → AS h' ((popT stk qn gs en).1, an, o, (popT stk qn gs en).2.1, sd, cp, ad, (popT stk qn gs en).2.2.1, (popT stk qn gs en).2.2.2, ss) → mj_Wp L xs (d + 1) 97 94 [some (.ref 25)] [] h' Q) → mj_Wp L xs (d + 1) 97 0 [some (.ref 25)] [] h Q := by
  intro stk
  induction stk with
  | nil =>
    intro qn gs en h a _ _ _ _ hQ
    obtain ⟨hL, a1, a2, a3, a4, a5, a6, a7, a8, a9, a10, a11, a12, a13⟩ := id a
    simp only [w_97_0, w_97_1, w_97_4, ly_25 hL, a1, List.length_nil, Int32.le_refl, if_true]
    exact hQ h AX_rf a
  | cons w st ih =>
    intro qn gs en h a hl hq hw hp hQ
    obtain ⟨hL, a1, ⟨⟨s1, s2, s3, s4⟩, a2⟩, a3, a4, a5, a6, a7, a8, a9, a10, a11, a12, a13⟩ := id a
    rw [List.length_cons] at a1 hl
    obtain ⟨w1, w2⟩ := hw w (by simp)
    have e0 : ¬ nI (st.length + 1) ≤ nI 0 := by rw [nI_leI (by omega) (by omega)]; omega
    have e1 : mj_in (nI st.length) 8 = true := mj_in_nI (by omega) (by omega)
    have e2 : (nI st.length).toNatClampNeg = st.length := nI_clamp (by omega)
    have z40 : (nI w.1 = nI 40) = (w.1 = 40) := by rw [nI_eq (by omega) (by omega)]
    have z33 : (nI w.1 = nI 33) = (w.1 = 33) := by rw [nI_eq (by omega) (by omega)]
    rw [popT] at hQ
    simp only [w_97_0, w_97_1, w_97_4, w_97_7, w_97_8, w_97_11, w_97_12, w_97_15, w_97_16, w_97_17, w_97_18, w_97_20, ly_25 hL, lr_25_18 hL, lk_34 hL, ln_34 hL, mj_rv_some, a1, e0, if_false, nI_s1, e1, e2, s1, z40]
    by_cases h40 : w.1 = 40
    · rw [if_pos h40] at hQ
      simp only [h40, if_true]
      exact hQ h AX_rf a
    · rw [if_neg h40] at hQ
      obtain ⟨h1, hh1⟩ : ∃ h1, h1 = mj_wi h 25 17 (nI st.length) := ⟨_, rfl⟩
      have x1 : AX h h1 := by rw [hh1]; exact AX_25 (by omega)
      have r1 : ∀ b j, ¬ (b = 25 ∧ j = 17) → mj_i h1 b j = mj_i h b j := fun b j hb => by rw [hh1, mj_i_wi, if_neg hb]
      have as1 : AS h1 (st, an, o, qn, sd, cp, ad, gs, en, ss) := by
        refine ⟨sx_Lay x1.1 hL, by rw [hh1]; simp [mj_i_wi], skO_cong _ (fun i _ => ⟨r1 _ _ (by omega), r1 _ _ (by omega), r1 _ _ (by omega), r1 _ _ (by omega)⟩) a2, by rw [r1 _ _ (by omega)]; exact a3, by rw [r1 _ _ (by omega)]; exact a4, by rw [r1 _ _ (by omega)]; exact a5, by rw [r1 _ _ (by omega)]; exact a6, by rw [r1 _ _ (by omega)]; exact a7, by rw [r1 _ _ (by omega)]; exact a8, by rw [r1 _ _ (by omega)]; exact a9, cdA_cong _ _ (fun i _ _ => r1 _ _ (by omega)) a10, fun i => by rw [r1 _ _ (by omega)]; exact a11 i, by rw [r1 _ _ (by omega)]; exact a12, cdA_cong _ _ (fun i _ _ => r1 _ _ (by omega)) a13⟩
      have hL1 := as1.1
      have t1 : mj_i h1 25 17 = nI st.length := as1.2.1
      have s1' : mj_i h1 34 st.length = nI w.1 := by rw [r1 _ _ (by omega)]; exact s1
      have s4' : mj_i h1 37 st.length = nI w.2.2.2 := by rw [r1 _ _ (by omega)]; exact s4
      have hwt : ∀ w', w' ∈ st → w'.1 < 127 ∧ w'.2.2.2 < 48 := fun w' h => hw w' (List.mem_cons_of_mem _ h)
      simp only [h40, if_false, w_97_23, w_97_24, w_97_25, w_97_28, w_97_29, w_97_30, w_97_33, w_97_34, w_97_37, w_97_38, w_97_41, w_97_42, w_97_44, ly_25 hL, a1, nI_s1, ← hh1, ly_25 hL1, lr_25_18 hL1, lk_34 hL1, ln_34 hL1, mj_rv_some, t1, e1, e2, s1', z33]
      by_cases h33 : w.1 = 33
      · rw [if_pos h33] at hQ
        rw [potS, if_pos h33] at hp
        simp only [h33, not_true_eq_false, if_false, w_97_47, w_97_48, w_97_50, ly_25 hL1]
        refine r_sign as1 hsd (by omega) (fun h2 x2 as2 => ?_)
        simp only [w_97_53, Option.toList, List.nil_append]
        exact ih qn (gs ++ [33]) en h2 as2 (by omega) (by rw [hq, qC, if_pos (Or.inr h33)]; rfl) hwt (by simp; omega) (fun h' x' as' => hQ h' (AX_tr x1 (AX_tr x2 x')) as')
      · rw [if_neg h33] at hQ
        rw [potS, if_neg h33, if_neg h40] at hp
        have hq1 : qn = qC st + 1 := by rw [hq, qC, if_neg (by omega)]
        have t24 : mj_i h1 25 24 = nI (qC st + 1) := by rw [← hq1]; exact as1.2.2.2.2.2.1
        obtain ⟨h2, hh2⟩ : ∃ h2, h2 = mj_wi h1 25 24 (nI (qC st)) := ⟨_, rfl⟩
        have hL2 : Lay h2 := by rw [hh2]; exact Lay_wi.mpr hL1
        have r2 : ∀ b j, ¬ (b = 25 ∧ j = 24) → mj_i h2 b j = mj_i h1 b j := fun b j hb => by rw [hh2, mj_i_wi, if_neg hb]
        have t17 : mj_i h2 25 17 = nI st.length := by rw [r2 _ _ (by omega)]; exact t1
        have t37 : mj_i h2 37 st.length = nI w.2.2.2 := by rw [r2 _ _ (by omega)]; exact s4'
        have t31 : mj_i h2 31 7 = nI gs.length := by rw [r2 _ _ (by omega)]; exact as1.2.2.2.2.2.2.2.2.2.1
        have i1 : mj_in (nI (336 + w.2.2.2)) 384 = true := mj_in_nI (by omega) (by omega)
        have i2 : (nI (336 + w.2.2.2)).toNatClampNeg = 336 + w.2.2.2 := nI_clamp (by omega)
        obtain ⟨h3, hh3⟩ : ∃ h3, h3 = mj_wi h2 30 (336 + w.2.2.2) (nI gs.length) := ⟨_, rfl⟩
        have x2 : AX h1 h2 := by rw [hh2]; exact AX_25 (by omega)
        have x3 : AX h h3 := AX_tr x1 (AX_tr x2 (by rw [hh3]; exact AX_p (by omega) (by omega)))
        have r3 : ∀ b j, b ≠ 30 → ¬ (b = 25 ∧ j = 24) → mj_i h3 b j = mj_i h1 b j := fun b j hb hc => by rw [hh3, mj_i_ne hb, r2 b j hc]
        simp only [h33, not_false_eq_true, if_true, w_97_56, w_97_57, w_97_58, w_97_61, w_97_62, w_97_63, w_97_66, w_97_67, w_97_70, w_97_73, w_97_74, w_97_77, w_97_78, w_97_81, w_97_82, w_97_83, w_97_84, w_97_87, w_97_89, w_97_90, w_97_91, ly_25 hL1, t24, nI_s1, ← hh2, ly_25 hL2, lr_25_13 hL2, lr_25_14 hL2, lr_25_21 hL2, lk_30 hL2, ln_30 hL2, lk_31 hL2, ln_31 hL2, lk_37 hL2, ln_37 hL2, mj_rv_some, t17, e1, e2, t37, nI_add, i1, i2, show mj_in (nI 7) 8 = true by decide, show (nI 7).toNatClampNeg = 7 by decide, t31, ← hh3]
        obtain ⟨-, b1, b2, b3, b4, b5, b6, b7, b8, b9, b10, b11, b12, b13⟩ := id as1
        refine ih (qn - 1) gs (uI en w.2.2.2 (nI gs.length)) h3 ⟨sx_Lay x3.1 hL, by rw [r3 _ _ (by omega) (by omega)]; exact b1, skO_cong _ (fun i _ => ⟨r3 _ _ (by omega) (by omega), r3 _ _ (by omega) (by omega), r3 _ _ (by omega) (by omega), r3 _ _ (by omega) (by omega)⟩) b2, by rw [r3 _ _ (by omega) (by omega)]; exact b3, by rw [r3 _ _ (by omega) (by omega)]; exact b4, ?_, by rw [r3 _ _ (by omega) (by omega)]; exact b6, by rw [r3 _ _ (by omega) (by omega)]; exact b7, by rw [r3 _ _ (by omega) (by omega)]; exact b8, by rw [r3 _ _ (by omega) (by omega)]; exact b9, cdA_cong _ _ (fun i _ _ => r3 _ _ (by omega) (by omega)) b10, fun i => ?_, by rw [r3 _ _ (by omega) (by omega)]; exact b12, cdA_cong _ _ (fun i _ _ => r3 _ _ (by omega) (by omega)) b13⟩ (by omega) (by omega) hwt (by omega) (fun h' x' as' => hQ h' (AX_tr x3 x') as')
        · rw [hh3, mj_i_ne (by decide), hh2, hq1]; simp [mj_i_wi]
        · rw [hh3, mj_i_wi, uI]
          by_cases hi : i = w.2.2.2
          · rw [if_pos hi, if_pos ⟨rfl, by omega⟩]
          · rw [if_neg hi, if_neg (by omega), r2 _ _ (by omega)]; exact b11 i
theorem r_endTest {h : MH} {stk : List SE4} {qn : Nat} {gs : List Nat} {en : Nat → Int32} (a : AS h (stk, an, o, qn, sd, cp, ad, gs, en, ss)) (hsd : sd < 2) (hl : stk.length ≤ 8) (hq : qn = qC stk) (hw : ∀ w, w ∈ stk → w.1 < 127 ∧ w.2.2.2 < 48) (hp : pot (stk, an, o, qn, sd, cp, ad, gs, en, ss) ≤ 48) (hQ : ∀ h', AX h h' → AS h' (aET (stk, an, o, qn, sd, cp, ad, gs, en, ss)) → Q (none, h')) : mj_Wp L xs (d + 1) 97 0 [some (.ref 25)] [] h Q := by
  have n10 : ¬ nI 1 = nI 0 := by decide
  rw [pot] at hp
  have hpp := (popT_pot stk qn gs en).1
  rw [aET] at hQ
  refine r_popT hsd stk qn gs en h a hl hq hw (by omega) (fun h1 x1 as1 => ?_)
  generalize popT stk qn gs en = r at *
  obtain ⟨stk', qn', gs', en'⟩ := r
  dsimp only at *
  -- the flag goes
  have clr : ∀ (h2 : MH) (g2 : List Nat), AX h h2 → AS h2 (stk', an, o, qn', sd, cp, ad, g2, en', ss) → g2 = orL an 38 gs' → mj_Wp L xs (d + 1) 97 107 [some (.ref 25)] [] h2 Q := by
    intro h2 g2 x2 as2 hg
    obtain ⟨hL, a1, a2, a3, a4, a5, a6, a7, a8, a9, a10, a11, a12, a13⟩ := id as2
    simp only [w_97_107, w_97_108, w_97_109, w_97_112, ly_25 hL, mj_fit_n0]
    have r2 : ∀ b j, ¬ (b = 25 ∧ j = 22) → mj_i (mj_wi h2 25 22 (nI 0)) b j = mj_i h2 b j := fun b j hb => by rw [mj_i_wi, if_neg hb]
    refine hQ _ (AX_tr x2 (AX_25 (by omega))) ?_
    rw [← hg]
    exact ⟨Lay_wi.mpr hL, by rw [r2 _ _ (by omega)]; exact a1, skO_cong _ (fun i _ => ⟨r2 _ _ (by omega), r2 _ _ (by omega), r2 _ _ (by omega), r2 _ _ (by omega)⟩) a2, by simp [mj_i_wi, bI], by rw [r2 _ _ (by omega)]; exact a4, by rw [r2 _ _ (by omega)]; exact a5, by rw [r2 _ _ (by omega)]; exact a6, by rw [r2 _ _ (by omega)]; exact a7, by rw [r2 _ _ (by omega)]; exact a8, by rw [r2 _ _ (by omega)]; exact a9, cdA_cong _ _ (fun i _ _ => r2 _ _ (by omega)) a10, fun i => by rw [r2 _ _ (by omega)]; exact a11 i, by rw [r2 _ _ (by omega)]; exact a12, cdA_cong _ _ (fun i _ _ => r2 _ _ (by omega)) a13⟩
  have hL1 := as1.1
  have t22 : mj_i h1 25 22 = bI an := as1.2.2.2.1
  simp only [w_97_94, w_97_95, w_97_98, ly_25 hL1, t22]
  cases an with
  | false =>
    simp only [bI_0, if_true]
    exact clr h1 gs' x1 as1 rfl
  | true =>
    have hb1 : b2n true = 1 := rfl
    simp only [bI_1, n10, if_false, w_97_101, w_97_102, w_97_104, ly_25 hL1]
    refine r_sign as1 hsd (by omega) (fun h2 x2 as2 => ?_)
    simp only [Option.toList, List.nil_append]
    exact clr h2 _ (AX_tr x1 x2) as2 rfl
theorem r_endBoth {h : MH} {stk : List SE4} {qn : Nat} {gs : List Nat} {en : Nat → Int32} (a : AS h (stk, an, o, qn, sd, cp, ad, gs, en, ss)) (hsd : sd < 2) (hp : gs.length + b2n o ≤ 48) (hQ : ∀ h', AX h h' → AS h' (stk, an, false, qn, sd, cp, ad, orL o 124 gs, en, ss) → Q (none, h')) : mj_Wp L xs (d + 1) 99 0 [some (.ref 25)] [] h Q := by
  have n10 : ¬ nI 1 = nI 0 := by decide
  have clr : ∀ (h2 : MH) (g2 : List Nat), AX h h2 → AS h2 (stk, an, o, qn, sd, cp, ad, g2, en, ss) → g2 = orL o 124 gs → mj_Wp L xs (d + 1) 99 13 [some (.ref 25)] [] h2 Q := by
    intro h2 g2 x2 as2 hg
    obtain ⟨hL, a1, a2, a3, a4, a5, a6, a7, a8, a9, a10, a11, a12, a13⟩ := id as2
    simp only [w_99_13, w_99_14, w_99_15, w_99_18, ly_25 hL, mj_fit_n0]
    have r2 : ∀ b j, ¬ (b = 25 ∧ j = 23) → mj_i (mj_wi h2 25 23 (nI 0)) b j = mj_i h2 b j := fun b j hb => by rw [mj_i_wi, if_neg hb]
    refine hQ _ (AX_tr x2 (AX_25 (by omega))) ?_
    rw [← hg]
    exact ⟨Lay_wi.mpr hL, by rw [r2 _ _ (by omega)]; exact a1, skO_cong _ (fun i _ => ⟨r2 _ _ (by omega), r2 _ _ (by omega), r2 _ _ (by omega), r2 _ _ (by omega)⟩) a2, by rw [r2 _ _ (by omega)]; exact a3, by simp [mj_i_wi, bI], by rw [r2 _ _ (by omega)]; exact a5, by rw [r2 _ _ (by omega)]; exact a6, by rw [r2 _ _ (by omega)]; exact a7, by rw [r2 _ _ (by omega)]; exact a8, by rw [r2 _ _ (by omega)]; exact a9, cdA_cong _ _ (fun i _ _ => r2 _ _ (by omega)) a10, fun i => by rw [r2 _ _ (by omega)]; exact a11 i, by rw [r2 _ _ (by omega)]; exact a12, cdA_cong _ _ (fun i _ _ => r2 _ _ (by omega)) a13⟩
  have hL := a.1
  have t23 : mj_i h 25 23 = bI o := a.2.2.2.2.1
  simp only [w_99_0, w_99_1, w_99_4, ly_25 hL, t23]
  cases o with
  | false =>
    simp only [bI_0, if_true]
    exact clr h gs AX_rf a rfl
  | true =>
    have hb1 : b2n true = 1 := rfl
    simp only [bI_1, n10, if_false, w_99_7, w_99_8, w_99_10, ly_25 hL]
    refine r_sign a hsd (by omega) (fun h2 x2 as2 => ?_)
    simp only [Option.toList, List.nil_append]
    exact clr h2 _ x2 as2 rfl
theorem r_endCmp {h : MH} {stk : List SE4} {qn : Nat} {gs : List Nat} {en : Nat → Int32} (a : AS h (stk, an, o, qn, sd, cp, ad, gs, en, ss)) (hsd : sd < 2) (hc : cp ≠ 0) (hl : stk.length ≤ 8) (hq : qn = qC stk) (hw : ∀ w, w ∈ stk → w.1 < 127 ∧ w.2.2.2 < 48) (hp : pot (stk, an, o, qn, sd, cp, ad, gs, en, ss) ≤ 48) (hQ : ∀ h', AX h h' → AS h' (aEC (stk, an, o, qn, sd, cp, ad, gs, en, ss)) → Q (none, h')) : mj_Wp L xs (d + 1 + 1) 96 0 [some (.ref 25)] [] h Q := by
  have hL := a.1
  have t26 : mj_i h 25 26 = nI cp := a.2.2.2.2.2.2.2.1
  rw [pot] at hp
  have hnz : nz cp = 1 := if_neg hc
  simp only [w_96_0, w_96_1, w_96_2, w_96_5, ly_25 hL, t26]
  refine r_sign a hsd (by omega) (fun h1 x1 as1 => ?_)
  obtain ⟨hL1, a1, a2, a3, a4, a5, a6, a7, a8, a9, a10, a11, a12, a13⟩ := id as1
  have r2 : ∀ b j, ¬ (b = 25 ∧ j = 26) → mj_i (mj_wi h1 25 26 (nI 0)) b j = mj_i h1 b j := fun b j hb => by rw [mj_i_wi, if_neg hb]
  have as2 : AS (mj_wi h1 25 26 (nI 0)) (stk, an, o, qn, sd, 0, ad, gs ++ [cp], en, ss) := ⟨Lay_wi.mpr hL1, by rw [r2 _ _ (by omega)]; exact a1, skO_cong _ (fun i _ => ⟨r2 _ _ (by omega), r2 _ _ (by omega), r2 _ _ (by omega), r2 _ _ (by omega)⟩) a2, by rw [r2 _ _ (by omega)]; exact a3, by rw [r2 _ _ (by omega)]; exact a4, by rw [r2 _ _ (by omega)]; exact a5, by rw [r2 _ _ (by omega)]; exact a6, by simp [mj_i_wi], by rw [r2 _ _ (by omega)]; exact a8, by rw [r2 _ _ (by omega)]; exact a9, cdA_cong _ _ (fun i _ _ => r2 _ _ (by omega)) a10, fun i => by rw [r2 _ _ (by omega)]; exact a11 i, by rw [r2 _ _ (by omega)]; exact a12, cdA_cong _ _ (fun i _ _ => r2 _ _ (by omega)) a13⟩
  simp only [w_96_8, w_96_9, w_96_10, w_96_13, w_96_14, Option.toList, List.nil_append, ly_25 hL1, mj_is_wi]
  refine r_endTest as2 hsd hl hq hw ?_ (fun h' x' as' => ?_)
  · rw [pot]
    have : nz 0 = 0 := rfl
    simp only [List.length_append, List.length_cons, List.length_nil]
    omega
  · simp only [w_96_17, Option.toList, List.nil_append]
    exact hQ h' (AX_tr x1 (AX_tr (AX_25 (by omega)) x')) as'
end EndK
