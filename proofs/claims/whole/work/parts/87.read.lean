/-! The reference's reading, on the machine: the state, and the small methods. -/
def skO (h : MH) : List SE4 → Prop
  | [] => True
  | w :: st => (mj_i h 34 st.length = nI w.1 ∧ mj_i h 35 st.length = bI w.2.1 ∧ mj_i h 36 st.length = bI w.2.2.1 ∧ mj_i h 37 st.length = nI w.2.2.2) ∧ skO h st
theorem skO_cong {h h' : MH} : ∀ st : List SE4, (∀ i, i < st.length → mj_i h' 34 i = mj_i h 34 i ∧ mj_i h' 35 i = mj_i h 35 i ∧ mj_i h' 36 i = mj_i h 36 i ∧ mj_i h' 37 i = mj_i h 37 i) → skO h st → skO h' st
  | [], _, _ => trivial
  | w :: st, q, s => by
    obtain ⟨q1, q2, q3, q4⟩ := q st.length (by simp)
    exact ⟨⟨by rw [q1]; exact s.1.1, by rw [q2]; exact s.1.2.1, by rw [q3]; exact s.1.2.2.1, by rw [q4]; exact s.1.2.2.2⟩, skO_cong st (fun i hi => q i (by simp; omega)) s.2⟩
/-- what is kept while reading -/
def AS (h : MH) : AU → Prop
  | (stk, an, o, qn, sd, cp, ad, gs, en, ss) => Lay h ∧ mj_i h 25 17 = nI stk.length ∧ skO h stk ∧ mj_i h 25 22 = bI an ∧ mj_i h 25 23 = bI o ∧ mj_i h 25 24 = nI qn ∧ mj_i h 25 25 = nI sd ∧ mj_i h 25 26 = nI cp ∧ mj_i h 25 27 = nI ad ∧ mj_i h 31 7 = nI gs.length ∧ cdA (fun p => mj_i h 29 (336 + p)) gs 0 ∧ (∀ i, mj_i h 30 (336 + i) = en i) ∧ mj_i h 33 7 = nI ss.length ∧ cdA (fun p => mj_i h 32 (336 + p)) ss 0
/-- what reading leaves as it was -/
def AX (h h' : MH) : Prop := mj_sx [25, 29, 30, 31, 32, 33, 34, 35, 36, 37] h h' ∧ (∀ j, j ≠ 17 → (j < 22 ∨ 27 < j) → mj_i h' 25 j = mj_i h 25 j) ∧ (∀ i, i < 336 → mj_i h' 29 i = mj_i h 29 i ∧ mj_i h' 30 i = mj_i h 30 i ∧ mj_i h' 32 i = mj_i h 32 i) ∧ ∀ i, i ≠ 7 → mj_i h' 31 i = mj_i h 31 i ∧ mj_i h' 33 i = mj_i h 33 i
theorem AX_rf {h : MH} : AX h h := ⟨sx_rf, fun _ _ _ => rfl, fun _ _ => ⟨rfl, rfl, rfl⟩, fun _ _ => ⟨rfl, rfl⟩⟩
theorem AX_tr {h h' h'' : MH} (a : AX h h') (b : AX h' h'') : AX h h'' := ⟨sx_tr a.1 b.1, fun j h1 h2 => (b.2.1 j h1 h2).trans (a.2.1 j h1 h2), fun i hi => ⟨(b.2.2.1 i hi).1.trans (a.2.2.1 i hi).1, (b.2.2.1 i hi).2.1.trans (a.2.2.1 i hi).2.1, (b.2.2.1 i hi).2.2.trans (a.2.2.1 i hi).2.2⟩, fun i hi => ⟨(b.2.2.2 i hi).1.trans (a.2.2.2 i hi).1, (b.2.2.2 i hi).2.trans (a.2.2.2 i hi).2⟩⟩
theorem AX_25 {h : MH} {j : Nat} {x : Int32} (hj : j = 17 ∨ (22 ≤ j ∧ j ≤ 27)) : AX h (mj_wi h 25 j x) := ⟨sx_wi (by decide), fun i h1 h2 => by rw [mj_i_wi, if_neg (by omega)], fun i hi => ⟨mj_i_ne (by decide), mj_i_ne (by decide), mj_i_ne (by decide)⟩, fun i hi => ⟨mj_i_ne (by decide), mj_i_ne (by decide)⟩⟩
theorem AX_o {h : MH} {a j : Nat} {x : Int32} (ha : a = 34 ∨ a = 35 ∨ a = 36 ∨ a = 37) : AX h (mj_wi h a j x) := ⟨sx_wi (by rcases ha with rfl | rfl | rfl | rfl <;> decide), fun i _ _ => mj_i_ne (by omega), fun i hi => ⟨mj_i_ne (by omega), mj_i_ne (by omega), mj_i_ne (by omega)⟩, fun i hi => ⟨mj_i_ne (by omega), mj_i_ne (by omega)⟩⟩
theorem AX_p {h : MH} {a j : Nat} {x : Int32} (ha : a = 29 ∨ a = 30 ∨ a = 32) (hj : 336 ≤ j) : AX h (mj_wi h a j x) := ⟨sx_wi (by rcases ha with rfl | rfl | rfl <;> decide), fun i _ _ => mj_i_ne (by omega), fun i hi => ⟨by rw [mj_i_wi, if_neg (by omega)], by rw [mj_i_wi, if_neg (by omega)], by rw [mj_i_wi, if_neg (by omega)]⟩, fun i hi => ⟨mj_i_ne (by omega), mj_i_ne (by omega)⟩⟩
theorem AX_7 {h : MH} {a : Nat} {x : Int32} (ha : a = 31 ∨ a = 33) : AX h (mj_wi h a 7 x) := ⟨sx_wi (by rcases ha with rfl | rfl <;> decide), fun i _ _ => mj_i_ne (by omega), fun i hi => ⟨mj_i_ne (by omega), mj_i_ne (by omega), mj_i_ne (by omega)⟩, fun i hi => ⟨by rw [mj_i_wi, if_neg (by omega)], by rw [mj_i_wi, if_neg (by omega)]⟩⟩
section ReadK
variable {L : Nat} {xs : Nat → Int32} {d : Nat} {Q : Option Value × MH → Prop} {h : MH} {stk : List SE4} {an o : Bool} {qn sd cp ad : Nat} {gs : List Nat} {en : Nat → Int32} {ss : List Nat}
theorem r_sign0 {c : Nat} (a : AS h (stk, an, o, qn, sd, cp, ad, gs, en, ss)) (hsd : sd < 2) (hb : gs.length < 48) : mj_Wp L xs d 93 0 [some (.ref 25), some (.int (nI c))] [] h Q ↔ Q (none, mj_wi (mj_wi h 29 (336 + gs.length) (nI c)) 31 7 (nI (gs.length + 1))) := by
  obtain ⟨hL, a1, a2, a3, a4, a5, a6, a7, a8, a9, a10, a11, a12, a13⟩ := id a
  have z : ¬ nI sd = nI 2 := by rw [nI_eq (by omega) (by omega)]; omega
  have e1 : mj_in (nI (336 + gs.length)) 384 = true := mj_in_nI (by omega) (by omega)
  have e2 : (nI (336 + gs.length)).toNatClampNeg = 336 + gs.length := nI_clamp (by omega)
  have e3 : mj_i (mj_wi h 29 (336 + gs.length) (nI c)) 31 7 = nI gs.length := by rw [mj_i_ne (by decide)]; exact a9
  simp only [w_93_0, w_93_1, w_93_4, w_93_5, w_93_39, w_93_40, w_93_43, w_93_46, w_93_47, w_93_50, w_93_52, w_93_53, w_93_54, w_93_55, w_93_56, w_93_57, w_93_60, w_93_62, w_93_63, w_93_64, w_93_65, w_93_66, w_93_67, ly_25 hL, lr_25_12 hL, lr_25_14 hL, lk_29 hL, ln_29 hL, lk_31 hL, ln_31 hL, mj_rv_some, a6, z, not_false_eq_true, if_true, show mj_in (nI 7) 8 = true by decide, show (nI 7).toNatClampNeg = 7 by decide, a9, nI_add, e1, e2, mj_is_wi, mj_ik_wi, mj_ln_wi, mj_r_wi, e3]
theorem AS_sign {c : Nat} {h' : MH} (a : AS h (stk, an, o, qn, sd, cp, ad, gs, en, ss)) (hh : h' = mj_wi (mj_wi h 29 (336 + gs.length) (nI c)) 31 7 (nI (gs.length + 1))) : AS h' (stk, an, o, qn, sd, cp, ad, gs ++ [c], en, ss) ∧ AX h h' := by
  obtain ⟨hL, a1, a2, a3, a4, a5, a6, a7, a8, a9, a10, a11, a12, a13⟩ := id a
  have ei : ∀ b, b ≠ 29 → b ≠ 31 → ∀ j, mj_i h' b j = mj_i h b j := fun b b1 b2 j => by rw [hh, mj_i_ne b2, mj_i_ne b1]
  refine ⟨⟨by rw [hh]; exact Lay_wi.mpr (Lay_wi.mpr hL), by rw [ei 25 (by decide) (by decide)]; exact a1, skO_cong _ (fun i _ => ⟨ei 34 (by decide) (by decide) i, ei 35 (by decide) (by decide) i, ei 36 (by decide) (by decide) i, ei 37 (by decide) (by decide) i⟩) a2, by rw [ei 25 (by decide) (by decide)]; exact a3, by rw [ei 25 (by decide) (by decide)]; exact a4, by rw [ei 25 (by decide) (by decide)]; exact a5, by rw [ei 25 (by decide) (by decide)]; exact a6, by rw [ei 25 (by decide) (by decide)]; exact a7, by rw [ei 25 (by decide) (by decide)]; exact a8, by rw [hh]; simp [mj_i_wi], ?_, fun i => by rw [ei 30 (by decide) (by decide)]; exact a11 i, by rw [ei 33 (by decide) (by decide)]; exact a12, cdA_cong _ _ (fun i _ _ => ei 32 (by decide) (by decide) _) a13⟩, by rw [hh]; exact AX_tr (AX_p (by omega) (by omega)) (AX_7 (by omega))⟩
  rw [cdA_app]
  refine ⟨cdA_cong _ _ (fun i _ hi => ?_) a10, ?_, trivial⟩
  · rw [hh, mj_i_ne (by decide), mj_i_wi, if_neg (by omega)]
  · dsimp only
    rw [hh, mj_i_ne (by decide), mj_i_wi, if_pos ⟨rfl, by omega⟩]
theorem r_sign {c : Nat} (a : AS h (stk, an, o, qn, sd, cp, ad, gs, en, ss)) (hsd : sd < 2) (hb : gs.length < 48) (hQ : ∀ h', AX h h' → AS h' (stk, an, o, qn, sd, cp, ad, gs ++ [c], en, ss) → Q (none, h')) : mj_Wp L xs d 93 0 [some (.ref 25), some (.int (nI c))] [] h Q := by
  rw [r_sign0 a hsd hb]
  obtain ⟨h1, h2⟩ := AS_sign (c := c) a rfl
  exact hQ _ h2 h1
theorem r_sign2 {c : Nat} (a : AS h (stk, an, o, qn, sd, cp, ad, gs, en, ss)) (hsd : sd ≤ 2) (hb : gs.length + ss.length < 48) (hQ : ∀ h', AX h h' → AS h' (aAp [c] (stk, an, o, qn, sd, cp, ad, gs, en, ss)) → Q (none, h')) : mj_Wp L xs d 93 0 [some (.ref 25), some (.int (nI c))] [] h Q := by
  by_cases h2 : sd = 2
  · obtain ⟨hL, a1, a2, a3, a4, a5, a6, a7, a8, a9, a10, a11, a12, a13⟩ := id a
    have e1 : mj_in (nI (336 + ss.length)) 384 = true := mj_in_nI (by omega) (by omega)
    have e2 : (nI (336 + ss.length)).toNatClampNeg = 336 + ss.length := nI_clamp (by omega)
    have e3 : mj_i (mj_wi h 32 (336 + ss.length) (nI c)) 33 7 = nI ss.length := by rw [mj_i_ne (by decide)]; exact a12
    obtain ⟨h', hh⟩ : ∃ h', h' = mj_wi (mj_wi h 32 (336 + ss.length) (nI c)) 33 7 (nI (ss.length + 1)) := ⟨_, rfl⟩
    have ei : ∀ b, b ≠ 32 → b ≠ 33 → ∀ j, mj_i h' b j = mj_i h b j := fun b b1 b2 j => by rw [hh, mj_i_ne b2, mj_i_ne b1]
    have fin : AS h' (stk, an, o, qn, sd, cp, ad, gs, en, ss ++ [c]) := by
      refine ⟨by rw [hh]; exact Lay_wi.mpr (Lay_wi.mpr hL), by rw [ei 25 (by decide) (by decide)]; exact a1, skO_cong _ (fun i _ => ⟨ei 34 (by decide) (by decide) i, ei 35 (by decide) (by decide) i, ei 36 (by decide) (by decide) i, ei 37 (by decide) (by decide) i⟩) a2, by rw [ei 25 (by decide) (by decide)]; exact a3, by rw [ei 25 (by decide) (by decide)]; exact a4, by rw [ei 25 (by decide) (by decide)]; exact a5, by rw [ei 25 (by decide) (by decide)]; exact a6, by rw [ei 25 (by decide) (by decide)]; exact a7, by rw [ei 25 (by decide) (by decide)]; exact a8, by rw [ei 31 (by decide) (by decide)]; exact a9, cdA_cong _ _ (fun i _ _ => ei 29 (by decide) (by decide) _) a10, fun i => by rw [ei 30 (by decide) (by decide)]; exact a11 i, by rw [hh]; simp [mj_i_wi], ?_⟩
      rw [cdA_app]
      refine ⟨cdA_cong _ _ (fun i _ hi => ?_) a13, ?_, trivial⟩
      · rw [hh, mj_i_ne (by decide), mj_i_wi, if_neg (by omega)]
      · dsimp only
        rw [hh, mj_i_ne (by decide), mj_i_wi, if_pos ⟨rfl, by omega⟩]
    have eap : aAp [c] (stk, an, o, qn, sd, cp, ad, gs, en, ss) = (stk, an, o, qn, sd, cp, ad, gs, en, ss ++ [c]) := by rw [aAp, if_pos h2]
    rw [h2] at a6
    simp only [w_93_0, w_93_1, w_93_4, w_93_5, w_93_8, w_93_9, w_93_12, w_93_15, w_93_16, w_93_19, w_93_21, w_93_22, w_93_23, w_93_24, w_93_25, w_93_26, w_93_29, w_93_31, w_93_32, w_93_33, w_93_34, w_93_35, w_93_36, w_93_67, ly_25 hL, lr_25_15 hL, lr_25_16 hL, lk_32 hL, ln_32 hL, lk_33 hL, ln_33 hL, mj_rv_some, a6, not_true_eq_false, if_false, show mj_in (nI 7) 8 = true by decide, show (nI 7).toNatClampNeg = 7 by decide, a12, nI_add, e1, e2, mj_is_wi, mj_ik_wi, mj_ln_wi, mj_r_wi, e3, ← hh]
    refine hQ h' (by rw [hh]; exact AX_tr (AX_p (by omega) (by omega)) (AX_7 (by omega))) ?_
    rw [eap]; exact fin
  · refine r_sign a (by omega) (by omega) (fun h' x y => hQ h' x ?_)
    rw [aAp, if_neg h2]; exact y
theorem r_isPart1 {c : Nat} (hc : c < 127) : mj_Wp L xs d 92 0 [some (.ref 25), some (.int (nI c)), none] [] h Q ↔ mj_Wp L xs d 92 72 [some (.ref 25), some (.int (nI c)), some (.int (bI (isP false c)))] [] h Q := by
  have zc : ∀ j, j < 127 → (nI c = nI j) = (c = j) := fun j hj => by rw [nI_eq (by omega) (by omega)]
  simp only [w_92_0, w_92_1, w_92_3, w_92_6, w_92_7, w_92_9, w_92_12, w_92_13, w_92_15, w_92_18, w_92_19, w_92_21, w_92_24, w_92_25, w_92_27, w_92_30, w_92_31, w_92_33, w_92_36, w_92_37, w_92_39, w_92_42, w_92_43, w_92_45, w_92_48, w_92_49, w_92_51, w_92_54, w_92_55, w_92_57, w_92_60, w_92_61, w_92_63, w_92_66, w_92_67, w_92_70, w_92_71, nI_ltI (show c < 2 ^ 31 by omega) (show 48 < 2 ^ 31 by decide), nI_leI (show c < 2 ^ 31 by omega) (show 57 < 2 ^ 31 by decide), zc 120 (by decide), zc 105 (by decide), zc 100 (by decide), zc 109 (by decide), zc 77 (by decide), zc 108 (by decide), zc 117 (by decide), zc 110 (by decide), zc 107 (by decide)]
  by_cases hP : isP false c = true
  · have h1 := isP_ok.mp hP
    rw [hP, bI_1]
    simp only [okN, okC, Bool.false_eq_true, false_and, or_false] at h1
    rcases h1 with ⟨h1, h2⟩ | rfl | rfl | rfl | rfl | rfl | rfl | rfl | rfl | rfl
    · simp only [show ¬ c < 48 by omega, h2, if_true, if_false]
    all_goals simp
  · have h1 : ¬ okN false c := fun z => hP (isP_ok.mpr z)
    rw [show isP false c = false by simpa using hP, bI_0]
    simp only [okN, okC, Bool.false_eq_true, false_and, or_false] at h1
    have k1 : ¬ c = 120 := by omega
    have k2 : ¬ c = 105 := by omega
    have k3 : ¬ c = 100 := by omega
    have k4 : ¬ c = 109 := by omega
    have k5 : ¬ c = 77 := by omega
    have k6 : ¬ c = 108 := by omega
    have k7 : ¬ c = 117 := by omega
    have k8 : ¬ c = 110 := by omega
    have k9 : ¬ c = 107 := by omega
    by_cases h48 : c < 48
    · simp only [h48, k1, k2, k3, k4, k5, k6, k7, k8, k9, not_false_eq_true, if_true, if_false]
    · simp only [h48, show ¬ c ≤ 57 by omega, k1, k2, k3, k4, k5, k6, k7, k8, k9, not_false_eq_true, if_true, if_false]
theorem r_isPart {c : Nat} (a : AS h (stk, an, o, qn, sd, cp, ad, gs, en, ss)) (hc : c < 127) (hq : qn ≤ 8) (hsd : sd ≤ 2) : mj_Wp L xs d 92 0 [some (.ref 25), some (.int (nI c)), none] [] h Q ↔ Q (some (.int (bI (isP (decide (0 < qn) && decide (sd ≠ 2)) c))), h) := by
  have n10 : ¬ nI 1 = nI 0 := by decide
  obtain ⟨hL, a1, a2, a3, a4, a5, a6, a7, a8, a9, a10, a11, a12, a13⟩ := id a
  have zc : ∀ j, j < 127 → (nI c = nI j) = (c = j) := fun j hj => by rw [nI_eq (by omega) (by omega)]
  have z2 : (nI sd = nI 2) = (sd = 2) := by rw [nI_eq (by omega) (by omega)]
  have ep : ∀ nb, isP nb c = (isP false c || (nb && (c == 121 || c == 106))) := fun nb => by simp [isP]
  rw [r_isPart1 hc, ep (decide (0 < qn) && decide (sd ≠ 2))]
  simp only [w_92_72, w_92_73, w_92_76, w_92_77, w_92_80, w_92_83, w_92_84, w_92_87, w_92_88, w_92_91, w_92_92, w_92_94, w_92_97, w_92_98, w_92_100, w_92_103, w_92_104, w_92_107, w_92_108, ly_25 hL, a5, a6, z2, zc 121 (by decide), zc 106 (by decide), nI_leI (show qn < 2 ^ 31 by omega) (show 0 < 2 ^ 31 by decide), mj_fit_n0, mj_fit_n1]
  by_cases hP : isP false c = true
  · simp only [hP, bI_1, n10, not_false_eq_true, if_true, Bool.true_or]
  · have hP' : isP false c = false := by simpa using hP
    simp only [hP', bI_0, not_true_eq_false, if_false, Bool.false_or]
    by_cases h1 : qn ≤ 0
    · simp [h1, show ¬ 0 < qn by omega, bI]
    · by_cases h2 : sd = 2
      · simp [h1, h2, bI]
      · by_cases h3 : c = 121
        · simp [h1, h2, h3, show 0 < qn by omega, bI]
        · by_cases h4 : c = 106
          · simp [h1, h2, h4, show 0 < qn by omega, bI]
          · simp [h1, h2, h3, h4, bI]
end ReadK
