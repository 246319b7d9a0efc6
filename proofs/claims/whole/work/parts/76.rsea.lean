/-! The reference: its search. -/
def RS (h : MH) (n k e : Nat) (lk : Nat → Nat) (sc : Nat) (en : Nat → Nat) (af : Nat → Nat → Nat) (gd : Nat → Bool) : Prop := RB h n k e lk ∧ sc < 3 ∧ mj_i h 25 7 = nI sc ∧ (∀ s, s < k ^ n → mj_i h 40 s = nI (en s) ∧ en s < 32 ∧ mj_i h 42 s = bI (gd s)) ∧ ∀ s, s < k ^ n → ∀ c, c < 32 → alB sc (en s) c = true → afF (fun a => mj_i h 41 (5 * s + a)) c (nI s) n = nI (af s c) ∧ af s c < k ^ n
/-- what the search leaves as it was -/
def GX (h h' : MH) : Prop := mj_sx [25, 43, 44, 45] h h' ∧ ∀ j, j ≠ 38 → mj_i h' 25 j = mj_i h 25 j
theorem GX_rf {h : MH} : GX h h := ⟨sx_rf, fun _ _ => rfl⟩
theorem GX_tr {h h' h'' : MH} (a : GX h h') (b : GX h' h'') : GX h h'' := ⟨sx_tr a.1 b.1, fun j hj => (b.2 j hj).trans (a.2 j hj)⟩
theorem GX_wi {h : MH} {a j : Nat} {x : Int32} (ha : a = 43 ∨ a = 44 ∨ a = 45) : GX h (mj_wi h a j x) := ⟨sx_wi (by rcases ha with rfl | rfl | rfl <;> decide), fun j _ => mj_i_ne (by omega)⟩
theorem GX_38 {h : MH} {x : Int32} : GX h (mj_wi h 25 38 x) := ⟨sx_wi (by decide), fun j hj => by simp [mj_i_wi, hj]⟩
theorem GX_RS {h h' : MH} {n k e : Nat} {lk : Nat → Nat} {sc : Nat} {en : Nat → Nat} {af : Nat → Nat → Nat} {gd : Nat → Bool} (q : GX h h') (a : RS h n k e lk sc en af gd) : RS h' n k e lk sc en af gd := by
  obtain ⟨a1, a2, a3, a4, a5⟩ := a
  refine ⟨RB_sx q.1 (by decide) (fun j hj => q.2 j (by omega)) a1, a2, by rw [q.2 7 (by decide)]; exact a3, fun s hs => ?_, fun s hs c hc ho => ?_⟩
  · rw [sx_i q.1 (by decide), sx_i q.1 (by decide)]; exact a4 s hs
  · have := a5 s hs c hc ho
    have e1 : (fun a => mj_i h' 41 (5 * s + a)) = fun a => mj_i h 41 (5 * s + a) := by funext a; rw [sx_i q.1 (by decide)]
    rw [e1]; exact this
def fcF (p : Nat → Bool) : Nat → Nat → Nat
  | 0, _ => 0
  | m + 1, c => if p c = true then c else fcF p m (c + 1)
theorem fc_cases {p : Nat → Bool} : ∀ m c, (fcF p m c = 0 ∧ ∀ j, c ≤ j → j < c + m → p j = false) ∨ (∃ j, c ≤ j ∧ j < c + m ∧ fcF p m c = j ∧ p j = true ∧ ∀ i, c ≤ i → i < j → p i = false)
  | 0, c => Or.inl ⟨rfl, fun j h1 h2 => by omega⟩
  | m + 1, c => by
    rw [fcF]
    by_cases h : p c = true
    · rw [if_pos h]
      exact Or.inr ⟨c, Nat.le_refl _, by omega, rfl, h, fun i h1 h2 => by omega⟩
    · rw [if_neg h]
      have h' : p c = false := by simpa using h
      rcases fc_cases (p := p) m (c + 1) with ⟨h1, h2⟩ | ⟨j, h1, h2, h3, h4, h5⟩
      · refine Or.inl ⟨h1, fun j j1 j2 => ?_⟩
        by_cases hj : j = c
        · rw [hj]; exact h'
        · exact h2 j (by omega) (by omega)
      · refine Or.inr ⟨j, by omega, by omega, h3, h4, fun i i1 i2 => ?_⟩
        by_cases hi : i = c
        · rw [hi]; exact h'
        · exact h5 i (by omega) i2
section SeaK
variable {L : Nat} {xs : Nat → Int32} {d : Nat} {Q : Option Value × MH → Prop} {n k e : Nat} {lk : Nat → Nat} {sc : Nat} {en : Nat → Nat} {af : Nat → Nat → Nat} {gd : Nat → Bool}
theorem RS_ok0 {h : MH} (a : RS h n k e lk sc en af gd) {s c : Nat} (hs : s < k ^ n) (hc : c < 32) (ho : alB sc (en s) c = true) : 1 ≤ c := (alB_lt (a.2.2.2.1 s hs).2.1 hc ho).1
theorem r_choiceTo {h : MH} {s : Nat} {b : Bool} {P : Nat → Bool} (a : RS h n k e lk sc en af gd) (hs : s < k ^ n) (hP : (b = true ∧ ∀ t, t < k ^ n → mj_i h 43 t = bI (P t)) ∨ (b = false ∧ ∀ t, t < k ^ n → mj_i h 42 t = bI (!(P t)))) : mj_Wp L xs (d + 1) 120 0 [some (.ref 25), some (.int (nI s)), some (.int (nI 0)), some (.int (bI b)), none, none] [] h Q ↔ Q (some (.int (nI (fcF (fun c => alB sc (en s) c && P (af s c)) 31 1))), h) := by
  have n10 : ¬ nI 1 = nI 0 := by decide
  have hN := RB_N a.1
  have hL := a.1.2.2.2.2.2.1
  have i1 : mj_in (nI s) 1024 = true := mj_in_nI (by omega) (by omega)
  have i2 : (nI s).toNatClampNeg = s := nI_clamp (by omega)
  obtain ⟨t1, t2, t3⟩ := a.2.2.2.1 s hs
  have lp : ∀ (m c : Nat) (X : Option Value), c + m = 32 → (mj_Wp L xs (d + 1) 120 3 [some (.ref 25), some (.int (nI s)), some (.int (nI 0)), some (.int (bI b)), some (.int (nI c)), X] [] h Q ↔ Q (some (.int (nI (fcF (fun c => alB sc (en s) c && P (af s c)) m c))), h)) := by
    intro m
    induction m with
    | zero =>
      intro c X hc
      have hc : c = 32 := by omega
      rw [w_120_3]
      simp only [w_120_5, w_120_7, w_120_71, w_120_72, hc, Int32.le_refl, if_true, fcF]
    | succ m ih =>
      intro c X hc
      have e0 : ¬ nI 32 ≤ nI c := by rw [nI_leI (by omega) (by omega)]; omega
      have hal : alI sc (en s) (nI c) = alB sc (en s) c := rfl
      rw [w_120_3]
      simp only [w_120_5, w_120_7, w_120_10, w_120_11, w_120_13, w_120_14, w_120_17, w_120_18, w_120_19, e0, if_false, ly_25 hL, lr_25_33 hL, lk_40 hL, ln_40 hL, mj_rv_some, i1, i2, t1, r_isChoice hL a.2.2.1 a.2.1 t2, hal, fcF]
      rcases Bool.eq_false_or_eq_true (alB sc (en s) c) with ho | ho
      rotate_left
      · simp only [ho, Option.toList, List.cons_append, List.nil_append, w_120_22, bI_0, if_true, w_120_65, w_120_68, nI_add, Bool.false_and, Bool.false_eq_true, if_false]
        exact ih (c + 1) X (by omega)
      · obtain ⟨u1, u2⟩ := a.2.2.2.2 s hs c (by omega) ho
        have j1 : mj_in (nI (af s c)) 1024 = true := mj_in_nI (by omega) (by omega)
        have j2 : (nI (af s c)).toNatClampNeg = af s c := nI_clamp (by omega)
        simp only [ho, Option.toList, List.cons_append, List.nil_append, w_120_22, w_120_25, w_120_26, w_120_27, w_120_29, w_120_32, w_120_34, bI_1, n10, if_false, ly_25 hL, r_behind hL a.1.2.2.2.2.2.2.1 a.1.2.1 (show s < 1024 by omega) (show c < 32 by omega), u1, Bool.true_and]
        rcases hP with ⟨rfl, hP⟩ | ⟨rfl, hP⟩
        · simp only [w_120_35, bI_1, n10, if_false, w_120_38, w_120_39, w_120_42, w_120_44, w_120_48, w_120_62, w_120_64, w_120_65, w_120_68, ly_25 hL, lr_25_36 hL, lk_43 hL, ln_43 hL, mj_rv_some, j1, j2, hP _ u2, nI_add]
          rcases Bool.eq_false_or_eq_true (P (af s c)) with hp | hp
          rotate_left
          · simp only [hp, w_120_45, w_120_65, w_120_68, nI_add, bI_0, if_true, Bool.false_eq_true, if_false]
            have := ih (c + 1) (some (.int (nI (af s c)))) (by omega)
            exact this
          · simp only [hp, w_120_45, w_120_48, w_120_62, w_120_64, bI_1, n10, if_true, if_false]
        · simp only [w_120_35, bI_0, if_true, w_120_51, w_120_52, w_120_55, w_120_57, w_120_58, w_120_59, w_120_62, w_120_64, w_120_65, w_120_68, ly_25 hL, lr_25_35 hL, lk_42 hL, ln_42 hL, mj_rv_some, j1, j2, hP _ u2, nI_add]
          rcases Bool.eq_false_or_eq_true (P (af s c)) with hp | hp
          rotate_left
          · simp only [hp, Bool.not_false, bI_1, n10, not_false_eq_true, if_true, Bool.false_eq_true, if_false]
            have := ih (c + 1) (some (.int (nI (af s c)))) (by omega)
            exact this
          · simp only [hp, Bool.not_true, bI_0, not_true_eq_false, if_true, if_false]
  simp only [w_120_0, w_120_1]
  exact lp 31 1 none (by omega)
theorem r_leaves {h : MH} (a : RS h n k e lk sc en af gd)
    (ht : ∀ (h' : MH) (s c : Nat), GX h h' → Fst (fun s => ∃ c, P1 (k ^ n) (fun s => alB sc (en s)) af gd s c) s → Fst (P1 (k ^ n) (fun s => alB sc (en s)) af gd s) c → mj_i h' 45 0 = nI s → mj_i h' 45 1 = nI (af s c) → mj_i h' 25 38 = nI 2 → Q (some (.int (nI 1)), h'))
    (hf : (∀ s c, ¬ P1 (k ^ n) (fun s => alB sc (en s)) af gd s c) → Q (some (.int (nI 0)), h)) : mj_Wp L xs (d + 1 + 1) 119 0 [some (.ref 25), none, none] [] h Q := by
  have n10 : ¬ nI 1 = nI 0 := by decide
  have hN := RB_N a.1
  have hL := a.1.2.2.2.2.2.1
  have lp : ∀ (m s : Nat) (X : Option Value), s + m = k ^ n → (∀ u c, u < s → ¬ P1 (k ^ n) (fun s => alB sc (en s)) af gd u c) → mj_Wp L xs (d + 1 + 1) 119 2 [some (.ref 25), some (.int (nI s)), X] [] h Q := by
    intro m
    induction m with
    | zero =>
      intro s X hs q
      have hs : s = k ^ n := by omega
      rw [w_119_2]
      simp only [w_119_3, w_119_4, w_119_7, w_119_67, w_119_68, ly_25 hL, r_states a.1, Option.toList, List.cons_append, List.nil_append, hs, nI_leI (show k ^ n < 2 ^ 31 by omega) (show k ^ n < 2 ^ 31 by omega), Nat.le_refl, if_true, mj_fit_n0]
      exact hf (fun u c z => q u c (by have := z.1; omega) z)
    | succ m ih =>
      intro s X hs q
      have hsN : s < k ^ n := by omega
      have e0 : ¬ k ^ n ≤ s := by omega
      have i1 : mj_in (nI s) 1024 = true := mj_in_nI (by omega) (by omega)
      have i2 : (nI s).toNatClampNeg = s := nI_clamp (by omega)
      obtain ⟨t1, t2, t3⟩ := a.2.2.2.1 s hsN
      rw [w_119_2]
      simp only [w_119_3, w_119_4, w_119_7, w_119_10, w_119_11, w_119_14, w_119_15, w_119_16, ly_25 hL, lr_25_35 hL, lk_42 hL, ln_42 hL, mj_rv_some, i1, i2, t3, r_states a.1, Option.toList, List.cons_append, List.nil_append, nI_leI (show k ^ n < 2 ^ 31 by omega) (show s < 2 ^ 31 by omega), e0, if_false]
      cases hg : gd s with
      | false =>
        simp only [bI_0, if_true, w_119_29, w_119_30, w_119_31, w_119_32, w_119_61, w_119_64, nI_add, Int32.le_refl]
        refine ih (s + 1) _ (by omega) (fun u c hu z => ?_)
        by_cases hus : u = s
        · rw [hus] at z; have := z.2.1; rw [hg] at this; cases this
        · exact q u c (by omega) z
      | true =>
        simp only [bI_1, n10, if_false, w_119_19, w_119_20, w_119_21, w_119_22, w_119_23, ly_25 hL, mj_fit_n0]
        have ct := r_choiceTo (L := L) (xs := xs) (d := d) (b := false) (P := fun t => !(gd t)) (Q := fun r => mj_Wp L xs (d + 1 + 1) 119 26 [some (.ref 25), some (.int (nI s)), X] (r.1.toList ++ []) r.2 Q) a hsN (Or.inr ⟨rfl, fun t htn => by rw [Bool.not_not]; exact (a.2.2.2.1 t htn).2.2⟩)
        rw [bI_0] at ct
        rw [ct]
        simp only [Option.toList, List.cons_append, List.nil_append, w_119_26, w_119_30, w_119_31, w_119_32]
        rcases fc_cases (p := fun c => alB sc (en s) c && !(gd (af s c))) 31 1 with ⟨h1, h2⟩ | ⟨c, h1, h2, h3, h4, h5⟩
        · rw [h1]
          simp only [Int32.le_refl, if_true, w_119_61, w_119_64, nI_add]
          refine ih (s + 1) _ (by omega) (fun u c hu z => ?_)
          by_cases hus : u = s
          · rw [hus] at z
            obtain ⟨z1, z2, z3, z4, z5⟩ := z
            have := h2 c (RS_ok0 a hsN z3 z4) (by omega)
            simp only [z4, z5] at this
            cases this
          · exact q u c (by omega) z
        · rw [h3]
          rw [Bool.and_eq_true] at h4
          obtain ⟨u1, u2⟩ := a.2.2.2.2 s hsN c (by omega) h4.1
          have hle : ¬ nI c ≤ nI 0 := by rw [nI_leI (by omega) (by omega)]; omega
          obtain ⟨h6, hh6⟩ : ∃ h6, h6 = mj_wi h 45 0 (nI s) := ⟨_, rfl⟩
          have g6 : GX h h6 := by rw [hh6]; exact GX_wi (by omega)
          have a6 := GX_RS g6 a
          have hL6 := a6.1.2.2.2.2.2.1
          obtain ⟨v1, v2⟩ := a6.2.2.2.2 s hsN c (by omega) h4.1
          simp only [hle, if_false, w_119_35, w_119_36, w_119_39, w_119_40, w_119_41, w_119_42, w_119_43, w_119_46, w_119_47, w_119_48, w_119_49, w_119_50, w_119_53, w_119_54, w_119_55, w_119_56, w_119_59, w_119_60, ly_25 hL, lr_25_39 hL, lk_45 hL, ln_45 hL, mj_rv_some, show mj_in (nI 0) 1100 = true by decide, show (nI 0).toNatClampNeg = 0 by decide, ← hh6, ly_25 hL6, lr_25_39 hL6, lk_45 hL6, ln_45 hL6, r_behind hL6 a6.1.2.2.2.2.2.2.1 a6.1.2.1 (show s < 1024 by omega) (show c < 32 by omega), v1, Option.toList, List.cons_append, List.nil_append, show mj_in (nI 1) 1100 = true by decide, show (nI 1).toNatClampNeg = 1 by decide, mj_is_wi, mj_fit_n1]
          refine ht _ s c (GX_tr g6 (GX_tr (GX_wi (by omega)) GX_38)) ⟨⟨c, hsN, hg, by omega, h4.1, by simpa using h4.2⟩, fun u hu z => ?_⟩ ⟨⟨hsN, hg, by omega, h4.1, by simpa using h4.2⟩, fun u hu z => ?_⟩ ?_ ?_ ?_
          · obtain ⟨c', z⟩ := z
            exact q u c' hu z
          · obtain ⟨z1, z2, z3, z4, z5⟩ := z
            have := h5 u (RS_ok0 a hsN z3 z4) hu
            simp only [z4, z5] at this
            cases this
          · rw [mj_i_ne (by decide), mj_i_wi, hh6]; simp [mj_i_wi]
          · rw [mj_i_ne (by decide)]; simp [mj_i_wi]
          · simp [mj_i_wi]
  simp only [w_119_0, w_119_1]
  exact lp (k ^ n) 0 _ (by omega) (fun u c hu => by omega)
theorem r_stuck {h : MH} (a : RS h n k e lk sc en af gd)
    (ht : ∀ (h' : MH) (s : Nat), GX h h' → Fst (P2 (k ^ n) en gd) s → mj_i h' 45 0 = nI s → mj_i h' 25 38 = nI 1 → Q (some (.int (nI 1)), h'))
    (hf : (∀ s, ¬ P2 (k ^ n) en gd s) → Q (some (.int (nI 0)), h)) : mj_Wp L xs (d + 1 + 1) 123 0 [some (.ref 25), none] [] h Q := by
  have n10 : ¬ nI 1 = nI 0 := by decide
  have hN := RB_N a.1
  have hL := a.1.2.2.2.2.2.1
  have lp : ∀ (m s : Nat), s + m = k ^ n → (∀ u, u < s → ¬ P2 (k ^ n) en gd u) → mj_Wp L xs (d + 1 + 1) 123 2 [some (.ref 25), some (.int (nI s))] [] h Q := by
    intro m
    induction m with
    | zero =>
      intro s hs q
      have hs : s = k ^ n := by omega
      rw [w_123_2]
      simp only [w_123_3, w_123_4, w_123_7, w_123_48, w_123_49, ly_25 hL, r_states a.1, Option.toList, List.cons_append, List.nil_append, hs, nI_leI (show k ^ n < 2 ^ 31 by omega) (show k ^ n < 2 ^ 31 by omega), Nat.le_refl, if_true, mj_fit_n0]
      exact hf (fun u z => q u (by have := z.1; omega) z)
    | succ m ih =>
      intro s hs q
      have hsN : s < k ^ n := by omega
      have e0 : ¬ k ^ n ≤ s := by omega
      have i1 : mj_in (nI s) 1024 = true := mj_in_nI (by omega) (by omega)
      have i2 : (nI s).toNatClampNeg = s := nI_clamp (by omega)
      obtain ⟨t1, t2, t3⟩ := a.2.2.2.1 s hsN
      have z0 : (nI (en s) = nI 0) = (en s = 0) := by rw [nI_eq (by omega) (by omega)]
      rw [w_123_2]
      simp only [w_123_3, w_123_4, w_123_7, w_123_10, w_123_11, w_123_14, w_123_15, w_123_16, w_123_19, w_123_20, w_123_23, w_123_24, w_123_25, w_123_42, w_123_45, nI_add, ly_25 hL, lr_25_35 hL, lr_25_33 hL, lk_42 hL, ln_42 hL, lk_40 hL, ln_40 hL, mj_rv_some, i1, i2, t1, t3, z0, r_states a.1, Option.toList, List.cons_append, List.nil_append, nI_leI (show k ^ n < 2 ^ 31 by omega) (show s < 2 ^ 31 by omega), e0, if_false]
      cases hg : gd s with
      | true =>
        simp only [bI_1, n10, not_false_eq_true, if_true]
        refine ih (s + 1) (by omega) (fun u hu z => ?_)
        by_cases hus : u = s
        · rw [hus] at z; have := z.2.1; rw [hg] at this; cases this
        · exact q u (by omega) z
      | false =>
        simp only [bI_0, not_true_eq_false, if_false]
        by_cases hz : en s = 0
        · simp only [hz, not_true_eq_false, if_false, w_123_28, w_123_29, w_123_32, w_123_33, w_123_34, w_123_35, w_123_36, w_123_37, w_123_40, w_123_41, ly_25 hL, lr_25_39 hL, lk_45 hL, ln_45 hL, mj_rv_some, show mj_in (nI 0) 1100 = true by decide, show (nI 0).toNatClampNeg = 0 by decide, mj_is_wi, mj_fit_n1]
          exact ht _ s (GX_tr (GX_wi (by omega)) GX_38) ⟨⟨hsN, hg, hz⟩, fun u hu z => q u hu z⟩ (by rw [mj_i_ne (by decide)]; simp [mj_i_wi]) (by simp [mj_i_wi])
        · simp only [hz, not_false_eq_true, if_true]
          refine ih (s + 1) (by omega) (fun u hu z => ?_)
          by_cases hus : u = s
          · rw [hus] at z; exact hz z.2.2
          · exact q u (by omega) z
  simp only [w_123_0, w_123_1]
  exact lp (k ^ n) 0 (by omega) (fun u hu => by omega)
end SeaK
