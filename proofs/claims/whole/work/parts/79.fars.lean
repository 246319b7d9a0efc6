/-! The reference: how far the states are; findOut. -/
theorem Dst_all {N : Nat} {ok : Nat → Nat → Bool} {af : Nat → Nat → Nat} {gd : Nat → Bool} {D : Nat → Nat} (hA : ∀ s, s < N → ∀ c, c < 32 → ok s c = true → af s c < N) (a : Dst N ok af gd D) : ∀ m s, s < N → D s = m → ∀ j, j ≤ m → ∃ t, t < N ∧ D t = j
  | m, s, hs, hm, j, hj => by
    by_cases hjm : j = m
    · exact ⟨s, hs, by omega⟩
    · cases hg : gd s with
      | true => have := (a s hs).1 hg; omega
      | false =>
        obtain ⟨c, c1, c2, c3⟩ := ((a s hs).2 hg).2
        cases m with
        | zero => omega
        | succ m => exact Dst_all hA a m (af s c) (hA s hs c c1 c2) (by omega) j (by omega)
theorem Dst_lt {N : Nat} {ok : Nat → Nat → Bool} {af : Nat → Nat → Nat} {gd : Nat → Bool} {D : Nat → Nat} (hA : ∀ s, s < N → ∀ c, c < 32 → ok s c = true → af s c < N) (a : Dst N ok af gd D) {s : Nat} (hs : s < N) : D s < N := by
  have h1 := Dst_all hA a (D s) s hs rfl
  have h2 : ∀ j, ∃ t, j ≤ D s → t < N ∧ D t = j := fun j => by
    by_cases hj : j ≤ D s
    · obtain ⟨t, ht⟩ := h1 j hj
      exact ⟨t, fun _ => ht⟩
    · exact ⟨0, fun z => absurd z hj⟩
  obtain ⟨run, hr⟩ := Classical.axiomOfChoice h2
  exact pigeon (run := run) (N := N) (m := D s + 1) (fun i hi => (hr i (by omega)).1) (fun i j h1 h2 z => by
    have e1 := (hr i (by omega)).2
    have e2 := (hr j (by omega)).2
    rw [z] at e1
    omega)
def stF1 (ok : Nat → Nat → Bool) (af : Nat → Nat → Nat) (fr : Nat → Nat) (s c : Nat) : Nat := if ok s c = true then fr (af s c) + 1 else 0
theorem far_ge {N : Nat} {ok : Nat → Nat → Bool} {af : Nat → Nat → Nat} {gd : Nat → Bool} {D fr : Nat → Nat} (hA : ∀ s, s < N → ∀ c, c < 32 → ok s c = true → af s c < N) (a : Dst N ok af gd D) (hf : ∀ s, s < N → gd s = false → mxN (stF1 ok af fr s) 32 ≤ fr s) : ∀ m s, s < N → D s ≤ m → D s ≤ fr s := by
  have hf2 : ∀ s, s < N → gd s = false → ∀ c, c < 32 → ok s c = true → fr (af s c) + 1 ≤ fr s := fun s hs hg c c1 c2 => by
    have h1 := hf s hs hg
    have h2 := mxN_ge (f := stF1 ok af fr s) 32 c1
    rw [stF1, if_pos c2] at h2
    exact Nat.le_trans h2 h1
  clear hf
  intro m
  induction m with
  | zero => intro s hs hm; omega
  | succ m ih =>
    intro s hs hm
    cases hg : gd s with
    | true => rw [(a s hs).1 hg]; exact Nat.zero_le _
    | false =>
      obtain ⟨c, c1, c2, c3⟩ := ((a s hs).2 hg).2
      have h3 := hf2 s hs hg c c1 c2
      have := ih (af s c) (hA s hs c c1 c2) (by omega)
      omega
section FarK
variable {L : Nat} {xs : Nat → Int32} {d : Nat} {Q : Option Value × MH → Prop} {n k e : Nat} {lk : Nat → Nat} {sc : Nat} {en : Nat → Nat} {af : Nat → Nat → Nat} {gd : Nat → Bool}
theorem r_longest {h : MH} {fr D : Nat → Nat} {s : Nat} {X1 : Option Value} (a : RS h n k e lk sc en af gd) (hs : s < k ^ n) (hD : Dst (k ^ n) (fun s => alB sc (en s)) af gd D) (q : ∀ t, t < k ^ n → mj_i h 44 t = nI (fr t) ∧ fr t ≤ D t)
    (hQ : ∀ X Y, mj_Wp L xs (d + 1 + 1) 125 112 [some (.ref 25), X1, some (.int (nI s)), some (.int (nI (if gd s = true then 0 else mxN (stF1 (fun s => alB sc (en s)) af fr s) 32))), X, Y] [] h Q) : ∀ X3 X4 Y, mj_Wp L xs (d + 1 + 1) 125 41 [some (.ref 25), X1, some (.int (nI s)), X3, X4, Y] [] h Q := by
  have n10 : ¬ nI 1 = nI 0 := by decide
  have hN := RB_N a.1
  have hL := a.1.2.2.2.2.2.1
  have hA : ∀ s, s < k ^ n → ∀ c, c < 32 → alB sc (en s) c = true → af s c < k ^ n := fun s hs c hc ho => (a.2.2.2.2 s hs c hc ho).2
  have j1 : mj_in (nI s) 1024 = true := mj_in_nI (by omega) (by omega)
  have j2 : (nI s).toNatClampNeg = s := nI_clamp (by omega)
  obtain ⟨t1, t2, t3⟩ := a.2.2.2.1 s hs
  cases hg : gd s with
  | true =>
    rw [hg] at hQ t3
    intro X3 X4 Y
    simp only [w_125_41, w_125_42, w_125_43, w_125_44, w_125_46, w_125_48, w_125_50, w_125_53, w_125_54, w_125_57, w_125_58, w_125_59, show ¬ nI 32 ≤ nI 1 by decide, if_false, ly_25 hL, lr_25_35 hL, lk_42 hL, ln_42 hL, mj_rv_some, j1, j2, t3, bI_1, n10, not_false_eq_true, if_true]
    exact hQ _ _
  | false =>
    rw [hg] at hQ t3
    simp only [Bool.false_eq_true, if_false] at hQ
    have lp : ∀ (m c : Nat) (Y : Option Value), c + m = 32 → mxN (stF1 (fun s => alB sc (en s)) af fr s) c < 2 ^ 30 → mj_Wp L xs (d + 1 + 1) 125 46 [some (.ref 25), X1, some (.int (nI s)), some (.int (nI (mxN (stF1 (fun s => alB sc (en s)) af fr s) c))), some (.int (nI c)), Y] [] h Q := by
      intro m
      induction m with
      | zero =>
        intro c Y hc _
        have hc : c = 32 := by omega
        rw [w_125_46]
        simp only [w_125_48, w_125_50, hc, Int32.le_refl, if_true]
        exact hQ _ _
      | succ m ih =>
        intro c Y hc hb
        have e0 : ¬ nI 32 ≤ nI c := by rw [nI_leI (by omega) (by omega)]; omega
        have hal : alI sc (en s) (nI c) = alB sc (en s) c := rfl
        rw [w_125_46]
        simp only [w_125_48, w_125_50, w_125_53, w_125_54, w_125_57, w_125_58, w_125_59, w_125_62, w_125_63, w_125_65, w_125_66, w_125_69, w_125_70, w_125_71, e0, if_false, ly_25 hL, lr_25_35 hL, lr_25_33 hL, lk_42 hL, ln_42 hL, lk_40 hL, ln_40 hL, mj_rv_some, j1, j2, t1, t3, bI_0, not_true_eq_false, r_isChoice hL a.2.2.1 a.2.1 t2, hal, Option.toList, List.cons_append, List.nil_append]
        rcases Bool.eq_false_or_eq_true (alB sc (en s) c) with ho | ho
        · obtain ⟨u1, u2⟩ := a.2.2.2.2 s hs c (by omega) ho
          obtain ⟨v1, v2⟩ := q _ u2
          have v3 := Dst_lt hA hD u2
          have k1 : mj_in (nI (af s c)) 1024 = true := mj_in_nI (by omega) (by omega)
          have k2 : (nI (af s c)).toNatClampNeg = af s c := nI_clamp (by omega)
          have es : stF1 (fun s => alB sc (en s)) af fr s c = fr (af s c) + 1 := by rw [stF1, if_pos ho]
          have iha := ih (c + 1) (some (.int (nI (fr (af s c) + 1)))) (by omega) (by rw [mxN, es]; omega)
          rw [mxN, es] at iha
          simp only [ho, bI_1, n10, if_false, w_125_74, w_125_77, w_125_78, w_125_81, w_125_82, w_125_83, w_125_85, w_125_88, w_125_89, w_125_90, w_125_91, w_125_93, w_125_95, w_125_96, w_125_99, w_125_101, w_125_104, w_125_105, w_125_106, w_125_109, ly_25 hL, lr_25_37 hL, lk_44 hL, ln_44 hL, mj_rv_some, r_behind hL a.1.2.2.2.2.2.2.1 a.1.2.1 (show s < 1024 by omega) (show c < 32 by omega), u1, k1, k2, v1, nI_add, Option.toList, List.cons_append, List.nil_append, nI_leI (show fr (af s c) + 1 < 2 ^ 31 by omega) (show mxN (stF1 (fun s => alB sc (en s)) af fr s) c < 2 ^ 31 by omega)]
          by_cases hle : fr (af s c) + 1 ≤ mxN (stF1 (fun s => alB sc (en s)) af fr s) c
          · simp only [hle, if_true]
            rw [Nat.max_eq_left hle] at iha
            exact iha
          · simp only [hle, if_false]
            rw [Nat.max_eq_right (by omega)] at iha
            exact iha
        · have es : stF1 (fun s => alB sc (en s)) af fr s c = 0 := by rw [stF1, if_neg (by rw [ho]; decide)]
          have iha := ih (c + 1) Y (by omega) (by rw [mxN, es]; omega)
          rw [mxN, es, Nat.max_eq_left (Nat.zero_le _)] at iha
          simp only [ho, bI_0, w_125_74, if_true, w_125_106, w_125_109, nI_add]
          exact iha
    intro X3 X4 Y
    have e1 : mxN (stF1 (fun s => alB sc (en s)) af fr s) 1 = 0 := by
      have h0 : alB sc (en s) 0 ≠ true := fun z => by have := RS_ok0 a hs (by decide) z; omega
      rw [mxN, mxN, stF1, if_neg h0]; rfl
    have := lp 31 1 Y (by omega) (by omega)
    rw [e1] at this
    simp only [w_125_41, w_125_42, w_125_43, w_125_44]
    exact this
theorem r_layFars {h : MH} {D : Nat → Nat} (a : RS h n k e lk sc en af gd) (hD : Dst (k ^ n) (fun s => alB sc (en s)) af gd D)
    (hQ : ∀ h', GY h h' → (∀ t, t < k ^ n → mj_i h' 44 t = nI (D t)) → (∀ t, mj_i h' 45 t = mj_i h 45 t) → Q (none, h')) : mj_Wp L xs (d + 1 + 1) 125 0 [some (.ref 25), none, none, none, none, none] [] h Q := by
  have n10 : ¬ nI 1 = nI 0 := by decide
  have hN := RB_N a.1
  have hA : ∀ s, s < k ^ n → ∀ c, c < 32 → alB sc (en s) c = true → af s c < k ^ n := fun s hs c hc ho => (a.2.2.2.2 s hs c hc ho).2
  -- the rounds
  have lpM : ∀ (M : Nat) (h1 : MH) (fr : Nat → Nat) (X2 X3 X4 X5 : Option Value), GY h h1 → (∀ t, mj_i h1 45 t = mj_i h 45 t) → (∀ t, t < k ^ n → mj_i h1 44 t = nI (fr t) ∧ fr t ≤ D t) → smN (fun s => D s - fr s) (k ^ n) < M → mj_Wp L xs (d + 1 + 1) 125 25 [some (.ref 25), some (.int (nI 1)), X2, X3, X4, X5] [] h1 Q := by
    intro M
    induction M with
    | zero => intro h1 fr X2 X3 X4 X5 _ _ _ hM; omega
    | succ M ihM =>
      intro h1 fr X2 X3 X4 X5 g1 r1 q1 hM
      have lp : ∀ (m s : Nat) (h2 : MH) (fr2 : Nat → Nat) (b : Bool) (X3 X4 X5 : Option Value), s + m = k ^ n → GY h h2 → (∀ t, mj_i h2 45 t = mj_i h 45 t) → (∀ t, t < k ^ n → mj_i h2 44 t = nI (fr2 t) ∧ fr2 t ≤ D t) → smN (fun s => D s - fr2 s) (k ^ n) ≤ M → (b = true → smN (fun s => D s - fr2 s) (k ^ n) < M) → (b = false → ∀ u, u < s → gd u = false → mxN (stF1 (fun s => alB sc (en s)) af fr2 u) 32 ≤ fr2 u) → mj_Wp L xs (d + 1 + 1) 125 33 [some (.ref 25), some (.int (bI b)), some (.int (nI s)), X3, X4, X5] [] h2 Q := by
        intro m
        induction m with
        | zero =>
          intro s h2 fr2 b X3 X4 X5 hs g2 r2 q2 hM2 hb hf
          have a2 := GX_RS g2.1 a
          have hs : s = k ^ n := by omega
          rw [w_125_33]
          simp only [w_125_34, w_125_35, w_125_38, w_125_137, ly_25 a2.1.2.2.2.2.2.1, r_states a2.1, Option.toList, List.cons_append, List.nil_append, hs, nI_leI (show k ^ n < 2 ^ 31 by omega) (show k ^ n < 2 ^ 31 by omega), Nat.le_refl, if_true]
          cases b with
          | true => exact ihM h2 fr2 _ _ _ _ g2 r2 q2 (hb rfl)
          | false =>
            simp only [w_125_25, w_125_26, bI_0, if_true, w_125_140]
            rw [hs] at hf
            refine hQ h2 g2 (fun t ht => ?_) r2
            rw [(q2 t ht).1, Nat.le_antisymm (q2 t ht).2 (far_ge hA hD (hf rfl) (D t) t ht (Nat.le_refl _))]
        | succ m ih =>
          intro s h2 fr2 b X3 X4 X5 hs g2 r2 q2 hM2 hb hf
          have a2 := GX_RS g2.1 a
          have hL := a2.1.2.2.2.2.2.1
          have hsN : s < k ^ n := by omega
          have e0 : ¬ k ^ n ≤ s := by omega
          have j1 : mj_in (nI s) 1024 = true := mj_in_nI (by omega) (by omega)
          have j2 : (nI s).toNatClampNeg = s := nI_clamp (by omega)
          obtain ⟨v1, v2⟩ := q2 s hsN
          have v3 := Dst_lt hA hD hsN
          rw [w_125_33]
          simp only [w_125_34, w_125_35, w_125_38, ly_25 hL, r_states a2.1, Option.toList, List.cons_append, List.nil_append, nI_leI (show k ^ n < 2 ^ 31 by omega) (show s < 2 ^ 31 by omega), e0, if_false]
          refine r_longest a2 hsN hD q2 (fun Xa Xb => ?_) _ _ _
          obtain ⟨lg, hlg⟩ : ∃ lg, lg = if gd s = true then 0 else mxN (stF1 (fun s => alB sc (en s)) af fr2 s) 32 := ⟨_, rfl⟩
          rw [← hlg]
          have hlD : lg ≤ D s := by
            rw [hlg]
            split
            · exact Nat.zero_le _
            · next hg =>
              refine mxN_le 32 (fun c hc => ?_)
              rw [stF1]
              split
              · next ho =>
                have h5 := ((hD s hsN).2 (by simpa using hg)).1 c hc ho
                have h6 := (q2 _ (hA s hsN c hc ho)).2
                omega
              · exact Nat.zero_le _
          simp only [w_125_112, w_125_113, w_125_114, w_125_117, w_125_118, w_125_119, ly_25 hL, lr_25_37 hL, lk_44 hL, ln_44 hL, mj_rv_some, j1, j2, v1, nI_leI (show lg < 2 ^ 31 by omega) (show fr2 s < 2 ^ 31 by omega)]
          by_cases hle : lg ≤ fr2 s
          · simp only [hle, if_true, w_125_131, w_125_134, nI_add]
            refine ih (s + 1) h2 fr2 b _ _ _ (by omega) g2 r2 q2 hM2 hb (fun z u hu hgu => ?_)
            by_cases hus : u = s
            · rw [hus] at hgu ⊢
              rw [hgu] at hlg
              simp only [Bool.false_eq_true, if_false] at hlg
              omega
            · exact hf z u (by omega) hgu
          · simp only [hle, if_false, w_125_122, w_125_123, w_125_126, w_125_127, w_125_128, w_125_129, w_125_130, w_125_131, w_125_134, ly_25 hL, lr_25_37 hL, lk_44 hL, ln_44 hL, mj_rv_some, j1, j2, nI_add]
            have hsm := sm_upd (f := fun t => D t - uN fr2 s lg t) (g := fun t => D t - fr2 t) (a := s) (fun i hi => by simp only [uN_o hi]) (k ^ n) hsN
            simp only [uN_s] at hsm
            have := ih (s + 1) (mj_wi h2 44 s (nI lg)) (uN fr2 s lg) true (some (.int (nI lg))) Xa Xb (by omega) (GY_tr g2 (GY_wi (by omega))) (fun t => by rw [mj_i_ne (by decide)]; exact r2 t) (fun t ht => ?_) (by omega) (fun _ => by omega) (fun z => by cases z)
            · rw [bI_1] at this
              exact this
            · rw [mj_i_wi]
              by_cases hts : t = s
              · rw [hts, uN_s]; exact ⟨by simp, hlD⟩
              · rw [uN_o hts]
                simp only [hts, and_false, if_false]
                exact q2 t ht
      simp only [w_125_25, w_125_26, n10, if_false, w_125_29, w_125_30, w_125_31, w_125_32]
      have := lp (k ^ n) 0 h1 fr false X3 X4 X5 (by omega) g1 r1 q1 (by omega) (fun z => by cases z) (fun _ u hu => by omega)
      rw [bI_0] at this
      exact this
  have lp0 : ∀ (m s : Nat) (h1 : MH), s + m = k ^ n → GY h h1 → (∀ t, mj_i h1 45 t = mj_i h 45 t) → (∀ t, t < s → mj_i h1 44 t = nI 0) → mj_Wp L xs (d + 1 + 1) 125 2 [some (.ref 25), some (.int (nI s)), none, none, none, none] [] h1 Q := by
    intro m
    induction m with
    | zero =>
      intro s h1 hs g1 r1 q1
      have a1 := GX_RS g1.1 a
      have hs : s = k ^ n := by omega
      rw [w_125_2]
      simp only [w_125_3, w_125_4, w_125_7, w_125_23, w_125_24, ly_25 a1.1.2.2.2.2.2.1, r_states a1.1, Option.toList, List.cons_append, List.nil_append, hs, nI_leI (show k ^ n < 2 ^ 31 by omega) (show k ^ n < 2 ^ 31 by omega), Nat.le_refl, if_true]
      rw [hs] at q1
      exact lpM _ h1 (fun _ => 0) _ _ _ _ g1 r1 (fun t ht => ⟨q1 t ht, Nat.zero_le _⟩) (Nat.lt_succ_self _)
    | succ m ih =>
      intro s h1 hs g1 r1 q1
      have a1 := GX_RS g1.1 a
      have hL := a1.1.2.2.2.2.2.1
      have e0 : ¬ k ^ n ≤ s := by omega
      have j1 : mj_in (nI s) 1024 = true := mj_in_nI (by omega) (by omega)
      have j2 : (nI s).toNatClampNeg = s := nI_clamp (by omega)
      rw [w_125_2]
      simp only [w_125_3, w_125_4, w_125_7, w_125_10, w_125_11, w_125_14, w_125_15, w_125_16, w_125_17, w_125_20, ly_25 hL, lr_25_37 hL, lk_44 hL, ln_44 hL, mj_rv_some, j1, j2, r_states a1.1, Option.toList, List.cons_append, List.nil_append, nI_leI (show k ^ n < 2 ^ 31 by omega) (show s < 2 ^ 31 by omega), e0, if_false, nI_add]
      refine ih (s + 1) _ (by omega) (GY_tr g1 (GY_wi (by omega))) (fun t => by rw [mj_i_ne (by decide)]; exact r1 t) (fun t ht => ?_)
      rw [mj_i_wi]
      by_cases hts : t = s
      · simp [hts]
      · simp only [hts, and_false, if_false]; exact q1 t (by omega)
  simp only [w_125_0, w_125_1]
  exact lp0 (k ^ n) 0 h (by omega) GY_rf (fun _ => rfl) (fun t ht => by omega)
end FarK
