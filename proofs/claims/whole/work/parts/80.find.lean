/-! The reference: what it holds; findOut. -/
def KN (h : MH) (n k : Nat) (lk : Nat → Nat) (rn : Nat) (G : Nat → GD) (sm : SM) (ak : Nat) (GA : GD) (sc : Nat) : Prop := TR h n k lk rn G sm ak GA (k ^ n) ∧ ∃ (vd rl : Nat) (run D : Nat → Nat), SR (k ^ n) (enS n k lk rn G) (fun s => alB sc (enS n k lk rn G s)) (afS n k lk rn G sm) (gdS n k lk rn G ak GA) vd rl run D ∧ vd < 4 ∧ mj_i h 25 32 = nI vd ∧ mj_i h 25 38 = nI rl ∧ rl ≤ 1025 ∧ (∀ i, i < rl → mj_i h 45 i = nI (run i)) ∧ (vd = 0 → ∀ s, s < k ^ n → mj_i h 44 s = nI (D s))
def RK (h : MH) (n k : Nat) (lk : Nat → Nat) (rn : Nat) (G : Nat → GD) (sm : SM) (ak : Nat) (GA : GD) (sc : Nat) : Prop := mj_i h 25 31 = nI 0 ∨ (mj_i h 25 31 = nI 1 ∧ KN h n k lk rn G sm ak GA sc)
/-- what the reference holds, in plain words -/
def RI (h : MH) (n k e : Nat) (lk : Nat → Nat) (rn : Nat) (G : Nat → GD) (sm : SM) (ak : Nat) (GA : GD) (sc s : Nat) (stp mov : Int32) (ty : Nat) (tx : Nat → Nat) : Prop := RB h n k e lk ∧ RR h rn G sm ∧ RA h ak GA ∧ (sc < 3 ∧ mj_i h 25 7 = nI sc) ∧ RK h n k lk rn G sm ak GA sc ∧ s < k ^ n ∧ (∀ j, j < n → mj_i h 27 j = nI (dg n k s j)) ∧ (mj_i h 25 9 = nI ty ∧ ty ≤ 48 ∧ ∀ i, i < ty → mj_i h 28 i = nI (tx i) ∧ 32 ≤ tx i ∧ tx i ≤ 126) ∧ mj_i h 25 5 = stp ∧ mj_i h 25 6 = mov
section FindK
variable {L : Nat} {xs : Nat → Int32} {d : Nat} {Q : Option Value × MH → Prop} {h : MH} {n k e : Nat} {lk : Nat → Nat} {rn : Nat} {G : Nat → GD} {sm : SM} {ak : Nat} {GA : GD} {sc s : Nat} {stp mov : Int32} {ty : Nat} {tx : Nat → Nat}
/-- rows 38 to 45 and some words may change, if nothing is known any more or all is known -/
theorem RI_of {h' : MH} (a : RI h n k e lk rn G sm ak GA sc s stp mov ty tx) (q : mj_sx [25, 38, 39, 40, 41, 42, 43, 44, 45] h h') (q25 : ∀ j, j ≠ 30 → j ≠ 31 → j ≠ 32 → j ≠ 38 → mj_i h' 25 j = mj_i h 25 j) (rk : RK h' n k lk rn G sm ak GA sc) : RI h' n k e lk rn G sm ak GA sc s stp mov ty tx := by
  obtain ⟨a1, a2, a3, a4, a5, a6, a7, a8, a9, a10⟩ := a
  refine ⟨RB_sx q (by decide) (fun j hj => q25 j (by omega) (by omega) (by omega) (by omega)) a1, RR_sx q (by decide) (q25 11 (by decide) (by decide) (by decide) (by decide)) a2, RA_sx q (by decide) (q25 8 (by decide) (by decide) (by decide) (by decide)) a3, ⟨a4.1, by rw [q25 7 (by decide) (by decide) (by decide) (by decide)]; exact a4.2⟩, rk, a6, fun j hj => by rw [sx_i q (by decide)]; exact a7 j hj, ⟨by rw [q25 9 (by decide) (by decide) (by decide) (by decide)]; exact a8.1, a8.2.1, fun i hi => by rw [sx_i q (by decide)]; exact a8.2.2 i hi⟩, by rw [q25 5 (by decide) (by decide) (by decide) (by decide)]; exact a9, by rw [q25 6 (by decide) (by decide) (by decide) (by decide)]; exact a10⟩
theorem RI_CF {h' : MH} (c : CF h h') (a : RI h n k e lk rn G sm ak GA sc s stp mov ty tx) : RI h' n k e lk rn G sm ak GA sc s stp mov ty tx := by
  have ei : ∀ b, 25 ≤ b → b < 46 → mj_i h' b = mj_i h b := c.2.2.2.2
  obtain ⟨⟨b1, b2, b3, b4, b5, -, b7⟩, a2, a3, a4, a5, a6, a7, a8, a9, a10⟩ := a
  have eg : ∀ r D, PGm h r D → PGm h' r D := fun r D ⟨its, g1, g2, g3, g4, g5⟩ => by
    refine ⟨its, g1, by rw [ei 31 (by decide) (by decide)]; exact g2, ?_, ?_, g5⟩
    · rw [ei 29 (by decide) (by decide)]; exact g3
    · rw [ei 30 (by decide) (by decide)]; exact g4
  have es : ∀ r w, PSm h r w → PSm h' r w := fun r w ⟨cd, g1, g2, g3, g4⟩ => by
    refine ⟨cd, g1, by rw [ei 33 (by decide) (by decide)]; exact g2, ?_, g4⟩
    rw [ei 32 (by decide) (by decide)]; exact g3
  refine ⟨⟨b1, b2, b3, b4, b5, c.1, by rw [ei 25 (by decide) (by decide), ei 26 (by decide) (by decide)]; exact b7⟩, ⟨a2.1, by rw [ei 25 (by decide) (by decide)]; exact a2.2.1, fun r hr => ⟨eg r _ (a2.2.2 r hr).1, es r _ (a2.2.2 r hr).2⟩⟩, ⟨a3.1, by rw [ei 25 (by decide) (by decide)]; exact a3.2.1, fun z => eg _ _ (a3.2.2 z)⟩, ?_, ?_, a6, ?_, ?_, ?_, ?_⟩
  · rw [ei 25 (by decide) (by decide)]; exact a4
  · simp only [RK, KN, TR, ei 25 (by decide) (by decide), ei 40 (by decide) (by decide), ei 41 (by decide) (by decide), ei 42 (by decide) (by decide), ei 44 (by decide) (by decide), ei 45 (by decide) (by decide)]
    exact a5
  · rw [ei 27 (by decide) (by decide)]; exact a7
  · rw [ei 25 (by decide) (by decide), ei 28 (by decide) (by decide)]; exact a8
  · rw [ei 25 (by decide) (by decide)]; exact a9
  · rw [ei 25 (by decide) (by decide)]; exact a10
theorem TR_RS (a : RB h n k e lk) (hsc : sc < 3) (h7 : mj_i h 25 7 = nI sc) (t : TR h n k lk rn G sm ak GA (k ^ n)) : RS h n k e lk sc (enS n k lk rn G) (afS n k lk rn G sm) (gdS n k lk rn G ak GA) := by
  have a2 := a.2.1
  have a3 := a.2.2.1
  have a4 := a.2.2.2.1
  have h32 : ∀ s, enS n k lk rn G s < 32 := fun s => Nat.lt_of_lt_of_le (enN_lt n) (Nat.pow_le_pow_right (by decide) a2 : 2 ^ n ≤ 2 ^ 5)
  refine ⟨a, hsc, h7, fun s hs => ⟨(t s hs).1, h32 s, (t s hs).2.2⟩, fun s hs c hc ho => ?_⟩
  exact afN_ok (sm := sm) a2 (show 0 < k by omega) a4 hs hc ho (fun x hx hf => (t s hs).2.1 x hx hf)
theorem r_findOut (a : RI h n k e lk rn G sm ak GA sc s stp mov ty tx) (hQ : ∀ h', mj_sx [25, 38, 39, 40, 41, 42, 43, 44, 45] h h' → RI h' n k e lk rn G sm ak GA sc s stp mov ty tx → KN h' n k lk rn G sm ak GA sc → Q (none, h')) : mj_Wp L xs (d + 1 + 1 + 1 + 1 + 1 + 1 + 1) 105 0 [some (.ref 25)] [] h Q := by
  have n10 : ¬ nI 1 = nI 0 := by decide
  obtain ⟨a1, a2, a3, a4, a5, a6, a7, a8, a9, a10⟩ := id a
  have hL := a1.2.2.2.2.2.1
  have hN := RB_N a1
  rcases a5 with a5 | ⟨a5, kn⟩
  · obtain ⟨h1, hh1⟩ : ∃ h1, h1 = mj_wi (mj_wi h 25 31 (nI 1)) 25 38 (nI 0) := ⟨_, rfl⟩
    have s1 : mj_sx [25] h h1 := by rw [hh1]; exact sx_tr (sx_wi (by decide)) (sx_wi (by decide))
    have f1 : ∀ j, j ≠ 31 → j ≠ 38 → mj_i h1 25 j = mj_i h 25 j := fun j j1 j2 => by rw [hh1]; simp [mj_i_wi, j1, j2]
    have b1 : RB h1 n k e lk := RB_sx s1 (by decide) (fun j hj => f1 j (by omega) (by omega)) a1
    have hL1 := b1.2.2.2.2.2.1
    simp only [w_105_0, w_105_1, w_105_4, w_105_7, w_105_8, w_105_9, w_105_10, w_105_13, w_105_14, w_105_15, w_105_18, w_105_19, ly_25 hL, a5, if_true, mj_is_wi, mj_fit_n1, ← hh1, ly_25 hL1]
    refine r_layTables b1 (RR_sx s1 (by decide) (f1 11 (by decide) (by decide)) a2) (RA_sx s1 (by decide) (f1 8 (by decide) (by decide)) a3) (fun h2 x2 t2 => ?_)
    have b2 := FX_RB x2 b1
    have hL2 := b2.2.2.2.2.2.1
    have rs2 := TR_RS b2 a4.1 (by rw [x2.2 7 (by decide), f1 7 (by decide) (by decide)]; exact a4.2) t2
    have e31 : mj_i h2 25 31 = nI 1 := by rw [x2.2 31 (by decide), hh1]; simp [mj_i_wi]
    have e38 : mj_i h2 25 38 = nI 0 := by rw [x2.2 38 (by decide), hh1]; simp [mj_i_wi]
    have sx2 : mj_sx [25, 38, 39, 40, 41, 42, 43, 44, 45] h h2 := sx_tr (sx_mono s1 (by decide)) (sx_mono x2.1 (by decide))
    -- the end
    have fin : ∀ (h3 : MH) (vd rl : Nat) (run D : Nat → Nat), GX h2 h3 → SR (k ^ n) (enS n k lk rn G) (fun s => alB sc (enS n k lk rn G s)) (afS n k lk rn G sm) (gdS n k lk rn G ak GA) vd rl run D → vd < 4 → mj_i h3 25 38 = nI rl → rl ≤ 1025 → (∀ i, i < rl → mj_i h3 45 i = nI (run i)) → (∀ h4, (∃ h3', h3' = mj_wi h3 25 32 (nI vd) ∧ GY h3' h4) → (∀ t, mj_i h4 45 t = mj_i h3 45 t) → (vd = 0 → ∀ s, s < k ^ n → mj_i h4 44 s = nI (D s)) → Q (none, h4)) := by
      intro h3 vd rl run D g3 sr hvd h38 hrl hrun h4 hg4 h45 hD
      obtain ⟨h3', hh3, g4⟩ := hg4
      have s3 : mj_sx [25, 38, 39, 40, 41, 42, 43, 44, 45] h2 h3' := sx_tr (sx_mono g3.1 (by decide)) (by rw [hh3]; exact sx_wi (by decide))
      have s4 : mj_sx [25, 38, 39, 40, 41, 42, 43, 44, 45] h h4 := sx_tr sx2 (sx_tr s3 (sx_mono g4.1.1 (by decide)))
      have f3 : ∀ j, j ≠ 32 → mj_i h3' 25 j = mj_i h3 25 j := fun j j1 => by rw [hh3]; simp [mj_i_wi, j1]
      have q25 : ∀ j, j ≠ 32 → j ≠ 38 → mj_i h4 25 j = mj_i h2 25 j := fun j j1 j2 => by rw [g4.1.2 j j2, f3 j j1, g3.2 j j2]
      have kn : KN h4 n k lk rn G sm ak GA sc := by
        refine ⟨fun u hu => ?_, vd, rl, run, D, sr, hvd, ?_, ?_, hrl, fun i hi => ?_, hD⟩
        · obtain ⟨u1, u2, u3⟩ := t2 u hu
          have e : ∀ b, b ∉ [25, 43, 44, 45] → mj_i h4 b = mj_i h2 b := fun b hb => by
            funext j
            rw [sx_i g4.1.1 hb, hh3, mj_i_ne (fun z => hb (by simp [z])), sx_i g3.1 hb]
          rw [e 40 (by decide), e 41 (by decide), e 42 (by decide)]
          exact ⟨u1, u2, u3⟩
        · rw [g4.1.2 32 (by decide), hh3]; simp [mj_i_wi]
        · rw [g4.2, f3 38 (by decide)]; exact h38
        · rw [h45 i]; exact hrun i hi
      exact hQ h4 s4 (RI_of a s4 (fun j j1 j2 j3 j4 => by rw [q25 j j3 j4, x2.2 j j1, f1 j j2 j4]) (Or.inr ⟨by rw [q25 31 (by decide) (by decide)]; exact e31, kn⟩)) kn
    -- a verdict that is not 0
    have put : ∀ (h3 : MH) (vd rl : Nat) (run D : Nat → Nat), GX h2 h3 → SR (k ^ n) (enS n k lk rn G) (fun s => alB sc (enS n k lk rn G s)) (afS n k lk rn G sm) (gdS n k lk rn G ak GA) vd rl run D → vd < 4 → vd ≠ 0 → mj_i h3 25 38 = nI rl → rl ≤ 1025 → (∀ i, i < rl → mj_i h3 45 i = nI (run i)) → mj_Wp L xs (d + 1 + 1 + 1 + 1 + 1 + 1 + 1) 105 57 [some (.ref 25)] [.int (nI vd), .ref 25] h3 Q := by
      intro h3 vd rl run D g3 sr hvd hv0 h38 hrl hrun
      have hL3 := (GX_RS g3 rs2).1.2.2.2.2.2.1
      have e32 : mj_i (mj_wi h3 25 32 (nI vd)) 25 32 = nI vd := by simp [mj_i_wi]
      have hne : ¬ nI vd = nI 0 := by rw [nI_eq (by omega) (by omega)]; exact hv0
      simp only [w_105_57, w_105_60, w_105_61, w_105_64, w_105_71, ly_25 hL3, mj_is_wi, e32, hne, not_false_eq_true, if_true]
      exact fin h3 vd rl run D g3 sr hvd h38 hrl hrun _ ⟨_, rfl, GY_rf⟩ (fun t => mj_i_ne (by decide)) (fun z => absurd z hv0)
    simp only [w_105_22, w_105_23, w_105_24, ly_25 hL2, Option.toList, List.nil_append]
    refine r_leaves (d := d + 1 + 1 + 1 + 1) rs2 (fun h3 u c g3 F1 F2 q0 q1 q38 => ?_) (fun np1 => ?_)
    · simp only [w_105_27, w_105_30, w_105_31, n10, if_false, Option.toList, List.cons_append, List.nil_append]
      refine put h3 1 2 (fun i => if i = 0 then u else afS n k lk rn G sm u c) (fun _ => 0) g3 (Or.inl ⟨rfl, rfl, c, ?_⟩) (by decide) (by decide) q38 (by decide) (fun i hi => ?_)
      · simp only [if_true, show ¬ (1 = 0) by decide, if_false]
        exact ⟨F1, F2, trivial⟩
      · have : i = 0 ∨ i = 1 := by omega
        rcases this with rfl | rfl
        · simpa using q0
        · simpa using q1
    · simp only [w_105_27, if_true, w_105_34, w_105_35, ly_25 hL2, Option.toList, List.cons_append, List.nil_append]
      refine r_stuck (d := d + 1 + 1 + 1 + 1) rs2 (fun h3 u g3 F1 q0 q38 => ?_) (fun np2 => ?_)
      · simp only [w_105_38, w_105_41, w_105_42, n10, if_false, Option.toList, List.cons_append, List.nil_append]
        refine put h3 2 1 (fun _ => u) (fun _ => 0) g3 (Or.inr (Or.inl ⟨np1, rfl, rfl, F1⟩)) (by decide) (by decide) q38 (by decide) (fun i hi => ?_)
        have : i = 0 := by omega
        rw [this]; exact q0
      · simp only [w_105_38, if_true, w_105_45, w_105_46, ly_25 hL2, Option.toList, List.cons_append, List.nil_append]
        refine r_goesRound (d := d + 1 + 1 + 1 + 1) rs2 np2 (fun h3 g3 er => ?_) (fun h3 D g3 e38' hD => ?_)
        · simp only [w_105_49, w_105_52, w_105_53, n10, if_false, Option.toList, List.cons_append, List.nil_append]
          obtain ⟨m, run, m1, m2, m3, m4, m5, m6, m7⟩ := er
          exact put h3 3 (m + 1) run (fun _ => 0) g3 (Or.inr (Or.inr (Or.inl ⟨np1, np2, rfl, m, rfl, m4, m5, m6, m7⟩))) (by decide) (by decide) m2 (by omega) m3
        · have hL3 := (GX_RS g3 rs2).1.2.2.2.2.2.1
          obtain ⟨h3', hh3⟩ : ∃ h3', h3' = mj_wi h3 25 32 (nI 0) := ⟨_, rfl⟩
          have e32 : mj_i h3' 25 32 = nI 0 := by rw [hh3]; simp [mj_i_wi]
          have hL3' : Lay h3' := by rw [hh3]; exact Lay_wi.mpr hL3
          have rs3 : RS h3' n k e lk sc (enS n k lk rn G) (afS n k lk rn G sm) (gdS n k lk rn G ak GA) := by
            obtain ⟨y1, y2, y3, y4, y5⟩ := GX_RS g3 rs2
            have s3 : mj_sx [25] h3 h3' := by rw [hh3]; exact sx_wi (by decide)
            have z25 : ∀ j, j ≠ 32 → mj_i h3' 25 j = mj_i h3 25 j := fun j j1 => by rw [hh3]; simp [mj_i_wi, j1]
            refine ⟨RB_sx s3 (by decide) (fun j hj => z25 j (by omega)) y1, y2, by rw [z25 7 (by decide)]; exact y3, fun u hu => ?_, fun u hu c hc ho => ?_⟩
            · rw [sx_i s3 (by decide), sx_i s3 (by decide)]; exact y4 u hu
            · have e1 : (fun a => mj_i h3' 41 (5 * u + a)) = fun a => mj_i h3 41 (5 * u + a) := by funext a; rw [sx_i s3 (by decide)]
              rw [e1]; exact y5 u hu c hc ho
          simp only [w_105_49, if_true, w_105_56, w_105_57, w_105_60, w_105_61, w_105_64, w_105_67, w_105_68, ly_25 hL3, ly_25 hL3', ← hh3, e32, not_true_eq_false, if_false, Option.toList, List.cons_append, List.nil_append]
          refine r_layFars (d := d + 1 + 1 + 1 + 1) rs3 hD (fun h4 g4 q44 q45 => ?_)
          simp only [w_105_71, Option.toList, List.nil_append]
          exact fin h3 0 0 (fun _ => 0) D g3 (Or.inr (Or.inr (Or.inr ⟨np1, np2, rfl, rfl, hD⟩))) (by decide) (by rw [e38', e38]) (by decide) (fun i hi => by omega) h4 ⟨h3', hh3, g4⟩ (fun t => by rw [q45 t, hh3, mj_i_ne (by decide)]) (fun _ => q44)
  · simp only [w_105_0, w_105_1, w_105_4, w_105_7, ly_25 hL, a5, n10, if_false]
    exact hQ h sx_rf a kn
end FindK
