/-! Reading a sum. -/
def pFin (t : Nat → Nat) (p m : Nat) : Nat × Option (Nat × Bool) := if t p = 37 then (p + 1, some (m, true)) else (p, some (m, false))
def pSumL (t : Nat → Nat) (nb : Bool) : Nat → Nat → Nat → Nat × Option (Nat × Bool)
  | 0, p, m => pFin t p m
  | f + 1, p, m => if t p = 43 ∨ t p = 45 then (if isP nb (t (p + 1)) = true then pSumL t nb f (p + 2) (m + 1) else (p + 1, none)) else pFin t p m
def pSum (t : Nat → Nat) (nb : Bool) (p : Nat) : Nat × Option (Nat × Bool) := if isP nb (t p) = true then pSumL t nb 48 (p + 1) 1 else (p, none)
def sgF (t : Nat → Nat) (p i : Nat) : Bool := decide (0 < i) && (t (p + 2 * i - 1) == 45)
theorem isP_0 {nb : Bool} : isP nb 0 = false := by cases nb <;> decide
section RsK
variable {L : Nat} {xs : Nat → Int32} {d : Nat} {Q : Option Value × MH → Prop} {R T len : Nat} {t : Nat → Nat}
theorem RD_lt {h : MH} {p : Nat} {fl : Int32} (r : RD h R T len t p fl) {x : Nat} (hx : t x ≠ 0) : x < len := Nat.lt_of_not_le (fun z => hx (r.2.2.2.2.2.2.2.2.2.2.1 x z))
theorem k_rs_tail {h : MH} {nb : Bool} {p0 q : Nat} {fl : Int32} {X : Option Value} (r : RD h R T len t q fl)
    (hQ : ∀ h' A, A = mj_z h → PX R h h' → mj_z h' = mj_z h + 1 → mj_is h' A 9 4 → mj_r h' A 0 = some T → mj_i h' A 1 = nI p0 → mj_i h' A 2 = nI q → mj_i h' A 3 = bI (decide (nxC t q fl = 37)) → RD h' R T len t (if nxC t q fl = 37 then q + 1 else q) fl → Q (some (.ref A), h')) : mj_Wp L xs (d + 1 + 1) 31 47 [some (.ref R), some (.int (bI nb)), some (.int (nI p0)), X] [] h Q := by
  obtain ⟨r1, r2, r3, r4, r5, r6, r7, r8, r9, r10, r11, r12, r13, r14⟩ := id r
  obtain ⟨h1, hh1⟩ : ∃ h1, h1 = mj_nw h 9 4 := ⟨_, rfl⟩
  have x1 : PX R h h1 := by rw [hh1]; exact PX_nw PX_rf (by decide)
  have nR : R ≠ mj_z h := by have := r4.1; omega
  have rd1 : RD h1 R T len t q fl := RD_PX r x1 r12 (by rw [hh1, mj_nw_io nR]; exact r13) (by rw [hh1, mj_nw_io nR]; exact r14)
  have isA : mj_is h1 (mj_z h) 9 4 := ⟨by rw [hh1, mj_nw_z]; omega, by rw [hh1]; exact mj_nw_m⟩
  have r51 : mj_r h1 R 0 = some T := rd1.2.2.2.2.1
  have r41 := rd1.2.2.2.1
  simp only [w_31_47, w_31_48, w_31_51, w_31_52, w_31_55, w_31_56, w_31_57, w_31_60, w_31_61, w_31_62, w_31_63, w_31_65, r4, r13, r41, r51, ← hh1, mj_rv_some, k_take rd1 (show 37 < 127 by decide)]
  have fin : ∀ (h2 : MH) (b : Bool) (q' : Nat), PX R h1 h2 → mj_z h2 = mj_z h1 → RD h2 R T len t q' fl → b = decide (nxC t q fl = 37) → q' = (if nxC t q fl = 37 then q + 1 else q) → mj_is h2 (mj_z h) 9 4 → mj_Wp L xs (d + 1 + 1) 31 68 [some (.ref R), some (.int (bI nb)), some (.int (nI p0)), some (.int (nI q))] [.int (bI b), .int (nI q), .int (nI p0), .ref T, .ref (mj_z h), .ref (mj_z h)] h2 Q := by
    intro h2 b q' x2 z2 rd2 hb hq' isA2
    simp only [w_31_68, w_33_0, w_33_1, w_33_4, w_33_5, w_33_6, w_33_9, w_33_10, w_33_11, w_33_14, w_33_15, w_33_16, w_33_19, w_33_20, w_33_22, w_33_25, isA2, mj_is_wr, mj_is_wi, fit_bI, Option.toList, List.nil_append, w_31_71]
    have x3 : PX R h (mj_wi (mj_wi (mj_wi (mj_wr h2 (mj_z h) 0 (some T)) (mj_z h) 1 (nI p0)) (mj_z h) 2 (nI q)) (mj_z h) 3 (bI b)) := PX_wi (PX_wi (PX_wi (PX_wr (PX_tr x1 x2) (Nat.le_refl _)) (Nat.le_refl _)) (Nat.le_refl _)) (Nat.le_refl _)
    have z1 : mj_z h1 = mj_z h + 1 := by rw [hh1]; rfl
    refine hQ _ _ rfl x3 (by show mj_z h2 = mj_z h + 1; omega) (by simpa only [mj_is_wi, mj_is_wr] using isA2) (by simp [mj_r_wi, mj_r_wr]) (by simp [mj_i_wi]) (by simp [mj_i_wi]) (by simp [mj_i_wi, hb]) ?_
    rw [← hq']
    refine RD_PX r x3 rd2.2.2.2.2.2.2.2.2.2.2.2.1 ?_ ?_
    · simp [mj_i_wi, mj_i_wr, nR]; exact rd2.2.2.2.2.2.2.2.2.2.2.2.2.1
    · simp [mj_i_wi, mj_i_wr, nR]; exact rd2.2.2.2.2.2.2.2.2.2.2.2.2.2
  by_cases c : nxC t q fl = 37
  · have c0 : fl = -1 := by
      refine Classical.byContradiction (fun z => ?_)
      rw [nxC, if_neg z] at c; cases c
    have c1 : t q = 37 := by rw [nxC, if_pos c0] at c; exact c
    have hq : q < len := RD_lt r (by rw [c1]; decide)
    simp only [c, if_true, Option.toList, List.cons_append, List.nil_append]
    have := fin (mj_wi h1 R 1 (nI (q + 1))) true (q + 1) (PX_wR PX_rf) rfl (RD_PX rd1 (PX_wR PX_rf) (by omega) (by simp [mj_i_wi]) (by simp [mj_i_wi]; exact rd1.2.2.2.2.2.2.2.2.2.2.2.2.2)) (by rw [c]; rfl) (by rw [if_pos c]) isA
    exact this
  · simp only [c, if_false, Option.toList, List.cons_append, List.nil_append]
    exact fin h1 false q PX_rf rfl rd1 (by rw [decide_eq_false c]) (by rw [if_neg c]) isA
theorem pFin_le {p m : Nat} : p ≤ (pFin t p m).1 := by unfold pFin; split <;> simp
theorem pSumL_le {nb : Bool} : ∀ (f p m : Nat), p ≤ (pSumL t nb f p m).1
  | 0, p, m => pFin_le
  | f + 1, p, m => by
    rw [pSumL]
    split
    · split
      · have := pSumL_le (nb := nb) f (p + 2) (m + 1); omega
      · simp
    · exact pFin_le
/-- what reading a sum comes to -/
def SO (h h' : MH) (R T len : Nat) (t : Nat → Nat) (nb : Bool) (p : Nat) (fl : Int32) (A : Nat) : Prop := PX R h h' ∧ mj_z h' = mj_z h + 1 ∧ mj_is h' A 9 4 ∧ mj_z h ≤ A ∧ ∃ p' fl', RD h' R T len t p' fl' ∧ ((fl ≠ -1 ∧ p' = p ∧ fl' = fl) ∨ (fl = -1 ∧ ((∃ f, pSum t nb p = (f, none) ∧ p' = f ∧ fl' = nI f ∧ p ≤ f) ∨ (∃ q m w, pSum t nb p = (q, some (m, w)) ∧ p' = q ∧ fl' = -1 ∧ p < q ∧ SumAt h' A m (fun i => t (p + 2 * i)) (sgF t p) w ∧ ∀ i, i < m → okN nb (t (p + 2 * i))))))
theorem k_readSum {h : MH} {nb : Bool} {p : Nat} {fl : Int32} (r : RD h R T len t p fl) (hfl : fl = -1 ∨ ∃ f, fl = nI f ∧ f ≤ 48)
    (hQ : ∀ h' A, SO h h' R T len t nb p fl A → Q (some (.ref A), h')) : mj_Wp L xs (d + 1 + 1 + 1 + 1 + 1 + 1) 31 0 [some (.ref R), some (.int (bI nb)), none, none] [] h Q := by
  obtain ⟨r1, r2, r3, r4, r5, r6, r7, r8, r9, r10, r11, r12, r13, r14⟩ := id r
  have n10 : ¬ nI 1 = nI 0 := by decide
  simp only [w_31_0, w_31_1, w_31_4, w_31_5, w_31_6, w_31_7, r4, r13, k_readPart r]
  -- a fault ends the loop
  have flt : ∀ (h1 : MH) (q : Nat) (fl1 : Int32) (X : Nat), PX R h h1 → mj_z h1 = mj_z h → RD h1 R T len t q fl1 → fl1 ≠ -1 → (fl ≠ -1 ∧ q = p ∧ fl1 = fl) ∨ (fl = -1 ∧ pSum t nb p = (q, none) ∧ fl1 = nI q ∧ p ≤ q) → X ≤ 48 → mj_Wp L xs (d + 1 + 1 + 1 + 1 + 1 + 1) 31 12 [some (.ref R), some (.int (bI nb)), some (.int (nI p)), some (.int (nI X))] [] h1 Q := by
    intro h1 q fl1 X x1 z1 rd1 hf hc hX
    have c0 : nxC t q fl1 = 0 := if_neg hf
    have key : mj_Wp L xs (d + 1 + 1 + 1 + 1 + 1 + 1) 31 47 [some (.ref R), some (.int (bI nb)), some (.int (nI p)), some (.int (nI X))] [] h1 Q := by
      refine k_rs_tail rd1 (fun h' A hA x2 z2 i1 i2 i3 i4 i5 i6 => hQ h' A ⟨PX_tr x1 x2, by omega, i1, by omega, q, fl1, ?_, ?_⟩)
      · rw [c0] at i6; exact i6
      · rcases hc with ⟨e1, e2, e3⟩ | ⟨e1, e2, e3, e4⟩
        · exact Or.inl ⟨e1, e2, e3⟩
        · exact Or.inr ⟨e1, Or.inl ⟨q, e2, rfl, e3, e4⟩⟩
    rw [w_31_12]
    simp only [w_31_13, w_31_15, w_31_18, w_31_19, w_31_21, w_31_24, w_31_27, w_31_28, w_31_30, w_31_33, rd1.2.2.2.1, k_take rd1 (show 43 < 127 by decide), k_take rd1 (show 45 < 127 by decide), c0, show ¬ (0 = 43) by decide, show ¬ (0 = 45) by decide, if_false, not_true_eq_false, if_true, Option.toList, List.cons_append, List.nil_append]
    split
    · exact key
    · exact key
  -- the loop
  have lp : ∀ (f m : Nat) (h1 : MH), f + m = 49 → 1 ≤ m → PX R h h1 → mj_z h1 = mj_z h → RD h1 R T len t (p + 2 * m - 1) (-1) → fl = -1 → (∀ i, i < m → okN nb (t (p + 2 * i))) → (∀ i, 0 < i → i < m → t (p + 2 * i - 1) = 43 ∨ t (p + 2 * i - 1) = 45) → pSum t nb p = pSumL t nb f (p + 2 * m - 1) m → mj_Wp L xs (d + 1 + 1 + 1 + 1 + 1 + 1) 31 12 [some (.ref R), some (.int (bI nb)), some (.int (nI p)), some (.int (nI (m - 1)))] [] h1 Q := by
    -- the sum's end
    have fin : ∀ (m : Nat) (h1 : MH), 1 ≤ m → m ≤ 49 → PX R h h1 → mj_z h1 = mj_z h → RD h1 R T len t (p + 2 * m - 1) (-1) → fl = -1 → (∀ i, i < m → okN nb (t (p + 2 * i))) → (∀ i, 0 < i → i < m → t (p + 2 * i - 1) = 43 ∨ t (p + 2 * i - 1) = 45) → pSum t nb p = pFin t (p + 2 * m - 1) m → mj_Wp L xs (d + 1 + 1 + 1 + 1 + 1 + 1) 31 47 [some (.ref R), some (.int (bI nb)), some (.int (nI p)), some (.int (nI (m - 1)))] [] h1 Q := by
      intro m h1 hm hm2 x1 z1 rd1 hf hok hsg hp
      refine k_rs_tail rd1 (fun h' A hA x2 z2 i1 i2 i3 i4 i5 i6 => hQ h' A ⟨PX_tr x1 x2, by omega, i1, by omega, _, _, i6, Or.inr ⟨hf, Or.inr ?_⟩⟩)
      have e1 : nxC t (p + 2 * m - 1) (-1) = t (p + 2 * m - 1) := if_pos rfl
      rw [e1] at i5 ⊢
      have hlen := rd1.2.2.2.2.2.2.2.2.2.2.2.1
      have rd' := i6
      obtain ⟨y1, y2, y3, y4, y5, y6, y7, y8, y9, y10, y11, y12, y13, y14⟩ := rd'
      have hz : 46 ≤ mj_z h1 := by have := rd1.2.2.2.1.1; have := rd1.1; omega
      refine ⟨_, m, decide (t (p + 2 * m - 1) = 37), ?_, rfl, rfl, ?_, ⟨T, p, len, by omega, y2, i1, i2, y6, y7, y8, i3, i4, hlen, hm, ?_, fun i hi => ?_, fun i h0 hi => ?_, rfl⟩, hok⟩
      · rw [hp, pFin]
        by_cases c : t (p + 2 * m - 1) = 37 <;> simp [c]
      · split <;> omega
      · rw [i5]; cases decide (t (p + 2 * m - 1) = 37) <;> rfl
      · exact ⟨y9 _ (RD_lt rd1 (fun z => by have := isP_ok.mpr (hok i hi); rw [z, isP_0] at this; cases this)), y10 _⟩
      · have h5 := hsg i h0 hi
        have h6 : p + 2 * i - 1 < len := RD_lt rd1 (by omega)
        rw [y9 _ h6]
        have h7 := y10 (p + 2 * i - 1)
        rw [nI_eq (by omega) (by omega)]
        simp [sgF, h0]
    intro f
    induction f with
    | zero =>
      intro m h1 hfm hm x1 z1 rd1 hf hok hsg hp
      have hm49 : m = 49 := by omega
      have e0 : nI 48 ≤ nI (m - 1) := by rw [hm49]; decide
      rw [w_31_12]
      simp only [w_31_13, w_31_15, e0, if_true]
      exact fin m h1 hm (by omega) x1 z1 rd1 hf hok hsg hp
    | succ f ih =>
      intro m h1 hfm hm x1 z1 rd1 hf hok hsg hp
      have e0 : ¬ nI 48 ≤ nI (m - 1) := by rw [nI_leI (by omega) (by omega)]; omega
      have e1 : nxC t (p + 2 * m - 1) (-1) = t (p + 2 * m - 1) := if_pos rfl
      rw [pSumL] at hp
      rw [w_31_12]
      simp only [w_31_13, w_31_15, w_31_18, w_31_19, w_31_21, w_31_24, w_31_27, w_31_28, w_31_30, w_31_33, e0, if_false, rd1.2.2.2.1, k_take rd1 (show 43 < 127 by decide), k_take rd1 (show 45 < 127 by decide), e1]
      by_cases c : t (p + 2 * m - 1) = 43 ∨ t (p + 2 * m - 1) = 45
      · have hq : p + 2 * m - 1 < len := RD_lt rd1 (by omega)
        have x2 : PX R h1 (mj_wi h1 R 1 (nI (p + 2 * m - 1 + 1))) := PX_wR PX_rf
        have rd2 : RD (mj_wi h1 R 1 (nI (p + 2 * m - 1 + 1))) R T len t (p + 2 * m) (-1) := RD_PX rd1 x2 (by omega) (by rw [show p + 2 * m - 1 + 1 = p + 2 * m by omega]; simp [mj_i_wi]) (by simp [mj_i_wi]; exact rd1.2.2.2.2.2.2.2.2.2.2.2.2.2)
        have e2 : nxC t (p + 2 * m) (-1) = t (p + 2 * m) := if_pos rfl
        have go : mj_Wp L xs (d + 1 + 1 + 1 + 1 + 1 + 1) 31 36 [some (.ref R), some (.int (bI nb)), some (.int (nI p)), some (.int (nI (m - 1)))] [] (mj_wi h1 R 1 (nI (p + 2 * m - 1 + 1))) Q := by
          simp only [w_31_36, w_31_37, w_31_38, rd2.2.2.2.1, k_readPart rd2, e2]
          rw [if_pos c, show p + 2 * m - 1 + 1 = p + 2 * m by omega, show p + 2 * m - 1 + 2 = p + 2 * (m + 1) - 1 by omega] at hp
          by_cases c2 : isP nb (t (p + 2 * m)) = true
          · rw [if_pos c2] at hp
            have hq2 : p + 2 * m < len := RD_lt rd1 (fun z => by rw [z, isP_0] at c2; cases c2)
            simp only [c2, if_true, w_31_41, w_31_44, Option.toList, List.nil_append, nI_add]
            have x3 : PX R h1 (mj_wi (mj_wi h1 R 1 (nI (p + 2 * m - 1 + 1))) R 1 (nI (p + 2 * m + 1))) := PX_wR x2
            have rd3 : RD (mj_wi (mj_wi h1 R 1 (nI (p + 2 * m - 1 + 1))) R 1 (nI (p + 2 * m + 1))) R T len t (p + 2 * (m + 1) - 1) (-1) := RD_PX rd1 x3 (by omega) (by rw [show p + 2 * (m + 1) - 1 = p + 2 * m + 1 by omega]; simp [mj_i_wi]) (by simp [mj_i_wi]; exact rd1.2.2.2.2.2.2.2.2.2.2.2.2.2)
            have := ih (m + 1) _ (by omega) (by omega) (PX_tr x1 x3) z1 rd3 hf (fun i hi => ?_) (fun i h0 hi => ?_) hp
            · rw [show m + 1 - 1 = m - 1 + 1 by omega] at this
              exact this
            · by_cases h5 : i = m
              · rw [h5]; exact isP_ok.mp c2
              · exact hok i (by omega)
            · by_cases h5 : i = m
              · rw [h5]; exact c
              · exact hsg i h0 (by omega)
          · rw [if_neg c2] at hp
            simp only [c2, if_false, if_true, Bool.false_eq_true, w_31_41, w_31_44, Option.toList, List.nil_append, nI_add]
            have x3 : PX R h1 (mj_wi (mj_wi h1 R 1 (nI (p + 2 * m - 1 + 1))) R 2 (nI (p + 2 * m))) := PX_wR x2
            refine flt _ (p + 2 * m) (nI (p + 2 * m)) (m - 1 + 1) (PX_tr x1 x3) z1 (RD_PX rd1 x3 (by omega) ?_ (by simp [mj_i_wi])) (nI_nm1 (by omega)) (Or.inr ⟨hf, hp, rfl, by omega⟩) (by omega)
            simp [mj_i_wi, show p + 2 * m - 1 + 1 = p + 2 * m by omega]
        by_cases c3 : t (p + 2 * m - 1) = 43
        · simp only [c3, if_true, n10, not_false_eq_true, Option.toList, List.cons_append, List.nil_append, w_31_24]
          exact go
        · have c4 : t (p + 2 * m - 1) = 45 := by omega
          simp only [c4, show ¬ (45 = 43) by decide, if_false, not_true_eq_false, if_true, n10, Option.toList, List.cons_append, List.nil_append, w_31_24, w_31_27, w_31_28, w_31_30, w_31_33, rd1.2.2.2.1, k_take rd1 (show 45 < 127 by decide), e1, c4]
          exact go
      · rw [if_neg c] at hp
        have c3 : ¬ t (p + 2 * m - 1) = 43 := fun z => c (Or.inl z)
        have c4 : ¬ t (p + 2 * m - 1) = 45 := fun z => c (Or.inr z)
        simp only [c3, c4, if_false, not_true_eq_false, if_true, Option.toList, List.cons_append, List.nil_append, w_31_24, w_31_27, w_31_28, w_31_30, w_31_33, rd1.2.2.2.1, k_take rd1 (show 45 < 127 by decide), e1, c4]
        exact fin m h1 hm (by omega) x1 z1 rd1 hf hok hsg hp
  by_cases c1 : fl = -1
  · have e2 : nxC t p fl = t p := if_pos c1
    rw [e2]
    by_cases c2 : isP nb (t p) = true
    · have hq2 : p < len := RD_lt r (fun z => by rw [z, isP_0] at c2; cases c2)
      simp only [c2, if_true, w_31_10, w_31_11, Option.toList, List.nil_append]
      have x3 : PX R h (mj_wi h R 1 (nI (p + 1))) := PX_wR PX_rf
      have := lp 48 1 _ (by omega) (by omega) x3 rfl (RD_PX r x3 (by omega) (by simp [mj_i_wi]) (by simp [mj_i_wi]; rw [r14]; exact c1)) c1 (fun i hi => ?_) (fun i h0 hi => by omega) (by rw [pSum, if_pos c2, show p + 2 * 1 - 1 = p + 1 by omega])
      · exact this
      · have : i = 0 := by omega
        subst this
        exact isP_ok.mp c2
    · simp only [c2, if_false, Bool.false_eq_true, c1, if_true, w_31_10, w_31_11, Option.toList, List.nil_append]
      have x3 : PX R h (mj_wi h R 2 (nI p)) := PX_wR PX_rf
      exact flt _ p (nI p) 0 x3 rfl (RD_PX r x3 r12 (by simp [mj_i_wi, r13]) (by simp [mj_i_wi])) (nI_nm1 (by omega)) (Or.inr ⟨c1, by rw [pSum, if_neg c2], rfl, Nat.le_refl _⟩) (by omega)
  · have e2 : nxC t p fl = 0 := if_neg c1
    rw [e2]
    simp only [isP_0, Bool.false_eq_true, if_false, c1, w_31_10, w_31_11, Option.toList, List.nil_append]
    exact flt h p fl 0 PX_rf rfl r c1 (Or.inl ⟨c1, rfl, rfl⟩) (by omega)
end RsK
