/-! Both ways of reading come to the same. -/
section TieP
variable {t : Nat → Nat} {len : Nat} {rule : Bool}
theorem exL_1 {nb : Bool} {k c : Nat} {pt : Nat → Int32} {st : List Int32} (hP : isP nb c = true) : exL nb k pt [c] st = some (pt c :: st) := by
  have hno := isP_nop0 c (isP_lt hP)
  have hPt : isP true c = true := by
    rcases isP_ok.mp hP with z | ⟨-, z⟩
    · exact isP_ok.mpr (Or.inl z)
    · exact isP_ok.mpr (Or.inr ⟨rfl, z⟩)
  rw [hPt] at hno
  simp only [Bool.not_true, Bool.false_or, Bool.and_eq_true, Bool.not_eq_true', beq_eq_false_iff_ne] at hno
  obtain ⟨⟨h37, h33⟩, hOp⟩ := hno
  have ec : exC nb k pt c st = some (pt c :: st) := by
    unfold exC
    rw [if_neg h37, if_neg h33, if_neg (by rw [hOp]; decide), if_pos hP]
  rw [exL, ec]
  rfl
theorem sv_1 {pt : Nat → Int32} {cs : Nat → Nat} {ng : Nat → Bool} (h0 : ng 0 = false) : svF pt cs ng 1 = pt (cs 0) := by
  rw [svF, svF, h0]
  simp [Int32.zero_add, show nI 0 = (0 : Int32) by decide]
theorem sgF_0 {p0 : Nat} : sgF t p0 0 = false := by simp [sgF]
theorem cmp_jo {c : Nat} {x y : Int32} (hc : c = 60 ∨ c = 61 ∨ c = 35) : joI c x y = bI (cpF c x y) := by
  rcases hc with rfl | rfl | rfl
  · simp [joI, cpF]
  · simp [joI, cpF]
  · simp [joI, cpF]
theorem cmp_tie {nb : Bool} {p : Nat} {stk : List SE4} {an o : Bool} {qn sd : Nat} {gs : List Nat} {en : Nat → Int32} {ss : List Nat} (ht : ∀ i, len ≤ i → t i = 0) (h48 : len ≤ 48) (hsd : sd ≠ 2) (hnb : decide (0 < qn) = nb) (hbg : isP nb (t p) ≠ true → aBg (t p) (stk, an, o, qn, sd, 0, 0, gs, en, ss) = none) :
    (∀ q, pCmp t nb p = (q, none) → aR t len rule p 0 (stk, an, o, qn, sd, 0, 0, gs, en, ss) = .inl q) ∧
    (∀ q D, pCmp t nb p = (q, some D) → ∃ cd, aR t len rule p 0 (stk, an, o, qn, sd, 0, 0, gs, en, ss) = gR t len rule q (aET (stk, an, o, qn, 1, 0, 0, gs ++ cd, en, ss)) ∧ p < q ∧ ∀ (n k m : Nat) (vs pt : Nat → Int32) (st : List Int32), exL nb k pt cd st = some (bI (D n k m vs pt) :: st)) := by
  have hnbs : ∀ s : Nat, s ≠ 2 → (decide (0 < qn) && decide (s ≠ 2)) = nb := fun s hs => by rw [hnb, decide_eq_true hs, Bool.and_true]
  by_cases hP : isP nb (t p) = true
  · have hp : p < len := Nat.lt_of_not_le (fun z => by rw [ht _ z, isP_0] at hP; cases hP)
    have e1 : aR t len rule p 0 (stk, an, o, qn, sd, 0, 0, gs, en, ss) = aR t len rule (p + 1) 2 (stk, an, o, qn, 0, 0, 0, gs ++ [t p], en, ss) := by
      refine aR_some hp ?_
      rw [aStep, if_pos (by decide), aSt, hnbs sd hsd, if_pos hP]
      rfl
    obtain ⟨L1, L2⟩ := sum_loop (rule := rule) (stk := stk) (an := an) (o := o) (cp := 0) (p0 := p) (en := en) ht (hnbs 0 (by decide)) 48 (p + 1) 1 (gs ++ [t p]) ss (by omega) (Nat.le_refl _) (by omega)
    cases hs : pSumL t nb 48 (p + 1) 1 with
    | mk q mw =>
      have hps : pSum t nb p = (q, mw) := by rw [pSum, if_pos hP, hs]
      cases mw with
      | none =>
        have hpc : pCmp t nb p = (q, none) := by rw [pCmp, hps]
        rw [hpc]
        exact ⟨fun q' z => by cases z; rw [e1]; exact L1 q hs, fun q' D z => by cases z⟩
      | some mw =>
        obtain ⟨m1, w1⟩ := mw
        obtain ⟨cd1, due1, y1, y2, y3, y4⟩ := L2 q m1 w1 hs
        have y1' : aR t len rule p 0 (stk, an, o, qn, sd, 0, 0, gs, en, ss) = aR t len rule q due1 (stk, an, o, qn, 0, 0, 0, gs ++ [t p] ++ cd1, en, ss) := by
          rw [e1, y1]
          rfl
        by_cases hsg : t q = 60 ∨ t q = 61 ∨ t q = 35
        · have hq : q < len := Nat.lt_of_not_le (fun z => by have := ht q z; omega)
          have e2 : aR t len rule q due1 (stk, an, o, qn, 0, 0, 0, gs ++ [t p] ++ cd1, en, ss) = aR t len rule (q + 1) 1 (stk, an, o, qn, 1, t q, 0, gs ++ [t p] ++ cd1, en, ss) := by
            refine aR_some hq ?_
            rw [aStep, if_neg (by omega), aFo, if_neg (by omega), if_neg (by omega), if_pos ⟨by omega, rfl, by omega⟩]
          by_cases hP2 : isP nb (t (q + 1)) = true
          · have hq1 : q + 1 < len := Nat.lt_of_not_le (fun z => by rw [ht _ z, isP_0] at hP2; cases hP2)
            have e3 : aR t len rule (q + 1) 1 (stk, an, o, qn, 1, t q, 0, gs ++ [t p] ++ cd1, en, ss) = aR t len rule (q + 2) 2 (stk, an, o, qn, 1, t q, 0, gs ++ [t p] ++ cd1 ++ [t (q + 1)], en, ss) := by
              refine aR_some hq1 ?_
              rw [aStep, if_pos (by decide), aSt, hnbs 1 (by decide), if_pos hP2]
              rfl
            obtain ⟨M1, M2⟩ := sum_loop (rule := rule) (stk := stk) (an := an) (o := o) (cp := t q) (p0 := q + 1) (en := en) ht (hnbs 1 (by decide)) 48 (q + 2) 1 (gs ++ [t p] ++ cd1 ++ [t (q + 1)]) ss (by omega) (Nat.le_refl _) (by omega)
            cases hs2 : pSumL t nb 48 (q + 2) 1 with
            | mk q2 mw2 =>
              have hps2 : pSum t nb (q + 1) = (q2, mw2) := by rw [pSum, if_pos hP2, hs2]
              cases mw2 with
              | none =>
                have hpc : pCmp t nb p = (q2, none) := by rw [pCmp, hps]; dsimp only; rw [if_pos hsg, hps2]
                rw [hpc]
                exact ⟨fun q' z => by cases z; rw [y1', e2, e3]; exact M1 q2 hs2, fun q' D z => by cases z⟩
              | some mw2 =>
                obtain ⟨m2, w2⟩ := mw2
                obtain ⟨cd2, due2, z1, z2, z3, z4⟩ := M2 q2 m2 w2 hs2
                have z1' : aR t len rule (q + 2) 2 (stk, an, o, qn, 1, t q, 0, gs ++ [t p] ++ cd1 ++ [t (q + 1)], en, ss) = aR t len rule q2 due2 (stk, an, o, qn, 1, t q, 0, gs ++ [t p] ++ cd1 ++ [t (q + 1)] ++ cd2, en, ss) := by
                  rw [z1]
                  rfl
                have hpc : pCmp t nb p = (q2, some (fun _ k _ _ pt => cpF (t q) (smF k pt m1 (fun i => t (p + 2 * i)) (sgF t p) w1) (smF k pt m2 (fun i => t (q + 1 + 2 * i)) (sgF t (q + 1)) w2))) := by rw [pCmp, hps]; dsimp only; rw [if_pos hsg, hps2]
                rw [hpc]
                refine ⟨fun q' z => (by cases z), fun q' D z => ?_⟩
                cases z
                refine ⟨[t p] ++ (cd1 ++ ([t (q + 1)] ++ (cd2 ++ [t q]))), ?_, by omega, fun n k m vs pt st => ?_⟩
                · rw [y1', e2, e3, z1', close_all (by omega), if_pos (by omega), aEC]
                  simp only [List.append_assoc]
                · have w1' := y4 k pt st
                  rw [sv_1 sgF_0, Nat.mul_zero, Nat.add_zero] at w1'
                  have w2' := z4 k pt (smF k pt m1 (fun i => t (p + 2 * i)) (sgF t p) w1 :: st)
                  rw [sv_1 sgF_0, Nat.mul_zero, Nat.add_zero] at w2'
                  rw [exL_app _ _ _ _ (exL_1 hP), exL_app _ _ _ _ w1', exL_app _ _ _ _ (exL_1 hP2), exL_app _ _ _ _ w2', exL]
                  have ec : exC nb k pt (t q) (smF k pt m2 (fun i => t (q + 1 + 2 * i)) (sgF t (q + 1)) w2 :: smF k pt m1 (fun i => t (p + 2 * i)) (sgF t p) w1 :: st) = some (joI (t q) (smF k pt m1 (fun i => t (p + 2 * i)) (sgF t p) w1) (smF k pt m2 (fun i => t (q + 1 + 2 * i)) (sgF t (q + 1)) w2) :: st) := by
                    have hop : isOp (t q) = true := by
                      rcases hsg with z | z | z <;> rw [z] <;> rfl
                    rw [exC, if_neg (by omega), if_neg (by omega), if_pos hop]
                  rw [ec, cmp_jo hsg]
                  rfl
          · have hps2 : pSum t nb (q + 1) = (q + 1, none) := by rw [pSum, if_neg hP2]
            have hpc : pCmp t nb p = (q + 1, none) := by rw [pCmp, hps]; dsimp only; rw [if_pos hsg, hps2]
            rw [hpc]
            refine ⟨fun q' z => ?_, fun q' D z => (by cases z)⟩
            cases z
            rw [y1', e2]
            by_cases hq1 : q + 1 < len
            · refine aR_none hq1 ?_
              rw [aStep, if_pos (by decide), aSt, hnbs 1 (by decide), if_neg hP2, if_neg (by decide)]
            · rw [aR_ge (by omega), aFin, if_pos (by decide)]
        · have hpc : pCmp t nb p = (q, none) := by rw [pCmp, hps]; dsimp only; rw [if_neg hsg]
          rw [hpc]
          refine ⟨fun q' z => ?_, fun q' D z => (by cases z)⟩
          cases z
          rw [y1']
          by_cases hq : q < len
          · refine aR_none hq ?_
            rw [aStep, if_neg (by omega), aFo, if_neg (by omega), if_neg (by omega), if_neg (fun z => by have := z.2.2; omega), if_pos ⟨by omega, by decide⟩]
          · rw [aR_ge (by omega), aFin, if_neg (by omega)]
            by_cases hr : rule = true
            · rw [if_pos hr]; rfl
            · rw [if_neg hr, if_pos ⟨by omega, rfl⟩]
  · have hps : pSum t nb p = (p, none) := by rw [pSum, if_neg hP]
    have hpc : pCmp t nb p = (p, none) := by rw [pCmp, hps]
    rw [hpc]
    refine ⟨fun q' z => ?_, fun q' D z => (by cases z)⟩
    cases z
    by_cases hp : p < len
    · refine aR_none hp ?_
      rw [aStep, if_pos (by decide), aSt, hnbs sd hsd, if_neg hP, if_pos rfl]
      exact hbg hP
    · rw [aR_ge (by omega), aFin, if_pos (by decide)]
/-- the stack's top is an opened bracket, or there is none -/
def tpO (stk : List SE4) : Prop := ∀ w st, stk = w :: st → w.1 = 40
theorem popT_tp {stk : List SE4} {qn : Nat} {gs : List Nat} {en : Nat → Int32} (h : tpO stk) : popT stk qn gs en = (stk, qn, gs, en) := by
  cases stk with
  | nil => rfl
  | cons w st => rw [popT, if_pos (h w st rfl)]
/-- reading by f from p, and by the other way -/
def TT (t : Nat → Nat) (len : Nat) (rule nb : Bool) (f : Nat → Nat × Option GD) (stk : List SE4) (qn : Nat) : Prop := ∀ (p : Nat) (an o : Bool) (sd : Nat) (gs : List Nat) (en : Nat → Int32) (ss : List Nat), sd ≠ 2 →
    (∀ q, f p = (q, none) → aR t len rule p 0 (stk, an, o, qn, sd, 0, 0, gs, en, ss) = .inl q) ∧
    (∀ q D, f p = (q, some D) → ∃ its en', aR t len rule p 0 (stk, an, o, qn, sd, 0, 0, gs, en, ss) = gR t len rule q (aET (stk, an, o, qn, 1, 0, 0, gs ++ flI its, en', ss)) ∧ SG nb its D gs.length en' ∧ (∀ i, i < gs.length → en' i = en i) ∧ p < q)
theorem loop38 {nb : Bool} {f : Nat → Nat × Option GD} {stk : List SE4} {qn : Nat} {gs : List Nat} {ss : List Nat} {o : Bool} {en : Nat → Int32} (ht : ∀ i, len ≤ i → t i = 0) (hf : TT t len rule nb f stk qn) (htp : tpO stk) : ∀ (m q : Nat) (D : GD) (its : List IT) (en1 : Nat → Int32), len ≤ q + m → SG nb its D gs.length en1 → (∀ i, i < gs.length → en1 i = en i) →
    (∀ q', pLoop t 38 true f m q D = (q', none) → gR t len rule q (stk, false, o, qn, 1, 0, 0, gs ++ flI its, en1, ss) = .inl q') ∧
    (∀ q' D', pLoop t 38 true f m q D = (q', some D') → ∃ its' en', gR t len rule q (stk, false, o, qn, 1, 0, 0, gs ++ flI its, en1, ss) = gR t len rule q' (stk, false, o, qn, 1, 0, 0, gs ++ flI its', en', ss) ∧ SG nb its' D' gs.length en' ∧ (∀ i, i < gs.length → en' i = en i) ∧ q ≤ q' ∧ t q' ≠ 38) := by
  intro m
  induction m with
  | zero =>
    intro q D its en1 hl sg fr
    have h0 := ht q (by omega)
    rw [pLoop]
    refine ⟨fun q' z => (by cases z), fun q' D' z => ?_⟩
    cases z
    exact ⟨its, en1, rfl, sg, fr, Nat.le_refl _, by rw [h0]; decide⟩
  | succ m ih =>
    intro q D its en1 hl sg fr
    rw [pLoop]
    by_cases h38 : t q = 38
    · rw [if_pos h38]
      have hq : q < len := Nat.lt_of_not_le (fun z => by have := ht q z; omega)
      have e1 : gR t len rule q (stk, false, o, qn, 1, 0, 0, gs ++ flI its, en1, ss) = aR t len rule (q + 1) 0 (stk, true, o, qn, 1, 0, 0, gs ++ flI its, en1, ss) := by
        rw [gR, if_pos hq, h38]
        rfl
      obtain ⟨F1, F2⟩ := hf (q + 1) true o 1 (gs ++ flI its) en1 ss (by decide)
      cases hfq : f (q + 1) with
      | mk q1 D1 =>
        cases D1 with
        | none =>
          refine ⟨fun q' z => ?_, fun q' D' z => (by cases z)⟩
          cases z
          rw [e1]; exact F1 _ hfq
        | some D1 =>
          obtain ⟨its1, en2, y1, y2, y3, y4⟩ := F2 q1 D1 hfq
          rw [List.length_append] at y2 y3
          have e2 : gR t len rule q (stk, false, o, qn, 1, 0, 0, gs ++ flI its, en1, ss) = gR t len rule q1 (stk, false, o, qn, 1, 0, 0, gs ++ flI (its ++ (its1 ++ [.inl 38])), en2, ss) := by
            rw [e1, y1, aET, popT_tp htp]
            simp [orL, flI_app, flI, List.append_assoc]
          have sg2 : SG nb (its ++ (its1 ++ [.inl 38])) (prD true D D1) gs.length en2 := SG_pair (op := true) (SG_cong sg (fun i hi => y3 i hi)) y2
          obtain ⟨I1, I2⟩ := ih q1 (prD true D D1) (its ++ (its1 ++ [.inl 38])) en2 (by omega) sg2 (fun i hi => (y3 i (by omega)).trans (fr i hi))
          refine ⟨fun q' z => by rw [e2]; exact I1 q' z, fun q' D' z => ?_⟩
          obtain ⟨its', en', z1, z2, z3, z4, z5⟩ := I2 q' D' z
          exact ⟨its', en', by rw [e2]; exact z1, z2, z3, by omega, z5⟩
    · rw [if_neg h38]
      refine ⟨fun q' z => (by cases z), fun q' D' z => ?_⟩
      cases z
      exact ⟨its, en1, rfl, sg, fr, Nat.le_refl _, h38⟩
/-- .. of tests joined by and -/
def TS (t : Nat → Nat) (len : Nat) (rule nb : Bool) (f : Nat → Nat × Option GD) (stk : List SE4) (qn : Nat) : Prop := ∀ (p : Nat) (o : Bool) (sd : Nat) (gs : List Nat) (en : Nat → Int32) (ss : List Nat), sd ≠ 2 →
    (∀ q, f p = (q, none) → aR t len rule p 0 (stk, false, o, qn, sd, 0, 0, gs, en, ss) = .inl q) ∧
    (∀ q D, f p = (q, some D) → ∃ its en', aR t len rule p 0 (stk, false, o, qn, sd, 0, 0, gs, en, ss) = gR t len rule q (stk, false, o, qn, 1, 0, 0, gs ++ flI its, en', ss) ∧ SG nb its D gs.length en' ∧ (∀ i, i < gs.length → en' i = en i) ∧ p < q ∧ t q ≠ 38)
theorem seq38 {nb : Bool} {f : Nat → Nat × Option GD} {stk : List SE4} {qn : Nat} (ht : ∀ i, len ≤ i → t i = 0) (h48 : len ≤ 48) (hf : TT t len rule nb f stk qn) (htp : tpO stk) : TS t len rule nb (pSeq t 38 true f) stk qn := by
  intro p o sd gs en ss hsd
  obtain ⟨F1, F2⟩ := hf p false o sd gs en ss hsd
  unfold pSeq
  cases hfq : f p with
  | mk q1 D1 =>
    cases D1 with
    | none =>
      refine ⟨fun q' z => ?_, fun q' D' z => (by cases z)⟩
      cases z
      exact F1 _ hfq
    | some D1 =>
      obtain ⟨its1, en1, y1, y2, y3, y4⟩ := F2 q1 D1 hfq
      have e2 : aR t len rule p 0 (stk, false, o, qn, sd, 0, 0, gs, en, ss) = gR t len rule q1 (stk, false, o, qn, 1, 0, 0, gs ++ flI its1, en1, ss) := by
        rw [y1, aET, popT_tp htp]
        simp [orL]
      obtain ⟨I1, I2⟩ := loop38 (ss := ss) (o := o) (en := en) ht hf htp 48 q1 D1 its1 en1 (by omega) y2 y3
      refine ⟨fun q' z => by rw [e2]; exact I1 q' z, fun q' D' z => ?_⟩
      obtain ⟨its', en', z1, z2, z3, z4, z5⟩ := I2 q' D' z
      exact ⟨its', en', by rw [e2]; exact z1, z2, z3, by omega, z5⟩
theorem loop124 {nb : Bool} {f : Nat → Nat × Option GD} {stk : List SE4} {qn : Nat} {gs : List Nat} {ss : List Nat} {en : Nat → Int32} (ht : ∀ i, len ≤ i → t i = 0) (hf : TS t len rule nb f stk qn) : ∀ (m q : Nat) (D : GD) (its : List IT) (en1 : Nat → Int32) (o1 : Bool) (gs1 : List Nat), len ≤ q + m → SG nb its D gs.length en1 → (∀ i, i < gs.length → en1 i = en i) → orL o1 124 gs1 = gs ++ flI its → t q ≠ 38 →
    (∀ q', pLoop t 124 false f m q D = (q', none) → gR t len rule q (stk, false, o1, qn, 1, 0, 0, gs1, en1, ss) = .inl q') ∧
    (∀ q' D', pLoop t 124 false f m q D = (q', some D') → ∃ its' en' o' gs', gR t len rule q (stk, false, o1, qn, 1, 0, 0, gs1, en1, ss) = gR t len rule q' (stk, false, o', qn, 1, 0, 0, gs', en', ss) ∧ orL o' 124 gs' = gs ++ flI its' ∧ SG nb its' D' gs.length en' ∧ (∀ i, i < gs.length → en' i = en i) ∧ q ≤ q' ∧ t q' ≠ 38 ∧ t q' ≠ 124) := by
  intro m
  induction m with
  | zero =>
    intro q D its en1 o1 gs1 hl sg fr ho n38
    have h0 := ht q (by omega)
    rw [pLoop]
    refine ⟨fun q' z => (by cases z), fun q' D' z => ?_⟩
    cases z
    exact ⟨its, en1, o1, gs1, rfl, ho, sg, fr, Nat.le_refl _, n38, by rw [h0]; decide⟩
  | succ m ih =>
    intro q D its en1 o1 gs1 hl sg fr ho n38
    rw [pLoop]
    by_cases h124 : t q = 124
    · rw [if_pos h124]
      have hq : q < len := Nat.lt_of_not_le (fun z => by have := ht q z; omega)
      have e1 : gR t len rule q (stk, false, o1, qn, 1, 0, 0, gs1, en1, ss) = aR t len rule (q + 1) 0 (stk, false, true, qn, 1, 0, 0, gs ++ flI its, en1, ss) := by
        rw [gR, if_pos hq, h124]
        simp [aGO, ho]
      obtain ⟨F1, F2⟩ := hf (q + 1) true 1 (gs ++ flI its) en1 ss (by decide)
      cases hfq : f (q + 1) with
      | mk q1 D1 =>
        cases D1 with
        | none =>
          refine ⟨fun q' z => ?_, fun q' D' z => (by cases z)⟩
          cases z
          rw [e1]; exact F1 _ hfq
        | some D1 =>
          obtain ⟨its1, en2, y1, y2, y3, y4, y5⟩ := F2 q1 D1 hfq
          rw [List.length_append] at y2 y3
          have sg2 : SG nb (its ++ (its1 ++ [.inl 124])) (prD false D D1) gs.length en2 := SG_pair (op := false) (SG_cong sg (fun i hi => y3 i hi)) y2
          have ho2 : orL true 124 (gs ++ flI its ++ flI its1) = gs ++ flI (its ++ (its1 ++ [.inl 124])) := by simp [orL, flI_app, flI, List.append_assoc]
          obtain ⟨I1, I2⟩ := ih q1 (prD false D D1) (its ++ (its1 ++ [.inl 124])) en2 true (gs ++ flI its ++ flI its1) (by omega) sg2 (fun i hi => (y3 i (by omega)).trans (fr i hi)) ho2 y5
          refine ⟨fun q' z => by rw [e1, y1]; exact I1 q' z, fun q' D' z => ?_⟩
          obtain ⟨its', en', o', gs', z1, z2, z3, z4, z5, z6, z7⟩ := I2 q' D' z
          exact ⟨its', en', o', gs', by rw [e1, y1]; exact z1, z2, z3, z4, by omega, z6, z7⟩
    · rw [if_neg h124]
      refine ⟨fun q' z => (by cases z), fun q' D' z => ?_⟩
      cases z
      exact ⟨its, en1, o1, gs1, rfl, ho, sg, fr, Nat.le_refl _, n38, h124⟩
theorem guard_tie {nb : Bool} {f : Nat → Nat × Option GD} {stk : List SE4} {qn : Nat} (ht : ∀ i, len ≤ i → t i = 0) (h48 : len ≤ 48) (hf : TT t len rule nb f stk qn) (htp : tpO stk) (p sd : Nat) (gs : List Nat) (en : Nat → Int32) (ss : List Nat) (hsd : sd ≠ 2) :
    (∀ q, pGuard t f p = (q, none) → aR t len rule p 0 (stk, false, false, qn, sd, 0, 0, gs, en, ss) = .inl q) ∧
    (∀ q D, pGuard t f p = (q, some D) → ∃ its en' o' gs', aR t len rule p 0 (stk, false, false, qn, sd, 0, 0, gs, en, ss) = gR t len rule q (stk, false, o', qn, 1, 0, 0, gs', en', ss) ∧ orL o' 124 gs' = gs ++ flI its ∧ SG nb its D gs.length en' ∧ (∀ i, i < gs.length → en' i = en i) ∧ p < q ∧ t q ≠ 38 ∧ t q ≠ 124) := by
  have hs := seq38 ht h48 hf htp
  obtain ⟨F1, F2⟩ := hs p false sd gs en ss hsd
  unfold pGuard
  rw [pSeq]
  cases hfq : pSeq t 38 true f p with
  | mk q1 D1 =>
    cases D1 with
    | none =>
      refine ⟨fun q' z => ?_, fun q' D' z => (by cases z)⟩
      cases z
      exact F1 _ hfq
    | some D1 =>
      obtain ⟨its1, en1, y1, y2, y3, y4, y5⟩ := F2 q1 D1 hfq
      obtain ⟨I1, I2⟩ := loop124 (ss := ss) (en := en) ht hs 48 q1 D1 its1 en1 false (gs ++ flI its1) (by omega) y2 y3 (by simp [orL]) y5
      refine ⟨fun q' z => by rw [y1]; exact I1 q' z, fun q' D' z => ?_⟩
      obtain ⟨its', en', o', gs', z1, z2, z3, z4, z5, z6, z7⟩ := I2 q' D' z
      exact ⟨its', en', o', gs', by rw [y1]; exact z1, z2, z3, z4, by omega, z6, z7⟩
end TieP
