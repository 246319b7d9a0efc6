/-! Both ways of reading come to the same: tests, rules, aims. -/
section Tie2P
variable {t : Nat → Nat} {len : Nat} {rule : Bool}
theorem test_tie (ht : ∀ i, len ≤ i → t i = 0) (h48 : len ≤ 48) : ∀ (lv : Nat) (nb : Bool) (stk : List SE4) (qn : Nat), stk.length + lv = 8 → decide (0 < qn) = nb → TT t len rule nb (pTest t lv nb) stk qn := by
  have cmp : ∀ (nb : Bool) (stk : List SE4) (qn p : Nat) (an o : Bool) (sd : Nat) (gs : List Nat) (en : Nat → Int32) (ss : List Nat), sd ≠ 2 → decide (0 < qn) = nb → (isP nb (t p) ≠ true → aBg (t p) (stk, an, o, qn, sd, 0, 0, gs, en, ss) = none) →
      (∀ q, pCmp t nb p = (q, none) → aR t len rule p 0 (stk, an, o, qn, sd, 0, 0, gs, en, ss) = .inl q) ∧
      (∀ q D, pCmp t nb p = (q, some D) → ∃ its en', aR t len rule p 0 (stk, an, o, qn, sd, 0, 0, gs, en, ss) = gR t len rule q (aET (stk, an, o, qn, 1, 0, 0, gs ++ flI its, en', ss)) ∧ SG nb its D gs.length en' ∧ (∀ i, i < gs.length → en' i = en i) ∧ p < q) := by
    intro nb stk qn p an o sd gs en ss hsd hnb hbg
    obtain ⟨C1, C2⟩ := cmp_tie (rule := rule) ht h48 hsd hnb hbg
    refine ⟨C1, fun q D z => ?_⟩
    obtain ⟨cd, y1, y2, y3⟩ := C2 q D z
    exact ⟨cd.map Sum.inl, en, by rw [flI_map]; exact y1, ⟨okI_map _ _, fun _ => ⟨cd, rfl⟩, fun n k m vs pt st => by rw [exJ_L]; exact y3 n k m vs pt st⟩, fun _ _ => rfl, y2⟩
  intro lv
  induction lv with
  | zero =>
    intro nb stk qn hl hnb p an o sd gs en ss hsd
    rw [pTest]
    refine cmp nb stk qn p an o sd gs en ss hsd hnb (fun _ => ?_)
    rw [aBg, if_pos (Or.inl (by omega))]
  | succ lv ih =>
    intro nb stk qn hl hnb p an o sd gs en ss hsd
    have hnbs : (decide (0 < qn) && decide (sd ≠ 2)) = nb := by rw [hnb, decide_eq_true hsd, Bool.and_true]
    rw [pTest]
    by_cases h33 : t p = 33
    · rw [if_pos h33]
      have hp : p < len := Nat.lt_of_not_le (fun z => by have := ht p z; omega)
      have hP : ¬ isP nb (t p) = true := by rw [h33]; cases nb <;> decide
      have e1 : aR t len rule p 0 (stk, an, o, qn, sd, 0, 0, gs, en, ss) = aR t len rule (p + 1) 0 ((33, an, o, gs.length) :: stk, an, o, qn, sd, 0, 0, gs, en, ss) := by
        refine aR_some hp ?_
        rw [aStep, if_pos (by decide), aSt, hnbs, if_neg hP, if_pos rfl, aBg, if_neg (by omega), if_pos h33, h33]
      obtain ⟨F1, F2⟩ := ih nb ((33, an, o, gs.length) :: stk) qn (by rw [List.length_cons]; omega) hnb (p + 1) an o sd gs en ss hsd
      cases hf : pTest t lv nb (p + 1) with
      | mk q D1 =>
        cases D1 with
        | none =>
          refine ⟨fun q' z => ?_, fun q' D' z => (by cases z)⟩
          cases z
          rw [e1]; exact F1 _ hf
        | some D1 =>
          refine ⟨fun q' z => (by cases z), fun q' D' z => ?_⟩
          cases z
          obtain ⟨its, en', y1, y2, y3, y4⟩ := F2 q D1 hf
          refine ⟨its ++ [.inl 33], en', ?_, SG_not y2, y3, by omega⟩
          rw [e1, y1, aET, aET, popT, if_neg (by simp), if_pos rfl, flI_app, ← List.append_assoc]
          rfl
    · rw [if_neg h33]
      by_cases h40 : t p = 40
      · rw [if_pos h40]
        have hp : p < len := Nat.lt_of_not_le (fun z => by have := ht p z; omega)
        have hP : ¬ isP nb (t p) = true := by rw [h40]; cases nb <;> decide
        have e1 : aR t len rule p 0 (stk, an, o, qn, sd, 0, 0, gs, en, ss) = aR t len rule (p + 1) 0 ((40, an, o, gs.length) :: stk, false, false, qn, sd, 0, 0, gs, en, ss) := by
          refine aR_some hp ?_
          rw [aStep, if_pos (by decide), aSt, hnbs, if_neg hP, if_pos rfl, aBg, if_neg (by omega), if_neg h33, if_pos h40, h40]
        obtain ⟨F1, F2⟩ := guard_tie ht h48 (ih nb ((40, an, o, gs.length) :: stk) qn (by rw [List.length_cons]; omega) hnb) (fun w st e => by cases e; rfl) (p + 1) sd gs en ss hsd
        cases hf : pGuard t (pTest t lv nb) (p + 1) with
        | mk q D1 =>
          cases D1 with
          | none =>
            refine ⟨fun q' z => ?_, fun q' D' z => (by cases z)⟩
            cases z
            rw [e1]; exact F1 _ hf
          | some D1 =>
            obtain ⟨its, en', o', gs', y1, y2, y3, y4, y5, y6, y7⟩ := F2 q D1 hf
            dsimp only
            by_cases h41 : t q = 41
            · rw [if_pos h41]
              refine ⟨fun q' z => (by cases z), fun q' D' z => ?_⟩
              cases z
              have hq : q < len := Nat.lt_of_not_le (fun z => by have := ht q z; omega)
              refine ⟨its, en', ?_, y3, y4, by omega⟩
              have e2 : gR t len rule q ((40, an, o, gs.length) :: stk, false, o', qn, 1, 0, 0, gs', en', ss) = aR t len rule (q + 1) 4 (aET (stk, an, o, qn, 1, 0, 0, gs ++ flI its, en', ss)) := by
                rw [gR, if_pos hq, h41]
                simp [aGO, y2]
              rw [e1, y1, e2, aET, close_all (Or.inl rfl), if_neg (by decide)]
            · rw [if_neg h41]
              refine ⟨fun q' z => ?_, fun q' D' z => (by cases z)⟩
              cases z
              rw [e1, y1, gR]
              by_cases hq : q < len
              · rw [if_pos hq]
                have e3 : aGO rule (t q) ((40, an, o, gs.length) :: stk, false, o', qn, 1, 0, 0, gs', en', ss) = none := by
                  simp only [aGO, y6, y7, h41, if_false]
                  split <;> rfl
                rw [e3]
              · rw [if_neg hq]
                by_cases hr : rule = true
                · rw [if_pos hr]
                · rw [if_neg hr]
                  simp [aEnd, aEB]
      · rw [if_neg h40]
        by_cases hqu : nb = false ∧ (t p = 65 ∨ t p = 69)
        · rw [if_pos hqu]
          have hp : p < len := Nat.lt_of_not_le (fun z => by have := ht p z; omega)
          have hP : ¬ isP nb (t p) = true := by
            rw [hqu.1]
            rcases hqu.2 with z | z <;> rw [z] <;> decide
          have hq0 : ¬ 0 < qn := by
            rw [hqu.1] at hnb
            exact of_decide_eq_false hnb
          have e1 : aR t len rule p 0 (stk, an, o, qn, sd, 0, 0, gs, en, ss) = aR t len rule (p + 1) 0 ((t p, an, o, gs.length) :: stk, an, o, qn + 1, sd, 0, 0, gs ++ [t p], en, ss) := by
            refine aR_some hp ?_
            rw [aStep, if_pos (by decide), aSt, hnbs, if_neg hP, if_pos rfl, aBg, if_neg (by omega), if_neg h33, if_neg h40]
          obtain ⟨F1, F2⟩ := ih true ((t p, an, o, gs.length) :: stk) (qn + 1) (by rw [List.length_cons]; omega) (decide_eq_true (by omega)) (p + 1) an o sd (gs ++ [t p]) en ss hsd
          cases hf : pTest t lv true (p + 1) with
          | mk q D1 =>
            cases D1 with
            | none =>
              refine ⟨fun q' z => ?_, fun q' D' z => (by cases z)⟩
              cases z
              rw [e1]; exact F1 _ hf
            | some D1 =>
              refine ⟨fun q' z => (by cases z), fun q' D' z => ?_⟩
              cases z
              obtain ⟨its, en', y1, y2, y3, y4⟩ := F2 q D1 hf
              obtain ⟨cd, rfl⟩ := y2.2.1 rfl
              rw [flI_map] at y1
              refine ⟨[.inr (t p, cd, D1)], uI en' gs.length (nI (gs ++ [t p] ++ cd).length), ?_, ⟨⟨hqu.2, ?_, fun n k m vs pt st => ?_, trivial⟩, fun z => (by rw [hqu.1] at z; cases z), fun n k m vs pt st => ?_⟩, fun i hi => ?_, by omega⟩
              · rw [e1, y1, aET, aET, popT, if_neg (by omega), if_neg (by omega)]
                simp [flI]
              · simp [uI]
                congr 1
                omega
              · rw [← exJ_L (n := n) (m := m) (vs := vs)]
                exact y2.2.2 n k m vs pt st
              · simp [exJ]
              · rw [uI, if_neg (by omega), y3 i (by simp; omega)]
        · rw [if_neg hqu]
          refine cmp nb stk qn p an o sd gs en ss hsd hnb (fun _ => ?_)
          have hz : ¬ (t p = 65 ∨ t p = 69) ∨ 0 < qn := by
            by_cases z : t p = 65 ∨ t p = 69
            · refine Or.inr ?_
              cases nb with
              | false => exact absurd ⟨rfl, z⟩ hqu
              | true => exact of_decide_eq_true hnb
            · exact Or.inl z
          rw [aBg, if_pos (Or.inr ⟨h33, h40, hz⟩)]
theorem rule_tie {en : Nat → Int32} (ht : ∀ i, len ≤ i → t i = 0) (h48 : len ≤ 48) :
    (∀ q, pRule t len = (q, none) → aR t len true 0 0 ([], false, false, 0, 0, 0, 0, [], en, []) = .inl q) ∧
    (∀ q D p m w, pRule t len = (q, some (D, p, m, w)) → ∃ its en' cd stk an o qn sd cp ad, aR t len true 0 0 ([], false, false, 0, 0, 0, 0, [], en, []) = .inr (stk, an, o, qn, sd, cp, ad, flI its, en', cd) ∧ SG false its D 0 en' ∧ ∀ (k : Nat) (pt : Nat → Int32) (st : List Int32), exL false k pt cd st = some (smF k pt m (fun i => t (p + 2 * i)) (sgF t p) w :: st)) := by
  obtain ⟨F1, F2⟩ := guard_tie (rule := true) ht h48 (test_tie ht h48 8 false [] 0 rfl rfl) (fun w st e => by cases e) 0 0 [] en [] (by decide)
  unfold pRule
  cases hf : pGuard t (pTest t 8 false) 0 with
  | mk q D1 =>
    cases D1 with
    | none =>
      refine ⟨fun q' z => ?_, fun q' D' p m w z => (by cases z)⟩
      cases z
      exact F1 _ hf
    | some D1 =>
      obtain ⟨its, en', o', gs', y1, y2, y3, y4, y5, y6, y7⟩ := F2 q D1 hf
      rw [List.nil_append] at y2
      dsimp only
      by_cases h62 : t q = 62
      · rw [if_pos h62]
        have hq : q < len := Nat.lt_of_not_le (fun z => by have := ht q z; omega)
        have e1 : gR t len true q ([], false, o', 0, 1, 0, 0, gs', en', []) = aR t len true (q + 1) 1 ([], false, false, 0, 2, 0, 0, flI its, en', []) := by
          rw [gR, if_pos hq, h62]
          simp [aGO, y2]
        by_cases hP : isP false (t (q + 1)) = true
        · have hq1 : q + 1 < len := Nat.lt_of_not_le (fun z => by rw [ht _ z, isP_0] at hP; cases hP)
          have e2 : aR t len true (q + 1) 1 ([], false, false, 0, 2, 0, 0, flI its, en', []) = aR t len true (q + 2) 2 ([], false, false, 0, 2, 0, 0, flI its, en', [t (q + 1)]) := by
            refine aR_some hq1 ?_
            rw [aStep, if_pos (by decide), aSt, show (decide (0 < 0) && decide ((2 : Nat) ≠ 2)) = false by decide, if_pos hP]
            rfl
          obtain ⟨L1, L2⟩ := sum_loop (rule := true) (nb := false) (stk := []) (an := false) (o := false) (qn := 0) (sd := 2) (cp := 0) (p0 := q + 1) (en := en') ht (by decide) 48 (q + 2) 1 (flI its) [t (q + 1)] (by omega) (Nat.le_refl _) (by omega)
          cases hs : pSumL t false 48 (q + 2) 1 with
          | mk q3 mw =>
            have hps : pSum t false (q + 1) = (q3, mw) := by rw [pSum, if_pos hP, hs]
            rw [hps]
            cases mw with
            | none =>
              refine ⟨fun q' z => ?_, fun q' D' p m w z => (by cases z)⟩
              cases z
              rw [y1, e1, e2]; exact L1 q3 hs
            | some mw =>
              obtain ⟨m1, w1⟩ := mw
              obtain ⟨cd, due, z1, z2, z3, z4⟩ := L2 q3 m1 w1 hs
              have z1' : aR t len true (q + 2) 2 ([], false, false, 0, 2, 0, 0, flI its, en', [t (q + 1)]) = aR t len true q3 due ([], false, false, 0, 2, 0, 0, flI its, en', [t (q + 1)] ++ cd) := by
                rw [z1]; rfl
              dsimp only
              by_cases hl : q3 < len
              · rw [if_pos hl]
                refine ⟨fun q' z => ?_, fun q' D' p m w z => (by cases z)⟩
                cases z
                rw [y1, e1, e2, z1']
                refine aR_none hl ?_
                rw [aStep, if_neg (by omega), aFo, if_neg (by omega), if_neg (by omega), if_neg (by omega), if_pos ⟨by omega, by decide⟩]
              · rw [if_neg hl]
                refine ⟨fun q' z => (by cases z), fun q' D' p m w z => ?_⟩
                cases z
                refine ⟨its, en', [t (q + 1)] ++ cd, [], false, false, 0, 2, 0, 0, ?_, y3, fun k pt st => ?_⟩
                · rw [y1, e1, e2, z1', aR_ge (by omega), aFin, if_neg (by omega), if_pos rfl, if_pos rfl]
                · have w1' := z4 k pt st
                  rw [sv_1 sgF_0, Nat.mul_zero, Nat.add_zero] at w1'
                  rw [exL_app _ _ _ _ (exL_1 hP)]
                  exact w1'
        · have hps : pSum t false (q + 1) = (q + 1, none) := by rw [pSum, if_neg hP]
          rw [hps]
          refine ⟨fun q' z => ?_, fun q' D' p m w z => (by cases z)⟩
          cases z
          rw [y1, e1]
          by_cases hq1 : q + 1 < len
          · refine aR_none hq1 ?_
            rw [aStep, if_pos (by decide), aSt, show (decide (0 < 0) && decide ((2 : Nat) ≠ 2)) = false by decide, if_neg hP, if_neg (by decide)]
          · rw [aR_ge (by omega), aFin, if_pos (by decide)]
      · rw [if_neg h62]
        refine ⟨fun q' z => ?_, fun q' D' p m w z => (by cases z)⟩
        cases z
        rw [y1, gR]
        by_cases hq : q < len
        · rw [if_pos hq]
          have e3 : aGO true (t q) ([], false, o', 0, 1, 0, 0, gs', en', []) = none := by
            simp [aGO, y6, y7, h62]
          rw [e3]
        · rw [if_neg hq, if_pos rfl]
theorem aim_tie {en : Nat → Int32} (ht : ∀ i, len ≤ i → t i = 0) (h48 : len ≤ 48) :
    (∀ q, pAim t len = (q, none) → aR t len false 0 0 ([], false, false, 0, 0, 0, 0, [], en, []) = .inl q) ∧
    (∀ q D, pAim t len = (q, some D) → ∃ its en' cd stk an o qn sd cp ad, aR t len false 0 0 ([], false, false, 0, 0, 0, 0, [], en, []) = .inr (stk, an, o, qn, sd, cp, ad, flI its, en', cd) ∧ SG false its D 0 en') := by
  obtain ⟨F1, F2⟩ := guard_tie (rule := false) ht h48 (test_tie ht h48 8 false [] 0 rfl rfl) (fun w st e => by cases e) 0 0 [] en [] (by decide)
  unfold pAim
  cases hf : pGuard t (pTest t 8 false) 0 with
  | mk q D1 =>
    cases D1 with
    | none =>
      refine ⟨fun q' z => ?_, fun q' D' z => (by cases z)⟩
      cases z
      exact F1 _ hf
    | some D1 =>
      obtain ⟨its, en', o', gs', y1, y2, y3, y4, y5, y6, y7⟩ := F2 q D1 hf
      rw [List.nil_append] at y2
      dsimp only
      by_cases hq : q < len
      · rw [if_pos hq]
        refine ⟨fun q' z => ?_, fun q' D' z => (by cases z)⟩
        cases z
        rw [y1, gR, if_pos hq]
        have e3 : aGO false (t q) ([], false, o', 0, 1, 0, 0, gs', en', []) = none := by
          simp [aGO, y6, y7]
        rw [e3]
      · rw [if_neg hq]
        refine ⟨fun q' z => (by cases z), fun q' D' z => ?_⟩
        cases z
        refine ⟨its, en', [], [], false, false, 0, 1, 0, 0, ?_, y3⟩
        rw [y1, gR, if_neg hq, if_neg (by decide)]
        simp [aEnd, aEB, y2]
end Tie2P
