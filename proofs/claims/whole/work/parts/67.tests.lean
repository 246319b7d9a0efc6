/-! Reading tests and guards. -/
def prD (op : Bool) (D1 D2 : GD) : GD := fun n k m vs pt => if op = true then D1 n k m vs pt && D2 n k m vs pt else D1 n k m vs pt || D2 n k m vs pt
def pCmp (t : Nat → Nat) (nb : Bool) (p : Nat) : Nat × Option GD := match pSum t nb p with
  | (f, none) => (f, none)
  | (q, some (m1, w1)) => if t q = 60 ∨ t q = 61 ∨ t q = 35 then (match pSum t nb (q + 1) with
    | (f, none) => (f, none)
    | (q2, some (m2, w2)) => (q2, some (fun _ k _ _ pt => cpF (t q) (smF k pt m1 (fun i => t (p + 2 * i)) (sgF t p) w1) (smF k pt m2 (fun i => t (q + 1 + 2 * i)) (sgF t (q + 1)) w2)))) else (q, none)
def pLoop (t : Nat → Nat) (sep : Nat) (op : Bool) (f : Nat → Nat × Option GD) : Nat → Nat → GD → Nat × Option GD
  | 0, p, D => (p, some D)
  | m + 1, p, D => if t p = sep then (match f (p + 1) with
    | (q, none) => (q, none)
    | (q, some D1) => pLoop t sep op f m q (prD op D D1)) else (p, some D)
def pSeq (t : Nat → Nat) (sep : Nat) (op : Bool) (f : Nat → Nat × Option GD) (p : Nat) : Nat × Option GD := match f p with
  | (q, none) => (q, none)
  | (q, some D) => pLoop t sep op f 48 q D
def pGuard (t : Nat → Nat) (f : Nat → Nat × Option GD) : Nat → Nat × Option GD := pSeq t 124 false (pSeq t 38 true f)
def pTest (t : Nat → Nat) : Nat → Bool → Nat → Nat × Option GD
  | 0, nb, p => pCmp t nb p
  | lv + 1, nb, p => if t p = 33 then (match pTest t lv nb (p + 1) with
      | (q, none) => (q, none)
      | (q, some D) => (q, some (fun n k m vs pt => !(D n k m vs pt))))
    else if t p = 40 then (match pGuard t (pTest t lv nb) (p + 1) with
      | (q, none) => (q, none)
      | (q, some D) => if t q = 41 then (q + 1, some D) else (q, none))
    else if nb = false ∧ (t p = 65 ∨ t p = 69) then (match pTest t lv true (p + 1) with
      | (q, none) => (q, none)
      | (q, some D) => (q, some (fun n k m vs pt => quF (decide (t p = 65)) (D n k m vs) m vs pt n)))
    else pCmp t nb p
/-- what reading a tree comes to -/
def PO (h h' : MH) (R T len : Nat) (t : Nat → Nat) (p : Nat) (r : Nat × Option GD) (A : Nat) (nb : Bool) : Prop := PX R h h' ∧ p ≤ r.1 ∧ mj_z h' ≤ mj_z h + 3 + 4 * (r.1 - p) ∧ (r.2 = none → RD h' R T len t r.1 (nI r.1)) ∧ ∀ D, r.2 = some D → RD h' R T len t r.1 (-1) ∧ p < r.1 ∧ TG (r.1 - p) h' A nb D
section RtK
variable {L : Nat} {xs : Nat → Int32} {d : Nat} {Q : Option Value × MH → Prop} {R T len : Nat} {t : Nat → Nat}
theorem k_readCmp {h : MH} {nb : Bool} {p : Nat} (r : RD h R T len t p (-1)) (hQ : ∀ h' A, PO h h' R T len t p (pCmp t nb p) A nb → Q (some (.ref A), h')) : mj_Wp L xs (d + 1 + 1 + 1 + 1 + 1 + 1 + 1) 30 0 [some (.ref R), some (.int (bI nb)), none, none] [] h Q := by
  obtain ⟨r1, r2, r3, r4, r5, r6, r7, r8, r9, r10, r11, r12, r13, r14⟩ := id r
  simp only [w_30_0, w_30_1, w_30_2, r4]
  refine k_readSum r (Or.inl rfl) (fun h1 A1 s1 => ?_)
  obtain ⟨x1, z1, i1, l1, p1, fl1, rd1, c1⟩ := s1
  have isR1 := rd1.2.2.2.1
  -- behind the sign
  have tail : ∀ (h2 : MH) (p2 : Nat) (fl2 : Int32) (sg : Nat), PX R h1 h2 → mj_z h2 = mj_z h1 → RD h2 R T len t p2 fl2 → sg < 127 → (fl2 = -1 ∨ ∃ f, fl2 = nI f ∧ f ≤ 48) →
      (∀ h' A A2, PX R h h' → mj_z h' = mj_z h + 3 → 46 ≤ A → mj_is h' A 1 3 → mj_r h' A 0 = some A1 → mj_r h' A 2 = some A2 → mj_i h' A 1 = nI sg → ExU h2 h' → ∀ p3 fl3, RD h' R T len t p3 fl3 → ((fl2 ≠ -1 ∧ p3 = p2 ∧ fl3 = fl2) ∨ (fl2 = -1 ∧ ((∃ f, pSum t nb p2 = (f, none) ∧ p3 = f ∧ fl3 = nI f ∧ p2 ≤ f) ∨ (∃ q m w, pSum t nb p2 = (q, some (m, w)) ∧ p3 = q ∧ fl3 = -1 ∧ p2 < q ∧ SumAt h' A2 m (fun i => t (p2 + 2 * i)) (sgF t p2) w ∧ ∀ i, i < m → okN nb (t (p2 + 2 * i)))))) → Q (some (.ref A), h')) → mj_Wp L xs (d + 1 + 1 + 1 + 1 + 1 + 1 + 1) 30 46 [some (.ref R), some (.int (bI nb)), some (.ref A1), some (.int (nI sg))] [] h2 Q := by
    intro h2 p2 fl2 sg x2 z2 rd2 hsg hfl hK
    obtain ⟨h3, hh3⟩ : ∃ h3, h3 = mj_nw h2 1 3 := ⟨_, rfl⟩
    have x3 : PX R h2 h3 := by rw [hh3]; exact PX_nw PX_rf (by decide)
    have nR : R ≠ mj_z h2 := by have := rd2.2.2.2.1.1; omega
    have rd3 : RD h3 R T len t p2 fl2 := RD_PX rd2 x3 rd2.2.2.2.2.2.2.2.2.2.2.2.1 (by rw [hh3, mj_nw_io nR]; exact rd2.2.2.2.2.2.2.2.2.2.2.2.2.1) (by rw [hh3, mj_nw_io nR]; exact rd2.2.2.2.2.2.2.2.2.2.2.2.2.2)
    have isC : mj_is h3 (mj_z h2) 1 3 := ⟨by rw [hh3, mj_nw_z]; omega, by rw [hh3]; exact mj_nw_m⟩
    simp only [w_30_46, w_30_49, w_30_50, w_30_51, w_30_52, w_30_53, w_30_54, ← hh3, rd3.2.2.2.1]
    refine k_readSum rd3 hfl (fun h4 A2 s4 => ?_)
    obtain ⟨x4, z4, i4, l4, p3, fl3, rd4, c4⟩ := s4
    have isC4 := PX_is x4 isC
    have z3 : mj_z h3 = mj_z h2 + 1 := by rw [hh3]; rfl
    have f5 : mj_fit .char (nI sg) = true := fit_ch sg hsg
    simp only [w_30_57, w_30_60, w_34_0, w_34_1, w_34_4, w_34_5, w_34_6, w_34_9, w_34_10, w_34_11, w_34_14, w_34_15, w_34_16, w_34_19, w_26_0, w_26_1, w_26_4, Option.toList, List.cons_append, List.nil_append, isC4, mj_is_wr, mj_is_wi, f5]
    have rC : ∀ j, mj_r h4 (mj_z h2) j = none := fun j => by
      rw [(x4.2.1 _ isC.1).2.1, hh3, mj_nw_r]
    have hmR : (mj_m h2 R).1 = 6 := by rw [rd2.2.2.2.1.2]
    have x5 : PX R h (mj_wr (mj_wi (mj_wr h4 (mj_z h2) 0 (some A1)) (mj_z h2) 1 (nI sg)) (mj_z h2) 2 (some A2)) := PX_wr (PX_wi (PX_wr (PX_tr x1 (PX_tr x2 (PX_tr x3 x4))) (by omega)) (by omega)) (by omega)
    have e45 : ExU h4 (mj_wr (mj_wi (mj_wr h4 (mj_z h2) 0 (some A1)) (mj_z h2) 1 (nI sg)) (mj_z h2) 2 (some A2)) := ⟨Nat.le_refl _, fun a _ ha => ⟨rfl, by
      by_cases z : a = mj_z h2
      · rw [z]
        refine Or.inr (Or.inl ⟨?_, rC⟩)
        rw [isC4.2]; decide
      · refine Or.inr (Or.inr ⟨?_, ?_⟩)
        · funext j; rw [mj_i_wr, mj_i_ne z, mj_i_wr]
        · funext j; simp [mj_r_wr, mj_r_wi, z]⟩⟩
    have e25 : ExU h2 (mj_wr (mj_wi (mj_wr h4 (mj_z h2) 0 (some A1)) (mj_z h2) 1 (nI sg)) (mj_z h2) 2 (some A2)) := PX_ExU (R := R) (PX_wr (PX_wi (PX_wr (PX_tr x3 x4) (Nat.le_refl _)) (Nat.le_refl _)) (Nat.le_refl _)) hmR
    have x25 : PX R h2 (mj_wr (mj_wi (mj_wr h4 (mj_z h2) 0 (some A1)) (mj_z h2) 1 (nI sg)) (mj_z h2) 2 (some A2)) := PX_wr (PX_wi (PX_wr (PX_tr x3 x4) (Nat.le_refl _)) (Nat.le_refl _)) (Nat.le_refl _)
    have rd5 : RD (mj_wr (mj_wi (mj_wr h4 (mj_z h2) 0 (some A1)) (mj_z h2) 1 (nI sg)) (mj_z h2) 2 (some A2)) R T len t p3 fl3 := RD_PX rd2 x25 rd4.2.2.2.2.2.2.2.2.2.2.2.1 (by simp [mj_i_wr, mj_i_wi, nR]; exact rd4.2.2.2.2.2.2.2.2.2.2.2.2.1) (by simp [mj_i_wr, mj_i_wi, nR]; exact rd4.2.2.2.2.2.2.2.2.2.2.2.2.2)
    refine hK _ (mj_z h2) A2 x5 (by show mj_z h4 = mj_z h + 3; omega) (by have := rd2.2.2.2.1.1; have := rd2.1; omega) (by simpa only [mj_is_wi, mj_is_wr] using isC4) (by simp [mj_r_wr, mj_r_wi]) (by simp [mj_r_wr]) (by simp [mj_i_wr, mj_i_wi]) e25 p3 fl3 rd5 ?_
    rcases c4 with c4 | ⟨c4, c5 | ⟨q, m, w, y1, y2, y3, y4, y5, y6⟩⟩
    · exact Or.inl c4
    · exact Or.inr ⟨c4, Or.inl c5⟩
    · exact Or.inr ⟨c4, Or.inr ⟨q, m, w, y1, y2, y3, y4, ExU_Sum e45 y5, y6⟩⟩
  have h127 := nxC_lt rd1
  have z61 : (nI (nxC t p1 fl1) = nI 61) = (nxC t p1 fl1 = 61) := by rw [nI_eq (by omega) (by omega)]
  have z35 : (nI (nxC t p1 fl1) = nI 35) = (nxC t p1 fl1 = 35) := by rw [nI_eq (by omega) (by omega)]
  have z60 : (nI (nxC t p1 fl1) = nI 60) = (nxC t p1 fl1 = 60) := by rw [nI_eq (by omega) (by omega)]
  simp only [w_30_5, w_30_6, w_30_7, w_30_10, w_30_11, w_30_12, w_30_14, w_30_17, w_30_18, w_30_20, w_30_23, w_30_24, w_30_26, w_30_29, w_30_30, w_30_31, w_30_34, w_30_35, w_30_36, w_30_39, w_30_42, w_30_43, isR1, k_next rd1, k_refuse rd1, z61, z35, z60, rd1.2.2.2.2.2.2.2.2.2.2.2.2.1, Option.toList, List.cons_append, List.nil_append, nI_add]
  rcases c1 with ⟨c1, -⟩ | ⟨-, ⟨f, y1, y2, y3, y4⟩ | ⟨q, m, w, y1, y2, y3, y4, y5, y6⟩⟩
  · exact absurd rfl c1
  · have hne : fl1 ≠ -1 := by rw [y3]; exact nI_nm1 (by have := rd1.2.2.2.2.2.2.2.2.2.2.2.1; omega)
    have n0 : nxC t p1 fl1 = 0 := if_neg hne
    rw [n0]
    simp only [show ¬ (0 = 61) by decide, show ¬ (0 = 35) by decide, show ¬ (0 = 60) by decide, if_false, not_false_eq_true, if_true, hne]
    have hpc : pCmp t nb p = (f, none) := by rw [pCmp, y1]
    refine tail h1 p1 fl1 0 PX_rf rfl rd1 (by decide) (Or.inr ⟨f, y3, by have := rd1.2.2.2.2.2.2.2.2.2.2.2.1; omega⟩) (fun h' A A2 q1 q2 q3 q4 q5 q6 q7 q8 p3 fl3 q9 q10 => hQ h' A ⟨q1, ?_⟩)
    rw [hpc]
    rcases q10 with ⟨_, e2, e3⟩ | ⟨e1, -⟩
    · refine ⟨y4, by omega, fun _ => ?_, fun D hD => by cases hD⟩
      rw [e2, e3, y3, y2] at q9
      exact q9
    · exact absurd e1 hne
  · have n0 : nxC t p1 fl1 = t q := by rw [y2, y3]; exact if_pos rfl
    rw [n0]
    rw [y2, y3] at rd1
    have hql := rd1.2.2.2.2.2.2.2.2.2.2.2.1
    by_cases cs : t q = 60 ∨ t q = 61 ∨ t q = 35
    · have hq : q < len := RD_lt rd1 (by omega)
      have x2 : PX R h1 (mj_wi h1 R 1 (nI (q + 1))) := PX_wR PX_rf
      have go : mj_Wp L xs (d + 1 + 1 + 1 + 1 + 1 + 1 + 1) 30 46 [some (.ref R), some (.int (bI nb)), some (.ref A1), some (.int (nI (t q)))] [] (mj_wi h1 R 1 (nI (q + 1))) Q := by
        refine tail _ (q + 1) (-1) (t q) x2 rfl (RD_PX rd1 x2 (by omega) (by simp [mj_i_wi]) (by simp [mj_i_wi]; exact rd1.2.2.2.2.2.2.2.2.2.2.2.2.2)) (rd1.2.2.2.2.2.2.2.2.2.1 q) (Or.inl rfl) (fun h' A A2 q1 q2 q3 q4 q5 q6 q7 q8 p3 fl3 q9 q10 => hQ h' A ⟨q1, ?_⟩)
        rcases q10 with ⟨e1, -⟩ | ⟨-, ⟨f, e1, e2, e3, e4⟩ | ⟨q', m', w', e1, e2, e3, e4, e5, e6⟩⟩
        · exact absurd rfl e1
        · have hpc : pCmp t nb p = (f, none) := by rw [pCmp, y1]; simp only [cs, if_true]; rw [e1]
          rw [hpc]
          refine ⟨by omega, by omega, fun _ => ?_, fun D hD => by cases hD⟩
          rw [e2, e3] at q9
          exact q9
        · have hpc : pCmp t nb p = (q', some (fun _ k _ _ pt => cpF (t q) (smF k pt m (fun i => t (p + 2 * i)) (sgF t p) w) (smF k pt m' (fun i => t (q + 1 + 2 * i)) (sgF t (q + 1)) w'))) := by rw [pCmp, y1]; simp only [cs, if_true]; rw [e1]
          rw [hpc]
          refine ⟨by omega, by omega, fun hz => (by cases hz), fun D hD => ?_⟩
          rw [e2, e3] at q9
          refine ⟨q9, by omega, ?_⟩
          obtain ⟨tt, htt⟩ : ∃ tt, q' - p = tt + 1 := ⟨q' - p - 1, by omega⟩
          have hmR : (mj_m h1 R).1 = 6 := by rw [rd1.2.2.2.1.2]
          show TG (q' - p) h' A nb D
          rw [htt]
          refine ⟨q3, Or.inl ⟨A1, A2, t q, m, m', _, _, _, _, w, w', q4, q5, q6, q7, by omega, ExU_Sum q8 (ExU_Sum (PX_ExU x2 hmR) y5), e5, ⟨y6, e6⟩, ?_⟩⟩
          exact (Option.some.inj hD).symm
      rcases cs with c | c | c
      · simp only [c, show ¬ (60 = 61) by decide, show ¬ (60 = 35) by decide, if_false, not_true_eq_false, y2]
        rw [c] at go
        exact go
      · simp only [c, if_true, y2]
        rw [c] at go
        exact go
      · simp only [c, show ¬ (35 = 61) by decide, if_false, if_true, y2]
        rw [c] at go
        exact go
    · have c1 : ¬ t q = 61 := fun z => cs (Or.inr (Or.inl z))
      have c2 : ¬ t q = 35 := fun z => cs (Or.inr (Or.inr z))
      have c3 : ¬ t q = 60 := fun z => cs (Or.inl z)
      have x2 : PX R h1 (mj_wi h1 R 2 (nI q)) := PX_wR PX_rf
      have hne : nI q ≠ -1 := nI_nm1 (by omega)
      have hpc : pCmp t nb p = (q, none) := by rw [pCmp, y1]; simp only [cs, if_false]
      simp only [c1, c2, c3, if_false, not_false_eq_true, if_true, y2, y3]
      refine tail _ q (nI q) (t q) x2 rfl (RD_PX rd1 x2 hql (by simp [mj_i_wi]; exact rd1.2.2.2.2.2.2.2.2.2.2.2.2.1) (by simp [mj_i_wi])) (rd1.2.2.2.2.2.2.2.2.2.1 q) (Or.inr ⟨q, rfl, by omega⟩) (fun h' A A2 q1 q2 q3 q4 q5 q6 q7 q8 p3 fl3 q9 q10 => hQ h' A ⟨q1, ?_⟩)
      rw [hpc]
      rcases q10 with ⟨_, e2, e3⟩ | ⟨e1, -⟩
      · refine ⟨by omega, by omega, fun _ => ?_, fun D hD => by cases hD⟩
        rw [e2, e3] at q9
        exact q9
      · exact absurd e1 hne
end RtK
