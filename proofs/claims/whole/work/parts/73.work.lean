/-! The reference: a program's words, and what each does to the heap of numbers. -/
def joI (c : Nat) (v w : Int32) : Int32 := if c = 43 then v + w else if c = 45 then v - w else if c = 61 then bI (decide (v = w)) else if c = 35 then bI (!(decide (v = w))) else if c = 60 then bI (decide (v < w)) else if c = 38 then v &&& w else v ||| w
def isOp (c : Nat) : Bool := c == 43 || c == 45 || c == 61 || c == 35 || c == 60 || c == 38 || c == 124
def exC (nb : Bool) (k : Nat) (pt : Nat → Int32) (c : Nat) (st : List Int32) : Option (List Int32) :=
  if c = 37 then (match st with | v :: r => some (fmI v (nI k) :: r) | [] => none)
  else if c = 33 then (match st with | v :: r => some ((nI 1 - v) :: r) | [] => none)
  else if isOp c = true then (match st with | w :: v :: r => some (joI c v w :: r) | _ => none)
  else if isP nb c = true then some (pt c :: st) else none
def exL (nb : Bool) (k : Nat) (pt : Nat → Int32) : List Nat → List Int32 → Option (List Int32)
  | [], st => some st
  | c :: l, st => match exC nb k pt c st with
    | none => none
    | some st' => exL nb k pt l st'
theorem exL_app {nb : Bool} {k : Nat} {pt : Nat → Int32} : ∀ (l1 l2 : List Nat) (st st' : List Int32), exL nb k pt l1 st = some st' → exL nb k pt (l1 ++ l2) st = exL nb k pt l2 st'
  | [], l2, st, st', q => by
    simp only [exL, Option.some.injEq] at q
    rw [q]; rfl
  | c :: l, l2, st, st', q => by
    rw [exL] at q
    rw [List.cons_append, exL]
    cases hc : exC nb k pt c st with
    | none => rw [hc] at q; cases q
    | some s1 => rw [hc] at q; exact exL_app l l2 s1 st' q
theorem exC_len {nb : Bool} {k : Nat} {pt : Nat → Int32} {c : Nat} {st st' : List Int32} (q : exC nb k pt c st = some st') : st'.length ≤ st.length + 1 := by
  unfold exC at q
  split at q
  · split at q
    · cases q; simp
    · cases q
  · split at q
    · split at q
      · cases q; simp
      · cases q
    · split at q
      · split at q
        · cases q; simp
        · cases q
      · split at q
        · cases q; simp
        · cases q
theorem exC_0 {k : Nat} {pt pt' : Nat → Int32} {c : Nat} {st st' : List Int32} (hp : ∀ c, okC c → pt' c = pt c) (q : exC false k pt c st = some st') : exC true k pt' c st = some st' := by
  unfold exC at q ⊢
  by_cases c1 : c = 37
  · simpa only [c1, if_true] using q
  by_cases c2 : c = 33
  · simpa only [c1, c2, if_true, if_false] using q
  by_cases c3 : isOp c = true
  · simpa only [c1, c2, c3, if_true, if_false] using q
  by_cases c4 : isP false c = true
  · have c5 : okC c := by
      rcases isP_ok.mp c4 with z | ⟨z, -⟩
      · exact z
      · cases z
    have c6 : isP true c = true := isP_ok.mpr (Or.inl c5)
    simp only [c1, c2, c3, c4, if_true, if_false] at q
    simp only [c1, c2, c3, c6, if_true, if_false, hp c c5]
    exact q
  · simp only [c1, c2, c3, c4, if_false] at q
    cases q
def SKr (h : MH) : List Int32 → Prop
  | [] => True
  | v :: r => mj_i h 39 r.length = v ∧ SKr h r
theorem SKr_cong {h h' : MH} : ∀ st : List Int32, (∀ i, i < st.length → mj_i h' 39 i = mj_i h 39 i) → SKr h st → SKr h' st
  | [], _, _ => trivial
  | v :: r, q, s => ⟨by rw [q _ (by simp)]; exact s.1, SKr_cong r (fun i hi => q i (by simp; omega)) s.2⟩
/-- the numbers on the heap -/
def SK (h : MH) (st : List Int32) : Prop := mj_i h 25 30 = nI st.length ∧ SKr h st
/-- what working at a program leaves as it was -/
def WX (h h' : MH) : Prop := mj_sx [25, 39] h h' ∧ ∀ j, j ≠ 30 → mj_i h' 25 j = mj_i h 25 j
theorem WX_rf {h : MH} : WX h h := ⟨sx_rf, fun _ _ => rfl⟩
theorem WX_tr {h h' h'' : MH} (a : WX h h') (b : WX h' h'') : WX h h'' := ⟨sx_tr a.1 b.1, fun j hj => (b.2 j hj).trans (a.2 j hj)⟩
theorem WX_RB {h h' : MH} {n k e : Nat} {lk : Nat → Nat} (q : WX h h') (a : RB h n k e lk) : RB h' n k e lk := RB_sx q.1 (by decide) (fun j hj => q.2 j (by omega)) a
theorem WX_LK {h h' : MH} {n k s : Nat} (q : WX h h') (a : LK h n k s) : LK h' n k s := fun j hj => by rw [sx_i q.1 (by decide)]; exact a j hj
theorem nI_s1 {m : Nat} : nI (m + 1) - nI 1 = nI m := by rw [pk_sub (by omega), Nat.add_sub_cancel]
section WorkK
variable {L : Nat} {xs : Nat → Int32} {d : Nat} {Q : Option Value × MH → Prop} {h : MH} {n k e : Nat} {lk : Nat → Nat}
theorem r_truth {b : Bool} : mj_Wp L xs d 114 0 [some (.int (bI b))] [] h Q ↔ Q (some (.int (bI b)), h) := by
  have n10 : ¬ nI 1 = nI 0 := by decide
  cases b <;> simp only [w_114_0, w_114_1, w_114_4, w_114_5, w_114_8, w_114_9, bI_0, bI_1, n10, if_true, if_false]
theorem r_join {c : Nat} {v w : Int32} (hc : isOp c = true) : mj_Wp L xs (d + 1) 113 0 [some (.int (nI c)), some (.int v), some (.int w)] [] h Q ↔ Q (some (.int (joI c v w)), h) := by
  have t1 := fun (Q : Option Value × MH → Prop) => r_truth (L := L) (xs := xs) (d := d) (h := h) (Q := Q) (b := true)
  have t0 := fun (Q : Option Value × MH → Prop) => r_truth (L := L) (xs := xs) (d := d) (h := h) (Q := Q) (b := false)
  simp only [bI_0, bI_1] at t0 t1
  have hc' : c = 43 ∨ c = 45 ∨ c = 61 ∨ c = 35 ∨ c = 60 ∨ c = 38 ∨ c = 124 := by
    simp only [isOp, Bool.or_eq_true, beq_iff_eq] at hc
    omega
  rcases hc' with rfl | rfl | rfl | rfl | rfl | rfl | rfl
  · simp only [w_113_0, w_113_1_43, w_113_60, w_113_61, w_113_62, w_113_63, joI, if_true]
  · simp only [w_113_0, w_113_1_45, w_113_64, w_113_65, w_113_66, w_113_67, joI, show ¬ (45 = 43) by decide, if_true, if_false]
  · simp only [w_113_0, w_113_1_61, w_113_68, w_113_69, w_113_70, w_113_73, w_113_74, w_113_77, w_113_78, w_113_81, mj_fit_n0, mj_fit_n1, t0, t1, Option.toList, List.cons_append, List.nil_append]
    by_cases z : v = w <;> simp [z, joI, bI]
  · simp only [w_113_0, w_113_1_35, w_113_82, w_113_83, w_113_84, w_113_87, w_113_88, w_113_91, w_113_92, w_113_95, mj_fit_n0, mj_fit_n1, t0, t1, Option.toList, List.cons_append, List.nil_append]
    by_cases z : v = w <;> simp [z, joI, bI]
  · simp only [w_113_0, w_113_1_60, w_113_96, w_113_97, w_113_98, w_113_101, w_113_102, w_113_105, w_113_106, w_113_109, mj_fit_n0, mj_fit_n1, t0, t1, Option.toList, List.cons_append, List.nil_append]
    by_cases z : w ≤ v
    · have z2 : ¬ v < w := Int32.not_lt.mpr z
      simp [z, z2, joI, bI]
    · have z2 : v < w := Int32.not_le.mp z
      simp [z, z2, joI, bI]
  · simp only [w_113_0, w_113_1_38, w_113_110, w_113_111, w_113_112, w_113_113]
    simp [joI]
  · have hx : Op.lookupswitch.offset [(35, 81), (38, 109), (43, 59), (45, 63), (60, 95), (61, 67)] 113 (nI 124).toInt = 113 := by decide
    simp only [w_113_0, w_113_1_d hx, w_113_114, w_113_115, w_113_116, w_113_117]
    simp [joI]
theorem isP_nop0 : ∀ c, c < 127 → (!(isP true c) || (!(c == 37) && !(c == 33) && !(isOp c))) = true := by decide +kernel
theorem isP_lt {nb : Bool} {c : Nat} (q : isP nb c = true) : c < 127 := by
  have := isP_ok.mp q
  unfold okN okC at this
  omega
theorem r_work {s x y c : Nat} {st st' : List Int32} (a : RB h n k e lk) (l : LK h n k s) (hx : x < n) (hy : y < n) (sk : SK h st) (hl : st.length < 64) (q : exC true k (ptR n k lk s x y) c st = some st') (hc : c < 127)
    (hQ : ∀ h', WX h h' → SK h' st' → Q (none, h')) : mj_Wp L xs (d + 1 + 1) 111 0 [some (.ref 25), some (.int (nI c)), some (.int (nI x)), some (.int (nI y))] [] h Q := by
  have hL := a.2.2.2.2.2.1
  have zc : ∀ j, j < 127 → (nI c = nI j) = (c = j) := fun j hj => by rw [nI_eq (by omega) (by omega)]
  have z37 := zc 37 (by decide)
  have z33 := zc 33 (by decide)
  have z43 := zc 43 (by decide)
  have z45 := zc 45 (by decide)
  have z61 := zc 61 (by decide)
  have z35 := zc 35 (by decide)
  have z60 := zc 60 (by decide)
  have z38 := zc 38 (by decide)
  have z124 := zc 124 (by decide)
  have ei : ∀ m, m < 64 → mj_in (nI m) 64 = true := fun m hm => mj_in_nI hm (by decide)
  have ec : ∀ m, m < 64 → (nI m).toNatClampNeg = m := fun m hm => nI_clamp (by omega)
  obtain ⟨s30, sr⟩ := sk
  unfold exC at q
  by_cases c1 : c = 37
  · rw [if_pos c1] at q
    cases st with
    | nil => cases q
    | cons v r =>
      cases q
      have hr : r.length < 64 := by simp at hl; omega
      rw [List.length_cons] at s30
      simp only [w_111_0, w_111_1, w_111_3, w_111_6, w_111_7, w_111_10, w_111_11, w_111_14, w_111_15, w_111_16, w_111_17, w_111_18, w_111_21, w_111_22, w_111_25, w_111_26, w_111_27, w_111_28, w_111_31, w_111_32, w_111_184, z37, c1, not_true_eq_false, if_false, ly_25 hL, lr_25_29 hL, lk_39 hL, ln_39 hL, mj_rv_some, s30, nI_s1, ei _ hr, ec _ hr, sr.1, r_modulo a, Option.toList, List.cons_append, List.nil_append]
      refine hQ _ ⟨sx_wi (by decide), fun j _ => mj_i_ne (by decide)⟩ ⟨by rw [mj_i_ne (by decide)]; exact s30, by simp [mj_i_wi], SKr_cong r (fun i hi => ?_) sr.2⟩
      rw [mj_i_wi]
      simp only [show ¬ i = r.length by omega, and_false, if_false]
  rw [if_neg c1] at q
  by_cases c2 : c = 33
  · rw [if_pos c2] at q
    cases st with
    | nil => cases q
    | cons v r =>
      cases q
      have hr : r.length < 64 := by simp at hl; omega
      rw [List.length_cons] at s30
      simp only [w_111_0, w_111_1, w_111_3, w_111_35, w_111_36, w_111_38, w_111_41, w_111_42, w_111_45, w_111_46, w_111_49, w_111_50, w_111_51, w_111_52, w_111_53, w_111_56, w_111_57, w_111_60, w_111_61, w_111_62, w_111_63, w_111_64, w_111_65, w_111_184, z37, z33, c1, c2, not_true_eq_false, not_false_eq_true, if_true, if_false, ly_25 hL, lr_25_29 hL, lk_39 hL, ln_39 hL, mj_rv_some, s30, nI_s1, ei _ hr, ec _ hr, sr.1]
      refine hQ _ ⟨sx_wi (by decide), fun j _ => mj_i_ne (by decide)⟩ ⟨by rw [mj_i_ne (by decide)]; exact s30, by simp [mj_i_wi], SKr_cong r (fun i hi => ?_) sr.2⟩
      rw [mj_i_wi]
      simp only [show ¬ i = r.length by omega, and_false, if_false]
  rw [if_neg c2] at q
  by_cases c3 : isOp c = true
  · rw [if_pos c3] at q
    cases st with
    | nil => cases q
    | cons w r =>
      cases r with
      | nil => cases q
      | cons v r =>
        cases q
        have hr1 : r.length + 1 < 64 := by simp at hl; omega
        have hr : r.length < 64 := by omega
        rw [List.length_cons, List.length_cons] at s30
        obtain ⟨sr1, sr2, sr3⟩ := sr
        rw [List.length_cons] at sr1
        obtain ⟨h1, hh⟩ : ∃ h1, h1 = mj_wi h 25 30 (nI (r.length + 1)) := ⟨_, rfl⟩
        have hL1 : Lay h1 := by rw [hh]; exact Lay_wi.mpr hL
        have t30 : mj_i h1 25 30 = nI (r.length + 1) := by rw [hh]; simp [mj_i_wi]
        have t39 : ∀ j, mj_i h1 39 j = mj_i h 39 j := fun j => by rw [hh, mj_i_ne (by decide)]
        have key : mj_Wp L xs (d + 1 + 1) 111 110 [some (.ref 25), some (.int (nI c)), some (.int (nI x)), some (.int (nI y))] [] h Q := by
          simp only [w_111_110, w_111_111, w_111_112, w_111_115, w_111_116, w_111_117, w_111_120, w_111_121, w_111_124, w_111_125, w_111_128, w_111_129, w_111_130, w_111_131, w_111_132, w_111_135, w_111_136, w_111_139, w_111_140, w_111_141, w_111_142, w_111_143, w_111_146, w_111_147, w_111_150, w_111_151, w_111_154, w_111_155, w_111_184, ly_25 hL, mj_rv_some, s30, nI_s1, ← hh, ly_25 hL1, lr_25_29 hL1, lk_39 hL1, ln_39 hL1, t30, t39, ei _ hr, ec _ hr, ei _ hr1, ec _ hr1, sr1, sr2, r_join c3, Option.toList, List.cons_append, List.nil_append]
          refine hQ _ ⟨sx_tr (by rw [hh]; exact sx_wi (by decide)) (sx_wi (by decide)), fun j hj => by rw [mj_i_ne (by decide), hh]; simp [mj_i_wi, hj]⟩ ⟨by rw [mj_i_ne (by decide)]; exact t30, by simp [mj_i_wi], SKr_cong r (fun i hi => ?_) sr3⟩
          rw [mj_i_wi]
          simp only [show ¬ i = r.length by omega, and_false, if_false]
          exact t39 i
        simp only [isOp, Bool.or_eq_true, beq_iff_eq] at c3
        simp only [w_111_0, w_111_1, w_111_3, w_111_35, w_111_36, w_111_38, w_111_68, w_111_69, w_111_71, w_111_74, w_111_75, w_111_77, w_111_80, w_111_81, w_111_83, w_111_86, w_111_87, w_111_89, w_111_92, w_111_93, w_111_95, w_111_98, w_111_99, w_111_101, w_111_104, w_111_105, w_111_107, z37, z33, z43, z45, z61, z35, z60, z38, z124, c1, c2, not_false_eq_true, if_true]
        (repeat' split) <;> first | exact key | (exfalso; omega)
  rw [if_neg c3] at q
  by_cases c4 : isP true c = true
  · rw [if_pos c4] at q
    cases q
    have hok := isP_ok.mp c4
    simp only [isOp, Bool.or_eq_true, beq_iff_eq] at c3
    have d1 : ¬ c = 43 := by omega
    have d2 : ¬ c = 45 := by omega
    have d3 : ¬ c = 61 := by omega
    have d4 : ¬ c = 35 := by omega
    have d5 : ¬ c = 60 := by omega
    have d6 : ¬ c = 38 := by omega
    have d7 : ¬ c = 124 := by omega
    obtain ⟨h1, hh⟩ : ∃ h1, h1 = mj_wi h 39 st.length (ptR n k lk s x y c) := ⟨_, rfl⟩
    have hL1 : Lay h1 := by rw [hh]; exact Lay_wi.mpr hL
    have t25 : ∀ j, mj_i h1 25 j = mj_i h 25 j := fun j => by rw [hh, mj_i_ne (by decide)]
    simp only [w_111_0, w_111_1, w_111_3, w_111_35, w_111_36, w_111_38, w_111_68, w_111_69, w_111_71, w_111_74, w_111_75, w_111_77, w_111_80, w_111_81, w_111_83, w_111_86, w_111_87, w_111_89, w_111_92, w_111_93, w_111_95, w_111_98, w_111_99, w_111_101, w_111_104, w_111_105, w_111_107, w_111_158, w_111_159, w_111_162, w_111_163, w_111_166, w_111_167, w_111_168, w_111_169, w_111_170, w_111_173, w_111_174, w_111_175, w_111_176, w_111_179, w_111_180, w_111_181, w_111_184, z37, z33, z43, z45, z61, z35, z60, z38, z124, c1, c2, d1, d2, d3, d4, d5, d6, d7, not_false_eq_true, if_true, if_false, ly_25 hL, lr_25_29 hL, lk_39 hL, ln_39 hL, mj_rv_some, s30, ei _ hl, ec _ hl, r_part a l hx hy hok, Option.toList, List.cons_append, List.nil_append, ← hh, ly_25 hL1, t25, nI_add]
    refine hQ _ ⟨sx_tr (by rw [hh]; exact sx_wi (by decide)) (sx_wi (by decide)), fun j hj => by rw [← t25 j]; simp [mj_i_wi, hj]⟩ ⟨by simp [mj_i_wi], ?_, SKr_cong st (fun i hi => ?_) sr⟩
    · rw [mj_i_ne (by decide), hh]; simp [mj_i_wi]
    · rw [mj_i_ne (by decide), hh, mj_i_wi]
      simp only [show ¬ i = st.length by omega, and_false, if_false]
  · rw [if_neg c4] at q; cases q
end WorkK
