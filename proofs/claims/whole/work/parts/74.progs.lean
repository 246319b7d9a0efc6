/-! The reference: programs, and what they say. -/
def cdA (f : Nat → Int32) : List Nat → Nat → Prop
  | [], _ => True
  | c :: l, p => f p = nI c ∧ cdA f l (p + 1)
theorem cdA_app {f : Nat → Int32} : ∀ (l l2 : List Nat) (p : Nat), cdA f (l ++ l2) p ↔ cdA f l p ∧ cdA f l2 (p + l.length)
  | [], l2, p => by simp [cdA]
  | c :: l, l2, p => by
    rw [List.cons_append, cdA, cdA, cdA_app l l2 (p + 1), List.length_cons, show p + 1 + l.length = p + (l.length + 1) by omega]
    exact and_assoc.symm
theorem cdA_cong {f g : Nat → Int32} : ∀ (l : List Nat) (p : Nat), (∀ i, p ≤ i → i < p + l.length → g i = f i) → cdA f l p → cdA g l p
  | [], _, _, _ => trivial
  | c :: l, p, q, s => ⟨by rw [q p (by omega) (by simp)]; exact s.1, cdA_cong l (p + 1) (fun i h1 h2 => q i (by omega) (by simp; omega)) s.2⟩
abbrev IT : Type := Nat ⊕ (Nat × List Nat × GD)
def flI : List IT → List Nat
  | [] => []
  | .inl c :: l => c :: flI l
  | .inr w :: l => w.1 :: (w.2.1 ++ flI l)
theorem flI_app : ∀ a b : List IT, flI (a ++ b) = flI a ++ flI b
  | [], b => rfl
  | .inl c :: l, b => by simp [flI, flI_app l b]
  | .inr w :: l, b => by simp [flI, flI_app l b]
def exI (n k m : Nat) (vs pt : Nat → Int32) : List IT → List Int32 → Option (List Int32)
  | [], st => some st
  | .inl c :: l, st => match exC false k pt c st with
    | none => none
    | some st' => exI n k m vs pt l st'
  | .inr w :: l, st => exI n k m vs pt l (bI (quF (decide (w.1 = 65)) (w.2.2 n k m vs) m vs pt n) :: st)
theorem exI_app {n k m : Nat} {vs pt : Nat → Int32} : ∀ (l1 l2 : List IT) (st st' : List Int32), exI n k m vs pt l1 st = some st' → exI n k m vs pt (l1 ++ l2) st = exI n k m vs pt l2 st'
  | [], l2, st, st', q => by
    simp only [exI, Option.some.injEq] at q
    rw [q]; rfl
  | .inl c :: l, l2, st, st', q => by
    rw [exI] at q
    rw [List.cons_append, exI]
    cases hc : exC false k pt c st with
    | none => rw [hc] at q; cases q
    | some s1 => rw [hc] at q; exact exI_app l l2 s1 st' q
  | .inr w :: l, l2, st, st', q => by
    rw [exI] at q
    rw [List.cons_append, exI]
    exact exI_app l l2 _ st' q
def okI (en : Nat → Int32) : List IT → Nat → Prop
  | [], _ => True
  | .inl _ :: l, p => okI en l (p + 1)
  | .inr w :: l, p => (w.1 = 65 ∨ w.1 = 69) ∧ en p = nI (p + 1 + w.2.1.length) ∧ (∀ (n k m : Nat) (vs pt : Nat → Int32) (st : List Int32), exL true k pt w.2.1 st = some (bI (w.2.2 n k m vs pt) :: st)) ∧ okI en l (p + 1 + w.2.1.length)
theorem okI_app {en : Nat → Int32} : ∀ (a b : List IT) (p : Nat), okI en (a ++ b) p ↔ okI en a p ∧ okI en b (p + (flI a).length)
  | [], b, p => by simp [okI, flI]
  | .inl c :: l, b, p => by
    rw [List.cons_append, okI, okI, okI_app l b (p + 1), flI, List.length_cons, show p + 1 + (flI l).length = p + ((flI l).length + 1) by omega]
  | .inr w :: l, b, p => by
    rw [List.cons_append, okI, okI, okI_app l b, flI, List.length_cons, List.length_append, show p + 1 + w.2.1.length + (flI l).length = p + (w.2.1.length + (flI l).length + 1) by omega]
    simp only [and_assoc]
theorem okI_cong {en en' : Nat → Int32} : ∀ (l : List IT) (p : Nat), (∀ i, p ≤ i → i < p + (flI l).length → en' i = en i) → okI en l p → okI en' l p
  | [], _, _, _ => trivial
  | .inl c :: l, p, q, s => okI_cong l (p + 1) (fun i h1 h2 => q i (by omega) (by simp [flI]; omega)) s
  | .inr w :: l, p, q, s => ⟨s.1, by rw [q p (by omega) (by simp [flI])]; exact s.2.1, s.2.2.1, okI_cong l _ (fun i h1 h2 => q i (by omega) (by simp [flI]; omega)) s.2.2.2⟩
/-- the program in slot r says D -/
def PGm (h : MH) (r : Nat) (D : GD) : Prop := ∃ its : List IT, (flI its).length ≤ 48 ∧ mj_i h 31 r = nI (flI its).length ∧ cdA (fun p => mj_i h 29 (48 * r + p)) (flI its) 0 ∧ okI (fun p => mj_i h 30 (48 * r + p)) its 0 ∧ ∀ (n k m : Nat) (vs pt : Nat → Int32) (st : List Int32), exI n k m vs pt its st = some (bI (D n k m vs pt) :: st)
/-- the sum in slot r -/
def PSm (h : MH) (r : Nat) (w : Nat × (Nat → Nat) × (Nat → Bool) × Bool) : Prop := ∃ cd : List Nat, cd.length ≤ 48 ∧ mj_i h 33 r = nI cd.length ∧ cdA (fun p => mj_i h 32 (48 * r + p)) cd 0 ∧ ∀ (k : Nat) (pt : Nat → Int32) (st : List Int32), exL false k pt cd st = some (smF k pt w.1 w.2.1 w.2.2.1 w.2.2.2 :: st)
theorem exC_c {nb : Bool} {k : Nat} {pt : Nat → Int32} {c : Nat} {st st' : List Int32} (q : exC nb k pt c st = some st') : c < 127 ∧ c ≠ 65 ∧ c ≠ 69 := by
  unfold exC at q
  by_cases c1 : c = 37
  · omega
  by_cases c2 : c = 33
  · omega
  by_cases c3 : isOp c = true
  · simp only [isOp, Bool.or_eq_true, beq_iff_eq] at c3; omega
  by_cases c4 : isP nb c = true
  · have := isP_ok.mp c4
    unfold okN okC at this
    omega
  · simp only [c1, c2, c3, c4, if_false] at q; cases q
section HoldsR
variable {L : Nat} {xs : Nat → Int32} {d : Nat} {Q : Option Value × MH → Prop} {n k e : Nat} {lk : Nat → Nat}
theorem r_ar_in {s x y r to : Nat} {v2 v5 v6 : Option Value} (hr : r < 8) (hx : x < n) (hy : y < n) (hto : to ≤ 48) : ∀ (l : List Nat) (p : Nat) (st st' : List Int32) (h : MH), RB h n k e lk → LK h n k s → SK h st → p + l.length = to → st.length + l.length < 64 → cdA (fun p => mj_i h 29 (48 * r + p)) l p → exL true k (ptR n k lk s x y) l st = some st' →
    (∀ h' X, WX h h' → SK h' st' → mj_Wp L xs (d + 1 + 1 + 1) 110 91 [some (.ref 25), some (.int (nI r)), v2, some (.int (nI to)), some (.int (nI x)), v5, v6, some (.int (nI y)), X] [] h' Q) → mj_Wp L xs (d + 1 + 1 + 1) 110 59 [some (.ref 25), some (.int (nI r)), v2, some (.int (nI to)), some (.int (nI x)), v5, v6, some (.int (nI y)), some (.int (nI p))] [] h Q := by
  intro l
  induction l with
  | nil =>
    intro p st st' h a lq sk hp hl cd q hQ
    have hp : p = to := by simpa using hp
    subst hp
    cases q
    rw [w_110_59]
    simp only [w_110_61, w_110_62, nI_leI (show p < 2 ^ 31 by omega) (show p < 2 ^ 31 by omega), Nat.le_refl, if_true]
    exact hQ h _ WX_rf sk
  | cons c l ih =>
    intro p st st' h a lq sk hp hl cd q hQ
    rw [List.length_cons] at hp hl
    have hL := a.2.2.2.2.2.1
    have e0 : ¬ to ≤ p := by omega
    have e1 : mj_in (nI (48 * r + p)) 384 = true := mj_in_nI (by omega) (by omega)
    have e2 : (nI (48 * r + p)).toNatClampNeg = 48 * r + p := nI_clamp (by omega)
    have e3 : nI 48 * nI r + nI p = nI (48 * r + p) := by rw [pk_mul, nI_add]
    have e4 : mj_i h 29 (48 * r + p) = nI c := cd.1
    rw [exL] at q
    cases hc : exC true k (ptR n k lk s x y) c st with
    | none => rw [hc] at q; cases q
    | some s1 =>
      rw [hc] at q
      rw [w_110_59]
      simp only [w_110_61, w_110_62, w_110_65, w_110_66, w_110_67, w_110_70, w_110_72, w_110_73, w_110_74, w_110_76, w_110_77, w_110_78, w_110_80, w_110_82, nI_leI (show to < 2 ^ 31 by omega) (show p < 2 ^ 31 by omega), e0, if_false, ly_25 hL, lr_25_12 hL, lk_29 hL, ln_29 hL, mj_rv_some, e3, e1, e2, e4]
      refine r_work a lq hx hy sk (by omega) hc (exC_c hc).1 (fun h1 w1 sk1 => ?_)
      simp only [w_110_85, w_110_88, Option.toList, List.nil_append, nI_add]
      have := exC_len hc
      refine ih (p + 1) s1 st' h1 (WX_RB w1 a) (WX_LK w1 lq) sk1 (by omega) (by omega) ?_ q (fun h' X w' sk' => hQ h' X (WX_tr w1 w') sk')
      exact cdA_cong _ _ (fun i _ _ => sx_i w1.1 (by decide)) cd.2
theorem r_around {s x r p qc : Nat} {b : List Nat} {D : GD} {st : List Int32} {h : MH} (a : RB h n k e lk) (lq : LK h n k s) (hx : x < n) (hr : r < 8) (hq : qc = 65 ∨ qc = 69) (sk : SK h st) (hto : p + 1 + b.length ≤ 48) (hl : st.length + b.length < 64) (hg : mj_i h 29 (48 * r + p) = nI qc) (cd : cdA (fun p => mj_i h 29 (48 * r + p)) b (p + 1)) (sem : ∀ (n k m : Nat) (vs pt : Nat → Int32) (st : List Int32), exL true k pt b st = some (bI (D n k m vs pt) :: st))
    (hQ : ∀ h', WX h h' → SK h' st → Q (some (.int (bI (quF (decide (qc = 65)) (D n k (lk x) (vsF n k s)) (lk x) (vsF n k s) (ptN n k (lk x) s x) n))), h')) : mj_Wp L xs (d + 1 + 1 + 1) 110 0 [some (.ref 25), some (.int (nI r)), some (.int (nI (p + 1))), some (.int (nI (p + 1 + b.length))), some (.int (nI x)), none, none, none, none] [] h Q := by
  have n10 : ¬ nI 1 = nI 0 := by decide
  have a1 := a.1
  have a2 := a.2.1
  have lp : ∀ (m y : Nat) (h1 : MH) (X : Option Value), y + m = n → WX h h1 → SK h1 st → mj_Wp L xs (d + 1 + 1 + 1) 110 32 [some (.ref 25), some (.int (nI r)), some (.int (nI (p + 1))), some (.int (nI (p + 1 + b.length))), some (.int (nI x)), some (.int (bI (decide (qc = 65)))), some (.int (bI (quF (decide (qc = 65)) (D n k (lk x) (vsF n k s)) (lk x) (vsF n k s) (ptN n k (lk x) s x) y))), some (.int (nI y)), X] [] h1 Q := by
    intro m
    induction m with
    | zero =>
      intro y h1 X hy w1 sk1
      have hy : y = n := by omega
      subst hy
      have b1 := WX_RB w1 a
      rw [w_110_32]
      simp only [w_110_34, w_110_35, w_110_38, w_110_163, w_110_165, w_110_168, ly_25 b1.2.2.2.2.2.1, b1.2.2.2.2.2.2.1, nI_leI (show y < 2 ^ 31 by omega) (show y < 2 ^ 31 by omega), Nat.le_refl, if_true, r_truth, fit_bI, Option.toList, List.cons_append, List.nil_append]
      exact hQ h1 w1 sk1
    | succ m ih =>
      intro y h1 X hy w1 sk1
      have b1 := WX_RB w1 a
      have hL := b1.2.2.2.2.2.1
      have e0 : ¬ n ≤ y := by omega
      have e1 : mj_in (nI (5 * x + y)) 25 = true := mj_in_nI (by omega) (by omega)
      have e2 : (nI (5 * x + y)).toNatClampNeg = 5 * x + y := nI_clamp (by omega)
      rw [w_110_32]
      simp only [w_110_34, w_110_35, w_110_38, w_110_41, w_110_42, w_110_45, w_110_46, w_110_48, w_110_49, w_110_51, w_110_52, w_110_53, w_110_56, w_110_57, ly_25 hL, lr_25_3 hL, lk_26 hL, ln_26 hL, mj_rv_some, b1.2.2.2.2.2.2.1, nI_leI (show n < 2 ^ 31 by omega) (show y < 2 ^ 31 by omega), e0, if_false, n5x, e1, e2, b1.2.2.2.2.2.2.2.2.2 x y (by omega) (by omega), n2_0]
      by_cases hz : lk x / 2 ^ y % 2 = 0
      · simp only [hz, if_true, w_110_157, w_110_160, nI_add]
        have := ih (y + 1) h1 X (by omega) w1 sk1
        rw [quF, if_pos hz] at this
        exact this
      · simp only [hz, if_false]
        refine r_ar_in hr hx (show y < n by omega) hto b (p + 1) st _ h1 b1 (WX_LK w1 lq) sk1 rfl hl (cdA_cong _ _ (fun i _ _ => sx_i w1.1 (by decide)) cd) (sem n k (lk x) (vsF n k s) _ st) (fun h2 X2 w2 sk2 => ?_)
        have b2 := WX_RB w2 b1
        have hL2 := b2.2.2.2.2.2.1
        obtain ⟨t30, t39, t⟩ := sk2
        rw [List.length_cons] at t30
        have ei : mj_in (nI st.length) 64 = true := mj_in_nI (by omega) (by decide)
        have ec : (nI st.length).toNatClampNeg = st.length := nI_clamp (by omega)
        obtain ⟨h3, hh⟩ : ∃ h3, h3 = mj_wi h2 25 30 (nI st.length) := ⟨_, rfl⟩
        have hL3 : Lay h3 := by rw [hh]; exact Lay_wi.mpr hL2
        have u30 : mj_i h3 25 30 = nI st.length := by rw [hh]; simp [mj_i_wi]
        have u39 : ∀ j, mj_i h3 39 j = mj_i h2 39 j := fun j => by rw [hh, mj_i_ne (by decide)]
        have w3 : WX h h3 := WX_tr w1 (WX_tr w2 ⟨by rw [hh]; exact sx_wi (by decide), fun j hj => by rw [hh]; simp [mj_i_wi, hj]⟩)
        have sk3 : SK h3 st := ⟨u30, SKr_cong st (fun i _ => u39 i) t⟩
        have iha := ih (y + 1) h3 X2 (by omega) w3 sk3
        rw [quF, if_neg hz] at iha
        have ept : D n k (lk x) (vsF n k s) (ptR n k lk s x y) = D n k (lk x) (vsF n k s) (ptU (ptN n k (lk x) s x) (vsF n k s y) (nI y)) := rfl
        rw [ept] at t39
        generalize D n k (lk x) (vsF n k s) (ptU (ptN n k (lk x) s x) (vsF n k s y) (nI y)) = dv at t39 iha
        generalize quF (decide (qc = 65)) (D n k (lk x) (vsF n k s)) (lk x) (vsF n k s) (ptN n k (lk x) s x) y = iv at iha ⊢
        simp only [w_110_91, w_110_92, w_110_93, w_110_96, w_110_97, w_110_98, w_110_101, ly_25 hL2, mj_rv_some, t30, nI_s1, ← hh]
        rcases hq with rfl | rfl
        · have e65 : decide ((65 : Nat) = 65) = true := rfl
          rw [e65] at iha ⊢
          simp only [w_110_103, bI_1, n10, if_false, w_110_106]
          simp only [if_true] at iha
          cases iv
          · simp only [bI_0, w_110_108, if_true, w_110_128, w_110_129, w_110_155, w_110_157, w_110_160, nI_add]
            exact iha
          · simp only [bI_1, w_110_108, n10, if_false, w_110_111, w_110_112, w_110_115, w_110_116, w_110_119, w_110_120, w_110_121, w_110_124, w_110_125, w_110_128, w_110_129, w_110_155, w_110_157, w_110_160, nI_add, ly_25 hL3, lr_25_29 hL3, lk_39 hL3, ln_39 hL3, mj_rv_some, u30, ei, ec, u39, t39]
            cases dv
            · simp only [bI_0, show ¬ nI 0 = nI 1 by decide, not_false_eq_true, if_true]
              exact iha
            · simp only [bI_1, not_true_eq_false, if_false]
              exact iha
        · have e65 : decide ((69 : Nat) = 65) = false := rfl
          rw [e65] at iha ⊢
          simp only [w_110_103, bI_0, if_true, w_110_132]
          simp only [Bool.false_eq_true, if_false] at iha
          cases iv
          · simp only [bI_0, w_110_134, not_true_eq_false, if_false, w_110_137, w_110_138, w_110_141, w_110_142, w_110_145, w_110_146, w_110_147, w_110_150, w_110_151, w_110_154, w_110_155, w_110_157, w_110_160, nI_add, ly_25 hL3, lr_25_29 hL3, lk_39 hL3, ln_39 hL3, mj_rv_some, u30, ei, ec, u39, t39]
            cases dv
            · simp only [bI_0, show ¬ nI 0 = nI 1 by decide, not_false_eq_true, if_true]
              exact iha
            · simp only [bI_1, not_true_eq_false, if_false]
              exact iha
          · simp only [bI_1, w_110_134, n10, not_false_eq_true, if_true, w_110_150, w_110_151, w_110_154, w_110_155, w_110_157, w_110_160, nI_add]
            exact iha
  have hL := a.2.2.2.2.2.1
  have e1 : mj_in (nI (48 * r + p)) 384 = true := mj_in_nI (by omega) (by omega)
  have e2 : (nI (48 * r + p)).toNatClampNeg = 48 * r + p := nI_clamp (by omega)
  have e3 : nI 48 * nI r + nI (p + 1) - nI 1 = nI (48 * r + p) := by rw [pk_mul, nI_add, ← Nat.add_assoc, nI_s1]
  have st0 := lp n 0 h none (by omega) WX_rf sk
  rw [quF] at st0
  simp only [w_110_0, w_110_1, w_110_4, w_110_6, w_110_7, w_110_8, w_110_9, w_110_10, w_110_11, w_110_12, w_110_13, w_110_15, w_110_18, w_110_19, w_110_22, w_110_23, ly_25 hL, lr_25_12 hL, lk_29 hL, ln_29 hL, mj_rv_some, e3, e1, e2, hg]
  rcases hq with rfl | rfl
  · simp only [not_true_eq_false, if_false, w_110_18, w_110_19, w_110_22, w_110_23, w_110_25, w_110_27, w_110_29, w_110_30]
    exact st0
  · simp only [show ¬ nI 69 = nI 65 by decide, not_false_eq_true, if_true, w_110_22, w_110_23, w_110_25, w_110_27, w_110_29, w_110_30]
    exact st0
theorem r_holds_loop {s x r len : Nat} {D : GD} {v : Int32} (hx : x < n) (hr : r < 8) (hlen : len ≤ 48) : ∀ (its : List IT) (p : Nat) (st : List Int32) (h : MH) (X Y Z : Option Value), RB h n k e lk → LK h n k s → SK h st → mj_i h 31 r = nI len → p + (flI its).length = len → st.length ≤ p → cdA (fun p => mj_i h 29 (48 * r + p)) (flI its) p → okI (fun p => mj_i h 30 (48 * r + p)) its p → exI n k (lk x) (vsF n k s) (ptN n k (lk x) s x) its st = some [v] →
    (∀ h', WX h h' → Q (some (.int (bI (decide (v = nI 1)))), h')) → mj_Wp L xs (d + 1 + 1 + 1 + 1) 109 7 [some (.ref 25), some (.int (nI r)), some (.int (nI x)), some (.int (nI p)), X, Y, Z] [] h Q := by
  have p0 : ∀ c, okC c → ptR n k lk s x 0 c = ptN n k (lk x) s x c := fun c hc => by
    obtain ⟨c1, c2⟩ := okC_ne hc
    simp only [ptR, ptU, c1, c2, if_false]
  intro its
  induction its with
  | nil =>
    intro p st h X Y Z a lq sk h31 hp hl cd ok q hQ
    have hp : p = len := by simpa [flI] using hp
    subst hp
    cases q
    have hL := a.2.2.2.2.2.1
    have e1 : mj_in (nI r) 8 = true := mj_in_nI (by omega) (by omega)
    have e2 : (nI r).toNatClampNeg = r := nI_clamp (by omega)
    have t39 : mj_i h 39 0 = v := sk.2.1
    rw [w_109_7]
    simp only [w_109_8, w_109_9, w_109_12, w_109_13, w_109_14, w_109_111, w_109_112, w_109_115, w_109_116, w_109_117, w_109_118, w_109_121, w_109_122, w_109_125, w_109_126, ly_25 hL, lr_25_14 hL, lr_25_29 hL, lk_31 hL, ln_31 hL, lk_39 hL, ln_39 hL, mj_rv_some, e1, e2, h31, nI_leI (show p < 2 ^ 31 by omega) (show p < 2 ^ 31 by omega), Nat.le_refl, if_true, show mj_in (nI 0) 64 = true by decide, show (nI 0).toNatClampNeg = 0 by decide, t39, mj_fit_n0, mj_fit_n1]
    have fin := hQ h WX_rf
    by_cases hv : v = nI 1
    · simp only [hv, not_true_eq_false, if_false]
      rw [decide_eq_true hv] at fin
      exact fin
    · simp only [hv, not_false_eq_true, if_true]
      rw [decide_eq_false hv] at fin
      exact fin
  | cons it l ih =>
    intro p st h X Y Z a lq sk h31 hp hl cd ok q hQ
    have a1 := a.1
    have hL := a.2.2.2.2.2.1
    have e1 : mj_in (nI r) 8 = true := mj_in_nI (by omega) (by omega)
    have e2 : (nI r).toNatClampNeg = r := nI_clamp (by omega)
    have e5 : nI 48 * nI r + nI p = nI (48 * r + p) := by rw [pk_mul, nI_add]
    cases it with
    | inl c =>
      rw [flI, List.length_cons] at hp
      rw [flI] at cd
      rw [exI] at q
      have e0 : ¬ len ≤ p := by omega
      have e3 : mj_in (nI (48 * r + p)) 384 = true := mj_in_nI (by omega) (by omega)
      have e4 : (nI (48 * r + p)).toNatClampNeg = 48 * r + p := nI_clamp (by omega)
      have e6 : mj_i h 29 (48 * r + p) = nI c := cd.1
      cases hc : exC false k (ptN n k (lk x) s x) c st with
      | none => rw [hc] at q; cases q
      | some s1 =>
        rw [hc] at q
        obtain ⟨c1, c2, c3⟩ := exC_c hc
        have z65 : ¬ nI c = nI 65 := by rw [nI_eq (by omega) (by omega)]; exact c2
        have z69 : ¬ nI c = nI 69 := by rw [nI_eq (by omega) (by omega)]; exact c3
        rw [w_109_7]
        simp only [w_109_8, w_109_9, w_109_12, w_109_13, w_109_14, w_109_17, w_109_18, w_109_21, w_109_23, w_109_24, w_109_25, w_109_26, w_109_27, w_109_28, w_109_30, w_109_32, w_109_34, w_109_37, w_109_39, w_109_41, w_109_97, w_109_98, w_109_100, w_109_101, w_109_102, ly_25 hL, lr_25_14 hL, lr_25_12 hL, lk_31 hL, ln_31 hL, lk_29 hL, ln_29 hL, mj_rv_some, e1, e2, h31, nI_leI (show len < 2 ^ 31 by omega) (show p < 2 ^ 31 by omega), e0, if_false, e5, e3, e4, e6, z65, z69, not_false_eq_true, if_true]
        refine r_work (d := d + 1) a lq hx (show 0 < n by omega) sk (by omega) (exC_0 p0 hc) c1 (fun h1 w1 sk1 => ?_)
        simp only [w_109_105, w_109_108, Option.toList, List.nil_append, nI_add]
        have := exC_len hc
        exact ih (p + 1) s1 h1 _ _ _ (WX_RB w1 a) (WX_LK w1 lq) sk1 (by rw [sx_i w1.1 (by decide)]; exact h31) (by omega) (by omega) (cdA_cong _ _ (fun i _ _ => sx_i w1.1 (by decide)) cd.2) (okI_cong _ _ (fun i _ _ => sx_i w1.1 (by decide)) ok) q (fun h' w' => hQ h' (WX_tr w1 w'))
    | inr w =>
      obtain ⟨qc, b, D1⟩ := w
      rw [flI, List.length_cons, List.length_append] at hp
      rw [flI] at cd
      rw [exI] at q
      dsimp only at hp cd q ok
      obtain ⟨o1, o2, o3, o4⟩ := ok
      dsimp only at o1 o2 o3 o4
      obtain ⟨cd1, cd2⟩ := cd
      rw [cdA_app] at cd2
      have e0 : ¬ len ≤ p := by omega
      have e3 : mj_in (nI (48 * r + p)) 384 = true := mj_in_nI (by omega) (by omega)
      have e4 : (nI (48 * r + p)).toNatClampNeg = 48 * r + p := nI_clamp (by omega)
      have key : mj_Wp L xs (d + 1 + 1 + 1 + 1) 109 44 [some (.ref 25), some (.int (nI r)), some (.int (nI x)), some (.int (nI p)), some (.int (nI qc)), Y, Z] [] h Q := by
        simp only [w_109_44, w_109_45, w_109_48, w_109_50, w_109_51, w_109_52, w_109_53, w_109_54, w_109_55, w_109_57, w_109_58, w_109_59, w_109_60, w_109_61, w_109_62, w_109_64, w_109_65, ly_25 hL, lr_25_13 hL, lk_30 hL, ln_30 hL, mj_rv_some, e5, e3, e4, o2, nI_add]
        refine r_around (D := D1) a lq hx hr o1 sk (by omega) (by omega) cd1 cd2.1 o3 (fun h1 w1 sk1 => ?_)
        have b1 := WX_RB w1 a
        have hL1 := b1.2.2.2.2.2.1
        have ei : mj_in (nI st.length) 64 = true := mj_in_nI (by omega) (by decide)
        have ec : (nI st.length).toNatClampNeg = st.length := nI_clamp (by omega)
        generalize bI (quF (decide (qc = 65)) (D1 n k (lk x) (vsF n k s)) (lk x) (vsF n k s) (ptN n k (lk x) s x) n) = dv at q ⊢
        obtain ⟨h2, hh⟩ : ∃ h2, h2 = mj_wi h1 39 st.length dv := ⟨_, rfl⟩
        have hL2 : Lay h2 := by rw [hh]; exact Lay_wi.mpr hL1
        have u25 : ∀ j, mj_i h2 25 j = mj_i h1 25 j := fun j => by rw [hh, mj_i_ne (by decide)]
        simp only [w_109_68, w_109_70, w_109_71, w_109_74, w_109_75, w_109_78, w_109_80, w_109_81, w_109_82, w_109_83, w_109_86, w_109_87, w_109_88, w_109_91, w_109_93, w_109_94, w_109_108, Option.toList, List.cons_append, List.nil_append, ly_25 hL1, lr_25_29 hL1, lk_39 hL1, ln_39 hL1, mj_rv_some, sk1.1, ei, ec, ← hh, ly_25 hL2, u25, nI_add]
        have w2 : WX h1 (mj_wi h2 25 30 (nI (st.length + 1))) := ⟨sx_tr (by rw [hh]; exact sx_wi (by decide)) (sx_wi (by decide)), fun j hj => by rw [← u25 j]; simp [mj_i_wi, hj]⟩
        have w3 := WX_tr w1 w2
        refine ih (p + 1 + b.length) (dv :: st) _ _ _ _ (WX_RB w3 a) (WX_LK w3 lq) ⟨by simp [mj_i_wi], ?_, SKr_cong st (fun i hi => ?_) sk1.2⟩ (by rw [sx_i w3.1 (by decide)]; exact h31) (by omega) (by simp; omega) (cdA_cong _ _ (fun i _ _ => sx_i w3.1 (by decide)) cd2.2) (okI_cong _ _ (fun i _ _ => sx_i w3.1 (by decide)) o4) q (fun h' w' => hQ h' (WX_tr w3 w'))
        · rw [mj_i_ne (by decide), hh]; simp [mj_i_wi]
        · rw [mj_i_ne (by decide), hh, mj_i_wi]
          simp only [show ¬ i = st.length by omega, and_false, if_false]
      rw [w_109_7]
      simp only [w_109_8, w_109_9, w_109_12, w_109_13, w_109_14, w_109_17, w_109_18, w_109_21, w_109_23, w_109_24, w_109_25, w_109_26, w_109_27, w_109_28, w_109_30, w_109_32, w_109_34, w_109_37, w_109_39, w_109_41, ly_25 hL, lr_25_14 hL, lr_25_12 hL, lk_31 hL, ln_31 hL, lk_29 hL, ln_29 hL, mj_rv_some, e1, e2, h31, nI_leI (show len < 2 ^ 31 by omega) (show p < 2 ^ 31 by omega), e0, if_false, e5, e3, e4, cd1]
      rcases o1 with rfl | rfl
      · simp only [if_true]
        exact key
      · simp only [show ¬ nI 69 = nI 65 by decide, if_false, not_true_eq_false]
        exact key
theorem r_holds {s x r : Nat} {D : GD} {h : MH} (a : RB h n k e lk) (lq : LK h n k s) (hx : x < n) (hr : r < 8) (g : PGm h r D)
    (hQ : ∀ h', WX h h' → Q (some (.int (bI (D n k (lk x) (vsF n k s) (ptN n k (lk x) s x)))), h')) : mj_Wp L xs (d + 1 + 1 + 1 + 1) 109 0 [some (.ref 25), some (.int (nI r)), some (.int (nI x)), none, none, none, none] [] h Q := by
  have hL := a.2.2.2.2.2.1
  obtain ⟨its, g1, g2, g3, g4, g5⟩ := g
  have w1 : WX h (mj_wi h 25 30 (nI 0)) := ⟨sx_wi (by decide), fun j hj => by simp [mj_i_wi, hj]⟩
  simp only [w_109_0, w_109_1, w_109_2, w_109_5, w_109_6, ly_25 hL]
  refine r_holds_loop (D := D) hx hr g1 its 0 [] _ _ _ _ (WX_RB w1 a) (WX_LK w1 lq) ⟨by simp [mj_i_wi], trivial⟩ (by rw [sx_i w1.1 (by decide)]; exact g2) (by simp) (by simp) (cdA_cong _ _ (fun i _ _ => sx_i w1.1 (by decide)) g3) (okI_cong _ _ (fun i _ _ => sx_i w1.1 (by decide)) g4) (g5 _ _ _ _ _ []) (fun h' w' => ?_)
  have := hQ h' (WX_tr w1 w')
  have e1 : decide (bI (D n k (lk x) (vsF n k s) (ptN n k (lk x) s x)) = nI 1) = D n k (lk x) (vsF n k s) (ptN n k (lk x) s x) := by
    cases D n k (lk x) (vsF n k s) (ptN n k (lk x) s x) <;> decide
  rw [e1]
  exact this
theorem r_sumFor {s x r : Nat} {w : Nat × (Nat → Nat) × (Nat → Bool) × Bool} {h : MH} (a : RB h n k e lk) (lq : LK h n k s) (hx : x < n) (hr : r < 8) (g : PSm h r w)
    (hQ : ∀ h', WX h h' → Q (some (.int (fmI (smF k (ptN n k (lk x) s x) w.1 w.2.1 w.2.2.1 w.2.2.2) (nI k))), h')) : mj_Wp L xs (d + 1 + 1 + 1) 118 0 [some (.ref 25), some (.int (nI r)), some (.int (nI x)), none] [] h Q := by
  have p0 : ∀ c, okC c → ptR n k lk s x 0 c = ptN n k (lk x) s x c := fun c hc => by
    obtain ⟨c1, c2⟩ := okC_ne hc
    simp only [ptR, ptU, c1, c2, if_false]
  have a1 := a.1
  have hL := a.2.2.2.2.2.1
  have e1 : mj_in (nI r) 8 = true := mj_in_nI (by omega) (by omega)
  have e2 : (nI r).toNatClampNeg = r := nI_clamp (by omega)
  obtain ⟨cd, g1, g2, g3, g4⟩ := g
  have lp : ∀ (l : List Nat) (p : Nat) (st : List Int32) (v : Int32) (h1 : MH), WX h h1 → SK h1 st → p + l.length = cd.length → st.length ≤ p → cdA (fun p => mj_i h 32 (48 * r + p)) l p → exL false k (ptN n k (lk x) s x) l st = some [v] → (∀ h', WX h h' → Q (some (.int (fmI v (nI k))), h')) → mj_Wp L xs (d + 1 + 1 + 1) 118 7 [some (.ref 25), some (.int (nI r)), some (.int (nI x)), some (.int (nI p))] [] h1 Q := by
    intro l
    induction l with
    | nil =>
      intro p st v h1 w1 sk hp hl c q hQ
      have hp : p = cd.length := by simpa using hp
      cases q
      have b1 := WX_RB w1 a
      have hL1 := b1.2.2.2.2.2.1
      have t39 : mj_i h1 39 0 = v := sk.2.1
      have g2' : mj_i h1 33 r = nI cd.length := by rw [sx_i w1.1 (by decide)]; exact g2
      rw [w_118_7]
      simp only [w_118_8, w_118_9, w_118_12, w_118_13, w_118_14, w_118_40, w_118_41, w_118_42, w_118_45, w_118_46, w_118_47, w_118_50, ly_25 hL1, lr_25_16 hL1, lr_25_29 hL1, lk_33 hL1, ln_33 hL1, lk_39 hL1, ln_39 hL1, mj_rv_some, e1, e2, g2', hp, nI_leI (show cd.length < 2 ^ 31 by omega) (show cd.length < 2 ^ 31 by omega), Nat.le_refl, if_true, show mj_in (nI 0) 64 = true by decide, show (nI 0).toNatClampNeg = 0 by decide, t39, r_modulo b1, Option.toList, List.cons_append, List.nil_append]
      exact hQ h1 w1
    | cons c l ih =>
      intro p st v h1 w1 sk hp hl cc q hQ
      rw [List.length_cons] at hp
      have b1 := WX_RB w1 a
      have hL1 := b1.2.2.2.2.2.1
      have e0 : ¬ cd.length ≤ p := by omega
      have e3 : mj_in (nI (48 * r + p)) 384 = true := mj_in_nI (by omega) (by omega)
      have e4 : (nI (48 * r + p)).toNatClampNeg = 48 * r + p := nI_clamp (by omega)
      have e5 : nI 48 * nI r + nI p = nI (48 * r + p) := by rw [pk_mul, nI_add]
      have g2' : mj_i h1 33 r = nI cd.length := by rw [sx_i w1.1 (by decide)]; exact g2
      have e6 : mj_i h1 32 (48 * r + p) = nI c := by rw [sx_i w1.1 (by decide)]; exact cc.1
      rw [exL] at q
      cases hc : exC false k (ptN n k (lk x) s x) c st with
      | none => rw [hc] at q; cases q
      | some s1 =>
        rw [hc] at q
        rw [w_118_7]
        simp only [w_118_8, w_118_9, w_118_12, w_118_13, w_118_14, w_118_17, w_118_18, w_118_19, w_118_22, w_118_24, w_118_25, w_118_26, w_118_27, w_118_28, w_118_29, w_118_30, w_118_31, ly_25 hL1, lr_25_16 hL1, lr_25_15 hL1, lk_33 hL1, ln_33 hL1, lk_32 hL1, ln_32 hL1, mj_rv_some, e1, e2, g2', nI_leI (show cd.length < 2 ^ 31 by omega) (show p < 2 ^ 31 by omega), e0, if_false, e5, e3, e4, e6]
        refine r_work b1 (WX_LK w1 lq) hx (show 0 < n by omega) sk (by omega) (exC_0 p0 hc) (exC_c hc).1 (fun h2 w2 sk2 => ?_)
        simp only [w_118_34, w_118_37, Option.toList, List.nil_append, nI_add]
        have := exC_len hc
        exact ih (p + 1) s1 v h2 (WX_tr w1 w2) sk2 (by omega) (by omega) cc.2 q hQ
  have w1 : WX h (mj_wi h 25 30 (nI 0)) := ⟨sx_wi (by decide), fun j hj => by simp [mj_i_wi, hj]⟩
  simp only [w_118_0, w_118_1, w_118_2, w_118_5, w_118_6, ly_25 hL]
  exact lp cd 0 [] _ _ w1 ⟨by simp [mj_i_wi], trivial⟩ (by simp) (by simp) g3 (g4 _ _ []) hQ
/-- the reference's rules -/
def RR (h : MH) (rn : Nat) (G : Nat → GD) (sm : SM) : Prop := rn ≤ 6 ∧ mj_i h 25 11 = nI rn ∧ ∀ r, r < rn → PGm h r (G r) ∧ PSm h r (sm r)
theorem PGm_sx {S : List Nat} {h h' : MH} {r : Nat} {D : GD} (q : mj_sx S h h') (hS : 29 ∉ S ∧ 30 ∉ S ∧ 31 ∉ S) (g : PGm h r D) : PGm h' r D := by
  obtain ⟨its, g1, g2, g3, g4, g5⟩ := g
  exact ⟨its, g1, by rw [sx_i q hS.2.2]; exact g2, cdA_cong _ _ (fun i _ _ => sx_i q hS.1) g3, okI_cong _ _ (fun i _ _ => sx_i q hS.2.1) g4, g5⟩
theorem PSm_sx {S : List Nat} {h h' : MH} {r : Nat} {w : Nat × (Nat → Nat) × (Nat → Bool) × Bool} (q : mj_sx S h h') (hS : 32 ∉ S ∧ 33 ∉ S) (g : PSm h r w) : PSm h' r w := by
  obtain ⟨cd, g1, g2, g3, g4⟩ := g
  exact ⟨cd, g1, by rw [sx_i q hS.2]; exact g2, cdA_cong _ _ (fun i _ _ => sx_i q hS.1) g3, g4⟩
theorem RR_sx {S : List Nat} {h h' : MH} {rn : Nat} {G : Nat → GD} {sm : SM} (q : mj_sx S h h') (hS : 29 ∉ S ∧ 30 ∉ S ∧ 31 ∉ S ∧ 32 ∉ S ∧ 33 ∉ S) (h11 : mj_i h' 25 11 = mj_i h 25 11) (a : RR h rn G sm) : RR h' rn G sm := ⟨a.1, h11.trans a.2.1, fun r hr => ⟨PGm_sx q ⟨hS.1, hS.2.1, hS.2.2.1⟩ (a.2.2 r hr).1, PSm_sx q ⟨hS.2.2.2.1, hS.2.2.2.2⟩ (a.2.2 r hr).2⟩⟩
theorem r_ruleFor {s x rn : Nat} {G : Nat → GD} {sm : SM} {h : MH} (a : RB h n k e lk) (lq : LK h n k s) (g : RR h rn G sm) (hx : x < n)
    (hQ : ∀ h', WX h h' → Q (some (.int (frI n k lk rn G s x)), h')) : mj_Wp L xs (d + 1 + 1 + 1 + 1 + 1) 108 0 [some (.ref 25), some (.int (nI x)), none] [] h Q := by
  have n10 : ¬ nI 1 = nI 0 := by decide
  have r6 := g.1
  have lp : ∀ (m i : Nat) (h1 : MH), i + m = rn → WX h h1 → (∀ h', WX h h' → Q (some (.int (fsI (gvF n k lk G s x) m i)), h')) → mj_Wp L xs (d + 1 + 1 + 1 + 1 + 1) 108 2 [some (.ref 25), some (.int (nI x)), some (.int (nI i))] [] h1 Q := by
    intro m
    induction m with
    | zero =>
      intro i h1 hi w1 hQ
      have hi : i = rn := by omega
      have b1 := WX_RB w1 a
      have h11 : mj_i h1 25 11 = nI rn := by rw [w1.2 11 (by decide)]; exact g.2.1
      rw [w_108_2]
      simp only [w_108_3, w_108_4, w_108_7, w_108_27, w_108_28, ly_25 b1.2.2.2.2.2.1, h11, hi, nI_leI (show rn < 2 ^ 31 by omega) (show rn < 2 ^ 31 by omega), Nat.le_refl, if_true]
      exact hQ h1 w1
    | succ m ih =>
      intro i h1 hi w1 hQ
      have b1 := WX_RB w1 a
      have h11 : mj_i h1 25 11 = nI rn := by rw [w1.2 11 (by decide)]; exact g.2.1
      have e0 : ¬ rn ≤ i := by omega
      rw [w_108_2]
      simp only [w_108_3, w_108_4, w_108_7, w_108_10, w_108_11, w_108_12, w_108_13, ly_25 b1.2.2.2.2.2.1, h11, nI_leI (show rn < 2 ^ 31 by omega) (show i < 2 ^ 31 by omega), e0, if_false]
      refine r_holds b1 (WX_LK w1 lq) hx (show i < 8 by omega) (PGm_sx w1.1 (by decide) (g.2.2 i (by omega)).1) (fun h2 w2 => ?_)
      have eg : G i n k (lk x) (vsF n k s) (ptN n k (lk x) s x) = gvF n k lk G s x i := rfl
      rw [eg]
      simp only [w_108_16, w_108_19, w_108_20, w_108_21, w_108_24, Option.toList, List.cons_append, List.nil_append, nI_add]
      rw [fsI] at hQ
      cases hv : gvF n k lk G s x i with
      | true =>
        simp only [bI_1, n10, if_false]
        simp only [hv, if_true] at hQ
        exact hQ h2 (WX_tr w1 w2)
      | false =>
        simp only [bI_0, if_true]
        simp only [hv, Bool.false_eq_true, if_false] at hQ
        exact ih (i + 1) h2 (by omega) (WX_tr w1 w2) hQ
  simp only [w_108_0, w_108_1]
  exact lp rn 0 h (by omega) WX_rf hQ
/-- lookAt -/
theorem r_lookAt {s : Nat} {h : MH} (a : RB h n k e lk) (hs : s < 2 ^ 31) (hQ : ∀ h', mj_sx [38] h h' → LK h' n k s → Q (none, h')) : mj_Wp L xs d 107 0 [some (.ref 25), some (.int (nI s)), none, none] [] h Q := by
  have a2 := a.2.1
  have a3 := a.2.2.1
  have a4 := a.2.2.2.1
  have hkn : ¬ nI k = 0 := nI_ne0 (by omega) (by omega)
  have lp : ∀ (m : Nat) (h1 : MH), m ≤ n → mj_sx [38] h h1 → (∀ j, m ≤ j → j < n → mj_i h1 38 j = nI (dg n k s j)) → mj_Wp L xs d 107 9 [some (.ref 25), some (.int (nI s)), some (.int (nI (s / k ^ (n - m)))), some (.int (nI m - nI 1))] [] h1 Q := by
    intro m
    induction m with
    | zero =>
      intro h1 hm s1 q
      rw [w_107_9]
      simp only [w_107_10, show nI 0 - nI 1 < nI 0 by decide, if_true, w_107_38]
      exact hQ h1 s1 (fun j hj => q j (by omega) hj)
    | succ m ih =>
      intro h1 hm s1 q
      have b1 : RB h1 n k e lk := RB_sx s1 (by decide) (fun j _ => sx_i s1 (by decide)) a
      have hL1 := b1.2.2.2.2.2.1
      have e2 : ¬ nI m < nI 0 := by rw [nI_ltI (by omega) (by omega)]; omega
      have e3 : mj_in (nI m) 5 = true := mj_in_nI (by omega) (by omega)
      have e4 : (nI m).toNatClampNeg = m := nI_clamp (by omega)
      have hd : s / k ^ (n - (m + 1)) < 2 ^ 31 := Nat.lt_of_le_of_lt (Nat.div_le_self _ _) hs
      have e7 : nI m + (-1) = nI m - nI 1 := by
        have : (-1 : Int32) = - nI 1 := by decide
        rw [this, Int32.sub_eq_add_neg]
      have e8 : s / k ^ (n - (m + 1)) / k = s / k ^ (n - m) := by rw [Nat.div_div_eq_div_mul, ← Nat.pow_succ, show (n - (m + 1)).succ = n - m by omega]
      have e9 : s / k ^ (n - (m + 1)) % k = dg n k s m := by rw [dg, show n - (m + 1) = n - 1 - m by omega]
      have e10 : nI (s / k ^ (n - (m + 1))) - nI (s / k ^ (n - m)) * nI k = nI (dg n k s m) := by
        rw [← e8, ← pk_div hd (show 0 < k by omega) (show k < 2 ^ 31 by omega), rm_nI hd (show 0 < k by omega) (show k < 2 ^ 31 by omega), e9]
      rw [nI_s1, w_107_9]
      simp only [w_107_10, w_107_13, w_107_14, w_107_17, w_107_18, w_107_19, w_107_20, w_107_23, w_107_24, w_107_25, w_107_26, w_107_27, w_107_30, w_107_31, w_107_32, w_107_35, e2, if_false, ly_25 hL1, lr_25_28 hL1, lk_38 hL1, ln_38 hL1, mj_rv_some, e3, e4, b1.2.2.2.2.2.2.2.1, hkn, not_false_eq_true, pk_div hd (show 0 < k by omega) (show k < 2 ^ 31 by omega), mj_is_wi, mj_i_ne (show 25 ≠ 38 by decide), e8, e10, e7]
      refine ih _ (by omega) (sx_tr s1 (sx_wi (by decide))) (fun j h1 h2 => ?_)
      rw [mj_i_wi]
      by_cases hj : j = m
      · simp [hj]
      · simp only [hj, and_false, if_false]; exact q j (by omega) h2
  have hL := a.2.2.2.2.2.1
  have := lp n h (Nat.le_refl _) sx_rf (fun j h1 h2 => by omega)
  rw [Nat.sub_self, Nat.pow_zero, Nat.div_one] at this
  simp only [w_107_0, w_107_1, w_107_2, w_107_3, w_107_6, w_107_7, w_107_8, ly_25 hL, a.2.2.2.2.2.2.1]
  exact this
end HoldsR
