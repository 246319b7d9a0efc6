/-! The bench's calls that read a text: rule, aim. -/
def tzF (ty : Nat) (tx : Nat → Nat) (i : Nat) : Nat := if i < ty then tx i else 0
def pRule (t : Nat → Nat) (len : Nat) : Nat × Option (GD × Nat × Nat × Bool) := match pGuard t (pTest t 8 false) 0 with
  | (f, none) => (f, none)
  | (q, some D) => if t q = 62 then (match pSum t false (q + 1) with
    | (f, none) => (f, none)
    | (q2, some (m, w)) => if q2 < len then (q2, none) else (q2, some (D, q + 1, m, w))) else (q, none)
def pAim (t : Nat → Nat) (len : Nat) : Nat × Option GD := match pGuard t (pTest t 8 false) 0 with
  | (f, none) => (f, none)
  | (q, some D) => if q < len then (q, none) else (q, some D)
/-- all cells that were there stay as they were -/
def PY (h h' : MH) : Prop := mj_z h ≤ mj_z h' ∧ ∀ a, a < mj_z h → mj_m h' a = mj_m h a ∧ mj_r h' a = mj_r h a ∧ mj_i h' a = mj_i h a
theorem PY_PX {R : Nat} {h h' h'' : MH} (p : PY h h') (q : PX R h' h'') (hR : mj_z h ≤ R) : PY h h'' := ⟨Nat.le_trans p.1 q.1, fun a ha => by
  obtain ⟨a1, a2, a3⟩ := p.2 a ha
  obtain ⟨b1, b2, b3⟩ := q.2.1 a (Nat.lt_of_lt_of_le ha p.1)
  exact ⟨b1.trans a1, b2.trans a2, (b3 (by omega)).trans a3⟩⟩
theorem PY_ExU {h h' : MH} (p : PY h h') : ExU h h' := ⟨p.1, fun a _ ha => ⟨(p.2 a ha).1, Or.inr (Or.inr ⟨(p.2 a ha).2.2, (p.2 a ha).2.1⟩)⟩⟩
theorem PY_Lay {h h' : MH} (p : PY h h') (hL : Lay h) : Lay h' := by
  have h0 := hL.1
  refine ⟨Nat.le_trans hL.1 p.1, fun a ha => by rw [(p.2 a (by omega)).1]; exact hL.2.1 a ha, fun q hq => ?_⟩
  have h1 : ∀ q ∈ ly_R, q.1 < 46 := by decide
  have h2 := h1 q hq
  rw [(p.2 q.1 (by omega)).2.1]
  exact hL.2.2 q hq
section RuleK
variable {L : Nat} {xs : Nat → Int32} {d : Nat} {Q : Option Value × MH → Prop} {h : MH} {n k e : Nat} {lk : Nat → Nat} {rn : Nat} {G : Nat → GD} {sm : SM} {ak : Nat} {GA : GD} {sc s : Nat} {stp mov : Int32} {ty : Nat} {tx : Nat → Nat}
theorem CI_PY {h' : MH} (p : PY h h') (a : CI h n k e lk rn G sm ak GA sc s stp mov ty tx) : CI h' n k e lk rn G sm ak GA sc s stp mov ty tx := by
  obtain ⟨⟨b1, b2, b3, b4, b5, hL, gr, b8, b9, b10⟩, a2, a3, a4, a5, a6, a7, a8⟩ := a
  have h0 := hL.1
  have ei : ∀ b, b < 46 → mj_i h' b = mj_i h b := fun b hb => (p.2 b (by omega)).2.2
  have er : ∀ b, b < 46 → mj_r h' b = mj_r h b := fun b hb => (p.2 b (by omega)).2.1
  have ex := PY_ExU p
  refine ⟨⟨b1, b2, b3, b4, b5, PY_Lay p hL, ?_, ⟨b8.1, by rw [ei 8 (by decide)]; exact b8.2.1, fun r hr => ?_⟩, ⟨b9.1, by rw [ei 8 (by decide)]; exact b9.2.1, fun z => ?_⟩, ?_⟩, ?_, a3, a4, ?_, ?_, ?_, ?_⟩
  · simp only [Gr, ei 1 (by decide), ei 2 (by decide), ei 3 (by decide)]; exact gr
  · obtain ⟨⟨g, y1, y2⟩, sa, y3, y4, y5⟩ := b8.2.2 r hr
    exact ⟨⟨g, by rw [er 9 (by decide)]; exact y1, ExU_TG ex _ _ _ _ y2⟩, sa, by rw [er 10 (by decide)]; exact y3, ExU_Sum ex y4, y5⟩
  · obtain ⟨g, y1, y2⟩ := b9.2.2 z
    exact ⟨g, by rw [er 8 (by decide)]; exact y1, ExU_TG ex _ _ _ _ y2⟩
  · rw [ei 6 (by decide), ei 22 (by decide)]; exact b10
  · simp only [CC, VK, TB, ei 11 (by decide), ei 12 (by decide), ei 13 (by decide), ei 15 (by decide), ei 19 (by decide)]
    exact a2
  · rw [ei 0 (by decide), ei 24 (by decide)]; exact a5
  · rw [ei 0 (by decide)]; exact a6
  · rw [ei 0 (by decide)]; exact a7
  · rw [ei 0 (by decide)]; exact a8
theorem ft_ch : ∀ c, c < 127 → fits .char (.int (nI c)) = true := by decide +kernel
theorem k_takeText (a : CI h n k e lk rn G sm ak GA sc s stp mov ty tx) (hQ : ∀ h1 R T, CI (mj_wi h 0 5 (nI 0)) n k e lk rn G sm ak GA sc s stp mov 0 tx → PY (mj_wi h 0 5 (nI 0)) h1 → R = mj_z h + 1 → RD h1 R T ty (tzF ty tx) 0 (-1) → mj_z h1 = mj_z h + 2 → mj_u h1 = mj_u h + ty + 3 → Q (some (.ref R), h1)) : mj_Wp L xs (d + 1) 18 0 [some (.ref 0), none] [] h Q := by
  obtain ⟨a1, a2, a3, a4, ⟨t1, t2, t3⟩, a6, a7, a8⟩ := id a
  have hL := a1.2.2.2.2.2.1
  have h46 := hL.1
  obtain ⟨h1, hh1⟩ : ∃ h1, h1 = mj_nw h 102 ty := ⟨_, rfl⟩
  have hL1 : Lay h1 := by rw [hh1]; exact Lay_nw hL
  have z1 : mj_z h1 = mj_z h + 1 := by rw [hh1]; rfl
  have i1 : ∀ b, b ≠ mj_z h → mj_i h1 b = mj_i h b := fun b hb => by rw [hh1]; exact mj_nw_io hb
  have m1 : ∀ b, b ≠ mj_z h → mj_m h1 b = mj_m h b := fun b hb => by rw [hh1]; exact mj_nw_mo hb
  have r1 : ∀ b, b ≠ mj_z h → mj_r h1 b = mj_r h b := fun b hb => by rw [hh1]; exact mj_nw_ro hb
  have isT : mj_is h1 (mj_z h) 102 ty := ⟨by omega, by rw [hh1]; exact mj_nw_m⟩
  have e05 : mj_i h1 0 5 = nI ty := by rw [i1 0 (by omega)]; exact t1
  have is24 : mj_is h1 24 102 48 := by have := mj_ik_is (lk_24 hL1); rwa [ln_24 hL1] at this
  have hc : ∀ i, i < ty → fits .char (.int (mj_i h1 24 (0 + i))) = true := fun i hi => by
    rw [i1 24 (by omega), Nat.zero_add, (t3 i hi).1]
    exact ft_ch _ (by have := (t3 i hi).2.2; omega)
  simp only [w_18_0, w_18_1, w_18_4, w_18_6, w_18_7, w_18_8, w_18_11, w_18_12, w_18_13, w_18_14, w_18_15, ly_0 hL, t1, show ty ≤ 65536 by omega, ← hh1, ly_0 hL1, lr_0_4 hL1, mj_rv_some, e05, w_18_18 (a0 := 24) (a1 := mj_z h) (n0 := 48) (n1 := ty) (k := ty) is24 isT hc (by omega) (by omega) (by decide) (by omega)]
  obtain ⟨h2, hh2⟩ : ∃ h2, h2 = mj_wa h1 (mj_z h) (va_cpy (mj_i h1 24) (mj_i h1 (mj_z h)) 0 0 ty) := ⟨_, rfl⟩
  have hL2 : Lay h2 := by rw [hh2]; exact Lay_wa.mpr hL1
  have z2 : mj_z h2 = mj_z h + 1 := by rw [hh2]; exact z1
  obtain ⟨h3, hh3⟩ : ∃ h3, h3 = mj_wi h2 0 5 (nI 0) := ⟨_, rfl⟩
  have z3 : mj_z h3 = mj_z h + 1 := by rw [hh3]; exact z2
  obtain ⟨h4, hh4⟩ : ∃ h4, h4 = mj_nw h3 6 3 := ⟨_, rfl⟩
  have isR : mj_is h4 (mj_z h3) 6 3 := ⟨by rw [hh4, mj_nw_z]; omega, by rw [hh4]; exact mj_nw_m⟩
  simp only [← hh2, w_18_21, w_18_22, w_18_23, w_18_26, w_18_29, w_18_30, w_18_31, ly_0 hL2, ← hh3, ← hh4, w_19_0, w_19_1, w_19_4, w_19_5, w_19_6, w_19_9, w_19_10, w_19_11, w_19_14, isR, mj_is_wi, mj_is_wr, Option.toList, List.cons_append, List.nil_append, w_18_34]
  have cib : CI (mj_wi h 0 5 (nI 0)) n k e lk rn G sm ak GA sc s stp mov 0 tx := by
    have s1 : mj_sx [0] h (mj_wi h 0 5 (nI 0)) := sx_wi (by decide)
    exact ⟨CB_sx s1 (by decide) (by decide) (fun c _ _ => ⟨sx_i s1 (by decide), sx_i s1 (by decide)⟩) a1, CC_sx s1 (by decide) a2, a3, a4, ⟨by simp [mj_i_wi], by decide, fun i hi => by omega⟩, by simp [mj_i_wi, a6], by simp [mj_i_wi, a7], by simp [mj_i_wi, a8]⟩
  obtain ⟨h5, hh5⟩ : ∃ h5, h5 = mj_wr (mj_wi h4 (mj_z h3) 2 (-1)) (mj_z h3) 0 (some (mj_z h)) := ⟨_, rfl⟩
  rw [← hh5]
  have m4 : ∀ b, b ≠ mj_z h3 → mj_m h4 b = mj_m h3 b := fun b hb => by rw [hh4]; exact mj_nw_mo hb
  have i4 : ∀ b, b ≠ mj_z h3 → mj_i h4 b = mj_i h3 b := fun b hb => by rw [hh4]; exact mj_nw_io hb
  have r4 : ∀ b, b ≠ mj_z h3 → mj_r h4 b = mj_r h3 b := fun b hb => by rw [hh4]; exact mj_nw_ro hb
  have m5 : ∀ b, mj_m h5 b = mj_m h4 b := fun b => by rw [hh5]; rfl
  have i5 : ∀ b, b ≠ mj_z h3 → mj_i h5 b = mj_i h4 b := fun b hb => by funext j; rw [hh5, mj_i_wr, mj_i_ne hb]
  have r5 : ∀ b, b ≠ mj_z h3 → mj_r h5 b = mj_r h4 b := fun b hb => by funext j; rw [hh5, mj_r_wr, mj_r_wi]; simp [hb]
  have m3 : ∀ b, mj_m h3 b = mj_m h1 b := fun b => by rw [hh3, hh2]; rfl
  have r3 : ∀ b, mj_r h3 b = mj_r h1 b := fun b => by rw [hh3, hh2]; rfl
  have z5 : mj_z h5 = mj_z h + 2 := by rw [hh5]; show mj_z h4 = _; rw [hh4, mj_nw_z]; omega
  refine hQ h5 (mj_z h3) (mj_z h) cib ⟨by show mj_z h ≤ _; omega, fun b hb => ?_⟩ z3 ⟨by omega, by omega, by omega, ?_, ?_, ?_, ?_, t2, fun i hi => ?_, fun i => ?_, fun i hi => ?_, by omega, ?_, ?_⟩ z5 ?_
  · have hb' : b < mj_z h := hb
    refine ⟨by rw [m5, m4 b (by omega), m3, m1 b (by omega)]; rfl, by rw [r5 b (by omega), r4 b (by omega), r3, r1 b (by omega)]; rfl, ?_⟩
    rw [i5 b (by omega), i4 b (by omega), hh3]
    funext j
    rw [mj_i_wi, mj_i_wi, hh2, mj_i_wa, if_neg (show ¬ b = mj_z h by omega), i1 b (by omega)]
  · rw [hh5]; simpa only [mj_is_wi, mj_is_wr] using isR
  · rw [hh5]; simp [mj_r_wr]
  · refine ⟨by omega, ?_⟩
    rw [m5, m4 _ (by omega), m3, isT.2]
  · rw [mj_ln, m5, m4 _ (by omega), m3, isT.2]
  · rw [i5 _ (by omega), i4 _ (by omega), hh3, mj_i_ne (by omega), hh2, mj_i_wa, if_pos rfl, pk_cpy_in (by omega) (by omega), i1 24 (by omega), tzF, if_pos hi]
    simpa using (t3 i hi).1
  · unfold tzF
    split
    · next hi => have := (t3 i hi).2.2; omega
    · decide
  · exact if_neg (by omega)
  · rw [hh5, mj_i_wr, mj_i_wi]
    simp
    rw [hh4, mj_nw_i]
    rfl
  · rw [hh5, mj_i_wr, mj_i_wi]
    simp
  · rw [hh5]
    show mj_u h4 = _
    rw [hh4, mj_nw_u, hh3]
    show mj_u h2 + 3 = _
    rw [hh2]
    show mj_u h1 + 3 = _
    rw [hh1, mj_nw_u]
theorem k_needEnd {h : MH} {R T len p : Nat} {t : Nat → Nat} {fl : Int32} (r : RD h R T len t p fl) : mj_Wp L xs (d + 1) 36 0 [some (.ref R)] [] h Q ↔ if p < len ∧ fl = -1 then Q (none, mj_wi h R 2 (nI p)) else Q (none, h) := by
  obtain ⟨r1, r2, r3, r4, r5, r6, r7, r8, r9, r10, r11, r12, r13, r14⟩ := id r
  simp only [w_36_0, w_36_1, w_36_4, w_36_5, w_36_8_100, w_36_8_102, w_36_9, w_36_12, w_36_13, w_36_16, r4, r5, r6, r7, r13, mj_rv_some, nI_leI (show len < 2 ^ 31 by omega) (show p < 2 ^ 31 by omega), k_refuse r]
  by_cases c1 : len ≤ p
  · simp [c1, show ¬ p < len by omega]
  · simp only [c1, if_false, w_36_12, w_36_13, w_36_16, r4, k_refuse r, Option.toList, List.nil_append]
    by_cases c2 : fl = -1
    · simp [c2, show p < len by omega]
    · simp [c2]
theorem k_add {A B : Nat} (hL : Lay h) (hr : mj_i h 8 2 = nI rn) (h6 : rn < 6) (HA : mj_is h A 1 3 ∨ mj_is h A 3 2 ∨ mj_is h A 4 1 ∨ mj_is h A 5 3) (HB : mj_is h B 9 4) : mj_Wp L xs d 37 0 [some (.ref 8), some (.ref A), some (.ref B)] [] h Q ↔ Q (none, mj_wi (mj_wr (mj_wr h 9 rn (some A)) 10 rn (some B)) 8 2 (nI (rn + 1))) := by
  have e1 : mj_in (nI rn) 6 = true := mj_in_nI (by omega) (by omega)
  have e2 : (nI rn).toNatClampNeg = rn := nI_clamp (by omega)
  have s9 : mj_Wp L xs d 37 9 [some (.ref 8), some (.ref A), some (.ref B)] [.ref A, .int (nI rn), .ref 9] h Q ↔ mj_Wp L xs d 37 10 [some (.ref 8), some (.ref A), some (.ref B)] [] (mj_wr h 9 rn (some A)) Q := by
    rcases HA with H | H | H | H
    · rw [w_37_9_1 (lk_9 hL) H (by rw [ln_9 hL]; exact e1), e2]
    · rw [w_37_9_3 (lk_9 hL) H (by rw [ln_9 hL]; exact e1), e2]
    · rw [w_37_9_4 (lk_9 hL) H (by rw [ln_9 hL]; exact e1), e2]
    · rw [w_37_9_5 (lk_9 hL) H (by rw [ln_9 hL]; exact e1), e2]
  simp only [w_37_0, w_37_1, w_37_4, w_37_5, w_37_8, ly_8 hL, lr_8_0 hL, mj_rv_some, hr, s9, w_37_10, w_37_11, w_37_14, w_37_15, w_37_18, w_37_19_9, w_37_20, w_37_21, w_37_22, w_37_25, w_37_26, w_37_27, w_37_30, mj_is_wr, mj_ik_wr, mj_ln_wr, mj_r_wr, mj_i_wr, show ¬ ((8 : Nat) = 9 ∧ (1 : Nat) = rn) from (fun z => absurd z.1 (by decide)), if_false, lr_8_1 hL, lk_10 hL, ln_10 hL, HB, e1, e2, nI_add]
theorem Ext_wr {h' : MH} {a j : Nat} {o : Option Nat} (x : Ext h h') (ha : a < 46) : Ext h (mj_wr h' a j o) := ⟨x.1, fun b hb hz => ⟨(x.2 b hb hz).1, (x.2 b hb hz).2.1, by funext i; rw [mj_r_wr, if_neg (by omega), (x.2 b hb hz).2.2]⟩⟩
theorem Ext_wi {h' : MH} {a j : Nat} {o : Int32} (x : Ext h h') (ha : a < 46) : Ext h (mj_wi h' a j o) := ⟨x.1, fun b hb hz => ⟨(x.2 b hb hz).1, by funext i; rw [mj_i_ne (by omega), (x.2 b hb hz).2.1], (x.2 b hb hz).2.2⟩⟩
theorem TG_60 {A q p : Nat} {nb : Bool} {D : GD} (tg : TG (q - p) h A nb D) (hq : q ≤ 48) : TG 60 h A nb D := by
  have := TG_le tg (60 - (q - p))
  rwa [show q - p + (60 - (q - p)) = 60 by omega] at this
theorem c_rule (a : CI h n k e lk rn G sm ak GA sc s stp mov ty tx)
    (hfull : ∀ h', rn = 6 → CF h h' → CI h' n k e lk rn G sm ak GA sc s stp mov 0 tx → Q (some (.int (-2)), h'))
    (hbad : ∀ h' f, rn < 6 → pRule (tzF ty tx) ty = (f, none) → CF h h' → CI h' n k e lk rn G sm ak GA sc s stp mov 0 tx → Q (some (.int (-10 - nI f)), h'))
    (hok : ∀ h' q D p m w, rn < 6 → pRule (tzF ty tx) ty = (q, some (D, p, m, w)) → CF h h' → CI h' n k e lk (rn + 1) (fun r => if r = rn then D else G r) (fun r => if r = rn then (m, fun i => tzF ty tx (p + 2 * i), sgF (tzF ty tx) p, w) else sm r) ak GA sc s stp mov 0 tx → Q (some (.int (nI (rn + 1))), h')) : mj_Wp L xs (d + 34 + 1) 17 0 [some (.ref 0), none, none, none] [] h Q := by
  have hL := a.1.2.2.2.2.2.1
  have t2 := a.2.2.2.2.1.2.1
  have r6 := a.1.2.2.2.2.2.2.2.1.1
  simp only [w_17_0, w_17_1, ly_0 hL]
  refine k_takeText (d := d + 33) a (fun h1 R T cib py hR rd1 z1 u1 => ?_)
  have ci1 := CI_PY py cib
  have hL1 := ci1.1.2.2.2.2.2.1
  have hzb : mj_z (mj_wi h 0 5 (nI 0)) = mj_z h := rfl
  have hub : mj_u (mj_wi h 0 5 (nI 0)) = mj_u h := rfl
  have er := ci1.1.2.2.2.2.2.2.2.1.2.1
  simp only [w_17_4, w_17_5, w_17_6, w_17_9, w_17_12, w_17_14, w_17_17, w_17_19, Option.toList, List.cons_append, List.nil_append, ly_0 hL1, lr_0_2 hL1, ly_8 hL1, mj_rv_some, er, nI_ltI (show rn < 2 ^ 31 by omega) (show 6 < 2 ^ 31 by omega)]
  -- what stays as it was
  have cf : ∀ h2, PX R h1 h2 → mj_z h2 ≤ mj_z h1 + 250 → CF h h2 := by
    intro h2 x2 z2
    have p2 := PY_PX py x2 (by rw [hzb]; omega)
    refine ⟨PY_Lay p2 cib.1.2.2.2.2.2.1, by have := p2.1; rw [hzb] at this; exact this, by omega, by have := x2.2.2; omega, fun b b1 b2 => ?_⟩
    have h46 := hL.1
    rw [(p2.2 b (by rw [hzb]; omega)).2.2]
    funext j
    rw [mj_i_ne (by omega)]
  by_cases c6 : rn < 6
  · simp only [c6, if_true, w_17_20, w_17_21, w_17_22, w_17_23, rd1.2.2.2.1]
    refine k_readGuard rd1 (fun h2 A po => ?_)
    obtain ⟨x2, l2, z2, pn, ps⟩ := po
    -- behind the guard: need, readSum, needEnd
    have rest : ∀ (q : Nat) (fl : Int32), RD h2 R T ty (tzF ty tx) q fl → (fl = -1 ∨ fl = nI q) → mj_z h2 ≤ mj_z h1 + 200 →
        (∀ h' B q2 fl2, PX R h2 h' → mj_z h' ≤ mj_z h2 + 1 → RD h' R T ty (tzF ty tx) q2 fl2 → mj_is h' B 9 4 → (fl ≠ -1 → q2 = q ∧ fl2 = fl) → (fl = -1 → tzF ty tx q ≠ 62 → q2 = q ∧ fl2 = nI q) → (fl = -1 → tzF ty tx q = 62 → (∀ f, pSum (tzF ty tx) false (q + 1) = (f, none) → fl2 = nI f ∧ q2 = f) ∧ (∀ q3 m w, pSum (tzF ty tx) false (q + 1) = (q3, some (m, w)) → q2 = q3 ∧ (q3 < ty → fl2 = nI q3) ∧ (¬ q3 < ty → fl2 = -1 ∧ SumAt h' B m (fun i => tzF ty tx (q + 1 + 2 * i)) (sgF (tzF ty tx) (q + 1)) w ∧ ∀ i, i < m → okC (tzF ty tx (q + 1 + 2 * i))))) → mj_Wp L xs (d + 34 + 1) 17 43 [some (.ref 0), some (.ref R), some (.ref A), some (.ref B)] [] h' Q) → mj_Wp L xs (d + 34 + 1) 17 26 [some (.ref 0), some (.ref R), none, none] [.ref A] h2 Q := by
      intro q fl rd2 hfl zb hK
      have hq48 := rd2.2.2.2.2.2.2.2.1
      have hql := rd2.2.2.2.2.2.2.2.2.2.2.2.1
      simp only [w_17_26, w_17_27, w_17_28, w_17_30, rd2.2.2.2.1, k_need rd2 (show 62 < 127 by decide)]
      -- behind need
      have ss : ∀ (h3 : MH) (q1 : Nat) (fl1 : Int32), PX R h2 h3 → mj_z h3 = mj_z h2 → RD h3 R T ty (tzF ty tx) q1 fl1 → (fl1 = -1 ∨ ∃ f, fl1 = nI f ∧ f ≤ 48) → (∀ h4 B, SO h3 h4 R T ty (tzF ty tx) false q1 fl1 B → mj_Wp L xs (d + 34 + 1) 17 38 [some (.ref 0), some (.ref R), some (.ref A), none] [.ref B] h4 Q) → mj_Wp L xs (d + 34 + 1) 17 33 [some (.ref 0), some (.ref R), some (.ref A), none] [] h3 Q := by
        intro h3 q1 fl1 x3 z3 rd3 hf hK3
        simp only [w_17_33, w_17_34, w_17_35, rd3.2.2.2.1]
        refine k_readSum (d := d + 28) (nb := false) rd3 hf (fun h4 B so => ?_)
        simp only [Option.toList, List.cons_append, List.nil_append]
        exact hK3 h4 B so
      have flt : ∀ (h3 : MH) (q1 : Nat) (fl1 : Int32), PX R h2 h3 → mj_z h3 = mj_z h2 → RD h3 R T ty (tzF ty tx) q1 fl1 → fl1 ≠ -1 → (∃ f, fl1 = nI f ∧ f ≤ 48) → (∀ h' B, PX R h2 h' → mj_z h' ≤ mj_z h2 + 1 → RD h' R T ty (tzF ty tx) q1 fl1 → mj_is h' B 9 4 → mj_Wp L xs (d + 34 + 1) 17 43 [some (.ref 0), some (.ref R), some (.ref A), some (.ref B)] [] h' Q) → mj_Wp L xs (d + 34 + 1) 17 33 [some (.ref 0), some (.ref R), some (.ref A), none] [] h3 Q := by
        intro h3 q1 fl1 x3 z3 rd3 hne hf hK3
        refine ss h3 q1 fl1 x3 z3 rd3 (Or.inr hf) (fun h4 B so => ?_)
        obtain ⟨x4, z4, i4, l4, p', fl', rd4, c4⟩ := so
        rcases c4 with ⟨_, c5, c6'⟩ | ⟨c4, -⟩
        · rw [c5, c6'] at rd4
          simp only [w_17_38, w_17_39, w_17_40, rd4.2.2.2.1, k_needEnd rd4, show ¬ (q1 < ty ∧ fl1 = -1) from fun z => hne z.2, if_false, Option.toList, List.nil_append]
          exact hK3 h4 B (PX_tr x3 x4) (by omega) rd4 i4
        · exact absurd c4 hne
      by_cases c1 : fl = -1
      · have e1 : nxC (tzF ty tx) q fl = tzF ty tx q := if_pos c1
        rw [e1]
        by_cases c62 : tzF ty tx q = 62
        · have hq : q < ty := RD_lt rd2 (by omega)
          have x3 : PX R h2 (mj_wi h2 R 1 (nI (q + 1))) := PX_wR PX_rf
          have rd3 : RD (mj_wi h2 R 1 (nI (q + 1))) R T ty (tzF ty tx) (q + 1) (-1) := RD_PX rd2 x3 (by omega) (by simp [mj_i_wi]) (by simp [mj_i_wi]; rw [← c1]; exact rd2.2.2.2.2.2.2.2.2.2.2.2.2.2)
          simp only [c62, if_true, Option.toList, List.nil_append]
          refine ss _ (q + 1) (-1) x3 rfl rd3 (Or.inl rfl) (fun h4 B so => ?_)
          obtain ⟨x4, z4, i4, l4, p', fl', rd4, c4⟩ := so
          have z4' : mj_z h4 = mj_z h2 + 1 := z4
          rcases c4 with ⟨c4, -⟩ | ⟨-, ⟨f, y1, y2, y3, y4⟩ | ⟨q3, m, w, y1, y2, y3, y4, y5, y6⟩⟩
          · exact absurd rfl c4
          · have hne : fl' ≠ -1 := by rw [y3]; exact nI_nm1 (by have := rd4.2.2.2.2.2.2.2.2.2.2.2.1; omega)
            simp only [w_17_38, w_17_39, w_17_40, rd4.2.2.2.1, k_needEnd rd4, show ¬ (p' < ty ∧ fl' = -1) from fun z => hne z.2, if_false, Option.toList, List.nil_append]
            exact hK h4 B p' fl' (PX_tr x3 x4) (by omega) rd4 i4 (fun z => absurd c1 z) (fun _ z => absurd c62 z) (fun _ _ => ⟨fun f' hf' => (by rw [y1] at hf'; cases hf'; exact ⟨y3, y2⟩), fun q3 m w hq3 => by rw [y1] at hq3; cases hq3⟩)
          · rw [y2, y3] at rd4
            by_cases c7 : q3 < ty
            · simp only [w_17_38, w_17_39, w_17_40, rd4.2.2.2.1, k_needEnd rd4, c7, true_and, if_true, Option.toList, List.nil_append]
              have x5 : PX R h4 (mj_wi h4 R 2 (nI q3)) := PX_wR PX_rf
              exact hK _ B q3 (nI q3) (PX_tr x3 (PX_tr x4 x5)) (by show mj_z h4 ≤ _; omega) (RD_PX rd4 x5 (by omega) (by simp [mj_i_wi]; exact rd4.2.2.2.2.2.2.2.2.2.2.2.2.1) (by simp [mj_i_wi])) i4 (fun z => absurd c1 z) (fun _ z => absurd c62 z) (fun _ _ => ⟨fun f' hf' => (by rw [y1] at hf'; cases hf'), fun q3' m' w' hq3 => by rw [y1] at hq3; cases hq3; exact ⟨rfl, fun _ => rfl, fun z => absurd c7 z⟩⟩)
            · simp only [w_17_38, w_17_39, w_17_40, rd4.2.2.2.1, k_needEnd rd4, c7, false_and, if_false, Option.toList, List.nil_append]
              exact hK h4 B q3 (-1) (PX_tr x3 x4) (by omega) rd4 i4 (fun z => absurd c1 z) (fun _ z => absurd c62 z) (fun _ _ => ⟨fun f' hf' => (by rw [y1] at hf'; cases hf'), fun q3' m' w' hq3 => by rw [y1] at hq3; cases hq3; exact ⟨rfl, fun z => absurd z c7, fun _ => ⟨rfl, y5, fun i hi => by rcases y6 i hi with z | ⟨z, -⟩; exact z; cases z⟩⟩⟩)
        · have x3 : PX R h2 (mj_wi h2 R 2 (nI q)) := PX_wR PX_rf
          have rd3 : RD (mj_wi h2 R 2 (nI q)) R T ty (tzF ty tx) q (nI q) := RD_PX rd2 x3 hql (by simp [mj_i_wi]; exact rd2.2.2.2.2.2.2.2.2.2.2.2.2.1) (by simp [mj_i_wi])
          simp only [c62, if_false, c1, if_true, Option.toList, List.nil_append]
          exact flt _ q (nI q) x3 rfl rd3 (nI_nm1 (by omega)) ⟨q, rfl, by omega⟩ (fun h' B x' z' rd' i' => hK h' B q (nI q) x' z' rd' i' (fun z => absurd c1 z) (fun _ _ => ⟨rfl, rfl⟩) (fun _ z => absurd z c62))
      · have e1 : nxC (tzF ty tx) q fl = 0 := if_neg c1
        rw [e1]
        simp only [show ¬ (0 = 62) by decide, if_false, c1, Option.toList, List.nil_append]
        refine flt h2 q fl PX_rf rfl rd2 c1 ⟨q, (by rcases hfl with z | z; exact absurd z c1; exact z), by omega⟩ (fun h' B x' z' rd' i' => hK h' B q fl x' z' rd' i' (fun _ => ⟨rfl, rfl⟩) (fun z => absurd z c1) (fun z => absurd z c1))
    -- a fault is told
    have tell : ∀ (h' : MH) (B q2 f : Nat), PX R h2 h' → mj_z h' ≤ mj_z h2 + 1 → RD h' R T ty (tzF ty tx) q2 (nI f) → f ≤ 48 → mj_z h2 ≤ mj_z h1 + 200 → pRule (tzF ty tx) ty = (f, none) → mj_Wp L xs (d + 34 + 1) 17 43 [some (.ref 0), some (.ref R), some (.ref A), some (.ref B)] [] h' Q := by
      intro h' B q2 f x' z' rd' hf zb hp
      have hne : nI f ≠ -1 := nI_nm1 (by omega)
      simp only [w_17_43, w_17_44, w_17_47, w_17_48, w_17_51, w_17_53, w_17_54, w_17_57, w_17_58, rd'.2.2.2.1, rd'.2.2.2.2.2.2.2.2.2.2.2.2.2, hne, if_false]
      exact hbad h' f c6 hp (cf h' (PX_tr x2 x') (by omega)) (CI_PY (PY_PX py (PX_tr x2 x') (by rw [hzb]; omega)) cib)
    simp only [Option.toList, List.cons_append, List.nil_append]
    cases hg : pGuard (tzF ty tx) (pTest (tzF ty tx) 8 false) 0 with
    | mk q D =>
      rw [hg] at l2 z2 pn ps
      dsimp only at l2 z2 pn ps
      cases D with
      | none =>
        have rd2 := pn rfl
        have hql := rd2.2.2.2.2.2.2.2.2.2.2.2.1
        have hp : pRule (tzF ty tx) ty = (q, none) := by rw [pRule, hg]
        have hne : nI q ≠ -1 := nI_nm1 (by omega)
        refine rest q (nI q) rd2 (Or.inr rfl) (by omega) (fun h' B q2 fl2 x' z' rd' i' k1 k2 k3 => ?_)
        obtain ⟨e1, e2⟩ := k1 hne
        rw [e2] at rd'
        exact tell h' B q2 q x' z' rd' (by omega) (by omega) hp
      | some D =>
        obtain ⟨rd2, lt2, tg2⟩ := ps D rfl
        have hql := rd2.2.2.2.2.2.2.2.2.2.2.2.1
        refine rest q (-1) rd2 (Or.inl rfl) (by omega) (fun h' B q2 fl2 x' z' rd' i' k1 k2 k3 => ?_)
        by_cases c62 : tzF ty tx q = 62
        · obtain ⟨k4, k5⟩ := k3 rfl c62
          cases hs : pSum (tzF ty tx) false (q + 1) with
          | mk q3 mw =>
            cases mw with
            | none =>
              have hp : pRule (tzF ty tx) ty = (q3, none) := by rw [pRule, hg]; simp only [c62, if_true]; rw [hs]
              obtain ⟨e2, e3⟩ := k4 q3 hs
              have hq3 : q3 ≤ 48 := by
                have := rd'.2.2.2.2.2.2.2.2.2.2.2.1
                omega
              rw [e2] at rd'
              exact tell h' B q2 q3 x' z' rd' hq3 (by omega) hp
            | some mw =>
              obtain ⟨m, w⟩ := mw
              obtain ⟨e1, e2, e3⟩ := k5 q3 m w hs
              by_cases c7 : q3 < ty
              · have hp : pRule (tzF ty tx) ty = (q3, none) := by rw [pRule, hg]; simp only [c62, if_true]; rw [hs]; simp only [c7, if_true]
                rw [e2 c7] at rd'
                exact tell h' B q2 q3 x' z' rd' (by omega) (by omega) hp
              · have hp : pRule (tzF ty tx) ty = (q3, some (D, q + 1, m, w)) := by rw [pRule, hg]; simp only [c62, if_true]; rw [hs]; simp only [c7, if_false]
                obtain ⟨e4, e5, e6⟩ := e3 c7
                rw [e4] at rd'
                have py' := PY_PX py (PX_tr x2 x') (by rw [hzb]; omega)
                have ci' := CI_PY py' cib
                obtain ⟨⟨b1, b2, b3, b4, b5, hL', gr, b8, b9, b10⟩, a2, a3, a4, a5, a6, a7, a8⟩ := id ci'
                have hmR : (mj_m h2 R).1 = 6 := by rw [rd2.2.2.2.1.2]
                have tgA : TG 60 h' A false D := TG_60 (ExU_TG (PX_ExU x' hmR) _ _ _ _ tg2) (by omega)
                simp only [w_17_43, w_17_44, w_17_47, w_17_48, w_17_51, w_17_53, w_17_54, w_17_57, w_17_58, w_17_59, w_17_60, w_17_63, w_17_64, w_17_65, rd'.2.2.2.1, rd'.2.2.2.2.2.2.2.2.2.2.2.2.2, if_true, ly_0 hL', lr_0_2 hL', ly_8 hL', mj_rv_some, k_add hL' b8.2.1 c6 (TG_cls tgA) i']
                obtain ⟨h5, hh5⟩ : ∃ h5, h5 = mj_wi (mj_wr (mj_wr h' 9 rn (some A)) 10 rn (some B)) 8 2 (nI (rn + 1)) := ⟨_, rfl⟩
                have nR9 : ∀ q ∈ ly_R, q.1 ≠ 9 ∧ q.1 ≠ 10 := by decide
                have hL5 : Lay h5 := by
                  rw [hh5]
                  exact Lay_wi.mpr (Lay_wr (fun q hq z => (nR9 q hq).2 z.1) (Lay_wr (fun q hq z => (nR9 q hq).1 z.1) hL'))
                simp only [← hh5, w_17_68, w_17_69, w_17_72, w_17_75, w_17_76, w_17_79, w_17_82, w_10_0, w_10_1, w_10_2, w_10_5, w_10_6, w_10_7, w_10_10, Option.toList, List.nil_append, ly_0 hL5, lr_0_2 hL5, lr_0_3 hL5, ly_8 hL5, ly_11 hL5, mj_rv_some, mj_is_wi, mj_r_wi, mj_fit_n0]
                obtain ⟨h6, hh6⟩ : ∃ h6, h6 = mj_wi (mj_wi h5 11 16 (nI 0)) 11 17 (nI 0) := ⟨_, rfl⟩
                rw [← hh6]
                have i6 : ∀ b, b ≠ 8 → b ≠ 11 → mj_i h6 b = mj_i h' b := fun b c8 c11 => by
                  funext j
                  rw [hh6, hh5, mj_i_ne c11, mj_i_ne c11, mj_i_ne c8, mj_i_wr, mj_i_wr]
                have i8 : ∀ j, j ≠ 2 → mj_i h6 8 j = mj_i h' 8 j := fun j hj => by rw [hh6, hh5]; simp [mj_i_wi, mj_i_wr, hj]
                have i82 : mj_i h6 8 2 = nI (rn + 1) := by rw [hh6, hh5]; simp [mj_i_wi]
                have i11 : ∀ j, j ≠ 16 → j ≠ 17 → mj_i h6 11 j = mj_i h' 11 j := fun j c1 c2 => by rw [hh6, hh5]; simp [mj_i_wi, mj_i_wr, c1, c2]
                have r6' : ∀ b j, mj_r h6 b j = if b = 10 ∧ j = rn then some B else if b = 9 ∧ j = rn then some A else mj_r h' b j := fun b j => by rw [hh6, hh5, mj_r_wi, mj_r_wi, mj_r_wi, mj_r_wr, mj_r_wr]
                have ex : Ext h' h6 := by
                  rw [hh6, hh5]
                  exact Ext_wi (Ext_wi (Ext_wi (Ext_wr (Ext_wr Ext_rf (by decide)) (by decide)) (by decide)) (by decide)) (by decide)
                have zz : mj_z h6 = mj_z h' ∧ mj_u h6 = mj_u h' := by rw [hh6, hh5]; exact ⟨rfl, rfl⟩
                have cf' := cf h' (PX_tr x2 x') (by omega)
                rw [i82]
                refine hok h6 q3 D (q + 1) m w c6 hp ⟨by rw [hh6]; exact Lay_wi.mpr (Lay_wi.mpr hL5), by rw [zz.1]; exact cf'.2.1, by rw [zz.1]; exact cf'.2.2.1, by rw [zz.2]; exact cf'.2.2.2.1, fun b b1 b2 => by rw [i6 b (by omega) (by omega)]; exact cf'.2.2.2.2 b b1 b2⟩ ⟨⟨b1, b2, b3, b4, b5, by rw [hh6]; exact Lay_wi.mpr (Lay_wi.mpr hL5), ?_, ⟨by omega, i82, fun r hr => ?_⟩, ⟨b9.1, by rw [i8 3 (by decide)]; exact b9.2.1, fun z => ?_⟩, ?_⟩, CC_new a2.1 ?_ ?_ ?_, a3, a4, ?_, ?_, ?_, ?_⟩
                · simp only [Gr, i6 1 (by decide) (by decide), i6 2 (by decide) (by decide), i6 3 (by decide) (by decide)]
                  exact gr
                · by_cases c9 : r = rn
                  · simp only [c9, if_true]
                    exact ⟨⟨A, by rw [r6']; simp, Ext_TG ex _ _ _ _ tgA⟩, B, by rw [r6']; simp, Ext_Sum ex e5, e6⟩
                  · simp only [c9, if_false]
                    obtain ⟨⟨g, y1, y2⟩, sa, y3, y4, y5⟩ := b8.2.2 r (by omega)
                    exact ⟨⟨g, by rw [r6']; simp [c9, y1], Ext_TG ex _ _ _ _ y2⟩, sa, by rw [r6']; simp [c9, y3], Ext_Sum ex y4, y5⟩
                · obtain ⟨g, y1, y2⟩ := b9.2.2 z
                  exact ⟨g, by rw [r6']; simp [y1], Ext_TG ex _ _ _ _ y2⟩
                · rw [i6 6 (by decide) (by decide), i6 22 (by decide) (by decide)]; exact b10
                · rw [i11 12 (by decide) (by decide)]; exact a2.2.1
                · rw [hh6]; simp [mj_i_wi]
                · rw [hh6]; simp [mj_i_wi]
                · rw [i6 0 (by decide) (by decide), i6 24 (by decide) (by decide)]; exact a5
                · rw [i6 0 (by decide) (by decide)]; exact a6
                · rw [i6 0 (by decide) (by decide)]; exact a7
                · rw [i6 0 (by decide) (by decide)]; exact a8
        · have hp : pRule (tzF ty tx) ty = (q, none) := by rw [pRule, hg]; simp only [c62, if_false]
          obtain ⟨e1, e2⟩ := k2 rfl c62
          rw [e2] at rd'
          exact tell h' B q2 q x' z' rd' (by omega) (by omega) hp
  · simp only [c6, if_false]
    exact hfull h1 (by omega) (cf h1 PX_rf (by omega)) ci1
end RuleK
