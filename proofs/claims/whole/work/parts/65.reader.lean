/-! The reader: what it leaves as it was, and its small methods. -/
/-- all cells that were there stay as they were, but for the ints of R -/
def PX (R : Nat) (h h' : MH) : Prop := mj_z h ≤ mj_z h' ∧ (∀ a, a < mj_z h → mj_m h' a = mj_m h a ∧ mj_r h' a = mj_r h a ∧ (a ≠ R → mj_i h' a = mj_i h a)) ∧ mj_u h' + 4 * mj_z h ≤ mj_u h + 4 * mj_z h'
section PxRows
variable {R : Nat} {h h' h'' : MH} {a k n kd : Nat} {x : Int32} {o : Option Nat}
theorem PX_rf : PX R h h := ⟨Nat.le_refl _, fun _ _ => ⟨rfl, rfl, fun _ => rfl⟩, Nat.le_refl _⟩
theorem PX_tr (p : PX R h h') (q : PX R h' h'') : PX R h h'' := by
  obtain ⟨p1, p2, p3⟩ := p
  obtain ⟨q1, q2, q3⟩ := q
  refine ⟨by omega, fun a ha => ?_, by omega⟩
  obtain ⟨a1, a2, a3⟩ := p2 a ha
  obtain ⟨b1, b2, b3⟩ := q2 a (by omega)
  exact ⟨b1.trans a1, b2.trans a2, fun hr => (b3 hr).trans (a3 hr)⟩
theorem PX_wR (p : PX R h h') : PX R h (mj_wi h' R k x) := ⟨p.1, fun a ha => ⟨(p.2.1 a ha).1, (p.2.1 a ha).2.1, fun hr => by funext j; rw [mj_i_ne hr, (p.2.1 a ha).2.2 hr]⟩, p.2.2⟩
theorem PX_wi (p : PX R h h') (ha : mj_z h ≤ a) : PX R h (mj_wi h' a k x) := ⟨p.1, fun b hb => ⟨(p.2.1 b hb).1, (p.2.1 b hb).2.1, fun hr => by funext j; rw [mj_i_ne (by omega), (p.2.1 b hb).2.2 hr]⟩, p.2.2⟩
theorem PX_wr (p : PX R h h') (ha : mj_z h ≤ a) : PX R h (mj_wr h' a k o) := ⟨p.1, fun b hb => ⟨(p.2.1 b hb).1, by funext j; rw [mj_r_wr, if_neg (by omega), (p.2.1 b hb).2.1], (p.2.1 b hb).2.2⟩, p.2.2⟩
theorem PX_nw (p : PX R h h') (hn : n ≤ 4) : PX R h (mj_nw h' kd n) := by
  obtain ⟨p1, p2, p3⟩ := p
  have ez : mj_z (mj_nw h' kd n) = mj_z h' + 1 := rfl
  have eu : mj_u (mj_nw h' kd n) = mj_u h' + n := rfl
  refine ⟨by omega, fun b hb => ?_, by omega⟩
  have hb' : b ≠ mj_z h' := by omega
  exact ⟨by rw [mj_nw_mo hb']; exact (p2 b hb).1, by funext j; rw [mj_nw_ro hb', (p2 b hb).2.1], fun hr => by funext j; rw [mj_nw_io hb', (p2 b hb).2.2 hr]⟩
theorem PX_is (p : PX R h h') (H : mj_is h a kd n) : mj_is h' a kd n := ⟨Nat.lt_of_lt_of_le H.1 p.1, by rw [(p.2.1 a H.1).1]; exact H.2⟩
theorem PX_ik (p : PX R h h') (H : mj_ik h a kd) : mj_ik h' a kd := ⟨Nat.lt_of_lt_of_le H.1 p.1, by rw [(p.2.1 a H.1).1]; exact H.2⟩
theorem PX_Lay (p : PX R h h') (hL : Lay h) : Lay h' := by
  have h0 := hL.1
  refine ⟨Nat.le_trans hL.1 p.1, fun a ha => by rw [(p.2.1 a (by omega)).1]; exact hL.2.1 a ha, fun q hq => ?_⟩
  have h1 : ∀ q ∈ ly_R, q.1 < 46 := by decide
  have h2 := h1 q hq
  rw [(p.2.1 q.1 (by omega)).2.1]
  exact hL.2.2 q hq
end PxRows
/-- trees stay what they are: only cells that no tree can hold have changed -/
def ExU (h h' : MH) : Prop := mj_z h ≤ mj_z h' ∧ ∀ a, 46 ≤ a → a < mj_z h → mj_m h' a = mj_m h a ∧ ((mj_m h a).1 = 6 ∨ ((mj_m h a).1 ≠ 102 ∧ ∀ k, mj_r h a k = none) ∨ (mj_i h' a = mj_i h a ∧ mj_r h' a = mj_r h a))
theorem ExU_of {h h' : MH} {a kd n j b : Nat} (e : ExU h h') (ha : 46 ≤ a) (H : mj_is h a kd n) (hk : kd ≠ 6) (hr : mj_r h a j = some b) : mj_is h' a kd n ∧ mj_i h' a = mj_i h a ∧ mj_r h' a = mj_r h a := by
  obtain ⟨e1, e2⟩ := e.2 a ha H.1
  refine ⟨⟨Nat.lt_of_lt_of_le H.1 e.1, by rw [e1]; exact H.2⟩, ?_⟩
  rcases e2 with e2 | ⟨-, e2⟩ | e2
  · rw [H.2] at e2; exact absurd e2 hk
  · rw [e2 j] at hr; cases hr
  · exact e2
theorem ExU_Sum {h h' : MH} {a m : Nat} {cs : Nat → Nat} {ng : Nat → Bool} {w : Bool} (e : ExU h h') (s : SumAt h a m cs ng w) : SumAt h' a m cs ng w := by
  obtain ⟨T, f, len, q1, q2, s1, s2, s3, s4, s5, s6, s7, s8, s9, s10, s11, s12, s13⟩ := s
  obtain ⟨y1, e2, e3⟩ := ExU_of e q1 s1 (by decide) s2
  obtain ⟨f1, f2⟩ := e.2 T q2 s3.1
  have f3 : mj_i h' T = mj_i h T := by
    rcases f2 with f2 | ⟨f2, -⟩ | f2
    · rw [s3.2] at f2; cases f2
    · exact absurd s3.2 f2
    · exact f2.1
  exact ⟨T, f, len, q1, q2, y1, by rw [e3]; exact s2, ⟨Nat.lt_of_lt_of_le s3.1 e.1, by rw [f1]; exact s3.2⟩, by rw [mj_ln, f1]; exact s4, s5, by rw [e2]; exact s6, by rw [e2]; exact s7, s8, s9, by rw [e2]; exact s10, by rw [f3]; exact s11, by rw [f3]; exact s12, s13⟩
theorem ExU_TG {h h' : MH} (e : ExU h h') : ∀ (t a : Nat) (nb : Bool) (D : GD), TG t h a nb D → TG t h' a nb D
  | 0, _, _, _, q => q.elim
  | t + 1, a, nb, D, ⟨q0, q⟩ => by
    refine ⟨q0, ?_⟩
    rcases q with ⟨l, r, sg, m1, m2, c1, c2, g1, g2, w1, w2, p1, p2, p3, p4, p5, p6, p7, p8, p9⟩ | ⟨l, r, b, D1, D2, p1, p2, p3, p4, p5, p6, p7⟩ | ⟨i, D1, p1, p2, p3, p4⟩ | ⟨hn, i, b, D1, p1, p2, p3, p4, p5⟩
    · obtain ⟨e1, e2, e3⟩ := ExU_of e q0 p1 (by decide) p2
      exact Or.inl ⟨l, r, sg, m1, m2, c1, c2, g1, g2, w1, w2, e1, by rw [e3]; exact p2, by rw [e3]; exact p3, by rw [e2]; exact p4, p5, ExU_Sum e p6, ExU_Sum e p7, p8, p9⟩
    · obtain ⟨e1, e2, e3⟩ := ExU_of e q0 p1 (by decide) p2
      exact Or.inr (Or.inl ⟨l, r, b, D1, D2, e1, by rw [e3]; exact p2, by rw [e3]; exact p3, by rw [e2]; exact p4, ExU_TG e t l nb D1 p5, ExU_TG e t r nb D2 p6, p7⟩)
    · obtain ⟨e1, e2, e3⟩ := ExU_of e q0 p1 (by decide) p2
      exact Or.inr (Or.inr (Or.inl ⟨i, D1, e1, by rw [e3]; exact p2, ExU_TG e t i nb D1 p3, p4⟩))
    · obtain ⟨e1, e2, e3⟩ := ExU_of e q0 p1 (by decide) p2
      exact Or.inr (Or.inr (Or.inr ⟨hn, i, b, D1, e1, by rw [e3]; exact p2, by rw [e2]; exact p3, ExU_TG e t i true D1 p4, p5⟩))
theorem PX_ExU {R : Nat} {h h' : MH} (p : PX R h h') (hR : (mj_m h R).1 = 6) : ExU h h' := ⟨p.1, fun a _ ha => ⟨(p.2.1 a ha).1, by
  by_cases z : a = R
  · rw [z]; exact Or.inl hR
  · exact Or.inr (Or.inr ⟨(p.2.1 a ha).2.2 z, (p.2.1 a ha).2.1⟩)⟩⟩
theorem TG_le {h : MH} {a : Nat} {nb : Bool} {D : GD} {t : Nat} (q : TG t h a nb D) : ∀ r, TG (t + r) h a nb D
  | 0 => q
  | r + 1 => TG_mono _ a nb D (TG_le q r)
/-- the reader R of the text t, len long, at p; fl: its fault -/
def RD (h : MH) (R T len : Nat) (t : Nat → Nat) (p : Nat) (fl : Int32) : Prop := 46 ≤ R ∧ 46 ≤ T ∧ R ≠ T ∧ mj_is h R 6 3 ∧ mj_r h R 0 = some T ∧ mj_ik h T 102 ∧ mj_ln h T = len ∧ len ≤ 48 ∧ (∀ i, i < len → mj_i h T i = nI (t i)) ∧ (∀ i, t i < 127) ∧ (∀ i, len ≤ i → t i = 0) ∧ p ≤ len ∧ mj_i h R 1 = nI p ∧ mj_i h R 2 = fl
theorem RD_PX {h h' : MH} {R T len : Nat} {t : Nat → Nat} {p p' : Nat} {fl fl' : Int32} (r : RD h R T len t p fl) (x : PX R h h') (hp : p' ≤ len) (h1 : mj_i h' R 1 = nI p') (h2 : mj_i h' R 2 = fl') : RD h' R T len t p' fl' := by
  obtain ⟨r1, r2, r3, r4, r5, r6, r7, r8, r9, r10, r11, r12, r13, r14⟩ := r
  obtain ⟨x1, x2, x3⟩ := x.2.1 R r4.1
  obtain ⟨y1, y2, y3⟩ := x.2.1 T r6.1
  exact ⟨r1, r2, r3, PX_is x r4, by rw [x2]; exact r5, PX_ik x r6, by rw [mj_ln, y1]; exact r7, r8, fun i hi => by rw [y3 (fun z => r3 z.symm)]; exact r9 i hi, r10, r11, hp, h1, h2⟩
def nxC (t : Nat → Nat) (p : Nat) (fl : Int32) : Nat := if fl = -1 then t p else 0
theorem fit_ch : ∀ c, c < 127 → mj_fit .char (nI c) = true := by decide +kernel
section RdK
variable {L : Nat} {xs : Nat → Int32} {d : Nat} {Q : Option Value × MH → Prop} {h : MH} {R T len : Nat} {t : Nat → Nat} {p : Nat} {fl : Int32}
theorem nxC_lt (r : RD h R T len t p fl) : nxC t p fl < 127 := by
  unfold nxC
  split
  · exact r.2.2.2.2.2.2.2.2.2.1 p
  · decide
theorem k_next (r : RD h R T len t p fl) : mj_Wp L xs d 24 0 [some (.ref R)] [] h Q ↔ Q (some (.int (nI (nxC t p fl))), h) := by
  obtain ⟨r1, r2, r3, r4, r5, r6, r7, r8, r9, r10, r11, r12, r13, r14⟩ := id r
  simp only [w_24_0, w_24_1, w_24_4, w_24_5, w_24_8, w_24_9, w_24_12, w_24_13, w_24_16_100, w_24_16_102, w_24_17, w_24_20, w_24_21, w_24_24, w_24_25, w_24_28, w_24_29, w_24_32, w_24_33, r4, r5, r6, r7, r13, r14, mj_rv_some, nI_leI (show len < 2 ^ 31 by omega) (show p < 2 ^ 31 by omega), mj_fit_n0, show mj_fit .char (nI 0) = true by decide, nxC]
  by_cases c1 : fl = -1
  · by_cases c2 : len ≤ p
    · simp [c1, c2, r11 p c2]
    · have e1 : mj_in (nI p) len = true := mj_in_nI (by omega) (by omega)
      have e2 : (nI p).toNatClampNeg = p := nI_clamp (by omega)
      have e3 := r9 p (by omega)
      have e4 := fit_ch _ (r10 p)
      have e5 : mj_fit .char (mj_i h T p) = true := by rw [e3]; exact e4
      simp only [c1, c2, e1, e2, not_true_eq_false, if_false, w_24_28, w_24_29, w_24_32, w_24_33, r6, r7, e5, if_true]
      rw [e3]
  · simp [c1]
theorem k_take {c : Nat} (r : RD h R T len t p fl) (hc : c < 127) : mj_Wp L xs (d + 1) 23 0 [some (.ref R), some (.int (nI c))] [] h Q ↔ if nxC t p fl = c then Q (some (.int (nI 1)), mj_wi h R 1 (nI (p + 1))) else Q (some (.int (nI 0)), h) := by
  obtain ⟨r1, r2, r3, r4, r5, r6, r7, r8, r9, r10, r11, r12, r13, r14⟩ := id r
  have h1 := nxC_lt r
  have z : (nI (nxC t p fl) = nI c) = (nxC t p fl = c) := by rw [nI_eq (by omega) (by omega)]
  simp only [w_23_0, w_23_1, w_23_4, w_23_5, w_23_8, w_23_9, w_23_10, w_23_11, w_23_12, w_23_15, w_23_16, w_23_17, w_23_20, w_23_21, r4, k_next r, r13, z, Option.toList, List.cons_append, List.nil_append, nI_add, mj_fit_n0, mj_fit_n1]
theorem k_refuse (r : RD h R T len t p fl) : mj_Wp L xs d 28 0 [some (.ref R)] [] h Q ↔ if fl = -1 then Q (none, mj_wi h R 2 (nI p)) else Q (none, h) := by
  obtain ⟨r1, r2, r3, r4, r5, r6, r7, r8, r9, r10, r11, r12, r13, r14⟩ := id r
  simp only [w_28_0, w_28_1, w_28_4, w_28_5, w_28_8, w_28_9, w_28_10, w_28_13, w_28_16, r4, r13, r14]
  by_cases c1 : fl = -1 <;> simp [c1]
theorem k_readPart {nb : Bool} (r : RD h R T len t p fl) : mj_Wp L xs (d + 1 + 1 + 1 + 1 + 1) 32 0 [some (.ref R), some (.int (bI nb)), none] [] h Q ↔ if isP nb (nxC t p fl) = true then Q (none, mj_wi h R 1 (nI (p + 1))) else if fl = -1 then Q (none, mj_wi h R 2 (nI p)) else Q (none, h) := by
  obtain ⟨r1, r2, r3, r4, r5, r6, r7, r8, r9, r10, r11, r12, r13, r14⟩ := id r
  have h1 := nxC_lt r
  have i0 := ix0_P _ h1
  have i1 := ix1_P _ h1
  have n10 : ¬ nI 1 = nI 0 := by decide
  simp only [w_32_0, w_32_1, w_32_4, w_32_5, w_32_7, w_32_8_0, w_32_8_1, w_32_11, w_32_14, w_32_15, w_32_18, w_32_20, w_32_21_0, w_32_21_1, w_32_24, w_32_27, w_32_28, w_32_29, w_32_32, w_32_33, w_32_34, w_32_37, w_32_40, w_32_41, w_32_44, r4, k_next r, k_indexOf0 h1, k_indexOf1 h1, k_refuse r, r13, Option.toList, List.cons_append, List.nil_append, nI_add]
  have ep : isP nb (nxC t p fl) = (isP false (nxC t p fl) || (nb && (nxC t p fl == 121 || nxC t p fl == 106))) := by
    simp [isP]
  rw [ep, ← i0, ← i1]
  by_cases c1 : nI 0 ≤ ixI (mj_lit 0) (nI (nxC t p fl)).toInt8.toInt32 19 0
  · simp [c1]
  · by_cases c2 : nI 0 ≤ ixI (mj_lit 1) (nI (nxC t p fl)).toInt8.toInt32 2 0
    · have c3 : ¬ ixI (mj_lit 1) (nI (nxC t p fl)).toInt8.toInt32 2 0 < nI 0 := Int32.not_lt.mpr c2
      cases nb <;> simp [c1, c2, c3, bI, n10]
    · have c3 : ixI (mj_lit 1) (nI (nxC t p fl)).toInt8.toInt32 2 0 < nI 0 := Int32.not_le.mp c2
      cases nb <;> simp [c1, c2, c3, bI, n10]
end RdK
