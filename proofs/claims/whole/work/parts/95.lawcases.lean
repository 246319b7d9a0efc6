/-! The law: one call after the other. -/
theorem and31 (x : Int32) : ∃ c, c < 32 ∧ x &&& nI 31 = nI c := by
  have h1 : (x &&& nI 31) &&& (nI 31 ^^^ (-1)) = nI 0 := by
    rw [Int32.and_assoc, show nI 31 &&& (nI 31 ^^^ (-1)) = 0 by decide, Int32.and_zero]
    rfl
  exact and_mask (by decide) h1
/-- both hold the same, within the room -/
def INV (j : Nat) (h : MH) : Prop := ∃ (n k e : Nat) (lk : Nat → Nat) (rn : Nat) (G : Nat → GD) (sm : SM) (ak : Nat) (GA : GD) (sc s : Nat) (stp mov : Int32) (ty : Nat) (tx : Nat → Nat), CI h n k e lk rn G sm ak GA sc s stp mov ty tx ∧ RI h n k e lk rn G sm ak GA sc s stp mov ty tx ∧ mj_z h ≤ 46 + 300 * j ∧ mj_u h ≤ 24386 + 1300 * j
theorem far_eq {vd N : Nat} {D D' : Nat → Nat} {x : Int32} (hN : N ≤ 1024) (q : vd = 0 → ∀ s, s < N → D s = D' s) : frA vd N D x = frA vd N D' x := by
  unfold frA
  split
  · rfl
  · next hc =>
    have hv : vd = 0 := Classical.byContradiction (fun z => hc (Or.inl z))
    have h0 : ¬ x < nI 0 := fun z => hc (Or.inr (Or.inl z))
    obtain ⟨j, j1, rfl⟩ := nI_of h0
    have j2 : j < N := Nat.lt_of_not_le (fun z => hc (Or.inr (Or.inr ((nI_leI (by omega) j1).mpr z))))
    rw [nI_clamp (by omega), q hv j j2]
theorem bad_eq {rl : Nat} {run run' : Nat → Nat} {x : Int32} (hr : rl ≤ 1025) (q : ∀ i, i < rl → run i = run' i) : bdA rl run x = bdA rl run' x := by
  unfold bdA
  split
  · rfl
  · next hc =>
    have h0 : ¬ x < nI 0 := fun z => hc (Or.inl z)
    obtain ⟨j, j1, rfl⟩ := nI_of h0
    have j2 : j < rl := Nat.lt_of_not_le (fun z => hc (Or.inr ((nI_leI (by omega) j1).mpr z)))
    rw [nI_clamp (by omega), q j j2]
section LawK
variable {L : Nat} {xs : Nat → Int32} {d : Nat} {Q : Option Value × MH → Prop} {h : MH}
theorem law_0 {j n k e : Nat} {lk : Nat → Nat} {rn : Nat} {G : Nat → GD} {sm : SM} {ak : Nat} {GA : GD} {sc s : Nat} {stp mov : Int32} {ty : Nat} {tx : Nat → Nat} (hj : 3 * j + 3 ≤ L) (hL' : L ≤ 1536) (ci : CI h n k e lk rn G sm ak GA sc s stp mov ty tx) (ri : RI h n k e lk rn G sm ak GA sc s stp mov ty tx) (fin : ∀ {h1 h2 : MH} {n k e : Nat} {lk : Nat → Nat} {rn : Nat} {G : Nat → GD} {sm : SM} {ak : Nat} {GA : GD} {sc s : Nat} {stp mov : Int32} {ty : Nat} {tx : Nat → Nat}, CF h h1 → mj_sx rfS h1 h2 → CI h1 n k e lk rn G sm ak GA sc s stp mov ty tx → RI h2 n k e lk rn G sm ak GA sc s stp mov ty tx → mj_Wp L xs (d + 100 + 1) 0 521 [some (.retAddr 0), some (.ref 0), some (.ref 25), some (.int (nI (3 * j)))] [] h2 Q) : mj_Wp L xs (d + 100 + 1) 0 124 [some (.retAddr 0), some (.ref 0), some (.ref 25), some (.int (nI (3 * j)))] [] h Q := by
  have hL := ci.1.2.2.2.2.2.1
  have cf0 : CF h h := CF_sx hL (sx_rf (S := [])) (by simp)
  have i1 : mj_in (nI (3 * j + 1)) L = true := mj_in_nI (by omega) (by omega)
  have i2 : (nI (3 * j + 1)).toNatClampNeg = 3 * j + 1 := nI_clamp (by omega)
  have k1 : mj_in (nI (3 * j + 2)) L = true := mj_in_nI (by omega) (by omega)
  have k2 : (nI (3 * j + 2)).toNatClampNeg = 3 * j + 2 := nI_clamp (by omega)
  simp only [w_0_124, w_0_125, w_0_126, w_0_127, w_0_128, w_0_129, w_0_130, w_0_131, w_0_132, w_0_133, w_0_134, w_0_135, i1, i2, k1, k2, nI_add, ly_0 hL, Option.toList, List.cons_append, List.nil_append]
  refine c_graph (d := d + 97) ci (fun hb => ?_) (fun n' k' h1 e1 e2 b1 b2 b3 b4 cf ci1 => ?_)
  · simp only [w_0_138, w_0_139, w_0_140, w_0_141, w_0_142, w_0_143, w_0_144, w_0_145, w_0_146, w_0_147, w_0_148, w_0_149, i1, i2, k1, k2, nI_add, ly_25 hL, Option.toList, List.cons_append, List.nil_append]
    rw [r_graph_bad hb]
    simp only [w_0_152, Option.toList, List.cons_append, List.nil_append, if_true]
    exact fin cf0 sx_rf ci ri
  · have ri1 := RI_CF cf ri
    have hL1 := ci1.1.2.2.2.2.2.1
    simp only [w_0_138, w_0_139, w_0_140, w_0_141, w_0_142, w_0_143, w_0_144, w_0_145, w_0_146, w_0_147, w_0_148, w_0_149, i1, i2, k1, k2, nI_add, ly_25 hL1, Option.toList, List.cons_append, List.nil_append, e1, e2]
    refine r_graph_ok (d := d + 98) ri1 b1 b2 b3 b4 (fun h2 s2 ri2 => ?_)
    simp only [w_0_152, Option.toList, List.cons_append, List.nil_append, if_true]
    exact fin cf s2 ci1 ri2
theorem law_1 {j n k e : Nat} {lk : Nat → Nat} {rn : Nat} {G : Nat → GD} {sm : SM} {ak : Nat} {GA : GD} {sc s : Nat} {stp mov : Int32} {ty : Nat} {tx : Nat → Nat} (hj : 3 * j + 3 ≤ L) (hL' : L ≤ 1536) (ci : CI h n k e lk rn G sm ak GA sc s stp mov ty tx) (ri : RI h n k e lk rn G sm ak GA sc s stp mov ty tx) (fin : ∀ {h1 h2 : MH} {n k e : Nat} {lk : Nat → Nat} {rn : Nat} {G : Nat → GD} {sm : SM} {ak : Nat} {GA : GD} {sc s : Nat} {stp mov : Int32} {ty : Nat} {tx : Nat → Nat}, CF h h1 → mj_sx rfS h1 h2 → CI h1 n k e lk rn G sm ak GA sc s stp mov ty tx → RI h2 n k e lk rn G sm ak GA sc s stp mov ty tx → mj_Wp L xs (d + 100 + 1) 0 521 [some (.retAddr 0), some (.ref 0), some (.ref 25), some (.int (nI (3 * j)))] [] h2 Q) : mj_Wp L xs (d + 100 + 1) 0 157 [some (.retAddr 0), some (.ref 0), some (.ref 25), some (.int (nI (3 * j)))] [] h Q := by
  have hL := ci.1.2.2.2.2.2.1
  have cf0 : CF h h := CF_sx hL (sx_rf (S := [])) (by simp)
  have i1 : mj_in (nI (3 * j + 1)) L = true := mj_in_nI (by omega) (by omega)
  have i2 : (nI (3 * j + 1)).toNatClampNeg = 3 * j + 1 := nI_clamp (by omega)
  have k1 : mj_in (nI (3 * j + 2)) L = true := mj_in_nI (by omega) (by omega)
  have k2 : (nI (3 * j + 2)).toNatClampNeg = 3 * j + 2 := nI_clamp (by omega)
  simp only [w_0_157, w_0_158, w_0_159, w_0_160, w_0_161, w_0_162, w_0_163, w_0_164, w_0_165, w_0_166, w_0_167, w_0_168, i1, i2, k1, k2, nI_add, ly_0 hL, Option.toList, List.cons_append, List.nil_append]
  refine c_edge (d := d + 99) ci (fun hb => ?_) (fun p q h1 e1 e2 b1 b2 b3 b4 cf ci1 => ?_)
  · simp only [w_0_171, w_0_172, w_0_173, w_0_174, w_0_175, w_0_176, w_0_177, w_0_178, w_0_179, w_0_180, w_0_181, w_0_182, i1, i2, k1, k2, nI_add, ly_25 hL, Option.toList, List.cons_append, List.nil_append]
    rw [r_edge_bad (d := d + 99) ri hb]
    simp only [w_0_185, Option.toList, List.cons_append, List.nil_append, if_true]
    exact fin cf0 sx_rf ci ri
  · have ri1 := RI_CF cf ri
    have hL1 := ci1.1.2.2.2.2.2.1
    simp only [w_0_171, w_0_172, w_0_173, w_0_174, w_0_175, w_0_176, w_0_177, w_0_178, w_0_179, w_0_180, w_0_181, w_0_182, i1, i2, k1, k2, nI_add, ly_25 hL1, Option.toList, List.cons_append, List.nil_append, e1, e2]
    refine r_edge_ok (d := d + 99) ri1 b1 b2 b3 b4 (fun h2 s2 ri2 => ?_)
    simp only [w_0_185, Option.toList, List.cons_append, List.nil_append, if_true]
    exact fin cf s2 ci1 ri2
theorem law_2 {j n k e : Nat} {lk : Nat → Nat} {rn : Nat} {G : Nat → GD} {sm : SM} {ak : Nat} {GA : GD} {sc s : Nat} {stp mov : Int32} {ty : Nat} {tx : Nat → Nat} (hj : 3 * j + 3 ≤ L) (hL' : L ≤ 1536) (ci : CI h n k e lk rn G sm ak GA sc s stp mov ty tx) (ri : RI h n k e lk rn G sm ak GA sc s stp mov ty tx) (fin : ∀ {h1 h2 : MH} {n k e : Nat} {lk : Nat → Nat} {rn : Nat} {G : Nat → GD} {sm : SM} {ak : Nat} {GA : GD} {sc s : Nat} {stp mov : Int32} {ty : Nat} {tx : Nat → Nat}, CF h h1 → mj_sx rfS h1 h2 → CI h1 n k e lk rn G sm ak GA sc s stp mov ty tx → RI h2 n k e lk rn G sm ak GA sc s stp mov ty tx → mj_Wp L xs (d + 100 + 1) 0 521 [some (.retAddr 0), some (.ref 0), some (.ref 25), some (.int (nI (3 * j)))] [] h2 Q) : mj_Wp L xs (d + 100 + 1) 0 190 [some (.retAddr 0), some (.ref 0), some (.ref 25), some (.int (nI (3 * j)))] [] h Q := by
  have hL := ci.1.2.2.2.2.2.1
  have cf0 : CF h h := CF_sx hL (sx_rf (S := [])) (by simp)
  have i1 : mj_in (nI (3 * j + 1)) L = true := mj_in_nI (by omega) (by omega)
  have i2 : (nI (3 * j + 1)).toNatClampNeg = 3 * j + 1 := nI_clamp (by omega)
  have k1 : mj_in (nI (3 * j + 2)) L = true := mj_in_nI (by omega) (by omega)
  have k2 : (nI (3 * j + 2)).toNatClampNeg = 3 * j + 2 := nI_clamp (by omega)
  simp only [w_0_190, w_0_191, w_0_192, w_0_193, w_0_194, w_0_195, w_0_196, i1, i2, k1, k2, nI_add, ly_0 hL, Option.toList, List.cons_append, List.nil_append]
  refine c_type ci (fun hb => ?_) (fun hb ht => ?_) (fun c' h1 e1 b1 b2 b3 cf ci1 => ?_)
  · simp only [w_0_199, w_0_200, w_0_201, w_0_202, w_0_203, w_0_204, w_0_205, i1, i2, k1, k2, nI_add, ly_25 hL, Option.toList, List.cons_append, List.nil_append]
    rw [r_type_bad hb]
    simp only [w_0_208, Option.toList, List.cons_append, List.nil_append, if_true]
    exact fin cf0 sx_rf ci ri
  · simp only [w_0_199, w_0_200, w_0_201, w_0_202, w_0_203, w_0_204, w_0_205, i1, i2, k1, k2, nI_add, ly_25 hL, Option.toList, List.cons_append, List.nil_append]
    rw [r_type_full ri hb ht]
    simp only [w_0_208, Option.toList, List.cons_append, List.nil_append, if_true]
    exact fin cf0 sx_rf ci ri
  · have ri1 := RI_CF cf ri
    have hL1 := ci1.1.2.2.2.2.2.1
    simp only [w_0_199, w_0_200, w_0_201, w_0_202, w_0_203, w_0_204, w_0_205, i1, i2, k1, k2, nI_add, ly_25 hL1, Option.toList, List.cons_append, List.nil_append, e1]
    refine r_type_ok ri1 b1 b2 b3 (fun h2 s2 ri2 => ?_)
    simp only [w_0_208, Option.toList, List.cons_append, List.nil_append, if_true]
    exact fin cf s2 ci1 ri2
theorem law_3 {j n k e : Nat} {lk : Nat → Nat} {rn : Nat} {G : Nat → GD} {sm : SM} {ak : Nat} {GA : GD} {sc s : Nat} {stp mov : Int32} {ty : Nat} {tx : Nat → Nat} (hj : 3 * j + 3 ≤ L) (hL' : L ≤ 1536) (ci : CI h n k e lk rn G sm ak GA sc s stp mov ty tx) (ri : RI h n k e lk rn G sm ak GA sc s stp mov ty tx) (fin : ∀ {h1 h2 : MH} {n k e : Nat} {lk : Nat → Nat} {rn : Nat} {G : Nat → GD} {sm : SM} {ak : Nat} {GA : GD} {sc s : Nat} {stp mov : Int32} {ty : Nat} {tx : Nat → Nat}, CF h h1 → mj_sx rfS h1 h2 → CI h1 n k e lk rn G sm ak GA sc s stp mov ty tx → RI h2 n k e lk rn G sm ak GA sc s stp mov ty tx → mj_Wp L xs (d + 100 + 1) 0 521 [some (.retAddr 0), some (.ref 0), some (.ref 25), some (.int (nI (3 * j)))] [] h2 Q) : mj_Wp L xs (d + 100 + 1) 0 213 [some (.retAddr 0), some (.ref 0), some (.ref 25), some (.int (nI (3 * j)))] [] h Q := by
  have hL := ci.1.2.2.2.2.2.1
  have cf0 : CF h h := CF_sx hL (sx_rf (S := [])) (by simp)
  have i1 : mj_in (nI (3 * j + 1)) L = true := mj_in_nI (by omega) (by omega)
  have i2 : (nI (3 * j + 1)).toNatClampNeg = 3 * j + 1 := nI_clamp (by omega)
  have k1 : mj_in (nI (3 * j + 2)) L = true := mj_in_nI (by omega) (by omega)
  have k2 : (nI (3 * j + 2)).toNatClampNeg = 3 * j + 2 := nI_clamp (by omega)
  simp only [w_0_213, w_0_214, i1, i2, k1, k2, nI_add, ly_0 hL, Option.toList, List.cons_append, List.nil_append]
  refine c_rule (d := d + 65) ci (fun h1 h6 cf ci1 => ?_) (fun h1 f h6 hp cf ci1 => ?_) (fun h1 q D p m w h6 hp cf ci1 => ?_)
  · have ri1 := RI_CF cf ri
    have hL1 := ci1.1.2.2.2.2.2.1
    simp only [w_0_217, w_0_218, i1, i2, k1, k2, nI_add, ly_25 hL1, Option.toList, List.cons_append, List.nil_append]
    refine r_rule_full ri1 h6 (fun h2 s2 ri2 => ?_)
    simp only [w_0_221, Option.toList, List.cons_append, List.nil_append, if_true]
    exact fin cf s2 ci1 ri2
  · have ri1 := RI_CF cf ri
    have hL1 := ci1.1.2.2.2.2.2.1
    simp only [w_0_217, w_0_218, i1, i2, k1, k2, nI_add, ly_25 hL1, Option.toList, List.cons_append, List.nil_append]
    refine r_rule_bad (d := d + 95) ri1 h6 hp (fun h2 s2 ri2 => ?_)
    simp only [w_0_221, Option.toList, List.cons_append, List.nil_append, if_true]
    exact fin cf s2 ci1 ri2
  · have ri1 := RI_CF cf ri
    have hL1 := ci1.1.2.2.2.2.2.1
    simp only [w_0_217, w_0_218, i1, i2, k1, k2, nI_add, ly_25 hL1, Option.toList, List.cons_append, List.nil_append]
    refine r_rule_ok (d := d + 95) ri1 h6 hp (fun h2 s2 ri2 => ?_)
    simp only [w_0_221, Option.toList, List.cons_append, List.nil_append, if_true]
    exact fin cf s2 ci1 ri2
theorem law_4 {j n k e : Nat} {lk : Nat → Nat} {rn : Nat} {G : Nat → GD} {sm : SM} {ak : Nat} {GA : GD} {sc s : Nat} {stp mov : Int32} {ty : Nat} {tx : Nat → Nat} (hj : 3 * j + 3 ≤ L) (hL' : L ≤ 1536) (ci : CI h n k e lk rn G sm ak GA sc s stp mov ty tx) (ri : RI h n k e lk rn G sm ak GA sc s stp mov ty tx) (fin : ∀ {h1 h2 : MH} {n k e : Nat} {lk : Nat → Nat} {rn : Nat} {G : Nat → GD} {sm : SM} {ak : Nat} {GA : GD} {sc s : Nat} {stp mov : Int32} {ty : Nat} {tx : Nat → Nat}, CF h h1 → mj_sx rfS h1 h2 → CI h1 n k e lk rn G sm ak GA sc s stp mov ty tx → RI h2 n k e lk rn G sm ak GA sc s stp mov ty tx → mj_Wp L xs (d + 100 + 1) 0 521 [some (.retAddr 0), some (.ref 0), some (.ref 25), some (.int (nI (3 * j)))] [] h2 Q) : mj_Wp L xs (d + 100 + 1) 0 226 [some (.retAddr 0), some (.ref 0), some (.ref 25), some (.int (nI (3 * j)))] [] h Q := by
  have hL := ci.1.2.2.2.2.2.1
  have cf0 : CF h h := CF_sx hL (sx_rf (S := [])) (by simp)
  have i1 : mj_in (nI (3 * j + 1)) L = true := mj_in_nI (by omega) (by omega)
  have i2 : (nI (3 * j + 1)).toNatClampNeg = 3 * j + 1 := nI_clamp (by omega)
  have k1 : mj_in (nI (3 * j + 2)) L = true := mj_in_nI (by omega) (by omega)
  have k2 : (nI (3 * j + 2)).toNatClampNeg = 3 * j + 2 := nI_clamp (by omega)
  simp only [w_0_226, w_0_227, i1, i2, k1, k2, nI_add, ly_0 hL, Option.toList, List.cons_append, List.nil_append]
  refine c_drop (d := d + 99) ci (fun hb => ?_) (fun r h1 hr cf ci1 => ?_)
  · simp only [w_0_230, w_0_231, i1, i2, k1, k2, nI_add, ly_25 hL, Option.toList, List.cons_append, List.nil_append]
    rw [r_drop_bad ri hb]
    simp only [w_0_234, Option.toList, List.cons_append, List.nil_append, if_true]
    exact fin cf0 sx_rf ci ri
  · have ri1 := RI_CF cf ri
    have hL1 := ci1.1.2.2.2.2.2.1
    simp only [w_0_230, w_0_231, i1, i2, k1, k2, nI_add, ly_25 hL1, Option.toList, List.cons_append, List.nil_append]
    refine r_drop_ok ri1 hr (fun h2 s2 ri2 => ?_)
    simp only [w_0_234, Option.toList, List.cons_append, List.nil_append, if_true]
    exact fin cf s2 ci1 ri2
theorem law_5 {j n k e : Nat} {lk : Nat → Nat} {rn : Nat} {G : Nat → GD} {sm : SM} {ak : Nat} {GA : GD} {sc s : Nat} {stp mov : Int32} {ty : Nat} {tx : Nat → Nat} (hj : 3 * j + 3 ≤ L) (hL' : L ≤ 1536) (ci : CI h n k e lk rn G sm ak GA sc s stp mov ty tx) (ri : RI h n k e lk rn G sm ak GA sc s stp mov ty tx) (fin : ∀ {h1 h2 : MH} {n k e : Nat} {lk : Nat → Nat} {rn : Nat} {G : Nat → GD} {sm : SM} {ak : Nat} {GA : GD} {sc s : Nat} {stp mov : Int32} {ty : Nat} {tx : Nat → Nat}, CF h h1 → mj_sx rfS h1 h2 → CI h1 n k e lk rn G sm ak GA sc s stp mov ty tx → RI h2 n k e lk rn G sm ak GA sc s stp mov ty tx → mj_Wp L xs (d + 100 + 1) 0 521 [some (.retAddr 0), some (.ref 0), some (.ref 25), some (.int (nI (3 * j)))] [] h2 Q) : mj_Wp L xs (d + 100 + 1) 0 239 [some (.retAddr 0), some (.ref 0), some (.ref 25), some (.int (nI (3 * j)))] [] h Q := by
  have hL := ci.1.2.2.2.2.2.1
  have cf0 : CF h h := CF_sx hL (sx_rf (S := [])) (by simp)
  have i1 : mj_in (nI (3 * j + 1)) L = true := mj_in_nI (by omega) (by omega)
  have i2 : (nI (3 * j + 1)).toNatClampNeg = 3 * j + 1 := nI_clamp (by omega)
  have k1 : mj_in (nI (3 * j + 2)) L = true := mj_in_nI (by omega) (by omega)
  have k2 : (nI (3 * j + 2)).toNatClampNeg = 3 * j + 2 := nI_clamp (by omega)
  simp only [w_0_239, w_0_240, w_0_241, w_0_242, w_0_243, w_0_244, w_0_245, i1, i2, k1, k2, nI_add, ly_0 hL, Option.toList, List.cons_append, List.nil_append]
  refine c_aim (d := d + 65) ci (fun b0 b1 b2 => ?_) (fun h1 j' e1 b1 cf ci1 => ?_) (fun h1 f e1 hp cf ci1 => ?_) (fun h1 q D e1 hp cf ci1 => ?_)
  · simp only [w_0_248, w_0_249, w_0_250, w_0_251, w_0_252, w_0_253, w_0_254, i1, i2, k1, k2, nI_add, ly_25 hL, Option.toList, List.cons_append, List.nil_append]
    rw [r_aim_bad b0 b1 b2]
    simp only [w_0_257, Option.toList, List.cons_append, List.nil_append, if_true]
    exact fin cf0 sx_rf ci ri
  · have ri1 := RI_CF cf ri
    have hL1 := ci1.1.2.2.2.2.2.1
    simp only [w_0_248, w_0_249, w_0_250, w_0_251, w_0_252, w_0_253, w_0_254, i1, i2, k1, k2, nI_add, ly_25 hL1, Option.toList, List.cons_append, List.nil_append, e1]
    refine r_aim_pl ri1 b1 (fun h2 s2 ri2 => ?_)
    simp only [w_0_257, Option.toList, List.cons_append, List.nil_append, if_true]
    exact fin cf s2 ci1 ri2
  · have ri1 := RI_CF cf ri
    have hL1 := ci1.1.2.2.2.2.2.1
    simp only [w_0_248, w_0_249, w_0_250, w_0_251, w_0_252, w_0_253, w_0_254, i1, i2, k1, k2, nI_add, ly_25 hL1, Option.toList, List.cons_append, List.nil_append, e1]
    refine r_aim_flt (d := d + 95) ri1 hp (fun h2 s2 ri2 => ?_)
    simp only [w_0_257, Option.toList, List.cons_append, List.nil_append, if_true]
    exact fin cf s2 ci1 ri2
  · have ri1 := RI_CF cf ri
    have hL1 := ci1.1.2.2.2.2.2.1
    simp only [w_0_248, w_0_249, w_0_250, w_0_251, w_0_252, w_0_253, w_0_254, i1, i2, k1, k2, nI_add, ly_25 hL1, Option.toList, List.cons_append, List.nil_append, e1]
    refine r_aim_ok (d := d + 95) ri1 hp (fun h2 s2 ri2 => ?_)
    simp only [w_0_257, Option.toList, List.cons_append, List.nil_append, if_true]
    exact fin cf s2 ci1 ri2
theorem law_6 {j n k e : Nat} {lk : Nat → Nat} {rn : Nat} {G : Nat → GD} {sm : SM} {ak : Nat} {GA : GD} {sc s : Nat} {stp mov : Int32} {ty : Nat} {tx : Nat → Nat} (hj : 3 * j + 3 ≤ L) (hL' : L ≤ 1536) (ci : CI h n k e lk rn G sm ak GA sc s stp mov ty tx) (ri : RI h n k e lk rn G sm ak GA sc s stp mov ty tx) (fin : ∀ {h1 h2 : MH} {n k e : Nat} {lk : Nat → Nat} {rn : Nat} {G : Nat → GD} {sm : SM} {ak : Nat} {GA : GD} {sc s : Nat} {stp mov : Int32} {ty : Nat} {tx : Nat → Nat}, CF h h1 → mj_sx rfS h1 h2 → CI h1 n k e lk rn G sm ak GA sc s stp mov ty tx → RI h2 n k e lk rn G sm ak GA sc s stp mov ty tx → mj_Wp L xs (d + 100 + 1) 0 521 [some (.retAddr 0), some (.ref 0), some (.ref 25), some (.int (nI (3 * j)))] [] h2 Q) : mj_Wp L xs (d + 100 + 1) 0 262 [some (.retAddr 0), some (.ref 0), some (.ref 25), some (.int (nI (3 * j)))] [] h Q := by
  have hL := ci.1.2.2.2.2.2.1
  have cf0 : CF h h := CF_sx hL (sx_rf (S := [])) (by simp)
  have i1 : mj_in (nI (3 * j + 1)) L = true := mj_in_nI (by omega) (by omega)
  have i2 : (nI (3 * j + 1)).toNatClampNeg = 3 * j + 1 := nI_clamp (by omega)
  have k1 : mj_in (nI (3 * j + 2)) L = true := mj_in_nI (by omega) (by omega)
  have k2 : (nI (3 * j + 2)).toNatClampNeg = 3 * j + 2 := nI_clamp (by omega)
  simp only [w_0_262, w_0_263, w_0_264, w_0_265, w_0_266, w_0_267, w_0_268, i1, i2, k1, k2, nI_add, ly_0 hL, Option.toList, List.cons_append, List.nil_append]
  refine c_scheduler (d := d + 99) ci (fun hb => ?_) (fun j' h1 e1 b1 cf ci1 => ?_)
  · simp only [w_0_271, w_0_272, w_0_273, w_0_274, w_0_275, w_0_276, w_0_277, i1, i2, k1, k2, nI_add, ly_25 hL, Option.toList, List.cons_append, List.nil_append]
    rw [r_scheduler_bad hb]
    simp only [w_0_280, Option.toList, List.cons_append, List.nil_append, if_true]
    exact fin cf0 sx_rf ci ri
  · have ri1 := RI_CF cf ri
    have hL1 := ci1.1.2.2.2.2.2.1
    simp only [w_0_271, w_0_272, w_0_273, w_0_274, w_0_275, w_0_276, w_0_277, i1, i2, k1, k2, nI_add, ly_25 hL1, Option.toList, List.cons_append, List.nil_append, e1]
    refine r_scheduler_ok ri1 b1 (fun h2 s2 ri2 => ?_)
    simp only [w_0_280, Option.toList, List.cons_append, List.nil_append, if_true]
    exact fin cf s2 ci1 ri2
theorem law_7 {j n k e : Nat} {lk : Nat → Nat} {rn : Nat} {G : Nat → GD} {sm : SM} {ak : Nat} {GA : GD} {sc s : Nat} {stp mov : Int32} {ty : Nat} {tx : Nat → Nat} (hj : 3 * j + 3 ≤ L) (hL' : L ≤ 1536) (ci : CI h n k e lk rn G sm ak GA sc s stp mov ty tx) (ri : RI h n k e lk rn G sm ak GA sc s stp mov ty tx) (fin : ∀ {h1 h2 : MH} {n k e : Nat} {lk : Nat → Nat} {rn : Nat} {G : Nat → GD} {sm : SM} {ak : Nat} {GA : GD} {sc s : Nat} {stp mov : Int32} {ty : Nat} {tx : Nat → Nat}, CF h h1 → mj_sx rfS h1 h2 → CI h1 n k e lk rn G sm ak GA sc s stp mov ty tx → RI h2 n k e lk rn G sm ak GA sc s stp mov ty tx → mj_Wp L xs (d + 100 + 1) 0 521 [some (.retAddr 0), some (.ref 0), some (.ref 25), some (.int (nI (3 * j)))] [] h2 Q) : mj_Wp L xs (d + 100 + 1) 0 285 [some (.retAddr 0), some (.ref 0), some (.ref 25), some (.int (nI (3 * j)))] [] h Q := by
  have hL := ci.1.2.2.2.2.2.1
  have cf0 : CF h h := CF_sx hL (sx_rf (S := [])) (by simp)
  have i1 : mj_in (nI (3 * j + 1)) L = true := mj_in_nI (by omega) (by omega)
  have i2 : (nI (3 * j + 1)).toNatClampNeg = 3 * j + 1 := nI_clamp (by omega)
  have k1 : mj_in (nI (3 * j + 2)) L = true := mj_in_nI (by omega) (by omega)
  have k2 : (nI (3 * j + 2)).toNatClampNeg = 3 * j + 2 := nI_clamp (by omega)
  simp only [w_0_285, w_0_286, w_0_287, w_0_288, w_0_289, w_0_290, w_0_291, w_0_292, w_0_293, w_0_294, w_0_295, w_0_296, i1, i2, k1, k2, nI_add, ly_0 hL, Option.toList, List.cons_append, List.nil_append]
  refine c_set (d := d + 99) ci (fun hb => ?_) (fun p q h1 e1 e2 b1 b2 cf ci1 => ?_)
  · simp only [w_0_299, w_0_300, w_0_301, w_0_302, w_0_303, w_0_304, w_0_305, w_0_306, w_0_307, w_0_308, w_0_309, w_0_310, i1, i2, k1, k2, nI_add, ly_25 hL, Option.toList, List.cons_append, List.nil_append]
    rw [r_set_bad (d := d + 99) ri hb]
    simp only [w_0_313, Option.toList, List.cons_append, List.nil_append, if_true]
    exact fin cf0 sx_rf ci ri
  · have ri1 := RI_CF cf ri
    have hL1 := ci1.1.2.2.2.2.2.1
    simp only [w_0_299, w_0_300, w_0_301, w_0_302, w_0_303, w_0_304, w_0_305, w_0_306, w_0_307, w_0_308, w_0_309, w_0_310, i1, i2, k1, k2, nI_add, ly_25 hL1, Option.toList, List.cons_append, List.nil_append, e1, e2]
    refine r_set_ok (d := d + 99) ri1 b1 b2 (fun h2 s2 ri2 => ?_)
    simp only [w_0_313, Option.toList, List.cons_append, List.nil_append, if_true]
    exact fin cf s2 ci1 ri2
theorem law_8 {j n k e : Nat} {lk : Nat → Nat} {rn : Nat} {G : Nat → GD} {sm : SM} {ak : Nat} {GA : GD} {sc s : Nat} {stp mov : Int32} {ty : Nat} {tx : Nat → Nat} (hj : 3 * j + 3 ≤ L) (hL' : L ≤ 1536) (ci : CI h n k e lk rn G sm ak GA sc s stp mov ty tx) (ri : RI h n k e lk rn G sm ak GA sc s stp mov ty tx) (fin : ∀ {h1 h2 : MH} {n k e : Nat} {lk : Nat → Nat} {rn : Nat} {G : Nat → GD} {sm : SM} {ak : Nat} {GA : GD} {sc s : Nat} {stp mov : Int32} {ty : Nat} {tx : Nat → Nat}, CF h h1 → mj_sx rfS h1 h2 → CI h1 n k e lk rn G sm ak GA sc s stp mov ty tx → RI h2 n k e lk rn G sm ak GA sc s stp mov ty tx → mj_Wp L xs (d + 100 + 1) 0 521 [some (.retAddr 0), some (.ref 0), some (.ref 25), some (.int (nI (3 * j)))] [] h2 Q) : mj_Wp L xs (d + 100 + 1) 0 318 [some (.retAddr 0), some (.ref 0), some (.ref 25), some (.int (nI (3 * j)))] [] h Q := by
  have hL := ci.1.2.2.2.2.2.1
  have cf0 : CF h h := CF_sx hL (sx_rf (S := [])) (by simp)
  have i1 : mj_in (nI (3 * j + 1)) L = true := mj_in_nI (by omega) (by omega)
  have i2 : (nI (3 * j + 1)).toNatClampNeg = 3 * j + 1 := nI_clamp (by omega)
  have k1 : mj_in (nI (3 * j + 2)) L = true := mj_in_nI (by omega) (by omega)
  have k2 : (nI (3 * j + 2)).toNatClampNeg = 3 * j + 2 := nI_clamp (by omega)
  simp only [w_0_318, w_0_319, w_0_320, w_0_321, w_0_322, w_0_323, w_0_324, i1, i2, k1, k2, nI_add, ly_0 hL, Option.toList, List.cons_append, List.nil_append]
  refine c_value (d := d + 99) ci (fun hb => ?_) (fun p e1 b1 => ?_)
  · simp only [w_0_327, w_0_328, w_0_329, w_0_330, w_0_331, w_0_332, w_0_333, i1, i2, k1, k2, nI_add, ly_25 hL, Option.toList, List.cons_append, List.nil_append]
    rw [r_value_bad (d := d + 99) ri hb]
    simp only [w_0_336, Option.toList, List.cons_append, List.nil_append, if_true]
    exact fin cf0 sx_rf ci ri
  · simp only [w_0_327, w_0_328, w_0_329, w_0_330, w_0_331, w_0_332, w_0_333, i1, i2, k1, k2, nI_add, ly_25 hL, Option.toList, List.cons_append, List.nil_append, e1]
    rw [r_value_ok (d := d + 99) ri b1]
    simp only [w_0_336, Option.toList, List.cons_append, List.nil_append, if_true]
    exact fin cf0 sx_rf ci ri
theorem law_9 {j n k e : Nat} {lk : Nat → Nat} {rn : Nat} {G : Nat → GD} {sm : SM} {ak : Nat} {GA : GD} {sc s : Nat} {stp mov : Int32} {ty : Nat} {tx : Nat → Nat} (hj : 3 * j + 3 ≤ L) (hL' : L ≤ 1536) (ci : CI h n k e lk rn G sm ak GA sc s stp mov ty tx) (ri : RI h n k e lk rn G sm ak GA sc s stp mov ty tx) (fin : ∀ {h1 h2 : MH} {n k e : Nat} {lk : Nat → Nat} {rn : Nat} {G : Nat → GD} {sm : SM} {ak : Nat} {GA : GD} {sc s : Nat} {stp mov : Int32} {ty : Nat} {tx : Nat → Nat}, CF h h1 → mj_sx rfS h1 h2 → CI h1 n k e lk rn G sm ak GA sc s stp mov ty tx → RI h2 n k e lk rn G sm ak GA sc s stp mov ty tx → mj_Wp L xs (d + 100 + 1) 0 521 [some (.retAddr 0), some (.ref 0), some (.ref 25), some (.int (nI (3 * j)))] [] h2 Q) : mj_Wp L xs (d + 100 + 1) 0 341 [some (.retAddr 0), some (.ref 0), some (.ref 25), some (.int (nI (3 * j)))] [] h Q := by
  have hL := ci.1.2.2.2.2.2.1
  have cf0 : CF h h := CF_sx hL (sx_rf (S := [])) (by simp)
  have i1 : mj_in (nI (3 * j + 1)) L = true := mj_in_nI (by omega) (by omega)
  have i2 : (nI (3 * j + 1)).toNatClampNeg = 3 * j + 1 := nI_clamp (by omega)
  have k1 : mj_in (nI (3 * j + 2)) L = true := mj_in_nI (by omega) (by omega)
  have k2 : (nI (3 * j + 2)).toNatClampNeg = 3 * j + 2 := nI_clamp (by omega)
  simp only [w_0_341, w_0_342, w_0_343, w_0_344, w_0_345, w_0_346, w_0_347, i1, i2, k1, k2, nI_add, ly_0 hL, Option.toList, List.cons_append, List.nil_append]
  refine c_enabled (d := d + 37) ci (fun hb => ?_) (fun p h1 e1 b1 cf ci1 => ?_)
  · simp only [w_0_350, w_0_351, w_0_352, w_0_353, w_0_354, w_0_355, w_0_356, i1, i2, k1, k2, nI_add, ly_25 hL, Option.toList, List.cons_append, List.nil_append]
    rw [r_enabled_bad (d := d + 99) ri hb]
    simp only [w_0_359, Option.toList, List.cons_append, List.nil_append, if_true]
    exact fin cf0 sx_rf ci ri
  · have ri1 := RI_CF cf ri
    have hL1 := ci1.1.2.2.2.2.2.1
    simp only [w_0_350, w_0_351, w_0_352, w_0_353, w_0_354, w_0_355, w_0_356, i1, i2, k1, k2, nI_add, ly_25 hL1, Option.toList, List.cons_append, List.nil_append, e1]
    refine r_enabled_ok (d := d + 94) ri1 b1 (fun h2 s2 ri2 => ?_)
    simp only [w_0_359, Option.toList, List.cons_append, List.nil_append, if_true]
    exact fin cf s2 ci1 ri2
theorem law_10 {j n k e : Nat} {lk : Nat → Nat} {rn : Nat} {G : Nat → GD} {sm : SM} {ak : Nat} {GA : GD} {sc s : Nat} {stp mov : Int32} {ty : Nat} {tx : Nat → Nat} (hj : 3 * j + 3 ≤ L) (hL' : L ≤ 1536) (ci : CI h n k e lk rn G sm ak GA sc s stp mov ty tx) (ri : RI h n k e lk rn G sm ak GA sc s stp mov ty tx) (fin : ∀ {h1 h2 : MH} {n k e : Nat} {lk : Nat → Nat} {rn : Nat} {G : Nat → GD} {sm : SM} {ak : Nat} {GA : GD} {sc s : Nat} {stp mov : Int32} {ty : Nat} {tx : Nat → Nat}, CF h h1 → mj_sx rfS h1 h2 → CI h1 n k e lk rn G sm ak GA sc s stp mov ty tx → RI h2 n k e lk rn G sm ak GA sc s stp mov ty tx → mj_Wp L xs (d + 100 + 1) 0 521 [some (.retAddr 0), some (.ref 0), some (.ref 25), some (.int (nI (3 * j)))] [] h2 Q) : mj_Wp L xs (d + 100 + 1) 0 364 [some (.retAddr 0), some (.ref 0), some (.ref 25), some (.int (nI (3 * j)))] [] h Q := by
  have hL := ci.1.2.2.2.2.2.1
  have cf0 : CF h h := CF_sx hL (sx_rf (S := [])) (by simp)
  have i1 : mj_in (nI (3 * j + 1)) L = true := mj_in_nI (by omega) (by omega)
  have i2 : (nI (3 * j + 1)).toNatClampNeg = 3 * j + 1 := nI_clamp (by omega)
  have k1 : mj_in (nI (3 * j + 2)) L = true := mj_in_nI (by omega) (by omega)
  have k2 : (nI (3 * j + 2)).toNatClampNeg = 3 * j + 2 := nI_clamp (by omega)
  simp only [w_0_364, w_0_365, w_0_366, w_0_367, w_0_368, w_0_369, w_0_370, i1, i2, k1, k2, nI_add, ly_0 hL, Option.toList, List.cons_append, List.nil_append]
  refine c_fire (d := d + 35) ci (fun h1 hb cf ci1 => ?_) (fun c' h1 e1 b1 b2 cf ci1 => ?_)
  · have ri1 := RI_CF cf ri
    have hL1 := ci1.1.2.2.2.2.2.1
    simp only [w_0_373, w_0_374, w_0_375, w_0_376, w_0_377, w_0_378, w_0_379, i1, i2, k1, k2, nI_add, ly_25 hL1, Option.toList, List.cons_append, List.nil_append]
    refine r_fire_bad (d := d + 92) ri1 hb (fun h2 s2 ri2 => ?_)
    simp only [w_0_382, Option.toList, List.cons_append, List.nil_append, if_true]
    exact fin cf s2 ci1 ri2
  · have ri1 := RI_CF cf ri
    have hL1 := ci1.1.2.2.2.2.2.1
    simp only [w_0_373, w_0_374, w_0_375, w_0_376, w_0_377, w_0_378, w_0_379, i1, i2, k1, k2, nI_add, ly_25 hL1, Option.toList, List.cons_append, List.nil_append, e1]
    refine r_fire_ok (d := d + 92) ri1 b1 b2 (fun h2 s2 ri2 => ?_)
    simp only [w_0_382, Option.toList, List.cons_append, List.nil_append, if_true]
    exact fin cf s2 ci1 ri2
theorem law_11 {j n k e : Nat} {lk : Nat → Nat} {rn : Nat} {G : Nat → GD} {sm : SM} {ak : Nat} {GA : GD} {sc s : Nat} {stp mov : Int32} {ty : Nat} {tx : Nat → Nat} (hj : 3 * j + 3 ≤ L) (hL' : L ≤ 1536) (ci : CI h n k e lk rn G sm ak GA sc s stp mov ty tx) (ri : RI h n k e lk rn G sm ak GA sc s stp mov ty tx) (fin : ∀ {h1 h2 : MH} {n k e : Nat} {lk : Nat → Nat} {rn : Nat} {G : Nat → GD} {sm : SM} {ak : Nat} {GA : GD} {sc s : Nat} {stp mov : Int32} {ty : Nat} {tx : Nat → Nat}, CF h h1 → mj_sx rfS h1 h2 → CI h1 n k e lk rn G sm ak GA sc s stp mov ty tx → RI h2 n k e lk rn G sm ak GA sc s stp mov ty tx → mj_Wp L xs (d + 100 + 1) 0 521 [some (.retAddr 0), some (.ref 0), some (.ref 25), some (.int (nI (3 * j)))] [] h2 Q) : mj_Wp L xs (d + 100 + 1) 0 387 [some (.retAddr 0), some (.ref 0), some (.ref 25), some (.int (nI (3 * j)))] [] h Q := by
  have hL := ci.1.2.2.2.2.2.1
  have cf0 : CF h h := CF_sx hL (sx_rf (S := [])) (by simp)
  have i1 : mj_in (nI (3 * j + 1)) L = true := mj_in_nI (by omega) (by omega)
  have i2 : (nI (3 * j + 1)).toNatClampNeg = 3 * j + 1 := nI_clamp (by omega)
  have k1 : mj_in (nI (3 * j + 2)) L = true := mj_in_nI (by omega) (by omega)
  have k2 : (nI (3 * j + 2)).toNatClampNeg = 3 * j + 2 := nI_clamp (by omega)
  simp only [w_0_387, w_0_388, i1, i2, k1, k2, nI_add, ly_0 hL, Option.toList, List.cons_append, List.nil_append]
  refine c_good (d := d + 35) ci (fun h1 cf ci1 => ?_)
  · have ri1 := RI_CF cf ri
    have hL1 := ci1.1.2.2.2.2.2.1
    simp only [w_0_391, w_0_392, i1, i2, k1, k2, nI_add, ly_25 hL1, Option.toList, List.cons_append, List.nil_append]
    refine r_good (d := d + 92) ri1 (fun h2 s2 ri2 => ?_)
    simp only [w_0_395, Option.toList, List.cons_append, List.nil_append, if_true]
    exact fin cf s2 ci1 ri2
theorem law_12 {j n k e : Nat} {lk : Nat → Nat} {rn : Nat} {G : Nat → GD} {sm : SM} {ak : Nat} {GA : GD} {sc s : Nat} {stp mov : Int32} {ty : Nat} {tx : Nat → Nat} (hj : 3 * j + 3 ≤ L) (hL' : L ≤ 1536) (ci : CI h n k e lk rn G sm ak GA sc s stp mov ty tx) (ri : RI h n k e lk rn G sm ak GA sc s stp mov ty tx) (fin : ∀ {h1 h2 : MH} {n k e : Nat} {lk : Nat → Nat} {rn : Nat} {G : Nat → GD} {sm : SM} {ak : Nat} {GA : GD} {sc s : Nat} {stp mov : Int32} {ty : Nat} {tx : Nat → Nat}, CF h h1 → mj_sx rfS h1 h2 → CI h1 n k e lk rn G sm ak GA sc s stp mov ty tx → RI h2 n k e lk rn G sm ak GA sc s stp mov ty tx → mj_Wp L xs (d + 100 + 1) 0 521 [some (.retAddr 0), some (.ref 0), some (.ref 25), some (.int (nI (3 * j)))] [] h2 Q) : mj_Wp L xs (d + 100 + 1) 0 400 [some (.retAddr 0), some (.ref 0), some (.ref 25), some (.int (nI (3 * j)))] [] h Q := by
  have hL := ci.1.2.2.2.2.2.1
  have cf0 : CF h h := CF_sx hL (sx_rf (S := [])) (by simp)
  have i1 : mj_in (nI (3 * j + 1)) L = true := mj_in_nI (by omega) (by omega)
  have i2 : (nI (3 * j + 1)).toNatClampNeg = 3 * j + 1 := nI_clamp (by omega)
  have k1 : mj_in (nI (3 * j + 2)) L = true := mj_in_nI (by omega) (by omega)
  have k2 : (nI (3 * j + 2)).toNatClampNeg = 3 * j + 2 := nI_clamp (by omega)
  simp only [w_0_400, w_0_401, i1, i2, k1, k2, nI_add, ly_0 hL, Option.toList, List.cons_append, List.nil_append]
  rw [c_state ci]
  simp only [w_0_404, w_0_405, i1, i2, k1, k2, nI_add, ly_25 hL, Option.toList, List.cons_append, List.nil_append]
  rw [r_state ri]
  simp only [w_0_408, Option.toList, List.cons_append, List.nil_append, if_true]
  exact fin cf0 sx_rf ci ri
theorem law_13 {j n k e : Nat} {lk : Nat → Nat} {rn : Nat} {G : Nat → GD} {sm : SM} {ak : Nat} {GA : GD} {sc s : Nat} {stp mov : Int32} {ty : Nat} {tx : Nat → Nat} (hj : 3 * j + 3 ≤ L) (hL' : L ≤ 1536) (ci : CI h n k e lk rn G sm ak GA sc s stp mov ty tx) (ri : RI h n k e lk rn G sm ak GA sc s stp mov ty tx) (fin : ∀ {h1 h2 : MH} {n k e : Nat} {lk : Nat → Nat} {rn : Nat} {G : Nat → GD} {sm : SM} {ak : Nat} {GA : GD} {sc s : Nat} {stp mov : Int32} {ty : Nat} {tx : Nat → Nat}, CF h h1 → mj_sx rfS h1 h2 → CI h1 n k e lk rn G sm ak GA sc s stp mov ty tx → RI h2 n k e lk rn G sm ak GA sc s stp mov ty tx → mj_Wp L xs (d + 100 + 1) 0 521 [some (.retAddr 0), some (.ref 0), some (.ref 25), some (.int (nI (3 * j)))] [] h2 Q) : mj_Wp L xs (d + 100 + 1) 0 413 [some (.retAddr 0), some (.ref 0), some (.ref 25), some (.int (nI (3 * j)))] [] h Q := by
  have hL := ci.1.2.2.2.2.2.1
  have cf0 : CF h h := CF_sx hL (sx_rf (S := [])) (by simp)
  have i1 : mj_in (nI (3 * j + 1)) L = true := mj_in_nI (by omega) (by omega)
  have i2 : (nI (3 * j + 1)).toNatClampNeg = 3 * j + 1 := nI_clamp (by omega)
  have k1 : mj_in (nI (3 * j + 2)) L = true := mj_in_nI (by omega) (by omega)
  have k2 : (nI (3 * j + 2)).toNatClampNeg = 3 * j + 2 := nI_clamp (by omega)
  simp only [w_0_413, w_0_414, w_0_415, w_0_416, w_0_417, w_0_418, w_0_419, i1, i2, k1, k2, nI_add, ly_0 hL, Option.toList, List.cons_append, List.nil_append]
  rw [c_count ci]
  simp only [w_0_422, w_0_423, w_0_424, w_0_425, w_0_426, w_0_427, w_0_428, i1, i2, k1, k2, nI_add, ly_25 hL, Option.toList, List.cons_append, List.nil_append]
  rw [r_count ri]
  simp only [w_0_431, Option.toList, List.cons_append, List.nil_append, if_true]
  exact fin cf0 sx_rf ci ri
theorem law_14 {j n k e : Nat} {lk : Nat → Nat} {rn : Nat} {G : Nat → GD} {sm : SM} {ak : Nat} {GA : GD} {sc s : Nat} {stp mov : Int32} {ty : Nat} {tx : Nat → Nat} (hj : 3 * j + 3 ≤ L) (hL' : L ≤ 1536) (ci : CI h n k e lk rn G sm ak GA sc s stp mov ty tx) (ri : RI h n k e lk rn G sm ak GA sc s stp mov ty tx) (fin : ∀ {h1 h2 : MH} {n k e : Nat} {lk : Nat → Nat} {rn : Nat} {G : Nat → GD} {sm : SM} {ak : Nat} {GA : GD} {sc s : Nat} {stp mov : Int32} {ty : Nat} {tx : Nat → Nat}, CF h h1 → mj_sx rfS h1 h2 → CI h1 n k e lk rn G sm ak GA sc s stp mov ty tx → RI h2 n k e lk rn G sm ak GA sc s stp mov ty tx → mj_Wp L xs (d + 100 + 1) 0 521 [some (.retAddr 0), some (.ref 0), some (.ref 25), some (.int (nI (3 * j)))] [] h2 Q) : mj_Wp L xs (d + 100 + 1) 0 436 [some (.retAddr 0), some (.ref 0), some (.ref 25), some (.int (nI (3 * j)))] [] h Q := by
  have hL := ci.1.2.2.2.2.2.1
  have cf0 : CF h h := CF_sx hL (sx_rf (S := [])) (by simp)
  have i1 : mj_in (nI (3 * j + 1)) L = true := mj_in_nI (by omega) (by omega)
  have i2 : (nI (3 * j + 1)).toNatClampNeg = 3 * j + 1 := nI_clamp (by omega)
  have k1 : mj_in (nI (3 * j + 2)) L = true := mj_in_nI (by omega) (by omega)
  have k2 : (nI (3 * j + 2)).toNatClampNeg = 3 * j + 2 := nI_clamp (by omega)
  simp only [w_0_436, w_0_437, i1, i2, k1, k2, nI_add, ly_0 hL, Option.toList, List.cons_append, List.nil_append]
  refine c_search (d := d + 34) ci (fun h1 vd rl run D cf ci1 sr => ?_)
  · have ri1 := RI_CF cf ri
    have hL1 := ci1.1.2.2.2.2.2.1
    simp only [w_0_440, w_0_441, i1, i2, k1, k2, nI_add, ly_25 hL1, Option.toList, List.cons_append, List.nil_append]
    refine r_search (d := d + 92) ri1 (fun h2 vd' rl' run' D' s2 ri2 sr' => ?_)
    obtain ⟨u1, u2, u3, u4⟩ := SR_uniq (afS_lt ri.1 ri.2.2.2.1.1) sr sr'
    rw [u1]
    simp only [w_0_444, Option.toList, List.cons_append, List.nil_append, if_true]
    exact fin cf s2 ci1 ri2
theorem law_15 {j n k e : Nat} {lk : Nat → Nat} {rn : Nat} {G : Nat → GD} {sm : SM} {ak : Nat} {GA : GD} {sc s : Nat} {stp mov : Int32} {ty : Nat} {tx : Nat → Nat} (hj : 3 * j + 3 ≤ L) (hL' : L ≤ 1536) (ci : CI h n k e lk rn G sm ak GA sc s stp mov ty tx) (ri : RI h n k e lk rn G sm ak GA sc s stp mov ty tx) (fin : ∀ {h1 h2 : MH} {n k e : Nat} {lk : Nat → Nat} {rn : Nat} {G : Nat → GD} {sm : SM} {ak : Nat} {GA : GD} {sc s : Nat} {stp mov : Int32} {ty : Nat} {tx : Nat → Nat}, CF h h1 → mj_sx rfS h1 h2 → CI h1 n k e lk rn G sm ak GA sc s stp mov ty tx → RI h2 n k e lk rn G sm ak GA sc s stp mov ty tx → mj_Wp L xs (d + 100 + 1) 0 521 [some (.retAddr 0), some (.ref 0), some (.ref 25), some (.int (nI (3 * j)))] [] h2 Q) : mj_Wp L xs (d + 100 + 1) 0 449 [some (.retAddr 0), some (.ref 0), some (.ref 25), some (.int (nI (3 * j)))] [] h Q := by
  have hL := ci.1.2.2.2.2.2.1
  have cf0 : CF h h := CF_sx hL (sx_rf (S := [])) (by simp)
  have i1 : mj_in (nI (3 * j + 1)) L = true := mj_in_nI (by omega) (by omega)
  have i2 : (nI (3 * j + 1)).toNatClampNeg = 3 * j + 1 := nI_clamp (by omega)
  have k1 : mj_in (nI (3 * j + 2)) L = true := mj_in_nI (by omega) (by omega)
  have k2 : (nI (3 * j + 2)).toNatClampNeg = 3 * j + 2 := nI_clamp (by omega)
  simp only [w_0_449, w_0_450, i1, i2, k1, k2, nI_add, ly_0 hL, Option.toList, List.cons_append, List.nil_append]
  refine c_worst (d := d + 34) ci (fun h1 vd rl run D cf ci1 sr => ?_)
  · have ri1 := RI_CF cf ri
    have hL1 := ci1.1.2.2.2.2.2.1
    simp only [w_0_453, w_0_454, i1, i2, k1, k2, nI_add, ly_25 hL1, Option.toList, List.cons_append, List.nil_append]
    refine r_worst (d := d + 92) ri1 (fun h2 vd' rl' run' D' s2 ri2 sr' => ?_)
    obtain ⟨u1, u2, u3, u4⟩ := SR_uniq (afS_lt ri.1 ri.2.2.2.1.1) sr sr'
    have ew : (if vd = 0 then nI (mxN D (k ^ n)) else -1) = (if vd' = 0 then nI (mxN D' (k ^ n)) else -1) := by
      rw [← u1]
      split
      · next z => rw [mxN_cong _ (u4 z)]
      · rfl
    rw [ew]
    simp only [w_0_457, Option.toList, List.cons_append, List.nil_append, if_true]
    exact fin cf s2 ci1 ri2
theorem law_16 {j n k e : Nat} {lk : Nat → Nat} {rn : Nat} {G : Nat → GD} {sm : SM} {ak : Nat} {GA : GD} {sc s : Nat} {stp mov : Int32} {ty : Nat} {tx : Nat → Nat} (hj : 3 * j + 3 ≤ L) (hL' : L ≤ 1536) (ci : CI h n k e lk rn G sm ak GA sc s stp mov ty tx) (ri : RI h n k e lk rn G sm ak GA sc s stp mov ty tx) (fin : ∀ {h1 h2 : MH} {n k e : Nat} {lk : Nat → Nat} {rn : Nat} {G : Nat → GD} {sm : SM} {ak : Nat} {GA : GD} {sc s : Nat} {stp mov : Int32} {ty : Nat} {tx : Nat → Nat}, CF h h1 → mj_sx rfS h1 h2 → CI h1 n k e lk rn G sm ak GA sc s stp mov ty tx → RI h2 n k e lk rn G sm ak GA sc s stp mov ty tx → mj_Wp L xs (d + 100 + 1) 0 521 [some (.retAddr 0), some (.ref 0), some (.ref 25), some (.int (nI (3 * j)))] [] h2 Q) : mj_Wp L xs (d + 100 + 1) 0 462 [some (.retAddr 0), some (.ref 0), some (.ref 25), some (.int (nI (3 * j)))] [] h Q := by
  have hL := ci.1.2.2.2.2.2.1
  have cf0 : CF h h := CF_sx hL (sx_rf (S := [])) (by simp)
  have i1 : mj_in (nI (3 * j + 1)) L = true := mj_in_nI (by omega) (by omega)
  have i2 : (nI (3 * j + 1)).toNatClampNeg = 3 * j + 1 := nI_clamp (by omega)
  have k1 : mj_in (nI (3 * j + 2)) L = true := mj_in_nI (by omega) (by omega)
  have k2 : (nI (3 * j + 2)).toNatClampNeg = 3 * j + 2 := nI_clamp (by omega)
  simp only [w_0_462, w_0_463, w_0_464, w_0_465, w_0_466, w_0_467, w_0_468, i1, i2, k1, k2, nI_add, ly_0 hL, Option.toList, List.cons_append, List.nil_append]
  refine c_far (d := d + 34) ci (fun h1 vd rl run D cf ci1 sr => ?_)
  · have ri1 := RI_CF cf ri
    have hL1 := ci1.1.2.2.2.2.2.1
    simp only [w_0_471, w_0_472, w_0_473, w_0_474, w_0_475, w_0_476, w_0_477, i1, i2, k1, k2, nI_add, ly_25 hL1, Option.toList, List.cons_append, List.nil_append]
    refine r_far (d := d + 92) ri1 (fun h2 vd' rl' run' D' s2 ri2 sr' => ?_)
    obtain ⟨u1, u2, u3, u4⟩ := SR_uniq (afS_lt ri.1 ri.2.2.2.1.1) sr sr'
    have ew := far_eq (x := xs (3 * j + 1)) (RB_N ri.1) u4
    rw [← u1, ew]
    simp only [w_0_480, Option.toList, List.cons_append, List.nil_append, if_true]
    exact fin cf s2 ci1 ri2
theorem law_17 {j n k e : Nat} {lk : Nat → Nat} {rn : Nat} {G : Nat → GD} {sm : SM} {ak : Nat} {GA : GD} {sc s : Nat} {stp mov : Int32} {ty : Nat} {tx : Nat → Nat} (hj : 3 * j + 3 ≤ L) (hL' : L ≤ 1536) (ci : CI h n k e lk rn G sm ak GA sc s stp mov ty tx) (ri : RI h n k e lk rn G sm ak GA sc s stp mov ty tx) (fin : ∀ {h1 h2 : MH} {n k e : Nat} {lk : Nat → Nat} {rn : Nat} {G : Nat → GD} {sm : SM} {ak : Nat} {GA : GD} {sc s : Nat} {stp mov : Int32} {ty : Nat} {tx : Nat → Nat}, CF h h1 → mj_sx rfS h1 h2 → CI h1 n k e lk rn G sm ak GA sc s stp mov ty tx → RI h2 n k e lk rn G sm ak GA sc s stp mov ty tx → mj_Wp L xs (d + 100 + 1) 0 521 [some (.retAddr 0), some (.ref 0), some (.ref 25), some (.int (nI (3 * j)))] [] h2 Q) : mj_Wp L xs (d + 100 + 1) 0 485 [some (.retAddr 0), some (.ref 0), some (.ref 25), some (.int (nI (3 * j)))] [] h Q := by
  have hL := ci.1.2.2.2.2.2.1
  have cf0 : CF h h := CF_sx hL (sx_rf (S := [])) (by simp)
  have i1 : mj_in (nI (3 * j + 1)) L = true := mj_in_nI (by omega) (by omega)
  have i2 : (nI (3 * j + 1)).toNatClampNeg = 3 * j + 1 := nI_clamp (by omega)
  have k1 : mj_in (nI (3 * j + 2)) L = true := mj_in_nI (by omega) (by omega)
  have k2 : (nI (3 * j + 2)).toNatClampNeg = 3 * j + 2 := nI_clamp (by omega)
  simp only [w_0_485, w_0_486, w_0_487, w_0_488, w_0_489, w_0_490, w_0_491, i1, i2, k1, k2, nI_add, ly_0 hL, Option.toList, List.cons_append, List.nil_append]
  refine c_bad (d := d + 34) ci (fun h1 vd rl run D cf ci1 hr1 sr => ?_)
  · have ri1 := RI_CF cf ri
    have hL1 := ci1.1.2.2.2.2.2.1
    simp only [w_0_494, w_0_495, w_0_496, w_0_497, w_0_498, w_0_499, w_0_500, i1, i2, k1, k2, nI_add, ly_25 hL1, Option.toList, List.cons_append, List.nil_append]
    refine r_bad (d := d + 92) ri1 (fun h2 vd' rl' run' D' s2 ri2 hr2 sr' => ?_)
    obtain ⟨u1, u2, u3, u4⟩ := SR_uniq (afS_lt ri.1 ri.2.2.2.1.1) sr sr'
    have ew := bad_eq (x := xs (3 * j + 1)) hr1 u3
    rw [← u2, ew]
    simp only [w_0_503, Option.toList, List.cons_append, List.nil_append, if_true]
    exact fin cf s2 ci1 ri2
theorem law_18 {j n k e : Nat} {lk : Nat → Nat} {rn : Nat} {G : Nat → GD} {sm : SM} {ak : Nat} {GA : GD} {sc s : Nat} {stp mov : Int32} {ty : Nat} {tx : Nat → Nat} (hj : 3 * j + 3 ≤ L) (hL' : L ≤ 1536) (ci : CI h n k e lk rn G sm ak GA sc s stp mov ty tx) (ri : RI h n k e lk rn G sm ak GA sc s stp mov ty tx) (fin : ∀ {h1 h2 : MH} {n k e : Nat} {lk : Nat → Nat} {rn : Nat} {G : Nat → GD} {sm : SM} {ak : Nat} {GA : GD} {sc s : Nat} {stp mov : Int32} {ty : Nat} {tx : Nat → Nat}, CF h h1 → mj_sx rfS h1 h2 → CI h1 n k e lk rn G sm ak GA sc s stp mov ty tx → RI h2 n k e lk rn G sm ak GA sc s stp mov ty tx → mj_Wp L xs (d + 100 + 1) 0 521 [some (.retAddr 0), some (.ref 0), some (.ref 25), some (.int (nI (3 * j)))] [] h2 Q) : mj_Wp L xs (d + 100 + 1) 0 508 [some (.retAddr 0), some (.ref 0), some (.ref 25), some (.int (nI (3 * j)))] [] h Q := by
  have hL := ci.1.2.2.2.2.2.1
  have cf0 : CF h h := CF_sx hL (sx_rf (S := [])) (by simp)
  have i1 : mj_in (nI (3 * j + 1)) L = true := mj_in_nI (by omega) (by omega)
  have i2 : (nI (3 * j + 1)).toNatClampNeg = 3 * j + 1 := nI_clamp (by omega)
  have k1 : mj_in (nI (3 * j + 2)) L = true := mj_in_nI (by omega) (by omega)
  have k2 : (nI (3 * j + 2)).toNatClampNeg = 3 * j + 2 := nI_clamp (by omega)
  simp only [w_0_508, w_0_509, i1, i2, k1, k2, nI_add, ly_0 hL, Option.toList, List.cons_append, List.nil_append]
  refine c_goods (d := d + 34) ci (fun h1 cf ci1 => ?_)
  · have ri1 := RI_CF cf ri
    have hL1 := ci1.1.2.2.2.2.2.1
    simp only [w_0_512, w_0_513, i1, i2, k1, k2, nI_add, ly_25 hL1, Option.toList, List.cons_append, List.nil_append]
    refine r_goods (d := d + 92) ri1 (fun h2 s2 ri2 => ?_)
    simp only [w_0_516, Option.toList, List.cons_append, List.nil_append, if_true]
    exact fin cf s2 ci1 ri2
end LawK
