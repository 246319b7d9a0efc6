/-! The reference's other calls that read no text. -/
section RCalls2K
variable {L : Nat} {xs : Nat → Int32} {d : Nat} {Q : Option Value × MH → Prop} {h : MH} {n k e : Nat} {lk : Nat → Nat} {rn : Nat} {G : Nat → GD} {sm : SM} {ak : Nat} {GA : GD} {sc s : Nat} {stp mov : Int32} {ty : Nat} {tx : Nat → Nat}
/-- the tables do not care for the values, the counts and the text -/
theorem RK_sx {S : List Nat} {h' : MH} (q : mj_sx S h h') (hS : 40 ∉ S ∧ 41 ∉ S ∧ 42 ∉ S ∧ 44 ∉ S ∧ 45 ∉ S) (q1 : mj_i h' 25 31 = mj_i h 25 31) (q2 : mj_i h' 25 32 = mj_i h 25 32) (q3 : mj_i h' 25 38 = mj_i h 25 38) (a : RK h n k lk rn G sm ak GA sc) : RK h' n k lk rn G sm ak GA sc := by
  simp only [RK, KN, TR, q1, q2, q3, q.2.2.2.2 40 hS.1, q.2.2.2.2 41 hS.2.1, q.2.2.2.2 42 hS.2.2.1, q.2.2.2.2 44 hS.2.2.2.1, q.2.2.2.2 45 hS.2.2.2.2]
  exact a
theorem r_set_bad {x y : Int32} (a : RI h n k e lk rn G sm ak GA sc s stp mov ty tx) (hb : (x < nI 0 ∨ nI n ≤ x) ∨ (y < nI 0 ∨ nI k ≤ y)) : mj_Wp L xs (d + 1) 131 0 [some (.ref 25), some (.int x), some (.int y), none] [] h Q ↔ Q (some (.int (-1)), h) := by
  have n10 : ¬ nI 1 = nI 0 := by decide
  have hL := a.1.2.2.2.2.2.1
  simp only [w_131_0, w_131_1, w_131_2, w_131_5, w_131_8, w_131_9, w_131_12, w_131_13, w_131_14, w_131_17, w_131_20, w_131_21, ly_25 hL, r_isNode a.1, a.1.2.2.2.2.2.2.2.1, Option.toList, List.cons_append, List.nil_append]
  by_cases c1 : x < nI 0 ∨ nI n ≤ x
  · simp only [c1, if_true]
  · rcases hb with hb | hb
    · exact absurd hb c1
    · simp only [c1, n10, if_false]
      rcases hb with hb | hb
      · simp only [hb, if_true]
      · have c2 : ¬ y < nI k := Int32.not_lt.mpr hb
        by_cases c3 : y < nI 0
        · simp only [c3, if_true]
        · simp only [c2, c3, if_false]
theorem r_set_ok {p q : Nat} (a : RI h n k e lk rn G sm ak GA sc s stp mov ty tx) (hp : p < n) (hq : q < k) (hok : ∀ h', mj_sx rfS h h' → RI h' n k e lk rn G sm ak GA sc (stS n k s p q) (nI 0) (nI 0) ty tx → Q (some (.int (nI (dg n k s p))), h')) : mj_Wp L xs (d + 1) 131 0 [some (.ref 25), some (.int (nI p)), some (.int (nI q)), none] [] h Q := by
  have n10 : ¬ nI 1 = nI 0 := by decide
  obtain ⟨a1, a2, a3, a4, a5, a6, a7, a8, a9, a10⟩ := id a
  have hL := a1.2.2.2.2.2.1
  have b2 := a1.2.1
  have b3 := a1.2.2.1
  have b4 := a1.2.2.2.1
  have j1 : mj_in (nI p) 5 = true := mj_in_nI (by omega) (by omega)
  have j2 : (nI p).toNatClampNeg = p := nI_clamp (by omega)
  have e1 : ¬ nI q < nI 0 := by rw [nI_ltI (by omega) (by omega)]; omega
  have e2 : nI q < nI k := (nI_ltI (by omega) (by omega)).mpr hq
  simp only [w_131_0, w_131_1, w_131_2, w_131_5, w_131_8, w_131_9, w_131_12, w_131_13, w_131_14, w_131_17, w_131_20, w_131_21, w_131_22, w_131_23, w_131_26, w_131_27, w_131_28, w_131_29, w_131_30, w_131_33, w_131_34, w_131_35, w_131_36, w_131_37, w_131_38, w_131_41, w_131_42, w_131_43, w_131_46, w_131_47, ly_25 hL, lr_25_4 hL, lk_27 hL, ln_27 hL, mj_rv_some, r_isNode a1, not_nd b2 hp, a1.2.2.2.2.2.2.2.1, e1, e2, n10, if_true, if_false, Option.toList, List.cons_append, List.nil_append, j1, j2, a7 p hp, mj_is_wi]
  obtain ⟨h1, hh⟩ : ∃ h1, h1 = mj_wi (mj_wi (mj_wi h 27 p (nI q)) 25 5 (nI 0)) 25 6 (nI 0) := ⟨_, rfl⟩
  rw [← hh]
  have s1 : mj_sx [25, 27] h h1 := by rw [hh]; exact sx_tr (sx_tr (sx_wi (by decide)) (sx_wi (by decide))) (sx_wi (by decide))
  have q25 : ∀ j, j ≠ 5 → j ≠ 6 → mj_i h1 25 j = mj_i h 25 j := fun j j1 j2 => by rw [hh]; simp [mj_i_wi, j1, j2]
  refine hok h1 (sx_mono s1 (by decide)) ⟨RB_sx s1 (by decide) (fun j hj => q25 j (by omega) (by omega)) a1, RR_sx s1 (by decide) (q25 11 (by decide) (by decide)) a2, RA_sx s1 (by decide) (q25 8 (by decide) (by decide)) a3, ⟨a4.1, by rw [q25 7 (by decide) (by decide)]; exact a4.2⟩, RK_sx s1 (by decide) (q25 31 (by decide) (by decide)) (q25 32 (by decide) (by decide)) (q25 38 (by decide) (by decide)) a5, stS_lt (by omega) hq, fun j hj => ?_, ⟨by rw [q25 9 (by decide) (by decide)]; exact a8.1, a8.2.1, fun i hi => by rw [sx_i s1 (by decide)]; exact a8.2.2 i hi⟩, by rw [hh]; simp [mj_i_wi], by rw [hh]; simp [mj_i_wi]⟩
  rw [stS_dg (by omega) hq hj, hh, mj_i_ne (by decide), mj_i_ne (by decide), mj_i_wi]
  by_cases hjp : j = p
  · simp [hjp]
  · simp only [hjp, and_false, if_false]; exact a7 j hj
theorem r_fire_bad {x : Int32} (a : RI h n k e lk rn G sm ak GA sc s stp mov ty tx) (hx : alI sc (enS n k lk rn G s) x = false) (hok : ∀ h', mj_sx rfS h h' → RI h' n k e lk rn G sm ak GA sc s stp mov ty tx → Q (some (.int (-1)), h')) : mj_Wp L xs (d + 1 + 1 + 1 + 1 + 1 + 1 + 1 + 1) 134 0 [some (.ref 25), some (.int x), none, none] [] h Q := by
  have hL := a.1.2.2.2.2.2.1
  have hN := RB_N a.1
  simp only [w_134_0, w_134_1, ly_25 hL]
  refine r_findOut a (fun h1 s1 a1 kn => ?_)
  have hL1 := a1.1.2.2.2.2.2.1
  have hs := a1.2.2.2.2.2.1
  have j1 : mj_in (nI s) 1024 = true := mj_in_nI (by omega) (by omega)
  have j2 : (nI s).toNatClampNeg = s := nI_clamp (by omega)
  have h32 : enS n k lk rn G s < 32 := Nat.lt_of_lt_of_le (enN_lt n) (Nat.pow_le_pow_right (by decide) a.1.2.1 : 2 ^ n ≤ 2 ^ 5)
  simp only [w_134_4, w_134_5, w_134_8, w_134_9, w_134_10, w_134_11, w_134_12, w_134_15, w_134_16, w_134_17, w_134_20, w_134_23, w_134_24, ly_25 hL1, lr_25_33 hL1, lk_40 hL1, ln_40 hL1, mj_rv_some, r_state a1, j1, j2, (kn.1 s hs).1, r_isChoice hL1 a1.2.2.2.1.2 a1.2.2.2.1.1 h32, hx, bI_0, not_true_eq_false, if_false, Option.toList, List.cons_append, List.nil_append]
  exact hok h1 (sx_mono s1 (by decide)) a1
theorem r_fire_ok {c : Nat} (a : RI h n k e lk rn G sm ak GA sc s stp mov ty tx) (hc : c < 32) (ho : alB sc (enS n k lk rn G s) c = true) (hok : ∀ h', mj_sx rfS h h' → RI h' n k e lk rn G sm ak GA sc (afS n k lk rn G sm s c) (stp + nI 1) (mvF c mov n) ty tx → Q (some (.int (nI (afS n k lk rn G sm s c))), h')) : mj_Wp L xs (d + 1 + 1 + 1 + 1 + 1 + 1 + 1 + 1) 134 0 [some (.ref 25), some (.int (nI c)), none, none] [] h Q := by
  have n10 : ¬ nI 1 = nI 0 := by decide
  have hL := a.1.2.2.2.2.2.1
  have hN := RB_N a.1
  simp only [w_134_0, w_134_1, ly_25 hL]
  refine r_findOut a (fun h1 s1 a1 kn => ?_)
  have hL1 := a1.1.2.2.2.2.2.1
  have hs := a1.2.2.2.2.2.1
  have j1 : mj_in (nI s) 1024 = true := mj_in_nI (by omega) (by omega)
  have j2 : (nI s).toNatClampNeg = s := nI_clamp (by omega)
  have h32 : enS n k lk rn G s < 32 := Nat.lt_of_lt_of_le (enN_lt n) (Nat.pow_le_pow_right (by decide) a.1.2.1 : 2 ^ n ≤ 2 ^ 5)
  have rs := TR_RS a1.1 a1.2.2.2.1.1 a1.2.2.2.1.2 kn.1
  obtain ⟨u1, u2⟩ := rs.2.2.2.2 s hs c hc ho
  have hx : alI sc (enS n k lk rn G s) (nI c) = true := ho
  generalize afS n k lk rn G sm s c = t at u1 u2 hok
  simp only [w_134_4, w_134_5, w_134_8, w_134_9, w_134_10, w_134_11, w_134_12, w_134_15, w_134_16, w_134_17, w_134_20, w_134_23, w_134_24, w_134_25, w_134_26, w_134_27, w_134_28, w_134_29, w_134_32, ly_25 hL1, lr_25_33 hL1, lk_40 hL1, ln_40 hL1, mj_rv_some, r_state a1, j1, j2, (kn.1 s hs).1, r_isChoice hL1 a1.2.2.2.1.2 a1.2.2.2.1.1 h32, hx, bI_1, n10, not_false_eq_true, if_true, r_behind hL1 a1.1.2.2.2.2.2.2.1 a1.1.2.1 (show s < 1024 by omega) hc, u1, Option.toList, List.cons_append, List.nil_append]
  refine r_lookAt a1.1 (by omega) (fun h2 s2 l2 => ?_)
  have b2 : RB h2 n k e lk := RB_sx s2 (by decide) (fun j _ => sx_i s2 (by decide)) a1.1
  have hn5 := b2.2.1
  simp only [w_134_35, w_134_36, Option.toList, List.nil_append]
  have lp : ∀ (m x : Nat) (h3 : MH), x + m = n → mj_sx [25, 27] h2 h3 → (∀ j, j ≠ 6 → mj_i h3 25 j = mj_i h2 25 j) → mj_i h3 25 6 = mvF c mov x → (∀ j, j < x → mj_i h3 27 j = nI (dg n k t j)) → mj_Wp L xs (d + 1 + 1 + 1 + 1 + 1 + 1 + 1 + 1) 134 37 [some (.ref 25), some (.int (nI c)), some (.int (nI s)), some (.int (nI x))] [] h3 Q := by
    intro m
    induction m with
    | zero =>
      intro x h3 hx s3 f1 f2 f3
      have hx : x = n := by omega
      have b3 : RB h3 n k e lk := RB_sx s3 (by decide) (fun j hj => f1 j (by omega)) b2
      have hL3 := b3.2.2.2.2.2.1
      obtain ⟨h4, hh4⟩ : ∃ h4, h4 = mj_wi h3 25 5 (mj_i h3 25 5 + nI 1) := ⟨_, rfl⟩
      have s4 : mj_sx [25] h3 h4 := by rw [hh4]; exact sx_wi (by decide)
      have f4 : ∀ j, j ≠ 5 → mj_i h4 25 j = mj_i h3 25 j := fun j j1 => by rw [hh4]; simp [mj_i_wi, j1]
      have b4 : RB h4 n k e lk := RB_sx s4 (by decide) (fun j hj => f4 j (by omega)) b3
      have hL4 := b4.2.2.2.2.2.1
      have v4 : ∀ j, j < n → mj_i h4 27 j = nI (dg n k t j) := fun j hj => by rw [sx_i s4 (by decide)]; exact f3 j (by omega)
      rw [w_134_37]
      simp only [w_134_38, w_134_39, w_134_42, w_134_89, w_134_90, w_134_91, w_134_94, w_134_95, w_134_96, w_134_99, w_134_100, w_134_103, ly_25 hL3, b3.2.2.2.2.2.2.1, hx, nI_leI (show n < 2 ^ 31 by omega) (show n < 2 ^ 31 by omega), Nat.le_refl, if_true, ← hh4, ly_25 hL4, r_state0 b4 v4, hn_s u2, Option.toList, List.cons_append, List.nil_append]
      have sA : mj_sx rfS h h4 := sx_tr (sx_mono s1 (by decide)) (sx_tr (sx_mono s2 (by decide)) (sx_tr (sx_mono s3 (by decide)) (sx_mono s4 (by decide))))
      have sB : mj_sx [25, 27, 38] h1 h4 := sx_tr (sx_mono s2 (by decide)) (sx_tr (sx_mono s3 (by decide)) (sx_mono s4 (by decide)))
      have q25 : ∀ j, j ≠ 5 → j ≠ 6 → mj_i h4 25 j = mj_i h1 25 j := fun j j1 j2 => by rw [f4 j j1, f1 j j2, sx_i s2 (by decide)]
      obtain ⟨c1, c2, c3, c4, c5, c6, c7, c8, c9, c10⟩ := id a1
      refine hok h4 sA ⟨b4, RR_sx sB (by decide) (q25 11 (by decide) (by decide)) c2, RA_sx sB (by decide) (q25 8 (by decide) (by decide)) c3, ⟨c4.1, by rw [q25 7 (by decide) (by decide)]; exact c4.2⟩, RK_sx sB (by decide) (q25 31 (by decide) (by decide)) (q25 32 (by decide) (by decide)) (q25 38 (by decide) (by decide)) c5, u2, v4, ⟨by rw [q25 9 (by decide) (by decide)]; exact c8.1, c8.2.1, fun i hi => by rw [sx_i sB (by decide)]; exact c8.2.2 i hi⟩, ?_, ?_⟩
      · rw [hh4]; simp [mj_i_wi]; rw [f1 5 (by decide), sx_i s2 (by decide), c9]
      · rw [f4 6 (by decide), f2, hx]
    | succ m ih =>
      intro x h3 hx s3 f1 f2 f3
      have b3 : RB h3 n k e lk := RB_sx s3 (by decide) (fun j hj => f1 j (by omega)) b2
      have hL3 := b3.2.2.2.2.2.1
      have e0 : ¬ n ≤ x := by omega
      have i1 : mj_in (nI x) 5 = true := mj_in_nI (by omega) (by omega)
      have i2 : (nI x).toNatClampNeg = x := nI_clamp (by omega)
      have l3 : mj_i h3 38 x = nI (dg n k t x) := by rw [sx_i s3 (by decide)]; exact l2 x (by omega)
      obtain ⟨h4, hh4⟩ : ∃ h4, h4 = mj_wi h3 27 x (nI (dg n k t x)) := ⟨_, rfl⟩
      have s4 : mj_sx [27] h3 h4 := by rw [hh4]; exact sx_wi (by decide)
      have hL4 := sx_Lay s4 hL3
      have e6 : mj_i h4 25 6 = mvF c mov x := by rw [sx_i s4 (by decide)]; exact f2
      have go : ∀ v : Int32, v = mvF c mov (x + 1) → mj_Wp L xs (d + 1 + 1 + 1 + 1 + 1 + 1 + 1 + 1) 134 80 [some (.ref 25), some (.int (nI c)), some (.int (nI s)), some (.int (nI x))] [.int v, .ref 25] h4 Q := by
        intro v hv
        simp only [w_134_80, w_134_83, w_134_86, ly_25 hL4, nI_add]
        refine ih (x + 1) _ (by omega) (sx_tr s3 (sx_tr (sx_mono s4 (by decide)) (sx_wi (by decide)))) (fun j hj => ?_) (by simp [mj_i_wi, hv]) (fun j hj => ?_)
        · rw [mj_i_wi]; simp only [hj, and_false, if_false]; rw [sx_i s4 (by decide)]; exact f1 j hj
        · rw [mj_i_ne (by decide), hh4, mj_i_wi]
          by_cases hjx : j = x
          · simp [hjx]
          · simp only [hjx, and_false, if_false]; exact f3 j (by omega)
      rw [mvF] at go
      rw [w_134_37]
      simp only [w_134_38, w_134_39, w_134_42, w_134_45, w_134_46, w_134_49, w_134_50, w_134_51, w_134_54, w_134_55, w_134_56, w_134_57, w_134_58, w_134_59, w_134_60, w_134_61, w_134_62, w_134_63, w_134_64, w_134_67, w_134_68, w_134_71, w_134_72, w_134_73, w_134_76, w_134_77, ly_25 hL3, lr_25_4 hL3, lr_25_28 hL3, lk_27 hL3, ln_27 hL3, lk_38 hL3, ln_38 hL3, mj_rv_some, b3.2.2.2.2.2.2.1, nI_leI (show n < 2 ^ 31 by omega) (show x < 2 ^ 31 by omega), e0, if_false, i1, i2, l3, ← hh4, ly_25 hL4, e6, lb_I (show c < 2 ^ 31 by omega) (show x < 5 by omega)]
      by_cases hz : c / 2 ^ x % 2 = 0
      · rw [if_pos hz] at go
        simp only [hz, show ¬ nI 0 = nI 1 by decide, not_false_eq_true, if_true]
        exact go _ rfl
      · rw [if_neg hz] at go
        simp only [show c / 2 ^ x % 2 = 1 by omega, not_true_eq_false, if_false]
        exact go _ rfl
  refine lp n 0 h2 (by omega) sx_rf (fun _ _ => rfl) ?_ (fun j hj => by omega)
  rw [sx_i s2 (by decide), a1.2.2.2.2.2.2.2.2.2]
  rfl
theorem r_type_bad {x : Int32} (hx : x < nI 32 ∨ nI 126 < x) : mj_Wp L xs d 88 0 [some (.ref 25), some (.int x)] [] h Q ↔ Q (some (.int (-1)), h) := by
  simp only [w_88_0, w_88_1, w_88_3, w_88_6, w_88_7, w_88_9, w_88_12, w_88_13]
  by_cases c1 : x < nI 32
  · simp only [c1, if_true]
  · rcases hx with hx | hx
    · exact absurd hx c1
    · have c2 : ¬ x ≤ nI 126 := fun z => Int32.not_lt.mpr z hx
      simp only [c1, c2, if_false]
theorem r_type_full {x : Int32} (a : RI h n k e lk rn G sm ak GA sc s stp mov ty tx) (hx : ¬ (x < nI 32 ∨ nI 126 < x)) (hty : ty = 48) : mj_Wp L xs d 88 0 [some (.ref 25), some (.int x)] [] h Q ↔ Q (some (.int (-2)), h) := by
  have c1 : ¬ x < nI 32 := fun z => hx (Or.inl z)
  have c2 : x ≤ nI 126 := Int32.not_lt.mp (fun z => hx (Or.inr z))
  simp only [w_88_0, w_88_1, w_88_3, w_88_6, w_88_7, w_88_9, w_88_12, w_88_13, w_88_14, w_88_15, w_88_18, w_88_20, w_88_23, w_88_25, c1, c2, if_true, if_false, ly_25 a.1.2.2.2.2.2.1, a.2.2.2.2.2.2.2.1.1, hty, not_true_eq_false]
theorem r_type_ok {c : Nat} (a : RI h n k e lk rn G sm ak GA sc s stp mov ty tx) (hc1 : 32 ≤ c) (hc2 : c ≤ 126) (hty : ty < 48) (hok : ∀ h', mj_sx rfS h h' → RI h' n k e lk rn G sm ak GA sc s stp mov (ty + 1) (uN tx ty c) → Q (some (.int (nI (ty + 1))), h')) : mj_Wp L xs d 88 0 [some (.ref 25), some (.int (nI c))] [] h Q := by
  obtain ⟨a1, a2, a3, a4, a5, a6, a7, a8, a9, a10⟩ := id a
  have hL := a1.2.2.2.2.2.1
  have c1 : ¬ nI c < nI 32 := by rw [nI_ltI (by omega) (by omega)]; omega
  have c2 : nI c ≤ nI 126 := (nI_leI (by omega) (by omega)).mpr hc2
  have c3 : ¬ nI ty = nI 48 := by rw [nI_eq (by omega) (by omega)]; omega
  have j1 : mj_in (nI ty) 48 = true := mj_in_nI (by omega) (by omega)
  have j2 : (nI ty).toNatClampNeg = ty := nI_clamp (by omega)
  have e9 : mj_i (mj_wi h 28 ty (nI c)) 25 9 = nI ty := by rw [mj_i_ne (by decide)]; exact a8.1
  obtain ⟨h1, hh⟩ : ∃ h1, h1 = mj_wi (mj_wi h 28 ty (nI c)) 25 9 (nI (ty + 1)) := ⟨_, rfl⟩
  have e91 : mj_i h1 25 9 = nI (ty + 1) := by rw [hh]; simp [mj_i_wi]
  have s1 : mj_sx [25, 28] h h1 := by rw [hh]; exact sx_tr (sx_wi (by decide)) (sx_wi (by decide))
  simp only [w_88_0, w_88_1, w_88_3, w_88_6, w_88_7, w_88_9, w_88_12, w_88_13, w_88_14, w_88_15, w_88_18, w_88_20, w_88_23, w_88_25, w_88_26, w_88_27, w_88_30, w_88_31, w_88_34, w_88_35, w_88_36, w_88_37, w_88_38, w_88_41, w_88_42, w_88_43, w_88_46, w_88_47, w_88_50, c1, c2, c3, if_true, if_false, not_false_eq_true, ly_25 hL, lr_25_10 hL, lk_28 hL, ln_28 hL, mj_rv_some, a8.1, j1, j2, mj_is_wi, e9, nI_add, ← hh, e91]
  have hL1 := sx_Lay s1 hL
  simp only [ly_25 hL1, e91, w_88_47, w_88_50]
  have q25 : ∀ j, j ≠ 9 → mj_i h1 25 j = mj_i h 25 j := fun j j1 => by rw [hh]; simp [mj_i_wi, j1]
  refine hok h1 (sx_mono s1 (by decide)) ⟨RB_sx s1 (by decide) (fun j hj => q25 j (by omega)) a1, RR_sx s1 (by decide) (q25 11 (by decide)) a2, RA_sx s1 (by decide) (q25 8 (by decide)) a3, ⟨a4.1, by rw [q25 7 (by decide)]; exact a4.2⟩, RK_sx s1 (by decide) (q25 31 (by decide)) (q25 32 (by decide)) (q25 38 (by decide)) a5, a6, fun j hj => by rw [sx_i s1 (by decide)]; exact a7 j hj, ⟨e91, by omega, fun i hi => ?_⟩, by rw [q25 5 (by decide)]; exact a9, by rw [q25 6 (by decide)]; exact a10⟩
  rw [hh, mj_i_ne (by decide), mj_i_wi]
  by_cases hi2 : i = ty
  · rw [hi2, uN_s]; exact ⟨by simp, hc1, hc2⟩
  · rw [uN_o hi2]
    simp only [hi2, and_false, if_false]
    exact a8.2.2 i (by omega)
theorem r_drop_bad (a : RI h n k e lk rn G sm ak GA sc s stp mov ty tx) (hr : rn = 0) : mj_Wp L xs d 101 0 [some (.ref 25)] [] h Q ↔ Q (some (.int (-1)), h) := by
  simp only [w_101_0, w_101_1, w_101_4, w_101_7, w_101_8, ly_25 a.1.2.2.2.2.2.1, a.2.1.2.1, hr, not_true_eq_false, if_false]
theorem r_drop_ok {r : Nat} (a : RI h n k e lk rn G sm ak GA sc s stp mov ty tx) (hr : rn = r + 1) (hok : ∀ h', mj_sx rfS h h' → RI h' n k e lk r G sm ak GA sc s stp mov ty tx → Q (some (.int (nI r)), h')) : mj_Wp L xs d 101 0 [some (.ref 25)] [] h Q := by
  obtain ⟨a1, a2, a3, a4, a5, a6, a7, a8, a9, a10⟩ := id a
  have hL := a1.2.2.2.2.2.1
  have r6 := a2.1
  have e0 : ¬ nI (r + 1) = nI 0 := by rw [nI_eq (by omega) (by omega)]; omega
  have r11 := a2.2.1
  rw [hr] at r11
  obtain ⟨h1, hh⟩ : ∃ h1, h1 = mj_wi (mj_wi h 25 11 (nI r)) 25 31 (nI 0) := ⟨_, rfl⟩
  have s1 : mj_sx [25] h h1 := by rw [hh]; exact sx_tr (sx_wi (by decide)) (sx_wi (by decide))
  have e11 : mj_i h1 25 11 = nI r := by rw [hh]; simp [mj_i_wi]
  simp only [w_101_0, w_101_1, w_101_4, w_101_7, w_101_8, w_101_9, w_101_10, w_101_11, w_101_14, w_101_15, w_101_16, w_101_19, w_101_20, w_101_21, w_101_24, w_101_25, w_101_28, ly_25 hL, r11, e0, not_false_eq_true, if_true, nI_s1, mj_is_wi, mj_fit_n0, ← hh, e11]
  have q25 : ∀ j, j ≠ 11 → j ≠ 31 → mj_i h1 25 j = mj_i h 25 j := fun j j1 j2 => by rw [hh]; simp [mj_i_wi, j1, j2]
  have hL1 := sx_Lay s1 hL
  simp only [ly_25 hL1, e11, w_101_25, w_101_28]
  exact hok h1 (sx_mono s1 (by decide)) ⟨RB_sx s1 (by decide) (fun j hj => q25 j (by omega) (by omega)) a1, ⟨by omega, e11, fun i hi => ⟨PGm_sx s1 (by decide) (a2.2.2 i (by omega)).1, PSm_sx s1 (by decide) (a2.2.2 i (by omega)).2⟩⟩, RA_sx s1 (by decide) (q25 8 (by decide) (by decide)) a3, ⟨a4.1, by rw [q25 7 (by decide) (by decide)]; exact a4.2⟩, Or.inl (by rw [hh]; simp [mj_i_wi]), a6, fun j hj => by rw [sx_i s1 (by decide)]; exact a7 j hj, ⟨by rw [q25 9 (by decide) (by decide)]; exact a8.1, a8.2.1, fun i hi => by rw [sx_i s1 (by decide)]; exact a8.2.2 i hi⟩, by rw [q25 5 (by decide) (by decide)]; exact a9, by rw [q25 6 (by decide) (by decide)]; exact a10⟩
theorem r_scheduler_bad {x : Int32} (hx : ∀ j, j < 3 → x ≠ nI j) : mj_Wp L xs d 103 0 [some (.ref 25), some (.int x), none] [] h Q ↔ Q (some (.int (-1)), h) := by
  simp only [w_103_0, w_103_1, w_103_4, w_103_5, w_103_6, w_103_9, w_103_10]
  by_cases c1 : x < nI 0
  · simp only [c1, if_true]
  · obtain ⟨j, j1, rfl⟩ := nI_of c1
    have c2 : ¬ nI j ≤ nI 2 := by
      rw [nI_leI (by omega) (by omega)]
      exact fun z => hx j (by omega) rfl
    simp only [c1, c2, if_false]
theorem r_scheduler_ok {j : Nat} (a : RI h n k e lk rn G sm ak GA sc s stp mov ty tx) (hj : j < 3) (hok : ∀ h', mj_sx rfS h h' → RI h' n k e lk rn G sm ak GA j s stp mov ty tx → Q (some (.int (nI sc)), h')) : mj_Wp L xs d 103 0 [some (.ref 25), some (.int (nI j)), none] [] h Q := by
  obtain ⟨a1, a2, a3, a4, a5, a6, a7, a8, a9, a10⟩ := id a
  have hL := a1.2.2.2.2.2.1
  have c1 : ¬ nI j < nI 0 := by rw [nI_ltI (by omega) (by omega)]; omega
  have c2 : nI j ≤ nI 2 := (nI_leI (by omega) (by omega)).mpr (by omega)
  obtain ⟨h1, hh⟩ : ∃ h1, h1 = mj_wi (mj_wi h 25 7 (nI j)) 25 31 (nI 0) := ⟨_, rfl⟩
  have s1 : mj_sx [25] h h1 := by rw [hh]; exact sx_tr (sx_wi (by decide)) (sx_wi (by decide))
  simp only [w_103_0, w_103_1, w_103_4, w_103_5, w_103_6, w_103_9, w_103_10, w_103_11, w_103_12, w_103_15, w_103_16, w_103_17, w_103_18, w_103_21, w_103_22, w_103_23, w_103_26, w_103_27, c1, c2, if_true, if_false, ly_25 hL, a4.2, mj_is_wi, mj_fit_n0, ← hh]
  have q25 : ∀ j, j ≠ 7 → j ≠ 31 → mj_i h1 25 j = mj_i h 25 j := fun j j1 j2 => by rw [hh]; simp [mj_i_wi, j1, j2]
  exact hok h1 (sx_mono s1 (by decide)) ⟨RB_sx s1 (by decide) (fun j hj => q25 j (by omega) (by omega)) a1, RR_sx s1 (by decide) (q25 11 (by decide) (by decide)) a2, RA_sx s1 (by decide) (q25 8 (by decide) (by decide)) a3, ⟨hj, by rw [hh]; simp [mj_i_wi]⟩, Or.inl (by rw [hh]; simp [mj_i_wi]), a6, fun j hj => by rw [sx_i s1 (by decide)]; exact a7 j hj, ⟨by rw [q25 9 (by decide) (by decide)]; exact a8.1, a8.2.1, fun i hi => by rw [sx_i s1 (by decide)]; exact a8.2.2 i hi⟩, by rw [q25 5 (by decide) (by decide)]; exact a9, by rw [q25 6 (by decide) (by decide)]; exact a10⟩
end RCalls2K
