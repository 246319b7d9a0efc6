/-! The law. -/
section LawEnd
variable {L : Nat} {xs : Nat → Int32} {d : Nat} {Q : Option Value × MH → Prop} {h : MH}
theorem ilZ_dg4 : ∀ i, i < 10 → (6, 48 + i, nI i) ∈ ilZ := by decide +kernel
theorem ilZ_dg20 : ∀ i, i < 10 → (22, 48 + i, nI i) ∈ ilZ := by decide +kernel
theorem lay_rl : ∀ q, q ∈ ly_R → q ∈ rlZ := by decide +kernel
theorem INV_start (b : BB 46 24386 rlZ ilZ h) : INV 0 h := by
  obtain ⟨b1, b2, b3, b4, b5, b6⟩ := b
  have hL : Lay h := ⟨by omega, b3, fun q hq => b4 q (lay_rl q hq)⟩
  have z : ∀ a j, a < 46 → eE a j = false → mj_i h a j = nI 0 := fun a j ha he => by rw [b6 a j ha he]; rfl
  have f : ∀ a j x, (a, j, x) ∈ ilZ → mj_i h a j = x := fun a j x hq => b5 (a, j, x) hq
  refine ⟨2, 2, 0, fun _ => 0, 0, fun _ _ _ _ _ _ => false, fun _ => (0, fun _ => 0, fun _ => false, false), 1, fun _ _ _ _ _ => false, 0, 0, nI 0, nI 0, 0, fun _ => 0, ?_, ?_, by omega, by omega⟩
  · refine ⟨⟨by decide, by decide, by decide, by decide, fun _ => (by decide : 0 < 32), hL, ⟨f 1 2 _ (by decide +kernel), f 1 3 _ (by decide +kernel), f 1 4 _ (by decide +kernel), f 1 5 _ (by decide +kernel), fun a ha => ?_, fun a ha => ?_⟩, ⟨by decide, z 8 2 (by decide) rfl, fun r hr => by omega⟩, ⟨by decide, f 8 3 _ (by decide +kernel), fun z => by cases z⟩, fun c c1 c2 => ?_⟩, CC_new (by decide) (z 11 12 (by decide) rfl) (z 11 16 (by decide) rfl) (z 11 17 (by decide) rfl), by decide, fun _ => (by decide : 0 < 2 ^ 2), ⟨z 0 5 (by decide) rfl, by decide, fun i hi => by omega⟩, z 0 6 (by decide) rfl, z 0 7 (by decide) rfl, z 0 8 (by decide) rfl⟩
    · have : a = 0 ∨ a = 1 := by omega
      rcases this with rfl | rfl
      · exact f 3 0 _ (by decide +kernel)
      · exact f 3 1 _ (by decide +kernel)
    · have : a = 0 ∨ a = 1 ∨ a = 2 ∨ a = 3 ∨ a = 4 := by omega
      rcases this with rfl | rfl | rfl | rfl | rfl
      · exact f 2 0 _ (by decide +kernel)
      · exact f 2 1 _ (by decide +kernel)
      · exact f 2 2 _ (by decide +kernel)
      · exact f 2 3 _ (by decide +kernel)
      · exact f 2 4 _ (by decide +kernel)
    · have e1 := f _ _ _ (ilZ_dg4 (c - 48) (by omega))
      have e2 := f _ _ _ (ilZ_dg20 (c - 48) (by omega))
      rw [show 48 + (c - 48) = c by omega] at e1 e2
      exact ⟨e1, e2⟩
  · refine ⟨⟨by decide, by decide, by decide, by decide, fun _ => (by decide : 0 < 2 ^ 2), hL, f 25 0 _ (by decide +kernel), f 25 1 _ (by decide +kernel), z 25 2 (by decide) rfl, fun a b ha hb => ?_⟩, ⟨by decide, z 25 11 (by decide) rfl, fun r hr => by omega⟩, ⟨by decide, f 25 8 _ (by decide +kernel), fun z => by cases z⟩, ⟨by decide, z 25 7 (by decide) rfl⟩, Or.inl (z 25 31 (by decide) rfl), by decide, fun j hj => ?_, ⟨z 25 9 (by decide) rfl, by decide, fun i hi => by omega⟩, z 25 5 (by decide) rfl, z 25 6 (by decide) rfl⟩
    · rw [z 26 _ (by decide) rfl, Nat.zero_div, Nat.zero_mod]
    · rw [z 27 _ (by decide) rfl, dg_0]
theorem law_loop (hL' : L ≤ 1536) (hQ : ∀ h' : MH, mj_z h' ≤ 600000 → mj_u h' ≤ 7302250 → Q (some (.int 1), h')) : ∀ (m j : Nat) (h : MH), j + m = 513 → 3 * j ≤ L → INV j h → mj_Wp L xs (d + 100 + 1) 0 18 [some (.retAddr 0), some (.ref 0), some (.ref 25), some (.int (nI (3 * j)))] [] h Q := by
  intro m
  induction m with
  | zero => intro j h hj hjl _; omega
  | succ m ih =>
    intro j h hj hjl inv
    obtain ⟨n, k, e, lk, rn, G, sm, ak, GA, sc, s, stp, mov, ty, tx, ci, ri, bz, bu⟩ := inv
    have fin0 : nI L - nI 3 < nI (3 * j) → mj_Wp L xs (d + 100 + 1) 0 18 [some (.retAddr 0), some (.ref 0), some (.ref 25), some (.int (nI (3 * j)))] [] h Q := by
      intro hlt
      rw [w_0_18]
      simp only [w_0_19, w_0_20, w_0_21, w_0_22, w_0_23, w_0_527, w_0_528, hlt, if_true, mj_fit_n1]
      exact hQ h (by omega) (by omega)
    by_cases hend : 3 * j + 3 ≤ L
    · have e1 : nI L - nI 3 = nI (L - 3) := pk_sub (by omega)
      have e2 : ¬ nI (L - 3) < nI (3 * j) := by rw [nI_ltI (by omega) (by omega)]; omega
      have i1 : mj_in (nI (3 * j)) L = true := mj_in_nI (by omega) (by omega)
      have i2 : (nI (3 * j)).toNatClampNeg = 3 * j := nI_clamp (by omega)
      have fin : ∀ {h1 h2 : MH} {n k e : Nat} {lk : Nat → Nat} {rn : Nat} {G : Nat → GD} {sm : SM} {ak : Nat} {GA : GD} {sc s : Nat} {stp mov : Int32} {ty : Nat} {tx : Nat → Nat}, CF h h1 → mj_sx rfS h1 h2 → CI h1 n k e lk rn G sm ak GA sc s stp mov ty tx → RI h2 n k e lk rn G sm ak GA sc s stp mov ty tx → mj_Wp L xs (d + 100 + 1) 0 521 [some (.retAddr 0), some (.ref 0), some (.ref 25), some (.int (nI (3 * j)))] [] h2 Q := by
        intro h1 h2 n k e lk rn G sm ak GA sc s stp mov ty tx cf s2 ci1 ri2
        simp only [w_0_521, w_0_524, nI_add]
        have w1 := s2.1
        have w2 := s2.2.1
        have w3 := cf.2.2.1
        have w4 := cf.2.2.2.1
        have z2 : mj_z h2 ≤ 46 + 300 * (j + 1) := by omega
        have u2 : mj_u h2 ≤ 24386 + 1300 * (j + 1) := by omega
        have := ih (j + 1) h2 (by omega) (by omega) ⟨n, k, e, lk, rn, G, sm, ak, GA, sc, s, stp, mov, ty, tx, CI_sx s2 rfS_in ci1, ri2, z2, u2⟩
        exact this
      have cf0 : CF h h := CF_sx ci.1.2.2.2.2.2.1 (sx_rf (S := [])) (by simp)
      obtain ⟨c, hc, hx⟩ := and31 (xs (3 * j))
      rw [w_0_18]
      simp only [w_0_19, w_0_20, w_0_21, w_0_22, w_0_23, w_0_26, w_0_27, w_0_28, w_0_29, w_0_31, e1, e2, if_false, i1, i2, hx]
      by_cases hc18 : c ≤ 18
      · have hcs : c = 0 ∨ c = 1 ∨ c = 2 ∨ c = 3 ∨ c = 4 ∨ c = 5 ∨ c = 6 ∨ c = 7 ∨ c = 8 ∨ c = 9 ∨ c = 10 ∨ c = 11 ∨ c = 12 ∨ c = 13 ∨ c = 14 ∨ c = 15 ∨ c = 16 ∨ c = 17 ∨ c = 18 := by omega
        clear hx hc hc18
        rcases hcs with rfl | rfl | rfl | rfl | rfl | rfl | rfl | rfl | rfl | rfl | rfl | rfl | rfl | rfl | rfl | rfl | rfl | rfl | rfl
        · rw [w_0_32_0]; exact law_0 hend hL' ci ri fin
        · rw [w_0_32_1]; exact law_1 hend hL' ci ri fin
        · rw [w_0_32_2]; exact law_2 hend hL' ci ri fin
        · rw [w_0_32_3]; exact law_3 hend hL' ci ri fin
        · rw [w_0_32_4]; exact law_4 hend hL' ci ri fin
        · rw [w_0_32_5]; exact law_5 hend hL' ci ri fin
        · rw [w_0_32_6]; exact law_6 hend hL' ci ri fin
        · rw [w_0_32_7]; exact law_7 hend hL' ci ri fin
        · rw [w_0_32_8]; exact law_8 hend hL' ci ri fin
        · rw [w_0_32_9]; exact law_9 hend hL' ci ri fin
        · rw [w_0_32_10]; exact law_10 hend hL' ci ri fin
        · rw [w_0_32_11]; exact law_11 hend hL' ci ri fin
        · rw [w_0_32_12]; exact law_12 hend hL' ci ri fin
        · rw [w_0_32_13]; exact law_13 hend hL' ci ri fin
        · rw [w_0_32_14]; exact law_14 hend hL' ci ri fin
        · rw [w_0_32_15]; exact law_15 hend hL' ci ri fin
        · rw [w_0_32_16]; exact law_16 hend hL' ci ri fin
        · rw [w_0_32_17]; exact law_17 hend hL' ci ri fin
        · rw [w_0_32_18]; exact law_18 hend hL' ci ri fin
      · have hd : (nI c).toInt < 0 ∨ 18 < (nI c).toInt := by rw [nI_toInt (by omega)]; omega
        rw [w_0_32_d hd]
        exact fin cf0 sx_rf ci ri
    · refine fin0 ?_
      by_cases h3 : 3 ≤ L
      · rw [pk_sub h3, nI_ltI (by omega) (by omega)]; omega
      · have hj0 : j = 0 := by omega
        have hL3 : L = 0 ∨ L = 1 ∨ L = 2 := by omega
        rw [hj0]
        rcases hL3 with rfl | rfl | rfl <;> decide
theorem mj_law : mj_Law := by
  intro L xs hL'
  show mj_Wp L xs (899 + 100 + 1) 0 0 [some (.retAddr 0), none, none, none] [] mj_h0 _
  have b0 : BB 1 9 [] [] (mj_nw mj_h0 0 9) := by
    refine ⟨rfl, rfl, fun a ha => ?_, fun q hq => (by cases hq), fun q hq => (by cases hq), fun a j ha he => ?_⟩
    · have : a = 0 := by omega
      subst this; rfl
    · have : a = 0 := by omega
      subst this; rfl
  obtain ⟨h0, hh0⟩ : ∃ h0, h0 = mj_nw mj_h0 0 9 := ⟨_, rfl⟩
  rw [← hh0] at b0
  have z0 : mj_z mj_h0 = 0 := rfl
  simp only [w_0_0, w_0_3, w_0_4, z0, ← hh0]
  refine k_initBench (d := 899 + 97) b0 (fun h1 b1 => ?_)
  have b2 := BB_new (kd := 11) (n := 40) b1 rfl rfl rfl
  simp only [w_0_7, w_0_8, w_0_11, w_0_12, Option.toList, List.nil_append, b1.1]
  refine k_initModel b2 (fun h3 b3 => ?_)
  simp only [w_0_15, w_0_16, w_0_17, Option.toList, List.nil_append]
  exact law_loop hL' (fun h' z u => ⟨rfl, z, u⟩) 513 0 h3 (by omega) (by omega) (INV_start b3)
end LawEnd
