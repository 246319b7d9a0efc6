/-! Search: findGoodStates, judge. -/
/-- the verdict that is kept -/
def VK (h : MH) (n k : Nat) (lk : Nat → Nat) (rn : Nat) (G : Nat → GD) (sm : SM) (ak : Nat) (GA : GD) (sc : Nat) : Prop := ∃ (vd rl : Nat) (run D : Nat → Nat), SR (k ^ n) (enS n k lk rn G) (fun s => alB sc (enS n k lk rn G s)) (afS n k lk rn G sm) (gdS n k lk rn G ak GA) vd rl run D ∧ vd < 4 ∧ mj_i h 11 13 = nI vd ∧ mj_i h 11 11 = nI rl ∧ rl ≤ 1025 ∧ (∀ i, i < rl → mj_i h 19 i = nI (run i)) ∧ (vd = 0 → mj_i h 11 14 = nI (mxN D (k ^ n)) ∧ ∀ s, s < k ^ n → mj_i h 15 s = nI (D s)) ∧ mj_i h 11 15 = nI (cnN (gdS n k lk rn G ak GA) (k ^ n))
/-- what the search keeps is right, or it is not known -/
def CC (h : MH) (n k : Nat) (lk : Nat → Nat) (rn : Nat) (G : Nat → GD) (sm : SM) (ak : Nat) (GA : GD) (sc : Nat) : Prop := sc < 3 ∧ mj_i h 11 12 = nI sc ∧ (mj_i h 11 16 = nI 0 ∨ (mj_i h 11 16 = nI 1 ∧ TB h n k lk rn G sm (k ^ n))) ∧ (mj_i h 11 17 = nI 0 ∨ (mj_i h 11 17 = nI 1 ∧ VK h n k lk rn G sm ak GA sc))
theorem TB_sx {S : List Nat} {h h' : MH} {n k : Nat} {lk : Nat → Nat} {rn : Nat} {G : Nat → GD} {sm : SM} {N : Nat} (q : mj_sx S h h') (hS : 12 ∉ S ∧ 13 ∉ S) (t : TB h n k lk rn G sm N) : TB h' n k lk rn G sm N := fun s hs => ⟨by rw [sx_i q hS.1]; exact (t s hs).1, fun x hx => by rw [sx_i q hS.2]; exact (t s hs).2 x hx⟩
section Judge2K
variable {L : Nat} {xs : Nat → Int32} {d : Nat} {Q : Option Value × MH → Prop} {n k e : Nat} {lk : Nat → Nat} {rn : Nat} {G : Nat → GD} {sm : SM} {ak : Nat} {GA : GD}
theorem k_goodStates {h : MH} (a : CB h n k e lk rn G sm ak GA) (t : TB h n k lk rn G sm (k ^ n)) (hQ : ∀ h', mj_sx [11, 14, 20, 21, 22] h h' → CB h' n k e lk rn G sm ak GA → (∀ j, j ≠ 15 → mj_i h' 11 j = mj_i h 11 j) → mj_i h' 11 15 = nI (cnN (gdS n k lk rn G ak GA) (k ^ n)) → CG h' (k ^ n) (gdS n k lk rn G ak GA) → Q (none, h')) : mj_Wp L xs (d + 60 + 1 + 1 + 1) 67 0 [some (.ref 11), none] [] h Q := by
  have hN := CB_N a
  have n10 : ¬ nI 1 = nI 0 := by decide
  have lp : ∀ (m s : Nat) (h : MH), s + m = k ^ n → CB h n k e lk rn G sm ak GA → TB h n k lk rn G sm (k ^ n) → CG h s (gdS n k lk rn G ak GA) → mj_i h 11 15 = nI (cnN (gdS n k lk rn G ak GA) s) → (∀ h', mj_sx [11, 14, 20, 21, 22] h h' → CB h' n k e lk rn G sm ak GA → (∀ j, j ≠ 15 → mj_i h' 11 j = mj_i h 11 j) → mj_i h' 11 15 = nI (cnN (gdS n k lk rn G ak GA) (k ^ n)) → CG h' (k ^ n) (gdS n k lk rn G ak GA) → Q (none, h')) → mj_Wp L xs (d + 60 + 1 + 1 + 1) 67 7 [some (.ref 11), some (.int (nI s))] [] h Q := by
    intro m
    induction m with
    | zero =>
      intro s h hs a t g hc hQ
      have hs : s = k ^ n := by omega
      have hL := a.2.2.2.2.2.1
      have gr := a.2.2.2.2.2.2.1
      rw [hs] at g hc
      rw [w_67_7, hs]
      simp only [w_67_8, w_67_9, w_67_12, w_67_15, w_67_81, ly_11 hL, lr_11_0 hL, ly_1 hL, mj_rv_some, gr.2.2.2.1, nI_leI (show k ^ n < 2 ^ 31 by omega) (show k ^ n < 2 ^ 31 by omega), Nat.le_refl, if_true]
      exact hQ h sx_rf a (fun _ _ => rfl) hc g
    | succ m ih =>
      intro s h hs a t g hc hQ
      have hL := a.2.2.2.2.2.1
      have gr := a.2.2.2.2.2.2.1
      have a2 := a.2.1
      have hsN : s < k ^ n := by omega
      have e0 : ¬ k ^ n ≤ s := by omega
      have e1 : mj_in (nI s) 1024 = true := mj_in_nI (by omega) (by omega)
      have e2 : (nI s).toNatClampNeg = s := nI_clamp (by omega)
      rw [w_67_7]
      simp only [w_67_8, w_67_9, w_67_12, w_67_15, w_67_18, w_67_19, w_67_22, w_67_23, ly_11 hL, lr_11_0 hL, lr_11_2 hL, ly_20 hL, ly_1 hL, mj_rv_some, gr.2.2.2.1, nI_leI (show k ^ n < 2 ^ 31 by omega) (show s < 2 ^ 31 by omega), e0, if_false]
      refine k_load2 (d := d + 60 + 1) (Or.inr rfl) a hsN (fun h1 q1 q2 q3 => ?_)
      have hL1 := q2.2.2.2.2.2.1
      have t1 := TB_sx q1 (by decide) t
      obtain ⟨h2, hh2⟩ : ∃ h2, h2 = mj_wi h1 20 4 (mj_i h1 12 s) := ⟨_, rfl⟩
      have s2 : mj_sx [20, 22, 23] h1 h2 := by rw [hh2]; exact sx_wi (by decide)
      have s2' : mj_sx [20] h1 h2 := by rw [hh2]; exact sx_wi (by decide)
      have l2 := VLd_k q3 s2 (fun c _ _ => by rw [hh2, mj_i_ne (by decide)])
      have c2 := CB_v (Or.inr rfl) q2 s2 l2
      have hL2 := c2.2.2.2.2.2.1
      have hen : mj_i h2 20 4 = nI (enS n k lk rn G s) := by rw [hh2]; simp [mj_i_wi, (t1 s hsN).1]
      have h32 : enS n k lk rn G s < 32 := Nat.lt_of_lt_of_le (enN_lt n) (Nat.pow_le_pow_right (by decide) a2 : 2 ^ n ≤ 2 ^ 5)
      simp only [w_67_26, w_67_27, w_67_30, w_67_31, w_67_34, w_67_35, w_67_36, w_67_39, w_67_40, w_67_43, w_67_44, w_67_45, w_67_48, w_67_49, w_67_52, ly_11 hL1, lr_11_1 hL1, lr_11_2 hL1, lr_11_3 hL1, lr_11_5 hL1, lk_12 hL1, ln_12 hL1, ly_20 hL1, ly_8 hL1, mj_rv_some, mj_is_wi, mj_r_wi, e1, e2, ← hh2, ly_11 hL2, lr_11_1 hL2, lr_11_2 hL2, lr_11_5 hL2, ly_8 hL2, Option.toList, List.nil_append]
      refine k_meetAim l2 c2.2.2.2.2.2.2.2.2.1 hen h32 (fun h3 p1 p2 p3 => ?_)
      have c3 := CB_v (Or.inr rfl) c2 (sx_mono p1 (by simp)) p3
      have hL3 := c3.2.2.2.2.2.1
      have hgd : gdB n k lk ak GA (enS n k lk rn G s) s = gdS n k lk rn G ak GA s := rfl
      rw [hgd]
      obtain ⟨h4, hh4⟩ : ∃ h4, h4 = mj_wi h3 14 s (bI (gdS n k lk rn G ak GA s)) := ⟨_, rfl⟩
      have s4 : mj_sx [14] h3 h4 := by rw [hh4]; exact sx_wi (by decide)
      have f4 : mj_i h4 14 s = bI (gdS n k lk rn G ak GA s) := by rw [hh4]; simp [mj_i_wi]
      have hL4 := sx_Lay s4 hL3
      have sB : mj_sx [11, 14, 20, 21, 22] h h4 := sx_tr (sx_mono q1 (by decide)) (sx_tr (sx_mono s2' (by decide)) (sx_tr (sx_mono p1 (by decide)) (sx_mono s4 (by decide))))
      have c4 : CB h4 n k e lk rn G sm ak GA := CB_sx s4 (by decide) (by decide) (fun c _ _ => ⟨sx_i s4 (by decide), sx_i s4 (by decide)⟩) c3
      have t4 : TB h4 n k lk rn G sm (k ^ n) := TB_sx s4 (by decide) (TB_sx p1 (by decide) (TB_sx s2' (by decide) t1))
      have r11 : ∀ j, mj_i h4 11 j = mj_i h 11 j := fun j => by rw [sx_i s4 (by decide), sx_i p1 (by decide), sx_i s2' (by decide), sx_i q1 (by decide)]
      have r14 : ∀ u, u < s → mj_i h4 14 u = bI (gdS n k lk rn G ak GA u) := fun u hu => by
        rw [hh4, mj_i_wi]
        simp only [show ¬ u = s by omega, and_false, if_false]
        rw [sx_i p1 (by decide), sx_i s2' (by decide), sx_i q1 (by decide)]
        exact g u hu
      simp only [w_67_55, w_67_56, w_67_57, w_67_60, w_67_61, w_67_62, w_67_65, w_67_66, w_67_67, w_67_70, w_67_71, w_67_72, w_67_75, w_67_78, lk_14 hL3, ln_14 hL3, e1, e2, nar_bI, Option.toList, List.cons_append, List.nil_append, ← hh4, ly_11 hL4, lr_11_5 hL4, lk_14 hL4, ln_14 hL4, mj_rv_some, f4, r11, hc, nI_add]
      cases hg : gdS n k lk rn G ak GA s with
      | false =>
        simp only [bI_0, if_true]
        refine ih (s + 1) h4 (by omega) c4 t4 (fun u hu => ?_) (by rw [r11, hc, cnN, hg]; rfl) (fun h' y1 y2 y3 y4 y5 => hQ h' (sx_tr sB y1) y2 (fun j hj => by rw [y3 j hj, r11]) y4 y5)
        by_cases h5 : u = s
        · rw [h5]; exact f4
        · exact r14 u (by omega)
      | true =>
        simp only [bI_1, n10, if_false]
        have s5 : mj_sx [11] h4 (mj_wi h4 11 15 (nI (cnN (gdS n k lk rn G ak GA) s + 1))) := sx_wi (by decide)
        refine ih (s + 1) _ (by omega) (CB_sx s5 (by decide) (by decide) (fun c _ _ => ⟨sx_i s5 (by decide), sx_i s5 (by decide)⟩) c4) (TB_sx s5 (by decide) t4) (fun u hu => ?_) (by simp [mj_i_wi, cnN, hg]) (fun h' y1 y2 y3 y4 y5 => hQ h' (sx_tr (sx_tr sB (sx_mono s5 (by decide))) y1) y2 (fun j hj => by rw [y3 j hj]; simp [mj_i_wi, hj, r11]) y4 y5)
        rw [sx_i s5 (by decide)]
        by_cases h5 : u = s
        · rw [h5]; exact f4
        · exact r14 u (by omega)
  have hL := a.2.2.2.2.2.1
  simp only [w_67_0, w_67_1, w_67_2, w_67_5, w_67_6, ly_11 hL]
  have s1 : mj_sx [11] h (mj_wi h 11 15 (nI 0)) := sx_wi (by decide)
  exact lp (k ^ n) 0 _ (by omega) (CB_sx s1 (by decide) (by decide) (fun c _ _ => ⟨sx_i s1 (by decide), sx_i s1 (by decide)⟩) a) (TB_sx s1 (by decide) t) (fun u hu => by omega) (by simp [mj_i_wi, cnN]) (fun h' y1 y2 y3 y4 y5 => hQ h' (sx_tr (sx_mono s1 (by decide)) y1) y2 (fun j hj => by rw [y3 j hj]; simp [mj_i_wi, hj]) y4 y5)
theorem k_judge {h : MH} {sc : Nat} (a : CB h n k e lk rn G sm ak GA) (c : CC h n k lk rn G sm ak GA sc) (hQ : ∀ h', mj_sx [11, 12, 13, 14, 15, 16, 17, 18, 19, 20, 21, 22, 23] h h' → CB h' n k e lk rn G sm ak GA → CC h' n k lk rn G sm ak GA sc → VK h' n k lk rn G sm ak GA sc → Q (none, h')) : mj_Wp L xs (d + 60 + 1 + 1 + 1 + 1 + 1) 65 0 [some (.ref 11)] [] h Q := by
  have n10 : ¬ nI 1 = nI 0 := by decide
  obtain ⟨c1, c2, c3, c4⟩ := id c
  have hL := a.2.2.2.2.2.1
  -- the verdict, once the moves are known
  have part2 : ∀ h1, CB h1 n k e lk rn G sm ak GA → mj_i h1 11 12 = nI sc → mj_i h1 11 16 = nI 1 → TB h1 n k lk rn G sm (k ^ n) → (∀ h', mj_sx [11, 12, 13, 14, 15, 16, 17, 18, 19, 20, 21, 22, 23] h1 h' → CB h' n k e lk rn G sm ak GA → CC h' n k lk rn G sm ak GA sc → VK h' n k lk rn G sm ak GA sc → Q (none, h')) → mj_Wp L xs (d + 60 + 1 + 1 + 1 + 1 + 1) 65 19 [some (.ref 11)] [] h1 Q := by
    intro h1 a1 m12 m16 t1 hQ
    have hL1 := a1.2.2.2.2.2.1
    simp only [w_65_19, w_65_20, ly_11 hL1]
    refine k_goodStates (d := d + 1) a1 t1 (fun h2 q1 q2 q3 q4 q5 => ?_)
    have hL2 := q2.2.2.2.2.2.1
    obtain ⟨h3, hh3⟩ : ∃ h3, h3 = mj_wi h2 11 11 (nI 0) := ⟨_, rfl⟩
    have s3 : mj_sx [11] h2 h3 := by rw [hh3]; exact sx_wi (by decide)
    have a3 : CB h3 n k e lk rn G sm ak GA := CB_sx s3 (by decide) (by decide) (fun c _ _ => ⟨sx_i s3 (by decide), sx_i s3 (by decide)⟩) q2
    have hL3 := a3.2.2.2.2.2.1
    have r3 : ∀ j, j ≠ 11 → mj_i h3 11 j = mj_i h2 11 j := fun j hj => by rw [hh3]; simp [mj_i_wi, hj]
    have t3 : TB h3 n k lk rn G sm (k ^ n) := TB_sx s3 (by decide) (TB_sx q1 (by decide) t1)
    have gr := a3.2.2.2.2.2.2.1
    have cs : CS h3 (k ^ n) n sc (enS n k lk rn G) (shI n k lk rn G sm) := ⟨hL3, gr.1, gr.2.2.2.1, by rw [r3 12 (by decide), q3 12 (by decide)]; exact m12, fun s hs => (t3 s hs).1, fun s x hs hx => (t3 s hs).2 x hx⟩
    have se := SE_S (n := n) (k := k) (lk := lk) (rn := rn) (G := G) (sm := sm) (sc := sc) a1.2.1 a1.2.2.1 a1.2.2.2.1 c1
    have cg : CG h3 (k ^ n) (gdS n k lk rn G ak GA) := CG_sx s3 (by decide) q5
    simp only [w_65_23, w_65_24, w_65_25, w_65_28, w_65_29, w_65_30, Option.toList, List.nil_append, ly_11 hL2, mj_is_wi, ← hh3, ly_11 hL3]
    refine k_findVerdict (d := d + 60) se cs cg (by rw [hh3]; simp [mj_i_wi]) (fun h4 vd rl run D p1 p2 p3 p4 p5 p6 p7 p8 => ?_)
    have a4 : CB h4 n k e lk rn G sm ak GA := CB_sx p2 (by decide) (by decide) (fun c _ _ => ⟨sx_i p2 (by decide), sx_i p2 (by decide)⟩) a3
    have hL4 := a4.2.2.2.2.2.1
    simp only [w_65_33, w_65_36, w_65_37, w_65_38, w_65_41, Option.toList, List.cons_append, List.nil_append, ly_11 hL4, mj_is_wi, mj_fit_n1]
    obtain ⟨h5, hh5⟩ : ∃ h5, h5 = mj_wi (mj_wi h4 11 13 (nI vd)) 11 17 (nI 1) := ⟨_, rfl⟩
    rw [← hh5]
    have s5 : mj_sx [11] h4 h5 := by rw [hh5]; exact sx_tr (sx_wi (by decide)) (sx_wi (by decide))
    have r5 : ∀ j, j ≠ 13 → j ≠ 17 → mj_i h5 11 j = mj_i h4 11 j := fun j h1 h2 => by rw [hh5]; simp [mj_i_wi, h1, h2]
    have a5 : CB h5 n k e lk rn G sm ak GA := CB_sx s5 (by decide) (by decide) (fun c _ _ => ⟨sx_i s5 (by decide), sx_i s5 (by decide)⟩) a4
    have vk : VK h5 n k lk rn G sm ak GA sc := by
      refine ⟨vd, rl, run, D, p1, p8, by rw [hh5]; simp [mj_i_wi], by rw [r5 11 (by decide) (by decide)]; exact p4, p5, fun i hi => by rw [sx_i s5 (by decide)]; exact p6 i hi, fun z => ⟨by rw [r5 14 (by decide) (by decide)]; exact (p7 z).1, fun s hs => by rw [sx_i s5 (by decide)]; exact (p7 z).2.1 s hs⟩, ?_⟩
      rw [r5 15 (by decide) (by decide), p3 15 (by decide) (by decide), r3 15 (by decide)]
      exact q4
    refine hQ h5 (sx_tr (sx_mono q1 (by decide)) (sx_tr (sx_mono s3 (by decide)) (sx_tr (sx_mono p2 (by decide)) (sx_mono s5 (by decide))))) a5 ⟨c1, ?_, Or.inr ⟨?_, TB_sx s5 (by decide) (TB_sx p2 (by decide) t3)⟩, Or.inr ⟨by rw [hh5]; simp [mj_i_wi], vk⟩⟩ vk
    · rw [r5 12 (by decide) (by decide), p3 12 (by decide) (by decide), r3 12 (by decide), q3 12 (by decide)]
      exact m12
    · rw [r5 16 (by decide) (by decide), p3 16 (by decide) (by decide), r3 16 (by decide), q3 16 (by decide)]
      exact m16
  rcases c4 with c4 | ⟨c4, vk⟩
  · simp only [w_65_0, w_65_1, w_65_4, w_65_7, w_65_8, w_65_9, w_65_12, ly_11 hL, c4, if_true]
    rcases c3 with c3 | ⟨c3, t⟩
    · simp only [c3, not_true_eq_false, if_false, w_65_15, w_65_16, ly_11 hL]
      refine k_allMoves a (fun h1 q1 q2 q3 q4 q5 => ?_)
      simp only [Option.toList, List.nil_append]
      exact part2 h1 q2 (by rw [q3 12 (by decide)]; exact c2) q4 q5 (fun h' y1 y2 y3 y4 => hQ h' (sx_tr (sx_mono q1 (by decide)) y1) y2 y3 y4)
    · simp only [c3, n10, not_false_eq_true, if_true]
      exact part2 h a c2 c3 t hQ
  · simp only [w_65_0, w_65_1, w_65_4, w_65_7, ly_11 hL, c4, n10, if_false]
    exact hQ h sx_rf a c vk
end Judge2K
