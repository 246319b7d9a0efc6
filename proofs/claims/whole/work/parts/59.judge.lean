/-! Search: judge. -/
section CpyW
variable {L : Nat} {xs : Nat → Int32} {d mi pc : Nat} {ls : List (Option Value)} {st : List Value} {h : MH} {Q : Option Value × MH → Prop}
theorem mj_w_cpy {idx a0 a1 kd n0 n1 sp dp k : Nat} (hf : mj_ft mi pc = some (.invokestatic idx, 3)) (hg : mj_get mt_MS (mt_on mi) idx = some 9999) (hr : st.length ≤ 8) (H0 : mj_is h a0 kd n0) (H1 : mj_is h a1 kd n1) (hk : kd = 100 ∨ (kd = 102 ∧ ∀ i, i < k → fits .char (.int (mj_i h a0 (sp + i))) = true)) (h2 : sp + k ≤ n0) (h3 : dp + k ≤ n1) (b0 : n0 < 2 ^ 31) (b1 : n1 < 2 ^ 31) :
    mj_Wp L xs d mi pc ls (.int (nI k) :: .int (nI dp) :: .ref a1 :: .int (nI sp) :: .ref a0 :: st) h Q ↔ mj_Wp L xs d mi (pc + 3) ls st (mj_wa h a1 (va_cpy (mj_i h a0) (mj_i h a1) sp dp k)) Q := by
  refine mj_W_nx (f := (pc + 3, ls, st, mj_wa h a1 (va_cpy (mj_i h a0) (mj_i h a1) sp dp k))) hf ?_
  have c1 : (nI k).toNatClampNeg = k := nI_clamp (by omega)
  have c2 : (nI sp).toNatClampNeg = sp := nI_clamp (by omega)
  have c3 : (nI dp).toNatClampNeg = dp := nI_clamp (by omega)
  have p1 : ¬ nI k < 0 := nI_pos (by omega)
  have p2 : ¬ nI sp < 0 := nI_pos (by omega)
  have p3 : ¬ nI dp < 0 := nI_pos (by omega)
  have hkk : (decide (kd = 100) || (decide (kd = 102) && (List.range k).all (fun i => fits .char (.int (mj_i h a0 (sp + i)))))) = true := by
    rcases hk with rfl | ⟨rfl, q⟩
    · rfl
    · have : (List.range k).all (fun i => fits .char (.int (mj_i h a0 (sp + i)))) = true := by
        rw [List.all_eq_true]
        intro i hi
        exact q i (List.mem_range.mp hi)
      rw [this]
      rfl
  simp only [mj_ex, mj_ivs, hg, mj_cpy, if_true, c1, c2, c3, H0.1, H1.1, H0.2, H1.2, hkk, hr, p1, p2, p3, h2, h3, mj_nx]
  simp
end CpyW
theorem w_66_67 {L : Nat} {xs : Nat → Int32} {d : Nat} {ls : List (Option Value)} {h : MH} {Q : Option Value × MH → Prop} {a0 a1 n0 n1 dp k : Nat} (H0 : mj_is h a0 100 n0) (H1 : mj_is h a1 100 n1) (h2 : 0 + k ≤ n0) (h3 : dp + k ≤ n1) (b0 : n0 < 2 ^ 31) (b1 : n1 < 2 ^ 31) : mj_Wp L xs d 66 67 ls [.int (nI k), .int (nI dp), .ref a1, .int (nI 0), .ref a0] h Q ↔ mj_Wp L xs d 66 70 ls [] (mj_wa h a1 (va_cpy (mj_i h a0) (mj_i h a1) 0 dp k)) Q :=
  mj_w_cpy (by decide +kernel : mj_ft 66 67 = some (.invokestatic 108, 3)) (by decide +kernel) (by decide) H0 H1 (Or.inl rfl) h2 h3 b0 b1
theorem w_18_18 {L : Nat} {xs : Nat → Int32} {d : Nat} {ls : List (Option Value)} {h : MH} {Q : Option Value × MH → Prop} {a0 a1 n0 n1 k : Nat} (H0 : mj_is h a0 102 n0) (H1 : mj_is h a1 102 n1) (hc : ∀ i, i < k → fits .char (.int (mj_i h a0 (0 + i))) = true) (h2 : 0 + k ≤ n0) (h3 : 0 + k ≤ n1) (b0 : n0 < 2 ^ 31) (b1 : n1 < 2 ^ 31) : mj_Wp L xs d 18 18 ls [.int (nI k), .int (nI 0), .ref a1, .int (nI 0), .ref a0] h Q ↔ mj_Wp L xs d 18 21 ls [] (mj_wa h a1 (va_cpy (mj_i h a0) (mj_i h a1) 0 0 k)) Q :=
  mj_w_cpy (by decide +kernel : mj_ft 18 18 = some (.invokestatic 194, 3)) (by decide +kernel) (by decide) H0 H1 (Or.inr ⟨rfl, hc⟩) h2 h3 b0 b1
theorem nar_bI (b : Bool) : vp_nar .boolean (bI b) = bI b := by cases b <;> decide
/-- what the class holds: graph, rules, aim -/
def CB (h : MH) (n k e : Nat) (lk : Nat → Nat) (rn : Nat) (G : Nat → GD) (sm : SM) (ak : Nat) (GA : GD) : Prop := 2 ≤ n ∧ n ≤ 5 ∧ 2 ≤ k ∧ k ≤ 4 ∧ (∀ a, lk a < 32) ∧ Lay h ∧ Gr h n k e lk ∧ RU h rn G sm ∧ AI h ak GA ∧ ∀ c, 48 ≤ c → c ≤ 57 → mj_i h 6 c = nI (c - 48) ∧ mj_i h 22 c = nI (c - 48)
theorem CB_sx {S : List Nat} {h h' : MH} {n k e : Nat} {lk : Nat → Nat} {rn : Nat} {G : Nat → GD} {sm : SM} {ak : Nat} {GA : GD} (q : mj_sx S h h') (hS : ∀ a ∈ S, a < 46) (hS2 : 1 ∉ S ∧ 2 ∉ S ∧ 3 ∉ S ∧ 8 ∉ S) (hd : ∀ c, 48 ≤ c → c ≤ 57 → mj_i h' 6 c = mj_i h 6 c ∧ mj_i h' 22 c = mj_i h 22 c) (a : CB h n k e lk rn G sm ak GA) : CB h' n k e lk rn G sm ak GA := by
  obtain ⟨a1, a2, a3, a4, a5, a6, a7, a8, a9, a10⟩ := a
  exact ⟨a1, a2, a3, a4, a5, sx_Lay q a6, Gr_sx q ⟨hS2.1, hS2.2.1, hS2.2.2.1⟩ a7, RU_sx q hS hS2.2.2.2 a8, AI_sx q hS hS2.2.2.2 a9, fun c c1 c2 => by rw [(hd c c1 c2).1, (hd c c1 c2).2]; exact a10 c c1 c2⟩
def enS (n k : Nat) (lk : Nat → Nat) (rn : Nat) (G : Nat → GD) (s : Nat) : Nat := enN n k lk rn G s n
def afS (n k : Nat) (lk : Nat → Nat) (rn : Nat) (G : Nat → GD) (sm : SM) : Nat → Nat → Nat := afN n k (nvN n k lk rn G sm)
def gdS (n k : Nat) (lk : Nat → Nat) (rn : Nat) (G : Nat → GD) (ak : Nat) (GA : GD) (s : Nat) : Bool := gdB n k lk ak GA (enS n k lk rn G s) s
def TB (h : MH) (n k : Nat) (lk : Nat → Nat) (rn : Nat) (G : Nat → GD) (sm : SM) (N : Nat) : Prop := ∀ s, s < N → mj_i h 12 s = nI (enS n k lk rn G s) ∧ ∀ x, x < n → mj_i h 13 (5 * s + x) = shI n k lk rn G sm s x
def cnN (gd : Nat → Bool) : Nat → Nat
  | 0 => 0
  | s + 1 => cnN gd s + (if gd s = true then 1 else 0)
theorem cnN_le {gd : Nat → Bool} : ∀ j, cnN gd j ≤ j
  | 0 => Nat.le_refl _
  | j + 1 => by
    have := cnN_le (gd := gd) j
    rw [cnN]; split <;> omega
theorem SE_S {n k : Nat} {lk : Nat → Nat} {rn : Nat} {G : Nat → GD} {sm : SM} {sc : Nat} (hn : n ≤ 5) (hk : 2 ≤ k) (hk4 : k ≤ 4) (hsc : sc < 3) : SE (k ^ n) n sc (enS n k lk rn G) (shI n k lk rn G sm) (afS n k lk rn G sm) := by
  refine ⟨hn, Nat.pow_pos (by omega), ?_, hsc, fun s _ => ?_, fun s hs c hc ho => afN_ok hn (by omega) hk4 hs hc ho (fun _ _ _ => rfl)⟩
  · exact Nat.le_trans (Nat.pow_le_pow_left hk4 n) (Nat.pow_le_pow_right (by decide) hn : 4 ^ n ≤ 4 ^ 5)
  · exact Nat.lt_of_lt_of_le (enN_lt n) (Nat.pow_le_pow_right (by decide) hn : 2 ^ n ≤ 2 ^ 5)
section JudgeK
variable {L : Nat} {xs : Nat → Int32} {d : Nat} {Q : Option Value × MH → Prop} {n k e : Nat} {lk : Nat → Nat} {rn : Nat} {G : Nat → GD} {sm : SM} {ak : Nat} {GA : GD}
theorem CB_N {h : MH} (a : CB h n k e lk rn G sm ak GA) : k ^ n ≤ 1024 := Nat.le_trans (Nat.pow_le_pow_left a.2.2.2.1 n) (Nat.pow_le_pow_right (by decide) a.2.1 : 4 ^ n ≤ 4 ^ 5)
theorem k_load2 {h : MH} {v s : Nat} (hv : v = 4 ∨ v = 20) (a : CB h n k e lk rn G sm ak GA) (hs : s < k ^ n) (hQ : ∀ h', mj_sx [v + 1, v + 2] h h' → CB h' n k e lk rn G sm ak GA → VLd h' v n k e lk s → Q (none, h')) : mj_Wp L xs (d + 1) 47 0 [some (.ref v), some (.int (nI s)), none] [] h Q := by
  have hN := CB_N a
  obtain ⟨a1, a2, a3, a4, a5, a6, a7, a8, a9, a10⟩ := id a
  have hV : VL h v := by
    rcases hv with rfl | rfl
    · exact VL_4 a6
    · exact VL_20 a6
  refine k_load hv a3 a4 a2 (by omega) a6 hV a7 (fun h' q1 q2 q3 => ?_)
  have hd : ∀ c, 48 ≤ c → c ≤ 57 → mj_i h' 6 c = mj_i h 6 c ∧ mj_i h' 22 c = mj_i h 22 c := fun c c1 c2 => by
    have := q3 c
    rw [if_neg (by omega), if_neg (by omega)] at this
    rcases hv with rfl | rfl
    · exact ⟨this, sx_i q1 (by decide)⟩
    · exact ⟨sx_i q1 (by decide), this⟩
  have cb := CB_sx q1 (by rcases hv with rfl | rfl <;> decide) (by rcases hv with rfl | rfl <;> decide) hd a
  refine hQ h' q1 cb ⟨hv, a1, a2, a3, a4, a5, cb.2.2.2.2.2.1, VL_sx q1 hV, cb.2.2.2.2.2.2.1, q2, fun c c1 c2 => ?_, ?_, ?_⟩
  · have := cb.2.2.2.2.2.2.2.2.2 c c1 c2
    rcases hv with rfl | rfl
    · exact this.1
    · exact this.2
  · rw [q3 110]; rfl
  · rw [q3 107]; rfl
theorem CB_v {h h' : MH} {v s : Nat} (hv : v = 4 ∨ v = 20) (a : CB h n k e lk rn G sm ak GA) (q : mj_sx [v, v + 2, v + 3] h h') (l : VLd h' v n k e lk s) : CB h' n k e lk rn G sm ak GA := by
  refine CB_sx q (by rcases hv with rfl | rfl <;> decide) (by rcases hv with rfl | rfl <;> decide) (fun c c1 c2 => ?_) a
  have h1 := l.2.2.2.2.2.2.2.2.2.2.1 c c1 c2
  have h2 := a.2.2.2.2.2.2.2.2.2 c c1 c2
  rcases hv with rfl | rfl
  · exact ⟨by rw [h2.1]; exact h1, sx_i q (by decide)⟩
  · exact ⟨sx_i q (by decide), by rw [h2.2]; exact h1⟩
theorem k_allMoves {h : MH} (a : CB h n k e lk rn G sm ak GA) (hQ : ∀ h', mj_sx [11, 12, 13, 20, 21, 22, 23] h h' → CB h' n k e lk rn G sm ak GA → (∀ j, j ≠ 16 → mj_i h' 11 j = mj_i h 11 j) → mj_i h' 11 16 = nI 1 → TB h' n k lk rn G sm (k ^ n) → Q (none, h')) : mj_Wp L xs (d + 60 + 1 + 1 + 1 + 1) 66 0 [some (.ref 11), none] [] h Q := by
  have hN := CB_N a
  have lp : ∀ (m s : Nat) (h : MH), s + m = k ^ n → CB h n k e lk rn G sm ak GA → TB h n k lk rn G sm s → (∀ h', mj_sx [11, 12, 13, 20, 21, 22, 23] h h' → CB h' n k e lk rn G sm ak GA → (∀ j, j ≠ 16 → mj_i h' 11 j = mj_i h 11 j) → mj_i h' 11 16 = nI 1 → TB h' n k lk rn G sm (k ^ n) → Q (none, h')) → mj_Wp L xs (d + 60 + 1 + 1 + 1 + 1) 66 2 [some (.ref 11), some (.int (nI s))] [] h Q := by
    intro m
    induction m with
    | zero =>
      intro s h hs a t hQ
      have hs : s = k ^ n := by omega
      have hL := a.2.2.2.2.2.1
      have g := a.2.2.2.2.2.2.1
      rw [w_66_2, hs]
      simp only [w_66_3, w_66_4, w_66_7, w_66_10, w_66_76, w_66_77, w_66_78, w_66_81, ly_11 hL, lr_11_0 hL, ly_1 hL, mj_rv_some, g.2.2.2.1, nI_leI (show k ^ n < 2 ^ 31 by omega) (show k ^ n < 2 ^ 31 by omega), Nat.le_refl, if_true, mj_fit_n1]
      have s1 : mj_sx [11, 12, 13, 20, 21, 22, 23] h (mj_wi h 11 16 (nI 1)) := sx_wi (by decide)
      rw [hs] at t
      refine hQ _ s1 (CB_sx s1 (by decide) (by decide) (fun c _ _ => by simp [mj_i_wi]) a) (fun j hj => by simp [mj_i_wi, hj]) (by simp [mj_i_wi]) (fun u hu => by simpa [mj_i_wi] using t u hu)
    | succ m ih =>
      intro s h hs a t hQ
      have hL := a.2.2.2.2.2.1
      have g := a.2.2.2.2.2.2.1
      have a2 := a.2.1
      have e0 : ¬ k ^ n ≤ s := by omega
      rw [w_66_2]
      simp only [w_66_3, w_66_4, w_66_7, w_66_10, w_66_13, w_66_14, w_66_17, w_66_18, ly_11 hL, lr_11_0 hL, lr_11_2 hL, ly_20 hL, ly_1 hL, mj_rv_some, g.2.2.2.1, nI_leI (show k ^ n < 2 ^ 31 by omega) (show s < 2 ^ 31 by omega), e0, if_false]
      refine k_load2 (d := d + 60 + 1 + 1) (Or.inr rfl) a (by omega) (fun h1 q1 q2 q3 => ?_)
      have hL1 := q2.2.2.2.2.2.1
      simp only [w_66_21, w_66_22, w_66_25, w_66_26, w_66_29, ly_11 hL1, lr_11_1 hL1, lr_11_2 hL1, ly_8 hL1, mj_rv_some, Option.toList, List.nil_append]
      refine k_findMoves q3 q2.2.2.2.2.2.2.2.1 (fun h2 p1 p2 p3 p4 => ?_)
      have c2 := CB_v (Or.inr rfl) q2 p1 p2
      have hL2 := c2.2.2.2.2.2.1
      have g2 := c2.2.2.2.2.2.2.1
      have e1 : mj_in (nI s) 1024 = true := mj_in_nI (by omega) (by omega)
      have e2 : (nI s).toNatClampNeg = s := nI_clamp (by omega)
      have e3 : nI s * nI 5 = nI (5 * s) := by rw [pk_mul, Nat.mul_comm]
      simp only [w_66_32, w_66_33, w_66_36, w_66_37, w_66_38, w_66_41, w_66_44, w_66_45, w_66_46, w_66_49, w_66_52, w_66_53, w_66_54, w_66_57, w_66_58, w_66_59, w_66_60, w_66_61, w_66_64, w_66_67 (h := mj_wi h2 12 s (mj_i h2 20 4)) (a0 := 23) (a1 := 13) (n0 := 5) (n1 := 5120) (dp := 5 * s) (k := n) (by have := mj_ik_is (lk_23 hL2); rwa [ln_23 hL2] at this) (by have := mj_ik_is (lk_13 hL2); rwa [ln_13 hL2] at this) (by omega) (by omega) (by decide) (by decide), ly_11 hL2, lr_11_0 hL2, lr_11_2 hL2, lr_11_3 hL2, lr_11_4 hL2, ly_20 hL2, lr_20_3 hL2, lk_12 hL2, ln_12 hL2, ly_1 hL2, mj_rv_some, Option.toList, List.nil_append, e1, e2, e3, mj_is_wi, mj_r_wi, mj_i_ne (show 1 ≠ 12 by decide), g2.1, w_66_70, w_66_73, nI_add]
      obtain ⟨h3, hh⟩ : ∃ h3, h3 = mj_wa (mj_wi h2 12 s (mj_i h2 20 4)) 13 (va_cpy (mj_i (mj_wi h2 12 s (mj_i h2 20 4)) 23) (mj_i (mj_wi h2 12 s (mj_i h2 20 4)) 13) 0 (5 * s) n) := ⟨_, rfl⟩
      rw [← hh]
      have sA : mj_sx [12, 13] h2 h3 := by
        rw [hh]
        exact sx_tr (sx_wi (by decide)) (sx_wa (by decide))
      have sB : mj_sx [11, 12, 13, 20, 21, 22, 23] h h3 := sx_tr (sx_mono q1 (by decide)) (sx_tr (sx_mono p1 (by decide)) (sx_mono sA (by decide)))
      refine ih (s + 1) h3 (by omega) (CB_sx sA (by decide) (by decide) (fun c _ _ => ⟨sx_i sA (by decide), sx_i sA (by decide)⟩) c2) (fun u hu => ?_) (fun h' y1 y2 y3 y4 y5 => hQ h' (sx_tr sB y1) y2 (fun j hj => ?_) y4 y5)
      · have f12 : ∀ u, mj_i h3 12 u = if u = s then mj_i h2 20 4 else mj_i h 12 u := fun u => by
          rw [hh, mj_i_wa, if_neg (by decide), mj_i_wi]
          by_cases h5 : u = s
          · simp [h5]
          · simp only [h5, and_false, if_false]
            rw [sx_i p1 (by decide), sx_i q1 (by decide)]
        have f13 : ∀ j, mj_i h3 13 j = if 5 * s ≤ j ∧ j < 5 * s + n then mj_i h2 23 (j - 5 * s) else mj_i h 13 j := fun j => by
          rw [hh, mj_i_wa, if_pos rfl]
          by_cases h5 : 5 * s ≤ j ∧ j < 5 * s + n
          · rw [if_pos h5, pk_cpy_in h5.1 h5.2, Nat.zero_add, mj_i_ne (by decide)]
          · rw [if_neg h5, pk_cpy_out (by omega), mj_i_ne (by decide), sx_i p1 (by decide), sx_i q1 (by decide)]
        by_cases h5 : u = s
        · rw [h5]
          refine ⟨by rw [f12, if_pos rfl, p3]; rfl, fun x hx => ?_⟩
          rw [f13, if_pos (by omega), show 5 * s + x - 5 * s = x by omega]
          exact p4 x hx
        · have h6 := t u (by omega)
          refine ⟨by rw [f12, if_neg h5]; exact h6.1, fun x hx => ?_⟩
          rw [f13, if_neg (by omega)]
          exact h6.2 x hx
      · rw [y3 j hj, sx_i sA (by decide), sx_i p1 (by decide), sx_i q1 (by decide)]
  simp only [w_66_0, w_66_1]
  exact lp (k ^ n) 0 h (by omega) a (fun u hu => by omega) hQ
end JudgeK
