/-! View.standAt and lookAt: what each letter stands for. -/
def mnF (m : Nat) (vs : Nat → Int32) (k0 : Int32) : Nat → Int32
  | 0 => k0
  | b + 1 => if m / 2 ^ b % 2 = 0 then mnF m vs k0 b else mnI (mnF m vs k0 b) (vs b)
def mxF (m : Nat) (vs : Nat → Int32) : Nat → Int32
  | 0 => -1
  | b + 1 => if m / 2 ^ b % 2 = 0 then mxF m vs b else mxI (mxF m vs b) (vs b)
/-- what the letter c stands for at node a -/
def stF (n k m : Nat) (vs : Nat → Int32) (a c : Nat) (old : Int32) : Int32 :=
  if c = 120 then vs a else if c = 105 then nI a else if c = 108 then vs (if a = 0 then n - 1 else a - 1) else if c = 117 then vs (if a = n - 1 then 0 else a + 1) else if c = 100 then bcI (nI m) else if c = 109 then mnF m vs (nI k) n else if c = 77 then mxF m vs n else old
theorem mj_i_ne {h : MH} {a b k j : Nat} {x : Int32} (hb : b ≠ a) : mj_i (mj_wi h a k x) b j = mj_i h b j := by
  rw [mj_i_wi]
  simp [hb]
theorem sh_5 : ∀ b, b < 5 → ((nI b &&& 31).toBitVec.smod 32).toNat = b := by decide
theorem lb_I {m b : Nat} (hm : m < 2 ^ 31) (hb : b < 5) : (nI m >>> (nI b &&& 31)) &&& nI 1 = nI (m / 2 ^ b % 2) := by
  rw [pk_shrN hm _ b (sh_5 b hb), pk_andN (n := m / 2 ^ b) (Nat.lt_of_le_of_lt (Nat.div_le_self _ _) (by omega)) 1 (by decide)]
theorem n2_0 {x : Nat} : (nI (x % 2) = nI 0) = (x % 2 = 0) := by
  rw [nI_eq (by omega) (by omega)]
section StandK
variable {L : Nat} {xs : Nat → Int32} {d : Nat} {Q : Option Value × MH → Prop}
theorem k_lk {h : MH} (hL : Lay h) {n k e a b : Nat} {lk : Nat → Nat} (g : Gr h n k e lk) (hlk : ∀ a, lk a < 32) (ha : a < 5) (hb : b < 5) : mj_Wp L xs d 14 0 [some (.ref 1), some (.int (nI a)), some (.int (nI b))] [] h Q ↔ Q (some (.int (if lk a / 2 ^ b % 2 = 0 then nI 0 else nI 1)), h) := by
  have h1 := hlk a
  rw [k_linked hL (mj_in_nI ha (by decide)), nI_clamp (show a < 2 ^ 31 by omega), g.2.2.2.2.2 a ha, lb_I (by omega) hb]
  simp only [n2_0]
theorem k_stand_loop {n k e v a : Nat} {lk : Nat → Nat} {X : Option Value} (hv : v = 4 ∨ v = 20) (hn : n ≤ 5) (ha : a < n) (hlk : ∀ a, lk a < 32) : ∀ (m b : Nat) (h : MH), b + m = n → Lay h → VL h v → Gr h n k e lk →
    (∀ k0 vs, mj_i h (v + 2) 109 = mnF (lk a) vs k0 b → mj_i h (v + 2) 77 = mxF (lk a) vs b → (∀ j, j < n → vs j = mj_i h (v + 1) j) →
      (∀ h', mj_sx [v + 2] h h' → (∀ c, c ≠ 109 → c ≠ 77 → mj_i h' (v + 2) c = mj_i h (v + 2) c) → mj_i h' (v + 2) 109 = mnF (lk a) vs k0 n → mj_i h' (v + 2) 77 = mxF (lk a) vs n → Q (none, h')) → mj_Wp L xs (d + 1) 48 126 [some (.ref v), some (.int (nI a)), X, some (.int (nI b))] [] h Q) := by
  intro m
  induction m with
  | zero =>
    intro b h hb hL g1 g2 k0 vs f1 f2 _ hQ
    have hb : b = n := by omega
    subst hb
    obtain ⟨v1, v2, v3, v4, v5, v6, v7, v8, v9, v10, v11⟩ := g1
    rw [w_48_126]
    simp only [w_48_127, w_48_128, w_48_131, w_48_134, w_48_201, v1, v2, ly_1 hL, mj_rv_some, g2.1, nI_leI (show b < 2 ^ 31 by omega) (show b < 2 ^ 31 by omega), Nat.le_refl, if_true]
    exact hQ h sx_rf (fun _ _ _ => rfl) f1 f2
  | succ m ih =>
    intro b h hb hL g1 g2 k0 vs f1 f2 f3 hQ
    have hV := g1
    obtain ⟨v1, v2, v3, v4, v5, v6, v7, v8, v9, v10, v11⟩ := g1
    have e0 : ¬ n ≤ b := by omega
    have e3 : mj_in (nI b) 5 = true := mj_in_nI (by omega) (by omega)
    have e4 : (nI b).toNatClampNeg = b := nI_clamp (by omega)
    have n12 : v + 1 ≠ v + 2 := by omega
    rw [w_48_126]
    simp only [w_48_127, w_48_128, w_48_131, w_48_134, w_48_137, w_48_138, w_48_141, w_48_142, w_48_143, w_48_146, w_48_149, w_48_150, w_48_153, w_48_155, w_48_156, w_48_159, w_48_161, w_48_162, w_48_163, w_48_166, w_48_167, w_48_168, w_48_171, w_48_172, w_48_173, w_48_176, w_48_178, w_48_179, w_48_182, w_48_184, w_48_185, w_48_186, w_48_189, w_48_190, w_48_191, w_48_194, w_48_195, w_48_198, v1, v2, v3, v4, v6, v7, v8, v9, ly_1 hL, mj_rv_some, g2.1, nI_leI (show n < 2 ^ 31 by omega) (show b < 2 ^ 31 by omega), e0, if_false, e3, e4, k_lk hL g2 hlk (show a < 5 by omega) (show b < 5 by omega), Option.toList, List.cons_append, List.nil_append, nI_add, ci_110, cc_110, ci_107, cc_107, ci_120, cc_120, ci_105, cc_105, ci_108, cc_108, ci_117, cc_117, ci_100, cc_100, ci_109, cc_109, ci_77, cc_77, ci_121, cc_121, ci_106, cc_106, k_min, k_max, mj_is_wi, mj_ik_wi, mj_ln_wi, mj_r_wi, mj_i_ne n12]
    by_cases hbit : lk a / 2 ^ b % 2 = 0
    · simp only [hbit, if_true]
      exact ih (b + 1) h (by omega) hL hV g2 k0 vs (by rw [f1]; simp [mnF, hbit]) (by rw [f2]; simp [mxF, hbit]) f3 hQ
    · simp only [hbit, if_false, show ¬ nI 1 = nI 0 by decide]
      have s1 : mj_sx [v + 2] h (mj_wi (mj_wi h (v + 2) 109 (mnI (mj_i h (v + 2) 109) (mj_i h (v + 1) b))) (v + 2) 77 (mxI (mj_i (mj_wi h (v + 2) 109 (mnI (mj_i h (v + 2) 109) (mj_i h (v + 1) b))) (v + 2) 77) (mj_i h (v + 1) b))) := sx_tr (sx_wi (by simp)) (sx_wi (by simp))
      refine ih (b + 1) _ (by omega) (sx_Lay s1 hL) (VL_sx s1 hV) (Gr_sx s1 (by rcases hv with rfl | rfl <;> decide) g2) k0 vs ?_ ?_ (fun j hj => ?_) (fun h' q1 q2 q3 q4 => ?_)
      · simp [mj_i_wi, mnF, hbit, f1, f3 b (by omega)]
      · simp [mj_i_wi, mxF, hbit, f2, f3 b (by omega)]
      · rw [sx_i s1 (by simp)]
        exact f3 j hj
      · refine hQ h' (sx_tr s1 q1) (fun c h1 h2 => ?_) q3 q4
        rw [q2 c h1 h2]
        simp [mj_i_wi, h1, h2]
theorem k_standAt {n k e v a : Nat} {lk : Nat → Nat} {h : MH} (hv : v = 4 ∨ v = 20) (hn2 : 2 ≤ n) (hn : n ≤ 5) (ha : a < n) (hlk : ∀ a, lk a < 32) (hL : Lay h) (g1 : VL h v) (g2 : Gr h n k e lk)
    (hQ : ∀ h', mj_sx [v, v + 2] h h' → mj_i h' v 5 = nI a → (∀ j, j ≠ 5 → mj_i h' v j = mj_i h v j) → (∀ c, mj_i h' (v + 2) c = stF n k (lk a) (fun j => mj_i h (v + 1) j) a c (mj_i h (v + 2) c)) → Q (none, h')) : mj_Wp L xs (d + 1) 48 0 [some (.ref v), some (.int (nI a)), none, none] [] h Q := by
  have hV := g1
  obtain ⟨v1, v2, v3, v4, v5, v6, v7, v8, v9, v10, v11⟩ := g1
  have e3 : mj_in (nI a) 5 = true := mj_in_nI (by omega) (by omega)
  have e4 : (nI a).toNatClampNeg = a := nI_clamp (by omega)
  have e5 : nI n - nI 1 = nI (n - 1) := pk_sub (by omega)
  have n12 : v + 1 ≠ v + 2 := by omega
  have n1v : v + 1 ≠ v := by omega
  have m12 : (1 : Nat) ≠ v + 2 := by omega
  have m1v : (1 : Nat) ≠ v := by rcases hv with rfl | rfl <;> decide
  have m22 : (2 : Nat) ≠ v + 2 := by rcases hv with rfl | rfl <;> decide
  have m2v : (2 : Nat) ≠ v := by rcases hv with rfl | rfl <;> decide
  have p1 : mj_in (nI (if a = 0 then n - 1 else a - 1)) 5 = true := mj_in_nI (by split <;> omega) (by omega)
  have p2 : (nI (if a = 0 then n - 1 else a - 1)).toNatClampNeg = if a = 0 then n - 1 else a - 1 := nI_clamp (by split <;> omega)
  have p3 : mj_in (nI (if a = n - 1 then 0 else a + 1)) 5 = true := mj_in_nI (by split <;> omega) (by omega)
  have p4 : (nI (if a = n - 1 then 0 else a + 1)).toNatClampNeg = if a = n - 1 then 0 else a + 1 := nI_clamp (by split <;> omega)
  obtain ⟨h1, hh⟩ : ∃ h1, h1 = mj_wi (mj_wi (mj_wi (mj_wi (mj_wi (mj_wi (mj_wi (mj_wi h v 5 (nI a)) (v + 2) 120 (mj_i h (v + 1) a)) (v + 2) 105 (nI a)) (v + 2) 108 (mj_i h (v + 1) (if a = 0 then n - 1 else a - 1))) (v + 2) 117 (mj_i h (v + 1) (if a = n - 1 then 0 else a + 1))) (v + 2) 100 (bcI (nI (lk a)))) (v + 2) 109 (nI k)) (v + 2) 77 (-1) := ⟨_, rfl⟩
  have s1 : mj_sx [v, v + 2] h h1 := by
    rw [hh]
    refine sx_tr (sx_tr (sx_tr (sx_tr (sx_tr (sx_tr (sx_tr (sx_wi ?_) (sx_wi ?_)) (sx_wi ?_)) (sx_wi ?_)) (sx_wi ?_)) (sx_wi ?_)) (sx_wi ?_)) (sx_wi ?_) <;> simp
  have key : mj_Wp L xs (d + 1) 48 126 [some (.ref v), some (.int (nI a)), some (.int (nI (n - 1))), some (.int (nI 0))] [] h1 Q := by
    refine k_stand_loop hv hn ha hlk n 0 h1 (by omega) (sx_Lay s1 hL) (VL_sx s1 hV) (Gr_sx s1 (by rcases hv with rfl | rfl <;> decide) g2) (nI k) (fun j => mj_i h (v + 1) j) ?_ ?_ (fun j _ => ?_) (fun h' q1 q2 q3 q4 => ?_)
    · simp [hh, mj_i_wi, mnF]
    · simp [hh, mj_i_wi, mxF]
    · rw [sx_i s1 (by simp)]
    · refine hQ h' (sx_tr s1 (sx_mono q1 (by simp))) ?_ (fun j hj => ?_) (fun c => ?_)
      · rw [sx_i q1 (by simp)]
        simp [hh, mj_i_wi]
      · rw [sx_i q1 (by simp)]
        simp [hh, mj_i_wi, hj]
      · unfold stF
        by_cases c1 : c = 109
        · subst c1; simpa using q3
        · by_cases c2 : c = 77
          · subst c2; simpa using q4
          · rw [q2 c c1 c2]
            by_cases d1 : c = 120
            · subst d1; simp [hh, mj_i_wi]
            · by_cases d2 : c = 105
              · subst d2; simp [hh, mj_i_wi]
              · by_cases d3 : c = 108
                · subst d3; simp [hh, mj_i_wi]
                · by_cases d4 : c = 117
                  · subst d4; simp [hh, mj_i_wi]
                  · by_cases d5 : c = 100
                    · subst d5; simp [hh, mj_i_wi]
                    · simp [hh, mj_i_wi, c1, c2, d1, d2, d3, d4, d5]
  have z0 : (nI a = nI 0) = (a = 0) := by rw [nI_eq (by omega) (by omega)]
  have zl : (nI a = nI (n - 1)) = (a = n - 1) := by rw [nI_eq (by omega) (by omega)]
  have r1 : mj_in (nI (n - 1)) 5 = true := mj_in_nI (by omega) (by omega)
  have r2 : (nI (n - 1)).toNatClampNeg = n - 1 := nI_clamp (by omega)
  have r3 : mj_in (nI (a - 1)) 5 = true := mj_in_nI (by omega) (by omega)
  have r4 : (nI (a - 1)).toNatClampNeg = a - 1 := nI_clamp (by omega)
  have r5 : (nI (a + 1)).toNatClampNeg = a + 1 := nI_clamp (by omega)
  have r6 : mj_in (nI 0) 5 = true := by decide
  have r7 : (nI 0).toNatClampNeg = 0 := by decide
  have g26 := g2.2.2.2.2.2 a (by omega)
  rw [hh] at key
  by_cases c0 : a = 0
  · have cl : ¬ a = n - 1 := by omega
    have r8 : mj_in (nI (a + 1)) 5 = true := mj_in_nI (by omega) (by omega)
    have zt : (nI a = nI 0) = True := by rw [z0]; exact eq_true c0
    have zu : (nI a = nI (n - 1)) = False := by rw [zl]; exact eq_false cl
    simp only [if_pos c0, if_neg cl] at key
    simp only [w_48_0, w_48_1, w_48_4, w_48_7, w_48_8, w_48_9, w_48_10, w_48_11, w_48_12, w_48_15, w_48_16, w_48_19, w_48_21, w_48_22, w_48_25, w_48_26, w_48_27, w_48_28, w_48_29, w_48_32, w_48_34, w_48_35, w_48_36, w_48_37, w_48_40, w_48_42, w_48_43, w_48_46, w_48_47, w_48_50, w_48_51, w_48_54, w_48_55, w_48_56, w_48_57, w_48_58, w_48_59, w_48_60, w_48_63, w_48_65, w_48_66, w_48_69, w_48_70, w_48_71, w_48_74, w_48_75, w_48_78, w_48_79, w_48_80, w_48_81, w_48_82, w_48_83, w_48_84, w_48_87, w_48_89, w_48_90, w_48_93, w_48_96, w_48_97, w_48_98, w_48_101, w_48_102, w_48_103, w_48_106, w_48_108, w_48_109, w_48_112, w_48_115, w_48_116, w_48_117, w_48_120, w_48_122, w_48_123, w_48_124, w_48_125, v1, v2, v3, v4, v6, v7, v8, v9, ly_1 hL, lr_1_0 hL, lk_2 hL, ln_2 hL, mj_rv_some, g2.1, g2.2.1, g26, e3, e4, e5, zt, zu, if_true, if_false, not_true_eq_false, not_false_eq_true, r1, r2, r3, r4, r5, r6, r7, nI_add, ci_110, cc_110, ci_107, cc_107, ci_120, cc_120, ci_105, cc_105, ci_108, cc_108, ci_117, cc_117, ci_100, cc_100, ci_109, cc_109, ci_77, cc_77, ci_121, cc_121, ci_106, cc_106, k_bitCount, Option.toList, List.cons_append, List.nil_append, mj_is_wi, mj_ik_wi, mj_ln_wi, mj_r_wi, mj_i_ne n12, mj_i_ne n1v, mj_i_ne m12, mj_i_ne m1v, mj_i_ne m22, mj_i_ne m2v, r8]
    exact key
  · have zt : (nI a = nI 0) = False := by rw [z0]; exact eq_false c0
    by_cases cl : a = n - 1
    · have zu : (nI a = nI (n - 1)) = True := by rw [zl]; exact eq_true cl
      simp only [if_neg c0, if_pos cl] at key
      simp only [w_48_0, w_48_1, w_48_4, w_48_7, w_48_8, w_48_9, w_48_10, w_48_11, w_48_12, w_48_15, w_48_16, w_48_19, w_48_21, w_48_22, w_48_25, w_48_26, w_48_27, w_48_28, w_48_29, w_48_32, w_48_34, w_48_35, w_48_36, w_48_37, w_48_40, w_48_42, w_48_43, w_48_46, w_48_47, w_48_50, w_48_51, w_48_54, w_48_55, w_48_56, w_48_57, w_48_58, w_48_59, w_48_60, w_48_63, w_48_65, w_48_66, w_48_69, w_48_70, w_48_71, w_48_74, w_48_75, w_48_78, w_48_79, w_48_80, w_48_81, w_48_82, w_48_83, w_48_84, w_48_87, w_48_89, w_48_90, w_48_93, w_48_96, w_48_97, w_48_98, w_48_101, w_48_102, w_48_103, w_48_106, w_48_108, w_48_109, w_48_112, w_48_115, w_48_116, w_48_117, w_48_120, w_48_122, w_48_123, w_48_124, w_48_125, v1, v2, v3, v4, v6, v7, v8, v9, ly_1 hL, lr_1_0 hL, lk_2 hL, ln_2 hL, mj_rv_some, g2.1, g2.2.1, g26, e3, e4, e5, zt, zu, if_true, if_false, not_true_eq_false, not_false_eq_true, r1, r2, r3, r4, r5, r6, r7, nI_add, ci_110, cc_110, ci_107, cc_107, ci_120, cc_120, ci_105, cc_105, ci_108, cc_108, ci_117, cc_117, ci_100, cc_100, ci_109, cc_109, ci_77, cc_77, ci_121, cc_121, ci_106, cc_106, k_bitCount, Option.toList, List.cons_append, List.nil_append, mj_is_wi, mj_ik_wi, mj_ln_wi, mj_r_wi, mj_i_ne n12, mj_i_ne n1v, mj_i_ne m12, mj_i_ne m1v, mj_i_ne m22, mj_i_ne m2v, pk_sub (show 1 ≤ a by omega)]
      exact key
    · have r8 : mj_in (nI (a + 1)) 5 = true := mj_in_nI (by omega) (by omega)
      have zu : (nI a = nI (n - 1)) = False := by rw [zl]; exact eq_false cl
      simp only [if_neg c0, if_neg cl] at key
      simp only [w_48_0, w_48_1, w_48_4, w_48_7, w_48_8, w_48_9, w_48_10, w_48_11, w_48_12, w_48_15, w_48_16, w_48_19, w_48_21, w_48_22, w_48_25, w_48_26, w_48_27, w_48_28, w_48_29, w_48_32, w_48_34, w_48_35, w_48_36, w_48_37, w_48_40, w_48_42, w_48_43, w_48_46, w_48_47, w_48_50, w_48_51, w_48_54, w_48_55, w_48_56, w_48_57, w_48_58, w_48_59, w_48_60, w_48_63, w_48_65, w_48_66, w_48_69, w_48_70, w_48_71, w_48_74, w_48_75, w_48_78, w_48_79, w_48_80, w_48_81, w_48_82, w_48_83, w_48_84, w_48_87, w_48_89, w_48_90, w_48_93, w_48_96, w_48_97, w_48_98, w_48_101, w_48_102, w_48_103, w_48_106, w_48_108, w_48_109, w_48_112, w_48_115, w_48_116, w_48_117, w_48_120, w_48_122, w_48_123, w_48_124, w_48_125, v1, v2, v3, v4, v6, v7, v8, v9, ly_1 hL, lr_1_0 hL, lk_2 hL, ln_2 hL, mj_rv_some, g2.1, g2.2.1, g26, e3, e4, e5, zt, zu, if_true, if_false, not_true_eq_false, not_false_eq_true, r1, r2, r3, r4, r5, r6, r7, nI_add, ci_110, cc_110, ci_107, cc_107, ci_120, cc_120, ci_105, cc_105, ci_108, cc_108, ci_117, cc_117, ci_100, cc_100, ci_109, cc_109, ci_77, cc_77, ci_121, cc_121, ci_106, cc_106, k_bitCount, Option.toList, List.cons_append, List.nil_append, mj_is_wi, mj_ik_wi, mj_ln_wi, mj_r_wi, mj_i_ne n12, mj_i_ne n1v, mj_i_ne m12, mj_i_ne m1v, mj_i_ne m22, mj_i_ne m2v, r8, pk_sub (show 1 ≤ a by omega)]
      exact key
/-- View.lookAt -/
theorem k_lookAt {v b : Nat} {h : MH} (hb : b < 5) (g1 : VL h v) : mj_Wp L xs d 53 0 [some (.ref v), some (.int (nI b))] [] h Q ↔ Q (none, mj_wi (mj_wi h (v + 2) 121 (mj_i h (v + 1) b)) (v + 2) 106 (nI b)) := by
  obtain ⟨v1, v2, v3, v4, v5, v6, v7, v8, v9, v10, v11⟩ := g1
  have e3 : mj_in (nI b) 5 = true := mj_in_nI (by omega) (by omega)
  have e4 : (nI b).toNatClampNeg = b := nI_clamp (by omega)
  simp only [w_53_0, w_53_1, w_53_4, w_53_6, w_53_7, w_53_10, w_53_11, w_53_12, w_53_13, w_53_14, w_53_17, w_53_19, w_53_20, w_53_21, v1, v3, v4, v6, v7, v8, v9, mj_rv_some, e3, e4, ci_110, cc_110, ci_107, cc_107, ci_120, cc_120, ci_105, cc_105, ci_108, cc_108, ci_117, cc_117, ci_100, cc_100, ci_109, cc_109, ci_77, cc_77, ci_121, cc_121, ci_106, cc_106, mj_is_wi, mj_ik_wi, mj_ln_wi, mj_r_wi]
end StandK
