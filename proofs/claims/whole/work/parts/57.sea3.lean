/-! Search: measureFrom. -/
def MS (h : MH) (N : Nat) (mark tried dist : Nat → Nat) : Prop := ∀ s, s < N → mj_i h 16 s = nI (mark s) ∧ mj_i h 17 s = nI (tried s) ∧ mj_i h 15 s = nI (dist s)
theorem mx_nI {a b : Nat} (ha : a < 2 ^ 31) (hb : b < 2 ^ 31) : mxI (nI a) (nI b) = nI (max a b) := by
  unfold mxI
  by_cases h : a < b
  · rw [if_pos ((nI_ltI ha hb).mpr h), Nat.max_eq_right (by omega)]
  · rw [if_neg (fun z => h ((nI_ltI ha hb).mp z)), Nat.max_eq_left (by omega)]
section SeaK3
variable {L : Nat} {xs : Nat → Int32} {d : Nat} {Q : Option Value × MH → Prop}
theorem k_mf_loop {N n sc : Nat} {en : Nat → Nat} {sh : Nat → Nat → Int32} {af : Nat → Nat → Nat} {gd : Nat → Bool} {X1 : Option Value} (b : SE N n sc en sh af) : ∀ (w : Nat) (h : MH) (mark tried dist path : Nat → Nat) (dp pass : Nat) (X4 X5 X6 : Option Value), phi N mark tried ≤ w → pass + phi N mark tried ≤ 33792 → CS h N n sc en sh → MS h N mark tried dist → (∀ i, i < dp → mj_i h 18 i = nI (path i)) → DI N en (fun s => alB sc (en s)) af gd mark tried dist path dp →
    (∀ h' mark' tried' dist' path', mj_sx [15, 16, 17, 18] h h' → MS h' N mark' tried' dist' → DI N en (fun s => alB sc (en s)) af gd mark' tried' dist' path' 0 → phi N mark' tried' ≤ phi N mark tried → (∀ s, s < N → (mark s ≠ 0 → mark' s ≠ 0) ∧ (mark s = 2 → mark' s = 2 ∧ dist' s = dist s)) → Q (none, h')) → mj_Wp L xs (d + 1 + 1) 74 18 [some (.ref 11), X1, some (.int (nI dp)), some (.int (nI pass)), X4, X5, X6] [] h Q := by
  obtain ⟨b1, b2, b3, b4, b5, b6⟩ := id b
  intro w
  induction w with
  | zero =>
    intro h mark tried dist path dp pass X4 X5 X6 hw hp a ms hpa I hQ
    have hL := a.1
    have hdp : dp = 0 := by
      cases dp with
      | zero => rfl
      | succ dp => have := D_phi I; omega
    subst hdp
    have fin := hQ h mark tried dist path sx_rf ms I (Nat.le_refl _) (fun _ _ => ⟨fun q => q, fun q => ⟨q, rfl⟩⟩)
    rw [w_74_18]
    simp only [w_74_19, w_74_21, w_74_24, w_74_25, w_74_168, show nI 0 ≤ nI 0 by decide, if_true]
    split
    · exact fin
    · exact fin
  | succ w ih =>
    intro h mark tried dist path dp pass X4 X5 X6 hw hp a ms hpa I hQ
    obtain ⟨hL, a2, a3, a4, a5, a6⟩ := id a
    cases dp with
    | zero =>
      have fin := hQ h mark tried dist path sx_rf ms I (Nat.le_refl _) (fun _ _ => ⟨fun q => q, fun q => ⟨q, rfl⟩⟩)
      rw [w_74_18]
      simp only [w_74_19, w_74_21, w_74_24, w_74_25, w_74_168, show nI 0 ≤ nI 0 by decide, if_true]
      split
      · exact fin
      · exact fin
    | succ dp =>
      have hph := D_phi I
      obtain ⟨st, hst⟩ : ∃ st, st = path dp := ⟨_, rfl⟩
      have hstN : st < N := by rw [hst]; exact (I.2.1 dp (by omega)).1
      have hdpN : dp + 1 ≤ N := by
        have h1 := I.2.2.2.2.1
        have h2 : smN (opF mark) N ≤ 1 * N := sm_le N (fun i _ => by unfold opF; split <;> omega)
        omega
      have hds := I.1 st hstN
      have hmst : mark st = 1 := by rw [hst]; exact (I.2.1 dp (by omega)).2
      have e0 : ¬ 33792 ≤ pass := by omega
      have e1 : ¬ nI (dp + 1) ≤ nI 0 := by rw [nI_leI (by omega) (by omega)]; omega
      have e2 : nI (dp + 1) - nI 1 = nI dp := pk_sub (by omega)
      have e3 : mj_in (nI dp) 1024 = true := mj_in_nI (by omega) (by omega)
      have e4 : (nI dp).toNatClampNeg = dp := nI_clamp (by omega)
      have e5 : mj_i h 18 dp = nI st := by rw [hst]; exact hpa dp (by omega)
      have e6 : mj_in (nI st) 1024 = true := mj_in_nI (by omega) (by omega)
      have e7 : (nI st).toNatClampNeg = st := nI_clamp (by omega)
      obtain ⟨m1, m2, m3⟩ := ms st hstN
      have hen := b5 st hstN
      have ht := hds.2.1
      rw [w_74_18]
      simp only [w_74_19, w_74_21, w_74_24, w_74_25, w_74_28, w_74_29, w_74_32, w_74_33, w_74_34, w_74_35, w_74_36, w_74_38, w_74_39, w_74_42, w_74_44, w_74_45, w_74_46, w_74_47, w_74_49, w_74_51, w_74_52, w_74_55, w_74_57, w_74_58, ly_11 hL, lr_11_9 hL, lr_11_8 hL, lr_11_3 hL, lk_18 hL, ln_18 hL, lk_17 hL, ln_17 hL, lk_12 hL, ln_12 hL, mj_rv_some, nI_leI (show 33792 < 2 ^ 31 by omega) (show pass < 2 ^ 31 by omega), e0, if_false, e1, e2, e3, e4, e5, e6, e7, m2, nI_add, a5 st hstN, nI_leI (show tried st + 1 < 2 ^ 31 by omega) (show en st < 2 ^ 31 by omega)]
      by_cases hc : tried st + 1 ≤ en st
      · simp only [hc, if_true, w_74_75, w_74_76, w_74_77, w_74_80, w_74_82, w_74_83, w_74_85, ly_11 hL, lr_11_3 hL, lk_12 hL, ln_12 hL, mj_rv_some, e6, e7, a5 st hstN, k_allows hL a4 b4, Option.toList, List.cons_append, List.nil_append, w_74_88]
        cases ho : alI sc (en st) (nI (tried st + 1)) with
        | false =>
          have ho' : (fun s => alB sc (en s)) st (tried st + 1) = false := ho
          obtain ⟨I2, p2⟩ := D_skip I hst (by omega) ho'
          simp only [bI_0, not_true_eq_false, if_false, w_74_91, w_74_92, w_74_95, w_74_97, w_74_99, w_74_100, w_74_162, w_74_165, ly_11 hL, lr_11_8 hL, lk_17 hL, ln_17 hL, mj_rv_some, e6, e7, nI_add]
          have s1 : mj_sx [15, 16, 17, 18] h (mj_wi h 17 st (nI (tried st + 1))) := sx_wi (by decide)
          refine ih _ mark (uN tried st (tried st + 1)) dist path (dp + 1) (pass + 1) _ _ _ (by omega) (by omega) (CS_sx s1 (by decide) (by rw [mj_i_ne (by decide)]) a) (fun s hs => ?_) (fun i hi => by rw [mj_i_ne (by decide)]; exact hpa i hi) I2 (fun h' mk tr di pa q1 q2 q3 q4 q5 => hQ h' mk tr di pa (sx_tr s1 q1) q2 q3 (by omega) q5)
          obtain ⟨y1, y2, y3⟩ := ms s hs
          refine ⟨by rw [mj_i_ne (by decide)]; exact y1, ?_, by rw [mj_i_ne (by decide)]; exact y3⟩
          rw [mj_i_wi]
          by_cases h5 : s = st
          · rw [h5, uN_s]; simp
          · rw [uN_o h5]; simp [h5, y2]
        | true =>
          have ho' : alB sc (en st) (tried st + 1) = true := ho
          have hc32 : tried st + 1 < 32 := by omega
          obtain ⟨nx, hnx⟩ : ∃ nx, nx = af st (tried st + 1) := ⟨_, rfl⟩
          have hnN : nx < N := by rw [hnx]; exact (b6 st hstN _ hc32 ho').2
          have f1 : mj_in (nI nx) 1024 = true := mj_in_nI (by omega) (by omega)
          have f2 : (nI nx).toNatClampNeg = nx := nI_clamp (by omega)
          obtain ⟨x1, x2, x3⟩ := ms nx hnN
          have hdn := I.1 nx hnN
          have hmk := hdn.1
          have z0 : (nI (mark nx) = nI 0) = (mark nx = 0) := by rw [nI_eq (by omega) (by omega)]
          simp only [bI_1, show ¬ nI 1 = nI 0 by decide, not_false_eq_true, if_true, w_74_103, w_74_104, w_74_106, w_74_108, w_74_111, w_74_113, w_74_114, w_74_117, w_74_119, w_74_120, ly_11 hL, lr_11_7 hL, lk_16 hL, ln_16 hL, mj_rv_some, k_after a b hstN hc32 ho', ← hnx, Option.toList, List.cons_append, List.nil_append, f1, f2, x1, z0]
          by_cases hm : mark nx = 0
          · obtain ⟨dN, I2, p2⟩ := D_open I hst hc32 ho' hnx hnN hm
            have g1 : mj_in (nI (dp + 1)) 1024 = true := mj_in_nI (by omega) (by omega)
            have g2 : (nI (dp + 1)).toNatClampNeg = dp + 1 := nI_clamp (by omega)
            simp only [hm, not_true_eq_false, if_false, w_74_123, w_74_124, w_74_127, w_74_128, w_74_130, w_74_131, w_74_132, w_74_135, w_74_137, w_74_138, w_74_139, w_74_142, w_74_162, w_74_165, ly_11 hL, lr_11_9 hL, lr_11_7 hL, lk_16 hL, ln_16 hL, lk_18 hL, ln_18 hL, mj_rv_some, f1, f2, g1, g2, mj_is_wi, mj_ik_wi, mj_ln_wi, mj_r_wi, nI_add]
            have s1 : mj_sx [15, 16, 17, 18] h (mj_wi (mj_wi h 18 (dp + 1) (nI nx)) 16 nx (nI 1)) := sx_tr (sx_wi (by decide)) (sx_wi (by decide))
            refine ih _ (uN mark nx 1) tried dist (uN path (dp + 1) nx) (dp + 1 + 1) (pass + 1) _ _ _ (by omega) (by omega) (CS_sx s1 (by decide) (by rw [mj_i_ne (by decide), mj_i_ne (by decide)]) a) (fun s hs => ?_) (fun i hi => ?_) I2 (fun h' mk tr di pa q1 q2 q3 q4 q5 => hQ h' mk tr di pa (sx_tr s1 q1) q2 q3 (by omega) (fun s hs => ⟨fun hs0 => (q5 s hs).1 ?_, fun hs2 => (q5 s hs).2 (by rw [uN_o (fun z => by rw [z] at hs2; omega)]; exact hs2)⟩))
            · obtain ⟨y1, y2, y3⟩ := ms s hs
              refine ⟨?_, by rw [mj_i_ne (by decide), mj_i_ne (by decide)]; exact y2, by rw [mj_i_ne (by decide), mj_i_ne (by decide)]; exact y3⟩
              rw [mj_i_wi]
              by_cases h5 : s = nx
              · rw [h5, uN_s]; simp
              · rw [uN_o h5]; simp [h5, mj_i_ne (show 16 ≠ 18 by decide), y1]
            · rw [mj_i_ne (by decide), mj_i_wi]
              by_cases h5 : i = dp + 1
              · rw [h5, uN_s]; simp
              · rw [uN_o h5]; simp [h5, hpa i (by omega)]
            · by_cases h5 : s = nx
              · rw [h5, uN_s]; decide
              · rw [uN_o h5]; exact hs0
          · obtain ⟨I2, p2⟩ := D_learn I hst hc32 ho' hnx hnN hm
            have s1 : mj_sx [15, 16, 17, 18] h (mj_wi h 17 st (nI (tried st + 1))) := sx_wi (by decide)
            have hL1 := sx_Lay s1 hL
            simp only [hm, not_false_eq_true, if_true, w_74_145, w_74_146, w_74_149, w_74_151, w_74_153, w_74_154, w_74_155, w_74_157, w_74_159, w_74_162, w_74_165, ly_11 hL, lr_11_8 hL, lk_17 hL, ln_17 hL, mj_rv_some, e6, e7, mj_is_wi, k_learn hL1 (show st < 1024 by omega) (show nx < 1024 by omega), Option.toList, List.cons_append, List.nil_append, nI_add]
            have hb1 : dist st ≤ 1040000 := by have := hds.2.2.2.2.2.2.2; omega
            have hb2 : dist nx ≤ 1040000 := by have := hdn.2.2.2.2.2.2.2; omega
            have z1 : (nI (mark nx) = nI 1) = (mark nx = 1) := by rw [nI_eq (by omega) (by omega)]
            have ev : mxI (mj_i (mj_wi h 17 st (nI (tried st + 1))) 15 st) ((if mj_i (mj_wi h 17 st (nI (tried st + 1))) 16 nx = nI 1 then nI 1000000 else mj_i (mj_wi h 17 st (nI (tried st + 1))) 15 nx) + nI 1) = nI (max (dist st) ((if mark nx = 1 then 1000000 else dist nx) + 1)) := by
              rw [mj_i_ne (by decide), mj_i_ne (by decide), mj_i_ne (by decide), m3, x1, x3]
              simp only [z1]
              have : (if mark nx = 1 then nI 1000000 else nI (dist nx)) + nI 1 = nI ((if mark nx = 1 then 1000000 else dist nx) + 1) := by
                split <;> rw [nI_add]
              rw [this, mx_nI (by omega) (by split <;> omega)]
            rw [ev]
            have s2 : mj_sx [15, 16, 17, 18] h (mj_wi (mj_wi h 17 st (nI (tried st + 1))) 15 st (nI (max (dist st) ((if mark nx = 1 then 1000000 else dist nx) + 1)))) := sx_tr s1 (sx_wi (by decide))
            refine ih _ mark (uN tried st (tried st + 1)) _ path (dp + 1) (pass + 1) _ _ _ (by omega) (by omega) (CS_sx s2 (by decide) (by rw [mj_i_ne (by decide), mj_i_ne (by decide)]) a) (fun s hs => ?_) (fun i hi => by rw [mj_i_ne (by decide), mj_i_ne (by decide)]; exact hpa i hi) I2 (fun h' mk tr di pa q1 q2 q3 q4 q5 => hQ h' mk tr di pa (sx_tr s2 q1) q2 q3 (by omega) (fun s hs => ⟨(q5 s hs).1, fun hs2 => ⟨((q5 s hs).2 hs2).1, by rw [((q5 s hs).2 hs2).2, uN_o (fun z => by rw [z, hmst] at hs2; omega)]⟩⟩))
            obtain ⟨y1, y2, y3⟩ := ms s hs
            refine ⟨by rw [mj_i_ne (by decide), mj_i_ne (by decide)]; exact y1, ?_, ?_⟩
            · rw [mj_i_ne (by decide), mj_i_wi]
              by_cases h5 : s = st
              · rw [h5, uN_s]; simp
              · rw [uN_o h5]; simp [h5, y2]
            · rw [mj_i_wi]
              by_cases h5 : s = st
              · rw [h5, uN_s]; simp
              · rw [uN_o h5]; simp [h5, mj_i_ne (show 15 ≠ 17 by decide), y3]
      · obtain ⟨I2, p2⟩ := D_close I hst (by omega)
        have e8 : nI (dp + 1) + (-1) = nI dp := by
          have : (-1 : Int32) = - nI 1 := by decide
          rw [this, ← Int32.sub_eq_add_neg, e2]
        simp only [hc, if_false, w_74_61, w_74_62, w_74_65, w_74_67, w_74_68, w_74_69, w_74_72, w_74_162, w_74_165, ly_11 hL, lr_11_7 hL, lk_16 hL, ln_16 hL, mj_rv_some, e6, e7, nI_add, e8]
        have s1 : mj_sx [15, 16, 17, 18] h (mj_wi h 16 st (nI 2)) := sx_wi (by decide)
        refine ih _ (uN mark st 2) tried dist path dp (pass + 1) _ _ _ (by omega) (by omega) (CS_sx s1 (by decide) (by rw [mj_i_ne (by decide)]) a) (fun s hs => ?_) (fun i hi => by rw [mj_i_ne (by decide)]; exact hpa i (by omega)) I2 (fun h' mk tr di pa q1 q2 q3 q4 q5 => hQ h' mk tr di pa (sx_tr s1 q1) q2 q3 (by omega) (fun s hs => ⟨fun hs0 => (q5 s hs).1 ?_, fun hs2 => (q5 s hs).2 (by by_cases h6 : s = st; (· rw [h6, uN_s]); (· rw [uN_o h6]; exact hs2))⟩))
        · obtain ⟨y1, y2, y3⟩ := ms s hs
          refine ⟨?_, by rw [mj_i_ne (by decide)]; exact y2, by rw [mj_i_ne (by decide)]; exact y3⟩
          rw [mj_i_wi]
          by_cases h5 : s = st
          · rw [h5, uN_s]; simp
          · rw [uN_o h5]; simp [h5, y1]
        · by_cases h5 : s = st
          · rw [h5, uN_s]; decide
          · rw [uN_o h5]; exact hs0
theorem k_measureFrom {N n sc st : Nat} {en : Nat → Nat} {sh : Nat → Nat → Int32} {af : Nat → Nat → Nat} {gd : Nat → Bool} {h : MH} {mark tried dist path : Nat → Nat} (b : SE N n sc en sh af) (a : CS h N n sc en sh) (ms : MS h N mark tried dist) (I : DI N en (fun s => alB sc (en s)) af gd mark tried dist path 0) (hph : phi N mark tried ≤ 33792) (hst : st < N) (hm : mark st = 0)
    (hQ : ∀ h' mark' tried' dist' path', mj_sx [15, 16, 17, 18] h h' → MS h' N mark' tried' dist' → DI N en (fun s => alB sc (en s)) af gd mark' tried' dist' path' 0 → phi N mark' tried' ≤ 33792 → mark' st ≠ 0 → (∀ s, s < N → (mark s ≠ 0 → mark' s ≠ 0) ∧ (mark s = 2 → mark' s = 2 ∧ dist' s = dist s)) → Q (none, h')) : mj_Wp L xs (d + 1 + 1) 74 0 [some (.ref 11), some (.int (nI st)), none, none, none, none, none] [] h Q := by
  obtain ⟨b1, b2, b3, b4, b5, b6⟩ := id b
  have hL := a.1
  have e6 : mj_in (nI st) 1024 = true := mj_in_nI (by omega) (by omega)
  have e7 : (nI st).toNatClampNeg = st := nI_clamp (by omega)
  obtain ⟨I2, p2⟩ := D_start I hst hm
  simp only [w_74_0, w_74_1, w_74_2, w_74_3, w_74_6, w_74_7, w_74_8, w_74_9, w_74_10, w_74_13, w_74_14, w_74_15, w_74_16, w_74_17, ly_11 hL, lr_11_9 hL, lr_11_7 hL, lk_16 hL, ln_16 hL, lk_18 hL, ln_18 hL, mj_rv_some, e6, e7, show mj_in (nI 0) 1024 = true by decide, show (nI 0).toNatClampNeg = 0 by decide, mj_is_wi, mj_ik_wi, mj_ln_wi, mj_r_wi]
  have s1 : mj_sx [15, 16, 17, 18] h (mj_wi (mj_wi h 18 0 (nI st)) 16 st (nI 1)) := sx_tr (sx_wi (by decide)) (sx_wi (by decide))
  refine k_mf_loop b 33792 _ (uN mark st 1) tried dist (uN path 0 st) 1 0 _ _ _ (by omega) (by omega) (CS_sx s1 (by decide) (by rw [mj_i_ne (by decide), mj_i_ne (by decide)]) a) (fun s hs => ?_) (fun i hi => ?_) I2 (fun h' mk tr di pa q1 q2 q3 q4 q5 => hQ h' mk tr di pa (sx_tr s1 q1) q2 q3 (by omega) ((q5 st hst).1 (by rw [uN_s]; decide)) (fun s hs => ⟨fun hs0 => (q5 s hs).1 ?_, fun hs2 => (q5 s hs).2 (by rw [uN_o (fun z => by rw [z] at hs2; omega)]; exact hs2)⟩))
  · obtain ⟨y1, y2, y3⟩ := ms s hs
    refine ⟨?_, by rw [mj_i_ne (by decide), mj_i_ne (by decide)]; exact y2, by rw [mj_i_ne (by decide), mj_i_ne (by decide)]; exact y3⟩
    rw [mj_i_wi]
    by_cases h5 : s = st
    · rw [h5, uN_s]; simp
    · rw [uN_o h5]; simp [h5, mj_i_ne (show 16 ≠ 18 by decide), y1]
  · have : i = 0 := by omega
    rw [this, mj_i_ne (by decide), uN_s, mj_i_wi]
    simp
  · by_cases h5 : s = st
    · rw [h5, uN_s]; decide
    · rw [uN_o h5]; exact hs0
def mxN (f : Nat → Nat) : Nat → Nat
  | 0 => 0
  | j + 1 => max (mxN f j) (f j)
theorem mxN_cong {f g : Nat → Nat} : ∀ j, (∀ i, i < j → f i = g i) → mxN f j = mxN g j
  | 0, _ => rfl
  | j + 1, q => by rw [mxN, mxN, mxN_cong j (fun i hi => q i (by omega)), q j (by omega)]
theorem mxN_le {f : Nat → Nat} {B : Nat} : ∀ j, (∀ i, i < j → f i ≤ B) → mxN f j ≤ B
  | 0, _ => Nat.zero_le _
  | j + 1, q => by
    have := mxN_le (f := f) (B := B) j (fun i hi => q i (by omega))
    have := q j (by omega)
    rw [mxN]; omega
theorem mxN_ge {f : Nat → Nat} {i : Nat} : ∀ j, i < j → f i ≤ mxN f j
  | j + 1, h => by
    rw [mxN]
    by_cases e : i = j
    · subst e; omega
    · have := mxN_ge (f := f) j (show i < j by omega); omega
theorem mxN_at {f : Nat → Nat} : ∀ j, 0 < mxN f j → ∃ i, i < j ∧ f i = mxN f j
  | j + 1, h => by
    rw [mxN] at h ⊢
    by_cases e : mxN f j ≤ f j
    · exact ⟨j, by omega, by omega⟩
    · obtain ⟨i, h1, h2⟩ := mxN_at (f := f) j (by omega)
      exact ⟨i, by omega, by omega⟩
theorem k_measure {N n sc : Nat} {en : Nat → Nat} {sh : Nat → Nat → Int32} {af : Nat → Nat → Nat} {gd : Nat → Bool} {h : MH} (b : SE N n sc en sh af) (a : CS h N n sc en sh) (g : CG h N gd)
    (hQ : ∀ h' mark tried dist path, mj_sx [11, 15, 16, 17, 18] h h' → (∀ j, j ≠ 14 → mj_i h' 11 j = mj_i h 11 j) → MS h' N mark tried dist → DI N en (fun s => alB sc (en s)) af gd mark tried dist path 0 → (∀ s, s < N → mark s ≠ 0) → mj_i h' 11 14 = nI (mxN dist N) → Q (none, h')) : mj_Wp L xs (d + 1 + 1 + 1) 73 0 [some (.ref 11), none] [] h Q := by
  obtain ⟨b1, b2, b3, b4, b5, b6⟩ := id b
  have n10 : ¬ nI 1 = nI 0 := by decide
  -- the second loop
  have lp2 : ∀ (m s : Nat) (h : MH) (mark tried dist path : Nat → Nat), s + m = N → CS h N n sc en sh → MS h N mark tried dist → DI N en (fun s => alB sc (en s)) af gd mark tried dist path 0 → phi N mark tried ≤ 33792 → (∀ t, t < s → mark t ≠ 0) → mj_i h 11 14 = nI (mxN dist s) →
      (∀ h' mark tried dist path, mj_sx [11, 15, 16, 17, 18] h h' → (∀ j, j ≠ 14 → mj_i h' 11 j = mj_i h 11 j) → MS h' N mark tried dist → DI N en (fun s => alB sc (en s)) af gd mark tried dist path 0 → (∀ s, s < N → mark s ≠ 0) → mj_i h' 11 14 = nI (mxN dist N) → Q (none, h')) → mj_Wp L xs (d + 1 + 1 + 1) 73 60 [some (.ref 11), some (.int (nI s))] [] h Q := by
    intro m
    induction m with
    | zero =>
      intro s h mark tried dist path hs a ms I hph hmk hlg hQ
      have hs : s = N := by omega
      subst hs
      have hL := a.1
      rw [w_73_60]
      simp only [w_73_61, w_73_62, w_73_65, w_73_68, w_73_108, ly_11 hL, lr_11_0 hL, ly_1 hL, mj_rv_some, a.2.2.1, nI_leI (show s < 2 ^ 31 by omega) (show s < 2 ^ 31 by omega), Nat.le_refl, if_true]
      exact hQ h mark tried dist path sx_rf (fun _ _ => rfl) ms I hmk hlg
    | succ m ih =>
      intro s h mark tried dist path hs a ms I hph hmk hlg hQ
      have hL := a.1
      have hsN : s < N := by omega
      have e0 : ¬ N ≤ s := by omega
      have e6 : mj_in (nI s) 1024 = true := mj_in_nI (by omega) (by omega)
      have e7 : (nI s).toNatClampNeg = s := nI_clamp (by omega)
      have hm2 := (I.1 s hsN).1
      have z0 : (nI (mark s) = nI 0) = (mark s = 0) := by rw [nI_eq (by omega) (by omega)]
      -- what comes behind measureFrom
      have tail : ∀ (h1 : MH) (mark' tried' dist' path' : Nat → Nat), CS h1 N n sc en sh → MS h1 N mark' tried' dist' → DI N en (fun s => alB sc (en s)) af gd mark' tried' dist' path' 0 → phi N mark' tried' ≤ 33792 → (∀ t, t < s + 1 → mark' t ≠ 0) → mj_i h1 11 14 = nI (mxN dist' s) → (∀ h' mark tried dist path, mj_sx [11, 15, 16, 17, 18] h1 h' → (∀ j, j ≠ 14 → mj_i h' 11 j = mj_i h1 11 j) → MS h' N mark tried dist → DI N en (fun s => alB sc (en s)) af gd mark tried dist path 0 → (∀ s, s < N → mark s ≠ 0) → mj_i h' 11 14 = nI (mxN dist N) → Q (none, h')) → mj_Wp L xs (d + 1 + 1 + 1) 73 85 [some (.ref 11), some (.int (nI s))] [] h1 Q := by
        intro h1 mark' tried' dist' path' a' ms' I' hph' hmk' hlg' hQ'
        have hL1 := a'.1
        have db : ∀ t, t < N → dist' t ≤ 1040000 := fun t ht => by have := (I'.1 t ht).2.2.2.2.2.2.2; omega
        have mb : mxN dist' s ≤ 1040000 := mxN_le s (fun i hi => db i (by omega))
        have db' := db s hsN
        simp only [w_73_85, w_73_86, w_73_87, w_73_90, w_73_91, w_73_94, w_73_95, w_73_96, w_73_99, w_73_102, w_73_105, ly_11 hL1, lr_11_6 hL1, lk_15 hL1, ln_15 hL1, mj_rv_some, e6, e7, hlg', (ms' s hsN).2.2, k_max, mx_nI (show mxN dist' s < 2 ^ 31 by omega) (show dist' s < 2 ^ 31 by omega), Option.toList, List.cons_append, List.nil_append, nI_add]
        have s1 : mj_sx [11, 15, 16, 17, 18] h1 (mj_wi h1 11 14 (nI (max (mxN dist' s) (dist' s)))) := sx_wi (by decide)
        refine ih (s + 1) _ mark' tried' dist' path' (by omega) (CS_sx s1 (by decide) (by simp [mj_i_wi]) a') (fun t ht => by simpa [mj_i_wi] using ms' t ht) I' hph' hmk' (by simp [mj_i_wi, mxN]) (fun h' mk tr di pa q1 q2 q3 q4 q5 q6 => hQ' h' mk tr di pa (sx_tr s1 q1) (fun j hj => by rw [q2 j hj]; simp [mj_i_wi, hj]) q3 q4 q5 q6)
      rw [w_73_60]
      simp only [w_73_61, w_73_62, w_73_65, w_73_68, w_73_71, w_73_72, w_73_75, w_73_76, w_73_77, w_73_80, w_73_81, w_73_82, ly_11 hL, lr_11_0 hL, lr_11_7 hL, lk_16 hL, ln_16 hL, ly_1 hL, mj_rv_some, a.2.2.1, nI_leI (show N < 2 ^ 31 by omega) (show s < 2 ^ 31 by omega), e0, if_false, e6, e7, (ms s hsN).1, z0]
      by_cases hm : mark s = 0
      · simp only [hm, not_true_eq_false, if_false]
        refine k_measureFrom b a ms I hph hsN hm (fun h1 mk tr di pa q1 q2 q3 q4 q5 q6 => ?_)
        simp only [Option.toList, List.nil_append]
        refine tail h1 mk tr di pa (CS_sx q1 (by decide) (by rw [sx_i q1 (by decide)]) a) q2 q3 q4 (fun t ht => ?_) ?_ (fun h' mk' tr' di' pa' p1 p2 p3 p4 p5 p6 => hQ h' mk' tr' di' pa' (sx_tr (sx_mono q1 (by decide)) p1) (fun j hj => by rw [p2 j hj, sx_i q1 (by decide)]) p3 p4 p5 p6)
        · by_cases h7 : t = s
          · rw [h7]; exact q5
          · exact (q6 t (by omega)).1 (hmk t (by omega))
        · rw [sx_i q1 (by decide), hlg]
          congr 1
          refine mxN_cong s (fun i hi => ?_)
          have h8 := hmk i hi
          have h9 := (I.1 i (by omega)).1
          have h10 : mark i ≠ 1 := fun z => by obtain ⟨j, h4, _⟩ := I.2.2.2.1 i (by omega) z; omega
          exact (((q6 i (by omega)).2 (by omega)).2).symm
      · simp only [hm, not_false_eq_true, if_true]
        refine tail h mark tried dist path a ms I hph (fun t ht => ?_) hlg hQ
        by_cases h7 : t = s
        · rw [h7]; exact hm
        · exact hmk t (by omega)
  -- the first loop
  have lp1 : ∀ (m s : Nat) (h : MH), s + m = N → CS h N n sc en sh → CG h N gd → (∀ t, t < s → mj_i h 16 t = nI (if gd t = true then 2 else 0) ∧ mj_i h 17 t = nI 0 ∧ mj_i h 15 t = nI 0) →
      (∀ h' mark tried dist path, mj_sx [11, 15, 16, 17, 18] h h' → (∀ j, j ≠ 14 → mj_i h' 11 j = mj_i h 11 j) → MS h' N mark tried dist → DI N en (fun s => alB sc (en s)) af gd mark tried dist path 0 → (∀ s, s < N → mark s ≠ 0) → mj_i h' 11 14 = nI (mxN dist N) → Q (none, h')) → mj_Wp L xs (d + 1 + 1 + 1) 73 2 [some (.ref 11), some (.int (nI s))] [] h Q := by
    intro m
    induction m with
    | zero =>
      intro s h hs a g hin hQ
      have hs : s = N := by omega
      subst hs
      have hL := a.1
      rw [w_73_2]
      simp only [w_73_3, w_73_4, w_73_7, w_73_10, w_73_53, w_73_54, w_73_55, w_73_58, w_73_59, ly_11 hL, lr_11_0 hL, ly_1 hL, mj_rv_some, a.2.2.1, nI_leI (show s < 2 ^ 31 by omega) (show s < 2 ^ 31 by omega), Nat.le_refl, if_true]
      have s1 : mj_sx [11, 15, 16, 17, 18] h (mj_wi h 11 14 (nI 0)) := sx_wi (by decide)
      obtain ⟨I0, p0⟩ := D_init (N := s) (en := en) (ok := fun s => alB sc (en s)) (af := af) (gd := gd) (mark := fun t => if gd t = true then 2 else 0) (tried := fun _ => 0) (dist := fun _ => 0) (path := fun _ => 0) (fun t ht => by
        cases hz : (fun s => alB sc (en s)) t 0 with
        | false => rfl
        | true => have := (alB_lt (b5 t ht) (by decide) hz).1; omega) b3 (fun _ _ => rfl) (fun _ _ => rfl) (fun _ _ => rfl)
      refine lp2 s 0 _ _ _ _ _ (by omega) (CS_sx s1 (by decide) (by simp [mj_i_wi]) a) (fun t ht => by simpa [mj_i_wi] using hin t ht) I0 p0 (fun t ht => by omega) (by simp [mj_i_wi, mxN]) (fun h' mk tr di pa q1 q2 q3 q4 q5 q6 => hQ h' mk tr di pa (sx_tr s1 q1) (fun j hj => by rw [q2 j hj]; simp [mj_i_wi, hj]) q3 q4 q5 q6)
    | succ m ih =>
      intro s h hs a g hin hQ
      have hL := a.1
      have hsN : s < N := by omega
      have e0 : ¬ N ≤ s := by omega
      have e6 : mj_in (nI s) 1024 = true := mj_in_nI (by omega) (by omega)
      have e7 : (nI s).toNatClampNeg = s := nI_clamp (by omega)
      rw [w_73_2]
      simp only [w_73_3, w_73_4, w_73_7, w_73_10, w_73_13, w_73_14, w_73_17, w_73_18, w_73_19, w_73_20, w_73_21, w_73_24, w_73_25, w_73_26, w_73_27, w_73_28, w_73_31, w_73_32, w_73_33, w_73_36, w_73_37, w_73_38, w_73_41, w_73_42, w_73_45, w_73_46, w_73_47, w_73_50, ly_11 hL, lr_11_0 hL, lr_11_5 hL, lr_11_6 hL, lr_11_7 hL, lr_11_8 hL, lk_14 hL, ln_14 hL, lk_15 hL, ln_15 hL, lk_16 hL, ln_16 hL, lk_17 hL, ln_17 hL, ly_1 hL, mj_rv_some, a.2.2.1, nI_leI (show N < 2 ^ 31 by omega) (show s < 2 ^ 31 by omega), e0, if_false, e6, e7, mj_is_wi, mj_ik_wi, mj_ln_wi, mj_r_wi, mj_i_ne (show 14 ≠ 17 by decide), mj_i_ne (show 14 ≠ 15 by decide), g s hsN, nI_add]
      have fin : ∀ x, x = nI (if gd s = true then 2 else 0) → mj_Wp L xs (d + 1 + 1 + 1) 73 2 [some (.ref 11), some (.int (nI (s + 1)))] [] (mj_wi (mj_wi (mj_wi h 15 s (nI 0)) 17 s (nI 0)) 16 s x) Q := by
        intro x hx
        have s1 : mj_sx [11, 15, 16, 17, 18] h (mj_wi (mj_wi (mj_wi h 15 s (nI 0)) 17 s (nI 0)) 16 s x) := sx_tr (sx_tr (sx_wi (by decide)) (sx_wi (by decide))) (sx_wi (by decide))
        refine ih (s + 1) _ (by omega) (CS_sx s1 (by decide) (by simp [mj_i_wi]) a) (CG_sx s1 (by decide) g) (fun t ht => ?_) (fun h' mk tr di pa q1 q2 q3 q4 q5 q6 => hQ h' mk tr di pa (sx_tr s1 q1) (fun j hj => by rw [q2 j hj]; simp [mj_i_wi]) q3 q4 q5 q6)
        by_cases h7 : t = s
        · rw [h7]
          simp [mj_i_wi, hx]
        · have := hin t (by omega)
          simp only [mj_i_wi]
          simpa [h7] using this
      cases hg : gd s with
      | true =>
        simp only [bI_1, n10, if_false]
        exact fin _ (by rw [hg]; rfl)
      | false =>
        simp only [bI_0, if_true]
        exact fin _ (by rw [hg]; rfl)
  simp only [w_73_0, w_73_1]
  exact lp1 N 0 h (by omega) a g (fun t ht => by omega) hQ
end SeaK3
