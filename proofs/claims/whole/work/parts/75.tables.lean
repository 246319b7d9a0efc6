/-! The reference: choices, and the tables of all states. -/
theorem bc_and : ∀ c, c < 32 → decide (nI c &&& (nI c - nI 1) = nI 0) = decide (c = 0 ∨ bcI (nI c) = nI 1) := by decide +kernel
/-- the reference's aim -/
def RA (h : MH) (ak : Nat) (GA : GD) : Prop := ak ≤ 2 ∧ mj_i h 25 8 = nI ak ∧ (ak = 2 → PGm h 6 GA)
theorem RA_sx {S : List Nat} {h h' : MH} {ak : Nat} {GA : GD} (q : mj_sx S h h') (hS : 29 ∉ S ∧ 30 ∉ S ∧ 31 ∉ S) (h8 : mj_i h' 25 8 = mj_i h 25 8) (a : RA h ak GA) : RA h' ak GA := ⟨a.1, h8.trans a.2.1, fun z => PGm_sx q hS (a.2.2 z)⟩
/-- what laying the tables leaves as it was -/
def FX (h h' : MH) : Prop := mj_sx [25, 38, 39, 40, 41, 42] h h' ∧ ∀ j, j ≠ 30 → mj_i h' 25 j = mj_i h 25 j
theorem FX_rf {h : MH} : FX h h := ⟨sx_rf, fun _ _ => rfl⟩
theorem FX_tr {h h' h'' : MH} (a : FX h h') (b : FX h' h'') : FX h h'' := ⟨sx_tr a.1 b.1, fun j hj => (b.2 j hj).trans (a.2 j hj)⟩
theorem FX_W {h h' : MH} (a : WX h h') : FX h h' := ⟨sx_mono a.1 (by decide), a.2⟩
theorem FX_o {S : List Nat} {h h' : MH} (q : mj_sx S h h') (hS : ∀ a ∈ S, a = 38 ∨ a = 40 ∨ a = 41 ∨ a = 42) : FX h h' := ⟨sx_mono q (fun a ha => by rcases hS a ha with rfl | rfl | rfl | rfl <;> decide), fun j _ => sx_i q (fun z => by have := hS 25 z; omega)⟩
theorem FX_RB {h h' : MH} {n k e : Nat} {lk : Nat → Nat} (q : FX h h') (a : RB h n k e lk) : RB h' n k e lk := RB_sx q.1 (by decide) (fun j hj => q.2 j (by omega)) a
theorem FX_RR {h h' : MH} {rn : Nat} {G : Nat → GD} {sm : SM} (q : FX h h') (a : RR h rn G sm) : RR h' rn G sm := RR_sx q.1 (by decide) (q.2 11 (by decide)) a
theorem FX_RA {h h' : MH} {ak : Nat} {GA : GD} (q : FX h h') (a : RA h ak GA) : RA h' ak GA := RA_sx q.1 (by decide) (q.2 8 (by decide)) a
/-- the tables, for the states below N -/
def TR (h : MH) (n k : Nat) (lk : Nat → Nat) (rn : Nat) (G : Nat → GD) (sm : SM) (ak : Nat) (GA : GD) (N : Nat) : Prop := ∀ s, s < N → mj_i h 40 s = nI (enS n k lk rn G s) ∧ (∀ x, x < n → frI n k lk rn G s x ≠ -1 → mj_i h 41 (5 * s + x) = shI n k lk rn G sm s x) ∧ mj_i h 42 s = bI (gdS n k lk rn G ak GA s)
theorem pc_0 : ∀ n, n < 6 → ∀ m, m < 32 → (!(decide (m < 2 ^ n)) || (decide (pcN m n = 0) == decide (m = 0))) = true := by decide +kernel
theorem pcN_le {m : Nat} : ∀ n, pcN m n ≤ n
  | 0 => Nat.le_refl _
  | n + 1 => by
    have := pcN_le (m := m) n
    rw [pcN]; omega
section TabK
variable {L : Nat} {xs : Nat → Int32} {d : Nat} {Q : Option Value × MH → Prop} {n k e : Nat} {lk : Nat → Nat}
theorem r_isChoice {h : MH} {sc en : Nat} {x : Int32} (hL : Lay h) (hs : mj_i h 25 7 = nI sc) (hsc : sc < 3) (he : en < 32) : mj_Wp L xs d 121 0 [some (.ref 25), some (.int x), some (.int (nI en))] [] h Q ↔ Q (some (.int (bI (alI sc en x))), h) := by
  simp only [w_121_0, w_121_1, w_121_4, w_121_5, w_121_6, w_121_7, w_121_8, w_121_9, w_121_12, w_121_13, w_121_14, w_121_15, w_121_18, w_121_19, w_121_22, w_121_23, w_121_26, w_121_27, w_121_30, w_121_31, w_121_32, w_121_35, w_121_38, w_121_39, w_121_40, w_121_41, w_121_42, w_121_43, w_121_46, w_121_47, w_121_50, w_121_51, ly_25 hL, hs, mj_fit_n0, mj_fit_n1]
  by_cases c1 : x ≤ nI 0
  · simp only [c1, if_true, alI, bI_0]
  by_cases c2' : ¬ x &&& (nI en ^^^ (-1)) = nI 0
  · simp only [c1, c2', if_false, alI, bI_0]
  have c2 : x &&& (nI en ^^^ (-1)) = nI 0 := Classical.not_not.mp c2'
  obtain ⟨c, hc, rfl⟩ := and_mask he c2
  have hc0 : ¬ c = 0 := fun z => by rw [z] at c1; exact c1 (by decide)
  have hb := bc_and c hc
  simp only [hc0, false_or] at hb
  simp only [c1, c2, if_true, if_false, alI]
  have h3 : sc = 0 ∨ sc = 1 ∨ sc = 2 := by omega
  rcases h3 with rfl | rfl | rfl
  · simp only [show ¬ nI 0 = nI 2 by decide, show ¬ nI 0 = nI 1 by decide, not_false_eq_true, if_true, if_false]
    by_cases z : bcI (nI c) = nI 1
    · have z2 : nI c &&& (nI c - nI 1) = nI 0 := by simpa [z] using hb
      simp only [z, z2, not_true_eq_false, if_false, decide_true, bI_1]
    · have z2 : ¬ nI c &&& (nI c - nI 1) = nI 0 := by simpa [z] using hb
      simp only [z, z2, not_false_eq_true, if_true, decide_false, bI_0]
  · simp only [show ¬ nI 1 = nI 2 by decide, not_true_eq_false, if_false, show ¬ (1 = 0) by decide, show ¬ (1 = 2) by decide]
    by_cases z : nI c = nI en
    · simp only [z, not_true_eq_false, if_false, decide_true, bI_1]
    · simp only [z, not_false_eq_true, if_true, decide_false, bI_0]
  · simp only [if_true, show ¬ (2 = 0) by decide, if_false, bI_1]
theorem r_behind {h : MH} {s c : Nat} (hL : Lay h) (h0 : mj_i h 25 0 = nI n) (hn : n ≤ 5) (hs : s < 1024) (hc : c < 32) : mj_Wp L xs d 122 0 [some (.ref 25), some (.int (nI s)), some (.int (nI c)), none, none] [] h Q ↔ Q (some (.int (afF (fun a => mj_i h 41 (5 * s + a)) c (nI s) n)), h) := by
  have lp : ∀ (m x : Nat), x + m = n → (mj_Wp L xs d 122 5 [some (.ref 25), some (.int (nI s)), some (.int (nI c)), some (.int (afF (fun a => mj_i h 41 (5 * s + a)) c (nI s) x)), some (.int (nI x))] [] h Q ↔ Q (some (.int (afF (fun a => mj_i h 41 (5 * s + a)) c (nI s) n)), h)) := by
    intro m
    induction m with
    | zero =>
      intro x hx
      have hx : x = n := by omega
      subst hx
      rw [w_122_5]
      simp only [w_122_7, w_122_8, w_122_11, w_122_48, w_122_49, ly_25 hL, h0, nI_leI (show x < 2 ^ 31 by omega) (show x < 2 ^ 31 by omega), Nat.le_refl, if_true]
    | succ m ih =>
      intro x hx
      have e0 : ¬ n ≤ x := by omega
      have e1 : mj_in (nI (5 * s + x)) 5120 = true := mj_in_nI (by omega) (by omega)
      have e2 : (nI (5 * s + x)).toNatClampNeg = 5 * s + x := nI_clamp (by omega)
      have ih := ih (x + 1) (by omega)
      rw [afF] at ih
      rw [w_122_5]
      simp only [w_122_7, w_122_8, w_122_11, w_122_14, w_122_15, w_122_17, w_122_18, w_122_19, w_122_20, w_122_21, w_122_24, w_122_25, w_122_26, w_122_29, w_122_30, w_122_31, w_122_32, w_122_34, w_122_35, w_122_36, w_122_37, w_122_40, w_122_41, w_122_42, w_122_45, ly_25 hL, lr_25_34 hL, lk_41 hL, ln_41 hL, mj_rv_some, h0, nI_leI (show n < 2 ^ 31 by omega) (show x < 2 ^ 31 by omega), e0, if_false, lb_I (show c < 2 ^ 31 by omega) (show x < 5 by omega), n5x, e1, e2, nI_add]
      by_cases hz : c / 2 ^ x % 2 = 0
      · rw [if_pos hz] at ih
        simp only [hz, show ¬ nI 0 = nI 1 by decide, not_false_eq_true, if_true]
        exact ih
      · rw [if_neg hz] at ih
        simp only [show c / 2 ^ x % 2 = 1 by omega, not_true_eq_false, if_false]
        exact ih
  simp only [w_122_0, w_122_1, w_122_2, w_122_3]
  exact lp n 0 (by omega)
theorem r_layTables {h : MH} {rn : Nat} {G : Nat → GD} {sm : SM} {ak : Nat} {GA : GD} (a : RB h n k e lk) (g : RR h rn G sm) (b : RA h ak GA)
    (hQ : ∀ h', FX h h' → TR h' n k lk rn G sm ak GA (k ^ n) → Q (none, h')) : mj_Wp L xs (d + 1 + 1 + 1 + 1 + 1 + 1) 106 0 [some (.ref 25), none, none, none, none, none] [] h Q := by
  have n10 : ¬ nI 1 = nI 0 := by decide
  have hN := RB_N a
  obtain ⟨a1, a2, a3, a4, a5, hL, a7, a8, a9, a10⟩ := id a
  have hak := b.1
  have r6 := g.1
  have lpS : ∀ (m s : Nat) (h1 : MH) (X Y Z W : Option Value), s + m = k ^ n → FX h h1 → TR h1 n k lk rn G sm ak GA s → mj_Wp L xs (d + 1 + 1 + 1 + 1 + 1 + 1) 106 2 [some (.ref 25), some (.int (nI s)), X, Y, Z, W] [] h1 Q := by
    intro m
    induction m with
    | zero =>
      intro s h1 X Y Z W hs f1 t1
      have b1 := FX_RB f1 a
      have hs : s = k ^ n := by omega
      rw [hs] at t1
      rw [w_106_2]
      simp only [w_106_3, w_106_4, w_106_7, w_106_199, ly_25 b1.2.2.2.2.2.1, r_states b1, Option.toList, List.cons_append, List.nil_append, hs, nI_leI (show k ^ n < 2 ^ 31 by omega) (show k ^ n < 2 ^ 31 by omega), Nat.le_refl, if_true]
      exact hQ h1 f1 t1
    | succ m ih =>
      intro s h1 X Y Z W hs f1 t1
      have hsN : s < k ^ n := by omega
      have b1 := FX_RB f1 a
      have hL1 := b1.2.2.2.2.2.1
      have e0 : ¬ k ^ n ≤ s := by omega
      have i1 : mj_in (nI s) 1024 = true := mj_in_nI (by omega) (by omega)
      have i2 : (nI s).toNatClampNeg = s := nI_clamp (by omega)
      -- the nodes of s
      have lpX : ∀ (m x : Nat) (h3 : MH) (W : Option Value), x + m = n → FX h h3 → LK h3 n k s → TR h3 n k lk rn G sm ak GA s → mj_i h3 40 s = nI (enN n k lk rn G s x) → (∀ y, y < x → frI n k lk rn G s y ≠ -1 → mj_i h3 41 (5 * s + y) = shI n k lk rn G sm s y) → mj_Wp L xs (d + 1 + 1 + 1 + 1 + 1 + 1) 106 29 [some (.ref 25), some (.int (nI s)), some (.int (nI (pcN (enS n k lk rn G s) x))), some (.int (bI (if ak = 2 then alF (gaF n k lk GA s) x else true))), some (.int (nI x)), W] [] h3 Q := by
        intro m
        induction m with
        | zero =>
          intro x h3 W hx f3 l3 t3 e3 q3
          have hx : x = n := by omega
          subst hx
          have b3 := FX_RB f3 a
          have ra := FX_RA f3 b
          have hL3 := b3.2.2.2.2.2.1
          have hen : enS x k lk rn G s < 2 ^ x := enN_lt x
          have h32 : enS x k lk rn G s < 32 := Nat.lt_of_lt_of_le hen (Nat.pow_le_pow_right (by decide) a2 : 2 ^ x ≤ 2 ^ 5)
          have hpc := pc_bc a2 hen
          have hp0 := pc_0 x (by omega) _ h32
          rw [decide_eq_true hen] at hp0
          have hpl := pcN_le (m := enS x k lk rn G s) x
          have fin : ∀ v : Bool, v = gdS x k lk rn G ak GA s → mj_Wp L xs (d + 1 + 1 + 1 + 1 + 1 + 1) 106 192 [some (.ref 25), some (.int (nI s)), some (.int (nI (pcN (enS x k lk rn G s) x))), some (.int (bI (if ak = 2 then alF (gaF x k lk GA s) x else true))), some (.int (nI x)), W] [.int (bI v), .int (nI s), .ref 42] h3 Q := by
            intro v hv
            simp only [w_106_192, w_106_193, w_106_196, lk_42 hL3, ln_42 hL3, i1, i2, nar_bI, nI_add]
            have s4 : mj_sx [42] h3 (mj_wi h3 42 s (bI v)) := sx_wi (by decide)
            refine ih (s + 1) _ _ _ _ _ (by omega) (FX_tr f3 (FX_o s4 (by simp))) (fun u hu => ?_)
            by_cases hus : u = s
            · rw [hus]
              exact ⟨by rw [sx_i s4 (by decide)]; exact e3, fun y hy hf => by rw [sx_i s4 (by decide)]; exact q3 y hy hf, by rw [← hv]; simp [mj_i_wi]⟩
            · obtain ⟨u1, u2, u3⟩ := t3 u (by omega)
              exact ⟨by rw [sx_i s4 (by decide)]; exact u1, fun y hy hf => by rw [sx_i s4 (by decide)]; exact u2 y hy hf, by rw [mj_i_wi]; simp only [hus, and_false, if_false]; exact u3⟩
          have z1 : (nI (pcN (enS x k lk rn G s) x) = nI 1) = (pcN (enS x k lk rn G s) x = 1) := by rw [nI_eq (by omega) (by omega)]
          have z0 : (nI (pcN (enS x k lk rn G s) x) = nI 0) = (pcN (enS x k lk rn G s) x = 0) := by rw [nI_eq (by omega) (by omega)]
          rw [w_106_29]
          simp only [w_106_31, w_106_32, w_106_35, w_106_146, w_106_147, w_106_150, w_106_151, w_106_152, w_106_155, ly_25 hL3, lr_25_35 hL3, mj_rv_some, b3.2.2.2.2.2.2.1, ra.2.1, nI_leI (show x < 2 ^ 31 by omega) (show x < 2 ^ 31 by omega), Nat.le_refl, if_true]
          have h3 : ak = 0 ∨ ak = 1 ∨ ak = 2 := by omega
          rcases h3 with h3 | h3 | h3
          · simp only [h3, not_true_eq_false, if_false, w_106_158, w_106_159, w_106_160, w_106_163, w_106_164, w_106_167, w_106_168, z1]
            have eg : gdS x k lk rn G ak GA s = decide (pcN (enS x k lk rn G s) x = 1) := by
              rw [gdS, gdB, if_pos h3, ← hpc, decide_eq_decide, nI_eq (by omega) (by omega)]
            by_cases z : pcN (enS x k lk rn G s) x = 1
            · have := fin true (by rw [eg, decide_eq_true z])
              rw [h3] at this
              simp only [z, not_true_eq_false, if_false]
              rw [z] at this
              exact this
            · have := fin false (by rw [eg, decide_eq_false z])
              rw [h3] at this
              simp only [z, not_false_eq_true, if_true]
              exact this
          · simp only [h3, n10, not_false_eq_true, if_true, w_106_171, w_106_172, w_106_175, w_106_176, w_106_179, w_106_180, w_106_183, w_106_184, w_106_187, w_106_188, ly_25 hL3, ra.2.1, not_true_eq_false, if_false, z0]
            have eg : gdS x k lk rn G ak GA s = decide (pcN (enS x k lk rn G s) x = 0) := by
              rw [gdS, gdB, if_neg (by omega), if_pos h3]
              have hp1 : pcN (enS x k lk rn G s) x = 0 ↔ enS x k lk rn G s = 0 := by simpa using hp0
              exact decide_eq_decide.mpr hp1.symm
            by_cases z : pcN (enS x k lk rn G s) x = 0
            · have := fin true (by rw [eg, decide_eq_true z])
              rw [h3] at this
              simp only [z, not_true_eq_false, if_false]
              rw [z] at this
              exact this
            · have := fin false (by rw [eg, decide_eq_false z])
              rw [h3] at this
              simp only [z, not_false_eq_true, if_true]
              exact this
          · simp only [h3, show ¬ nI 2 = nI 0 by decide, not_false_eq_true, if_true, w_106_171, w_106_172, w_106_175, w_106_176, w_106_191, ly_25 hL3, ra.2.1, show ¬ nI 2 = nI 1 by decide]
            have eg : gdS x k lk rn G ak GA s = alF (gaF x k lk GA s) x := by
              rw [gdS, gdB, if_neg (by omega), if_neg (by omega)]
            have := fin _ eg.symm
            rw [h3] at this
            simp only [if_true] at this
            exact this
        | succ m ihx =>
          intro x h3 W hx f3 l3 t3 e3 q3
          have hxn : x < n := by omega
          have b3 := FX_RB f3 a
          have hL3 := b3.2.2.2.2.2.1
          have x0 : ¬ n ≤ x := by omega
          have hbit : enS n k lk rn G s / 2 ^ x % 2 = if frI n k lk rn G s x = -1 then 0 else 1 := en_bit n hxn
          -- behind the rule: the aim
          have tl : ∀ (h5 : MH) (W : Option Value), FX h h5 → LK h5 n k s → TR h5 n k lk rn G sm ak GA s → mj_i h5 40 s = nI (enN n k lk rn G s (x + 1)) → (∀ y, y < x + 1 → frI n k lk rn G s y ≠ -1 → mj_i h5 41 (5 * s + y) = shI n k lk rn G sm s y) → mj_Wp L xs (d + 1 + 1 + 1 + 1 + 1 + 1) 106 111 [some (.ref 25), some (.int (nI s)), some (.int (nI (pcN (enS n k lk rn G s) (x + 1)))), some (.int (bI (if ak = 2 then alF (gaF n k lk GA s) x else true))), some (.int (nI x)), W] [] h5 Q := by
            intro h5 W f5 l5 t5 e5 q5
            have b5 := FX_RB f5 a
            have ra := FX_RA f5 b
            have hL5 := b5.2.2.2.2.2.1
            have go : ∀ (v : Bool) (h6 : MH), v = (if ak = 2 then alF (gaF n k lk GA s) (x + 1) else true) → WX h5 h6 → mj_Wp L xs (d + 1 + 1 + 1 + 1 + 1 + 1) 106 139 [some (.ref 25), some (.int (nI s)), some (.int (nI (pcN (enS n k lk rn G s) (x + 1)))), some (.int (bI (if ak = 2 then alF (gaF n k lk GA s) x else true))), some (.int (nI x)), W] [.int (bI v)] h6 Q := by
              intro v h6 hv w6
              simp only [w_106_139, w_106_140, w_106_143, nI_add]
              rw [hv]
              refine ihx (x + 1) h6 W (by omega) (FX_tr f5 (FX_W w6)) (WX_LK w6 l5) (fun u hu => ?_) (by rw [sx_i w6.1 (by decide)]; exact e5) (fun y hy hf => by rw [sx_i w6.1 (by decide)]; exact q5 y hy hf)
              obtain ⟨u1, u2, u3⟩ := t5 u hu
              exact ⟨by rw [sx_i w6.1 (by decide)]; exact u1, fun y hy hf => by rw [sx_i w6.1 (by decide)]; exact u2 y hy hf, by rw [sx_i w6.1 (by decide)]; exact u3⟩
            rw [w_106_111, w_106_112]
            by_cases h2 : ak = 2
            · simp only [h2, if_true] at go ⊢
              have r28 := ra.2.1
              rw [h2] at r28
              cases hal : alF (gaF n k lk GA s) x with
              | false =>
                rw [hal] at go
                simp only [bI_0, if_true, w_106_138]
                exact go false h5 (by rw [alF, hal]; rfl) WX_rf
              | true =>
                rw [hal] at go
                simp only [bI_1, n10, if_false, w_106_115, w_106_116, w_106_119, w_106_120, w_106_123, w_106_124, w_106_126, w_106_128, ly_25 hL5, r28, show ¬ nI 2 < nI 2 by decide]
                refine r_holds (d := d + 1) b5 l5 hxn (by decide) (ra.2.2 h2) (fun h6 w6 => ?_)
                have eg : GA n k (lk x) (vsF n k s) (ptN n k (lk x) s x) = gaF n k lk GA s x := rfl
                rw [eg]
                simp only [w_106_131, Option.toList, List.cons_append, List.nil_append]
                cases hga : gaF n k lk GA s x with
                | false =>
                  simp only [bI_0, if_true, w_106_138]
                  exact go false h6 (by rw [alF, hal, hga]; rfl) w6
                | true =>
                  simp only [bI_1, n10, if_false, w_106_134, w_106_135]
                  exact go true h6 (by rw [alF, hal, hga]; rfl) w6
            · simp only [h2, if_false, bI_1, n10, w_106_115, w_106_116, w_106_119, w_106_120, ly_25 hL5, ra.2.1, (nI_ltI (show ak < 2 ^ 31 by omega) (show 2 < 2 ^ 31 by decide)), show ak < 2 by omega, if_true, w_106_134, w_106_135] at go ⊢
              exact go true h5 rfl WX_rf
          rw [w_106_29]
          simp only [w_106_31, w_106_32, w_106_35, w_106_38, w_106_39, w_106_41, ly_25 hL3, b3.2.2.2.2.2.2.1, nI_leI (show n < 2 ^ 31 by omega) (show x < 2 ^ 31 by omega), x0, if_false]
          refine r_ruleFor b3 l3 (FX_RR f3 g) hxn (fun h4 w4 => ?_)
          have f4 := FX_tr f3 (FX_W w4)
          have b4 := FX_RB f4 a
          have hL4 := b4.2.2.2.2.2.1
          have l4 := WX_LK w4 l3
          have e4 : mj_i h4 40 s = nI (enN n k lk rn G s x) := by rw [sx_i w4.1 (by decide)]; exact e3
          have t4 : TR h4 n k lk rn G sm ak GA s := fun u hu => by
            obtain ⟨u1, u2, u3⟩ := t3 u hu
            exact ⟨by rw [sx_i w4.1 (by decide)]; exact u1, fun y hy hf => by rw [sx_i w4.1 (by decide)]; exact u2 y hy hf, by rw [sx_i w4.1 (by decide)]; exact u3⟩
          have q4 : ∀ y, y < x → frI n k lk rn G s y ≠ -1 → mj_i h4 41 (5 * s + y) = shI n k lk rn G sm s y := fun y hy hf => by rw [sx_i w4.1 (by decide)]; exact q3 y hy hf
          rcases fs_cases (p := gvF n k lk G s x) rn 0 with hf | ⟨r, -, hr, hf, -⟩
          · have hfr : frI n k lk rn G s x = -1 := hf
            rw [hfr]
            rw [hfr, if_pos rfl] at hbit
            have tl4 := tl h4 (some (.int (-1))) f4 l4 t4 (by rw [enN, if_pos hfr]; exact e4) (fun y hy hfy => by
              by_cases hyx : y = x
              · rw [hyx] at hfy; exact absurd hfr hfy
              · exact q4 y (by omega) hfy)
            rw [pcN, hbit, Nat.add_zero] at tl4
            simp only [w_106_44, w_106_46, w_106_48, Option.toList, List.cons_append, List.nil_append, show (-1 : Int32) < nI 0 by decide, if_true]
            exact tl4
          · have hfr : frI n k lk rn G s x = nI r := hf
            have hr' : r < rn := by omega
            have hne : ¬ nI r = -1 := nI_nm1 (by omega)
            have hnf : ¬ frI n k lk rn G s x = -1 := by rw [hfr]; exact hne
            have hlt : ¬ nI r < nI 0 := by rw [nI_ltI (by omega) (by omega)]; omega
            have hrc : (nI r).toNatClampNeg = r := nI_clamp (by omega)
            rw [if_neg hnf] at hbit
            have j1 : mj_in (nI (5 * s + x)) 5120 = true := mj_in_nI (by omega) (by omega)
            have j2 : (nI (5 * s + x)).toNatClampNeg = 5 * s + x := nI_clamp (by omega)
            have j3 : mj_in (nI x) 5 = true := mj_in_nI (by omega) (by omega)
            have j4 : (nI x).toNatClampNeg = x := nI_clamp (by omega)
            obtain ⟨h5, hh5⟩ : ∃ h5, h5 = mj_wi h4 40 s (nI (enN n k lk rn G s x + 2 ^ x)) := ⟨_, rfl⟩
            have s5 : mj_sx [40] h4 h5 := by rw [hh5]; exact sx_wi (by decide)
            have f5 := FX_tr f4 (FX_o s5 (by simp))
            have b5 := FX_RB f5 a
            have hL5 := b5.2.2.2.2.2.1
            have l5 : LK h5 n k s := fun j hj => by rw [sx_i s5 (by decide)]; exact l4 j hj
            rw [hfr]
            simp only [w_106_44, w_106_46, w_106_48, w_106_51, w_106_52, w_106_55, w_106_56, w_106_57, w_106_58, w_106_59, w_106_61, w_106_62, w_106_63, w_106_64, w_106_65, w_106_68, w_106_69, w_106_70, w_106_71, w_106_73, w_106_74, w_106_75, w_106_77, w_106_79, Option.toList, List.cons_append, List.nil_append, hlt, if_false, ly_25 hL4, lr_25_33 hL4, lk_40 hL4, ln_40 hL4, mj_rv_some, i1, i2, e4, or_2x x (by omega) _ (enN_lt x), ← hh5, ly_25 hL5, lr_25_34 hL5, n5x]
            refine r_sumFor (d := d + 1 + 1) b5 l5 hxn (show r < 8 by omega) ((FX_RR f5 g).2.2 r hr').2 (fun h6 w6 => ?_)
            have f6 := FX_tr f5 (FX_W w6)
            have b6 := FX_RB f6 a
            have hL6 := b6.2.2.2.2.2.1
            have l6 := WX_LK w6 l5
            have p1 : nI n - nI 1 - nI x = nI (n - 1 - x) := by rw [pk_sub (by omega), pk_sub (by omega)]
            have esm : fmI (smF k (ptN n k (lk x) s x) (sm r).1 (sm r).2.1 (sm r).2.2.1 (sm r).2.2.2) (nI k) = nvI n k lk rn G sm s x := by rw [nvI, hfr, hrc]; rfl
            rw [esm]
            obtain ⟨h7, hh7⟩ : ∃ h7, h7 = mj_wi h6 41 (5 * s + x) (shI n k lk rn G sm s x) := ⟨_, rfl⟩
            have esh : (nvI n k lk rn G sm s x - nI (dg n k s x)) * nI (k ^ (n - 1 - x)) = shI n k lk rn G sm s x := by rw [shI, if_neg hnf]
            simp only [w_106_82, w_106_83, w_106_86, w_106_88, w_106_89, w_106_90, w_106_91, w_106_94, w_106_95, w_106_98, w_106_99, w_106_100, w_106_102, w_106_103, w_106_106, w_106_107, w_106_108, Option.toList, List.cons_append, List.nil_append, ly_25 hL6, lr_25_28 hL6, lk_38 hL6, ln_38 hL6, lk_41 hL6, ln_41 hL6, mj_rv_some, j1, j2, j3, j4, l6 x hxn, b6.2.2.2.2.2.2.1, b6.2.2.2.2.2.2.2.1, p1, r_power (show n - 1 - x ≤ 5 by omega), esh, ← hh7, nI_add]
            have s7 : mj_sx [41] h6 h7 := by rw [hh7]; exact sx_wi (by decide)
            have f7 := FX_tr f6 (FX_o s7 (by simp))
            have tl7 := tl h7 (some (.int (nI r))) f7 (fun j hj => by rw [sx_i s7 (by decide)]; exact l6 j hj) (fun u hu => by
              obtain ⟨u1, u2, u3⟩ := t4 u hu
              refine ⟨?_, fun y hy hfy => ?_, ?_⟩
              · rw [sx_i s7 (by decide), sx_i w6.1 (by decide), hh5, mj_i_wi]
                simp only [show ¬ u = s by omega, and_false, if_false]
                exact u1
              · rw [hh7, mj_i_wi]
                simp only [show ¬ 5 * u + y = 5 * s + x by omega, and_false, if_false]
                rw [sx_i w6.1 (by decide), sx_i s5 (by decide)]
                exact u2 y hy hfy
              · rw [sx_i s7 (by decide), sx_i w6.1 (by decide), sx_i s5 (by decide)]
                exact u3) (by
              rw [sx_i s7 (by decide), sx_i w6.1 (by decide), hh5, enN, if_neg hnf]
              simp [mj_i_wi]) (fun y hy hfy => by
              by_cases hyx : y = x
              · rw [hh7, hyx]; simp [mj_i_wi]
              · rw [hh7, mj_i_wi]
                simp only [show ¬ 5 * s + y = 5 * s + x by omega, and_false, if_false]
                rw [sx_i w6.1 (by decide), sx_i s5 (by decide)]
                exact q4 y (by omega) hfy)
            rw [pcN, hbit] at tl7
            exact tl7
      rw [w_106_2]
      simp only [w_106_3, w_106_4, w_106_7, w_106_10, w_106_11, w_106_12, ly_25 hL1, r_states b1, Option.toList, List.cons_append, List.nil_append, nI_leI (show k ^ n < 2 ^ 31 by omega) (show s < 2 ^ 31 by omega), e0, if_false]
      refine r_lookAt b1 (by omega) (fun h2 s2 l2 => ?_)
      have f2 := FX_tr f1 (FX_o s2 (by simp))
      have b2 := FX_RB f2 a
      have hL2 := b2.2.2.2.2.2.1
      obtain ⟨h3, hh3⟩ : ∃ h3, h3 = mj_wi h2 40 s (nI 0) := ⟨_, rfl⟩
      have s3 : mj_sx [40] h2 h3 := by rw [hh3]; exact sx_wi (by decide)
      simp only [w_106_15, w_106_16, w_106_19, w_106_20, w_106_21, w_106_22, w_106_23, w_106_24, w_106_25, w_106_26, w_106_27, Option.toList, List.nil_append, ly_25 hL2, lr_25_33 hL2, lk_40 hL2, ln_40 hL2, mj_rv_some, i1, i2, ← hh3]
      have st := lpX n 0 h3 W (by omega) (FX_tr f2 (FX_o s3 (by simp))) (fun j hj => by rw [sx_i s3 (by decide)]; exact l2 j hj) (fun u hu => by
        obtain ⟨u1, u2, u3⟩ := t1 u hu
        refine ⟨?_, fun y hy hfy => ?_, ?_⟩
        · rw [hh3, mj_i_wi]
          simp only [show ¬ u = s by omega, and_false, if_false]
          rw [sx_i s2 (by decide)]; exact u1
        · rw [sx_i s3 (by decide), sx_i s2 (by decide)]; exact u2 y hy hfy
        · rw [sx_i s3 (by decide), sx_i s2 (by decide)]; exact u3) (by rw [hh3]; simp [mj_i_wi, enN]) (fun y hy => by omega)
      have eb : bI (if ak = 2 then alF (gaF n k lk GA s) 0 else true) = nI 1 := by
        rw [alF]; split <;> rfl
      rw [eb] at st
      exact st
  simp only [w_106_0, w_106_1]
  exact lpS (k ^ n) 0 h _ _ _ _ (by omega) FX_rf (fun u hu => by omega)
end TabK
