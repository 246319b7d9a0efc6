/-! The reference: which states last outside the good ones. -/
def LI (N : Nat) (ok : Nat → Nat → Bool) (af : Nat → Nat → Nat) (gd : Nat → Bool) (la : Nat → Bool) (D : Nat → Nat) : Prop := ∀ s, s < N → (gd s = true → la s = false) ∧ (InX N ok af gd s → la s = true) ∧ (la s = false → (gd s = true → D s = 0) ∧ (gd s = false → (∀ c, c < 32 → ok s c = true → la (af s c) = false ∧ D (af s c) + 1 ≤ D s) ∧ ∃ c, c < 32 ∧ ok s c = true ∧ D s = D (af s c) + 1))
def laU (la : Nat → Bool) (s : Nat) : Nat → Bool := fun t => if t = s then false else la t
def laC (la : Nat → Bool) (s : Nat) : Nat := if la s = true then 1 else 0
theorem mx_ex {p : Nat → Bool} {f : Nat → Nat} : ∀ m, (∃ c, c < m ∧ p c = true) → ∃ c, c < m ∧ p c = true ∧ ∀ i, i < m → p i = true → f i ≤ f c
  | 0, ⟨c, h, _⟩ => by omega
  | m + 1, ⟨c, h1, h2⟩ => by
    by_cases hm : ∃ c, c < m ∧ p c = true
    · obtain ⟨j, j1, j2, j3⟩ := mx_ex (f := f) m hm
      by_cases hp : p m = true ∧ f j < f m
      · refine ⟨m, by omega, hp.1, fun i i1 i2 => ?_⟩
        by_cases him : i = m
        · rw [him]; exact Nat.le_refl _
        · have := j3 i (by omega) i2
          omega
      · refine ⟨j, by omega, j2, fun i i1 i2 => ?_⟩
        by_cases him : i = m
        · rw [him] at i2 ⊢
          exact Nat.le_of_not_lt (fun z => hp ⟨i2, z⟩)
        · exact j3 i (by omega) i2
    · have hcm : c = m := by
        by_cases z : c = m
        · exact z
        · exact absurd ⟨c, by omega, h2⟩ hm
      refine ⟨c, h1, h2, fun i i1 i2 => ?_⟩
      by_cases him : i = m
      · rw [him, hcm]; exact Nat.le_refl _
      · exact absurd ⟨i, by omega, i2⟩ hm
section LastP
variable {N : Nat} {ok : Nat → Nat → Bool} {af : Nat → Nat → Nat} {gd : Nat → Bool} {la : Nat → Bool} {D : Nat → Nat}
theorem LI_init : LI N ok af gd (fun s => !(gd s)) (fun _ => 0) := fun s hs => by
  refine ⟨fun h => by simp [h], fun h => by simp [(InX_step h).2.1], fun h => ⟨fun _ => rfl, fun h2 => ?_⟩⟩
  simp [h2] at h
theorem LI_rem (i : LI N ok af gd la D) {s : Nat} (hs : s < N) (hA : ∀ s, s < N → ∀ c, c < 32 → ok s c = true → af s c < N) (hl : la s = true) (hne : ∃ c, c < 32 ∧ ok s c = true) (hno : ∀ c, c < 32 → ok s c = true → la (af s c) = false) : ∃ D', LI N ok af gd (laU la s) D' := by
  obtain ⟨c0, c1, c2, c3⟩ := mx_ex (p := fun c => ok s c) (f := fun c => D (af s c)) 32 hne
  have hg : gd s = false := by
    cases hg : gd s with
    | false => rfl
    | true => rw [(i s hs).1 hg] at hl; cases hl
  have ns : ∀ t, la t = false → t ≠ s := fun t ht z => by rw [z, hl] at ht; cases ht
  refine ⟨uN D s (D (af s c0) + 1), fun u hu => ?_⟩
  by_cases hus : u = s
  · rw [hus]
    refine ⟨fun h => (by rw [hg] at h; cases h), fun h => ?_, fun _ => ⟨fun h => (by rw [hg] at h; cases h), fun _ => ⟨fun c hc ho => ?_, c0, c1, c2, ?_⟩⟩⟩
    · obtain ⟨_, _, c, x1, x2, x3⟩ := InX_step h
      have := (i _ (hA s hs c x1 x2)).2.1 x3
      rw [hno c x1 x2] at this; cases this
    · have h1 := hno c hc ho
      have h2 := ns _ h1
      refine ⟨by rw [laU, if_neg h2]; exact h1, ?_⟩
      rw [uN_s, uN_o h2]
      have := c3 c hc ho
      omega
    · rw [uN_s, uN_o (ns _ (hno c0 c1 c2))]
  · obtain ⟨i1, i2, i3⟩ := i u hu
    have e1 : laU la s u = la u := if_neg hus
    rw [e1, uN_o hus]
    refine ⟨i1, i2, fun h => ⟨(i3 h).1, fun h2 => ?_⟩⟩
    obtain ⟨y1, c, y2, y3, y4⟩ := (i3 h).2 h2
    refine ⟨fun c hc ho => ?_, c, y2, y3, ?_⟩
    · obtain ⟨z1, z2⟩ := y1 c hc ho
      have z3 := ns _ z1
      exact ⟨by rw [laU, if_neg z3]; exact z1, by rw [uN_o z3]; exact z2⟩
    · rw [uN_o (ns _ (y1 c y2 y3).1)]; exact y4
theorem LI_fix (i : LI N ok af gd la D) (hA : ∀ s, s < N → ∀ c, c < 32 → ok s c = true → af s c < N) (hfx : ∀ u, u < N → la u = true → ∃ c, c < 32 ∧ ok u c = true ∧ la (af u c) = true) {s : Nat} (hs : s < N) : la s = true ↔ InX N ok af gd s := by
  refine ⟨fun h => ⟨fun t => t < N ∧ la t = true, ⟨hs, h⟩, fun t ht => ⟨ht.1, ?_, ?_⟩⟩, fun h => (i s hs).2.1 h⟩
  · cases hg : gd t with
    | false => rfl
    | true => have := (i t ht.1).1 hg; rw [ht.2] at this; cases this
  · obtain ⟨c, c1, c2, c3⟩ := hfx t ht.1 ht.2
    exact ⟨c, c1, c2, hA t ht.1 c c1 c2, c3⟩
theorem LI_Dst (i : LI N ok af gd la D) (h : ∀ s, s < N → la s = false) : Dst N ok af gd D := fun s hs => ⟨((i s hs).2.2 (h s hs)).1, fun hg => ⟨fun c hc ho => ((((i s hs).2.2 (h s hs)).2 hg).1 c hc ho).2, (((i s hs).2.2 (h s hs)).2 hg).2⟩⟩
theorem laC_U {s : Nat} (hs : s < N) (hl : la s = true) : smN (laC (laU la s)) N + 1 = smN (laC la) N := by
  have h1 := sm_upd (f := laC (laU la s)) (g := laC la) (a := s) (fun i hi => by rw [laC, laC, laU, if_neg hi]) N hs
  have h2 : laC la s = 1 := by rw [laC, if_pos hl]
  have h3 : laC (laU la s) s = 0 := by simp [laC, laU]
  omega
end LastP
/-! Distinct numbers below N are at most N. -/
def eqN (x t : Nat) : Nat := if t = x then 1 else 0
def ctR (run : Nat → Nat) : Nat → Nat → Nat
  | 0, _ => 0
  | m + 1, t => ctR run m t + eqN (run m) t
theorem sm_add {f g : Nat → Nat} : ∀ j, smN (fun t => f t + g t) j = smN f j + smN g j
  | 0 => rfl
  | j + 1 => by rw [smN, smN, smN, sm_add j]; omega
theorem sm_zero {f : Nat → Nat} : ∀ j, (∀ i, i < j → f i = 0) → smN f j = 0
  | 0, _ => rfl
  | j + 1, q => by rw [smN, sm_zero j (fun i hi => q i (by omega)), q j (by omega)]
theorem sm_eqN {x : Nat} : ∀ j, x < j → smN (eqN x) j = 1
  | j + 1, h => by
    rw [smN]
    by_cases hx : x = j
    · rw [sm_zero j (fun i hi => by rw [eqN, if_neg (by omega)]), eqN, if_pos hx.symm]
    · rw [sm_eqN j (by omega), eqN, if_neg (fun z => hx z.symm)]
theorem ctR_sum {run : Nat → Nat} {N : Nat} : ∀ m, (∀ i, i < m → run i < N) → smN (ctR run m) N = m
  | 0, _ => sm_zero N (fun _ _ => rfl)
  | m + 1, q => by
    have e : ctR run (m + 1) = fun t => ctR run m t + eqN (run m) t := rfl
    rw [e, sm_add, ctR_sum m (fun i hi => q i (by omega)), sm_eqN N (q m (by omega))]
theorem ctR_0 {run : Nat → Nat} {t : Nat} : ∀ m, (∀ i, i < m → run i ≠ t) → ctR run m t = 0
  | 0, _ => rfl
  | m + 1, q => by rw [ctR, ctR_0 m (fun i hi => q i (by omega)), eqN, if_neg (fun z => q m (by omega) z.symm)]
theorem ctR_1 {run : Nat → Nat} {t : Nat} : ∀ m, (∀ i j, i < j → j < m → run i ≠ run j) → ctR run m t ≤ 1
  | 0, _ => Nat.zero_le _
  | m + 1, q => by
    have ih := ctR_1 (run := run) (t := t) m (fun i j h1 h2 => q i j h1 (by omega))
    rw [ctR]
    by_cases h : t = run m
    · rw [ctR_0 m (fun i hi z => q i m hi (by omega) (by rw [z, h])), eqN, if_pos h]; exact Nat.le_refl _
    · rw [eqN, if_neg h]; omega
theorem pigeon {run : Nat → Nat} {N m : Nat} (h1 : ∀ i, i < m → run i < N) (h2 : ∀ i j, i < j → j < m → run i ≠ run j) : m ≤ N := by
  have e1 := ctR_sum m h1
  have e2 := sm_le (f := ctR run m) (b := 1) N (fun i _ => ctR_1 m h2)
  omega
def GY (h h' : MH) : Prop := GX h h' ∧ mj_i h' 25 38 = mj_i h 25 38
theorem GY_rf {h : MH} : GY h h := ⟨GX_rf, rfl⟩
theorem GY_tr {h h' h'' : MH} (a : GY h h') (b : GY h' h'') : GY h h'' := ⟨GX_tr a.1 b.1, b.2.trans a.2⟩
theorem GY_wi {h : MH} {a j : Nat} {x : Int32} (ha : a = 43 ∨ a = 44 ∨ a = 45) : GY h (mj_wi h a j x) := ⟨GX_wi ha, mj_i_ne (by omega)⟩
section RoundK
variable {L : Nat} {xs : Nat → Int32} {d : Nat} {Q : Option Value × MH → Prop} {n k e : Nat} {lk : Nat → Nat} {sc : Nat} {en : Nat → Nat} {af : Nat → Nat → Nat} {gd : Nat → Bool}
theorem r_gr_init {h : MH} (a : RS h n k e lk sc en af gd) (hQ : ∀ (h' : MH) (X : Option Value), GY h h' → (∀ t, t < k ^ n → mj_i h' 43 t = bI (!(gd t))) → mj_Wp L xs (d + 1 + 1) 124 36 [some (.ref 25), X, none, none, none, none] [] h' Q) : mj_Wp L xs (d + 1 + 1) 124 0 [some (.ref 25), none, none, none, none, none] [] h Q := by
  have n10 : ¬ nI 1 = nI 0 := by decide
  have hN := RB_N a.1
  have lp : ∀ (m s : Nat) (h1 : MH), s + m = k ^ n → GY h h1 → (∀ t, t < s → mj_i h1 43 t = bI (!(gd t))) → mj_Wp L xs (d + 1 + 1) 124 2 [some (.ref 25), some (.int (nI s)), none, none, none, none] [] h1 Q := by
    intro m
    induction m with
    | zero =>
      intro s h1 hs g1 q
      have a1 := GX_RS g1.1 a
      have hs : s = k ^ n := by omega
      rw [w_124_2]
      simp only [w_124_3, w_124_4, w_124_7, ly_25 a1.1.2.2.2.2.2.1, r_states a1.1, Option.toList, List.cons_append, List.nil_append, hs, nI_leI (show k ^ n < 2 ^ 31 by omega) (show k ^ n < 2 ^ 31 by omega), Nat.le_refl, if_true]
      rw [hs] at q
      exact hQ h1 _ g1 q
    | succ m ih =>
      intro s h1 hs g1 q
      have a1 := GX_RS g1.1 a
      have hL := a1.1.2.2.2.2.2.1
      have hsN : s < k ^ n := by omega
      have e0 : ¬ k ^ n ≤ s := by omega
      have i1 : mj_in (nI s) 1024 = true := mj_in_nI (by omega) (by omega)
      have i2 : (nI s).toNatClampNeg = s := nI_clamp (by omega)
      obtain ⟨t1, t2, t3⟩ := a1.2.2.2.1 s hsN
      have key : mj_Wp L xs (d + 1 + 1) 124 29 [some (.ref 25), some (.int (nI s)), none, none, none, none] [.int (bI (!(gd s))), .int (nI s), .ref 43] h1 Q := by
        simp only [w_124_29, w_124_30, w_124_33, lk_43 hL, ln_43 hL, i1, i2, nar_bI, nI_add]
        refine ih (s + 1) _ (by omega) (GY_tr g1 (GY_wi (by omega))) (fun t ht => ?_)
        rw [mj_i_wi]
        by_cases hts : t = s
        · simp [hts]
        · simp only [hts, and_false, if_false]; exact q t (by omega)
      rw [w_124_2]
      simp only [w_124_3, w_124_4, w_124_7, w_124_10, w_124_11, w_124_14, w_124_15, w_124_16, w_124_19, w_124_20, w_124_21, ly_25 hL, lr_25_36 hL, lr_25_35 hL, lk_42 hL, ln_42 hL, mj_rv_some, i1, i2, t3, r_states a1.1, Option.toList, List.cons_append, List.nil_append, nI_leI (show k ^ n < 2 ^ 31 by omega) (show s < 2 ^ 31 by omega), e0, if_false]
      cases hg : gd s with
      | false =>
        rw [hg] at key
        simp only [bI_0, not_true_eq_false, if_false, w_124_24, w_124_25]
        exact key
      | true =>
        rw [hg] at key
        simp only [bI_1, n10, not_false_eq_true, if_true, w_124_28]
        exact key
  simp only [w_124_0, w_124_1]
  exact lp (k ^ n) 0 h (by omega) GY_rf (fun t ht => by omega)
theorem r_gr_rem {h : MH} (a : RS h n k e lk sc en af gd) (np2 : ∀ s, ¬ P2 (k ^ n) en gd s)
    (hQ : ∀ (h' : MH) (X Y : Option Value) (la : Nat → Bool) (D : Nat → Nat), GY h h' → (∀ t, t < k ^ n → mj_i h' 43 t = bI (la t)) → LI (k ^ n) (fun s => alB sc (en s)) af gd la D → (∀ u, u < k ^ n → la u = true → ∃ c, c < 32 ∧ alB sc (en u) c = true ∧ la (af u c) = true) → mj_Wp L xs (d + 1 + 1) 124 91 [some (.ref 25), X, Y, none, none, none] [] h' Q) : ∀ (M : Nat) (h1 : MH) (Y : Option Value) (la : Nat → Bool) (D : Nat → Nat), GY h h1 → (∀ t, t < k ^ n → mj_i h1 43 t = bI (la t)) → LI (k ^ n) (fun s => alB sc (en s)) af gd la D → smN (laC la) (k ^ n) < M → mj_Wp L xs (d + 1 + 1) 124 38 [some (.ref 25), some (.int (nI 1)), Y, none, none, none] [] h1 Q := by
  have n10 : ¬ nI 1 = nI 0 := by decide
  have hN := RB_N a.1
  have hA : ∀ s, s < k ^ n → ∀ c, c < 32 → alB sc (en s) c = true → af s c < k ^ n := fun s hs c hc ho => (a.2.2.2.2 s hs c hc ho).2
  intro M
  induction M with
  | zero => intro h1 Y la D _ _ _ hM; omega
  | succ M ihM =>
    intro h1 Y la D g1 q1 i1 hM
    have lp : ∀ (m s : Nat) (h2 : MH) (la2 : Nat → Bool) (D2 : Nat → Nat) (b : Bool), s + m = k ^ n → GY h h2 → (∀ t, t < k ^ n → mj_i h2 43 t = bI (la2 t)) → LI (k ^ n) (fun s => alB sc (en s)) af gd la2 D2 → smN (laC la2) (k ^ n) ≤ M → (b = true → smN (laC la2) (k ^ n) < M) → (b = false → ∀ u, u < s → la2 u = true → ∃ c, c < 32 ∧ alB sc (en u) c = true ∧ la2 (af u c) = true) → mj_Wp L xs (d + 1 + 1) 124 46 [some (.ref 25), some (.int (bI b)), some (.int (nI s)), none, none, none] [] h2 Q := by
      intro m
      induction m with
      | zero =>
        intro s h2 la2 D2 b hs g2 q2 l2 hM2 hb hf
        have a2 := GX_RS g2.1 a
        have hs : s = k ^ n := by omega
        rw [w_124_46]
        simp only [w_124_47, w_124_48, w_124_51, w_124_88, ly_25 a2.1.2.2.2.2.2.1, r_states a2.1, Option.toList, List.cons_append, List.nil_append, hs, nI_leI (show k ^ n < 2 ^ 31 by omega) (show k ^ n < 2 ^ 31 by omega), Nat.le_refl, if_true]
        cases b with
        | true => exact ihM h2 _ la2 D2 g2 q2 l2 (hb rfl)
        | false =>
          simp only [w_124_38, w_124_39, bI_0, if_true]
          rw [hs] at hf
          exact hQ h2 _ _ la2 D2 g2 q2 l2 (hf rfl)
      | succ m ih =>
        intro s h2 la2 D2 b hs g2 q2 l2 hM2 hb hf
        have a2 := GX_RS g2.1 a
        have hL := a2.1.2.2.2.2.2.1
        have hsN : s < k ^ n := by omega
        have e0 : ¬ k ^ n ≤ s := by omega
        have j1 : mj_in (nI s) 1024 = true := mj_in_nI (by omega) (by omega)
        have j2 : (nI s).toNatClampNeg = s := nI_clamp (by omega)
        obtain ⟨t1, t2, t3⟩ := a2.2.2.2.1 s hsN
        rw [w_124_46]
        simp only [w_124_47, w_124_48, w_124_51, w_124_54, w_124_55, w_124_58, w_124_59, w_124_60, w_124_82, w_124_85, nI_add, ly_25 hL, lr_25_36 hL, lk_43 hL, ln_43 hL, mj_rv_some, j1, j2, q2 s hsN, r_states a2.1, Option.toList, List.cons_append, List.nil_append, nI_leI (show k ^ n < 2 ^ 31 by omega) (show s < 2 ^ 31 by omega), e0, if_false]
        cases hl : la2 s with
        | false =>
          simp only [bI_0, if_true]
          refine ih (s + 1) h2 la2 D2 b (by omega) g2 q2 l2 hM2 hb (fun z u hu hlu => ?_)
          by_cases hus : u = s
          · rw [hus, hl] at hlu; cases hlu
          · exact hf z u (by omega) hlu
        | true =>
          have ct := r_choiceTo (L := L) (xs := xs) (d := d) (b := true) (P := la2) (Q := fun r => mj_Wp L xs (d + 1 + 1) 124 70 [some (.ref 25), some (.int (bI b)), some (.int (nI s)), none, none, none] (r.1.toList ++ []) r.2 Q) a2 hsN (Or.inl ⟨rfl, q2⟩)
          rw [bI_1] at ct
          simp only [bI_1, n10, if_false, w_124_63, w_124_64, w_124_65, w_124_66, w_124_67, ly_25 hL, mj_fit_n0, mj_fit_n1]
          rw [ct]
          simp only [Option.toList, List.cons_append, List.nil_append, w_124_70]
          rcases fc_cases (p := fun c => alB sc (en s) c && la2 (af s c)) 31 1 with ⟨h3, h4⟩ | ⟨c, h3, h4, h5, h6, h7⟩
          · rw [h3]
            simp only [not_true_eq_false, if_false, w_124_73, w_124_74, w_124_77, w_124_78, w_124_79, w_124_80, w_124_81, w_124_82, w_124_85, ly_25 hL, lr_25_36 hL, lk_43 hL, ln_43 hL, mj_rv_some, j1, j2, nI_add, show vp_nar .boolean (nI 0) = nI 0 from nar_bI false]
            have hno : ∀ c, c < 32 → alB sc (en s) c = true → la2 (af s c) = false := fun c hc ho => by
              have := h4 c (RS_ok0 a2 hsN hc ho) (by omega)
              simpa [ho] using this
            have hgs : gd s = false := by
              cases hg : gd s with
              | false => rfl
              | true => have := (l2 s hsN).1 hg; rw [hl] at this; cases this
            have hen : en s ≠ 0 := fun z => np2 s ⟨hsN, hgs, z⟩
            obtain ⟨c0, c1, c2⟩ := alB_one (en s) t2 hen sc a2.2.1
            obtain ⟨D3, l3⟩ := LI_rem l2 hsN hA hl ⟨c0, c1, c2⟩ hno
            have hcn := laC_U (N := k ^ n) hsN hl
            refine ih (s + 1) _ (laU la2 s) D3 true (by omega) (GY_tr g2 (GY_wi (by omega))) (fun t ht => ?_) l3 (by omega) (fun _ => by omega) (fun z => by cases z)
            rw [mj_i_wi, laU]
            by_cases hts : t = s
            · simp [hts, bI]
            · simp only [hts, and_false, if_false]; exact q2 t ht
          · rw [h5]
            rw [Bool.and_eq_true] at h6
            have hc0 : ¬ nI c = nI 0 := by rw [nI_eq (by omega) (by omega)]; omega
            simp only [hc0, not_false_eq_true, if_true, w_124_82, w_124_85, nI_add]
            refine ih (s + 1) h2 la2 D2 b (by omega) g2 q2 l2 hM2 hb (fun z u hu hlu => ?_)
            by_cases hus : u = s
            · rw [hus]; exact ⟨c, by omega, h6.1, h6.2⟩
            · exact hf z u (by omega) hlu
    simp only [w_124_38, w_124_39, n10, if_false, w_124_42, w_124_43, w_124_44, w_124_45]
    have := lp (k ^ n) 0 h1 la D false (by omega) g1 q1 i1 (by omega) (fun z => by cases z) (fun _ u hu => by omega)
    exact this
end RoundK
