/-! The reference: an endless run. -/
section Round2K
variable {L : Nat} {xs : Nat → Int32} {d : Nat} {Q : Option Value × MH → Prop} {n k e : Nat} {lk : Nat → Nat} {sc : Nat} {en : Nat → Nat} {af : Nat → Nat → Nat} {gd : Nat → Bool}
theorem r_gr_first {h : MH} {la : Nat → Bool} {X Y : Option Value} (a : RS h n k e lk sc en af gd) (q : ∀ t, t < k ^ n → mj_i h 43 t = bI (la t))
    (hN0 : (∀ s, s < k ^ n → la s = false) → mj_Wp L xs (d + 1 + 1) 124 116 [some (.ref 25), X, some (.int (nI (k ^ n))), none, none, none] [] h Q)
    (hS : ∀ s, s < k ^ n → Fst (fun s => s < k ^ n ∧ la s = true) s → mj_Wp L xs (d + 1 + 1) 124 116 [some (.ref 25), X, some (.int (nI s)), none, none, none] [] h Q) : mj_Wp L xs (d + 1 + 1) 124 91 [some (.ref 25), X, Y, none, none, none] [] h Q := by
  have n10 : ¬ nI 1 = nI 0 := by decide
  have hN := RB_N a.1
  have hL := a.1.2.2.2.2.2.1
  have lp : ∀ (m s : Nat), s + m = k ^ n → (∀ t, t < s → la t = false) → mj_Wp L xs (d + 1 + 1) 124 93 [some (.ref 25), X, some (.int (nI s)), none, none, none] [] h Q := by
    intro m
    induction m with
    | zero =>
      intro s hs f
      have hs : s = k ^ n := by omega
      rw [w_124_93]
      simp only [w_124_94, w_124_95, w_124_98, ly_25 hL, r_states a.1, Option.toList, List.cons_append, List.nil_append, hs, nI_leI (show k ^ n < 2 ^ 31 by omega) (show k ^ n < 2 ^ 31 by omega), Nat.le_refl, if_true]
      rw [hs] at f
      exact hN0 f
    | succ m ih =>
      intro s hs f
      have hsN : s < k ^ n := by omega
      have e0 : ¬ k ^ n ≤ s := by omega
      have j1 : mj_in (nI s) 1024 = true := mj_in_nI (by omega) (by omega)
      have j2 : (nI s).toNatClampNeg = s := nI_clamp (by omega)
      rw [w_124_93]
      simp only [w_124_94, w_124_95, w_124_98, w_124_101, w_124_102, w_124_105, w_124_106, w_124_107, ly_25 hL, lr_25_36 hL, lk_43 hL, ln_43 hL, mj_rv_some, j1, j2, q s hsN, r_states a.1, Option.toList, List.cons_append, List.nil_append, nI_leI (show k ^ n < 2 ^ 31 by omega) (show s < 2 ^ 31 by omega), e0, if_false]
      cases hl : la s with
      | false =>
        simp only [bI_0, not_true_eq_false, if_false, w_124_110, w_124_113, nI_add]
        refine ih (s + 1) (by omega) (fun t ht => ?_)
        by_cases hts : t = s
        · rw [hts]; exact hl
        · exact f t (by omega)
      | true =>
        simp only [bI_1, n10, not_false_eq_true, if_true]
        exact hS s hsN ⟨⟨hsN, hl⟩, fun t ht z => by have z2 := z.2; rw [f t ht] at z2; cases z2⟩
  simp only [w_124_91, w_124_92]
  exact lp (k ^ n) 0 (by omega) (fun t ht => by omega)
theorem r_gr_again {h : MH} {run : Nat → Nat} {s j : Nat} {X Y : Option Value} (hL : Lay h) (h38 : mj_i h 25 38 = nI j) (hj : j < 1100) (hr : ∀ i, i < j → mj_i h 45 i = nI (run i) ∧ run i < 1024) (hs : s < 1024) (hQ : ∀ Z, mj_Wp L xs d 124 180 [some (.ref 25), X, Y, some (.int (bI (decide (∃ i, i < j ∧ run i = s)))), some (.int (nI s)), Z] [] h Q) : mj_Wp L xs d 124 140 [some (.ref 25), X, Y, some (.int (nI 0)), some (.int (nI s)), none] [] h Q ∧ ∀ W, mj_Wp L xs d 124 140 [some (.ref 25), X, Y, some (.int (nI 0)), some (.int (nI s)), W] [] h Q := by
  have n10 : ¬ nI 1 = nI 0 := by decide
  have lp : ∀ (m i : Nat) (b : Bool), i + m = j → b = decide (∃ t, t < i ∧ run t = s) → mj_Wp L xs d 124 143 [some (.ref 25), X, Y, some (.int (bI b)), some (.int (nI s)), some (.int (nI i))] [] h Q := by
    intro m
    induction m with
    | zero =>
      intro i b hi hb
      have hi : i = j := by omega
      rw [w_124_143]
      simp only [w_124_145, w_124_146, w_124_149, ly_25 hL, h38, hi, nI_leI (show j < 2 ^ 31 by omega) (show j < 2 ^ 31 by omega), Nat.le_refl, if_true]
      rw [hb, hi]
      exact hQ _
    | succ m ih =>
      intro i b hi hb
      have e0 : ¬ j ≤ i := by omega
      have j1 : mj_in (nI i) 1100 = true := mj_in_nI (by omega) (by omega)
      have j2 : (nI i).toNatClampNeg = i := nI_clamp (by omega)
      obtain ⟨r1, r2⟩ := hr i (by omega)
      have z : (nI (run i) = nI s) = (run i = s) := by rw [nI_eq (by omega) (by omega)]
      rw [w_124_143]
      simp only [w_124_145, w_124_146, w_124_149, w_124_152, w_124_153, ly_25 hL, h38, nI_leI (show j < 2 ^ 31 by omega) (show i < 2 ^ 31 by omega), e0, if_false]
      cases b with
      | true =>
        simp only [bI_1, n10, not_false_eq_true, if_true, w_124_168, w_124_169, w_124_172, w_124_173, w_124_174, w_124_177, nI_add]
        have := ih (i + 1) true (by omega) (by
          obtain ⟨t, t1, t2⟩ := of_decide_eq_true hb.symm
          exact (decide_eq_true ⟨t, by omega, t2⟩).symm)
        rw [bI_1] at this
        exact this
      | false =>
        have hno := of_decide_eq_false hb.symm
        simp only [bI_0, not_true_eq_false, if_false, w_124_156, w_124_157, w_124_160, w_124_162, w_124_163, w_124_165, w_124_168, w_124_169, w_124_172, w_124_173, w_124_174, w_124_177, ly_25 hL, lr_25_39 hL, lk_45 hL, ln_45 hL, mj_rv_some, j1, j2, r1, z, nI_add]
        by_cases hz : run i = s
        · simp only [hz, not_true_eq_false, if_false]
          have := ih (i + 1) true (by omega) (decide_eq_true (p := ∃ t, t < i + 1 ∧ run t = s) ⟨i, by omega, hz⟩).symm
          rw [bI_1] at this
          exact this
        · simp only [hz, not_false_eq_true, if_true]
          have := ih (i + 1) false (by omega) (decide_eq_false (p := ∃ t, t < i + 1 ∧ run t = s) (fun ⟨t, t1, t2⟩ => by
            by_cases ht : t = i
            · rw [ht] at t2; exact hz t2
            · exact hno ⟨t, by omega, t2⟩)).symm
          rw [bI_0] at this
          exact this
  have st := lp j 0 false (by omega) (decide_eq_false (fun ⟨t, t1, _⟩ => by omega)).symm
  rw [bI_0] at st
  exact ⟨by simp only [w_124_140, w_124_141]; exact st, fun W => by simp only [w_124_140, w_124_141]; exact st⟩
/-- an endless run, as it is written down -/
def ER (h : MH) (N : Nat) (ok : Nat → Nat → Bool) (af : Nat → Nat → Nat) (gd : Nat → Bool) : Prop := ∃ (m : Nat) (run : Nat → Nat), m ≤ 1024 ∧ mj_i h 25 38 = nI (m + 1) ∧ (∀ i, i < m + 1 → mj_i h 45 i = nI (run i)) ∧ Fst (InX N ok af gd) (run 0) ∧ (∀ i, i < m → NX N ok af gd (run i) (run (i + 1))) ∧ (∀ i j, i < j → j < m → run i ≠ run j) ∧ ∃ j, j < m ∧ run j = run m
theorem r_gr_run {h : MH} {la : Nat → Bool} {X Y : Option Value} (a : RS h n k e lk sc en af gd) (hla : ∀ s, s < k ^ n → (la s = true ↔ InX (k ^ n) (fun s => alB sc (en s)) af gd s))
    (hQ : ∀ h', GX h h' → ER h' (k ^ n) (fun s => alB sc (en s)) af gd → Q (some (.int (nI 1)), h')) : ∀ (m j : Nat) (run : Nat → Nat) (h1 : MH) (W : Option Value), j + m = k ^ n + 1 → GX h h1 → (∀ t, t < k ^ n → mj_i h1 43 t = bI (la t)) → mj_i h1 25 38 = nI j → (∀ i, i < j → mj_i h1 45 i = nI (run i)) → (∀ i, i ≤ j → InX (k ^ n) (fun s => alB sc (en s)) af gd (run i)) → Fst (InX (k ^ n) (fun s => alB sc (en s)) af gd) (run 0) → (∀ i, i < j → NX (k ^ n) (fun s => alB sc (en s)) af gd (run i) (run (i + 1))) → (∀ i i', i < i' → i' < j → run i ≠ run i') →
    mj_Wp L xs (d + 1 + 1) 124 136 [some (.ref 25), X, Y, some (.int (nI 0)), some (.int (nI (run j))), W] [] h1 Q := by
  have n10 : ¬ nI 1 = nI 0 := by decide
  have hN := RB_N a.1
  intro m
  induction m with
  | zero =>
    intro j run h1 W hj g1 q h38 hr hI hF hNX hd
    have := pigeon (run := run) (N := k ^ n) (m := j) (fun i hi => (InX_step (hI i (by omega))).1) hd
    omega
  | succ m ih =>
    intro j run h1 W hj g1 q h38 hr hI hF hNX hd
    have hjN := pigeon (run := run) (N := k ^ n) (m := j) (fun i hi => (InX_step (hI i (by omega))).1) hd
    have a1 := GX_RS g1 a
    have hL1 := a1.1.2.2.2.2.2.1
    obtain ⟨s1, s2, c, s3, s4, s5⟩ := InX_step (hI j (Nat.le_refl _))
    have hagain := r_gr_again (L := L) (xs := xs) (d := d + 1 + 1) (Q := Q) (X := X) (Y := Y) (run := run) (s := run j) hL1 h38 (by omega) (fun i hi => ⟨hr i hi, by have := (InX_step (hI i (by omega))).1; omega⟩) (by omega)
    simp only [w_124_136, w_124_137, not_true_eq_false, if_false]
    refine (hagain (fun Z => ?_)).2 W
    have j1 : mj_in (nI j) 1100 = true := mj_in_nI (by omega) (by omega)
    have j2 : (nI j).toNatClampNeg = j := nI_clamp (by omega)
    obtain ⟨h2, hh2⟩ : ∃ h2, h2 = mj_wi h1 45 j (nI (run j)) := ⟨_, rfl⟩
    have g2 : GX h1 h2 := by rw [hh2]; exact GX_wi (by omega)
    have e38 : mj_i h2 25 38 = nI j := by rw [hh2, mj_i_ne (by decide)]; exact h38
    have hL2 := sx_Lay g2.1 hL1
    obtain ⟨h3, hh3⟩ : ∃ h3, h3 = mj_wi h2 25 38 (nI (j + 1)) := ⟨_, rfl⟩
    have g3 : GX h h3 := GX_tr g1 (GX_tr g2 (by rw [hh3]; exact GX_38))
    have a3 := GX_RS g3 a
    have hL3 := a3.1.2.2.2.2.2.1
    have q3 : ∀ t, t < k ^ n → mj_i h3 43 t = bI (la t) := fun t ht => by rw [hh3, mj_i_ne (by decide), hh2, mj_i_ne (by decide)]; exact q t ht
    have f38 : mj_i h3 25 38 = nI (j + 1) := by rw [hh3]; simp [mj_i_wi]
    have r3 : ∀ i, i < j + 1 → mj_i h3 45 i = nI (run i) := fun i hi => by
      rw [hh3, mj_i_ne (by decide), hh2, mj_i_wi]
      by_cases hij : i = j
      · simp [hij]
      · simp only [hij, and_false, if_false]; exact hr i (by omega)
    have ct := fun Qx => r_choiceTo (L := L) (xs := xs) (d := d) (b := true) (P := la) (Q := Qx) a3 s1 (Or.inl ⟨rfl, q3⟩)
    simp only [bI_1] at ct
    have fc : ∃ c0, 1 ≤ c0 ∧ c0 < 32 ∧ fcF (fun c => alB sc (en (run j)) c && la (af (run j) c)) 31 1 = c0 ∧ alB sc (en (run j)) c0 = true ∧ Fst (fun c => c < 32 ∧ alB sc (en (run j)) c = true ∧ InX (k ^ n) (fun s => alB sc (en s)) af gd (af (run j) c)) c0 := by
      rcases fc_cases (p := fun c => alB sc (en (run j)) c && la (af (run j) c)) 31 1 with ⟨h4, h5⟩ | ⟨c0, h4, h5, h6, h7, h8⟩
      · have := h5 c (RS_ok0 a s1 s3 s4) (by omega)
        have hlc := (hla _ (a.2.2.2.2 _ s1 c s3 s4).2).mpr s5
        simp [s4, hlc] at this
      · rw [Bool.and_eq_true] at h7
        refine ⟨c0, h4, by omega, h6, h7.1, ⟨by omega, h7.1, (hla _ (a.2.2.2.2 _ s1 c0 (by omega) h7.1).2).mp h7.2⟩, fun i hi z => ?_⟩
        have := h8 i (RS_ok0 a s1 z.1 z.2.1) hi
        have hlc := (hla _ (a.2.2.2.2 _ s1 i z.1 z.2.1).2).mpr z.2.2
        simp [z.2.1, hlc] at this
    obtain ⟨c0, y1, y2, y3, y4, y5⟩ := fc
    obtain ⟨u1, u2⟩ := a3.2.2.2.2 _ s1 c0 y2 y4
    simp only [w_124_180, w_124_181, w_124_184, w_124_185, w_124_188, w_124_190, w_124_191, w_124_192, w_124_193, w_124_196, w_124_197, w_124_198, w_124_201, w_124_202, w_124_204, w_124_205, w_124_207, w_124_208, w_124_209, ly_25 hL1, lr_25_39 hL1, lk_45 hL1, ln_45 hL1, mj_rv_some, h38, j1, j2, ← hh2, ly_25 hL2, e38, nI_add, ← hh3, ly_25 hL3, mj_fit_n0, mj_fit_n1]
    rw [ct]
    simp only [Option.toList, List.cons_append, List.nil_append, y3, w_124_212, ly_25 hL3, r_behind hL3 a3.1.2.2.2.2.2.2.1 a3.1.2.1 (show run j < 1024 by omega) y2, u1, w_124_215, w_124_217]
    obtain ⟨run', hrun⟩ : ∃ run', run' = uN run (j + 1) (af (run j) c0) := ⟨_, rfl⟩
    have ro : ∀ i, i ≤ j → run' i = run i := fun i hi => by rw [hrun, uN_o (by omega)]
    have rn : run' (j + 1) = af (run j) c0 := by rw [hrun, uN_s]
    have nx : ∀ i, i < j + 1 → NX (k ^ n) (fun s => alB sc (en s)) af gd (run' i) (run' (i + 1)) := fun i hi => by
      by_cases hij : i = j
      · rw [hij, rn, ro j (Nat.le_refl _)]
        exact ⟨c0, y5, rfl⟩
      · rw [ro i (by omega), ro (i + 1) (by omega)]
        exact hNX i (by omega)
    rcases Classical.em (∃ i, i < j ∧ run i = run j) with hag | hag
    · rw [decide_eq_true hag]
      simp only [bI_1, w_124_136, w_124_137, n10, not_false_eq_true, if_true, w_124_220, w_124_221, mj_fit_n1]
      exact hQ h3 g3 ⟨j, run, by omega, f38, r3, hF, hNX, hd, hag⟩
    · rw [decide_eq_false hag]
      have := ih (j + 1) run' h3 Z (by omega) g3 q3 f38 (fun i hi => by rw [ro i (by omega)]; exact r3 i hi) (fun i hi => ?_) (by rw [ro 0 (by omega)]; exact hF) nx (fun i i' h1 h2 => ?_)
      · rw [rn] at this
        rw [bI_0]
        exact this
      · by_cases hij : i = j + 1
        · rw [hij, rn]; exact y5.1.2.2
        · rw [ro i (by omega)]; exact hI i (by omega)
      · rw [ro i (by omega), ro i' (by omega)]
        by_cases hi' : i' = j
        · rw [hi']; exact fun z => hag ⟨i, by omega, z⟩
        · exact hd i i' h1 (by omega)
theorem r_goesRound {h : MH} (a : RS h n k e lk sc en af gd) (np2 : ∀ s, ¬ P2 (k ^ n) en gd s)
    (ht : ∀ h', GX h h' → ER h' (k ^ n) (fun s => alB sc (en s)) af gd → Q (some (.int (nI 1)), h'))
    (hf : ∀ h' D, GX h h' → mj_i h' 25 38 = mj_i h 25 38 → Dst (k ^ n) (fun s => alB sc (en s)) af gd D → Q (some (.int (nI 0)), h')) : mj_Wp L xs (d + 1 + 1) 124 0 [some (.ref 25), none, none, none, none, none] [] h Q := by
  have hN := RB_N a.1
  have hA : ∀ s, s < k ^ n → ∀ c, c < 32 → alB sc (en s) c = true → af s c < k ^ n := fun s hs c hc ho => (a.2.2.2.2 s hs c hc ho).2
  refine r_gr_init a (fun h1 X g1 q1 => ?_)
  simp only [w_124_36, w_124_37]
  refine r_gr_rem a np2 (fun h2 X2 Y2 la D g2 q2 l2 fx => ?_) _ h1 _ _ _ g1 q1 LI_init (Nat.lt_succ_self _)
  have a2 := GX_RS g2.1 a
  have hL2 := a2.1.2.2.2.2.2.1
  have hla : ∀ s, s < k ^ n → (la s = true ↔ InX (k ^ n) (fun s => alB sc (en s)) af gd s) := fun s hs => LI_fix l2 hA fx hs
  refine r_gr_first a2 q2 (fun hall => ?_) (fun s hs hF => ?_)
  · simp only [w_124_116, w_124_117, w_124_118, w_124_121, w_124_124, w_124_125, ly_25 hL2, r_states a2.1, Option.toList, List.cons_append, List.nil_append, not_true_eq_false, if_false, mj_fit_n0]
    exact hf h2 D g2.1 g2.2 (LI_Dst l2 hall)
  · have e0 : ¬ nI s = nI (k ^ n) := by rw [nI_eq (by omega) (by omega)]; omega
    simp only [w_124_116, w_124_117, w_124_118, w_124_121, w_124_124, w_124_125, w_124_126, w_124_127, w_124_128, w_124_131, w_124_132, w_124_133, w_124_134, ly_25 hL2, r_states a2.1, Option.toList, List.cons_append, List.nil_append, e0, not_false_eq_true, if_true]
    have hI : InX (k ^ n) (fun s => alB sc (en s)) af gd s := (hla s hs).mp hF.1.2
    have := r_gr_run (L := L) (xs := xs) (d := d) (Q := Q) (X := X2) (Y := some (.int (nI s))) a hla ht (k ^ n + 1) 0 (fun _ => s) (mj_wi h2 25 38 (nI 0)) none (by omega) (GX_tr g2.1 GX_38) (fun t htn => by rw [mj_i_ne (by decide)]; exact q2 t htn) (by simp [mj_i_wi]) (fun i hi => by omega) (fun i hi => hI) ⟨hI, fun t htn z => hF.2 t htn ⟨by omega, (hla t (by omega)).mpr z⟩⟩ (fun i hi => by omega) (fun i i' h1 h2 => by omega)
    exact this
end Round2K
