/-! Search: the endless run, and the verdict. -/
section SeaK4
variable {L : Nat} {xs : Nat → Int32} {d : Nat} {Q : Option Value × MH → Prop}
/-- the distances say which states lie on endless runs -/
def XD (h : MH) (N : Nat) (ok : Nat → Nat → Bool) (af : Nat → Nat → Nat) (gd : Nat → Bool) (dist : Nat → Nat) : Prop := ∀ t, t < N → mj_i h 15 t = nI (dist t) ∧ dist t ≤ 1040000 ∧ (1000000 ≤ dist t ↔ InX N ok af gd t)
theorem k_endlessAfter {N n sc s : Nat} {en : Nat → Nat} {sh : Nat → Nat → Int32} {af : Nat → Nat → Nat} {gd : Nat → Bool} {h : MH} {dist : Nat → Nat} (b : SE N n sc en sh af) (a : CS h N n sc en sh) (x : XD h N (fun s => alB sc (en s)) af gd dist) (hx : InX N (fun s => alB sc (en s)) af gd s)
    (hQ : ∀ t, NX N (fun s => alB sc (en s)) af gd s t → Q (some (.int (nI t)), h)) : mj_Wp L xs (d + 1 + 1) 77 0 [some (.ref 11), some (.int (nI s)), none] [] h Q := by
  obtain ⟨b1, b2, b3, b4, b5, b6⟩ := id b
  obtain ⟨hL, a2, a3, a4, a5, a6⟩ := id a
  obtain ⟨hs, hg, c0, c01, c02, c03⟩ := InX_step hx
  have e1 : mj_in (nI s) 1024 = true := mj_in_nI (by omega) (by omega)
  have e2 : (nI s).toNatClampNeg = s := nI_clamp (by omega)
  have he := b5 s hs
  have lp : ∀ (m c : Nat), c + m = en s + 1 → (∀ c', c' < c → ¬ (c' < 32 ∧ alB sc (en s) c' = true ∧ InX N (fun s => alB sc (en s)) af gd (af s c'))) → mj_Wp L xs (d + 1 + 1) 77 2 [some (.ref 11), some (.int (nI s)), some (.int (nI c))] [] h Q := by
    intro m
    induction m with
    | zero =>
      intro c hc hP
      exfalso
      have := (alB_lt he c01 c02).2
      exact hP c0 (by omega) ⟨c01, c02, c03⟩
    | succ m ih =>
      intro c hc hP
      have e3 : ¬ nI (en s) < nI c := by rw [nI_ltI (by omega) (by omega)]; omega
      rw [w_77_2]
      simp only [w_77_3, w_77_4, w_77_7, w_77_8, w_77_9, w_77_12, w_77_13, w_77_14, w_77_17, w_77_18, w_77_19, w_77_20, w_77_23, ly_11 hL, lr_11_3 hL, lk_12 hL, ln_12 hL, mj_rv_some, e1, e2, a5 s hs, e3, if_false, k_allows hL a4 b4, Option.toList, List.cons_append, List.nil_append, w_77_49, w_77_52, nI_add]
      cases ho : alI sc (en s) (nI c) with
      | false =>
        simp only [bI_0, if_true]
        refine ih (c + 1) (by omega) (fun c' h1 => ?_)
        by_cases h2 : c' = c
        · rintro ⟨q1, q4, q5⟩
          rw [h2, show alB sc (en s) c = false from ho] at q4
          cases q4
        · exact hP c' (by omega)
      | true =>
        have ho' : alB sc (en s) c = true := ho
        have hc32 : c < 32 := by omega
        have haf := (b6 s hs c hc32 ho').2
        have e4 : mj_in (nI (af s c)) 1024 = true := mj_in_nI (by omega) (by omega)
        have e5 : (nI (af s c)).toNatClampNeg = af s c := nI_clamp (by omega)
        obtain ⟨x1, x2, x3⟩ := x _ haf
        simp only [bI_1, show ¬ nI 1 = nI 0 by decide, if_false, w_77_26, w_77_27, w_77_30, w_77_31, w_77_32, w_77_33, w_77_36, w_77_37, w_77_39, w_77_42, w_77_43, w_77_44, w_77_45, w_77_48, w_77_49, w_77_52, ly_11 hL, lr_11_6 hL, lk_15 hL, ln_15 hL, mj_rv_some, k_after a b hs hc32 ho', Option.toList, List.cons_append, List.nil_append, e4, e5, x1, nI_ltI (show dist (af s c) < 2 ^ 31 by omega) (show 1000000 < 2 ^ 31 by omega), nI_add]
        by_cases hd : dist (af s c) < 1000000
        · simp only [hd, if_true]
          refine ih (c + 1) (by omega) (fun c' h1 => ?_)
          by_cases h2 : c' = c
          · rintro ⟨q1, q4, q5⟩
            rw [h2] at q5
            have := x3.mpr q5
            omega
          · exact hP c' (by omega)
        · simp only [hd, if_false]
          exact hQ _ ⟨c, ⟨⟨hc32, ho', x3.mp (by omega)⟩, hP⟩, rfl⟩
  simp only [w_77_0, w_77_1]
  refine lp (en s) 1 (by omega) (fun c' h1 q => ?_)
  have := (alB_lt he q.1 q.2.1).1
  omega
def onF (mark : Nat → Nat) (t : Nat) : Nat := if mark t = 3 then 1 else 0
theorem k_er_loop {N n sc : Nat} {en : Nat → Nat} {sh : Nat → Nat → Int32} {af : Nat → Nat → Nat} {gd : Nat → Bool} {dist : Nat → Nat} (b : SE N n sc en sh af) : ∀ (w i : Nat) (h : MH) (mark run : Nat → Nat), i + w = N → CS h N n sc en sh → XD h N (fun s => alB sc (en s)) af gd dist → (∀ t, t < N → mj_i h 16 t = nI (mark t) ∧ mark t ≤ 3) → smN (onF mark) N = i → (∀ t, t < N → (mark t = 3 ↔ ∃ j, j < i ∧ run j = t)) → (∀ j, j < i → NX N (fun s => alB sc (en s)) af gd (run j) (run (j + 1))) → (∀ j k, j < k → k < i → run j ≠ run k) → InX N (fun s => alB sc (en s)) af gd (run i) → mj_i h 11 11 = nI i → (∀ j, j < i → mj_i h 19 j = nI (run j)) →
    (∀ (h' : MH) (m : Nat) (run' : Nat → Nat), (run' 0 = run 0) → (∀ i, i < m → NX N (fun s => alB sc (en s)) af gd (run' i) (run' (i + 1))) → (∀ i j, i < j → j < m → run' i ≠ run' j) → (∃ j, j < m ∧ run' j = run' m) → m ≤ 1024 → mj_sx [11, 16, 19] h h' → (∀ j, j ≠ 11 → mj_i h' 11 j = mj_i h 11 j) → mj_i h' 11 11 = nI (m + 1) → (∀ j, j < m + 1 → mj_i h' 19 j = nI (run' j)) → Q (some (.int (nI 1)), h')) → mj_Wp L xs (d + 1 + 1 + 1) 76 45 [some (.ref 11), some (.int (nI (run i))), some (.int (nI i))] [] h Q := by
  obtain ⟨b1, b2, b3, b4, b5, b6⟩ := id b
  -- how it ends
  have stop : ∀ (i : Nat) (h : MH) (mark run : Nat → Nat), i ≤ N → CS h N n sc en sh → (∀ t, t < N → (mark t = 3 ↔ ∃ j, j < i ∧ run j = t)) → (∀ j, j < i → NX N (fun s => alB sc (en s)) af gd (run j) (run (j + 1))) → (∀ j k, j < k → k < i → run j ≠ run k) → InX N (fun s => alB sc (en s)) af gd (run i) → mj_i h 11 11 = nI i → (∀ j, j < i → mj_i h 19 j = nI (run j)) → mark (run i) = 3 →
    (∀ (h' : MH) (m : Nat) (run' : Nat → Nat), (run' 0 = run 0) → (∀ i, i < m → NX N (fun s => alB sc (en s)) af gd (run' i) (run' (i + 1))) → (∀ i j, i < j → j < m → run' i ≠ run' j) → (∃ j, j < m ∧ run' j = run' m) → m ≤ 1024 → mj_sx [11, 16, 19] h h' → (∀ j, j ≠ 11 → mj_i h' 11 j = mj_i h 11 j) → mj_i h' 11 11 = nI (m + 1) → (∀ j, j < m + 1 → mj_i h' 19 j = nI (run' j)) → Q (some (.int (nI 1)), h')) → mj_Wp L xs (d + 1 + 1 + 1) 76 86 [some (.ref 11), some (.int (nI (run i))), some (.int (nI i))] [] h Q := by
    intro i h mark run hi a hmk hnx hds hX hrl hrn hm3 hQ
    have hL := a.1
    simp only [w_76_86, w_76_87, w_76_88, w_76_91, w_76_92, ly_11 hL, k_addToRun hL hrl (show i < 1025 by omega), Option.toList, List.cons_append, List.nil_append, mj_fit_n1]
    refine hQ _ i run rfl hnx hds ((hmk _ (InX_step hX).1).mp hm3) (by omega) (sx_tr (sx_wi (by decide)) (sx_wi (by decide))) (fun j hj => ?_) ?_ (fun j hj => ?_)
    · simp [mj_i_wi, hj]
    · simp [mj_i_wi]
    · simp only [mj_i_wi]
      by_cases h7 : j = i
      · simp [h7]
      · simpa [h7] using hrn j (by omega)
  intro w
  induction w with
  | zero =>
    intro i h mark run hw a x hmv hsm hmk hnx hds hX hrl hrn hQ
    obtain ⟨hL, a2, a3, a4, a5, a6⟩ := id a
    have hrN := (InX_step hX).1
    have hm3 : mark (run i) = 3 := by
      refine Classical.byContradiction (fun z => ?_)
      have h1 := sm_upd (f := onF (uN mark (run i) 3)) (g := onF mark) (a := run i) (fun j hj => by simp only [onF, uN_o hj]) N hrN
      have h2 : smN (onF (uN mark (run i) 3)) N ≤ 1 * N := sm_le N (fun i _ => by unfold onF; split <;> omega)
      simp only [onF, uN_s, if_neg z, if_true] at h1
      have h3 : smN (fun t => if mark t = 3 then 1 else 0) N = i := hsm
      have h4 : smN (fun t => if uN mark (run i) 3 t = 3 then 1 else 0) N ≤ 1 * N := h2
      omega
    have e1 : mj_in (nI (run i)) 1024 = true := mj_in_nI (by omega) (by omega)
    have e2 : (nI (run i)).toNatClampNeg = run i := nI_clamp (by omega)
    have fin := stop i h mark run (by omega) a hmk hnx hds hX hrl hrn hm3 hQ
    rw [w_76_45]
    simp only [w_76_46, w_76_49, w_76_52, w_76_53, w_76_56, w_76_57, w_76_58, w_76_59, ly_11 hL, lr_11_7 hL, lk_16 hL, ln_16 hL, mj_rv_some, e1, e2, (hmv _ hrN).1, hm3, if_true]
    split
    · exact fin
    · exact fin
  | succ w ih =>
    intro i h mark run hw a x hmv hsm hmk hnx hds hX hrl hrn hQ
    obtain ⟨hL, a2, a3, a4, a5, a6⟩ := id a
    have hrN := (InX_step hX).1
    have e1 : mj_in (nI (run i)) 1024 = true := mj_in_nI (by omega) (by omega)
    have e2 : (nI (run i)).toNatClampNeg = run i := nI_clamp (by omega)
    have e0 : ¬ 1024 ≤ i := by omega
    have hm := (hmv _ hrN).2
    have z3 : (nI (mark (run i)) = nI 3) = (mark (run i) = 3) := by rw [nI_eq (by omega) (by omega)]
    rw [w_76_45]
    simp only [w_76_46, w_76_49, w_76_52, w_76_53, w_76_56, w_76_57, w_76_58, w_76_59, ly_11 hL, lr_11_7 hL, lk_16 hL, ln_16 hL, mj_rv_some, e1, e2, (hmv _ hrN).1, nI_leI (show 1024 < 2 ^ 31 by omega) (show i < 2 ^ 31 by omega), e0, if_false, z3]
    by_cases hm3 : mark (run i) = 3
    · simp only [hm3, if_true]
      exact stop i h mark run (by omega) a hmk hnx hds hX hrl hrn hm3 hQ
    · obtain ⟨h1, hh1⟩ : ∃ h1, h1 = mj_wi h 16 (run i) (nI 3) := ⟨_, rfl⟩
      have s1 : mj_sx [11, 16, 19] h h1 := by rw [hh1]; exact sx_wi (by decide)
      have r1 : mj_i h1 11 11 = nI i := by rw [sx_i (S := [16]) (by rw [hh1]; exact sx_wi (by decide)) (by decide)]; exact hrl
      have hL1 := sx_Lay s1 hL
      obtain ⟨h2, hh2⟩ : ∃ h2, h2 = mj_wi (mj_wi h1 19 i (nI (run i))) 11 11 (nI (i + 1)) := ⟨_, rfl⟩
      have s2 : mj_sx [11, 16, 19] h h2 := by rw [hh2]; exact sx_tr s1 (sx_tr (sx_wi (by decide)) (sx_wi (by decide)))
      have f11 : ∀ j, j ≠ 11 → mj_i h2 11 j = mj_i h 11 j := fun j hj => by simp [hh2, hh1, mj_i_wi, hj]
      have a' : CS h2 N n sc en sh := CS_sx s2 (by decide) (f11 12 (by decide)) a
      have x' : XD h2 N (fun s => alB sc (en s)) af gd dist := fun t ht => by rw [sx_i s2 (by decide)]; exact x t ht
      simp only [hm3, if_false, w_76_62, w_76_63, w_76_66, w_76_67, w_76_68, w_76_69, w_76_70, w_76_71, w_76_74, w_76_75, w_76_76, ly_11 hL, lr_11_7 hL, lk_16 hL, ln_16 hL, mj_rv_some, e1, e2, mj_is_wi, ← hh1, ly_11 hL1, k_addToRun hL1 r1 (show i < 1025 by omega), ← hh2, ly_11 a'.1, Option.toList, List.cons_append, List.nil_append]
      refine k_endlessAfter b a' x' hX (fun t ht => ?_)
      simp only [w_76_79, w_76_80, w_76_83, Option.toList, List.cons_append, List.nil_append, nI_add]
      have hXt : InX N (fun s => alB sc (en s)) af gd t := by
        obtain ⟨c, c1, c2⟩ := ht
        rw [c2]; exact c1.1.2.2
      have nir : ∀ j, j < i → run j ≠ run i := fun j hj z => hm3 ((hmk _ hrN).mpr ⟨j, hj, z⟩)
      have hsm' := sm_upd (f := onF (uN mark (run i) 3)) (g := onF mark) (a := run i) (fun j hj => by simp only [onF, uN_o hj]) N hrN
      have key := ih (i + 1) h2 (uN mark (run i) 3) (uN run (i + 1) t) (by omega) a' x' (fun u hu => ?_) ?_ (fun u hu => ?_) (fun j hj => ?_) (fun j k h3 h4 => ?_) (by rw [uN_s]; exact hXt) (by simp [hh2, mj_i_wi]) (fun j hj => ?_) (fun h' m run' q1 q2 q3 q4 q5 q6 q7 q8 q9 => hQ h' m run' (by rw [q1, uN_o (by omega)]) q2 q3 q4 q5 (sx_tr s2 q6) (fun j hj => by rw [q7 j hj, f11 j hj]) q8 q9)
      · rw [uN_s] at key
        exact key
      · by_cases h5 : u = run i
        · rw [h5, uN_s]
          exact ⟨by simp [hh2, hh1, mj_i_wi], by omega⟩
        · rw [uN_o h5]
          refine ⟨?_, (hmv u hu).2⟩
          rw [hh2, hh1]
          simp [mj_i_wi, h5, (hmv u hu).1]
      · have h6 : onF mark (run i) = 0 := if_neg hm3
        have h7 : onF (uN mark (run i) 3) (run i) = 1 := by simp [onF, uN_s]
        omega
      · by_cases h5 : u = run i
        · rw [h5, uN_s]
          exact ⟨fun _ => ⟨i, by omega, by rw [uN_o (by omega)]⟩, fun _ => rfl⟩
        · rw [uN_o h5, hmk u hu]
          constructor
          · rintro ⟨j, j1, j2⟩
            exact ⟨j, by omega, by rw [uN_o (by omega)]; exact j2⟩
          · rintro ⟨j, j1, j2⟩
            rw [uN_o (by omega)] at j2
            refine ⟨j, ?_, j2⟩
            by_cases h6 : j = i
            · rw [h6] at j2; exact absurd j2.symm h5
            · omega
      · by_cases h5 : j = i
        · rw [h5, uN_s, uN_o (by omega)]
          exact ht
        · rw [uN_o (show j ≠ i + 1 by omega), uN_o (show j + 1 ≠ i + 1 by omega)]
          exact hnx j (by omega)
      · rw [uN_o (by omega), uN_o (by omega)]
        by_cases h5 : k = i
        · rw [h5]; exact nir j (by omega)
        · exact hds j k h3 (by omega)
      · rw [uN_o (by omega), hh2, hh1]
        by_cases h5 : j = i
        · rw [h5]; simp [mj_i_wi]
        · simp [mj_i_wi, h5, hrn j (by omega)]
theorem k_endless {N n sc : Nat} {en : Nat → Nat} {sh : Nat → Nat → Int32} {af : Nat → Nat → Nat} {gd : Nat → Bool} {h : MH} {dist mark : Nat → Nat} (b : SE N n sc en sh af) (a : CS h N n sc en sh) (x : XD h N (fun s => alB sc (en s)) af gd dist) (hm : ∀ t, t < N → mj_i h 16 t = nI (mark t) ∧ mark t ≤ 2) (hl : mj_i h 11 14 = nI (mxN dist N)) (hr : mj_i h 11 11 = nI 0)
    (hQ0 : (∀ s, s < N → dist s < 1000000) → Q (some (.int (nI 0)), h))
    (hQ1 : ∀ (h' : MH) (m : Nat) (run' : Nat → Nat), Fst (InX N (fun s => alB sc (en s)) af gd) (run' 0) → (∀ i, i < m → NX N (fun s => alB sc (en s)) af gd (run' i) (run' (i + 1))) → (∀ i j, i < j → j < m → run' i ≠ run' j) → (∃ j, j < m ∧ run' j = run' m) → m ≤ 1024 → mj_sx [11, 16, 19] h h' → (∀ j, j ≠ 11 → mj_i h' 11 j = mj_i h 11 j) → mj_i h' 11 11 = nI (m + 1) → (∀ j, j < m + 1 → mj_i h' 19 j = nI (run' j)) → Q (some (.int (nI 1)), h')) : mj_Wp L xs (d + 1 + 1 + 1) 76 0 [some (.ref 11), none, none] [] h Q := by
  obtain ⟨b1, b2, b3, b4, b5, b6⟩ := id b
  obtain ⟨hL, a2, a3, a4, a5, a6⟩ := id a
  have mb : mxN dist N ≤ 1040000 := mxN_le N (fun i hi => (x i hi).2.1)
  simp only [w_76_0, w_76_1, w_76_4, w_76_6, w_76_9, w_76_10, w_76_11, w_76_12, ly_11 hL, hl, nI_leI (show 1000000 < 2 ^ 31 by omega) (show mxN dist N < 2 ^ 31 by omega), mj_fit_n0]
  by_cases hE : 1000000 ≤ mxN dist N
  · simp only [hE, if_true]
    obtain ⟨i0, i1, i2⟩ := mxN_at (f := dist) N (by omega)
    have lp : ∀ (m s : Nat), s + m = i0 → (∀ t, t < s → dist t < 1000000) → mj_Wp L xs (d + 1 + 1 + 1) 76 13 [some (.ref 11), some (.int (nI s)), none] [] h Q := by
      intro m
      have go : ∀ s, s < N → (∀ t, t < s → dist t < 1000000) → 1000000 ≤ dist s → mj_Wp L xs (d + 1 + 1 + 1) 76 43 [some (.ref 11), some (.int (nI s)), none] [] h Q := by
        intro s hs hP hd
        simp only [w_76_43, w_76_44]
        have hX := (x s hs).2.2.mp hd
        have key := k_er_loop (L := L) (xs := xs) (d := d) (Q := Q) (gd := gd) (dist := dist) b N 0 h mark (fun _ => s) (by omega) a x (fun t ht => ⟨(hm t ht).1, by have := (hm t ht).2; omega⟩) ?_ (fun t ht => ⟨fun z => by have := (hm t ht).2; omega, fun ⟨j, j1, _⟩ => by omega⟩) (fun j hj => by omega) (fun j k _ h2 => by omega) hX hr (fun j hj => by omega) (fun h' m run' q1 q2 q3 q4 q5 q6 q7 q8 q9 => hQ1 h' m run' ?_ q2 q3 q4 q5 q6 q7 q8 q9)
        · exact key
        · have : smN (onF mark) N ≤ 0 * N := sm_le N (fun i hi => by have := (hm i hi).2; unfold onF; split <;> omega)
          omega
        · rw [q1]
          exact ⟨hX, fun t ht q => by have := (x t (by omega)).2.2.mpr q; have := hP t ht; omega⟩
      induction m with
      | zero =>
        intro s hs hP
        have hs : s = i0 := by omega
        rw [← hs] at i1 i2
        have e1 : mj_in (nI s) 1024 = true := mj_in_nI (by omega) (by omega)
        have e2 : (nI s).toNatClampNeg = s := nI_clamp (by omega)
        have fin := go s i1 hP (by omega)
        obtain ⟨x1, x2, x3⟩ := x s i1
        rw [w_76_13]
        simp only [w_76_14, w_76_15, w_76_18, w_76_21, w_76_22, w_76_23, w_76_26, w_76_27, w_76_30, w_76_31, w_76_32, w_76_34, ly_11 hL, lr_11_0 hL, lr_11_6 hL, lk_15 hL, ln_15 hL, ly_1 hL, mj_rv_some, a3, pk_sub (show 1 ≤ N by omega), e1, e2, x1, nI_leI (show 1000000 < 2 ^ 31 by omega) (show dist s < 2 ^ 31 by omega), show 1000000 ≤ dist s by omega, if_true]
        split
        · exact fin
        · exact fin
      | succ m ih =>
        intro s hs hP
        have hsN : s < N := by omega
        have e1 : mj_in (nI s) 1024 = true := mj_in_nI (by omega) (by omega)
        have e2 : (nI s).toNatClampNeg = s := nI_clamp (by omega)
        have e3 : ¬ N - 1 ≤ s := by omega
        obtain ⟨x1, x2, x3⟩ := x s hsN
        rw [w_76_13]
        simp only [w_76_14, w_76_15, w_76_18, w_76_21, w_76_22, w_76_23, w_76_26, w_76_27, w_76_30, w_76_31, w_76_32, w_76_34, w_76_37, w_76_40, ly_11 hL, lr_11_0 hL, lr_11_6 hL, lk_15 hL, ln_15 hL, ly_1 hL, mj_rv_some, a3, pk_sub (show 1 ≤ N by omega), e1, e2, x1, nI_leI (show N - 1 < 2 ^ 31 by omega) (show s < 2 ^ 31 by omega), e3, if_false, nI_leI (show 1000000 < 2 ^ 31 by omega) (show dist s < 2 ^ 31 by omega), nI_add]
        by_cases hd : 1000000 ≤ dist s
        · simp only [hd, if_true]
          exact go s hsN hP hd
        · simp only [hd, if_false]
          refine ih (s + 1) (by omega) (fun t ht => ?_)
          by_cases h7 : t = s
          · rw [h7]; omega
          · exact hP t (by omega)
    exact lp i0 0 (by omega) (fun t ht => by omega)
  · simp only [hE, if_false]
    exact hQ0 (fun s hs => by have := mxN_ge (f := dist) N hs; omega)
theorem k_findVerdict {N n sc : Nat} {en : Nat → Nat} {sh : Nat → Nat → Int32} {af : Nat → Nat → Nat} {gd : Nat → Bool} {h : MH} (b : SE N n sc en sh af) (a : CS h N n sc en sh) (g : CG h N gd) (hr : mj_i h 11 11 = nI 0)
    (hQ : ∀ (h' : MH) (vd rl : Nat) (run D : Nat → Nat), SR N en (fun s => alB sc (en s)) af gd vd rl run D → mj_sx [11, 15, 16, 17, 18, 19] h h' → (∀ j, j ≠ 11 → j ≠ 14 → mj_i h' 11 j = mj_i h 11 j) → mj_i h' 11 11 = nI rl → rl ≤ 1025 → (∀ i, i < rl → mj_i h' 19 i = nI (run i)) → (vd = 0 → mj_i h' 11 14 = nI (mxN D N) ∧ (∀ s, s < N → mj_i h' 15 s = nI (D s)) ∧ mxN D N ≤ 1040000) → vd < 4 → Q (some (.int (nI vd)), h')) : mj_Wp L xs (d + 1 + 1 + 1 + 1) 68 0 [some (.ref 11)] [] h Q := by
  obtain ⟨b1, b2, b3, b4, b5, b6⟩ := id b
  have n10 : ¬ nI 1 = nI 0 := by decide
  have hL := a.1
  simp only [w_68_0, w_68_1, ly_11 hL]
  refine k_stepOut (d := d + 1) a b g hr (fun h' s c q1 q2 q3 q4 q5 q6 q7 => ?_) (fun np1 => ?_)
  · simp only [w_68_4, w_68_7, w_68_8, Option.toList, List.cons_append, List.nil_append, n10, if_false]
    refine hQ h' 1 2 (fun i => if i = 0 then s else af s c) (fun _ => 0) (Or.inl ⟨rfl, rfl, c, by simpa using q1, by simpa using q2, by simp⟩) (sx_mono q3 (by decide)) (fun j hj _ => q4 j hj) q5 (by omega) (fun i hi => ?_) (fun z => by omega) (by decide)
    have : i = 0 ∨ i = 1 := by omega
    rcases this with rfl | rfl
    · simpa using q6
    · simpa using q7
  · simp only [w_68_4, w_68_7, w_68_8, w_68_9, w_68_10, Option.toList, List.cons_append, List.nil_append, if_true, ly_11 hL]
    refine k_still (d := d + 1 + 1) a b g hr (fun h' s q1 q2 q3 q4 q5 => ?_) (fun np2 => ?_)
    · simp only [w_68_13, w_68_16, w_68_17, Option.toList, List.cons_append, List.nil_append, n10, if_false]
      refine hQ h' 2 1 (fun _ => s) (fun _ => 0) (Or.inr (Or.inl ⟨np1, rfl, rfl, q1⟩)) (sx_mono q2 (by decide)) (fun j hj _ => q3 j hj) q4 (by omega) (fun i hi => ?_) (fun z => by omega) (by decide)
      have : i = 0 := by omega
      subst this
      exact q5
    · simp only [w_68_13, w_68_16, w_68_17, w_68_18, w_68_19, Option.toList, List.cons_append, List.nil_append, if_true, ly_11 hL]
      refine k_measure b a g (fun h1 mark tried dist path q1 q2 q3 q4 q5 q6 => ?_)
      have a' : CS h1 N n sc en sh := CS_sx q1 (by decide) (q2 12 (by decide)) a
      obtain ⟨e1, e2, e3⟩ := D_end q4 (fun s c hs hc ho => (alB_lt (b5 s hs) hc ho).2) (fun s hs c hc ho => (b6 s hs c hc ho).2) (fun s hs hg => alB_one (en s) (b5 s hs) (fun z => np2 s ⟨hs, hg, z⟩) sc b4) q5
      simp only [w_68_22, w_68_23, Option.toList, List.nil_append, ly_11 a'.1]
      refine k_endless b a' (fun t ht => ⟨(q3 t ht).2.2, e2 t ht, e1 t ht⟩) (fun t ht => ⟨(q3 t ht).1, (q4.1 t ht).1⟩) q6 (by rw [q2 11 (by decide)]; exact hr) (fun hall => ?_) (fun h' m run' p1 p2 p3 p4 p5 p6 p7 p8 p9 => ?_)
      · simp only [w_68_26, w_68_29, w_68_30, w_68_33, w_68_34, Option.toList, List.cons_append, List.nil_append, if_true]
        exact hQ h1 0 0 (fun _ => 0) dist (Or.inr (Or.inr (Or.inr ⟨np1, np2, rfl, rfl, e3 hall⟩))) (sx_mono q1 (by decide)) (fun j _ hj => q2 j hj) (by rw [q2 11 (by decide)]; exact hr) (by omega) (fun i hi => by omega) (fun _ => ⟨q6, fun s hs => (q3 s hs).2.2, mxN_le N e2⟩) (by decide)
      · simp only [w_68_26, w_68_29, w_68_30, w_68_33, w_68_34, Option.toList, List.cons_append, List.nil_append, n10, if_false]
        exact hQ h' 3 (m + 1) run' (fun _ => 0) (Or.inr (Or.inr (Or.inl ⟨np1, np2, rfl, m, rfl, p1, p2, p3, p4⟩))) (sx_tr (sx_mono q1 (by decide)) (sx_mono p6 (by decide))) (fun j h1 h2 => by rw [p7 j h1, q2 j h2]) p8 (by omega) p9 (fun z => by omega) (by decide)
end SeaK4
