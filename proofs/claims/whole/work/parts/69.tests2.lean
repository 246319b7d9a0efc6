/-! Reading a test. -/
section RqK
variable {L : Nat} {xs : Nat → Int32} {R T len : Nat} {t : Nat → Nat}
theorem k_need {d : Nat} {Q : Option Value × MH → Prop} {h : MH} {p c : Nat} {fl : Int32} (r : RD h R T len t p fl) (hc : c < 127) : mj_Wp L xs (d + 1 + 1) 27 0 [some (.ref R), some (.int (nI c))] [] h Q ↔ if nxC t p fl = c then Q (none, mj_wi h R 1 (nI (p + 1))) else if fl = -1 then Q (none, mj_wi h R 2 (nI p)) else Q (none, h) := by
  have n10 : ¬ nI 1 = nI 0 := by decide
  simp only [w_27_0, w_27_1, w_27_2, w_27_5, w_27_8, w_27_9, w_27_12, r.2.2.2.1, k_take r hc]
  by_cases c1 : nxC t p fl = c
  · simp only [c1, if_true, w_27_5, w_27_8, w_27_9, w_27_12, Option.toList, List.cons_append, List.nil_append, n10, not_false_eq_true]
  · simp only [c1, if_false, w_27_5, w_27_8, w_27_9, w_27_12, Option.toList, List.cons_append, List.nil_append, not_true_eq_false, r.2.2.2.1, k_refuse r]
/-- a new cell over a tree, filled once the tree is read -/
theorem PO_un {h h2 h3 h4 : MH} {N kd n p : Nat} {r : Nat × Option GD} {A1 : Nat} {nb nb' : Bool} {F : GD → GD} (rd : RD h R T len t p (-1)) (hpl : p < len) (hh2 : h2 = mj_nw (mj_wi h R 1 (nI (p + 1))) kd n) (hn : n ≤ 4) (hN : N = mj_z h) (hk : kd ≠ 102) (po : PO h2 h3 R T len t (p + 1) r A1 nb') (x4 : PX R h2 h3 → PX R h h4) (z4 : mj_z h4 = mj_z h3) (eR : ∀ j, mj_i h4 R j = mj_i h3 R j) (e34 : (∀ j, mj_r h3 N j = none) → mj_is h3 N kd n → ExU h3 h4) (tg : ∀ (D : GD) (tt : Nat), TG tt h4 A1 nb' D → TG (tt + 1) h4 N nb (F D)) : PO h h4 R T len t p (match r with | (q, none) => (q, none) | (q, some D) => (q, some (F D))) N nb := by
  obtain ⟨x3, l3, z3, pn, ps⟩ := po
  have z2 : mj_z h2 = mj_z h + 1 := by rw [hh2]; rfl
  have isN2 : mj_is h2 N kd n := ⟨by omega, by rw [hh2, hN]; exact mj_nw_m (h := mj_wi h R 1 (nI (p + 1)))⟩
  have isN3 := PX_is x3 isN2
  have rN : ∀ j, mj_r h3 N j = none := fun j => by
    rw [(x3.2.1 _ isN2.1).2.1, hh2, hN]
    exact congrFun (mj_nw_r (h := mj_wi h R 1 (nI (p + 1)))) j
  have ex := e34 rN isN3
  have x04 := x4 x3
  obtain ⟨q, D⟩ := r
  dsimp only at l3 z3 pn ps
  cases D with
  | none =>
    have rd3 := pn rfl
    exact ⟨x04, by dsimp only; omega, by dsimp only; omega, fun _ => RD_PX rd x04 rd3.2.2.2.2.2.2.2.2.2.2.2.1 (by rw [eR]; exact rd3.2.2.2.2.2.2.2.2.2.2.2.2.1) (by rw [eR]; exact rd3.2.2.2.2.2.2.2.2.2.2.2.2.2), fun D hD => by cases hD⟩
  | some D =>
    obtain ⟨rd3, lt3, tg3⟩ := ps D rfl
    refine ⟨x04, by dsimp only; omega, by dsimp only; omega, fun hz => (by cases hz), fun D' hD => ⟨RD_PX rd x04 rd3.2.2.2.2.2.2.2.2.2.2.2.1 (by rw [eR]; exact rd3.2.2.2.2.2.2.2.2.2.2.2.2.1) (by rw [eR]; exact rd3.2.2.2.2.2.2.2.2.2.2.2.2.2), by dsimp only; omega, ?_⟩⟩
    rw [← Option.some.inj hD]
    show TG (q - p) h4 N nb (F D)
    rw [show q - p = (q - (p + 1)) + 1 by omega]
    exact tg D _ (ExU_TG ex _ _ _ _ tg3)
theorem k_readTest : ∀ (lv d : Nat) (nb : Bool) (p : Nat) (h : MH) (Q : Option Value × MH → Prop), lv ≤ 8 → RD h R T len t p (-1) → (∀ h' A, PO h h' R T len t p (pTest t lv nb p) A nb → Q (some (.ref A), h')) → mj_Wp L xs (d + 3 * lv + 8) 22 0 [some (.ref R), some (.int (nI (8 - lv))), some (.int (bI nb)), none] [] h Q := by
  have n10 : ¬ nI 1 = nI 0 := by decide
  intro lv
  induction lv with
  | zero =>
    intro d nb p h Q _ r hQ
    rw [show d + 3 * 0 + 8 = (d + 1 + 1 + 1 + 1 + 1 + 1 + 1) + 1 by omega]
    simp only [w_22_0, w_22_1, w_22_3, show nI 8 ≤ nI (8 - 0) by decide, if_true, w_22_117, w_22_118, w_22_119, r.2.2.2.1]
    refine k_readCmp r (fun h1 A po => ?_)
    simp only [w_22_122, Option.toList, List.cons_append, List.nil_append]
    exact hQ h1 A (by rw [pTest]; exact po)
  | succ lv ih =>
    intro d nb p h Q hlv r hQ
    have hpl := r.2.2.2.2.2.2.2.2.2.2.2.1
    have isR := r.2.2.2.1
    have e0 : ¬ nI 8 ≤ nI (8 - (lv + 1)) := by rw [nI_leI (by omega) (by omega)]; omega
    have e1 : nxC t p (-1) = t p := if_pos rfl
    have e2 : nI (8 - (lv + 1)) + nI 1 = nI (8 - lv) := by rw [nI_add]; congr 1; omega
    have r13 := r.2.2.2.2.2.2.2.2.2.2.2.2.1
    have r14 := r.2.2.2.2.2.2.2.2.2.2.2.2.2
    rw [show d + 3 * (lv + 1) + 8 = ((d + 3 * lv + 8) + 1 + 1) + 1 by omega]
    have tk : ∀ {c : Nat} {Q : Option Value × MH → Prop}, c < 127 → (mj_Wp L xs ((d + 3 * lv + 8) + 1 + 1) 23 0 [some (.ref R), some (.int (nI c))] [] h Q ↔ if t p = c then Q (some (.int (nI 1)), mj_wi h R 1 (nI (p + 1))) else Q (some (.int (nI 0)), h)) := fun hc => by rw [k_take r hc, e1]
    simp only [w_22_0, w_22_1, w_22_3, w_22_6, w_22_7, w_22_9, e0, if_false, isR, tk (show 33 < 127 by decide)]
    have nR : R ≠ mj_z h := by have := isR.1; omega
    have hz46 : 46 ≤ mj_z h := by have := isR.1; have := r.1; omega
    have tst : ∀ (kd n : Nat) (h2 : MH), p < len → h2 = mj_nw (mj_wi h R 1 (nI (p + 1))) kd n → n ≤ 4 → RD h2 R T len t (p + 1) (-1) := fun kd n h2 hl hh2 hn => by
      have x2 : PX R h h2 := by rw [hh2]; exact PX_nw (PX_wR PX_rf) hn
      exact RD_PX r x2 (by omega) (by rw [hh2, mj_nw_io (h := mj_wi h R 1 (nI (p + 1))) nR]; simp [mj_i_wi]) (by rw [hh2, mj_nw_io (h := mj_wi h R 1 (nI (p + 1))) nR]; simp [mj_i_wi]; exact r14)
    by_cases c33 : t p = 33
    · have hl : p < len := RD_lt r (by omega)
      obtain ⟨h2, hh2⟩ : ∃ h2, h2 = mj_nw (mj_wi h R 1 (nI (p + 1))) 4 1 := ⟨_, rfl⟩
      have rd2 := tst 4 1 h2 hl hh2 (by decide)
      have hzz : mj_z (mj_wi h R 1 (nI (p + 1))) = mj_z h := rfl
      simp only [c33, if_true, w_22_12, w_22_15, w_22_18, w_22_19, w_22_20, w_22_21, w_22_22, w_22_23, w_22_24, n10, if_false, Option.toList, List.cons_append, List.nil_append, ← hh2, hzz, e2, rd2.2.2.2.1]
      rw [show d + 3 * lv + 8 + 1 + 1 = (d + 2) + 3 * lv + 8 by omega]
      refine ih (d + 2) nb (p + 1) h2 _ (by omega) rd2 (fun h3 A1 po => ?_)
      have isN3 : mj_is h3 (mj_z h) 4 1 := PX_is po.1 ⟨by rw [hh2]; show mj_z h < mj_z h + 1; omega, by rw [hh2]; exact mj_nw_m (h := mj_wi h R 1 (nI (p + 1)))⟩
      simp only [w_22_27, w_22_30, w_25_0, w_25_1, w_25_4, w_25_5, w_25_6, w_25_9, w_26_0, w_26_1, w_26_4, Option.toList, List.cons_append, List.nil_append, isN3, mj_is_wr]
      refine hQ _ (mj_z h) ?_
      have := PO_un (h4 := mj_wr h3 (mj_z h) 0 (some A1)) (nb := nb) (F := fun D => fun n k m vs pt => !(D n k m vs pt)) r hl hh2 (by decide) rfl (by decide) po (fun x3 => PX_wr (PX_tr (by rw [hh2]; exact PX_nw (PX_wR PX_rf) (by decide)) x3) (Nat.le_refl _)) rfl (fun j => rfl) (fun rN isN => ⟨Nat.le_refl _, fun a _ ha => ⟨rfl, by
        by_cases z : a = mj_z h
        · rw [z]; exact Or.inr (Or.inl ⟨by rw [isN.2]; decide, rN⟩)
        · exact Or.inr (Or.inr ⟨rfl, by funext j; simp [mj_r_wr, z]⟩)⟩⟩) (fun D tt tg => ⟨hz46, Or.inr (Or.inr (Or.inl ⟨A1, D, isN3, by simp [mj_r_wr], tg, rfl⟩))⟩)
      rw [pTest, if_pos c33]
      exact this
    simp only [c33, if_false, w_22_12, if_true, w_22_31, w_22_32, w_22_34, Option.toList, List.cons_append, List.nil_append, isR, tk (show 40 < 127 by decide)]
    by_cases c40 : t p = 40
    · have hl : p < len := RD_lt r (by omega)
      have x1 : PX R h (mj_wi h R 1 (nI (p + 1))) := PX_wR PX_rf
      have rd1 : RD (mj_wi h R 1 (nI (p + 1))) R T len t (p + 1) (-1) := RD_PX r x1 (by omega) (by simp [mj_i_wi]) (by simp [mj_i_wi]; exact r14)
      simp only [c40, if_true, w_22_37, w_22_40, w_22_41, w_22_42, w_22_43, w_22_44, w_22_45, n10, if_false, Option.toList, List.cons_append, List.nil_append, e2, rd1.2.2.2.1]
      refine k_seq20 (d := d + 3 * lv + 8) (f := pSeq t 38 true (pTest t lv nb)) (nb := nb) (o := 8 - lv) (fun p' h' Q' r' hQ' => k_seq21 (d := d + 3 * lv + 7) (f := pTest t lv nb) (nb := nb) (o := 8 - lv) (fun p'' h'' Q'' r'' hQ'' => ih d nb p'' h'' Q'' (by omega) r'' hQ'') r' hQ') rd1 (fun h3 A1 po => ?_)
      obtain ⟨x3, l3, z3, pn, ps⟩ := po
      have z1 : mj_z (mj_wi h R 1 (nI (p + 1))) = mj_z h := rfl
      have hpt : pTest t (lv + 1) nb p = (match pGuard t (pTest t lv nb) (p + 1) with
        | (q, none) => (q, none)
        | (q, some D) => if t q = 41 then (q + 1, some D) else (q, none)) := by
        rw [pTest, if_neg c33, if_pos c40]
        rfl
      have hg : pSeq t 124 false (pSeq t 38 true (pTest t lv nb)) (p + 1) = pGuard t (pTest t lv nb) (p + 1) := rfl
      rw [hg] at l3 z3 pn ps
      cases hf : pGuard t (pTest t lv nb) (p + 1) with
      | mk q D =>
        rw [hf] at l3 z3 pn ps hpt
        dsimp only at l3 z3 pn ps hpt
        cases D with
        | none =>
          have rd3 := pn rfl
          have hq48 := rd3.2.2.2.2.2.2.2.1
          have hql := rd3.2.2.2.2.2.2.2.2.2.2.2.1
          have hne : nI q ≠ -1 := nI_nm1 (by omega)
          have n0 : nxC t q (nI q) = 0 := if_neg hne
          simp only [w_22_48, w_22_49, w_22_50, w_22_52, w_22_55, w_22_56, Option.toList, List.cons_append, List.nil_append, rd3.2.2.2.1, k_need rd3 (show 41 < 127 by decide), n0, show ¬ (0 = 41) by decide, if_false, hne]
          refine hQ h3 A1 ?_
          rw [hpt]
          exact ⟨PX_tr x1 x3, by dsimp only; omega, by dsimp only; omega, fun _ => rd3, fun D hD => by cases hD⟩
        | some D =>
          obtain ⟨rd3, lt3, tg3⟩ := ps D rfl
          have hq48 := rd3.2.2.2.2.2.2.2.1
          have hql := rd3.2.2.2.2.2.2.2.2.2.2.2.1
          have n0 : nxC t q (-1) = t q := if_pos rfl
          have hmR : (mj_m h3 R).1 = 6 := by rw [rd3.2.2.2.1.2]
          simp only [w_22_48, w_22_49, w_22_50, w_22_52, Option.toList, List.cons_append, List.nil_append, rd3.2.2.2.1, k_need rd3 (show 41 < 127 by decide), n0]
          by_cases c41 : t q = 41
          · have hq2 : q < len := RD_lt rd3 (by omega)
            have x4 : PX R h3 (mj_wi h3 R 1 (nI (q + 1))) := PX_wR PX_rf
            simp only [c41, if_true, w_22_55, w_22_56, Option.toList, List.nil_append]
            refine hQ _ A1 ?_
            dsimp only at hpt
            rw [hpt, if_pos c41]
            refine ⟨PX_tr x1 (PX_tr x3 x4), by dsimp only; omega, (by dsimp only; show mj_z h3 ≤ _; omega), fun hz => (by cases hz), fun D' hD => ⟨RD_PX rd3 x4 (by dsimp only; omega) (by simp [mj_i_wi]) (by simp [mj_i_wi]; exact rd3.2.2.2.2.2.2.2.2.2.2.2.2.2), by dsimp only; omega, ?_⟩⟩
            rw [← Option.some.inj hD]
            have := TG_le (ExU_TG (PX_ExU x4 hmR) _ _ _ _ tg3) 2
            show TG (q + 1 - p) _ A1 nb D
            rw [show q + 1 - p = q - (p + 1) + 2 by omega]
            exact this
          · have x4 : PX R h3 (mj_wi h3 R 2 (nI q)) := PX_wR PX_rf
            simp only [c41, if_false, if_true, w_22_55, w_22_56, Option.toList, List.nil_append]
            refine hQ _ A1 ?_
            dsimp only at hpt
            rw [hpt, if_neg c41]
            exact ⟨PX_tr x1 (PX_tr x3 x4), by dsimp only; omega, (by dsimp only; show mj_z h3 ≤ _; omega), fun _ => RD_PX rd3 x4 hql (by simp [mj_i_wi]; exact rd3.2.2.2.2.2.2.2.2.2.2.2.2.1) (by simp [mj_i_wi]), fun D' hD => by cases hD⟩
    simp only [c40, if_false, w_22_37, if_true, w_22_57, w_22_58, Option.toList, List.cons_append, List.nil_append]
    -- the comparison
    have cmp : ¬ (nb = false ∧ (t p = 65 ∨ t p = 69)) → mj_Wp L xs (d + 3 * lv + 8 + 1 + 1 + 1) 22 117 [some (.ref R), some (.int (nI (8 - (lv + 1)))), some (.int (bI nb)), none] [] h Q := by
      intro hn
      simp only [w_22_117, w_22_118, w_22_119, isR]
      rw [show d + 3 * lv + 8 + 1 + 1 = (d + 3 * lv + 3) + 1 + 1 + 1 + 1 + 1 + 1 + 1 by omega]
      refine k_readCmp r (fun h1 A po => ?_)
      simp only [w_22_122, Option.toList, List.cons_append, List.nil_append]
      refine hQ h1 A ?_
      rw [pTest, if_neg c33, if_neg c40, if_neg hn]
      exact po
    -- a test of the neighbours
    have nbh : ∀ (b : Bool), nb = false → (t p = 65 ∨ t p = 69) → b = decide (t p = 65) → ∀ (h2 : MH), h2 = mj_nw (mj_wi h R 1 (nI (p + 1))) 3 2 → ∀ (Q' : Option Value × MH → Prop), (∀ h3 A1, mj_is h3 (mj_z h) 3 2 → Q (some (.ref (mj_z h)), mj_wi (mj_wr h3 (mj_z h) 0 (some A1)) (mj_z h) 1 (bI b)) → Q' (some (.ref A1), h3)) → mj_Wp L xs (d + 3 * lv + 8 + 1 + 1) 22 0 [some (.ref R), some (.int (nI (8 - lv))), some (.int (nI 1)), none] [] h2 Q' := by
      intro b hnb hAE hb h2 hh2 Q' hQ'
      have hl : p < len := RD_lt r (by omega)
      have rd2 := tst 3 2 h2 hl hh2 (by decide)
      rw [show d + 3 * lv + 8 + 1 + 1 = (d + 2) + 3 * lv + 8 by omega]
      refine ih (d + 2) true (p + 1) h2 _ (by omega) rd2 (fun h3 A1 po => ?_)
      have isN3 : mj_is h3 (mj_z h) 3 2 := PX_is po.1 ⟨by rw [hh2]; show mj_z h < mj_z h + 1; omega, by rw [hh2]; exact mj_nw_m (h := mj_wi h R 1 (nI (p + 1)))⟩
      refine hQ' h3 A1 isN3 (hQ _ (mj_z h) ?_)
      have := PO_un (h4 := mj_wi (mj_wr h3 (mj_z h) 0 (some A1)) (mj_z h) 1 (bI b)) (nb := nb) (F := fun D => fun n k m vs pt => quF b (D n k m vs) m vs pt n) r hl hh2 (by decide) rfl (by decide) po (fun x3 => PX_wi (PX_wr (PX_tr (by rw [hh2]; exact PX_nw (PX_wR PX_rf) (by decide)) x3) (Nat.le_refl _)) (Nat.le_refl _)) rfl (fun j => by simp [mj_i_wi, mj_i_wr, nR]) (fun rN isN => ⟨Nat.le_refl _, fun a _ ha => ⟨rfl, by
        by_cases z : a = mj_z h
        · rw [z]; exact Or.inr (Or.inl ⟨by rw [isN.2]; decide, rN⟩)
        · exact Or.inr (Or.inr ⟨by funext j; rw [mj_i_ne z, mj_i_wr], by funext j; simp [mj_r_wi, mj_r_wr, z]⟩)⟩⟩) (fun D tt tg => ⟨hz46, Or.inr (Or.inr (Or.inr ⟨hnb, A1, b, D, isN3, by simp [mj_r_wi, mj_r_wr], by simp [mj_i_wi, bI], tg, rfl⟩))⟩)
      rw [pTest, if_neg c33, if_neg c40, if_pos ⟨hnb, hAE⟩, ← hb]
      exact this
    cases nb with
    | true =>
      have hn : ¬ (true = false ∧ (t p = 65 ∨ t p = 69)) := fun z => by cases z.1
      simp only [bI_1, n10, not_false_eq_true, if_true, w_22_87, w_22_88]
      have := cmp hn
      rw [bI_1] at this
      exact this
    | false =>
      have hzz : mj_z (mj_wi h R 1 (nI (p + 1))) = mj_z h := rfl
      simp only [bI_0, not_true_eq_false, if_false, w_22_61, w_22_62, w_22_64, isR, tk (show 65 < 127 by decide)]
      by_cases c65 : t p = 65
      · obtain ⟨h2, hh2⟩ : ∃ h2, h2 = mj_nw (mj_wi h R 1 (nI (p + 1))) 3 2 := ⟨_, rfl⟩
        have hl : p < len := RD_lt r (by omega)
        have rd2 := tst 3 2 h2 hl hh2 (by decide)
        simp only [c65, if_true, w_22_67, w_22_70, w_22_73, w_22_74, w_22_75, w_22_76, w_22_77, w_22_78, w_22_79, n10, if_false, Option.toList, List.cons_append, List.nil_append, ← hh2, hzz, e2, rd2.2.2.2.1]
        refine nbh true rfl (Or.inl c65) (by rw [c65]; rfl) h2 hh2 _ (fun h3 A1 isN3 hq => ?_)
        simp only [w_22_82, w_22_83, w_22_86, w_29_0, w_29_1, w_29_4, w_29_5, w_29_6, w_29_9, w_29_10, w_29_11, w_29_14, w_26_0, w_26_1, w_26_4, Option.toList, List.cons_append, List.nil_append, isN3, mj_is_wr, mj_is_wi, mj_fit_n1]
        exact hq
      · simp only [c65, if_false, w_22_67, if_true, w_22_87, w_22_88, w_22_91, w_22_92, w_22_94, Option.toList, List.cons_append, List.nil_append, not_true_eq_false, isR, tk (show 69 < 127 by decide)]
        by_cases c69 : t p = 69
        · obtain ⟨h2, hh2⟩ : ∃ h2, h2 = mj_nw (mj_wi h R 1 (nI (p + 1))) 3 2 := ⟨_, rfl⟩
          have hl : p < len := RD_lt r (by omega)
          have rd2 := tst 3 2 h2 hl hh2 (by decide)
          simp only [c69, if_true, w_22_97, w_22_100, w_22_103, w_22_104, w_22_105, w_22_106, w_22_107, w_22_108, w_22_109, n10, if_false, Option.toList, List.cons_append, List.nil_append, ← hh2, hzz, e2, rd2.2.2.2.1]
          refine nbh false rfl (Or.inr c69) (by rw [c69]; rfl) h2 hh2 _ (fun h3 A1 isN3 hq => ?_)
          simp only [w_22_112, w_22_113, w_22_116, w_29_0, w_29_1, w_29_4, w_29_5, w_29_6, w_29_9, w_29_10, w_29_11, w_29_14, w_26_0, w_26_1, w_26_4, Option.toList, List.cons_append, List.nil_append, isN3, mj_is_wr, mj_is_wi, mj_fit_n0]
          exact hq
        · simp only [c69, if_false, w_22_97, if_true, Option.toList, List.cons_append, List.nil_append]
          have := cmp (fun z => by rcases z.2 with z | z; exact c65 z; exact c69 z)
          rw [bI_0] at this
          exact this
/-- reading a whole guard -/
theorem k_readGuard {d : Nat} {Q : Option Value × MH → Prop} {h : MH} {p : Nat} (r : RD h R T len t p (-1)) (hQ : ∀ h' A, PO h h' R T len t p (pGuard t (pTest t 8 false) p) A false → Q (some (.ref A), h')) : mj_Wp L xs (d + 34) 20 0 [some (.ref R), some (.int (nI 0)), some (.int (nI 0)), none, none] [] h Q := by
  have := k_seq20 (L := L) (xs := xs) (d := d + 3 * 8 + 8) (Q := Q) (f := pSeq t 38 true (pTest t 8 false)) (nb := false) (o := 0) (fun p' h' Q' r' hQ' => k_seq21 (d := d + 3 * 8 + 7) (f := pTest t 8 false) (nb := false) (o := 0) (fun p'' h'' Q'' r'' hQ'' => k_readTest 8 d false p'' h'' Q'' (by omega) r'' hQ'') r' hQ') r hQ
  exact this
end RqK
