/-! What the guards answer: holds. -/
def hdM (ci : Nat) : Nat := if ci = 1 then 50 else if ci = 3 then 52 else if ci = 4 then 54 else 55
def hdL (ci a v : Nat) : List (Option Value) := if ci = 1 then [some (.ref a), some (.ref v), none, none] else if ci = 3 then [some (.ref a), some (.ref v), none] else [some (.ref a), some (.ref v)]
def bI (b : Bool) : Int32 := if b = true then nI 1 else nI 0
theorem is_uniq {h : MH} {a ci N ci' N' : Nat} (h1 : mj_is h a ci N) (h2 : mj_is h a ci' N') : ci' = ci ∧ N' = N := by
  have := h1.2.symm.trans h2.2
  simp only [Prod.mk.injEq] at this
  exact ⟨this.1.symm, this.2.symm⟩
/-- which class the tree's root has -/
theorem TG_cls {h : MH} {t a : Nat} {nb : Bool} {D : GD} (q : TG t h a nb D) : mj_is h a 1 3 ∨ mj_is h a 3 2 ∨ mj_is h a 4 1 ∨ mj_is h a 5 3 := by
  cases t with
  | zero => exact q.elim
  | succ t =>
    rcases q.2 with ⟨l, r, sg, m1, m2, c1, c2, g1, g2, w1, w2, p1, -⟩ | ⟨l, r, b, D1, D2, p1, -⟩ | ⟨i, D1, p1, -⟩ | ⟨-, i, b, D1, p1, -⟩
    · exact Or.inl p1
    · exact Or.inr (Or.inr (Or.inr p1))
    · exact Or.inr (Or.inr (Or.inl p1))
    · exact Or.inr (Or.inl p1)
theorem qu_stop {all : Bool} {D : (Nat → Int32) → Bool} {m : Nat} {vs pt : Nat → Int32} {b : Nat} (q : quF all D m vs pt b = !all) : ∀ r, quF all D m vs pt (b + r) = !all
  | 0 => q
  | r + 1 => by
    have ih := qu_stop q r
    rw [show b + (r + 1) = (b + r) + 1 by omega, quF]
    rw [ih]
    cases all <;> simp
section HoldK
variable {L : Nat} {xs : Nat → Int32} {d : Nat} {Q : Option Value × MH → Prop} {h : MH}
/-- the walk into a tree's root -/
def HW (L : Nat) (xs : Nat → Int32) (d a v : Nat) (h : MH) (Q : Option Value × MH → Prop) : Prop := mj_Wp L xs d (hdM (mj_m h a).1) 0 (hdL (mj_m h a).1 a v) [] h Q
theorem HW_1 {a v : Nat} (H : mj_is h a 1 3) : HW L xs d a v h Q ↔ mj_Wp L xs d 50 0 [some (.ref a), some (.ref v), none, none] [] h Q := by
  simp [HW, H.2, hdM, hdL]
theorem HW_3 {a v : Nat} (H : mj_is h a 3 2) : HW L xs d a v h Q ↔ mj_Wp L xs d 52 0 [some (.ref a), some (.ref v), none] [] h Q := by
  simp [HW, H.2, hdM, hdL]
theorem HW_4 {a v : Nat} (H : mj_is h a 4 1) : HW L xs d a v h Q ↔ mj_Wp L xs d 54 0 [some (.ref a), some (.ref v)] [] h Q := by
  simp [HW, H.2, hdM, hdL]
theorem HW_5 {a v : Nat} (H : mj_is h a 5 3) : HW L xs d a v h Q ↔ mj_Wp L xs d 55 0 [some (.ref a), some (.ref v)] [] h Q := by
  simp [HW, H.2, hdM, hdL]
theorem c_54_5 {i v : Nat} {ls : List (Option Value)} (H : mj_is h i 1 3 ∨ mj_is h i 3 2 ∨ mj_is h i 4 1 ∨ mj_is h i 5 3) : mj_Wp L xs (d + 1) 54 5 ls [.ref v, .ref i] h Q ↔ HW L xs d i v h (fun r => mj_Wp L xs (d + 1) 54 8 ls (r.1.toList ++ []) r.2 Q) := by
  rcases H with H | H | H | H
  · rw [HW_1 H, w_54_5_1 H]
  · rw [HW_3 H, w_54_5_3 H]
  · rw [HW_4 H, w_54_5_4 H]
  · rw [HW_5 H, w_54_5_5 H]
theorem c_55_5 {i v : Nat} {ls : List (Option Value)} (H : mj_is h i 1 3 ∨ mj_is h i 3 2 ∨ mj_is h i 4 1 ∨ mj_is h i 5 3) : mj_Wp L xs (d + 1) 55 5 ls [.ref v, .ref i] h Q ↔ HW L xs d i v h (fun r => mj_Wp L xs (d + 1) 55 8 ls (r.1.toList ++ []) r.2 Q) := by
  rcases H with H | H | H | H
  · rw [HW_1 H, w_55_5_1 H]
  · rw [HW_3 H, w_55_5_3 H]
  · rw [HW_4 H, w_55_5_4 H]
  · rw [HW_5 H, w_55_5_5 H]
theorem c_55_20 {i v : Nat} {ls : List (Option Value)} (H : mj_is h i 1 3 ∨ mj_is h i 3 2 ∨ mj_is h i 4 1 ∨ mj_is h i 5 3) : mj_Wp L xs (d + 1) 55 20 ls [.ref v, .ref i] h Q ↔ HW L xs d i v h (fun r => mj_Wp L xs (d + 1) 55 23 ls (r.1.toList ++ []) r.2 Q) := by
  rcases H with H | H | H | H
  · rw [HW_1 H, w_55_20_1 H]
  · rw [HW_3 H, w_55_20_3 H]
  · rw [HW_4 H, w_55_20_4 H]
  · rw [HW_5 H, w_55_20_5 H]
theorem c_52_38 {i v : Nat} {ls : List (Option Value)} (H : mj_is h i 1 3 ∨ mj_is h i 3 2 ∨ mj_is h i 4 1 ∨ mj_is h i 5 3) : mj_Wp L xs (d + 1) 52 38 ls [.ref v, .ref i] h Q ↔ HW L xs d i v h (fun r => mj_Wp L xs (d + 1) 52 41 ls (r.1.toList ++ []) r.2 Q) := by
  rcases H with H | H | H | H
  · rw [HW_1 H, w_52_38_1 H]
  · rw [HW_3 H, w_52_38_3 H]
  · rw [HW_4 H, w_52_38_4 H]
  · rw [HW_5 H, w_52_38_5 H]
/-- what a view stands for: state's values vs, node x -/
def VS (h : MH) (v n k e : Nat) (lk : Nat → Nat) (x : Nat) (vs : Nat → Int32) : Prop := (v = 4 ∨ v = 20) ∧ 2 ≤ n ∧ n ≤ 5 ∧ 2 ≤ k ∧ k ≤ 4 ∧ (∀ a, lk a < 32) ∧ x < n ∧ Lay h ∧ VL h v ∧ Gr h n k e lk ∧ mj_i h v 5 = nI x ∧ ∀ j, j < n → vs j = mj_i h (v + 1) j
theorem VS_sx {h' : MH} {v n k e x : Nat} {lk : Nat → Nat} {vs : Nat → Int32} (s : VS h v n k e lk x vs) (q : mj_sx [v + 2] h h') : VS h' v n k e lk x vs := by
  obtain ⟨a1, a2, a3, a4, a5, a6, a7, a8, a9, a10, a11, a12⟩ := s
  refine ⟨a1, a2, a3, a4, a5, a6, a7, sx_Lay q a8, VL_sx q a9, Gr_sx q (by rcases a1 with rfl | rfl <;> decide) a10, ?_, fun j hj => ?_⟩
  · rw [sx_i q (by simp)]
    exact a11
  · rw [sx_i q (by simp)]
    exact a12 j hj
theorem bI_1 : bI true = nI 1 := rfl
theorem bI_0 : bI false = nI 0 := rfl
theorem fit_bI (b : Bool) : mj_fit .boolean (bI b) = true := by cases b <;> decide
theorem bI_eq (a b : Bool) : (bI a = bI b) = (a = b) := by cases a <;> cases b <;> decide
theorem bI_z (a : Bool) : (bI a = nI 0) = (a = false) := by cases a <;> decide
theorem k_cmp {t v n k e x a l r sg m1 m2 : Nat} {lk : Nat → Nat} {vs : Nat → Int32} {c1 c2 : Nat → Nat} {g1 g2 : Nat → Bool} {w1 w2 : Bool} (s : VS h v n k e lk x vs) (p1 : mj_is h a 1 3) (p2 : mj_r h a 0 = some l) (p3 : mj_r h a 2 = some r) (p4 : mj_i h a 1 = nI sg) (p5 : sg = 60 ∨ sg = 61 ∨ sg = 35) (p6 : SumAt h l m1 c1 g1 w1) (p7 : SumAt h r m2 c2 g2 w2) : mj_Wp L xs (d + 1 + 1) 50 0 [some (.ref a), some (.ref v), none, none] [] h Q ↔ Q (some (.int (bI (cpF sg (smF k (mj_i h (v + 2)) m1 c1 g1 w1) (smF k (mj_i h (v + 2)) m2 c2 g2 w2)))), h) := by
  obtain ⟨a1, a2, a3, a4, a5, a6, a7, a8, a9, a10, a11, a12⟩ := s
  have l1 : mj_is h l 9 4 := by obtain ⟨_, _, _, _, _, q, _⟩ := p6; exact q
  have r1 : mj_is h r 9 4 := by obtain ⟨_, _, _, _, _, q, _⟩ := p7; exact q
  simp only [w_50_0, w_50_1, w_50_4, w_50_5, w_50_8, w_50_9, w_50_10, w_50_13, w_50_14, w_50_17, w_50_18, w_50_19, p1, p2, p3, p4, l1, r1, mj_rv_some, k_total a8 a9 a10.2.1 (show 0 < k by omega) a5 p6, k_total a8 a9 a10.2.1 (show 0 < k by omega) a5 p7, Option.toList, List.cons_append, List.nil_append]
  generalize smF k (mj_i h (v + 2)) m1 c1 g1 w1 = X
  generalize smF k (mj_i h (v + 2)) m2 c2 g2 w2 = Y
  simp only [w_50_22, w_50_24, w_50_27, w_50_28, w_50_29, w_50_32, w_50_33, w_50_36, w_50_37, w_50_38, w_50_39, w_50_40, w_50_43, w_50_44, w_50_47, w_50_48, w_50_49, w_50_52, w_50_54, w_50_57, w_50_58, w_50_61, w_50_62, w_50_65, w_50_66, w_50_69, w_50_70, p1, p4, mj_fit_n0, mj_fit_n1]
  have n10 : ¬ nI 1 = nI 0 := by decide
  have n01 : ¬ nI 0 = nI 1 := by decide
  rcases p5 with rfl | rfl | rfl
  · by_cases hlt : X < Y
    · have hle : ¬ Y ≤ X := fun z => Int32.not_lt.mpr z hlt
      simp [cpF, hlt, hle, bI]
    · have hle : Y ≤ X := Int32.not_lt.mp hlt
      simp [cpF, hlt, hle, bI]
  · have q1 : ¬ nI 61 = nI 60 := by decide
    by_cases heq : X = Y <;> simp [cpF, heq, bI, q1, n10, n01]
  · have q1 : ¬ nI 35 = nI 60 := by decide
    have q2 : ¬ nI 35 = nI 61 := by decide
    by_cases heq : X = Y <;> simp [cpF, heq, bI, q1, q2, n10, n01]
/-- a tree's answer, and what it may leave behind: y and j -/
def HQ (Q : Option Value × MH → Prop) (h : MH) (v : Nat) (nb b : Bool) : Prop := ∀ h', mj_sx [v + 2] h h' → (∀ c, c ≠ 121 → c ≠ 106 → mj_i h' (v + 2) c = mj_i h (v + 2) c) → (nb = true → h' = h) → Q (some (.int (bI b)), h')
theorem k_nb_loop {t v n k e x a i : Nat} {lk : Nat → Nat} {vs : Nat → Int32} {b : Bool} {D1 : GD} {pt0 : Nat → Int32} (hd1 : 1 ≤ d) (ih : ∀ (h : MH) (Q : Option Value × MH → Prop), VS h v n k e lk x vs → TG t h i true D1 → HQ Q h v true (D1 n k (lk x) vs (mj_i h (v + 2))) → HW L xs d i v h Q) : ∀ (r c : Nat) (h : MH), c + r = n → VS h v n k e lk x vs → TG t h i true D1 → mj_is h a 3 2 → 46 ≤ a → mj_r h a 0 = some i → mj_i h a 1 = (if b = true then nI 1 else nI 0) → (∀ c, c ≠ 121 → c ≠ 106 → mj_i h (v + 2) c = pt0 c) → quF b (D1 n k (lk x) vs) (lk x) vs pt0 c = b →
    (∀ h', mj_sx [v + 2] h h' → (∀ c, c ≠ 121 → c ≠ 106 → mj_i h' (v + 2) c = mj_i h (v + 2) c) → Q (some (.int (bI (quF b (D1 n k (lk x) vs) (lk x) vs pt0 n))), h')) → mj_Wp L xs (d + 1) 52 2 [some (.ref a), some (.ref v), some (.int (nI c))] [] h Q := by
  obtain ⟨d, rfl⟩ : ∃ d', d = d' + 1 := ⟨d - 1, by omega⟩
  have n10 : ¬ nI 1 = nI 0 := by decide
  have n01 : ¬ nI 0 = nI 1 := by decide
  have bf : ∀ b : Bool, mj_fit .boolean (if b = true then nI 1 else nI 0) = true := fit_bI
  intro r
  induction r with
  | zero =>
    intro c h hc s q p1 pa p2 p3 hp hq hQ
    have hc : c = n := by omega
    subst hc
    obtain ⟨a1, a2, a3, a4, a5, a6, a7, a8, a9, a10, a11, a12⟩ := s
    rw [w_52_2]
    simp only [w_52_3, w_52_4, w_52_7, w_52_10, w_52_67, w_52_68, w_52_71, a9.1, a9.2.1, ly_1 a8, mj_rv_some, a10.1, nI_leI (show c < 2 ^ 31 by omega) (show c < 2 ^ 31 by omega), Nat.le_refl, if_true, p1, p3, bf]
    have := hQ h sx_rf (fun _ _ _ => rfl)
    rw [hq] at this
    exact this
  | succ r ihr =>
    intro c h hc s q p1 pa p2 p3 hp hq hQ
    have hs := s
    obtain ⟨a1, a2, a3, a4, a5, a6, a7, a8, a9, a10, a11, a12⟩ := s
    have e0 : ¬ n ≤ c := by omega
    rw [w_52_2]
    simp only [w_52_3, w_52_4, w_52_7, w_52_10, w_52_13, w_52_14, w_52_17, w_52_18, w_52_21, w_52_22, w_52_25, w_52_28, w_52_29, w_52_30, w_52_61, w_52_64, a9.1, a9.2.1, ly_1 a8, mj_rv_some, a10.1, a11, nI_leI (show n < 2 ^ 31 by omega) (show c < 2 ^ 31 by omega), e0, if_false, k_lk a8 a10 a6 (show x < 5 by omega) (show c < 5 by omega), k_lookAt (show c < 5 by omega) a9, Option.toList, List.cons_append, List.nil_append, nI_add]
    by_cases hbit : lk x / 2 ^ c % 2 = 0
    · simp only [hbit, if_true]
      exact ihr (c + 1) h (by omega) hs q p1 pa p2 p3 hp (by rw [quF, if_pos hbit]; exact hq) hQ
    · simp only [hbit, if_false, n10]
      obtain ⟨h1, hh⟩ : ∃ h1, h1 = mj_wi (mj_wi h (v + 2) 121 (mj_i h (v + 1) c)) (v + 2) 106 (nI c) := ⟨_, rfl⟩
      rw [← hh]
      have s1 : mj_sx [v + 2] h h1 := by
        rw [hh]
        exact sx_tr (sx_wi (by simp)) (sx_wi (by simp))
      have hS46 : ∀ z ∈ [v + 2], z < 46 := by rcases a1 with rfl | rfl <;> decide
      have e1 := Ext_sx s1 hS46
      have q1 := Ext_TG e1 _ _ _ _ q
      have b1 := Ext_is e1 pa p1
      have b2 : mj_r h1 a 0 = some i := by rw [sx_r s1]; exact p2
      have hav : a ∉ [v + 2] := fun z => by have := hS46 a z; omega
      have b3 : mj_i h1 a 1 = (if b = true then nI 1 else nI 0) := by rw [sx_i s1 hav]; exact p3
      have hs1 := VS_sx hs s1
      have f1 : ∀ z, z ≠ 121 → z ≠ 106 → mj_i h1 (v + 2) z = mj_i h (v + 2) z := by
        intro z z1 z2
        simp [hh, mj_i_wi, z1, z2]
      have f2 : mj_i h1 (v + 2) = ptU pt0 (vs c) (nI c) := by
        funext z
        unfold ptU
        by_cases z1 : z = 106
        · subst z1; simp [hh, mj_i_wi]
        · by_cases z2 : z = 121
          · subst z2; simp [hh, mj_i_wi, a12 c (by omega)]
          · rw [f1 z z2 z1, hp z z2 z1]
            simp [z1, z2]
      simp only [w_52_33, w_52_34, b1, b2, mj_rv_some, w_52_37, c_52_38 (TG_cls q1)]
      refine ih h1 _ hs1 q1 (fun h' u1 u2 u3 => ?_)
      have u3 := u3 rfl
      subst u3
      rw [f2]
      simp only [w_52_41, w_52_42, w_52_45, w_52_48, w_52_49, w_52_52, w_52_55, w_52_56, w_52_59, w_52_60, w_52_61, w_52_64, Option.toList, List.cons_append, List.nil_append, b1, b3, nI_add, mj_fit_n0, mj_fit_n1]
      by_cases hD : D1 n k (lk x) vs (ptU pt0 (vs c) (nI c)) = b
      · have e9 : (bI (D1 n k (lk x) vs (ptU pt0 (vs c) (nI c))) = if b = true then nI 1 else nI 0) = True := by
          rw [hD]; exact eq_true rfl
        simp only [e9, if_true]
        refine ihr (c + 1) h' (by omega) hs1 q1 b1 pa b2 b3 (fun z z1 z2 => by rw [f1 z z1 z2]; exact hp z z1 z2) ?_ (fun h2 w1 w2 => hQ h2 (sx_tr s1 w1) (fun z z1 z2 => by rw [w2 z z1 z2]; exact f1 z z1 z2))
        rw [quF, if_neg hbit, hq, hD]
        cases b <;> rfl
      · have e9 : (bI (D1 n k (lk x) vs (ptU pt0 (vs c) (nI c))) = if b = true then nI 1 else nI 0) = False := by
          have : (if b = true then nI 1 else nI 0) = bI b := rfl
          rw [this, bI_eq]; exact eq_false hD
        have hDn : D1 n k (lk x) vs (ptU pt0 (vs c) (nI c)) = !b := by
          cases b <;> simp_all
        have st : quF b (D1 n k (lk x) vs) (lk x) vs pt0 (c + 1) = !b := by
          rw [quF, if_neg hbit, hq, hDn]
          cases b <;> rfl
        have st2 := qu_stop st (n - (c + 1))
        rw [show c + 1 + (n - (c + 1)) = n by omega] at st2
        have fin := hQ h' s1 f1
        rw [st2] at fin
        simp only [e9, if_false]
        cases b
        · simpa [bI] using fin
        · simpa [bI, n10] using fin
end HoldK
