/-! What changes but some rows; the graph's renew. -/
/-- nothing but the ints of the rows S -/
def mj_sx (S : List Nat) (h h' : MH) : Prop := mj_z h' = mj_z h ∧ mj_u h' = mj_u h ∧ (∀ a, mj_m h' a = mj_m h a) ∧ (∀ a, mj_r h' a = mj_r h a) ∧ ∀ a, a ∉ S → mj_i h' a = mj_i h a
section SxRows
variable {S T : List Nat} {h h' h'' : MH} {a b k n kd : Nat} {x : Int32} {f : Nat → Int32}
theorem sx_rf : mj_sx S h h := ⟨rfl, rfl, fun _ => rfl, fun _ => rfl, fun _ _ => rfl⟩
theorem sx_tr (h1 : mj_sx S h h') (h2 : mj_sx S h' h'') : mj_sx S h h'' := ⟨h2.1.trans h1.1, h2.2.1.trans h1.2.1, fun a => (h2.2.2.1 a).trans (h1.2.2.1 a), fun a => (h2.2.2.2.1 a).trans (h1.2.2.2.1 a), fun a ha => (h2.2.2.2.2 a ha).trans (h1.2.2.2.2 a ha)⟩
theorem sx_mono (h1 : mj_sx S h h') (hST : ∀ a, a ∈ S → a ∈ T) : mj_sx T h h' := ⟨h1.1, h1.2.1, h1.2.2.1, h1.2.2.2.1, fun a ha => h1.2.2.2.2 a (fun z => ha (hST a z))⟩
theorem sx_wa (ha : a ∈ S) : mj_sx S h (mj_wa h a f) := ⟨rfl, rfl, fun _ => rfl, fun _ => rfl, fun b hb => mj_wa_o (fun e => hb (e ▸ ha))⟩
theorem sx_wi (ha : a ∈ S) : mj_sx S h (mj_wi h a k x) := sx_wa ha
theorem sx_is (h1 : mj_sx S h h') : mj_is h' b kd n ↔ mj_is h b kd n := by
  simp only [mj_is, h1.1, h1.2.2.1]
theorem sx_ik (h1 : mj_sx S h h') : mj_ik h' b kd ↔ mj_ik h b kd := by
  simp only [mj_ik, h1.1, h1.2.2.1]
theorem sx_ln (h1 : mj_sx S h h') : mj_ln h' b = mj_ln h b := by
  simp only [mj_ln, h1.2.2.1]
theorem sx_r (h1 : mj_sx S h h') : mj_r h' b k = mj_r h b k := by rw [h1.2.2.2.1]
theorem sx_i (h1 : mj_sx S h h') (hb : b ∉ S) : mj_i h' b k = mj_i h b k := by rw [h1.2.2.2.2 b hb]
theorem sx_Lay (h1 : mj_sx S h h') (hL : Lay h) : Lay h' := ⟨by rw [h1.1]; exact hL.1, fun a ha => (h1.2.2.1 a).trans (hL.2.1 a ha), fun q hq => by rw [sx_r h1]; exact hL.2.2 q hq⟩
end SxRows
/-- the graph's cells -/
def GL (h : MH) : Prop := mj_is h 1 2 6 ∧ mj_r h 1 0 = some 2 ∧ mj_r h 1 1 = some 3 ∧ mj_ik h 2 100 ∧ mj_ln h 2 = 5 ∧ mj_ik h 3 100 ∧ mj_ln h 3 = 5
theorem GL_of {h : MH} (hL : Lay h) : GL h := ⟨ly_1 hL, lr_1_0 hL, lr_1_1 hL, lk_2 hL, ln_2 hL, lk_3 hL, ln_3 hL⟩
theorem GL_sx {S : List Nat} {h h' : MH} (h1 : mj_sx S h h') (g : GL h) : GL h' := by
  simp only [GL, sx_is h1, sx_r h1, sx_ik h1, sx_ln h1]
  exact g
/-- the graph: n nodes, values below k, e edges, links by masks -/
def Gr (h : MH) (n k e : Nat) (lk : Nat → Nat) : Prop := mj_i h 1 2 = nI n ∧ mj_i h 1 3 = nI k ∧ mj_i h 1 4 = nI e ∧ mj_i h 1 5 = nI (k ^ n) ∧ (∀ a, a < n → mj_i h 3 a = nI (k ^ (n - 1 - a))) ∧ ∀ a, a < 5 → mj_i h 2 a = nI (lk a)
section GraphR
variable {L : Nat} {xs : Nat → Int32} {d : Nat} {Q : Option Value × MH → Prop}
theorem k_renew_loop {n k : Nat} {X' Y' : Option Value} (hn : n ≤ 5) : ∀ (m : Nat) (h : MH), m ≤ n → GL h → mj_i h 1 3 = nI k → mj_i h 1 5 = nI (k ^ (n - m)) → (∀ a, m ≤ a → a < n → mj_i h 3 a = nI (k ^ (n - 1 - a))) →
    (∀ h', mj_sx [1, 3] h h' → mj_i h' 1 2 = mj_i h 1 2 → mj_i h' 1 3 = mj_i h 1 3 → mj_i h' 1 4 = mj_i h 1 4 → mj_i h' 1 5 = nI (k ^ n) → (∀ a, a < n → mj_i h' 3 a = nI (k ^ (n - 1 - a))) → Q (none, h')) → mj_Wp L xs d 3 35 [some (.ref 1), X', Y', some (.int (nI m - nI 1))] [] h Q := by
  intro m
  induction m with
  | zero =>
    intro h _ g h3 h5 hw hQ
    rw [w_3_35]
    simp only [w_3_36, show nI 0 - nI 1 < nI 0 by decide, if_true, w_3_68]
    exact hQ h sx_rf rfl rfl rfl (by simpa using h5) (fun a ha => hw a (Nat.zero_le _) ha)
  | succ m ih =>
    intro h hm g h3 h5 hw hQ
    obtain ⟨g1, g2, g3, g4, g5, g6, g7⟩ := g
    have e1 : nI (m + 1) - nI 1 = nI m := pk_sub (by omega)
    have e2 : ¬ nI m < nI 0 := by rw [nI_ltI (by omega) (by omega)]; omega
    have e3 : mj_in (nI m) 5 = true := mj_in_nI (by omega) (by omega)
    have e4 : (nI m).toNatClampNeg = m := nI_clamp (by omega)
    have e5 : mj_i (mj_wi h 3 m (mj_i h 1 5)) 1 5 = nI (k ^ (n - (m + 1))) := by rw [mj_i_wi]; simp [h5]
    have e6 : mj_i (mj_wi h 3 m (mj_i h 1 5)) 1 3 = nI k := by rw [mj_i_wi]; simp [h3]
    rw [e1, w_3_35]
    simp only [w_3_36, e2, if_false, w_3_39, w_3_40, w_3_43, w_3_44, w_3_45, w_3_48, w_3_49, w_3_50, w_3_51, w_3_54, w_3_55, w_3_58, w_3_59, w_3_62, w_3_65, g1, g3, g6, g7, e3, e4, mj_rv_some, mj_is_wi, e5, e6, pk_mul]
    have e7 : nI m + (-1) = nI m - nI 1 := by
      have : (-1 : Int32) = - nI 1 := by decide
      rw [this, Int32.sub_eq_add_neg]
    rw [e7]
    have e8 : k ^ (n - (m + 1)) * k = k ^ (n - m) := by
      rw [← Nat.pow_succ]
      congr 1
      omega
    have s1 : mj_sx [1, 3] h (mj_wi (mj_wi h 3 m (mj_i h 1 5)) 1 5 (nI (k ^ (n - (m + 1)) * k))) := sx_tr (sx_wi (by decide)) (sx_wi (by decide))
    have r12 : ∀ j, j ≠ 5 → mj_i (mj_wi (mj_wi h 3 m (mj_i h 1 5)) 1 5 (nI (k ^ (n - (m + 1)) * k))) 1 j = mj_i h 1 j := by
      intro j hj
      rw [mj_i_wi, mj_i_wi]
      simp [hj]
    refine ih _ (by omega) (GL_sx s1 ⟨g1, g2, g3, g4, g5, g6, g7⟩) ?_ ?_ ?_ ?_
    · rw [r12 3 (by decide)]
      exact h3
    · rw [mj_i_wi]
      simp [e8]
    · intro a ha1 ha2
      rw [mj_i_wi, mj_i_wi]
      by_cases ha : a = m
      · subst ha
        simp [h5, show n - (a + 1) = n - 1 - a by omega]
      · simp [ha]
        exact hw a (by omega) ha2
    · intro h' q1 q2 q3 q4 q5 q6
      exact hQ h' (sx_tr s1 q1) (by rw [q2, r12 2 (by decide)]) (by rw [q3, r12 3 (by decide)]) (by rw [q4, r12 4 (by decide)]) q5 q6
theorem k_renew {n k : Nat} {h : MH} (hn : n ≤ 5) (hn1 : 1 ≤ n) (g : GL h) (hQ : ∀ h', mj_sx [1, 2, 3] h h' → Gr h' n k 0 (fun _ => 0) → Q (none, h')) : mj_Wp L xs (d + 1) 3 0 [some (.ref 1), some (.int (nI n)), some (.int (nI k)), none] [] h Q := by
  obtain ⟨g1, g2, g3, g4, g5, g6, g7⟩ := g
  simp only [w_3_0, w_3_1, w_3_2, w_3_5, w_3_6, w_3_7, w_3_10, w_3_11, w_3_12, w_3_15, w_3_16, w_3_17, w_3_20, w_3_21, w_3_24, w_3_25, g1, g2, mj_rv_some, mj_is_wi, mj_r_wi, k_fill (show mj_ik (mj_wi (mj_wi (mj_wi (mj_wi h 1 2 (nI n)) 1 3 (nI k)) 1 4 (nI 0)) 1 5 (nI 1)) 2 100 from g4) g5 (by decide), Option.toList, List.nil_append]
  obtain ⟨h1, hh⟩ : ∃ h1, h1 = mj_wa (mj_wi (mj_wi (mj_wi (mj_wi h 1 2 (nI n)) 1 3 (nI k)) 1 4 (nI 0)) 1 5 (nI 1)) 2 (fun t => if t < 5 then nI 0 else mj_i (mj_wi (mj_wi (mj_wi (mj_wi h 1 2 (nI n)) 1 3 (nI k)) 1 4 (nI 0)) 1 5 (nI 1)) 2 t) := ⟨_, rfl⟩
  rw [← hh]
  have s1 : mj_sx [1, 2, 3] h h1 := by
    rw [hh]
    exact sx_tr (sx_tr (sx_tr (sx_tr (sx_wi (by decide)) (sx_wi (by decide))) (sx_wi (by decide))) (sx_wi (by decide))) (sx_wa (by decide))
  have f2 : mj_i h1 1 2 = nI n := by simp [hh, mj_i_wa, mj_i_wi]
  have f3 : mj_i h1 1 3 = nI k := by simp [hh, mj_i_wa, mj_i_wi]
  have f4 : mj_i h1 1 4 = nI 0 := by simp [hh, mj_i_wa, mj_i_wi]
  have f5 : mj_i h1 1 5 = nI 1 := by simp [hh, mj_i_wa, mj_i_wi]
  have f6 : ∀ a, a < 5 → mj_i h1 2 a = nI 0 := fun a ha => by rw [hh, mj_i_wa]; simp [ha]
  have g' := GL_sx s1 ⟨g1, g2, g3, g4, g5, g6, g7⟩
  simp only [w_3_28, w_3_29, w_3_32, w_3_33, w_3_34, g'.1, f2]
  refine k_renew_loop hn n h1 (Nat.le_refl _) g' f3 (by rw [f5, Nat.sub_self, Nat.pow_zero]) (fun a h1 h2 => by omega) (fun h' q1 q2 q3 q4 q5 q6 => hQ h' (sx_tr s1 (sx_mono q1 (by decide))) ⟨q2.trans f2, q3.trans f3, q4.trans f4, q5, q6, fun a ha => by rw [sx_i q1 (by decide)]; exact f6 a ha⟩)
end GraphR
