/-! Search: its leaves. -/
/-- the plain facts of a search -/
def SE (N n sc : Nat) (en : Nat → Nat) (sh : Nat → Nat → Int32) (af : Nat → Nat → Nat) : Prop := n ≤ 5 ∧ 1 ≤ N ∧ N ≤ 1024 ∧ sc < 3 ∧ (∀ s, s < N → en s < 32) ∧ ∀ s, s < N → ∀ c, c < 32 → alB sc (en s) c = true → afF (sh s) c (nI s) n = nI (af s c) ∧ af s c < N
/-- the search's tables -/
def CS (h : MH) (N n sc : Nat) (en : Nat → Nat) (sh : Nat → Nat → Int32) : Prop := Lay h ∧ mj_i h 1 2 = nI n ∧ mj_i h 1 5 = nI N ∧ mj_i h 11 12 = nI sc ∧ (∀ s, s < N → mj_i h 12 s = nI (en s)) ∧ ∀ s x, s < N → x < n → mj_i h 13 (5 * s + x) = sh s x
def CG (h : MH) (N : Nat) (gd : Nat → Bool) : Prop := ∀ s, s < N → mj_i h 14 s = bI (gd s)
theorem CS_sx {S : List Nat} {h h' : MH} {N n sc : Nat} {en : Nat → Nat} {sh : Nat → Nat → Int32} (q : mj_sx S h h') (hS : 1 ∉ S ∧ 12 ∉ S ∧ 13 ∉ S) (h12 : mj_i h' 11 12 = mj_i h 11 12) (a : CS h N n sc en sh) : CS h' N n sc en sh := by
  obtain ⟨a1, a2, a3, a4, a5, a6⟩ := a
  refine ⟨sx_Lay q a1, by rw [sx_i q hS.1]; exact a2, by rw [sx_i q hS.1]; exact a3, by rw [h12]; exact a4, fun s hs => by rw [sx_i q hS.2.1]; exact a5 s hs, fun s x hs hx => by rw [sx_i q hS.2.2]; exact a6 s x hs hx⟩
theorem CG_sx {S : List Nat} {h h' : MH} {N : Nat} {gd : Nat → Bool} (q : mj_sx S h h') (hS : 14 ∉ S) (a : CG h N gd) : CG h' N gd := fun s hs => by rw [sx_i q hS]; exact a s hs
section SeaK
variable {L : Nat} {xs : Nat → Int32} {d : Nat} {Q : Option Value × MH → Prop} {h : MH}
theorem k_allows {sc en : Nat} {x : Int32} (hL : Lay h) (hs : mj_i h 11 12 = nI sc) (hsc : sc < 3) : mj_Wp L xs (d + 1) 59 0 [some (.ref 11), some (.int (nI en)), some (.int x)] [] h Q ↔ Q (some (.int (bI (alI sc en x))), h) := by
  simp only [w_59_0, w_59_1, w_59_4, w_59_5, w_59_6, w_59_7, w_59_8, w_59_9, w_59_12, w_59_13, w_59_14, w_59_15, w_59_18, w_59_21, w_59_22, w_59_25, w_59_26, w_59_29, w_59_30, w_59_33, w_59_34, w_59_35, w_59_36, w_59_39, w_59_40, w_59_43, w_59_44, w_59_45, w_59_48, w_59_49, w_59_52, w_59_53, ly_11 hL, hs, k_bitCount, Option.toList, List.cons_append, List.nil_append, mj_fit_n0, mj_fit_n1, alI]
  by_cases h1 : x ≤ nI 0
  · simp [h1, bI]
  · simp only [h1, if_false]
    by_cases h2 : x &&& (nI en ^^^ (-1)) = nI 0
    · simp only [h2, if_true]
      have c3 : sc = 0 ∨ sc = 1 ∨ sc = 2 := by omega
      rcases c3 with rfl | rfl | rfl
      · by_cases h3 : bcI x = nI 1 <;> simp [h3, bI]
      · have q1 : ¬ nI 1 = nI 0 := by decide
        have q2 : ¬ nI 1 = nI 2 := by decide
        by_cases h3 : x = nI en <;> simp [h3, bI, q1, q2]
      · have q1 : ¬ nI 2 = nI 0 := by decide
        simp [bI, q1]
    · simp only [h2, if_false, bI_0]
theorem k_after_loop {N n sc s c : Nat} {en : Nat → Nat} {sh : Nat → Nat → Int32} (a : CS h N n sc en sh) (hn : n ≤ 5) (hN : N ≤ 1024) (hs : s < N) (hc : c < 2 ^ 31) : ∀ (m x : Nat), x + m = n → (mj_Wp L xs d 70 5 [some (.ref 11), some (.int (nI s)), some (.int (nI c)), some (.int (afF (sh s) c (nI s) x)), some (.int (nI x))] [] h Q ↔ Q (some (.int (afF (sh s) c (nI s) n)), h)) := by
  obtain ⟨hL, a2, a3, a4, a5, a6⟩ := a
  intro m
  induction m with
  | zero =>
    intro x hx
    have hx : x = n := by omega
    subst hx
    rw [w_70_5]
    simp only [w_70_7, w_70_8, w_70_11, w_70_14, w_70_46, w_70_47, ly_11 hL, lr_11_0 hL, ly_1 hL, mj_rv_some, a2, nI_leI (show x < 2 ^ 31 by omega) (show x < 2 ^ 31 by omega), Nat.le_refl, if_true]
  | succ m ih =>
    intro x hx
    have e0 : ¬ n ≤ x := by omega
    have e1 : nI s * nI 5 + nI x = nI (5 * s + x) := by rw [pk_mul, nI_add, Nat.mul_comm]
    have e2 : mj_in (nI (5 * s + x)) 5120 = true := mj_in_nI (by omega) (by omega)
    have e3 : (nI (5 * s + x)).toNatClampNeg = 5 * s + x := nI_clamp (by omega)
    rw [w_70_5]
    simp only [w_70_7, w_70_8, w_70_11, w_70_14, w_70_17, w_70_18, w_70_20, w_70_21, w_70_22, w_70_23, w_70_26, w_70_27, w_70_28, w_70_31, w_70_32, w_70_33, w_70_34, w_70_36, w_70_37, w_70_38, w_70_39, w_70_40, w_70_43, ly_11 hL, lr_11_0 hL, lr_11_4 hL, lk_13 hL, ln_13 hL, ly_1 hL, mj_rv_some, a2, nI_leI (show n < 2 ^ 31 by omega) (show x < 2 ^ 31 by omega), e0, if_false, lb_I hc (show x < 5 by omega), n2_0, e1, e2, e3, a6 s x hs (by omega), nI_add]
    have := ih (x + 1) (by omega)
    rw [afF] at this
    by_cases hb : c / 2 ^ x % 2 = 0
    · simp only [hb, if_true] at this ⊢
      exact this
    · simp only [hb, if_false] at this ⊢
      exact this
theorem k_after0 {N n sc s c : Nat} {en : Nat → Nat} {sh : Nat → Nat → Int32} (a : CS h N n sc en sh) (hn : n ≤ 5) (hN : N ≤ 1024) (hs : s < N) (hc : c < 2 ^ 31) : mj_Wp L xs d 70 0 [some (.ref 11), some (.int (nI s)), some (.int (nI c)), none, none] [] h Q ↔ Q (some (.int (afF (sh s) c (nI s) n)), h) := by
  simp only [w_70_0, w_70_1, w_70_2, w_70_3]
  exact k_after_loop a hn hN hs hc n 0 (by omega)
theorem k_after {N n sc s c : Nat} {en : Nat → Nat} {sh : Nat → Nat → Int32} {af : Nat → Nat → Nat} (a : CS h N n sc en sh) (b : SE N n sc en sh af) (hs : s < N) (hc : c < 32) (ho : alB sc (en s) c = true) : mj_Wp L xs d 70 0 [some (.ref 11), some (.int (nI s)), some (.int (nI c)), none, none] [] h Q ↔ Q (some (.int (nI (af s c))), h) := by
  rw [k_after0 a b.1 b.2.2.1 hs (by omega), (b.2.2.2.2.2 s hs c hc ho).1]
theorem k_addToRun {rl : Nat} {x : Int32} (hL : Lay h) (h1 : mj_i h 11 11 = nI rl) (hr : rl < 1025) : mj_Wp L xs d 71 0 [some (.ref 11), some (.int x)] [] h Q ↔ Q (none, mj_wi (mj_wi h 19 rl x) 11 11 (nI (rl + 1))) := by
  have e0 : ¬ 1025 ≤ rl := by omega
  have e1 : mj_in (nI rl) 1025 = true := mj_in_nI (by omega) (by omega)
  have e2 : (nI rl).toNatClampNeg = rl := nI_clamp (by omega)
  simp only [w_71_0, w_71_1, w_71_4, w_71_5, w_71_8_100, w_71_8_102, w_71_9, w_71_12, w_71_13, w_71_16, w_71_17, w_71_20, w_71_21, w_71_22, w_71_23, w_71_24, w_71_27, w_71_28, w_71_29, w_71_32, ly_11 hL, lr_11_10 hL, lk_19 hL, ln_19 hL, mj_rv_some, h1, nI_leI (show 1025 < 2 ^ 31 by omega) (show rl < 2 ^ 31 by omega), e0, if_false, e1, e2, mj_is_wi, mj_i_ne (show 11 ≠ 19 by decide), nI_add]
theorem k_learn {st nx : Nat} (hL : Lay h) (h1 : st < 1024) (h2 : nx < 1024) : mj_Wp L xs (d + 1) 75 0 [some (.ref 11), some (.int (nI st)), some (.int (nI nx)), none] [] h Q ↔ Q (none, mj_wi h 15 st (mxI (mj_i h 15 st) ((if mj_i h 16 nx = nI 1 then nI 1000000 else mj_i h 15 nx) + nI 1))) := by
  have e1 : mj_in (nI st) 1024 = true := mj_in_nI (by omega) (by omega)
  have e2 : (nI st).toNatClampNeg = st := nI_clamp (by omega)
  have e3 : mj_in (nI nx) 1024 = true := mj_in_nI (by omega) (by omega)
  have e4 : (nI nx).toNatClampNeg = nx := nI_clamp (by omega)
  simp only [w_75_0, w_75_1, w_75_4, w_75_5, w_75_6, w_75_7, w_75_10, w_75_12, w_75_15, w_75_16, w_75_19, w_75_20, w_75_21, w_75_22, w_75_23, w_75_26, w_75_27, w_75_28, w_75_31, w_75_32, w_75_33, w_75_34, w_75_35, w_75_36, w_75_39, w_75_40, ly_11 hL, lr_11_6 hL, lr_11_7 hL, lk_15 hL, ln_15 hL, lk_16 hL, ln_16 hL, mj_rv_some, e1, e2, e3, e4, k_max, Option.toList, List.cons_append, List.nil_append]
  by_cases hm : mj_i h 16 nx = nI 1 <;> simp [hm]
end SeaK
