/-! Rules.meetAim. -/
def alF (p : Nat → Bool) : Nat → Bool
  | 0 => true
  | x + 1 => alF p x && p x
theorem al_stop {p : Nat → Bool} {x : Nat} (q : p x = false) : ∀ r, alF p (x + r + 1) = false
  | 0 => by rw [alF]; simp [q]
  | r + 1 => by rw [show x + (r + 1) + 1 = (x + r + 1) + 1 by omega, alF, al_stop q r]; rfl
theorem al_get {p : Nat → Bool} : ∀ {n x : Nat}, alF p n = true → x < n → p x = true
  | n + 1, x, q, hx => by
    rw [alF, Bool.and_eq_true] at q
    by_cases h : x = n
    · subst h; exact q.2
    · exact al_get q.1 (by omega)
/-- the aim: its kind, and its guard -/
def AI (h : MH) (ak : Nat) (GA : GD) : Prop := ak ≤ 2 ∧ mj_i h 8 3 = nI ak ∧ (ak = 2 → ∃ a, mj_r h 8 4 = some a ∧ TG 60 h a false GA)
theorem AI_sx {S : List Nat} {h h' : MH} {ak : Nat} {GA : GD} (q : mj_sx S h h') (hS : ∀ a ∈ S, a < 46) (h8 : 8 ∉ S) (b : AI h ak GA) : AI h' ak GA := by
  obtain ⟨b1, b2, b3⟩ := b
  refine ⟨b1, by rw [sx_i q h8]; exact b2, fun z => ?_⟩
  obtain ⟨a, c1, c2⟩ := b3 z
  exact ⟨a, by rw [sx_r q]; exact c1, Ext_TG (Ext_sx q hS) _ _ _ _ c2⟩
/-- does the aim's guard hold at x in s -/
def gaF (n k : Nat) (lk : Nat → Nat) (GA : GD) (s x : Nat) : Bool := GA n k (lk x) (vsF n k s) (ptN n k (lk x) s x)
/-- is s good, when en are the nodes that could move -/
def gdB (n k : Nat) (lk : Nat → Nat) (ak : Nat) (GA : GD) (en s : Nat) : Bool := if ak = 0 then decide (bcI (nI en) = nI 1) else if ak = 1 then decide (en = 0) else alF (gaF n k lk GA s) n
section AimK
variable {L : Nat} {xs : Nat → Int32} {d : Nat} {Q : Option Value × MH → Prop} {h : MH}
theorem c_61_75 {i v : Nat} {ls : List (Option Value)} (H : mj_is h i 1 3 ∨ mj_is h i 3 2 ∨ mj_is h i 4 1 ∨ mj_is h i 5 3) : mj_Wp L xs (d + 1) 61 75 ls [.ref v, .ref i] h Q ↔ HW L xs d i v h (fun r => mj_Wp L xs (d + 1) 61 78 ls (r.1.toList ++ []) r.2 Q) := by
  rcases H with H | H | H | H
  · rw [HW_1 H, w_61_75_1 H]
  · rw [HW_3 H, w_61_75_3 H]
  · rw [HW_4 H, w_61_75_4 H]
  · rw [HW_5 H, w_61_75_5 H]
theorem VLd_2 {h h' : MH} {v n k e s : Nat} {lk : Nat → Nat} (a : VLd h v n k e lk s) (q : mj_sx [v + 2] h h') (q2 : ∀ c, c ≠ 121 → c ≠ 106 → mj_i h' (v + 2) c = mj_i h (v + 2) c) : VLd h' v n k e lk s := VLd_k a (sx_mono q (by simp)) q2
theorem k_aim_loop {v n k e s : Nat} {lk : Nat → Nat} {GA : GD} : ∀ (m x : Nat) (h : MH), x + m = n → VLd h v n k e lk s → AI h 2 GA → alF (gaF n k lk GA s) x = true →
    (∀ h', mj_sx [v, v + 2] h h' → (∀ j, j ≠ 5 → mj_i h' v j = mj_i h v j) → VLd h' v n k e lk s → Q (some (.int (bI (alF (gaF n k lk GA s) n))), h')) → mj_Wp L xs (d + 60 + 1 + 1) 61 54 [some (.ref 8), some (.ref v), some (.int (nI x))] [] h Q := by
  intro m
  induction m with
  | zero =>
    intro x h hx a b hal hQ
    have hx : x = n := by omega
    subst hx
    have hL := a.2.2.2.2.2.2.1
    have hn := a.2.2.1
    have hV := a.2.2.2.2.2.2.2.1
    rw [w_61_54]
    simp only [w_61_55, w_61_56, w_61_59, w_61_62, w_61_89, w_61_90, ly_1 hL, hV.1, hV.2.1, mj_rv_some, a.2.2.2.2.2.2.2.2.1.1, nI_leI (show x < 2 ^ 31 by omega) (show x < 2 ^ 31 by omega), Nat.le_refl, if_true, mj_fit_n1]
    have fin := hQ h sx_rf (fun _ _ => rfl) a
    rw [hal] at fin
    exact fin
  | succ m ih =>
    intro x h hx a b hal hQ
    have hL := a.2.2.2.2.2.2.1
    have hn := a.2.2.1
    have hv := a.1
    have hV := a.2.2.2.2.2.2.2.1
    have e0 : ¬ n ≤ x := by omega
    have hS2 : ∀ z ∈ [v, v + 2], z < 46 := by rcases hv with rfl | rfl <;> decide
    have h82 : 8 ∉ [v, v + 2] := by rcases hv with rfl | rfl <;> decide
    have hS1 : ∀ z ∈ [v + 2], z < 46 := by rcases hv with rfl | rfl <;> decide
    have h81 : 8 ∉ [v + 2] := by rcases hv with rfl | rfl <;> decide
    rw [w_61_54]
    simp only [w_61_55, w_61_56, w_61_59, w_61_62, w_61_65, w_61_66, w_61_67, ly_1 hL, hV.1, hV.2.1, mj_rv_some, a.2.2.2.2.2.2.2.2.1.1, nI_leI (show n < 2 ^ 31 by omega) (show x < 2 ^ 31 by omega), e0, if_false]
    refine k_stand2 (d := d + 60) (show x < n by omega) a (fun h1 u1 u2 u3 u4 => ?_)
    have b' := AI_sx u1 hS2 h82 b
    obtain ⟨ga, g1, g2⟩ := b'.2.2 rfl
    simp only [w_61_70, w_61_71, w_61_74, Option.toList, List.cons_append, List.nil_append, ly_8 u4.2.2.2.2.2.2.1, g1, mj_rv_some, c_61_75 (TG_cls g2)]
    refine k_holds 60 d ga false GA h1 _ u3.1 g2 (fun h2 y1 y2 y3 => ?_)
    have e5 : GA n k (lk x) (vsF n k s) (mj_i h1 (v + 2)) = gaF n k lk GA s x := TG_ind 60 ga false GA g2 n k (lk x) _ _ _ (fun c hc => by
      rcases hc with hc | ⟨hc, -⟩
      · exact u3.2 c hc
      · cases hc)
    rw [e5]
    have sh : mj_sx [v, v + 2] h h2 := sx_tr u1 (sx_mono y1 (by simp))
    have sv : ∀ j, j ≠ 5 → mj_i h2 v j = mj_i h v j := fun j hj => by rw [sx_i y1 (by simp), u2 j hj]
    have l2 := VLd_2 u4 y1 y2
    simp only [w_61_78, w_61_81, w_61_82, w_61_83, w_61_86, Option.toList, List.cons_append, List.nil_append, nI_add, mj_fit_n0]
    cases hg : gaF n k lk GA s x with
    | false =>
      have fin := hQ h2 sh sv l2
      have e7 : alF (gaF n k lk GA s) n = false := by
        have := al_stop hg m
        rwa [show x + m + 1 = n by omega] at this
      rw [e7] at fin
      simpa [bI] using fin
    | true =>
      simp only [bI, if_true, show ¬ nI 1 = nI 0 by decide, not_false_eq_true, if_true]
      refine ih (x + 1) h2 (by omega) l2 (AI_sx y1 hS1 h81 b') (by rw [alF, hal, hg]; rfl) (fun h' q1 q2 q3 => ?_)
      exact hQ h' (sx_tr sh q1) (fun j hj => (q2 j hj).trans (sv j hj)) q3
theorem k_meetAim {v n k e s ak en : Nat} {lk : Nat → Nat} {GA : GD} (a : VLd h v n k e lk s) (b : AI h ak GA) (hen : mj_i h v 4 = nI en) (h32 : en < 32)
    (hQ : ∀ h', mj_sx [v, v + 2] h h' → (∀ j, j ≠ 5 → mj_i h' v j = mj_i h v j) → VLd h' v n k e lk s → Q (some (.int (bI (gdB n k lk ak GA en s))), h')) : mj_Wp L xs (d + 60 + 1 + 1) 61 0 [some (.ref 8), some (.ref v), none] [] h Q := by
  have hL := a.2.2.2.2.2.2.1
  have hV := a.2.2.2.2.2.2.2.1
  have fin := hQ h sx_rf (fun _ _ => rfl) a
  have b1 := b.1
  have b2 := b.2.1
  have z0 : (nI en = nI 0) = (en = 0) := by rw [nI_eq (by omega) (by omega)]
  have c3 : ak = 0 ∨ ak = 1 ∨ ak = 2 := by omega
  rcases c3 with rfl | rfl | rfl
  · simp only [w_61_0, w_61_1, w_61_4, w_61_7, w_61_8, w_61_11, w_61_14, w_61_15, w_61_18, w_61_19, w_61_22, w_61_23, ly_8 hL, b2, not_true_eq_false, if_false, hV.1, hen, k_bitCount, Option.toList, List.cons_append, List.nil_append, mj_fit_n0, mj_fit_n1]
    by_cases hb : bcI (nI en) = nI 1
    · simpa [gdB, hb, bI] using fin
    · simpa [gdB, hb, bI] using fin
  · simp only [w_61_0, w_61_1, w_61_4, w_61_7, w_61_8, w_61_11, w_61_14, w_61_15, w_61_18, w_61_19, w_61_22, w_61_23, w_61_24, w_61_25, w_61_28, w_61_29, w_61_32, w_61_33, w_61_36_r, w_61_36_n, w_61_39, w_61_40, w_61_43, w_61_46, w_61_47, w_61_50, w_61_51, ly_8 hL, b2, show ¬ nI 1 = nI 0 by decide, not_false_eq_true, if_true, hV.1, hen, mj_fit_n0, mj_fit_n1, z0]
    by_cases hb : en = 0
    · simpa [gdB, hb, bI] using fin
    · simpa [gdB, hb, bI] using fin
  · obtain ⟨ga, g1, g2⟩ := b.2.2 rfl
    simp only [w_61_0, w_61_1, w_61_4, w_61_7, w_61_8, w_61_11, w_61_14, w_61_15, w_61_18, w_61_19, w_61_22, w_61_23, w_61_24, w_61_25, w_61_28, w_61_29, w_61_32, w_61_33, w_61_36_r, w_61_36_n, w_61_39, w_61_40, w_61_43, w_61_46, w_61_47, w_61_50, w_61_51, w_61_52, w_61_53, ly_8 hL, b2, show ¬ nI 2 = nI 0 by decide, show ¬ nI 2 = nI 1 by decide, not_false_eq_true, if_true, if_false, g1, mj_rv_some]
    refine k_aim_loop n 0 h (by omega) a b rfl (fun h' q1 q2 q3 => ?_)
    have := hQ h' q1 q2 q3
    simpa [gdB] using this
end AimK
