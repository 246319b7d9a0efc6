/-! Rules: which one a node would move by. -/
def vsF (n k s j : Nat) : Int32 := nI (dg n k s j)
/-- what the letters stand for at node x in state s -/
def ptN (n k m s x c : Nat) : Int32 := if 48 ≤ c ∧ c ≤ 57 then nI (c - 48) else if c = 110 then nI n else if c = 107 then nI k else stF n k m (vsF n k s) x c 0
theorem mn_cong {m : Nat} {vs vs' : Nat → Int32} {k0 : Int32} : ∀ b, (∀ j, j < b → vs j = vs' j) → mnF m vs k0 b = mnF m vs' k0 b
  | 0, _ => rfl
  | b + 1, q => by simp only [mnF, mn_cong b (fun j hj => q j (by omega)), q b (by omega)]
theorem mx_cong {m : Nat} {vs vs' : Nat → Int32} : ∀ b, (∀ j, j < b → vs j = vs' j) → mxF m vs b = mxF m vs' b
  | 0, _ => rfl
  | b + 1, q => by simp only [mxF, mx_cong b (fun j hj => q j (by omega)), q b (by omega)]
theorem st_cong {n k m x c : Nat} {vs vs' : Nat → Int32} {o : Int32} (hx : x < n) (q : ∀ j, j < n → vs j = vs' j) : stF n k m vs x c o = stF n k m vs' x c o := by
  have h1 : vs (if x = 0 then n - 1 else x - 1) = vs' (if x = 0 then n - 1 else x - 1) := q _ (by split <;> omega)
  have h2 : vs (if x = n - 1 then 0 else x + 1) = vs' (if x = n - 1 then 0 else x + 1) := q _ (by split <;> omega)
  simp only [stF, q x hx, h1, h2, mn_cong n q, mx_cong n q]
/-- a view v of state s -/
def VLd (h : MH) (v n k e : Nat) (lk : Nat → Nat) (s : Nat) : Prop := (v = 4 ∨ v = 20) ∧ 2 ≤ n ∧ n ≤ 5 ∧ 2 ≤ k ∧ k ≤ 4 ∧ (∀ a, lk a < 32) ∧ Lay h ∧ VL h v ∧ Gr h n k e lk ∧ (∀ j, j < n → mj_i h (v + 1) j = nI (dg n k s j)) ∧ (∀ c, 48 ≤ c → c ≤ 57 → mj_i h (v + 2) c = nI (c - 48)) ∧ mj_i h (v + 2) 110 = nI n ∧ mj_i h (v + 2) 107 = nI k
/-- .. that stands at node x -/
def VSP (h : MH) (v n k e : Nat) (lk : Nat → Nat) (x s : Nat) : Prop := VS h v n k e lk x (vsF n k s) ∧ ∀ c, okC c → mj_i h (v + 2) c = ptN n k (lk x) s x c
theorem VSP_sx {h h' : MH} {v n k e x s : Nat} {lk : Nat → Nat} (a : VSP h v n k e lk x s) (q : mj_sx [v + 2] h h') (q2 : ∀ c, c ≠ 121 → c ≠ 106 → mj_i h' (v + 2) c = mj_i h (v + 2) c) : VSP h' v n k e lk x s := ⟨VS_sx a.1 q, fun c hc => by rw [q2 c (okC_ne hc).1 (okC_ne hc).2]; exact a.2 c hc⟩
/-- the rules: rn of them, their guards and sums -/
def RU (h : MH) (rn : Nat) (G : Nat → GD) (sm : Nat → Nat × (Nat → Nat) × (Nat → Bool) × Bool) : Prop := rn ≤ 6 ∧ mj_i h 8 2 = nI rn ∧ ∀ r, r < rn → (∃ a, mj_r h 9 r = some a ∧ TG 60 h a false (G r)) ∧ ∃ s, mj_r h 10 r = some s ∧ SumAt h s (sm r).1 (sm r).2.1 (sm r).2.2.1 (sm r).2.2.2 ∧ ∀ i, i < (sm r).1 → okC ((sm r).2.1 i)
theorem RU_sx {S : List Nat} {h h' : MH} {rn : Nat} {G : Nat → GD} {sm : Nat → Nat × (Nat → Nat) × (Nat → Bool) × Bool} (q : mj_sx S h h') (hS : ∀ a ∈ S, a < 46) (h8 : 8 ∉ S) (a : RU h rn G sm) : RU h' rn G sm := by
  obtain ⟨a1, a2, a3⟩ := a
  have e := Ext_sx q hS
  refine ⟨a1, by rw [sx_i q h8]; exact a2, fun r hr => ?_⟩
  obtain ⟨⟨g, b1, b2⟩, s, b3, b4, b5⟩ := a3 r hr
  exact ⟨⟨g, by rw [sx_r q]; exact b1, Ext_TG e _ _ _ _ b2⟩, s, by rw [sx_r q]; exact b3, Ext_Sum e b4, b5⟩
def fsI (p : Nat → Bool) : Nat → Nat → Int32
  | 0, _ => -1
  | r + 1, i => if p i = true then nI i else fsI p r (i + 1)
/-- does guard r hold at x in s -/
def gvF (n k : Nat) (lk : Nat → Nat) (G : Nat → GD) (s x r : Nat) : Bool := G r n k (lk x) (vsF n k s) (ptN n k (lk x) s x)
/-- the rule by which x would move in s, or -1 -/
def frI (n k : Nat) (lk : Nat → Nat) (rn : Nat) (G : Nat → GD) (s x : Nat) : Int32 := fsI (gvF n k lk G s x) rn 0
section RulesK
variable {L : Nat} {xs : Nat → Int32} {d : Nat} {Q : Option Value × MH → Prop} {h : MH}
theorem c_49_17 {i v : Nat} {ls : List (Option Value)} (H : mj_is h i 1 3 ∨ mj_is h i 3 2 ∨ mj_is h i 4 1 ∨ mj_is h i 5 3) : mj_Wp L xs (d + 1) 49 17 ls [.ref v, .ref i] h Q ↔ HW L xs d i v h (fun r => mj_Wp L xs (d + 1) 49 20 ls (r.1.toList ++ []) r.2 Q) := by
  rcases H with H | H | H | H
  · rw [HW_1 H, w_49_17_1 H]
  · rw [HW_3 H, w_49_17_3 H]
  · rw [HW_4 H, w_49_17_4 H]
  · rw [HW_5 H, w_49_17_5 H]
theorem k_first_loop {v n k e x s rn : Nat} {lk : Nat → Nat} {G : Nat → GD} {sm : Nat → Nat × (Nat → Nat) × (Nat → Bool) × Bool} : ∀ (m i : Nat) (h : MH), i + m = rn → VSP h v n k e lk x s → RU h rn G sm →
    (∀ h', mj_sx [v + 2] h h' → (∀ c, c ≠ 121 → c ≠ 106 → mj_i h' (v + 2) c = mj_i h (v + 2) c) → Q (some (.int (fsI (gvF n k lk G s x) m i)), h')) → mj_Wp L xs (d + 60 + 1 + 1) 49 2 [some (.ref 8), some (.ref v), some (.int (nI i))] [] h Q := by
  intro m
  induction m with
  | zero =>
    intro i h hi a b hQ
    have hi : i = rn := by omega
    subst hi
    have hL := a.1.2.2.2.2.2.2.2.1
    have b1 := b.1
    rw [w_49_2]
    simp only [w_49_3, w_49_4, w_49_7, w_49_31, w_49_32, ly_8 hL, b.2.1, nI_leI (show i < 2 ^ 31 by omega) (show i < 2 ^ 31 by omega), Nat.le_refl, if_true]
    exact hQ h sx_rf (fun _ _ _ => rfl)
  | succ m ih =>
    intro i h hi a b hQ
    have hL := a.1.2.2.2.2.2.2.2.1
    have hv := a.1.1
    have b1 := b.1
    obtain ⟨⟨g, b2, b3⟩, -⟩ := b.2.2 i (by omega)
    have e0 : ¬ rn ≤ i := by omega
    have e3 : mj_in (nI i) 6 = true := mj_in_nI (by omega) (by omega)
    have e4 : (nI i).toNatClampNeg = i := nI_clamp (by omega)
    rw [w_49_2]
    simp only [w_49_3, w_49_4, w_49_7, w_49_10, w_49_11, w_49_14, w_49_15_200, w_49_15_201, w_49_16, ly_8 hL, lr_8_0 hL, lk_9 hL, ln_9 hL, b.2.1, nI_leI (show rn < 2 ^ 31 by omega) (show i < 2 ^ 31 by omega), e0, if_false, mj_rv_some, e3, e4, b2, c_49_17 (TG_cls b3)]
    refine k_holds 60 d g false (G i) h _ a.1 b3 (fun h' u1 u2 u3 => ?_)
    have e5 : G i n k (lk x) (vsF n k s) (mj_i h (v + 2)) = gvF n k lk G s x i := TG_ind 60 g false (G i) b3 n k (lk x) _ _ _ (fun c hc => by
      rcases hc with hc | ⟨hc, -⟩
      · exact a.2 c hc
      · cases hc)
    rw [e5]
    have hS : ∀ z ∈ [v + 2], z < 46 := by rcases hv with rfl | rfl <;> decide
    have h8 : 8 ∉ [v + 2] := by rcases hv with rfl | rfl <;> decide
    simp only [w_49_20, w_49_23, w_49_24, w_49_25, w_49_28, Option.toList, List.cons_append, List.nil_append, nI_add]
    cases hg : gvF n k lk G s x i with
    | true =>
      simp only [bI, if_true, show ¬ nI 1 = nI 0 by decide, if_false]
      have fin := hQ h' u1 u2
      simp only [fsI, hg, if_true] at fin
      exact fin
    | false =>
      simp only [bI, show ¬ (false = true) by decide, if_false, if_true]
      refine ih (i + 1) h' (by omega) (VSP_sx a u1 u2) (RU_sx u1 hS h8 b) (fun h'' y1 y2 => ?_)
      have fin := hQ h'' (sx_tr u1 y1) (fun c z1 z2 => (y2 c z1 z2).trans (u2 c z1 z2))
      simp only [fsI, hg, show ¬ (false = true) by decide, if_false] at fin
      exact fin
theorem k_first {v n k e x s rn : Nat} {lk : Nat → Nat} {G : Nat → GD} {sm : Nat → Nat × (Nat → Nat) × (Nat → Bool) × Bool} (a : VSP h v n k e lk x s) (b : RU h rn G sm)
    (hQ : ∀ h', mj_sx [v + 2] h h' → (∀ c, c ≠ 121 → c ≠ 106 → mj_i h' (v + 2) c = mj_i h (v + 2) c) → Q (some (.int (frI n k lk rn G s x)), h')) : mj_Wp L xs (d + 60 + 1 + 1) 49 0 [some (.ref 8), some (.ref v), none] [] h Q := by
  simp only [w_49_0, w_49_1]
  exact k_first_loop rn 0 h (by omega) a b hQ
/-- standAt, in these words -/
theorem k_stand2 {v n k e x s : Nat} {lk : Nat → Nat} (hx : x < n) (a : VLd h v n k e lk s)
    (hQ : ∀ h', mj_sx [v, v + 2] h h' → (∀ j, j ≠ 5 → mj_i h' v j = mj_i h v j) → VSP h' v n k e lk x s → VLd h' v n k e lk s → Q (none, h')) : mj_Wp L xs (d + 1) 48 0 [some (.ref v), some (.int (nI x)), none, none] [] h Q := by
  obtain ⟨a1, a2, a3, a4, a5, a6, a7, a8, a9, a10, a11, a12, a13⟩ := a
  refine k_standAt a1 a2 a3 hx a6 a7 a8 a9 (fun h' q1 q2 q3 q4 => ?_)
  have n1 : v + 1 ∉ [v, v + 2] := by simp
  have hg := Gr_sx q1 (by rcases a1 with rfl | rfl <;> decide) a9
  have e1 : ∀ c, mj_i h' (v + 2) c = stF n k (lk x) (vsF n k s) x c (mj_i h (v + 2) c) := fun c => (q4 c).trans (st_cong hx (fun j hj => a10 j hj))
  refine hQ h' q1 q3 ⟨⟨a1, a2, a3, a4, a5, a6, hx, sx_Lay q1 a7, VL_sx q1 a8, hg, q2, fun j hj => ?_⟩, fun c hc => ?_⟩ ⟨a1, a2, a3, a4, a5, a6, sx_Lay q1 a7, VL_sx q1 a8, hg, fun j hj => ?_, fun c c1 c2 => ?_, ?_, ?_⟩
  · rw [sx_i q1 n1]
    exact (a10 j hj).symm
  · rw [e1]
    unfold okC at hc
    unfold ptN
    by_cases c1 : 48 ≤ c ∧ c ≤ 57
    · rw [if_pos c1]
      unfold stF
      simp only [show ¬ c = 120 by omega, show ¬ c = 105 by omega, show ¬ c = 108 by omega, show ¬ c = 117 by omega, show ¬ c = 100 by omega, show ¬ c = 109 by omega, show ¬ c = 77 by omega, if_false]
      exact a11 c c1.1 c1.2
    · rw [if_neg c1]
      by_cases c2 : c = 110
      · subst c2; simpa [stF] using a12
      · by_cases c3 : c = 107
        · subst c3; simpa [stF] using a13
        · simp only [c2, c3, if_false]
          have c4 : c = 120 ∨ c = 105 ∨ c = 100 ∨ c = 109 ∨ c = 77 ∨ c = 108 ∨ c = 117 := by omega
          rcases c4 with rfl | rfl | rfl | rfl | rfl | rfl | rfl <;> simp [stF]
  · rw [sx_i q1 n1]
    exact a10 j hj
  · rw [e1]
    unfold stF
    simp only [show ¬ c = 120 by omega, show ¬ c = 105 by omega, show ¬ c = 108 by omega, show ¬ c = 117 by omega, show ¬ c = 100 by omega, show ¬ c = 109 by omega, show ¬ c = 77 by omega, if_false]
    exact a11 c c1 c2
  · rw [e1]; simpa [stF] using a12
  · rw [e1]; simpa [stF] using a13
end RulesK
