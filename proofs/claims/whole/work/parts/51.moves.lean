/-! Rules.findMoves and meetAim. -/
abbrev SM : Type := Nat → Nat × (Nat → Nat) × (Nat → Bool) × Bool
def smv (n k : Nat) (lk : Nat → Nat) (sm : SM) (s x r : Nat) : Int32 := smF k (ptN n k (lk x) s x) (sm r).1 (sm r).2.1 (sm r).2.2.1 (sm r).2.2.2
/-- the value that x would take in s -/
def nvI (n k : Nat) (lk : Nat → Nat) (rn : Nat) (G : Nat → GD) (sm : SM) (s x : Nat) : Int32 := fmI (smv n k lk sm s x (frI n k lk rn G s x).toNatClampNeg) (nI k)
/-- the nodes below x that could move in s -/
def enN (n k : Nat) (lk : Nat → Nat) (rn : Nat) (G : Nat → GD) (s : Nat) : Nat → Nat
  | 0 => 0
  | x + 1 => if frI n k lk rn G s x = -1 then enN n k lk rn G s x else enN n k lk rn G s x + 2 ^ x
def shI (n k : Nat) (lk : Nat → Nat) (rn : Nat) (G : Nat → GD) (sm : SM) (s x : Nat) : Int32 := if frI n k lk rn G s x = -1 then nI 0 else (nvI n k lk rn G sm s x - nI (dg n k s x)) * nI (k ^ (n - 1 - x))
theorem enN_lt {n k : Nat} {lk : Nat → Nat} {rn : Nat} {G : Nat → GD} {s : Nat} : ∀ x, enN n k lk rn G s x < 2 ^ x
  | 0 => by simp [enN]
  | x + 1 => by
    have := enN_lt (n := n) (k := k) (lk := lk) (rn := rn) (G := G) (s := s) x
    rw [enN]
    rw [Nat.pow_succ]
    split <;> omega
theorem fs_cases {p : Nat → Bool} : ∀ r i, fsI p r i = -1 ∨ ∃ j, i ≤ j ∧ j < i + r ∧ fsI p r i = nI j ∧ p j = true
  | 0, i => Or.inl rfl
  | r + 1, i => by
    rw [fsI]
    by_cases h : p i = true
    · rw [if_pos h]
      exact Or.inr ⟨i, Nat.le_refl _, by omega, rfl, h⟩
    · rw [if_neg h]
      rcases fs_cases (p := p) r (i + 1) with h1 | ⟨j, h1, h2, h3, h4⟩
      · exact Or.inl h1
      · exact Or.inr ⟨j, by omega, by omega, h3, h4⟩
theorem or_2x : ∀ x, x < 5 → ∀ a, a < 2 ^ x → nI a ||| (nI 1 <<< (nI x &&& 31)) = nI (a + 2 ^ x) := by decide
theorem nI_nm1 {r : Nat} (hr : r < 2 ^ 31) : ¬ nI r = -1 := by
  intro e
  have h1 : ¬ nI r < 0 := nI_pos hr
  rw [e] at h1
  exact h1 (by decide)
theorem VLd_k {h h' : MH} {v n k e s : Nat} {lk : Nat → Nat} (a : VLd h v n k e lk s) (q : mj_sx [v, v + 2, v + 3] h h') (q2 : ∀ c, c ≠ 121 → c ≠ 106 → mj_i h' (v + 2) c = mj_i h (v + 2) c) : VLd h' v n k e lk s := by
  obtain ⟨a1, a2, a3, a4, a5, a6, a7, a8, a9, a10, a11, a12, a13⟩ := a
  refine ⟨a1, a2, a3, a4, a5, a6, sx_Lay q a7, VL_sx q a8, Gr_sx q (by rcases a1 with rfl | rfl <;> decide) a9, fun j hj => ?_, fun c c1 c2 => ?_, ?_, ?_⟩
  · rw [sx_i q (by simp)]
    exact a10 j hj
  · rw [q2 c (by omega) (by omega)]
    exact a11 c c1 c2
  · rw [q2 110 (by decide) (by decide)]
    exact a12
  · rw [q2 107 (by decide) (by decide)]
    exact a13
theorem sm_pt {h : MH} {v n k e x s m : Nat} {lk : Nat → Nat} {cs : Nat → Nat} {ng : Nat → Bool} {w : Bool} (a : VSP h v n k e lk x s) (hc : ∀ i, i < m → okC (cs i)) : smF k (mj_i h (v + 2)) m cs ng w = smF k (ptN n k (lk x) s x) m cs ng w := by
  simp only [smF, sv_cong m (fun i hi => a.2 (cs i) (hc i hi))]
section MovesK
variable {L : Nat} {xs : Nat → Int32} {d : Nat} {Q : Option Value × MH → Prop} {h : MH}
theorem k_moves_loop {v n k e s rn : Nat} {lk : Nat → Nat} {G : Nat → GD} {sm : SM} : ∀ (m x : Nat) (h : MH) (X Y : Option Value), x + m = n → VLd h v n k e lk s → RU h rn G sm → mj_i h v 4 = nI (enN n k lk rn G s x) →
    (∀ h', mj_sx [v, v + 2, v + 3] h h' → VLd h' v n k e lk s → mj_i h' v 4 = nI (enN n k lk rn G s n) → (∀ y, y < x → mj_i h' (v + 3) y = mj_i h (v + 3) y) → (∀ y, x ≤ y → y < n → mj_i h' (v + 3) y = shI n k lk rn G sm s y) → Q (none, h')) → mj_Wp L xs (d + 60 + 1 + 1 + 1) 58 12 [some (.ref 8), some (.ref v), some (.ref 1), some (.int (nI x)), X, Y] [] h Q := by
  intro m
  induction m with
  | zero =>
    intro x h X Y hx a b hen hQ
    have hx : x = n := by omega
    subst hx
    have hL := a.2.2.2.2.2.2.1
    have hn := a.2.2.1
    rw [w_58_12]
    simp only [w_58_13, w_58_14, w_58_17, w_58_105, ly_1 hL, a.2.2.2.2.2.2.2.2.1.1, nI_leI (show x < 2 ^ 31 by omega) (show x < 2 ^ 31 by omega), Nat.le_refl, if_true]
    exact hQ h sx_rf a hen (fun _ _ => rfl) (fun y h1 h2 => by omega)
  | succ m ih =>
    intro x h X Y hx a b hen hQ
    have hL := a.2.2.2.2.2.2.1
    have hn := a.2.2.1
    have hv := a.1
    have b1 := b.1
    have hk := a.2.2.2.1
    have hk4 := a.2.2.2.2.1
    have e0 : ¬ n ≤ x := by omega
    have e3 : mj_in (nI x) 5 = true := mj_in_nI (by omega) (by omega)
    have e4 : (nI x).toNatClampNeg = x := nI_clamp (by omega)
    have hS2 : ∀ z ∈ [v, v + 2], z < 46 := by rcases hv with rfl | rfl <;> decide
    have h82 : 8 ∉ [v, v + 2] := by rcases hv with rfl | rfl <;> decide
    have hS1 : ∀ z ∈ [v + 2], z < 46 := by rcases hv with rfl | rfl <;> decide
    have h81 : 8 ∉ [v + 2] := by rcases hv with rfl | rfl <;> decide
    have hS3 : ∀ z ∈ [v, v + 2, v + 3], z < 46 := by rcases hv with rfl | rfl <;> decide
    have h83 : 8 ∉ [v, v + 2, v + 3] := by rcases hv with rfl | rfl <;> decide
    rw [w_58_12]
    simp only [w_58_13, w_58_14, w_58_17, w_58_20, w_58_21, w_58_22, ly_1 hL, a.2.2.2.2.2.2.2.1.1, a.2.2.2.2.2.2.2.2.1.1, nI_leI (show n < 2 ^ 31 by omega) (show x < 2 ^ 31 by omega), e0, if_false]
    refine k_stand2 (d := d + 60 + 1) (show x < n by omega) a (fun h1 u1 u2 u3 u4 => ?_)
    have b' := RU_sx u1 hS2 h82 b
    simp only [w_58_25, w_58_26, w_58_27, Option.toList, List.cons_append, List.nil_append, ly_8 u4.2.2.2.2.2.2.1]
    refine k_first u3 b' (fun h2 p1 p2 => ?_)
    have b'' := RU_sx p1 hS1 h81 b'
    have v2 := VSP_sx u3 p1 p2
    have l2 := VLd_k u4 (sx_mono p1 (by simp)) p2
    have hL2 := l2.2.2.2.2.2.2.1
    obtain ⟨v1, v2', v3, v4, v5, v6, v7, v8, v9, v10, v11⟩ := l2.2.2.2.2.2.2.2.1
    have g2 := l2.2.2.2.2.2.2.2.2.1
    have hen2 : mj_i h2 v 4 = nI (enN n k lk rn G s x) := by
      rw [sx_i p1 (by simp), u2 4 (by decide)]
      exact hen
    have sh : mj_sx [v, v + 2, v + 3] h h2 := sx_tr (sx_mono u1 (by simp)) (sx_mono p1 (by simp))
    have sh3 : ∀ y, mj_i h2 (v + 3) y = mj_i h (v + 3) y := fun y => by
      rw [sx_i p1 (by simp), sx_i u1 (by simp)]
    have dgx : mj_i h2 (v + 1) x = nI (dg n k s x) := l2.2.2.2.2.2.2.2.2.2.1 x (by omega)
    have n13 : v + 1 ≠ v + 3 := by omega
    have n23 : v + 2 ≠ v + 3 := by omega
    have nv3 : v ≠ v + 3 := by omega
    have n1v : v + 1 ≠ v := by omega
    have n2v : v + 2 ≠ v := by omega
    have m13 : (1 : Nat) ≠ v + 3 := by omega
    have m1v : (1 : Nat) ≠ v := by rcases hv with rfl | rfl <;> decide
    have m33 : (3 : Nat) ≠ v + 3 := by rcases hv with rfl | rfl <;> decide
    have m3v : (3 : Nat) ≠ v := by rcases hv with rfl | rfl <;> decide
    rcases fs_cases (p := gvF n k lk G s x) rn 0 with hf | ⟨r, -, hr, hf, -⟩
    · have hfr : frI n k lk rn G s x = -1 := hf
      rw [hfr]
      simp only [w_58_30, w_58_32, w_58_33, w_58_36, w_58_37, w_58_38, w_58_39, w_58_41, w_58_42, w_58_99, w_58_102, Option.toList, List.cons_append, List.nil_append, v1, v5, mj_rv_some, v10, v11, e3, e4, if_true, nI_add]
      have s3 : mj_sx [v, v + 2, v + 3] h2 (mj_wi h2 (v + 3) x (nI 0)) := sx_wi (by simp)
      have l3 := VLd_k l2 s3 (fun c _ _ => by rw [mj_i_wi]; simp)
      refine ih (x + 1) _ _ _ (by omega) l3 (RU_sx s3 hS3 h83 b'') ?_ (fun h' q1 q2 q3 q4 q5 => ?_)
      · rw [mj_i_ne nv3, hen2, enN, if_pos hfr]
      · refine hQ h' (sx_tr sh (sx_tr s3 q1)) q2 q3 (fun y hy => ?_) (fun y y1 y2 => ?_)
        · rw [q4 y (by omega), mj_i_wi]
          simp [show ¬ y = x by omega, sh3]
        · by_cases hyx : y = x
          · subst hyx
            rw [q4 y (by omega), mj_i_wi, shI, if_pos hfr]
            simp
          · exact q5 y (by omega) y2
    · have hfr : frI n k lk rn G s x = nI r := hf
      have hr' : r < rn := by omega
      have hne : ¬ nI r = -1 := nI_nm1 (by omega)
      have hnf : ¬ frI n k lk rn G s x = -1 := by rw [hfr]; exact hne
      have r3 : mj_in (nI r) 6 = true := mj_in_nI (by omega) (by omega)
      have r4 : (nI r).toNatClampNeg = r := nI_clamp (by omega)
      have hkn : ¬ nI k = 0 := nI_ne0 (by omega) (by omega)
      have s3 : mj_sx [v, v + 2, v + 3] h2 (mj_wi h2 (v + 3) x (nI 0)) := sx_wi (by simp)
      have l3 := VLd_k l2 s3 (fun c _ _ => by rw [mj_i_wi]; simp)
      have b3 := RU_sx s3 hS3 h83 b''
      obtain ⟨-, sa, sr1, sr2, sr3⟩ := b3.2.2 r hr'
      have sis : mj_is (mj_wi h2 (v + 3) x (nI 0)) sa 9 4 := by obtain ⟨_, _, _, _, _, q, _⟩ := sr2; exact q
      have kt := k_total (L := L) (xs := xs) (d := d + 60 + 1) (Q := fun q => mj_Wp L xs (d + 60 + 1 + 1 + 1) 58 56 [some (.ref 8), some (.ref v), some (.ref 1), some (.int (nI x)), some (.int (nI r)), Y] (q.1.toList ++ []) q.2 Q) (k := k) (v := v) l3.2.2.2.2.2.2.1 l3.2.2.2.2.2.2.2.1 l3.2.2.2.2.2.2.2.2.1.2.1 (by omega) hk4 sr2
      have e6 : smF k (mj_i (mj_wi h2 (v + 3) x (nI 0)) (v + 2)) (sm r).1 (sm r).2.1 (sm r).2.2.1 (sm r).2.2.2 = smv n k lk sm s x r := by
        have : mj_i (mj_wi h2 (v + 3) x (nI 0)) (v + 2) = mj_i h2 (v + 2) := by
          funext c
          rw [mj_i_ne n23]
        rw [this]
        exact sm_pt v2 sr3
      rw [e6] at kt
      rw [hfr]
      simp only [w_58_30, w_58_32, w_58_33, w_58_36, w_58_37, w_58_38, w_58_39, w_58_41, w_58_42, w_58_45, w_58_46, w_58_49, w_58_51_200, w_58_51_201, w_58_52, w_58_53, Option.toList, List.cons_append, List.nil_append, v1, v5, mj_rv_some, v10, v11, e3, e4, hne, if_false, ly_8 hL2, lr_8_1 hL2, lk_10 hL2, ln_10 hL2, r3, r4, mj_is_wi, mj_ik_wi, mj_ln_wi, mj_r_wi] at sr1 ⊢
      simp only [sr1, mj_rv_some, w_58_52, w_58_53, mj_is_wi, (mj_is_wi).mp sis, w_58_53]
      refine kt.mpr ?_
      simp only [w_58_56, w_58_57, w_58_60, w_58_63, w_58_65, w_58_66, w_58_67, w_58_70, w_58_71, w_58_72, w_58_73, w_58_74, w_58_77, w_58_78, w_58_81, w_58_82, w_58_84, w_58_85, w_58_88, w_58_89, w_58_90, w_58_91, w_58_92, w_58_95, w_58_96, w_58_97, w_58_98, Option.toList, List.cons_append, List.nil_append, ly_1 hL2, lr_1_1 hL2, lk_3 hL2, ln_3 hL2, v1, v3, v5, v6, v7, v10, v11, mj_rv_some, mj_is_wi, mj_ik_wi, mj_ln_wi, mj_r_wi, e3, e4, g2.2.1, hkn, mj_i_ne m13, mj_i_ne m1v, mj_i_ne m33, mj_i_ne m3v, mj_i_ne n13, mj_i_ne n1v, mj_i_ne nv3, k_floorMod hkn, hen2, or_2x x (by omega) _ (enN_lt x), dgx, g2.2.2.2.2.1 x (by omega), w_58_99, w_58_102, nI_add]
      obtain ⟨h4, hh⟩ : ∃ h4, h4 = mj_wi (mj_wi (mj_wi h2 (v + 3) x (nI 0)) v 4 (nI (enN n k lk rn G s x + 2 ^ x))) (v + 3) x ((fmI (smv n k lk sm s x r) (nI k) - nI (dg n k s x)) * nI (k ^ (n - 1 - x))) := ⟨_, rfl⟩
      rw [← hh]
      have s4 : mj_sx [v, v + 2, v + 3] h2 h4 := by
        rw [hh]
        exact sx_tr s3 (sx_tr (sx_wi (by simp)) (sx_wi (by simp)))
      have l4 := VLd_k l2 s4 (fun c _ _ => by rw [hh, mj_i_ne n23, mj_i_ne n2v, mj_i_ne n23])
      refine ih (x + 1) _ _ _ (by omega) l4 (RU_sx s4 hS3 h83 b'') ?_ (fun h' q1 q2 q3 q4 q5 => ?_)
      · rw [hh, mj_i_ne nv3, enN, if_neg hnf]
        simp [mj_i_wi]
      · refine hQ h' (sx_tr sh (sx_tr s4 q1)) q2 q3 (fun y hy => ?_) (fun y y1 y2 => ?_)
        · rw [q4 y (by omega), hh]
          simp [mj_i_wi, show ¬ y = x by omega, sh3]
        · by_cases hyx : y = x
          · subst hyx
            rw [q4 y (by omega), hh, shI, if_neg hnf, nvI, hfr, r4]
            simp [mj_i_wi]
          · exact q5 y (by omega) y2
theorem k_findMoves {v n k e s rn : Nat} {lk : Nat → Nat} {G : Nat → GD} {sm : SM} (a : VLd h v n k e lk s) (b : RU h rn G sm)
    (hQ : ∀ h', mj_sx [v, v + 2, v + 3] h h' → VLd h' v n k e lk s → mj_i h' v 4 = nI (enN n k lk rn G s n) → (∀ y, y < n → mj_i h' (v + 3) y = shI n k lk rn G sm s y) → Q (none, h')) : mj_Wp L xs (d + 60 + 1 + 1 + 1) 58 0 [some (.ref 8), some (.ref v), none, none, none, none] [] h Q := by
  have hv := a.1
  have hV := a.2.2.2.2.2.2.2.1
  simp only [w_58_0, w_58_1, w_58_4, w_58_5, w_58_6, w_58_7, w_58_10, w_58_11, hV.1, hV.2.1, mj_rv_some]
  have s0 : mj_sx [v, v + 2, v + 3] h (mj_wi h v 4 (nI 0)) := sx_wi (by simp)
  have hS3 : ∀ z ∈ [v, v + 2, v + 3], z < 46 := by rcases hv with rfl | rfl <;> decide
  have h83 : 8 ∉ [v, v + 2, v + 3] := by rcases hv with rfl | rfl <;> decide
  refine k_moves_loop n 0 _ _ _ (by omega) (VLd_k a s0 (fun c _ _ => by rw [mj_i_ne (by omega)])) (RU_sx s0 hS3 h83 b) (by simp [mj_i_wi, enN]) (fun h' q1 q2 q3 q4 q5 => hQ h' (sx_tr s0 q1) q2 q3 (fun y hy => q5 y (by omega) hy))
end MovesK
