/-! The constructors. -/
/-- where an int may be other than 0 behind the constructors -/
def eE (a j : Nat) : Bool := a == 1 || a == 2 || a == 3 || (a == 8 && j == 3) || a == 6 || a == 22 || (a == 25 && (j == 0 || j == 1 || j == 8))
/-- a heap as it is built: its cells, some references, some ints, and zeroes -/
def BB (z u : Nat) (rl : List (Nat × Nat × Nat)) (il : List (Nat × Nat × Int32)) (h : MH) : Prop := mj_z h = z ∧ mj_u h = u ∧ (∀ a, a < z → mj_m h a = ly_T.getD a (0, 0)) ∧ (∀ q, q ∈ rl → mj_r h q.1 q.2.1 = some q.2.2) ∧ (∀ q, q ∈ il → mj_i h q.1 q.2.1 = q.2.2) ∧ ∀ a j, a < z → eE a j = false → mj_i h a j = 0
section BuildK
variable {L : Nat} {xs : Nat → Int32} {d : Nat} {Q : Option Value × MH → Prop} {h : MH} {z u : Nat} {rl : List (Nat × Nat × Nat)} {il : List (Nat × Nat × Int32)}
theorem BB_is {a kd n : Nat} (b : BB z u rl il h) (ha : a < z) (hm : ly_T.getD a (0, 0) = (kd, n)) : mj_is h a kd n := ⟨by rw [b.1]; exact ha, by rw [b.2.2.1 a ha]; exact hm⟩
theorem BB_new {kd n : Nat} (b : BB z u rl il h) (hm : ly_T.getD z (0, 0) = (kd, n)) (h1 : rl.all (fun q => decide (q.1 < z)) = true) (h2 : il.all (fun q => decide (q.1 < z)) = true) : BB (z + 1) (u + n) rl il (mj_nw h kd n) := by
  obtain ⟨b1, b2, b3, b4, b5, b6⟩ := b
  rw [List.all_eq_true] at h1 h2
  refine ⟨by rw [mj_nw_z, b1], by rw [mj_nw_u, b2], fun a ha => ?_, fun q hq => ?_, fun q hq => ?_, fun a j ha he => ?_⟩
  · by_cases hz : a = z
    · rw [hz, ← b1, mj_nw_m, b1, hm]
    · rw [mj_nw_mo (by omega)]; exact b3 a (by omega)
  · have := of_decide_eq_true (h1 q hq)
    rw [mj_nw_ro (by omega)]; exact b4 q hq
  · have := of_decide_eq_true (h2 q hq)
    rw [mj_nw_io (by omega)]; exact b5 q hq
  · by_cases hz : a = z
    · rw [hz, ← b1, mj_nw_i]
    · rw [mj_nw_io (by omega)]; exact b6 a j (by omega) he
theorem BB_ref {a k c : Nat} (b : BB z u rl il h) (h1 : rl.all (fun q => !(q.1 == a && q.2.1 == k)) = true) : BB z u ((a, k, c) :: rl) il (mj_wr h a k (some c)) := by
  obtain ⟨b1, b2, b3, b4, b5, b6⟩ := b
  rw [List.all_eq_true] at h1
  refine ⟨b1, b2, b3, fun q hq => ?_, fun q hq => by rw [mj_i_wr]; exact b5 q hq, fun a j ha he => by rw [mj_i_wr]; exact b6 a j ha he⟩
  rw [mj_r_wr]
  rcases List.mem_cons.mp hq with rfl | hq
  · simp
  · have := h1 q hq
    rw [if_neg (fun z => by simp [z.1, z.2] at this)]
    exact b4 q hq
theorem BB_int {a k : Nat} {x : Int32} (b : BB z u rl il h) (he : eE a k = true) (h1 : il.all (fun q => !(q.1 == a && q.2.1 == k)) = true) : BB z u rl ((a, k, x) :: il) (mj_wi h a k x) := by
  obtain ⟨b1, b2, b3, b4, b5, b6⟩ := b
  rw [List.all_eq_true] at h1
  refine ⟨b1, b2, b3, fun q hq => by rw [mj_r_wi]; exact b4 q hq, fun q hq => ?_, fun a' j ha he' => ?_⟩
  · rw [mj_i_wi]
    rcases List.mem_cons.mp hq with rfl | hq
    · simp
    · have := h1 q hq
      rw [if_neg (fun z => by simp [z.1, z.2] at this)]
      exact b5 q hq
  · rw [mj_i_wi, if_neg (fun z => by rw [z.1, z.2, he] at he'; cases he')]
    exact b6 a' j ha he'
theorem BB_int0 {a k : Nat} (b : BB z u rl il h) (h1 : il.all (fun q => !(q.1 == a && q.2.1 == k)) = true) : BB z u rl il (mj_wi h a k (nI 0)) := by
  obtain ⟨b1, b2, b3, b4, b5, b6⟩ := b
  rw [List.all_eq_true] at h1
  refine ⟨b1, b2, b3, fun q hq => by rw [mj_r_wi]; exact b4 q hq, fun q hq => ?_, fun a' j ha he' => ?_⟩
  · rw [mj_i_wi]
    have := h1 q hq
    rw [if_neg (fun z => by simp [z.1, z.2] at this)]
    exact b5 q hq
  · rw [mj_i_wi]
    split
    · decide
    · exact b6 a' j ha he'
theorem BB_sx {S : List Nat} {h' : MH} {il2 : List (Nat × Nat × Int32)} (b : BB z u rl il h) (q : mj_sx S h h') (hS : ∀ a, a ∈ S → ∀ j, eE a j = true) (hil : ∀ q, q ∈ il → q.1 ∉ S) (h2 : ∀ q, q ∈ il2 → mj_i h' q.1 q.2.1 = q.2.2) : BB z u rl (il2 ++ il) h' := by
  obtain ⟨b1, b2, b3, b4, b5, b6⟩ := b
  refine ⟨by rw [q.1]; exact b1, by rw [q.2.1]; exact b2, fun a ha => by rw [q.2.2.1]; exact b3 a ha, fun w hw => by rw [sx_r q]; exact b4 w hw, fun w hw => ?_, fun a j ha he => ?_⟩
  · rcases List.mem_append.mp hw with hw | hw
    · exact h2 w hw
    · rw [sx_i q (hil w hw)]; exact b5 w hw
  · rw [sx_i q (fun z => by rw [hS a z j] at he; cases he)]; exact b6 a j ha he
def ilG : List (Nat × Nat × Int32) := [(1, 2, nI 2), (1, 3, nI 2), (1, 4, nI 0), (1, 5, nI 4), (3, 0, nI 2), (3, 1, nI 1), (2, 0, nI 0), (2, 1, nI 0), (2, 2, nI 0), (2, 3, nI 0), (2, 4, nI 0)]
theorem k_initGraph (b : BB 2 15 [] [] h) (hQ : ∀ h', BB 4 25 [(1, 1, 3), (1, 0, 2)] ilG h' → Q (none, h')) : mj_Wp L xs (d + 1 + 1) 2 0 [some (.ref 1)] [] h Q := by
  obtain ⟨h1, hh1⟩ : ∃ h1, h1 = mj_wr (mj_nw h 100 5) 1 0 (some 2) := ⟨_, rfl⟩
  have n1 := BB_new (kd := 100) (n := 5) b rfl rfl rfl
  have b1 : BB 3 20 [(1, 0, 2)] [] h1 := by rw [hh1]; exact BB_ref n1 rfl
  obtain ⟨h2, hh2⟩ : ∃ h2, h2 = mj_wr (mj_nw h1 100 5) 1 1 (some 3) := ⟨_, rfl⟩
  have n2 := BB_new (kd := 100) (n := 5) b1 rfl rfl rfl
  have b2 : BB 4 25 [(1, 1, 3), (1, 0, 2)] [] h2 := by rw [hh2]; exact BB_ref n2 rfl
  simp only [w_2_0, w_2_1, w_2_4, w_2_5, w_2_6, w_2_8, w_2_11, w_2_12, w_2_13, w_2_15, w_2_18, w_2_19, w_2_20, w_2_21, show (5 : Nat) ≤ 65536 by decide, b.1, BB_is n1 (show 1 < 3 by decide) rfl, ← hh1, b1.1, BB_is n2 (show 1 < 4 by decide) rfl, ← hh2, BB_is b2 (show 1 < 4 by decide) rfl]
  have i2 := BB_is (kd := 100) (n := 5) b2 (show 2 < 4 by decide) rfl
  have i3 := BB_is (kd := 100) (n := 5) b2 (show 3 < 4 by decide) rfl
  refine k_renew (n := 2) (k := 2) (by decide) (by decide) ⟨BB_is b2 (by decide) rfl, b2.2.2.2.1 (1, 0, 2) (by simp), b2.2.2.2.1 (1, 1, 3) (by simp), ⟨i2.1, by rw [i2.2]⟩, by rw [mj_ln, i2.2], ⟨i3.1, by rw [i3.2]⟩, by rw [mj_ln, i3.2]⟩ (fun h3 s3 g3 => ?_)
  obtain ⟨g1, g2, g4, g5, g6, g7⟩ := g3
  simp only [w_2_24, Option.toList, List.nil_append]
  have b3 := BB_sx (il2 := ilG) b2 s3 (fun a ha j => by rcases (by simpa using ha : a = 1 ∨ a = 2 ∨ a = 3) with rfl | rfl | rfl <;> rfl) (fun q hq => by cases hq) (fun q hq => by
    rcases (by simpa [ilG] using hq : q = (1, 2, nI 2) ∨ q = (1, 3, nI 2) ∨ q = (1, 4, nI 0) ∨ q = (1, 5, nI 4) ∨ q = (3, 0, nI 2) ∨ q = (3, 1, nI 1) ∨ q = (2, 0, nI 0) ∨ q = (2, 1, nI 0) ∨ q = (2, 2, nI 0) ∨ q = (2, 3, nI 0) ∨ q = (2, 4, nI 0)) with rfl | rfl | rfl | rfl | rfl | rfl | rfl | rfl | rfl | rfl | rfl
    · exact g1
    · exact g2
    · exact g4
    · exact g5
    · exact g6 0 (by decide)
    · exact g6 1 (by decide)
    · exact g7 0 (by decide)
    · exact g7 1 (by decide)
    · exact g7 2 (by decide)
    · exact g7 3 (by decide)
    · exact g7 4 (by decide))
  rw [List.append_nil] at b3
  exact hQ h3 b3
def ilV (v : Nat) : List (Nat × Nat × Int32) := (List.range 10).map (fun i => (v + 2, 48 + i, nI i))
theorem k_initView {v : Nat} (hv : v = 4 ∨ v = 20) (b : BB (v + 1) u rl il h) (h1 : rl.all (fun q => decide (q.1 < v)) = true) (h2 : il.all (fun q => decide (q.1 < v)) = true) (hQ : ∀ h', BB (v + 4) (u + 137) ((v, 0, 1) :: (v, 3, v + 3) :: (v, 2, v + 2) :: (v, 1, v + 1) :: rl) (ilV v ++ il) h' → Q (none, h')) : mj_Wp L xs d 4 0 [some (.ref v), some (.ref 1), none] [] h Q := by
  rw [List.all_eq_true] at h1 h2
  have hr : ∀ w, v ≤ w → rl.all (fun q => decide (q.1 < w)) = true := fun w hw => by
    rw [List.all_eq_true]; intro q hq
    have := of_decide_eq_true (h1 q hq)
    exact decide_eq_true (by omega)
  have hi : ∀ w, v ≤ w → il.all (fun q => decide (q.1 < w)) = true := fun w hw => by
    rw [List.all_eq_true]; intro q hq
    have := of_decide_eq_true (h2 q hq)
    exact decide_eq_true (by omega)
  have hk : ∀ k, rl.all (fun q => !(q.1 == v && q.2.1 == k)) = true := fun k => by
    rw [List.all_eq_true]; intro q hq
    have := of_decide_eq_true (h1 q hq)
    have : (q.1 == v) = false := beq_eq_false_iff_ne.mpr (by omega)
    rw [this]; rfl
  have e0 : ly_T.getD v (0, 0) = (10, 6) := by rcases hv with rfl | rfl <;> rfl
  have e1 : ly_T.getD (v + 1) (0, 0) = (100, 5) := by rcases hv with rfl | rfl <;> rfl
  have e2 : ly_T.getD (v + 1 + 1) (0, 0) = (100, 127) := by rcases hv with rfl | rfl <;> rfl
  have e3 : ly_T.getD (v + 1 + 1 + 1) (0, 0) = (100, 5) := by rcases hv with rfl | rfl <;> rfl
  obtain ⟨g1, hh1⟩ : ∃ g1, g1 = mj_wr (mj_nw h 100 5) v 1 (some (v + 1)) := ⟨_, rfl⟩
  have n1 := BB_new (kd := 100) (n := 5) b e1 (hr _ (by omega)) (hi _ (by omega))
  have b1 : BB (v + 1 + 1) (u + 5) ((v, 1, v + 1) :: rl) il g1 := by rw [hh1]; exact BB_ref n1 (hk 1)
  obtain ⟨g2, hh2⟩ : ∃ g2, g2 = mj_wr (mj_nw g1 100 127) v 2 (some (v + 1 + 1)) := ⟨_, rfl⟩
  have n2 := BB_new (kd := 100) (n := 127) b1 e2 (by rw [List.all_cons, hr _ (by omega), Bool.and_true]; exact decide_eq_true (show v < v + 1 + 1 by omega)) (hi _ (by omega))
  have b2 : BB (v + 1 + 1 + 1) (u + 5 + 127) ((v, 2, v + 1 + 1) :: (v, 1, v + 1) :: rl) il g2 := by rw [hh2]; exact BB_ref n2 (by rw [List.all_cons, hk 2]; simp)
  obtain ⟨g3, hh3⟩ : ∃ g3, g3 = mj_wr (mj_nw g2 100 5) v 3 (some (v + 1 + 1 + 1)) := ⟨_, rfl⟩
  have n3 := BB_new (kd := 100) (n := 5) b2 e3 (by rw [List.all_cons, List.all_cons, hr _ (by omega), Bool.and_true, Bool.and_eq_true]; exact ⟨decide_eq_true (show v < v + 1 + 1 + 1 by omega), decide_eq_true (show v < v + 1 + 1 + 1 by omega)⟩) (hi _ (by omega))
  have b3 : BB (v + 1 + 1 + 1 + 1) (u + 5 + 127 + 5) ((v, 3, v + 1 + 1 + 1) :: (v, 2, v + 1 + 1) :: (v, 1, v + 1) :: rl) il g3 := by rw [hh3]; exact BB_ref n3 (by rw [List.all_cons, List.all_cons, hk 3]; simp)
  obtain ⟨g4, hh4⟩ : ∃ g4, g4 = mj_wr g3 v 0 (some 1) := ⟨_, rfl⟩
  have b4 : BB (v + 4) (u + 137) ((v, 0, 1) :: (v, 3, v + 3) :: (v, 2, v + 2) :: (v, 1, v + 1) :: rl) il g4 := by rw [hh4]; exact BB_ref b3 (by rw [List.all_cons, List.all_cons, List.all_cons, hk 0]; simp)
  have isv := BB_is b4 (show v < v + 4 by omega) e0
  have isp := BB_is b4 (show v + 2 < v + 4 by omega) e2
  have rp : mj_r g4 v 2 = some (v + 2) := b4.2.2.2.1 (v, 2, v + 2) (by simp)
  simp only [w_4_0, w_4_1, w_4_4, w_4_5, w_4_6, w_4_8, w_4_11, w_4_12, w_4_14, w_4_16, w_4_19, w_4_20, w_4_21, w_4_23, w_4_26, w_4_27, w_4_28, w_4_31, w_4_32, show (5 : Nat) ≤ 65536 by decide, show (127 : Nat) ≤ 65536 by decide, b.1, BB_is n1 (show v < v + 1 + 1 by omega) e0, ← hh1, b1.1, BB_is n2 (show v < v + 1 + 1 + 1 by omega) e0, ← hh2, b2.1, BB_is n3 (show v < v + 1 + 1 + 1 + 1 by omega) e0, ← hh3, BB_is b3 (show v < v + 1 + 1 + 1 + 1 by omega) e0, ← hh4]
  have lp : ∀ (m i : Nat) (h5 : MH), i + m = 10 → mj_sx [v + 2] g4 h5 → (∀ j, j < i → mj_i h5 (v + 2) (48 + j) = nI j) → mj_Wp L xs d 4 33 [some (.ref v), some (.ref 1), some (.int (nI i))] [] h5 Q := by
    intro m
    induction m with
    | zero =>
      intro i h5 him s5 f5
      have him : i = 10 := by omega
      rw [w_4_33]
      simp only [w_4_34, w_4_36, w_4_55, him, show nI 9 < nI 10 by decide, if_true]
      refine hQ h5 (BB_sx b4 s5 (fun a ha j => ?_) (fun q hq => ?_) (fun q hq => ?_))
      · have ha : a = v + 2 := by simpa using ha
        rw [ha]
        rcases hv with rfl | rfl <;> rfl
      · have := of_decide_eq_true (h2 q hq)
        simp; omega
      · obtain ⟨j, j1, rfl⟩ := List.mem_map.mp hq
        exact f5 j (by have := List.mem_range.mp j1; omega)
    | succ m ih =>
      intro i h5 him s5 f5
      have c1 : ¬ nI 9 < nI i := by rw [nI_ltI (by omega) (by omega)]; omega
      have j1 : mj_in (nI (48 + i)) 127 = true := mj_in_nI (by omega) (by omega)
      have j2 : (nI (48 + i)).toNatClampNeg = 48 + i := nI_clamp (by omega)
      have isv5 : mj_is h5 v 10 6 := (sx_is s5).mpr isv
      have isp5 : mj_is h5 (v + 2) 100 127 := (sx_is s5).mpr isp
      have rp5 : mj_r h5 v 2 = some (v + 2) := by rw [sx_r s5]; exact rp
      have ik5 : mj_ik h5 (v + 2) 100 := ⟨isp5.1, by rw [isp5.2]⟩
      have ln5 : mj_ln h5 (v + 2) = 127 := by rw [mj_ln, isp5.2]
      rw [w_4_33]
      simp only [w_4_34, w_4_36, w_4_39, w_4_40, w_4_43, w_4_45, w_4_46, w_4_47, w_4_48, w_4_49, w_4_52, c1, if_false, isv5, rp5, mj_rv_some, nI_add, ik5, ln5, j1, j2]
      refine ih (i + 1) _ (by omega) (sx_tr s5 (sx_wi (by simp))) (fun j hj => ?_)
      rw [mj_i_wi]
      by_cases hji : j = i
      · simp [hji]
      · rw [if_neg (by omega)]; exact f5 j (by omega)
  exact lp 10 0 g4 (by omega) sx_rf (fun j hj => by omega)
def rl8 : List (Nat × Nat × Nat) := [(0, 1, 4), (4, 0, 1), (4, 3, 7), (4, 2, 6), (4, 1, 5), (0, 0, 1), (1, 1, 3), (1, 0, 2)]
theorem k_initRules (b : BB 9 173 [(0, 1, 4), (4, 0, 1), (4, 3, 7), (4, 2, 6), (4, 1, 5), (0, 0, 1), (1, 1, 3), (1, 0, 2)] (ilV 4 ++ ilG) h) (hQ : ∀ h', BB 11 185 [(8, 1, 10), (8, 0, 9), (0, 1, 4), (4, 0, 1), (4, 3, 7), (4, 2, 6), (4, 1, 5), (0, 0, 1), (1, 1, 3), (1, 0, 2)] ((8, 3, nI 1) :: (ilV 4 ++ ilG)) h' → Q (none, h')) : mj_Wp L xs d 5 0 [some (.ref 8)] [] h Q := by
  obtain ⟨g1, hh1⟩ : ∃ g1, g1 = mj_wr (mj_nw h 200 6) 8 0 (some 9) := ⟨_, rfl⟩
  have n1 := BB_new (kd := 200) (n := 6) b rfl rfl rfl
  have b1 : BB 10 179 [(8, 0, 9), (0, 1, 4), (4, 0, 1), (4, 3, 7), (4, 2, 6), (4, 1, 5), (0, 0, 1), (1, 1, 3), (1, 0, 2)] (ilV 4 ++ ilG) g1 := by rw [hh1]; exact BB_ref n1 rfl
  obtain ⟨g2, hh2⟩ : ∃ g2, g2 = mj_wr (mj_nw g1 201 6) 8 1 (some 10) := ⟨_, rfl⟩
  have n2 := BB_new (kd := 201) (n := 6) b1 rfl rfl rfl
  have b2 : BB 11 185 [(8, 1, 10), (8, 0, 9), (0, 1, 4), (4, 0, 1), (4, 3, 7), (4, 2, 6), (4, 1, 5), (0, 0, 1), (1, 1, 3), (1, 0, 2)] (ilV 4 ++ ilG) g2 := by rw [hh2]; exact BB_ref n2 rfl
  obtain ⟨g3, hh3⟩ : ∃ g3, g3 = mj_wi g2 8 3 (nI 1) := ⟨_, rfl⟩
  have b3 : BB 11 185 [(8, 1, 10), (8, 0, 9), (0, 1, 4), (4, 0, 1), (4, 3, 7), (4, 2, 6), (4, 1, 5), (0, 0, 1), (1, 1, 3), (1, 0, 2)] ((8, 3, nI 1) :: (ilV 4 ++ ilG)) g3 := by rw [hh3]; exact BB_int b2 rfl rfl
  simp only [w_5_0, w_5_1, w_5_4, w_5_5, w_5_7, w_5_10, w_5_13, w_5_14, w_5_16, w_5_19, w_5_22, w_5_23, w_5_24, w_5_27, show (6 : Nat) ≤ 65536 by decide, b.1, BB_is n1 (show 8 < 10 by decide) rfl, ← hh1, show (6 : Nat) ≤ 65536 by decide, b1.1, BB_is n2 (show 8 < 11 by decide) rfl, ← hh2, BB_is b2 (show 8 < 11 by decide) rfl, ← hh3]
  exact hQ g3 b3
theorem k_initSearch (b : BB 12 203 [(0, 2, 8), (8, 1, 10), (8, 0, 9), (0, 1, 4), (4, 0, 1), (4, 3, 7), (4, 2, 6), (4, 1, 5), (0, 0, 1), (1, 1, 3), (1, 0, 2)] ((8, 3, nI 1) :: (ilV 4 ++ ilG)) h) (hQ : ∀ h', BB 24 12635 [(11, 2, 20), (20, 0, 1), (20, 3, 23), (20, 2, 22), (20, 1, 21), (11, 1, 8), (11, 0, 1), (11, 10, 19), (11, 9, 18), (11, 8, 17), (11, 7, 16), (11, 6, 15), (11, 5, 14), (11, 4, 13), (11, 3, 12), (0, 2, 8), (8, 1, 10), (8, 0, 9), (0, 1, 4), (4, 0, 1), (4, 3, 7), (4, 2, 6), (4, 1, 5), (0, 0, 1), (1, 1, 3), (1, 0, 2)] (ilV 20 ++ ((8, 3, nI 1) :: (ilV 4 ++ ilG))) h' → Q (none, h')) : mj_Wp L xs (d + 1) 6 0 [some (.ref 11), some (.ref 1), some (.ref 8)] [] h Q := by
  obtain ⟨g1, hh1⟩ : ∃ g1, g1 = mj_wr (mj_nw h 100 1024) 11 3 (some 12) := ⟨_, rfl⟩
  have n1 := BB_new (kd := 100) (n := 1024) b rfl rfl rfl
  have b1 : BB 13 1227 [(11, 3, 12), (0, 2, 8), (8, 1, 10), (8, 0, 9), (0, 1, 4), (4, 0, 1), (4, 3, 7), (4, 2, 6), (4, 1, 5), (0, 0, 1), (1, 1, 3), (1, 0, 2)] ((8, 3, nI 1) :: (ilV 4 ++ ilG)) g1 := by rw [hh1]; exact BB_ref n1 rfl
  obtain ⟨g2, hh2⟩ : ∃ g2, g2 = mj_wr (mj_nw g1 100 5120) 11 4 (some 13) := ⟨_, rfl⟩
  have n2 := BB_new (kd := 100) (n := 5120) b1 rfl rfl rfl
  have b2 : BB 14 6347 [(11, 4, 13), (11, 3, 12), (0, 2, 8), (8, 1, 10), (8, 0, 9), (0, 1, 4), (4, 0, 1), (4, 3, 7), (4, 2, 6), (4, 1, 5), (0, 0, 1), (1, 1, 3), (1, 0, 2)] ((8, 3, nI 1) :: (ilV 4 ++ ilG)) g2 := by rw [hh2]; exact BB_ref n2 rfl
  obtain ⟨g3, hh3⟩ : ∃ g3, g3 = mj_wr (mj_nw g2 101 1024) 11 5 (some 14) := ⟨_, rfl⟩
  have n3 := BB_new (kd := 101) (n := 1024) b2 rfl rfl rfl
  have b3 : BB 15 7371 [(11, 5, 14), (11, 4, 13), (11, 3, 12), (0, 2, 8), (8, 1, 10), (8, 0, 9), (0, 1, 4), (4, 0, 1), (4, 3, 7), (4, 2, 6), (4, 1, 5), (0, 0, 1), (1, 1, 3), (1, 0, 2)] ((8, 3, nI 1) :: (ilV 4 ++ ilG)) g3 := by rw [hh3]; exact BB_ref n3 rfl
  obtain ⟨g4, hh4⟩ : ∃ g4, g4 = mj_wr (mj_nw g3 100 1024) 11 6 (some 15) := ⟨_, rfl⟩
  have n4 := BB_new (kd := 100) (n := 1024) b3 rfl rfl rfl
  have b4 : BB 16 8395 [(11, 6, 15), (11, 5, 14), (11, 4, 13), (11, 3, 12), (0, 2, 8), (8, 1, 10), (8, 0, 9), (0, 1, 4), (4, 0, 1), (4, 3, 7), (4, 2, 6), (4, 1, 5), (0, 0, 1), (1, 1, 3), (1, 0, 2)] ((8, 3, nI 1) :: (ilV 4 ++ ilG)) g4 := by rw [hh4]; exact BB_ref n4 rfl
  obtain ⟨g5, hh5⟩ : ∃ g5, g5 = mj_wr (mj_nw g4 100 1024) 11 7 (some 16) := ⟨_, rfl⟩
  have n5 := BB_new (kd := 100) (n := 1024) b4 rfl rfl rfl
  have b5 : BB 17 9419 [(11, 7, 16), (11, 6, 15), (11, 5, 14), (11, 4, 13), (11, 3, 12), (0, 2, 8), (8, 1, 10), (8, 0, 9), (0, 1, 4), (4, 0, 1), (4, 3, 7), (4, 2, 6), (4, 1, 5), (0, 0, 1), (1, 1, 3), (1, 0, 2)] ((8, 3, nI 1) :: (ilV 4 ++ ilG)) g5 := by rw [hh5]; exact BB_ref n5 rfl
  obtain ⟨g6, hh6⟩ : ∃ g6, g6 = mj_wr (mj_nw g5 100 1024) 11 8 (some 17) := ⟨_, rfl⟩
  have n6 := BB_new (kd := 100) (n := 1024) b5 rfl rfl rfl
  have b6 : BB 18 10443 [(11, 8, 17), (11, 7, 16), (11, 6, 15), (11, 5, 14), (11, 4, 13), (11, 3, 12), (0, 2, 8), (8, 1, 10), (8, 0, 9), (0, 1, 4), (4, 0, 1), (4, 3, 7), (4, 2, 6), (4, 1, 5), (0, 0, 1), (1, 1, 3), (1, 0, 2)] ((8, 3, nI 1) :: (ilV 4 ++ ilG)) g6 := by rw [hh6]; exact BB_ref n6 rfl
  obtain ⟨g7, hh7⟩ : ∃ g7, g7 = mj_wr (mj_nw g6 100 1024) 11 9 (some 18) := ⟨_, rfl⟩
  have n7 := BB_new (kd := 100) (n := 1024) b6 rfl rfl rfl
  have b7 : BB 19 11467 [(11, 9, 18), (11, 8, 17), (11, 7, 16), (11, 6, 15), (11, 5, 14), (11, 4, 13), (11, 3, 12), (0, 2, 8), (8, 1, 10), (8, 0, 9), (0, 1, 4), (4, 0, 1), (4, 3, 7), (4, 2, 6), (4, 1, 5), (0, 0, 1), (1, 1, 3), (1, 0, 2)] ((8, 3, nI 1) :: (ilV 4 ++ ilG)) g7 := by rw [hh7]; exact BB_ref n7 rfl
  obtain ⟨g8, hh8⟩ : ∃ g8, g8 = mj_wr (mj_nw g7 100 1025) 11 10 (some 19) := ⟨_, rfl⟩
  have n8 := BB_new (kd := 100) (n := 1025) b7 rfl rfl rfl
  have b8 : BB 20 12492 [(11, 10, 19), (11, 9, 18), (11, 8, 17), (11, 7, 16), (11, 6, 15), (11, 5, 14), (11, 4, 13), (11, 3, 12), (0, 2, 8), (8, 1, 10), (8, 0, 9), (0, 1, 4), (4, 0, 1), (4, 3, 7), (4, 2, 6), (4, 1, 5), (0, 0, 1), (1, 1, 3), (1, 0, 2)] ((8, 3, nI 1) :: (ilV 4 ++ ilG)) g8 := by rw [hh8]; exact BB_ref n8 rfl
  obtain ⟨g9, hh9⟩ : ∃ g9, g9 = mj_wi g8 11 12 (nI 0) := ⟨_, rfl⟩
  have b9 : BB 20 12492 [(11, 10, 19), (11, 9, 18), (11, 8, 17), (11, 7, 16), (11, 6, 15), (11, 5, 14), (11, 4, 13), (11, 3, 12), (0, 2, 8), (8, 1, 10), (8, 0, 9), (0, 1, 4), (4, 0, 1), (4, 3, 7), (4, 2, 6), (4, 1, 5), (0, 0, 1), (1, 1, 3), (1, 0, 2)] ((8, 3, nI 1) :: (ilV 4 ++ ilG)) g9 := by rw [hh9]; exact BB_int0 b8 rfl
  obtain ⟨g10, hh10⟩ : ∃ g10, g10 = mj_wr g9 11 0 (some 1) := ⟨_, rfl⟩
  have b10 : BB 20 12492 [(11, 0, 1), (11, 10, 19), (11, 9, 18), (11, 8, 17), (11, 7, 16), (11, 6, 15), (11, 5, 14), (11, 4, 13), (11, 3, 12), (0, 2, 8), (8, 1, 10), (8, 0, 9), (0, 1, 4), (4, 0, 1), (4, 3, 7), (4, 2, 6), (4, 1, 5), (0, 0, 1), (1, 1, 3), (1, 0, 2)] ((8, 3, nI 1) :: (ilV 4 ++ ilG)) g10 := by rw [hh10]; exact BB_ref b9 rfl
  obtain ⟨g11, hh11⟩ : ∃ g11, g11 = mj_wr g10 11 1 (some 8) := ⟨_, rfl⟩
  have b11 : BB 20 12492 [(11, 1, 8), (11, 0, 1), (11, 10, 19), (11, 9, 18), (11, 8, 17), (11, 7, 16), (11, 6, 15), (11, 5, 14), (11, 4, 13), (11, 3, 12), (0, 2, 8), (8, 1, 10), (8, 0, 9), (0, 1, 4), (4, 0, 1), (4, 3, 7), (4, 2, 6), (4, 1, 5), (0, 0, 1), (1, 1, 3), (1, 0, 2)] ((8, 3, nI 1) :: (ilV 4 ++ ilG)) g11 := by rw [hh11]; exact BB_ref b10 rfl
  obtain ⟨g12, hh12⟩ : ∃ g12, g12 = mj_nw g11 10 6 := ⟨_, rfl⟩
  have b12 : BB 21 12498 [(11, 1, 8), (11, 0, 1), (11, 10, 19), (11, 9, 18), (11, 8, 17), (11, 7, 16), (11, 6, 15), (11, 5, 14), (11, 4, 13), (11, 3, 12), (0, 2, 8), (8, 1, 10), (8, 0, 9), (0, 1, 4), (4, 0, 1), (4, 3, 7), (4, 2, 6), (4, 1, 5), (0, 0, 1), (1, 1, 3), (1, 0, 2)] ((8, 3, nI 1) :: (ilV 4 ++ ilG)) g12 := by rw [hh12]; exact BB_new (kd := 10) (n := 6) b11 rfl rfl rfl
  simp only [w_6_0, w_6_1, w_6_4, w_6_5, w_6_8, w_6_10, w_6_13, w_6_14, w_6_17, w_6_19, w_6_22, w_6_23, w_6_26, w_6_28, w_6_31, w_6_32, w_6_35, w_6_37, w_6_40, w_6_41, w_6_44, w_6_46, w_6_49, w_6_50, w_6_53, w_6_55, w_6_58, w_6_59, w_6_62, w_6_64, w_6_67, w_6_68, w_6_71, w_6_73, w_6_76, w_6_77, w_6_78, w_6_81, w_6_82, w_6_83, w_6_86, w_6_87, w_6_88, w_6_91, w_6_92, w_6_95, w_6_96, w_6_97, show (1024 : Nat) ≤ 65536 by decide, b.1, BB_is n1 (show 11 < 13 by decide) rfl, ← hh1, show (5120 : Nat) ≤ 65536 by decide, b1.1, BB_is n2 (show 11 < 14 by decide) rfl, ← hh2, show (1024 : Nat) ≤ 65536 by decide, b2.1, BB_is n3 (show 11 < 15 by decide) rfl, ← hh3, show (1024 : Nat) ≤ 65536 by decide, b3.1, BB_is n4 (show 11 < 16 by decide) rfl, ← hh4, show (1024 : Nat) ≤ 65536 by decide, b4.1, BB_is n5 (show 11 < 17 by decide) rfl, ← hh5, show (1024 : Nat) ≤ 65536 by decide, b5.1, BB_is n6 (show 11 < 18 by decide) rfl, ← hh6, show (1024 : Nat) ≤ 65536 by decide, b6.1, BB_is n7 (show 11 < 19 by decide) rfl, ← hh7, show (1025 : Nat) ≤ 65536 by decide, b7.1, BB_is n8 (show 11 < 20 by decide) rfl, ← hh8, BB_is b8 (show 11 < 20 by decide) rfl, ← hh9, BB_is b9 (show 11 < 20 by decide) rfl, ← hh10, BB_is b10 (show 11 < 20 by decide) rfl, ← hh11, b11.1, ← hh12]
  refine k_initView (Or.inr rfl) b12 rfl rfl (fun h' b' => ?_)
  simp only [w_6_100, w_6_103, Option.toList, List.nil_append, BB_is b' (show 11 < 24 by decide) rfl]
  exact hQ _ (BB_ref b' rfl)
theorem k_initBench (b : BB 1 9 [] [] h) (hQ : ∀ h', BB 25 12683 [(0, 4, 24), (0, 3, 11), (11, 2, 20), (20, 0, 1), (20, 3, 23), (20, 2, 22), (20, 1, 21), (11, 1, 8), (11, 0, 1), (11, 10, 19), (11, 9, 18), (11, 8, 17), (11, 7, 16), (11, 6, 15), (11, 5, 14), (11, 4, 13), (11, 3, 12), (0, 2, 8), (8, 1, 10), (8, 0, 9), (0, 1, 4), (4, 0, 1), (4, 3, 7), (4, 2, 6), (4, 1, 5), (0, 0, 1), (1, 1, 3), (1, 0, 2)] (ilV 20 ++ ((8, 3, nI 1) :: (ilV 4 ++ ilG))) h' → Q (none, h')) : mj_Wp L xs (d + 1 + 1 + 1) 1 0 [some (.ref 0)] [] h Q := by
  obtain ⟨g1, hh1⟩ : ∃ g1, g1 = mj_nw h 2 6 := ⟨_, rfl⟩
  have b1 : BB 2 15 [] [] g1 := by rw [hh1]; exact BB_new (kd := 2) (n := 6) b rfl rfl rfl
  simp only [w_1_0, w_1_1, w_1_4, w_1_5, w_1_8, w_1_9, b.1, ← hh1]
  refine k_initGraph (d := d) b1 (fun h2 c2 => ?_)
  obtain ⟨g11, hh11⟩ : ∃ g11, g11 = mj_wr h2 0 0 (some 1) := ⟨_, rfl⟩
  have b11 : BB 4 25 [(0, 0, 1), (1, 1, 3), (1, 0, 2)] ilG g11 := by rw [hh11]; exact BB_ref c2 rfl
  obtain ⟨g12, hh12⟩ : ∃ g12, g12 = mj_nw g11 10 6 := ⟨_, rfl⟩
  have b12 : BB 5 31 [(0, 0, 1), (1, 1, 3), (1, 0, 2)] ilG g12 := by rw [hh12]; exact BB_new (kd := 10) (n := 6) b11 rfl rfl rfl
  have r0 : mj_r g12 0 0 = some 1 := b12.2.2.2.1 (0, 0, 1) (by simp)
  simp only [w_1_12, w_1_15, w_1_16, w_1_19, w_1_20, w_1_21, w_1_24, BB_is c2 (show 0 < 4 by decide) rfl, ← hh11, b11.1, ← hh12, Option.toList, List.nil_append, BB_is b12 (show 0 < 5 by decide) rfl, r0, mj_rv_some]
  refine k_initView (d := d + 1 + 1) (Or.inl rfl) b12 rfl rfl (fun h3 c3 => ?_)
  obtain ⟨g21, hh21⟩ : ∃ g21, g21 = mj_wr h3 0 1 (some 4) := ⟨_, rfl⟩
  have b21 : BB 8 168 [(0, 1, 4), (4, 0, 1), (4, 3, 7), (4, 2, 6), (4, 1, 5), (0, 0, 1), (1, 1, 3), (1, 0, 2)] (ilV 4 ++ ilG) g21 := by rw [hh21]; exact BB_ref c3 rfl
  obtain ⟨g22, hh22⟩ : ∃ g22, g22 = mj_nw g21 7 5 := ⟨_, rfl⟩
  have b22 : BB 9 173 [(0, 1, 4), (4, 0, 1), (4, 3, 7), (4, 2, 6), (4, 1, 5), (0, 0, 1), (1, 1, 3), (1, 0, 2)] (ilV 4 ++ ilG) g22 := by rw [hh22]; exact BB_new (kd := 7) (n := 5) b21 rfl rfl rfl
  simp only [w_1_27, w_1_30, w_1_31, w_1_34, w_1_35, BB_is c3 (show 0 < 8 by decide) rfl, ← hh21, b21.1, ← hh22, Option.toList, List.nil_append]
  refine k_initRules (d := d + 1 + 1) b22 (fun h4 c4 => ?_)
  obtain ⟨g31, hh31⟩ : ∃ g31, g31 = mj_wr h4 0 2 (some 8) := ⟨_, rfl⟩
  have b31 : BB 11 185 [(0, 2, 8), (8, 1, 10), (8, 0, 9), (0, 1, 4), (4, 0, 1), (4, 3, 7), (4, 2, 6), (4, 1, 5), (0, 0, 1), (1, 1, 3), (1, 0, 2)] ((8, 3, nI 1) :: (ilV 4 ++ ilG)) g31 := by rw [hh31]; exact BB_ref c4 rfl
  obtain ⟨g32, hh32⟩ : ∃ g32, g32 = mj_nw g31 8 18 := ⟨_, rfl⟩
  have b32 : BB 12 203 [(0, 2, 8), (8, 1, 10), (8, 0, 9), (0, 1, 4), (4, 0, 1), (4, 3, 7), (4, 2, 6), (4, 1, 5), (0, 0, 1), (1, 1, 3), (1, 0, 2)] ((8, 3, nI 1) :: (ilV 4 ++ ilG)) g32 := by rw [hh32]; exact BB_new (kd := 8) (n := 18) b31 rfl rfl rfl
  have r1 : mj_r g32 0 0 = some 1 := b32.2.2.2.1 (0, 0, 1) (by simp)
  have r2 : mj_r g32 0 2 = some 8 := b32.2.2.2.1 (0, 2, 8) (by simp)
  simp only [w_1_38, w_1_41, w_1_42, w_1_45, w_1_46, w_1_47, w_1_50, w_1_51, w_1_54, BB_is c4 (show 0 < 11 by decide) rfl, ← hh31, b31.1, ← hh32, Option.toList, List.nil_append, BB_is b32 (show 0 < 12 by decide) rfl, r1, r2, mj_rv_some]
  refine k_initSearch (d := d + 1) b32 (fun h5 c5 => ?_)
  obtain ⟨g41, hh41⟩ : ∃ g41, g41 = mj_wr h5 0 3 (some 11) := ⟨_, rfl⟩
  have b41 : BB 24 12635 [(0, 3, 11), (11, 2, 20), (20, 0, 1), (20, 3, 23), (20, 2, 22), (20, 1, 21), (11, 1, 8), (11, 0, 1), (11, 10, 19), (11, 9, 18), (11, 8, 17), (11, 7, 16), (11, 6, 15), (11, 5, 14), (11, 4, 13), (11, 3, 12), (0, 2, 8), (8, 1, 10), (8, 0, 9), (0, 1, 4), (4, 0, 1), (4, 3, 7), (4, 2, 6), (4, 1, 5), (0, 0, 1), (1, 1, 3), (1, 0, 2)] (ilV 20 ++ ((8, 3, nI 1) :: (ilV 4 ++ ilG))) g41 := by rw [hh41]; exact BB_ref c5 rfl
  obtain ⟨g42, hh42⟩ : ∃ g42, g42 = mj_wr (mj_nw g41 102 48) 0 4 (some 24) := ⟨_, rfl⟩
  have n42 := BB_new (kd := 102) (n := 48) b41 rfl rfl rfl
  have b42 : BB 25 12683 [(0, 4, 24), (0, 3, 11), (11, 2, 20), (20, 0, 1), (20, 3, 23), (20, 2, 22), (20, 1, 21), (11, 1, 8), (11, 0, 1), (11, 10, 19), (11, 9, 18), (11, 8, 17), (11, 7, 16), (11, 6, 15), (11, 5, 14), (11, 4, 13), (11, 3, 12), (0, 2, 8), (8, 1, 10), (8, 0, 9), (0, 1, 4), (4, 0, 1), (4, 3, 7), (4, 2, 6), (4, 1, 5), (0, 0, 1), (1, 1, 3), (1, 0, 2)] (ilV 20 ++ ((8, 3, nI 1) :: (ilV 4 ++ ilG))) g42 := by rw [hh42]; exact BB_ref n42 rfl
  simp only [w_1_57, w_1_60, w_1_61, w_1_63, w_1_65, w_1_68, BB_is c5 (show 0 < 24 by decide) rfl, ← hh41, show (48 : Nat) ≤ 65536 by decide, b41.1, BB_is n42 (show 0 < 25 by decide) rfl, ← hh42, Option.toList, List.nil_append]
  exact hQ g42 b42
theorem k_initModel (b : BB 26 12723 [(0, 4, 24), (0, 3, 11), (11, 2, 20), (20, 0, 1), (20, 3, 23), (20, 2, 22), (20, 1, 21), (11, 1, 8), (11, 0, 1), (11, 10, 19), (11, 9, 18), (11, 8, 17), (11, 7, 16), (11, 6, 15), (11, 5, 14), (11, 4, 13), (11, 3, 12), (0, 2, 8), (8, 1, 10), (8, 0, 9), (0, 1, 4), (4, 0, 1), (4, 3, 7), (4, 2, 6), (4, 1, 5), (0, 0, 1), (1, 1, 3), (1, 0, 2)] (ilV 20 ++ ((8, 3, nI 1) :: (ilV 4 ++ ilG))) h) (hQ : ∀ h', BB 46 24386 [(25, 39, 45), (25, 37, 44), (25, 36, 43), (25, 35, 42), (25, 34, 41), (25, 33, 40), (25, 29, 39), (25, 28, 38), (25, 21, 37), (25, 20, 36), (25, 19, 35), (25, 18, 34), (25, 16, 33), (25, 15, 32), (25, 14, 31), (25, 13, 30), (25, 12, 29), (25, 10, 28), (25, 4, 27), (25, 3, 26), (0, 4, 24), (0, 3, 11), (11, 2, 20), (20, 0, 1), (20, 3, 23), (20, 2, 22), (20, 1, 21), (11, 1, 8), (11, 0, 1), (11, 10, 19), (11, 9, 18), (11, 8, 17), (11, 7, 16), (11, 6, 15), (11, 5, 14), (11, 4, 13), (11, 3, 12), (0, 2, 8), (8, 1, 10), (8, 0, 9), (0, 1, 4), (4, 0, 1), (4, 3, 7), (4, 2, 6), (4, 1, 5), (0, 0, 1), (1, 1, 3), (1, 0, 2)] ((25, 8, nI 1) :: ((25, 1, nI 2) :: ((25, 0, nI 2) :: (ilV 20 ++ ((8, 3, nI 1) :: (ilV 4 ++ ilG)))))) h' → Q (none, h')) : mj_Wp L xs d 82 0 [some (.ref 25)] [] h Q := by
  obtain ⟨g1, hh1⟩ : ∃ g1, g1 = mj_wi h 25 0 (nI 2) := ⟨_, rfl⟩
  have b1 : BB 26 12723 [(0, 4, 24), (0, 3, 11), (11, 2, 20), (20, 0, 1), (20, 3, 23), (20, 2, 22), (20, 1, 21), (11, 1, 8), (11, 0, 1), (11, 10, 19), (11, 9, 18), (11, 8, 17), (11, 7, 16), (11, 6, 15), (11, 5, 14), (11, 4, 13), (11, 3, 12), (0, 2, 8), (8, 1, 10), (8, 0, 9), (0, 1, 4), (4, 0, 1), (4, 3, 7), (4, 2, 6), (4, 1, 5), (0, 0, 1), (1, 1, 3), (1, 0, 2)] ((25, 0, nI 2) :: (ilV 20 ++ ((8, 3, nI 1) :: (ilV 4 ++ ilG)))) g1 := by rw [hh1]; exact BB_int b rfl rfl
  obtain ⟨g2, hh2⟩ : ∃ g2, g2 = mj_wi g1 25 1 (nI 2) := ⟨_, rfl⟩
  have b2 : BB 26 12723 [(0, 4, 24), (0, 3, 11), (11, 2, 20), (20, 0, 1), (20, 3, 23), (20, 2, 22), (20, 1, 21), (11, 1, 8), (11, 0, 1), (11, 10, 19), (11, 9, 18), (11, 8, 17), (11, 7, 16), (11, 6, 15), (11, 5, 14), (11, 4, 13), (11, 3, 12), (0, 2, 8), (8, 1, 10), (8, 0, 9), (0, 1, 4), (4, 0, 1), (4, 3, 7), (4, 2, 6), (4, 1, 5), (0, 0, 1), (1, 1, 3), (1, 0, 2)] ((25, 1, nI 2) :: ((25, 0, nI 2) :: (ilV 20 ++ ((8, 3, nI 1) :: (ilV 4 ++ ilG))))) g2 := by rw [hh2]; exact BB_int b1 rfl rfl
  obtain ⟨g3, hh3⟩ : ∃ g3, g3 = mj_wr (mj_nw g2 101 25) 25 3 (some 26) := ⟨_, rfl⟩
  have n3 := BB_new (kd := 101) (n := 25) b2 rfl rfl rfl
  have b3 : BB 27 12748 [(25, 3, 26), (0, 4, 24), (0, 3, 11), (11, 2, 20), (20, 0, 1), (20, 3, 23), (20, 2, 22), (20, 1, 21), (11, 1, 8), (11, 0, 1), (11, 10, 19), (11, 9, 18), (11, 8, 17), (11, 7, 16), (11, 6, 15), (11, 5, 14), (11, 4, 13), (11, 3, 12), (0, 2, 8), (8, 1, 10), (8, 0, 9), (0, 1, 4), (4, 0, 1), (4, 3, 7), (4, 2, 6), (4, 1, 5), (0, 0, 1), (1, 1, 3), (1, 0, 2)] ((25, 1, nI 2) :: ((25, 0, nI 2) :: (ilV 20 ++ ((8, 3, nI 1) :: (ilV 4 ++ ilG))))) g3 := by rw [hh3]; exact BB_ref n3 rfl
  obtain ⟨g4, hh4⟩ : ∃ g4, g4 = mj_wr (mj_nw g3 100 5) 25 4 (some 27) := ⟨_, rfl⟩
  have n4 := BB_new (kd := 100) (n := 5) b3 rfl rfl rfl
  have b4 : BB 28 12753 [(25, 4, 27), (25, 3, 26), (0, 4, 24), (0, 3, 11), (11, 2, 20), (20, 0, 1), (20, 3, 23), (20, 2, 22), (20, 1, 21), (11, 1, 8), (11, 0, 1), (11, 10, 19), (11, 9, 18), (11, 8, 17), (11, 7, 16), (11, 6, 15), (11, 5, 14), (11, 4, 13), (11, 3, 12), (0, 2, 8), (8, 1, 10), (8, 0, 9), (0, 1, 4), (4, 0, 1), (4, 3, 7), (4, 2, 6), (4, 1, 5), (0, 0, 1), (1, 1, 3), (1, 0, 2)] ((25, 1, nI 2) :: ((25, 0, nI 2) :: (ilV 20 ++ ((8, 3, nI 1) :: (ilV 4 ++ ilG))))) g4 := by rw [hh4]; exact BB_ref n4 rfl
  obtain ⟨g5, hh5⟩ : ∃ g5, g5 = mj_wi g4 25 8 (nI 1) := ⟨_, rfl⟩
  have b5 : BB 28 12753 [(25, 4, 27), (25, 3, 26), (0, 4, 24), (0, 3, 11), (11, 2, 20), (20, 0, 1), (20, 3, 23), (20, 2, 22), (20, 1, 21), (11, 1, 8), (11, 0, 1), (11, 10, 19), (11, 9, 18), (11, 8, 17), (11, 7, 16), (11, 6, 15), (11, 5, 14), (11, 4, 13), (11, 3, 12), (0, 2, 8), (8, 1, 10), (8, 0, 9), (0, 1, 4), (4, 0, 1), (4, 3, 7), (4, 2, 6), (4, 1, 5), (0, 0, 1), (1, 1, 3), (1, 0, 2)] ((25, 8, nI 1) :: ((25, 1, nI 2) :: ((25, 0, nI 2) :: (ilV 20 ++ ((8, 3, nI 1) :: (ilV 4 ++ ilG)))))) g5 := by rw [hh5]; exact BB_int b4 rfl rfl
  obtain ⟨g6, hh6⟩ : ∃ g6, g6 = mj_wr (mj_nw g5 100 48) 25 10 (some 28) := ⟨_, rfl⟩
  have n6 := BB_new (kd := 100) (n := 48) b5 rfl rfl rfl
  have b6 : BB 29 12801 [(25, 10, 28), (25, 4, 27), (25, 3, 26), (0, 4, 24), (0, 3, 11), (11, 2, 20), (20, 0, 1), (20, 3, 23), (20, 2, 22), (20, 1, 21), (11, 1, 8), (11, 0, 1), (11, 10, 19), (11, 9, 18), (11, 8, 17), (11, 7, 16), (11, 6, 15), (11, 5, 14), (11, 4, 13), (11, 3, 12), (0, 2, 8), (8, 1, 10), (8, 0, 9), (0, 1, 4), (4, 0, 1), (4, 3, 7), (4, 2, 6), (4, 1, 5), (0, 0, 1), (1, 1, 3), (1, 0, 2)] ((25, 8, nI 1) :: ((25, 1, nI 2) :: ((25, 0, nI 2) :: (ilV 20 ++ ((8, 3, nI 1) :: (ilV 4 ++ ilG)))))) g6 := by rw [hh6]; exact BB_ref n6 rfl
  obtain ⟨g7, hh7⟩ : ∃ g7, g7 = mj_wr (mj_nw g6 100 384) 25 12 (some 29) := ⟨_, rfl⟩
  have n7 := BB_new (kd := 100) (n := 384) b6 rfl rfl rfl
  have b7 : BB 30 13185 [(25, 12, 29), (25, 10, 28), (25, 4, 27), (25, 3, 26), (0, 4, 24), (0, 3, 11), (11, 2, 20), (20, 0, 1), (20, 3, 23), (20, 2, 22), (20, 1, 21), (11, 1, 8), (11, 0, 1), (11, 10, 19), (11, 9, 18), (11, 8, 17), (11, 7, 16), (11, 6, 15), (11, 5, 14), (11, 4, 13), (11, 3, 12), (0, 2, 8), (8, 1, 10), (8, 0, 9), (0, 1, 4), (4, 0, 1), (4, 3, 7), (4, 2, 6), (4, 1, 5), (0, 0, 1), (1, 1, 3), (1, 0, 2)] ((25, 8, nI 1) :: ((25, 1, nI 2) :: ((25, 0, nI 2) :: (ilV 20 ++ ((8, 3, nI 1) :: (ilV 4 ++ ilG)))))) g7 := by rw [hh7]; exact BB_ref n7 rfl
  obtain ⟨g8, hh8⟩ : ∃ g8, g8 = mj_wr (mj_nw g7 100 384) 25 13 (some 30) := ⟨_, rfl⟩
  have n8 := BB_new (kd := 100) (n := 384) b7 rfl rfl rfl
  have b8 : BB 31 13569 [(25, 13, 30), (25, 12, 29), (25, 10, 28), (25, 4, 27), (25, 3, 26), (0, 4, 24), (0, 3, 11), (11, 2, 20), (20, 0, 1), (20, 3, 23), (20, 2, 22), (20, 1, 21), (11, 1, 8), (11, 0, 1), (11, 10, 19), (11, 9, 18), (11, 8, 17), (11, 7, 16), (11, 6, 15), (11, 5, 14), (11, 4, 13), (11, 3, 12), (0, 2, 8), (8, 1, 10), (8, 0, 9), (0, 1, 4), (4, 0, 1), (4, 3, 7), (4, 2, 6), (4, 1, 5), (0, 0, 1), (1, 1, 3), (1, 0, 2)] ((25, 8, nI 1) :: ((25, 1, nI 2) :: ((25, 0, nI 2) :: (ilV 20 ++ ((8, 3, nI 1) :: (ilV 4 ++ ilG)))))) g8 := by rw [hh8]; exact BB_ref n8 rfl
  obtain ⟨g9, hh9⟩ : ∃ g9, g9 = mj_wr (mj_nw g8 100 8) 25 14 (some 31) := ⟨_, rfl⟩
  have n9 := BB_new (kd := 100) (n := 8) b8 rfl rfl rfl
  have b9 : BB 32 13577 [(25, 14, 31), (25, 13, 30), (25, 12, 29), (25, 10, 28), (25, 4, 27), (25, 3, 26), (0, 4, 24), (0, 3, 11), (11, 2, 20), (20, 0, 1), (20, 3, 23), (20, 2, 22), (20, 1, 21), (11, 1, 8), (11, 0, 1), (11, 10, 19), (11, 9, 18), (11, 8, 17), (11, 7, 16), (11, 6, 15), (11, 5, 14), (11, 4, 13), (11, 3, 12), (0, 2, 8), (8, 1, 10), (8, 0, 9), (0, 1, 4), (4, 0, 1), (4, 3, 7), (4, 2, 6), (4, 1, 5), (0, 0, 1), (1, 1, 3), (1, 0, 2)] ((25, 8, nI 1) :: ((25, 1, nI 2) :: ((25, 0, nI 2) :: (ilV 20 ++ ((8, 3, nI 1) :: (ilV 4 ++ ilG)))))) g9 := by rw [hh9]; exact BB_ref n9 rfl
  obtain ⟨g10, hh10⟩ : ∃ g10, g10 = mj_wr (mj_nw g9 100 384) 25 15 (some 32) := ⟨_, rfl⟩
  have n10 := BB_new (kd := 100) (n := 384) b9 rfl rfl rfl
  have b10 : BB 33 13961 [(25, 15, 32), (25, 14, 31), (25, 13, 30), (25, 12, 29), (25, 10, 28), (25, 4, 27), (25, 3, 26), (0, 4, 24), (0, 3, 11), (11, 2, 20), (20, 0, 1), (20, 3, 23), (20, 2, 22), (20, 1, 21), (11, 1, 8), (11, 0, 1), (11, 10, 19), (11, 9, 18), (11, 8, 17), (11, 7, 16), (11, 6, 15), (11, 5, 14), (11, 4, 13), (11, 3, 12), (0, 2, 8), (8, 1, 10), (8, 0, 9), (0, 1, 4), (4, 0, 1), (4, 3, 7), (4, 2, 6), (4, 1, 5), (0, 0, 1), (1, 1, 3), (1, 0, 2)] ((25, 8, nI 1) :: ((25, 1, nI 2) :: ((25, 0, nI 2) :: (ilV 20 ++ ((8, 3, nI 1) :: (ilV 4 ++ ilG)))))) g10 := by rw [hh10]; exact BB_ref n10 rfl
  obtain ⟨g11, hh11⟩ : ∃ g11, g11 = mj_wr (mj_nw g10 100 8) 25 16 (some 33) := ⟨_, rfl⟩
  have n11 := BB_new (kd := 100) (n := 8) b10 rfl rfl rfl
  have b11 : BB 34 13969 [(25, 16, 33), (25, 15, 32), (25, 14, 31), (25, 13, 30), (25, 12, 29), (25, 10, 28), (25, 4, 27), (25, 3, 26), (0, 4, 24), (0, 3, 11), (11, 2, 20), (20, 0, 1), (20, 3, 23), (20, 2, 22), (20, 1, 21), (11, 1, 8), (11, 0, 1), (11, 10, 19), (11, 9, 18), (11, 8, 17), (11, 7, 16), (11, 6, 15), (11, 5, 14), (11, 4, 13), (11, 3, 12), (0, 2, 8), (8, 1, 10), (8, 0, 9), (0, 1, 4), (4, 0, 1), (4, 3, 7), (4, 2, 6), (4, 1, 5), (0, 0, 1), (1, 1, 3), (1, 0, 2)] ((25, 8, nI 1) :: ((25, 1, nI 2) :: ((25, 0, nI 2) :: (ilV 20 ++ ((8, 3, nI 1) :: (ilV 4 ++ ilG)))))) g11 := by rw [hh11]; exact BB_ref n11 rfl
  obtain ⟨g12, hh12⟩ : ∃ g12, g12 = mj_wr (mj_nw g11 100 8) 25 18 (some 34) := ⟨_, rfl⟩
  have n12 := BB_new (kd := 100) (n := 8) b11 rfl rfl rfl
  have b12 : BB 35 13977 [(25, 18, 34), (25, 16, 33), (25, 15, 32), (25, 14, 31), (25, 13, 30), (25, 12, 29), (25, 10, 28), (25, 4, 27), (25, 3, 26), (0, 4, 24), (0, 3, 11), (11, 2, 20), (20, 0, 1), (20, 3, 23), (20, 2, 22), (20, 1, 21), (11, 1, 8), (11, 0, 1), (11, 10, 19), (11, 9, 18), (11, 8, 17), (11, 7, 16), (11, 6, 15), (11, 5, 14), (11, 4, 13), (11, 3, 12), (0, 2, 8), (8, 1, 10), (8, 0, 9), (0, 1, 4), (4, 0, 1), (4, 3, 7), (4, 2, 6), (4, 1, 5), (0, 0, 1), (1, 1, 3), (1, 0, 2)] ((25, 8, nI 1) :: ((25, 1, nI 2) :: ((25, 0, nI 2) :: (ilV 20 ++ ((8, 3, nI 1) :: (ilV 4 ++ ilG)))))) g12 := by rw [hh12]; exact BB_ref n12 rfl
  obtain ⟨g13, hh13⟩ : ∃ g13, g13 = mj_wr (mj_nw g12 101 8) 25 19 (some 35) := ⟨_, rfl⟩
  have n13 := BB_new (kd := 101) (n := 8) b12 rfl rfl rfl
  have b13 : BB 36 13985 [(25, 19, 35), (25, 18, 34), (25, 16, 33), (25, 15, 32), (25, 14, 31), (25, 13, 30), (25, 12, 29), (25, 10, 28), (25, 4, 27), (25, 3, 26), (0, 4, 24), (0, 3, 11), (11, 2, 20), (20, 0, 1), (20, 3, 23), (20, 2, 22), (20, 1, 21), (11, 1, 8), (11, 0, 1), (11, 10, 19), (11, 9, 18), (11, 8, 17), (11, 7, 16), (11, 6, 15), (11, 5, 14), (11, 4, 13), (11, 3, 12), (0, 2, 8), (8, 1, 10), (8, 0, 9), (0, 1, 4), (4, 0, 1), (4, 3, 7), (4, 2, 6), (4, 1, 5), (0, 0, 1), (1, 1, 3), (1, 0, 2)] ((25, 8, nI 1) :: ((25, 1, nI 2) :: ((25, 0, nI 2) :: (ilV 20 ++ ((8, 3, nI 1) :: (ilV 4 ++ ilG)))))) g13 := by rw [hh13]; exact BB_ref n13 rfl
  obtain ⟨g14, hh14⟩ : ∃ g14, g14 = mj_wr (mj_nw g13 101 8) 25 20 (some 36) := ⟨_, rfl⟩
  have n14 := BB_new (kd := 101) (n := 8) b13 rfl rfl rfl
  have b14 : BB 37 13993 [(25, 20, 36), (25, 19, 35), (25, 18, 34), (25, 16, 33), (25, 15, 32), (25, 14, 31), (25, 13, 30), (25, 12, 29), (25, 10, 28), (25, 4, 27), (25, 3, 26), (0, 4, 24), (0, 3, 11), (11, 2, 20), (20, 0, 1), (20, 3, 23), (20, 2, 22), (20, 1, 21), (11, 1, 8), (11, 0, 1), (11, 10, 19), (11, 9, 18), (11, 8, 17), (11, 7, 16), (11, 6, 15), (11, 5, 14), (11, 4, 13), (11, 3, 12), (0, 2, 8), (8, 1, 10), (8, 0, 9), (0, 1, 4), (4, 0, 1), (4, 3, 7), (4, 2, 6), (4, 1, 5), (0, 0, 1), (1, 1, 3), (1, 0, 2)] ((25, 8, nI 1) :: ((25, 1, nI 2) :: ((25, 0, nI 2) :: (ilV 20 ++ ((8, 3, nI 1) :: (ilV 4 ++ ilG)))))) g14 := by rw [hh14]; exact BB_ref n14 rfl
  obtain ⟨g15, hh15⟩ : ∃ g15, g15 = mj_wr (mj_nw g14 100 8) 25 21 (some 37) := ⟨_, rfl⟩
  have n15 := BB_new (kd := 100) (n := 8) b14 rfl rfl rfl
  have b15 : BB 38 14001 [(25, 21, 37), (25, 20, 36), (25, 19, 35), (25, 18, 34), (25, 16, 33), (25, 15, 32), (25, 14, 31), (25, 13, 30), (25, 12, 29), (25, 10, 28), (25, 4, 27), (25, 3, 26), (0, 4, 24), (0, 3, 11), (11, 2, 20), (20, 0, 1), (20, 3, 23), (20, 2, 22), (20, 1, 21), (11, 1, 8), (11, 0, 1), (11, 10, 19), (11, 9, 18), (11, 8, 17), (11, 7, 16), (11, 6, 15), (11, 5, 14), (11, 4, 13), (11, 3, 12), (0, 2, 8), (8, 1, 10), (8, 0, 9), (0, 1, 4), (4, 0, 1), (4, 3, 7), (4, 2, 6), (4, 1, 5), (0, 0, 1), (1, 1, 3), (1, 0, 2)] ((25, 8, nI 1) :: ((25, 1, nI 2) :: ((25, 0, nI 2) :: (ilV 20 ++ ((8, 3, nI 1) :: (ilV 4 ++ ilG)))))) g15 := by rw [hh15]; exact BB_ref n15 rfl
  obtain ⟨g16, hh16⟩ : ∃ g16, g16 = mj_wr (mj_nw g15 100 5) 25 28 (some 38) := ⟨_, rfl⟩
  have n16 := BB_new (kd := 100) (n := 5) b15 rfl rfl rfl
  have b16 : BB 39 14006 [(25, 28, 38), (25, 21, 37), (25, 20, 36), (25, 19, 35), (25, 18, 34), (25, 16, 33), (25, 15, 32), (25, 14, 31), (25, 13, 30), (25, 12, 29), (25, 10, 28), (25, 4, 27), (25, 3, 26), (0, 4, 24), (0, 3, 11), (11, 2, 20), (20, 0, 1), (20, 3, 23), (20, 2, 22), (20, 1, 21), (11, 1, 8), (11, 0, 1), (11, 10, 19), (11, 9, 18), (11, 8, 17), (11, 7, 16), (11, 6, 15), (11, 5, 14), (11, 4, 13), (11, 3, 12), (0, 2, 8), (8, 1, 10), (8, 0, 9), (0, 1, 4), (4, 0, 1), (4, 3, 7), (4, 2, 6), (4, 1, 5), (0, 0, 1), (1, 1, 3), (1, 0, 2)] ((25, 8, nI 1) :: ((25, 1, nI 2) :: ((25, 0, nI 2) :: (ilV 20 ++ ((8, 3, nI 1) :: (ilV 4 ++ ilG)))))) g16 := by rw [hh16]; exact BB_ref n16 rfl
  obtain ⟨g17, hh17⟩ : ∃ g17, g17 = mj_wr (mj_nw g16 100 64) 25 29 (some 39) := ⟨_, rfl⟩
  have n17 := BB_new (kd := 100) (n := 64) b16 rfl rfl rfl
  have b17 : BB 40 14070 [(25, 29, 39), (25, 28, 38), (25, 21, 37), (25, 20, 36), (25, 19, 35), (25, 18, 34), (25, 16, 33), (25, 15, 32), (25, 14, 31), (25, 13, 30), (25, 12, 29), (25, 10, 28), (25, 4, 27), (25, 3, 26), (0, 4, 24), (0, 3, 11), (11, 2, 20), (20, 0, 1), (20, 3, 23), (20, 2, 22), (20, 1, 21), (11, 1, 8), (11, 0, 1), (11, 10, 19), (11, 9, 18), (11, 8, 17), (11, 7, 16), (11, 6, 15), (11, 5, 14), (11, 4, 13), (11, 3, 12), (0, 2, 8), (8, 1, 10), (8, 0, 9), (0, 1, 4), (4, 0, 1), (4, 3, 7), (4, 2, 6), (4, 1, 5), (0, 0, 1), (1, 1, 3), (1, 0, 2)] ((25, 8, nI 1) :: ((25, 1, nI 2) :: ((25, 0, nI 2) :: (ilV 20 ++ ((8, 3, nI 1) :: (ilV 4 ++ ilG)))))) g17 := by rw [hh17]; exact BB_ref n17 rfl
  obtain ⟨g18, hh18⟩ : ∃ g18, g18 = mj_wr (mj_nw g17 100 1024) 25 33 (some 40) := ⟨_, rfl⟩
  have n18 := BB_new (kd := 100) (n := 1024) b17 rfl rfl rfl
  have b18 : BB 41 15094 [(25, 33, 40), (25, 29, 39), (25, 28, 38), (25, 21, 37), (25, 20, 36), (25, 19, 35), (25, 18, 34), (25, 16, 33), (25, 15, 32), (25, 14, 31), (25, 13, 30), (25, 12, 29), (25, 10, 28), (25, 4, 27), (25, 3, 26), (0, 4, 24), (0, 3, 11), (11, 2, 20), (20, 0, 1), (20, 3, 23), (20, 2, 22), (20, 1, 21), (11, 1, 8), (11, 0, 1), (11, 10, 19), (11, 9, 18), (11, 8, 17), (11, 7, 16), (11, 6, 15), (11, 5, 14), (11, 4, 13), (11, 3, 12), (0, 2, 8), (8, 1, 10), (8, 0, 9), (0, 1, 4), (4, 0, 1), (4, 3, 7), (4, 2, 6), (4, 1, 5), (0, 0, 1), (1, 1, 3), (1, 0, 2)] ((25, 8, nI 1) :: ((25, 1, nI 2) :: ((25, 0, nI 2) :: (ilV 20 ++ ((8, 3, nI 1) :: (ilV 4 ++ ilG)))))) g18 := by rw [hh18]; exact BB_ref n18 rfl
  obtain ⟨g19, hh19⟩ : ∃ g19, g19 = mj_wr (mj_nw g18 100 5120) 25 34 (some 41) := ⟨_, rfl⟩
  have n19 := BB_new (kd := 100) (n := 5120) b18 rfl rfl rfl
  have b19 : BB 42 20214 [(25, 34, 41), (25, 33, 40), (25, 29, 39), (25, 28, 38), (25, 21, 37), (25, 20, 36), (25, 19, 35), (25, 18, 34), (25, 16, 33), (25, 15, 32), (25, 14, 31), (25, 13, 30), (25, 12, 29), (25, 10, 28), (25, 4, 27), (25, 3, 26), (0, 4, 24), (0, 3, 11), (11, 2, 20), (20, 0, 1), (20, 3, 23), (20, 2, 22), (20, 1, 21), (11, 1, 8), (11, 0, 1), (11, 10, 19), (11, 9, 18), (11, 8, 17), (11, 7, 16), (11, 6, 15), (11, 5, 14), (11, 4, 13), (11, 3, 12), (0, 2, 8), (8, 1, 10), (8, 0, 9), (0, 1, 4), (4, 0, 1), (4, 3, 7), (4, 2, 6), (4, 1, 5), (0, 0, 1), (1, 1, 3), (1, 0, 2)] ((25, 8, nI 1) :: ((25, 1, nI 2) :: ((25, 0, nI 2) :: (ilV 20 ++ ((8, 3, nI 1) :: (ilV 4 ++ ilG)))))) g19 := by rw [hh19]; exact BB_ref n19 rfl
  obtain ⟨g20, hh20⟩ : ∃ g20, g20 = mj_wr (mj_nw g19 101 1024) 25 35 (some 42) := ⟨_, rfl⟩
  have n20 := BB_new (kd := 101) (n := 1024) b19 rfl rfl rfl
  have b20 : BB 43 21238 [(25, 35, 42), (25, 34, 41), (25, 33, 40), (25, 29, 39), (25, 28, 38), (25, 21, 37), (25, 20, 36), (25, 19, 35), (25, 18, 34), (25, 16, 33), (25, 15, 32), (25, 14, 31), (25, 13, 30), (25, 12, 29), (25, 10, 28), (25, 4, 27), (25, 3, 26), (0, 4, 24), (0, 3, 11), (11, 2, 20), (20, 0, 1), (20, 3, 23), (20, 2, 22), (20, 1, 21), (11, 1, 8), (11, 0, 1), (11, 10, 19), (11, 9, 18), (11, 8, 17), (11, 7, 16), (11, 6, 15), (11, 5, 14), (11, 4, 13), (11, 3, 12), (0, 2, 8), (8, 1, 10), (8, 0, 9), (0, 1, 4), (4, 0, 1), (4, 3, 7), (4, 2, 6), (4, 1, 5), (0, 0, 1), (1, 1, 3), (1, 0, 2)] ((25, 8, nI 1) :: ((25, 1, nI 2) :: ((25, 0, nI 2) :: (ilV 20 ++ ((8, 3, nI 1) :: (ilV 4 ++ ilG)))))) g20 := by rw [hh20]; exact BB_ref n20 rfl
  obtain ⟨g21, hh21⟩ : ∃ g21, g21 = mj_wr (mj_nw g20 101 1024) 25 36 (some 43) := ⟨_, rfl⟩
  have n21 := BB_new (kd := 101) (n := 1024) b20 rfl rfl rfl
  have b21 : BB 44 22262 [(25, 36, 43), (25, 35, 42), (25, 34, 41), (25, 33, 40), (25, 29, 39), (25, 28, 38), (25, 21, 37), (25, 20, 36), (25, 19, 35), (25, 18, 34), (25, 16, 33), (25, 15, 32), (25, 14, 31), (25, 13, 30), (25, 12, 29), (25, 10, 28), (25, 4, 27), (25, 3, 26), (0, 4, 24), (0, 3, 11), (11, 2, 20), (20, 0, 1), (20, 3, 23), (20, 2, 22), (20, 1, 21), (11, 1, 8), (11, 0, 1), (11, 10, 19), (11, 9, 18), (11, 8, 17), (11, 7, 16), (11, 6, 15), (11, 5, 14), (11, 4, 13), (11, 3, 12), (0, 2, 8), (8, 1, 10), (8, 0, 9), (0, 1, 4), (4, 0, 1), (4, 3, 7), (4, 2, 6), (4, 1, 5), (0, 0, 1), (1, 1, 3), (1, 0, 2)] ((25, 8, nI 1) :: ((25, 1, nI 2) :: ((25, 0, nI 2) :: (ilV 20 ++ ((8, 3, nI 1) :: (ilV 4 ++ ilG)))))) g21 := by rw [hh21]; exact BB_ref n21 rfl
  obtain ⟨g22, hh22⟩ : ∃ g22, g22 = mj_wr (mj_nw g21 100 1024) 25 37 (some 44) := ⟨_, rfl⟩
  have n22 := BB_new (kd := 100) (n := 1024) b21 rfl rfl rfl
  have b22 : BB 45 23286 [(25, 37, 44), (25, 36, 43), (25, 35, 42), (25, 34, 41), (25, 33, 40), (25, 29, 39), (25, 28, 38), (25, 21, 37), (25, 20, 36), (25, 19, 35), (25, 18, 34), (25, 16, 33), (25, 15, 32), (25, 14, 31), (25, 13, 30), (25, 12, 29), (25, 10, 28), (25, 4, 27), (25, 3, 26), (0, 4, 24), (0, 3, 11), (11, 2, 20), (20, 0, 1), (20, 3, 23), (20, 2, 22), (20, 1, 21), (11, 1, 8), (11, 0, 1), (11, 10, 19), (11, 9, 18), (11, 8, 17), (11, 7, 16), (11, 6, 15), (11, 5, 14), (11, 4, 13), (11, 3, 12), (0, 2, 8), (8, 1, 10), (8, 0, 9), (0, 1, 4), (4, 0, 1), (4, 3, 7), (4, 2, 6), (4, 1, 5), (0, 0, 1), (1, 1, 3), (1, 0, 2)] ((25, 8, nI 1) :: ((25, 1, nI 2) :: ((25, 0, nI 2) :: (ilV 20 ++ ((8, 3, nI 1) :: (ilV 4 ++ ilG)))))) g22 := by rw [hh22]; exact BB_ref n22 rfl
  obtain ⟨g23, hh23⟩ : ∃ g23, g23 = mj_wr (mj_nw g22 100 1100) 25 39 (some 45) := ⟨_, rfl⟩
  have n23 := BB_new (kd := 100) (n := 1100) b22 rfl rfl rfl
  have b23 : BB 46 24386 [(25, 39, 45), (25, 37, 44), (25, 36, 43), (25, 35, 42), (25, 34, 41), (25, 33, 40), (25, 29, 39), (25, 28, 38), (25, 21, 37), (25, 20, 36), (25, 19, 35), (25, 18, 34), (25, 16, 33), (25, 15, 32), (25, 14, 31), (25, 13, 30), (25, 12, 29), (25, 10, 28), (25, 4, 27), (25, 3, 26), (0, 4, 24), (0, 3, 11), (11, 2, 20), (20, 0, 1), (20, 3, 23), (20, 2, 22), (20, 1, 21), (11, 1, 8), (11, 0, 1), (11, 10, 19), (11, 9, 18), (11, 8, 17), (11, 7, 16), (11, 6, 15), (11, 5, 14), (11, 4, 13), (11, 3, 12), (0, 2, 8), (8, 1, 10), (8, 0, 9), (0, 1, 4), (4, 0, 1), (4, 3, 7), (4, 2, 6), (4, 1, 5), (0, 0, 1), (1, 1, 3), (1, 0, 2)] ((25, 8, nI 1) :: ((25, 1, nI 2) :: ((25, 0, nI 2) :: (ilV 20 ++ ((8, 3, nI 1) :: (ilV 4 ++ ilG)))))) g23 := by rw [hh23]; exact BB_ref n23 rfl
  simp only [w_82_0, w_82_1, w_82_4, w_82_5, w_82_6, w_82_9, w_82_10, w_82_11, w_82_14, w_82_15, w_82_17, w_82_19, w_82_22, w_82_23, w_82_24, w_82_26, w_82_29, w_82_30, w_82_31, w_82_34, w_82_35, w_82_37, w_82_39, w_82_42, w_82_43, w_82_46, w_82_48, w_82_51, w_82_52, w_82_55, w_82_57, w_82_60, w_82_61, w_82_63, w_82_65, w_82_68, w_82_69, w_82_72, w_82_74, w_82_77, w_82_78, w_82_80, w_82_82, w_82_85, w_82_86, w_82_88, w_82_90, w_82_93, w_82_94, w_82_96, w_82_98, w_82_101, w_82_102, w_82_104, w_82_106, w_82_109, w_82_110, w_82_112, w_82_114, w_82_117, w_82_118, w_82_119, w_82_121, w_82_124, w_82_125, w_82_127, w_82_129, w_82_132, w_82_133, w_82_136, w_82_138, w_82_141, w_82_142, w_82_145, w_82_147, w_82_150, w_82_151, w_82_154, w_82_156, w_82_159, w_82_160, w_82_163, w_82_165, w_82_168, w_82_169, w_82_172, w_82_174, w_82_177, w_82_178, w_82_181, w_82_183, w_82_186, BB_is b (show 25 < 26 by decide) rfl, ← hh1, BB_is b1 (show 25 < 26 by decide) rfl, ← hh2, show (25 : Nat) ≤ 65536 by decide, b2.1, BB_is n3 (show 25 < 27 by decide) rfl, ← hh3, show (5 : Nat) ≤ 65536 by decide, b3.1, BB_is n4 (show 25 < 28 by decide) rfl, ← hh4, BB_is b4 (show 25 < 28 by decide) rfl, ← hh5, show (48 : Nat) ≤ 65536 by decide, b5.1, BB_is n6 (show 25 < 29 by decide) rfl, ← hh6, show (384 : Nat) ≤ 65536 by decide, b6.1, BB_is n7 (show 25 < 30 by decide) rfl, ← hh7, show (384 : Nat) ≤ 65536 by decide, b7.1, BB_is n8 (show 25 < 31 by decide) rfl, ← hh8, show (8 : Nat) ≤ 65536 by decide, b8.1, BB_is n9 (show 25 < 32 by decide) rfl, ← hh9, show (384 : Nat) ≤ 65536 by decide, b9.1, BB_is n10 (show 25 < 33 by decide) rfl, ← hh10, show (8 : Nat) ≤ 65536 by decide, b10.1, BB_is n11 (show 25 < 34 by decide) rfl, ← hh11, show (8 : Nat) ≤ 65536 by decide, b11.1, BB_is n12 (show 25 < 35 by decide) rfl, ← hh12, show (8 : Nat) ≤ 65536 by decide, b12.1, BB_is n13 (show 25 < 36 by decide) rfl, ← hh13, show (8 : Nat) ≤ 65536 by decide, b13.1, BB_is n14 (show 25 < 37 by decide) rfl, ← hh14, show (8 : Nat) ≤ 65536 by decide, b14.1, BB_is n15 (show 25 < 38 by decide) rfl, ← hh15, show (5 : Nat) ≤ 65536 by decide, b15.1, BB_is n16 (show 25 < 39 by decide) rfl, ← hh16, show (64 : Nat) ≤ 65536 by decide, b16.1, BB_is n17 (show 25 < 40 by decide) rfl, ← hh17, show (1024 : Nat) ≤ 65536 by decide, b17.1, BB_is n18 (show 25 < 41 by decide) rfl, ← hh18, show (5120 : Nat) ≤ 65536 by decide, b18.1, BB_is n19 (show 25 < 42 by decide) rfl, ← hh19, show (1024 : Nat) ≤ 65536 by decide, b19.1, BB_is n20 (show 25 < 43 by decide) rfl, ← hh20, show (1024 : Nat) ≤ 65536 by decide, b20.1, BB_is n21 (show 25 < 44 by decide) rfl, ← hh21, show (1024 : Nat) ≤ 65536 by decide, b21.1, BB_is n22 (show 25 < 45 by decide) rfl, ← hh22, show (1100 : Nat) ≤ 65536 by decide, b22.1, BB_is n23 (show 25 < 46 by decide) rfl, ← hh23]
  exact hQ g23 b23
def rlZ : List (Nat × Nat × Nat) := [(25, 39, 45), (25, 37, 44), (25, 36, 43), (25, 35, 42), (25, 34, 41), (25, 33, 40), (25, 29, 39), (25, 28, 38), (25, 21, 37), (25, 20, 36), (25, 19, 35), (25, 18, 34), (25, 16, 33), (25, 15, 32), (25, 14, 31), (25, 13, 30), (25, 12, 29), (25, 10, 28), (25, 4, 27), (25, 3, 26), (0, 4, 24), (0, 3, 11), (11, 2, 20), (20, 0, 1), (20, 3, 23), (20, 2, 22), (20, 1, 21), (11, 1, 8), (11, 0, 1), (11, 10, 19), (11, 9, 18), (11, 8, 17), (11, 7, 16), (11, 6, 15), (11, 5, 14), (11, 4, 13), (11, 3, 12), (0, 2, 8), (8, 1, 10), (8, 0, 9), (0, 1, 4), (4, 0, 1), (4, 3, 7), (4, 2, 6), (4, 1, 5), (0, 0, 1), (1, 1, 3), (1, 0, 2)]
def ilZ : List (Nat × Nat × Int32) := ((25, 8, nI 1) :: ((25, 1, nI 2) :: ((25, 0, nI 2) :: (ilV 20 ++ ((8, 3, nI 1) :: (ilV 4 ++ ilG))))))
end BuildK
