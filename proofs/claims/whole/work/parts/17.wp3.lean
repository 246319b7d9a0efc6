/-! More rows a kind of instruction. -/
theorem mj_fit_int (x : Int32) : mj_fit .int x = true := by simp [mj_fit, narrow, fits]
theorem mj_fit_b0 : mj_fit .boolean 0 = true := by decide
theorem mj_fit_b1 : mj_fit .boolean 1 = true := by decide
section Wp3
variable {L : Nat} {xs : Nat → Int32} {d mi pc : Nat} {ls : List (Option Value)} {st : List Value} {h : MH} {Q : Option Value × MH → Prop}
theorem mj_w_if_eq {off : Int} {t : Nat} {x : Int32} (hf : mj_ft mi pc = some (.ifCond .eq off, 3)) (ho : mj_ok pc off = true) (ht : mj_to pc off = t) : mj_Wp L xs d mi pc ls (.int x :: st) h Q ↔ if x = nI 0 then mj_Wp L xs d mi t ls st h Q else mj_Wp L xs d mi (pc + 3) ls st h Q := by
  refine mj_w_br (p := x = nI 0) (t := t) hf (fun hp => ?_) (fun hp => ?_)
  · have hp : x = 0 := hp
    simp [mj_ex, mj_i1, mj_if, ho, ht, hp, mj_nx]
  · have hp : ¬ (x = 0) := hp
    simp only [mj_ex, mj_i1, mj_if, ho, decide_eq_false hp, mj_nx]
    simp
theorem mj_w_if_ne {off : Int} {t : Nat} {x : Int32} (hf : mj_ft mi pc = some (.ifCond .ne off, 3)) (ho : mj_ok pc off = true) (ht : mj_to pc off = t) : mj_Wp L xs d mi pc ls (.int x :: st) h Q ↔ if ¬ x = nI 0 then mj_Wp L xs d mi t ls st h Q else mj_Wp L xs d mi (pc + 3) ls st h Q := by
  refine mj_w_br (p := ¬ x = nI 0) (t := t) hf (fun hp => ?_) (fun hp => ?_)
  · have hp : ¬ x = 0 := hp
    simp [mj_ex, mj_i1, mj_if, ho, ht, hp, mj_nx]
  · have hp : ¬ (¬ x = 0) := hp
    simp only [mj_ex, mj_i1, mj_if, ho, decide_eq_false hp, mj_nx]
    simp
theorem mj_w_if_lt {off : Int} {t : Nat} {x : Int32} (hf : mj_ft mi pc = some (.ifCond .lt off, 3)) (ho : mj_ok pc off = true) (ht : mj_to pc off = t) : mj_Wp L xs d mi pc ls (.int x :: st) h Q ↔ if x < nI 0 then mj_Wp L xs d mi t ls st h Q else mj_Wp L xs d mi (pc + 3) ls st h Q := by
  refine mj_w_br (p := x < nI 0) (t := t) hf (fun hp => ?_) (fun hp => ?_)
  · have hp : x < 0 := hp
    simp [mj_ex, mj_i1, mj_if, ho, ht, hp, mj_nx]
  · have hp : ¬ (x < 0) := hp
    simp only [mj_ex, mj_i1, mj_if, ho, decide_eq_false hp, mj_nx]
    simp
theorem mj_w_if_ge {off : Int} {t : Nat} {x : Int32} (hf : mj_ft mi pc = some (.ifCond .ge off, 3)) (ho : mj_ok pc off = true) (ht : mj_to pc off = t) : mj_Wp L xs d mi pc ls (.int x :: st) h Q ↔ if nI 0 ≤ x then mj_Wp L xs d mi t ls st h Q else mj_Wp L xs d mi (pc + 3) ls st h Q := by
  refine mj_w_br (p := nI 0 ≤ x) (t := t) hf (fun hp => ?_) (fun hp => ?_)
  · have hp : 0 ≤ x := hp
    simp [mj_ex, mj_i1, mj_if, ho, ht, hp, mj_nx]
  · have hp : ¬ (0 ≤ x) := hp
    simp only [mj_ex, mj_i1, mj_if, ho, decide_eq_false hp, mj_nx]
    simp
theorem mj_w_if_gt {off : Int} {t : Nat} {x : Int32} (hf : mj_ft mi pc = some (.ifCond .gt off, 3)) (ho : mj_ok pc off = true) (ht : mj_to pc off = t) : mj_Wp L xs d mi pc ls (.int x :: st) h Q ↔ if nI 0 < x then mj_Wp L xs d mi t ls st h Q else mj_Wp L xs d mi (pc + 3) ls st h Q := by
  refine mj_w_br (p := nI 0 < x) (t := t) hf (fun hp => ?_) (fun hp => ?_)
  · have hp : 0 < x := hp
    simp [mj_ex, mj_i1, mj_if, ho, ht, hp, mj_nx]
  · have hp : ¬ (0 < x) := hp
    simp only [mj_ex, mj_i1, mj_if, ho, decide_eq_false hp, mj_nx]
    simp
theorem mj_w_if_le {off : Int} {t : Nat} {x : Int32} (hf : mj_ft mi pc = some (.ifCond .le off, 3)) (ho : mj_ok pc off = true) (ht : mj_to pc off = t) : mj_Wp L xs d mi pc ls (.int x :: st) h Q ↔ if x ≤ nI 0 then mj_Wp L xs d mi t ls st h Q else mj_Wp L xs d mi (pc + 3) ls st h Q := by
  refine mj_w_br (p := x ≤ nI 0) (t := t) hf (fun hp => ?_) (fun hp => ?_)
  · have hp : x ≤ 0 := hp
    simp [mj_ex, mj_i1, mj_if, ho, ht, hp, mj_nx]
  · have hp : ¬ (x ≤ 0) := hp
    simp only [mj_ex, mj_i1, mj_if, ho, decide_eq_false hp, mj_nx]
    simp
theorem mj_w_icmp_eq {off : Int} {t : Nat} {x y : Int32} (hf : mj_ft mi pc = some (.if_icmp .eq off, 3)) (ho : mj_ok pc off = true) (ht : mj_to pc off = t) : mj_Wp L xs d mi pc ls (.int y :: .int x :: st) h Q ↔ if x = y then mj_Wp L xs d mi t ls st h Q else mj_Wp L xs d mi (pc + 3) ls st h Q := by
  refine mj_w_br (p := x = y) (t := t) hf (fun hp => ?_) (fun hp => ?_)
  · simp only [mj_ex, mj_i2, mj_if, ho, ht, decide_eq_true hp, mj_nx]
    simp
  · simp only [mj_ex, mj_i2, mj_if, ho, decide_eq_false hp, mj_nx]
    simp
theorem mj_w_icmp_ne {off : Int} {t : Nat} {x y : Int32} (hf : mj_ft mi pc = some (.if_icmp .ne off, 3)) (ho : mj_ok pc off = true) (ht : mj_to pc off = t) : mj_Wp L xs d mi pc ls (.int y :: .int x :: st) h Q ↔ if ¬ x = y then mj_Wp L xs d mi t ls st h Q else mj_Wp L xs d mi (pc + 3) ls st h Q := by
  refine mj_w_br (p := ¬ x = y) (t := t) hf (fun hp => ?_) (fun hp => ?_)
  · simp only [mj_ex, mj_i2, mj_if, ho, ht, decide_eq_true hp, mj_nx]
    simp
  · simp only [mj_ex, mj_i2, mj_if, ho, decide_eq_false hp, mj_nx]
    simp
theorem mj_w_icmp_lt {off : Int} {t : Nat} {x y : Int32} (hf : mj_ft mi pc = some (.if_icmp .lt off, 3)) (ho : mj_ok pc off = true) (ht : mj_to pc off = t) : mj_Wp L xs d mi pc ls (.int y :: .int x :: st) h Q ↔ if x < y then mj_Wp L xs d mi t ls st h Q else mj_Wp L xs d mi (pc + 3) ls st h Q := by
  refine mj_w_br (p := x < y) (t := t) hf (fun hp => ?_) (fun hp => ?_)
  · simp only [mj_ex, mj_i2, mj_if, ho, ht, decide_eq_true hp, mj_nx]
    simp
  · simp only [mj_ex, mj_i2, mj_if, ho, decide_eq_false hp, mj_nx]
    simp
theorem mj_w_icmp_ge {off : Int} {t : Nat} {x y : Int32} (hf : mj_ft mi pc = some (.if_icmp .ge off, 3)) (ho : mj_ok pc off = true) (ht : mj_to pc off = t) : mj_Wp L xs d mi pc ls (.int y :: .int x :: st) h Q ↔ if y ≤ x then mj_Wp L xs d mi t ls st h Q else mj_Wp L xs d mi (pc + 3) ls st h Q := by
  refine mj_w_br (p := y ≤ x) (t := t) hf (fun hp => ?_) (fun hp => ?_)
  · simp only [mj_ex, mj_i2, mj_if, ho, ht, decide_eq_true hp, mj_nx]
    simp
  · simp only [mj_ex, mj_i2, mj_if, ho, decide_eq_false hp, mj_nx]
    simp
theorem mj_w_icmp_gt {off : Int} {t : Nat} {x y : Int32} (hf : mj_ft mi pc = some (.if_icmp .gt off, 3)) (ho : mj_ok pc off = true) (ht : mj_to pc off = t) : mj_Wp L xs d mi pc ls (.int y :: .int x :: st) h Q ↔ if y < x then mj_Wp L xs d mi t ls st h Q else mj_Wp L xs d mi (pc + 3) ls st h Q := by
  refine mj_w_br (p := y < x) (t := t) hf (fun hp => ?_) (fun hp => ?_)
  · simp only [mj_ex, mj_i2, mj_if, ho, ht, decide_eq_true hp, mj_nx]
    simp
  · simp only [mj_ex, mj_i2, mj_if, ho, decide_eq_false hp, mj_nx]
    simp
theorem mj_w_icmp_le {off : Int} {t : Nat} {x y : Int32} (hf : mj_ft mi pc = some (.if_icmp .le off, 3)) (ho : mj_ok pc off = true) (ht : mj_to pc off = t) : mj_Wp L xs d mi pc ls (.int y :: .int x :: st) h Q ↔ if x ≤ y then mj_Wp L xs d mi t ls st h Q else mj_Wp L xs d mi (pc + 3) ls st h Q := by
  refine mj_w_br (p := x ≤ y) (t := t) hf (fun hp => ?_) (fun hp => ?_)
  · simp only [mj_ex, mj_i2, mj_if, ho, ht, decide_eq_true hp, mj_nx]
    simp
  · simp only [mj_ex, mj_i2, mj_if, ho, decide_eq_false hp, mj_nx]
    simp
theorem mj_w_ifnull_r {off : Int} {a : Nat} (hf : mj_ft mi pc = some (.ifnull off, 3)) (ho : mj_ok pc off = true) : mj_Wp L xs d mi pc ls (.ref a :: st) h Q ↔ mj_Wp L xs d mi (pc + 3) ls st h Q := by
  refine mj_W_nx (f := (pc + 3, ls, st, h)) hf ?_
  simp [mj_ex, mj_nul, mj_if, ho, mj_nx]
theorem mj_w_ifnull_n {off : Int} {t : Nat} (hf : mj_ft mi pc = some (.ifnull off, 3)) (ho : mj_ok pc off = true) (ht : mj_to pc off = t) : mj_Wp L xs d mi pc ls (.null :: st) h Q ↔ mj_Wp L xs d mi t ls st h Q := by
  refine mj_W_nx (f := (t, ls, st, h)) hf ?_
  simp [mj_ex, mj_nul, mj_if, ho, ht, mj_nx]
theorem mj_w_ifnonnull_r {off : Int} {t a : Nat} (hf : mj_ft mi pc = some (.ifnonnull off, 3)) (ho : mj_ok pc off = true) (ht : mj_to pc off = t) : mj_Wp L xs d mi pc ls (.ref a :: st) h Q ↔ mj_Wp L xs d mi t ls st h Q := by
  refine mj_W_nx (f := (t, ls, st, h)) hf ?_
  simp [mj_ex, mj_nul, mj_if, ho, ht, mj_nx]
theorem mj_w_ifnonnull_n {off : Int} (hf : mj_ft mi pc = some (.ifnonnull off, 3)) (ho : mj_ok pc off = true) : mj_Wp L xs d mi pc ls (.null :: st) h Q ↔ mj_Wp L xs d mi (pc + 3) ls st h Q := by
  refine mj_W_nx (f := (pc + 3, ls, st, h)) hf ?_
  simp [mj_ex, mj_nul, mj_if, ho, mj_nx]
theorem mj_cl_nI {n : Nat} (h : n ≤ 65536) : (nI n).toNatClampNeg = n := nI_clamp (by omega)
theorem mj_w_nan {n : Nat} {t : ClassFile.ArrayType} {kd : Nat} (hf : mj_ft mi pc = some (.newarray t, 2)) (ht : (t = .int ∧ kd = 100) ∨ (t = .boolean ∧ kd = 101) ∨ (t = .char ∧ kd = 102)) (hn : n ≤ 65536) : mj_Wp L xs d mi pc ls (.int (nI n) :: st) h Q ↔ mj_Wp L xs d mi (pc + 2) ls (.ref (mj_z h) :: st) (mj_nw h kd n) Q := by
  have h1 := mj_w_na (L := L) (xs := xs) (d := d) (ls := ls) (st := st) (h := h) (Q := Q) (k := nI n) hf ht (nI_pos (by omega)) (by rw [mj_cl_nI hn]; exact hn)
  rw [mj_cl_nI hn] at h1
  exact h1
theorem mj_w_naq {n idx kd : Nat} (hf : mj_ft mi pc = some (.anewarray idx, 3)) (hg : mj_get mt_NA (mt_on mi) idx = some kd) (hn : n ≤ 65536) : mj_Wp L xs d mi pc ls (.int (nI n) :: st) h Q ↔ mj_Wp L xs d mi (pc + 3) ls (.ref (mj_z h) :: st) (mj_nw h kd n) Q := by
  refine mj_W_nx (f := (pc + 3, ls, .ref (mj_z h) :: st, mj_nw h kd n)) hf ?_
  have h0 : ¬ nI n < 0 := nI_pos (by omega)
  simp only [mj_ex, hg, mj_na, mj_cl_nI hn, h0, hn, mj_nx]
  simp
theorem mj_w_new {idx ci N : Nat} (hf : mj_ft mi pc = some (.new idx, 3)) (hg : mj_get mt_N (mt_on mi) idx = some ci) (hN : (mt_cf ci).length = N) : mj_Wp L xs d mi pc ls st h Q ↔ mj_Wp L xs d mi (pc + 3) ls (.ref (mj_z h) :: st) (mj_nw h ci N) Q := by
  refine mj_W_nx (f := (pc + 3, ls, .ref (mj_z h) :: st, mj_nw h ci N)) hf ?_
  subst hN
  simp only [mj_ex, mj_new, hg, mj_nx]
  simp
theorem mj_w_obj {idx a : Nat} (hf : mj_ft mi pc = some (.invokespecial idx, 3)) (hg : mj_get mt_MI (mt_on mi) idx = some 9999) (hs : st.length ≤ 8) : mj_Wp L xs d mi pc ls (.ref a :: st) h Q ↔ mj_Wp L xs d mi (pc + 3) ls st h Q := by
  refine mj_W_nx (f := (pc + 3, ls, st, h)) hf ?_
  simp only [mj_ex, mj_ivp, hg, mj_nx, hs]
  simp
theorem mj_w_call {i : ClassFile.Instr} {mj : Nat} {as rest : List Value} {lo : List (Option Value)} (hf : mj_ft mi pc = some (i, 3)) (he : mj_ex L xs mi pc ls st h i 3 = mj_call pc 3 mj as rest) (h1 : rest.length ≤ 8) (h2 : rest.all mj_c1 = true) (h3 : as.all mj_c1 = true) (h4 : as.length = mt_n mj) (hl : mj_ent mj as = lo) : mj_Wp L xs (d + 1) mi pc ls st h Q ↔ mj_Wp L xs d mj 0 lo [] h (fun r => mj_Wp L xs (d + 1) mi (pc + 3) ls (r.1.toList ++ rest) r.2 Q) := by
  subst hl
  refine mj_W_cl (q := (mj, as, pc + 3, rest)) hf ?_
  rw [he]
  simp [mj_call, h1, h2, h3, h4]
theorem mj_w_cv {idx mj ci N a k : Nat} {rows : List (Nat × Nat)} {as rest : List Value} {lo : List (Option Value)} (hf : mj_ft mi pc = some (.invokevirtual idx, 3)) (hg : mj_get mt_MV (mt_on mi) idx = some (k, rows)) (hr : rows.find? (fun q => q.1 == ci) = some (ci, mj)) (hst : (st.take k).reverse = .ref a :: as) (hre : st.drop k = rest) (H : mj_is h a ci N) (h1 : rest.length ≤ 8) (h2 : rest.all mj_c1 = true) (h3 : (Value.ref a :: as).all mj_c1 = true) (h4 : (Value.ref a :: as).length = mt_n mj) (hl : mj_ent mj (.ref a :: as) = lo) : mj_Wp L xs (d + 1) mi pc ls st h Q ↔ mj_Wp L xs d mj 0 lo [] h (fun r => mj_Wp L xs (d + 1) mi (pc + 3) ls (r.1.toList ++ rest) r.2 Q) := by
  refine mj_w_call (as := .ref a :: as) hf ?_ h1 h2 h3 h4 hl
  simp only [mj_ex, mj_ivv, hg, hst, H.1, H.2, hr, hre]
  simp
theorem mj_w_slen (hf : mj_ft mi pc = some (.arraylength, 1)) : mj_Wp L xs d mi pc ls (.retAddr 0 :: st) h Q ↔ mj_Wp L xs d mi (pc + 1) ls (.int (nI L) :: st) h Q := by
  refine mj_W_nx (f := (pc + 1, ls, .int (nI L) :: st, h)) hf ?_
  simp [mj_ex, mj_len, mj_nx, nI]
theorem mj_w_sld {i : Int32} (hf : mj_ft mi pc = some (.iaload, 1)) (hi : mj_in i L = true) : mj_Wp L xs d mi pc ls (.int i :: .retAddr 0 :: st) h Q ↔ mj_Wp L xs d mi (pc + 1) ls (.int (xs i.toNatClampNeg) :: st) h Q := by
  refine mj_W_nx (f := (pc + 1, ls, .int (xs i.toNatClampNeg) :: st, h)) hf ?_
  simp [mj_ex, mj_ial, mj_nx, hi]
end Wp3
