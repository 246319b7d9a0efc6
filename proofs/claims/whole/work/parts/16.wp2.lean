/-! One row a kind of instruction: what it does to a weakest precondition. -/
def mj_is (h : MH) (a kd n : Nat) : Prop := a < mj_z h ∧ mj_m h a = (kd, n)
def mj_ik (h : MH) (a kd : Nat) : Prop := a < mj_z h ∧ (mj_m h a).1 = kd
def mj_ln (h : MH) (a : Nat) : Nat := (mj_m h a).2
theorem mj_ik_is {h : MH} {a kd : Nat} (H : mj_ik h a kd) : mj_is h a kd (mj_ln h a) := ⟨H.1, by rw [← H.2]; rfl⟩
section Wp2
variable {L : Nat} {xs : Nat → Int32} {d mi pc : Nat} {ls : List (Option Value)} {st : List Value} {h : MH} {Q : Option Value × MH → Prop}
theorem mj_w_gi {idx a ci k N : Nat} (hf : mj_ft mi pc = some (.getfield idx, 3)) (hg : mj_get mt_F (mt_on mi) idx = some (ci, k)) (hr : mj_fr ci k = false) (hn : (mt_cf ci).length = N) (hk : k < N) (H : mj_is h a ci N) : mj_Wp L xs d mi pc ls (.ref a :: st) h Q ↔ mj_Wp L xs d mi (pc + 3) ls (.int (mj_i h a k) :: st) h Q := by
  refine mj_W_nx (f := (pc + 3, ls, .int (mj_i h a k) :: st, h)) hf ?_
  subst hn
  simp only [mj_ex, mj_gf, hg, H.1, H.2, hk, mj_nx, mj_rd, hr]
  simp
theorem mj_w_gr {idx a ci k N : Nat} (hf : mj_ft mi pc = some (.getfield idx, 3)) (hg : mj_get mt_F (mt_on mi) idx = some (ci, k)) (hr : mj_fr ci k = true) (hn : (mt_cf ci).length = N) (hk : k < N) (H : mj_is h a ci N) : mj_Wp L xs d mi pc ls (.ref a :: st) h Q ↔ mj_Wp L xs d mi (pc + 3) ls (mj_rv (mj_r h a k) :: st) h Q := by
  refine mj_W_nx (f := (pc + 3, ls, mj_rv (mj_r h a k) :: st, h)) hf ?_
  subst hn
  simp only [mj_ex, mj_gf, hg, H.1, H.2, hk, mj_nx, mj_rd, hr]
  simp
theorem mj_w_pi {idx a ci k N : Nat} {b : Bool} {x : Int32} (hf : mj_ft mi pc = some (.putfield idx, 3)) (hg : mj_get mt_P (mt_on mi) idx = some (ci, k, b)) (hb : (!b || (mt_y mi).name == "<init>") = true) (hr : mj_fr ci k = false) (hn : (mt_cf ci).length = N) (hk : k < N) (H : mj_is h a ci N) (hx : mj_fit ((mt_cf ci).getD k .int) x = true) : mj_Wp L xs d mi pc ls (.int x :: .ref a :: st) h Q ↔ mj_Wp L xs d mi (pc + 3) ls st (mj_wi h a k x) Q := by
  refine mj_W_nx (f := (pc + 3, ls, st, mj_wi h a k x)) hf ?_
  subst hn
  simp only [mj_ex, mj_pf, hg, hb, H.1, H.2, hk, mj_nx, hr, hx]
  simp
theorem mj_w_pr {idx a ci k N c : Nat} {b : Bool} (hf : mj_ft mi pc = some (.putfield idx, 3)) (hg : mj_get mt_P (mt_on mi) idx = some (ci, k, b)) (hb : (!b || (mt_y mi).name == "<init>") = true) (hr : mj_fr ci k = true) (hn : (mt_cf ci).length = N) (hk : k < N) (H : mj_is h a ci N) : mj_Wp L xs d mi pc ls (.ref c :: .ref a :: st) h Q ↔ mj_Wp L xs d mi (pc + 3) ls st (mj_wr h a k (some c)) Q := by
  refine mj_W_nx (f := (pc + 3, ls, st, mj_wr h a k (some c))) hf ?_
  subst hn
  simp only [mj_ex, mj_pf, hg, hb, H.1, H.2, hk, mj_nx, hr]
  simp
theorem mj_w_pn {idx a ci k N : Nat} {b : Bool} (hf : mj_ft mi pc = some (.putfield idx, 3)) (hg : mj_get mt_P (mt_on mi) idx = some (ci, k, b)) (hb : (!b || (mt_y mi).name == "<init>") = true) (hr : mj_fr ci k = true) (hn : (mt_cf ci).length = N) (hk : k < N) (H : mj_is h a ci N) : mj_Wp L xs d mi pc ls (.null :: .ref a :: st) h Q ↔ mj_Wp L xs d mi (pc + 3) ls st (mj_wr h a k none) Q := by
  refine mj_W_nx (f := (pc + 3, ls, st, mj_wr h a k none)) hf ?_
  subst hn
  simp only [mj_ex, mj_pf, hg, hb, H.1, H.2, hk, mj_nx, hr]
  simp
theorem mj_kd_is {a kd n : Nat} {i : Int32} (H : mj_is h a kd n) (hi : mj_in i n = true) : mj_kd h a kd i = true := by
  simp [mj_kd, H.1, H.2, hi]
theorem mj_w_iaload {a n : Nat} {i : Int32} (hf : mj_ft mi pc = some (.iaload, 1)) (H : mj_is h a 100 n) (hi : mj_in i n = true) : mj_Wp L xs d mi pc ls (.int i :: .ref a :: st) h Q ↔ mj_Wp L xs d mi (pc + 1) ls (.int (mj_i h a i.toNatClampNeg) :: st) h Q := by
  refine mj_W_nx (f := (pc + 1, ls, .int (mj_i h a i.toNatClampNeg) :: st, h)) hf ?_
  simp only [mj_ex, mj_ial, mj_ald, mj_kd_is H hi, mj_nx]
  simp
theorem mj_w_baload {a n : Nat} {i : Int32} (hf : mj_ft mi pc = some (.baload, 1)) (H : mj_is h a 101 n) (hi : mj_in i n = true) : mj_Wp L xs d mi pc ls (.int i :: .ref a :: st) h Q ↔ mj_Wp L xs d mi (pc + 1) ls (.int (mj_i h a i.toNatClampNeg) :: st) h Q := by
  refine mj_W_nx (f := (pc + 1, ls, .int (mj_i h a i.toNatClampNeg) :: st, h)) hf ?_
  simp only [mj_ex, mj_bal, mj_ald, mj_kd_is H hi, mj_nx]
  simp
theorem mj_w_caload {a n : Nat} {i : Int32} (hf : mj_ft mi pc = some (.caload, 1)) (H : mj_is h a 102 n) (hi : mj_in i n = true) : mj_Wp L xs d mi pc ls (.int i :: .ref a :: st) h Q ↔ mj_Wp L xs d mi (pc + 1) ls (.int (mj_i h a i.toNatClampNeg) :: st) h Q := by
  refine mj_W_nx (f := (pc + 1, ls, .int (mj_i h a i.toNatClampNeg) :: st, h)) hf ?_
  simp only [mj_ex, mj_ald, mj_kd_is H hi, mj_nx]
  simp
theorem mj_w_iastore {a n : Nat} {i x : Int32} (hf : mj_ft mi pc = some (.iastore, 1)) (H : mj_is h a 100 n) (hi : mj_in i n = true) : mj_Wp L xs d mi pc ls (.int x :: .int i :: .ref a :: st) h Q ↔ mj_Wp L xs d mi (pc + 1) ls st (mj_wi h a i.toNatClampNeg x) Q := by
  refine mj_W_nx (f := (pc + 1, ls, st, mj_wi h a i.toNatClampNeg x)) hf ?_
  simp only [mj_ex, mj_ast, mj_kd_is H hi, mj_nx]
  simp
theorem mj_w_bastore {a n : Nat} {i x : Int32} (hf : mj_ft mi pc = some (.bastore, 1)) (H : mj_is h a 101 n) (hi : mj_in i n = true) : mj_Wp L xs d mi pc ls (.int x :: .int i :: .ref a :: st) h Q ↔ mj_Wp L xs d mi (pc + 1) ls st (mj_wi h a i.toNatClampNeg (vp_nar .boolean x)) Q := by
  refine mj_W_nx (f := (pc + 1, ls, st, mj_wi h a i.toNatClampNeg (vp_nar .boolean x))) hf ?_
  simp only [mj_ex, mj_ast, mj_kd_is H hi, mj_nx]
  simp
theorem mj_w_castore {a n : Nat} {i x : Int32} (hf : mj_ft mi pc = some (.castore, 1)) (H : mj_is h a 102 n) (hi : mj_in i n = true) : mj_Wp L xs d mi pc ls (.int x :: .int i :: .ref a :: st) h Q ↔ mj_Wp L xs d mi (pc + 1) ls st (mj_wi h a i.toNatClampNeg (vp_nar .char x)) Q := by
  refine mj_W_nx (f := (pc + 1, ls, st, mj_wi h a i.toNatClampNeg (vp_nar .char x))) hf ?_
  simp only [mj_ex, mj_ast, mj_kd_is H hi, mj_nx]
  simp
theorem mj_w_aaload {a n kd : Nat} {i : Int32} (hf : mj_ft mi pc = some (.aaload, 1)) (H : mj_is h a kd n) (hkd : kd = 200 ∨ kd = 201) (hi : mj_in i n = true) : mj_Wp L xs d mi pc ls (.int i :: .ref a :: st) h Q ↔ mj_Wp L xs d mi (pc + 1) ls (mj_rv (mj_r h a i.toNatClampNeg) :: st) h Q := by
  refine mj_W_nx (f := (pc + 1, ls, mj_rv (mj_r h a i.toNatClampNeg) :: st, h)) hf ?_
  have hk : (mj_kd h a 200 i || mj_kd h a 201 i) = true := by
    rcases hkd with rfl | rfl
    · simp [mj_kd_is H hi]
    · simp [mj_kd_is H hi]
  simp only [mj_ex, mj_aal, hk, mj_nx]
  simp
theorem mj_w_aastore {a b n kd ci N : Nat} {i : Int32} (hf : mj_ft mi pc = some (.aastore, 1)) (H : mj_is h a kd n) (Hb : mj_is h b ci N) (hs : mt_sub.any (fun q => q.1 == ci && q.2 == kd) = true) (hi : mj_in i n = true) : mj_Wp L xs d mi pc ls (.ref b :: .int i :: .ref a :: st) h Q ↔ mj_Wp L xs d mi (pc + 1) ls st (mj_wr h a i.toNatClampNeg (some b)) Q := by
  refine mj_W_nx (f := (pc + 1, ls, st, mj_wr h a i.toNatClampNeg (some b))) hf ?_
  have hk := mj_kd_is H hi
  simp only [mj_ex, mj_aas, Hb.1, Hb.2, H.2, hk, hs, mj_nx]
  simp
theorem mj_w_alen {a n kd : Nat} (hf : mj_ft mi pc = some (.arraylength, 1)) (H : mj_is h a kd n) (h1 : 100 ≤ kd) (ht : mt_ty.any (fun q => q.1 == kd) = true) : mj_Wp L xs d mi pc ls (.ref a :: st) h Q ↔ mj_Wp L xs d mi (pc + 1) ls (.int (nI n) :: st) h Q := by
  refine mj_W_nx (f := (pc + 1, ls, .int (nI n) :: st, h)) hf ?_
  simp only [mj_ex, mj_len, H.1, H.2, h1, ht, mj_nx, nI]
  simp
theorem mj_w_na {k : Int32} {t : ClassFile.ArrayType} {kd : Nat} (hf : mj_ft mi pc = some (.newarray t, 2)) (ht : (t = .int ∧ kd = 100) ∨ (t = .boolean ∧ kd = 101) ∨ (t = .char ∧ kd = 102)) (h0 : ¬ k < 0) (h1 : k.toNatClampNeg ≤ 65536) : mj_Wp L xs d mi pc ls (.int k :: st) h Q ↔ mj_Wp L xs d mi (pc + 2) ls (.ref (mj_z h) :: st) (mj_nw h kd k.toNatClampNeg) Q := by
  refine mj_W_nx (f := (pc + 2, ls, .ref (mj_z h) :: st, mj_nw h kd k.toNatClampNeg)) hf ?_
  rcases ht with ⟨rfl, rfl⟩ | ⟨rfl, rfl⟩ | ⟨rfl, rfl⟩ <;> simp only [mj_ex, mj_na, h0, h1, mj_nx] <;> simp
theorem mj_w_div {x y : Int32} (hf : mj_ft mi pc = some (.idiv, 1)) (hy : ¬ y = 0) : mj_Wp L xs d mi pc ls (.int y :: .int x :: st) h Q ↔ mj_Wp L xs d mi (pc + 1) ls (.int (x / y) :: st) h Q := by
  refine mj_W_nx (f := (pc + 1, ls, .int (x / y) :: st, h)) hf ?_
  simp [mj_ex, mj_bi, hy, mj_nx]
theorem mj_w_rem {x y : Int32} (hf : mj_ft mi pc = some (.irem, 1)) (hy : ¬ y = 0) : mj_Wp L xs d mi pc ls (.int y :: .int x :: st) h Q ↔ mj_Wp L xs d mi (pc + 1) ls (.int (x - x / y * y) :: st) h Q := by
  refine mj_W_nx (f := (pc + 1, ls, .int (x - x / y * y) :: st, h)) hf ?_
  simp [mj_ex, mj_bi, hy, mj_nx]
theorem mj_w_br {p : Prop} {hdp : Decidable p} {i : ClassFile.Instr} {t : Nat} {ls' : List (Option Value)} {st' : List Value} (hf : mj_ft mi pc = some (i, 3)) (h1 : p → mj_ex L xs mi pc ls st h i 3 = some (.inl (t, ls', st', h))) (h2 : ¬ p → mj_ex L xs mi pc ls st h i 3 = some (.inl (pc + 3, ls', st', h))) : mj_Wp L xs d mi pc ls st h Q ↔ @ite Prop p hdp (mj_Wp L xs d mi t ls' st' h Q) (mj_Wp L xs d mi (pc + 3) ls' st' h Q) := by
  by_cases hp : p
  · rw [if_pos hp]
    exact mj_W_nx hf (h1 hp)
  · rw [if_neg hp]
    exact mj_W_nx hf (h2 hp)
theorem mj_w_ir {x : Int32} {ty : FieldType} (hf : mj_ft mi pc = some (.ireturn, 1)) (hr : mt_ret mi = some ty) (hR : mj_isR ty = false) (hx : mj_fit ty x = true) : mj_Wp L xs d mi pc ls [.int x] h Q ↔ Q (some (.int x), h) := by
  refine mj_W_rt hf ?_
  simp only [mj_ex, mj_ir, hr, hR, hx]
  simp
end Wp2
