/-! The small machine's steps that make cells, calls and returns. -/
theorem mj_fresh {g : mj_G} {h : MH} {H H1 : Heap} {q : Nat} {E : va_E} (hH : mj_Hp g h H) (hle : H1.size ≤ H.size + 1) (hP : va_P g.2.1 mt_cl (mj_ws g h ++ [(q, E)]) H1) (hD : va_D (mj_A g) (mj_ws g h ++ [(q, E)])) : q = g.1 + mj_z h := by
  have hlen : (mj_ws g h).length = mj_z h := by simp [mj_ws]
  have hq : (mj_ws g h ++ [(q, E)])[mj_z h]? = some (q, E) := by
    rw [List.getElem?_append_right (by omega), hlen, Nat.sub_self]
    rfl
  have h1 := (hP _ _ hq).lt
  have h2 : g.1 ≤ q := hD.2 _ _ hq
  have h3 := hH.1
  by_cases hlt : q < g.1 + mj_z h
  · exfalso
    have ha : q - g.1 < mj_z h := by omega
    have h4 : (mj_ws g h ++ [(q, E)])[q - g.1]? = some (g.1 + (q - g.1), mj_e g h (q - g.1)) := by
      rw [List.getElem?_append_left (by omega)]
      exact mj_ws_at ha
    have h5 := hD.1 _ _ _ _ h4 hq (by show g.1 + (q - g.1) = q; omega)
    omega
  · dsimp only at h1
    omega
theorem mj_Hp_nw {g : mj_G} {h : MH} {H H1 : Heap} {kd n : Nat} (hH : mj_Hp g h H) (hsz : H1.size = H.size + 1) (hP : va_P g.2.1 mt_cl (mj_ws g h ++ [(g.1 + mj_z h, mj_e g (mj_nw h kd n) (mj_z h))]) H1) : mj_Hp g (mj_nw h kd n) H1 := by
  refine ⟨by rw [hsz, hH.1, mj_nw_z]; omega, ?_⟩
  rw [mj_ws_nw (h := h) mj_nw_z (fun i hi => mj_e_nw hi)]
  exact hP
section Steps3
variable {g : mj_G} {l : Launch} {d mi pc : Nat} {ls : List (Option Value)} {st : List Value} {h : MH} {r : Option Value × MH}
theorem mj_alloc {kd n len : Nat} {p : Program} {e : Env} {R : Room} {s : State} {m : MethodId} {args : Array Value} {below : List Frame} {meth : Method} {c : Code} {H : Heap} {locs : List Loc} {cells slots mc ms : Nat} {rl : Array Slot} {q : Nat} {H1 : Heap} {E : va_E}
    (X : mj_Cx g d mi p R s m args meth c) (hH : mj_Hp g h H) (hL : mj_Lo g (mt_L mi) ls rl) (hS : va_S (mj_A g) s.heap H locs) (hE : s.heap.size + cells = H.size) (hc : cells + mj_z r.2 ≤ mc + mj_z h) (hs : slots + mj_u r.2 ≤ ms + mj_u h) (h1 : mc ≤ R.cells) (h2 : ms ≤ R.slots)
    (hP1 : va_P g.2.1 mt_cl (mj_ws g h ++ [(q, E)]) H1) (hD1 : va_D (mj_A g) (mj_ws g h ++ [(q, E)])) (hS1 : va_S (mj_A g) H H1 locs) (he : mj_e g (mj_nw h kd n) (mj_z h) = E)
    (K : mj_Sim g l d mi (pc + len) ls (.ref (mj_z h) :: st) (mj_nw h kd n) r) : W p l e R s m args below meth c H1 locs (cells + 1) (slots + n) (MQ below (mj_Q g r) args s mc ms (mj_A g)) (F0 m (pc + len) rl (.ref q :: st.map (mj_v g))) := by
  refine mj_size (N := H.size + 1) (by omega) fun hle => ?_
  have hq := mj_fresh hH hle hP1 hD1
  subst hq
  have hlt : g.1 + mj_z h < H1.size := by
    have hlen : (mj_ws g h).length = mj_z h := by simp [mj_ws]
    exact (hP1 (mj_z h) (g.1 + mj_z h, E) (by rw [List.getElem?_append_right (by omega), hlen, Nat.sub_self]; rfl)).lt
  have hsz : H1.size = H.size + 1 := by have := hH.1; omega
  rw [← he] at hP1
  exact K p e R s m args below meth c H1 locs (cells + 1) (slots + n) mc ms rl X (mj_Hp_nw hH hsz hP1) hL (mj_S_tr hS hS1) (by rw [hsz]; omega) (by rw [mj_nw_z]; omega) (by rw [mj_nw_u]; omega) h1 h2
theorem mj_hA {p : Program} {R : Room} {s : State} {m : MethodId} {args : Array Value} {meth : Method} {c : Code} {H : Heap} {locs : List Loc} (X : mj_Cx g d mi p R s m args meth c) (hS : va_S (mj_A g) s.heap H locs) : ∀ q, H.size ≤ q → mj_A g q := fun q hq => Nat.le_trans X.2.2.2.2.2.2.2.2.2.1 (Nat.le_trans hS.1 hq)
theorem mj_g_na_int {k : Int32} (hd : decode (mt_b mi) pc = .ok (.newarray .int, 2)) (hk : ¬ k < 0) (hk2 : k.toNatClampNeg ≤ 65536) (hz : mj_z h + 1 ≤ mj_z r.2) (hu : mj_u h + k.toNatClampNeg ≤ mj_u r.2) (K : mj_Sim g l d mi (pc + 2) ls (.ref (mj_z h) :: st) (mj_nw h 100 k.toNatClampNeg) r) : mj_Sim g l d mi pc ls (.int k :: st) h r := by
  intro p e R s m args below meth c H locs cells slots mc ms rl X hH hL hS hE hc hs h1 h2
  have hcb : componentBytes .int ≤ 8 := by decide
  refine va_newa (atype := .int) (ty := .int) (N' := k.toNatClampNeg) (a0 := (k.toNatClampNeg, .inl (fun _ => 0))) X.1 X.2.1 (X.2.2.2.2.2.2.2.1 _ mt_arr0) rfl X.2.2.2.2.2.2.2.2.1.1 hH.2 mj_ws_D (mj_S_self hS) (mj_hA X hS) (fun cA => rfl) hk rfl (Nat.le_trans (Nat.mul_le_mul hk2 hcb) (by decide)) (by omega) (by omega) hd fun q cA H1 hK1 hP1 hD1 hS1 => ?_
  have hcA : cA = g.2.2.1 100 := by
    have e1 : va_RA s cA .int := (hK1.2 (mj_tys g).length (cA, .int) (by rw [List.getElem?_append_right (Nat.le_refl _), Nat.sub_self]; rfl)).2
    have e2 : va_RA s (g.2.2.1 100) .int := (X.2.2.2.2.2.2.2.2.1.1.2 0 _ (mj_tys_at mt_ty0)).2
    exact Option.some.inj (Eq.trans (Eq.symm e1) e2)
  subst hcA
  exact mj_alloc X hH hL hS hE hc hs h1 h2 hP1 hD1 hS1 (by rw [mj_e_int mj_nw_m (by omega) (by omega), mj_nw_i]) K
theorem mj_g_na_boolean {k : Int32} (hd : decode (mt_b mi) pc = .ok (.newarray .boolean, 2)) (hk : ¬ k < 0) (hk2 : k.toNatClampNeg ≤ 65536) (hz : mj_z h + 1 ≤ mj_z r.2) (hu : mj_u h + k.toNatClampNeg ≤ mj_u r.2) (K : mj_Sim g l d mi (pc + 2) ls (.ref (mj_z h) :: st) (mj_nw h 101 k.toNatClampNeg) r) : mj_Sim g l d mi pc ls (.int k :: st) h r := by
  intro p e R s m args below meth c H locs cells slots mc ms rl X hH hL hS hE hc hs h1 h2
  have hcb : componentBytes .boolean ≤ 8 := by decide
  refine va_newa (atype := .boolean) (ty := .boolean) (N' := k.toNatClampNeg) (a0 := (k.toNatClampNeg, .inl (fun _ => 0))) X.1 X.2.1 (X.2.2.2.2.2.2.2.1 _ mt_arr1) rfl X.2.2.2.2.2.2.2.2.1.1 hH.2 mj_ws_D (mj_S_self hS) (mj_hA X hS) (fun cA => rfl) hk rfl (Nat.le_trans (Nat.mul_le_mul hk2 hcb) (by decide)) (by omega) (by omega) hd fun q cA H1 hK1 hP1 hD1 hS1 => ?_
  have hcA : cA = g.2.2.1 101 := by
    have e1 : va_RA s cA .boolean := (hK1.2 (mj_tys g).length (cA, .boolean) (by rw [List.getElem?_append_right (Nat.le_refl _), Nat.sub_self]; rfl)).2
    have e2 : va_RA s (g.2.2.1 101) .boolean := (X.2.2.2.2.2.2.2.2.1.1.2 1 _ (mj_tys_at mt_ty1)).2
    exact Option.some.inj (Eq.trans (Eq.symm e1) e2)
  subst hcA
  exact mj_alloc X hH hL hS hE hc hs h1 h2 hP1 hD1 hS1 (by rw [mj_e_int mj_nw_m (by omega) (by omega), mj_nw_i]) K
theorem mj_g_na_char {k : Int32} (hd : decode (mt_b mi) pc = .ok (.newarray .char, 2)) (hk : ¬ k < 0) (hk2 : k.toNatClampNeg ≤ 65536) (hz : mj_z h + 1 ≤ mj_z r.2) (hu : mj_u h + k.toNatClampNeg ≤ mj_u r.2) (K : mj_Sim g l d mi (pc + 2) ls (.ref (mj_z h) :: st) (mj_nw h 102 k.toNatClampNeg) r) : mj_Sim g l d mi pc ls (.int k :: st) h r := by
  intro p e R s m args below meth c H locs cells slots mc ms rl X hH hL hS hE hc hs h1 h2
  have hcb : componentBytes .char ≤ 8 := by decide
  refine va_newa (atype := .char) (ty := .char) (N' := k.toNatClampNeg) (a0 := (k.toNatClampNeg, .inl (fun _ => 0))) X.1 X.2.1 (X.2.2.2.2.2.2.2.1 _ mt_arr2) rfl X.2.2.2.2.2.2.2.2.1.1 hH.2 mj_ws_D (mj_S_self hS) (mj_hA X hS) (fun cA => rfl) hk rfl (Nat.le_trans (Nat.mul_le_mul hk2 hcb) (by decide)) (by omega) (by omega) hd fun q cA H1 hK1 hP1 hD1 hS1 => ?_
  have hcA : cA = g.2.2.1 102 := by
    have e1 : va_RA s cA .char := (hK1.2 (mj_tys g).length (cA, .char) (by rw [List.getElem?_append_right (Nat.le_refl _), Nat.sub_self]; rfl)).2
    have e2 : va_RA s (g.2.2.1 102) .char := (X.2.2.2.2.2.2.2.2.1.1.2 2 _ (mj_tys_at mt_ty2)).2
    exact Option.some.inj (Eq.trans (Eq.symm e1) e2)
  subst hcA
  exact mj_alloc X hH hL hS hE hc hs h1 h2 hP1 hD1 hS1 (by rw [mj_e_int mj_nw_m (by omega) (by omega), mj_nw_i]) K
theorem mj_g_naq {idx t kd : Nat} {k : Int32} {C : String} (hd : decode (mt_b mi) pc = .ok (.anewarray idx, 3)) (ht : mt_ty[t]? = some (kd, .object C)) (h2k : 200 ≤ kd) (hl : Cond.classLink (mt_y mi).cls idx C ∈ mt_TB) (hao : C ∈ mt_AO) (hk : ¬ k < 0) (hk2 : k.toNatClampNeg ≤ 65536) (hz : mj_z h + 1 ≤ mj_z r.2) (hu : mj_u h + k.toNatClampNeg ≤ mj_u r.2) (K : mj_Sim g l d mi (pc + 3) ls (.ref (mj_z h) :: st) (mj_nw h kd k.toNatClampNeg) r) : mj_Sim g l d mi pc ls (.int k :: st) h r := by
  intro p e R s m args below meth c H locs cells slots mc ms rl X hH hL hS hE hc hs h1 h2
  refine va_newq X.1 X.2.1 X.2.2.2.2.2.1 (X.2.2.2.2.2.2.2.1 _ hl) (X.2.2.2.2.2.2.2.2.1.2.2.2.2.2.2.2 _ hao) X.2.2.2.2.2.2.2.2.1.1 hH.2 mj_ws_D (mj_S_self hS) (mj_hA X hS) hk rfl (by omega) (by omega) (by omega) hd fun q cA H1 hK1 hP1 hD1 hS1 => ?_
  have hcA : cA = g.2.2.1 kd := by
    have e1 : va_RA s cA (.object C) := (hK1.2 (mj_tys g).length (cA, .object C) (by rw [List.getElem?_append_right (Nat.le_refl _), Nat.sub_self]; rfl)).2
    have e2 : va_RA s (g.2.2.1 kd) (.object C) := (X.2.2.2.2.2.2.2.2.1.1.2 t _ (mj_tys_at ht)).2
    obtain ⟨_, _, -, -, -, e3⟩ := e1
    obtain ⟨_, _, -, -, -, e4⟩ := e2
    exact Option.some.inj (Eq.trans (Eq.symm e3) e4)
  subst hcA
  exact mj_alloc X hH hL hS hE hc hs h1 h2 hP1 hD1 hS1 (by rw [mj_e_ref mj_nw_m h2k, mj_nw_r]; rfl) K
theorem mj_g_new {idx ci : Nat} (hd : decode (mt_b mi) pc = .ok (.new idx, 3)) (hg : mj_get mt_N (mt_on mi) idx = some ci) (hz : mj_z h + 1 ≤ mj_z r.2) (hu : mj_u h + (mt_cf ci).length ≤ mj_u r.2) (K : mj_Sim g l d mi (pc + 3) ls (.ref (mj_z h) :: st) (mj_nw h ci (mt_cf ci).length) r) : mj_Sim g l d mi pc ls st h r := by
  intro p e R s m args below meth c H locs cells slots mc ms rl X hH hL hS hE hc hs h1 h2
  obtain ⟨rc, e1, l1, l2, l3⟩ := mt_ok_N _ _ _ hg
  obtain ⟨f0, f1, f2, f3, f4, f5⟩ := mt_ok_cl _ _ e1
  obtain ⟨C, T, N⟩ := rc
  dsimp only at f1 f2 f3 f4 f5 l1 l2 l3
  subst f1
  rw [mt_ok_on] at l1
  refine va_new (D := g.2.1) (ci := ci) (C := C) (T := T) (N := (mt_cf ci).length) (fs := mj_fs g (mj_nw h ci (mt_cf ci).length) ci (mt_cf ci).length (mj_z h)) X.1 X.2.1 X.2.2.2.2.2.2.2.1 f4 (fun k => (mt_cf ci).getD k .int) f2 X.2.2.2.2.2.1 (X.2.2.2.2.2.2.2.1 _ l1) (X.2.2.2.2.2.2.2.1 _ l2) (X.2.2.2.2.2.2.2.1 _ l3) X.2.2.2.2.2.2.2.2.1.1 hH.2 mj_ws_D (mj_S_self hS) (mj_hA X hS) e1 (fun j hj => ?_) (by omega) (by omega) hd fun q H1 hP1 hD1 hS1 => ?_
  · rw [f5 j hj]
    simp only [vp_V, List.getD, mj_fs_at hj, Option.getD_some, mj_rd, mj_nw_r, mj_nw_i]
    cases mj_fr ci j <;> rfl
  · exact mj_alloc X hH hL hS hE hc hs h1 h2 hP1 hD1 hS1 (by rw [mj_e_obj mj_nw_m f0]) K
theorem mj_sumcat : ∀ (l : List Value), (∀ v ∈ l, v.category ≤ 2) → (l.map fun v => v.category).sum ≤ 2 * l.length
  | [], _ => by simp
  | v :: l, hv => by
    have h1 := hv v List.mem_cons_self
    have h2 := mj_sumcat l (fun w hw => hv w (List.mem_cons_of_mem _ hw))
    simp only [List.map_cons, List.sum_cons, List.length_cons]
    omega
theorem mj_cat2 (v : Value) : v.category ≤ 2 := by cases v <;> simp [Value.category]
theorem mj_g_copy {idx a0 a1 t kd : Nat} {k dp sp : Int32} {ty : FieldType} (hd : decode (mt_b mi) pc = .ok (.invokestatic idx, 3)) (hl : Cond.methodLink (mt_y mi).cls idx arraycopyName ∈ mt_TB) (hw : Cond.native arraycopyName ∈ mt_TB ∧ Cond.static arraycopyName ∈ mt_TB ∧ Cond.initialized "java/lang/System" ∈ mt_TB) (ht : mt_ty[t]? = some (kd, ty)) (hp : refKind ty = false) (h1k : 100 ≤ kd) (h2k : kd < 200)
    (hst : st.length ≤ 8) (ha0 : a0 < mj_z h) (ha1 : a1 < mj_z h) (hm0 : mj_m h a0 = (kd, (mj_m h a0).2)) (hm1 : mj_m h a1 = (kd, (mj_m h a1).2)) (q1 : ¬ sp < 0) (q2 : ¬ dp < 0) (q3 : ¬ k < 0) (q4 : sp.toNatClampNeg + k.toNatClampNeg ≤ (mj_m h a0).2) (q5 : dp.toNatClampNeg + k.toNatClampNeg ≤ (mj_m h a1).2)
    (hfit : ∀ i, i < k.toNatClampNeg → fits ty (.int (mj_i h a0 (sp.toNatClampNeg + i))) = true)
    (K : mj_Sim g l d mi (pc + 3) ls st (mj_wa h a1 (va_cpy (mj_i h a0) (mj_i h a1) sp.toNatClampNeg dp.toNatClampNeg k.toNatClampNeg)) r) : mj_Sim g l d mi pc ls (.int k :: .int dp :: .ref a1 :: .int sp :: .ref a0 :: st) h r := by
  intro p e R s m args below meth c H locs cells slots mc ms rl X hH hL hS hE hc hs h1 h2
  have hsum := mj_sumcat (st.map (mj_v g)) (fun v _ => mj_cat2 v)
  rw [List.length_map] at hsum
  have hR := X.2.2.2.2.2.2.2.2.2.2
  have hnf : nativeFrameWords "java/lang/System" "arraycopy" 5 = 7 := by decide
  refine va_copyi X.1 X.2.1 (by rw [X.2.2.1]; exact hL.1.symm) X.2.2.2.2.2.1 (X.2.2.2.2.2.2.2.1 _ hl) (X.2.2.2.2.2.2.2.1 _ hw.1) (X.2.2.2.2.2.2.2.1 _ hw.2.1) (X.2.2.2.2.2.2.2.1 _ hw.2.2) X.2.2.2.2.2.2.2.2.1.1 hH.2 mj_ws_D (mj_S_self hS) a0 a1 t t (by rw [mj_ws_at ha0, mj_e_int hm0 h1k h2k]) (by rw [mj_ws_at ha1, mj_e_int hm1 h1k h2k]) (mj_tys_at ht) (mj_tys_at ht) hp q1 q2 q3 q4 q5 hfit (by omega) (by rw [hnf]; omega) hd fun H1 locs1 hP1 _ hS1 => ?_
  refine mj_size (Nat.le_of_eq hE) fun hle => ?_
  have hsz : H1.size = H.size := Nat.le_antisymm hle hS1.1
  refine K p e R s m args below meth c H1 locs1 cells slots mc ms rl X (mj_Hp_wa (f := va_cpy (mj_i h a0) (mj_i h a1) sp.toNatClampNeg dp.toNatClampNeg k.toNatClampNeg) hH hsz ?_ hP1) hL (mj_S_tr hS hS1) (by rw [hsz]; exact hE) hc hs h1 h2
  exact (mj_e_int (h := mj_wa h a1 _) (a := a1) (kd := kd) hm1 h1k h2k).trans (by rw [mj_wa_i])
theorem mj_g_objInit {idx a : Nat} (hd : decode (mt_b mi) pc = .ok (.invokespecial idx, 3)) (hl : Cond.methodLink (mt_y mi).cls idx Lib.objectInit ∈ mt_TB) (hw : Cond.instanceMethod Lib.objectInit ∈ mt_TB ∧ Cond.code Lib.objectInit ⟨#[0xb1]⟩ 1 none ∈ mt_TB) (hst : st.length ≤ 8) (K : mj_Sim g l d mi (pc + 3) ls st h r) : mj_Sim g l d mi pc ls (.ref a :: st) h r := by
  intro p e R s m args below meth c H locs cells slots mc ms rl X hH hL hS hE hc hs h1 h2
  have hsum := mj_sumcat (st.map (mj_v g)) (fun v _ => mj_cat2 v)
  rw [List.length_map] at hsum
  have hR := X.2.2.2.2.2.2.2.2.2.2
  refine W.objInit X.1 X.2.1 X.2.2.2.2.2.1 (X.2.2.2.2.2.2.2.1 _ hl) (X.2.2.2.2.2.2.2.1 _ hw.1) (X.2.2.2.2.2.2.2.1 _ hw.2) rfl (by rw [X.2.2.1]; exact hL.1) rfl hd (by omega) (by show 2 * 0 + _ + 12 ≤ _; omega) ?_
  exact K p e R s m args below meth c H locs cells slots mc ms rl X hH hL hS hE hc hs h1 h2
theorem mj_g_vret (hd : decode (mt_b mi) pc = .ok (.return_, 1)) (hr : mt_ret mi = none) : mj_Sim g l d mi pc ls [] h (none, h) := by
  intro p e R s m args below meth c H locs cells slots mc ms rl X hH hL hS hE hc hs h1 h2
  have hlk := X.2.2.2.2.1
  refine W.widen (k := mc) (n := ms) (by dsimp only at hc; omega) (by dsimp only at hs; omega) ?_
  exact W.vret X.1 X.2.1 (by rw [X.2.2.2.1, hr]) (fun t ht hW => ⟨rfl, by rw [ht]; exact hH, hS.F ht⟩) hS.2.2 hd hlk
theorem mj_g_iret {ty : FieldType} {x : Int32} (hd : decode (mt_b mi) pc = .ok (.ireturn, 1)) (hr : mt_ret mi = some ty) (hn : narrow ty (.int x) = .int x) : mj_Sim g l d mi pc ls [.int x] h (some (.int x), h) := by
  intro p e R s m args below meth c H locs cells slots mc ms rl X hH hL hS hE hc hs h1 h2
  have hlk := X.2.2.2.2.1
  refine W.widen (k := mc) (n := ms) (by dsimp only at hc; omega) (by dsimp only at hs; omega) ?_
  exact W.zret (ty := ty) X.1 X.2.1 (by rw [X.2.2.2.1, hr]) hn (fun t ht hW => ⟨rfl, by rw [ht]; exact hH, hS.F ht⟩) hS.2.2 hd hlk
theorem mj_g_aret {ty : FieldType} {a : Nat} (hd : decode (mt_b mi) pc = .ok (.areturn, 1)) (hr : mt_ret mi = some ty) (hty : mj_isR ty = true) : mj_Sim g l d mi pc ls [.ref a] h (some (.ref a), h) := by
  intro p e R s m args below meth c H locs cells slots mc ms rl X hH hL hS hE hc hs h1 h2
  have hlk := X.2.2.2.2.1
  refine W.widen (k := mc) (n := ms) (by dsimp only at hc; omega) (by dsimp only at hs; omega) ?_
  have hrt : (∃ n, ty = .object n) ∨ ∃ t, ty = .array t := by
    cases ty <;> first | exact Or.inl ⟨_, rfl⟩ | exact Or.inr ⟨_, rfl⟩ | (simp [mj_isR] at hty; done)
  exact W.aret (v := .ref (g.1 + a)) (rt := ty) X.1 X.2.1 (by rw [X.2.2.2.1, hr]) hrt (Or.inr ⟨_, rfl⟩) (fun t ht hW => ⟨rfl, by rw [ht]; exact hH, hS.F ht⟩) hS.2.2 hd hlk
end Steps3
/-- behind a call -/
theorem mj_cont {g : mj_G} {r1 : Option Value × MH} {p : Program} {l : Launch} {e : Env} {R : Room} {s : State} {m : MethodId} {args : Array Value} {below : List Frame} {meth : Method} {c : Code} {H : Heap} {locs : List Loc} {cells slots mc ms : Nat} {Q : State → Prop} {pc : Nat} {ls : Array Slot} {rest st0 : List Value} {a : Array Value}
    (hr : va_Run p l e R s m args below meth c H locs cells slots mc ms (F0 m pc ls st0) rest (mj_Q g r1 a) (mj_A g)) (hS : va_S (mj_A g) s.heap H locs)
    (kk : ∀ (H1 : Heap) (locs1 : List Loc), mj_Hp g r1.2 H1 → va_S (mj_A g) s.heap H1 locs1 → W p l e R s m args below meth c H1 locs1 (cells + mc) (slots + ms) Q (F0 m (pc + 3) ls ((r1.1.map (mj_v g)).toList ++ rest))) : W p l e R s m args below meth c H locs cells slots Q (F0 m pc ls st0) := by
  intro T hT X
  obtain ⟨v, st₀, t, T', L, h0, X', hL, e1, e2, ⟨hv, hH, hz, hk⟩, st⟩ := hr T hT X
  cases hv
  rw [h0] at hz hk
  obtain ⟨t2, a1, b1⟩ := kk T'.heap (locs ++ L) (by rw [e1]; exact hH)
    ⟨Nat.le_trans hS.1 (by rw [e1]; exact hz), fun q h1 h2 => by rw [e1, hk q (Nat.lt_of_lt_of_le h1 hS.1) h2]; exact hS.2.1 q h1 h2, fun q hq => by
      rcases List.mem_append.mp hq with h | h
      · exact hS.2.2 q h
      · exact hL q h⟩ T' rfl X'
  exact ⟨t2, st t2 a1, b1⟩
def mj_ws1 (mj : Nat) : List Cond := Cond.code (mt_y mj) (mt_b mj) (mt_L mj) (mt_ret mj) :: mt_TB
def mj_rm (d mc ms : Nat) : Room := { frames := d + 1, cells := mc, slots := ms, locals := 64 * (d + 1) }
def mj_Pc (g : mj_G) (as : List Value) (h : MH) : Array Value → State → Prop := va_Pc (as.map (mj_v g)) (fun U => mj_Hp g h U.heap ∧ mj_Tab g U ∧ g.1 ≤ U.heap.size)
theorem mj_args_at {g : mj_G} : ∀ (as : List Value) (k i : Nat) (v : Value), (∀ w ∈ as, w.category = 1) → as[i]? = some v → (k + i, mj_v g v) ∈ lv_args k (as.map (mj_v g))
  | [], _, _, _, _, h => by simp at h
  | w :: as, k, i, v, hc, h => by
    have h1 : ¬ (mj_v g w).category = 2 := by rw [mj_v_cat (hc w List.mem_cons_self)]; decide
    show (k + i, mj_v g v) ∈ (k, mj_v g w) :: lv_args (if (mj_v g w).category = 2 then k + 2 else k + 1) (as.map (mj_v g))
    rw [if_neg h1]
    cases i with
    | zero =>
      rw [List.getElem?_cons_zero] at h
      cases h
      exact List.mem_cons_self
    | succ i =>
      rw [List.getElem?_cons_succ] at h
      have := mj_args_at (g := g) as (k + 1) i v (fun x hx => hc x (List.mem_cons_of_mem _ hx)) h
      rw [show k + (i + 1) = k + 1 + i by omega]
      exact List.mem_cons_of_mem _ this
theorem mj_sl_len {g : mj_G} : ∀ (as : List Value), (∀ w ∈ as, w.category = 1) → (lg_sl (as.map (mj_v g))).length = as.length
  | [], _ => rfl
  | w :: as, hc => by
    have h1 : ¬ (mj_v g w).category = 2 := by rw [mj_v_cat (hc w List.mem_cons_self)]; decide
    have h2 := mj_sl_len (g := g) as (fun x hx => hc x (List.mem_cons_of_mem _ hx))
    simp only [lg_sl, List.map_cons, List.flatMap_cons, if_neg h1, List.length_append, List.length_cons, List.length_nil] at h2 ⊢
    omega
theorem mj_ent_Lo {g : mj_G} {mj : Nat} {as : List Value} (hc : ∀ w ∈ as, w.category = 1) (hn : as.length ≤ mt_L mj) : mj_Lo g (mt_L mj) (mj_ent mj as) ((lg_sl (as.map (mj_v g)) ++ List.replicate (mt_L mj - (lg_sl (as.map (mj_v g))).length) Slot.unset).toArray) := by
  have hl := lv_entry (as.map (mj_v g)) (n := mt_L mj) (by rw [mj_sl_len as hc]; exact hn)
  obtain ⟨h1, h2, h3⟩ := hl
  refine ⟨h1, h2, by simp [mj_ent]; omega, fun i v hi => ?_⟩
  have hi2 : as[i]? = some v := by
    unfold mj_ent at hi
    by_cases hlt : i < as.length
    · rw [List.getElem?_append_left (by simpa using hlt)] at hi
      simpa using hi
    · rw [List.getElem?_append_right (by simpa using hlt)] at hi
      have := List.eq_of_mem_replicate (List.mem_of_getElem? hi)
      cases this
  have := mj_args_at (g := g) as 0 i v hc hi2
  rw [Nat.zero_add] at this
  exact ⟨h3 _ this, hc v (List.mem_of_getElem? hi2)⟩
theorem mj_met {g : mj_G} {l : Launch} {d mj mc ms : Nat} {as : List Value} {h : MH} {r1 : Option Value × MH} (hS : mj_Sim g l d mj 0 (mj_ent mj as) [] h r1) (hz : mj_z r1.2 = mj_z h + mc) (hu : mj_u r1.2 = mj_u h + ms) (hn : as.length ≤ mt_L mj) (hc : ∀ w ∈ as, w.category = 1) (hp : plainFor (mt_y mj) = true) :
    Met l (mt_y mj) (mj_ws1 mj) (mj_rm d mc ms) (mj_Pc g as h) (mj_Q g r1) mc ms (mj_A g) := by
  refine va_MetF (cc := mt_b mj) (maxL := mt_L mj) (ret := mt_ret mj) hp rfl ?_
  intro p e s m args below meth c s₁ B hml hv
  obtain ⟨rfl, hH, hT, hz0⟩ := hv
  have hts := atoms_spec (ws := mj_ws1 mj) B.pre
  rw [lg_entry_eq]
  exact hS p e _ s m _ below meth c s.heap [] 0 0 mc ms _ ⟨B.exec, B.bytes, hml, B.returns, B.notSynchronized, findClass_of_methodNamed B.named, fun hn => (name_of_methodNamed B.named B.method).1.trans hn, fun w hw => hts w (List.mem_cons_of_mem _ hw), hT, hz0, Nat.le_refl _, Nat.le_refl _⟩ hH (mj_ent_Lo hc hn) va_S.rf rfl (by omega) (by omega) (Nat.le_refl _) (Nat.le_refl _)
theorem mj_good {mj : Nat} (hc : Cond.code (mt_y mj) (mt_b mj) (mt_L mj) (mt_ret mj) ∈ mt_TB) : GoodIn mt_TB (mj_ws1 mj) := by
  intro w hw
  have hm : w ∈ mt_TB := by
    rcases List.mem_cons.mp hw with rfl | h
    · exact hc
    · exact h
  exact ⟨hm, good_of_word (List.mem_filter.mp hm).2⟩
