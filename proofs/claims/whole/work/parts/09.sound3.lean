/-! The small machine's steps that read or write the heap. -/
theorem mj_S_tr {A : Nat → Prop} {H0 H H1 : Heap} {locs locs1 : List Loc} (h1 : va_S A H0 H locs) (h2 : va_S A H H1 locs1) : va_S A H0 H1 locs1 := ⟨Nat.le_trans h1.1 h2.1, fun q hq hA => (h2.2.1 q (Nat.lt_of_lt_of_le hq h1.1) hA).trans (h1.2.1 q hq hA), h2.2.2⟩
theorem mj_S_self {A : Nat → Prop} {H0 H : Heap} {locs : List Loc} (h : va_S A H0 H locs) : va_S A H H locs := ⟨Nat.le_refl _, fun _ _ _ => rfl, h.2.2⟩
theorem mj_size {p : Program} {l : Launch} {e : Env} {R : Room} {s : State} {m : MethodId} {args : Array Value} {below : List Frame} {meth : Method} {c : Code} {H : Heap} {locs : List Loc} {cells slots N : Nat} {Q : State → Prop} {gg : JFrame} (hN : s.heap.size + cells ≤ N)
    (kk : H.size ≤ N → W p l e R s m args below meth c H locs cells slots Q gg) : W p l e R s m args below meth c H locs cells slots Q gg := fun T hT X => kk (by
      have h := X.same.2.2.1
      rw [← hT]
      exact Nat.le_trans h hN) T hT X
theorem mj_tys_at {g : mj_G} {k kd : Nat} {ty : FieldType} (hk : mt_ty[k]? = some (kd, ty)) : (mj_tys g)[k]? = some (g.2.2.1 kd, ty) := by
  simp [mj_tys, hk]
theorem mj_Hp_wa {g : mj_G} {h : MH} {H H1 : Heap} {a : Nat} {f : Nat → Int32} {E : va_E} (hH : mj_Hp g h H) (hz : H1.size = H.size) (he : mj_e g (mj_wa h a f) a = E) (hP : va_P g.2.1 mt_cl ((mj_ws g h).set a (g.1 + a, E)) H1) : mj_Hp g (mj_wa h a f) H1 := by
  refine ⟨by rw [hz]; exact hH.1, ?_⟩
  rw [mj_ws_set (h := h) (h' := mj_wa h a f) (a := a) rfl (fun i hi => mj_e_wa hi), he]
  exact hP
theorem mj_Hp_wr {g : mj_G} {h : MH} {H H1 : Heap} {a k : Nat} {x : Option Nat} {E : va_E} (hH : mj_Hp g h H) (hz : H1.size = H.size) (he : mj_e g (mj_wr h a k x) a = E) (hP : va_P g.2.1 mt_cl ((mj_ws g h).set a (g.1 + a, E)) H1) : mj_Hp g (mj_wr h a k x) H1 := by
  refine ⟨by rw [hz]; exact hH.1, ?_⟩
  rw [mj_ws_set (h := h) (h' := mj_wr h a k x) (a := a) rfl (fun i hi => mj_e_wr hi), he]
  exact hP
theorem mj_rd_wi {h : MH} {ci a k : Nat} {x : Int32} (hf : mj_fr ci k = false) : mj_rd (mj_wi h a k x) ci a k = .int x := by
  simp [mj_rd, hf, mj_wi, mj_wa_i, upd]
theorem mj_rd_wi_o {h : MH} {ci a k j : Nat} {x : Int32} (hj : j ≠ k) : mj_rd (mj_wi h a k x) ci a j = mj_rd h ci a j := by
  simp [mj_rd, mj_wi, mj_wa_i, mj_wa_r, upd, hj]
theorem mj_rd_wr {h : MH} {ci a k : Nat} {x : Option Nat} (hf : mj_fr ci k = true) : mj_rd (mj_wr h a k x) ci a k = mj_rv x := by
  simp [mj_rd, hf, mj_wr_r, va_up]
theorem mj_rd_wr_o {h : MH} {ci a k j : Nat} {x : Option Nat} (hj : j ≠ k) : mj_rd (mj_wr h a k x) ci a j = mj_rd h ci a j := by
  simp [mj_rd, mj_wr_i, mj_wr_r, va_up, hj]
section Steps2
variable {g : mj_G} {l : Launch} {d mi pc : Nat} {ls : List (Option Value)} {st : List Value} {h : MH} {r : Option Value × MH}
theorem mj_g_getf {idx a ci k : Nat} (hd : decode (mt_b mi) pc = .ok (.getfield idx, 3)) (hg : mj_get mt_F (mt_on mi) idx = some (ci, k)) (ha : a < mj_z h) (hm : mj_m h a = (ci, (mt_cf ci).length)) (hk : k < (mt_cf ci).length)
    (K : mj_Sim g l d mi (pc + 3) ls (mj_rd h ci a k :: st) h r) : mj_Sim g l d mi pc ls (.ref a :: st) h r := by
  intro p e R s m args below meth c H locs cells slots mc ms rl X hH hL hS hE hc hs h1 h2
  obtain ⟨rc, e1, e2, hl⟩ := mt_ok_F _ _ _ _ hg
  obtain ⟨f0, f1, f2, f3, f4, -⟩ := mt_ok_cl _ _ e1
  obtain ⟨C, T, N⟩ := rc
  have he : (mj_ws g h)[a]? = some (g.1 + a, .inr (ci, mj_fs g h ci (mt_cf ci).length a)) := by rw [mj_ws_at ha, mj_e_obj hm f0]
  have K' := K p e R s m args below meth c H locs cells slots mc ms rl X hH hL hS hE hc hs h1 h2
  rw [mt_ok_on] at hl
  rcases hl with hl | ⟨host, hl⟩
  · exact va_get (D := g.2.1) (ci := ci) (C := C) (T := T) (N := N) X.1 X.2.1 X.2.2.2.2.2.2.2.1 f4 X.2.2.2.2.2.1 X.2.2.2.2.2.2.2.2.1.1 hH.2 a he e1 k e2 (X.2.2.2.2.2.2.2.1 _ hl) (fun _ z => z) (mj_fs_at hk) hd K'
  · exact va_getN (D := g.2.1) (ci := ci) (C := C) (T := T) (N := N) X.1 X.2.1 X.2.2.2.2.2.2.2.1 f4 X.2.2.2.2.2.1 X.2.2.2.2.2.2.2.2.1.1 hH.2 a he e1 k e2 (va_Nw.use rfl (X.2.2.2.2.2.2.2.2.1.2.1 _ hl)) (fun _ z => z) (mj_fs_at hk) hd K'
/-- a field is written: the value as both machines have it -/
theorem mj_g_putf {idx a ci k : Nat} {b : Bool} {v : Value} {h' : MH} (hd : decode (mt_b mi) pc = .ok (.putfield idx, 3)) (hg : mj_get mt_P (mt_on mi) idx = some (ci, k, b)) (hb : (!b || (mt_y mi).name == "<init>") = true) (ha : a < mj_z h) (hm : mj_m h a = (ci, (mt_cf ci).length)) (hk : k < (mt_cf ci).length)
    (hn : narrow ((mt_cf ci).getD k .int) (mj_v g v) = mj_v g v) (hf : fits ((mt_cf ci).getD k .int) (mj_v g v) = true)
    (hw : ∀ H H1 : Heap, mj_Hp g h H → H1.size = H.size → va_P g.2.1 mt_cl ((mj_ws g h).set a (g.1 + a, .inr (ci, (mj_fs g h ci (mt_cf ci).length a).set k (mj_v g v)))) H1 → mj_Hp g h' H1) (hz : mj_z h' = mj_z h) (hu : mj_u h' = mj_u h)
    (K : mj_Sim g l d mi (pc + 3) ls st h' r) : mj_Sim g l d mi pc ls (v :: .ref a :: st) h r := by
  intro p e R s m args below meth c H locs cells slots mc ms rl X hH hL hS hE hc hs h1 h2
  obtain ⟨rc, e1, e2, e3, hl⟩ := mt_ok_P _ _ _ _ _ hg
  obtain ⟨f0, f1, f2, f3, f4, -⟩ := mt_ok_cl _ _ e1
  obtain ⟨C, T, N⟩ := rc
  have he : (mj_ws g h)[a]? = some (g.1 + a, .inr (ci, mj_fs g h ci (mt_cf ci).length a)) := by rw [mj_ws_at ha, mj_e_obj hm f0]
  have hlen : k < (mj_fs g h ci (mt_cf ci).length a).length := by rw [mj_fs_len]; exact hk
  have K' : ∀ (H1 : Heap) (locs1 : List Loc), va_P g.2.1 mt_cl ((mj_ws g h).set a (g.1 + a, .inr (ci, (mj_fs g h ci (mt_cf ci).length a).set k (mj_v g v)))) H1 → va_D (mj_A g) ((mj_ws g h).set a (g.1 + a, .inr (ci, (mj_fs g h ci (mt_cf ci).length a).set k (mj_v g v)))) → va_S (mj_A g) H H1 locs1 → W p l e R s m args below meth c H1 locs1 cells slots (MQ below (mj_Q g r) args s mc ms (mj_A g)) (F0 m (pc + 3) rl (st.map (mj_v g))) := by
    intro H1 locs1 hP1 _ hS1
    refine mj_size (Nat.le_of_eq hE) fun hle => ?_
    have hsz : H1.size = H.size := Nat.le_antisymm hle hS1.1
    exact K p e R s m args below meth c H1 locs1 cells slots mc ms rl X (hw H H1 hH hsz hP1) hL (mj_S_tr hS hS1) (by rw [hsz]; exact hE) (by rw [hz]; exact hc) (by rw [hu]; exact hs) h1 h2
  rw [mt_ok_on] at hl
  cases b with
  | false =>
    rcases hl with hl | ⟨host, hl⟩
    · exact va_put (D := g.2.1) (ci := ci) (C := C) (T := T) (N := N) X.1 X.2.1 X.2.2.2.2.2.2.2.1 f4 (fun k => (mt_cf ci).getD k .int) f2 f3 X.2.2.2.2.2.1 X.2.2.2.2.2.2.2.2.1.1 hH.2 mj_ws_D (mj_S_self hS) a he e1 k e2 (X.2.2.2.2.2.2.2.1 _ hl) (fun _ z => z) e3 (f2 k e2) hn hf hlen hd K'
    · exact va_putN (D := g.2.1) (ci := ci) (C := C) (T := T) (N := N) X.1 X.2.1 X.2.2.2.2.2.2.2.1 f4 (fun k => (mt_cf ci).getD k .int) f2 f3 X.2.2.2.2.2.1 X.2.2.2.2.2.2.2.2.1.1 hH.2 mj_ws_D (mj_S_self hS) a he e1 k e2 (va_Nw.use rfl (X.2.2.2.2.2.2.2.2.1.2.1 _ hl)) (fun _ z => z) e3 (f2 k e2) hn hf hlen hd K'
  | true =>
    have hin : meth.name = "<init>" := X.2.2.2.2.2.2.1 (by simpa using hb)
    exact va_putF (D := g.2.1) (ci := ci) (C := C) (T := T) (N := N) X.1 X.2.1 X.2.2.2.2.2.2.2.1 f4 (fun k => (mt_cf ci).getD k .int) f2 f3 X.2.2.2.2.2.1 X.2.2.2.2.2.2.2.2.1.1 hH.2 mj_ws_D (mj_S_self hS) a he e1 k e2 (X.2.2.2.2.2.2.2.1 _ hl.1) (fun _ z => z) e3 hin hl.2 (f2 k e2) hn hf hlen hd K'
theorem mj_g_puti {idx a ci k : Nat} {b : Bool} {x : Int32} (hd : decode (mt_b mi) pc = .ok (.putfield idx, 3)) (hg : mj_get mt_P (mt_on mi) idx = some (ci, k, b)) (hb : (!b || (mt_y mi).name == "<init>") = true) (ha : a < mj_z h) (hm : mj_m h a = (ci, (mt_cf ci).length)) (hk : k < (mt_cf ci).length) (hfr : mj_fr ci k = false) (hf : mj_fit ((mt_cf ci).getD k .int) x = true)
    (K : mj_Sim g l d mi (pc + 3) ls st (mj_wi h a k x) r) : mj_Sim g l d mi pc ls (.int x :: .ref a :: st) h r := by
  simp only [mj_fit, Bool.and_eq_true, decide_eq_true_eq] at hf
  obtain ⟨rc, e1, -⟩ := mt_ok_P _ _ _ _ _ hg
  have f0 := (mt_ok_cl _ _ e1).1
  refine mj_g_putf (v := .int x) (h' := mj_wi h a k x) hd hg hb ha hm hk hf.1 hf.2 (fun H H1 hH hz hP => ?_) rfl rfl K
  refine mj_Hp_wa hH hz ?_ hP
  rw [mj_e_obj (by rw [mj_wa_m]; exact hm) f0]
  exact congrArg (fun z => Sum.inr (ci, z)) (mj_fs_set (h := h) (h' := mj_wi h a k x) (by rw [mj_rd_wi hfr]) (fun j hj => mj_rd_wi_o hj)).symm
theorem mj_g_putr {idx a ci k : Nat} {b : Bool} {x : Option Nat} (hd : decode (mt_b mi) pc = .ok (.putfield idx, 3)) (hg : mj_get mt_P (mt_on mi) idx = some (ci, k, b)) (hb : (!b || (mt_y mi).name == "<init>") = true) (ha : a < mj_z h) (hm : mj_m h a = (ci, (mt_cf ci).length)) (hk : k < (mt_cf ci).length) (hfr : mj_fr ci k = true)
    (K : mj_Sim g l d mi (pc + 3) ls st (mj_wr h a k x) r) : mj_Sim g l d mi pc ls (mj_rv x :: .ref a :: st) h r := by
  obtain ⟨rc, e1, -⟩ := mt_ok_P _ _ _ _ _ hg
  have f0 := (mt_ok_cl _ _ e1).1
  have ht : ∀ ty : FieldType, mj_isR ty = true → narrow ty (mj_v g (mj_rv x)) = mj_v g (mj_rv x) ∧ fits ty (mj_v g (mj_rv x)) = true := by
    intro ty hty
    cases ty <;> first | (simp [mj_isR] at hty; done) | (cases x <;> exact ⟨rfl, rfl⟩)
  refine mj_g_putf (v := mj_rv x) (h' := mj_wr h a k x) hd hg hb ha hm hk (ht _ hfr).1 (ht _ hfr).2 (fun H H1 hH hz hP => ?_) rfl rfl K
  refine mj_Hp_wr hH hz ?_ hP
  rw [mj_e_obj (by rw [mj_wr_m]; exact hm) f0]
  exact congrArg (fun z => Sum.inr (ci, z)) (mj_fs_set (h := h) (h' := mj_wr h a k x) (by rw [mj_rd_wr hfr]) (fun j hj => mj_rd_wr_o hj)).symm
theorem mj_kd_of {a kd : Nat} {i : Int32} (hk : mj_kd h a kd i = true) : a < mj_z h ∧ mj_m h a = (kd, (mj_m h a).2) ∧ vp_in i (mj_m h a).2 := by
  simp only [mj_kd, Bool.and_eq_true, decide_eq_true_eq] at hk
  obtain ⟨⟨h1, h2⟩, h3⟩ := hk
  exact ⟨h1, by rw [← h2], mj_in_vp h3⟩
theorem mj_g_iald {a : Nat} {i : Int32} (hd : decode (mt_b mi) pc = .ok (.iaload, 1)) (hk : mj_kd h a 100 i = true) (K : mj_Sim g l d mi (pc + 1) ls (.int (mj_i h a i.toNatClampNeg) :: st) h r) : mj_Sim g l d mi pc ls (.int i :: .ref a :: st) h r := by
  intro p e R s m args below meth c H locs cells slots mc ms rl X hH hL hS hE hc hs h1 h2
  obtain ⟨k1, k2, k3⟩ := mj_kd_of hk
  exact va_iald X.1 X.2.1 X.2.2.2.2.2.2.2.2.1.1 hH.2 a 0 (by rw [mj_ws_at k1, mj_e_int k2 (by omega) (by omega)]) (mj_tys_at mt_ty0) k3 hd (K p e R s m args below meth c H locs cells slots mc ms rl X hH hL hS hE hc hs h1 h2)
theorem mj_g_zald {a : Nat} {i : Int32} (hd : decode (mt_b mi) pc = .ok (.baload, 1)) (hk : mj_kd h a 101 i = true) (K : mj_Sim g l d mi (pc + 1) ls (.int (mj_i h a i.toNatClampNeg) :: st) h r) : mj_Sim g l d mi pc ls (.int i :: .ref a :: st) h r := by
  intro p e R s m args below meth c H locs cells slots mc ms rl X hH hL hS hE hc hs h1 h2
  obtain ⟨k1, k2, k3⟩ := mj_kd_of hk
  exact va_zald X.1 X.2.1 X.2.2.2.2.2.2.2.2.1.1 hH.2 a 1 (by rw [mj_ws_at k1, mj_e_int k2 (by omega) (by omega)]) (mj_tys_at mt_ty1) k3 hd (K p e R s m args below meth c H locs cells slots mc ms rl X hH hL hS hE hc hs h1 h2)
theorem mj_g_cald {a : Nat} {i : Int32} (hd : decode (mt_b mi) pc = .ok (.caload, 1)) (hk : mj_kd h a 102 i = true) (K : mj_Sim g l d mi (pc + 1) ls (.int (mj_i h a i.toNatClampNeg) :: st) h r) : mj_Sim g l d mi pc ls (.int i :: .ref a :: st) h r := by
  intro p e R s m args below meth c H locs cells slots mc ms rl X hH hL hS hE hc hs h1 h2
  obtain ⟨k1, k2, k3⟩ := mj_kd_of hk
  exact va_cald X.1 X.2.1 X.2.2.2.2.2.2.2.2.1.1 hH.2 a 2 (by rw [mj_ws_at k1, mj_e_int k2 (by omega) (by omega)]) (mj_tys_at mt_ty2) k3 hd (K p e R s m args below meth c H locs cells slots mc ms rl X hH hL hS hE hc hs h1 h2)
theorem mj_g_iast {a : Nat} {i x : Int32} (hd : decode (mt_b mi) pc = .ok (.iastore, 1)) (hk : mj_kd h a 100 i = true) (K : mj_Sim g l d mi (pc + 1) ls st (mj_wi h a i.toNatClampNeg x) r) : mj_Sim g l d mi pc ls (.int x :: .int i :: .ref a :: st) h r := by
  intro p e R s m args below meth c H locs cells slots mc ms rl X hH hL hS hE hc hs h1 h2
  obtain ⟨k1, k2, k3⟩ := mj_kd_of hk
  refine va_iast X.1 X.2.1 X.2.2.2.2.2.2.2.2.1.1 hH.2 mj_ws_D (mj_S_self hS) a 0 (by rw [mj_ws_at k1, mj_e_int k2 (by omega) (by omega)]) (mj_tys_at mt_ty0) k3 hd fun H1 locs1 hP1 _ hS1 => ?_
  refine mj_size (Nat.le_of_eq hE) fun hle => ?_
  have hsz : H1.size = H.size := Nat.le_antisymm hle hS1.1
  refine K p e R s m args below meth c H1 locs1 cells slots mc ms rl X (mj_Hp_wa (f := upd (mj_i h a) i.toNatClampNeg x) hH hsz ?_ hP1) hL (mj_S_tr hS hS1) (by rw [hsz]; exact hE) hc hs h1 h2
  exact (mj_e_int (h := mj_wi h a i.toNatClampNeg x) (a := a) (kd := 100) k2 (by omega) (by omega)).trans (by rw [mj_wi, mj_wa_i])
theorem mj_g_zast {a : Nat} {i x : Int32} (hd : decode (mt_b mi) pc = .ok (.bastore, 1)) (hk : mj_kd h a 101 i = true) (K : mj_Sim g l d mi (pc + 1) ls st (mj_wi h a i.toNatClampNeg (vp_nar .boolean x)) r) : mj_Sim g l d mi pc ls (.int x :: .int i :: .ref a :: st) h r := by
  intro p e R s m args below meth c H locs cells slots mc ms rl X hH hL hS hE hc hs h1 h2
  obtain ⟨k1, k2, k3⟩ := mj_kd_of hk
  refine va_zast X.1 X.2.1 X.2.2.2.2.2.2.2.2.1.1 hH.2 mj_ws_D (mj_S_self hS) a 1 (by rw [mj_ws_at k1, mj_e_int k2 (by omega) (by omega)]) (mj_tys_at mt_ty1) k3 hd fun H1 locs1 hP1 _ hS1 => ?_
  refine mj_size (Nat.le_of_eq hE) fun hle => ?_
  have hsz : H1.size = H.size := Nat.le_antisymm hle hS1.1
  refine K p e R s m args below meth c H1 locs1 cells slots mc ms rl X (mj_Hp_wa (f := upd (mj_i h a) i.toNatClampNeg (vp_nar .boolean x)) hH hsz ?_ hP1) hL (mj_S_tr hS hS1) (by rw [hsz]; exact hE) hc hs h1 h2
  exact (mj_e_int (h := mj_wi h a i.toNatClampNeg (vp_nar .boolean x)) (a := a) (kd := 101) k2 (by omega) (by omega)).trans (by rw [mj_wi, mj_wa_i])
theorem mj_g_cast {a : Nat} {i x : Int32} (hd : decode (mt_b mi) pc = .ok (.castore, 1)) (hk : mj_kd h a 102 i = true) (K : mj_Sim g l d mi (pc + 1) ls st (mj_wi h a i.toNatClampNeg (vp_nar .char x)) r) : mj_Sim g l d mi pc ls (.int x :: .int i :: .ref a :: st) h r := by
  intro p e R s m args below meth c H locs cells slots mc ms rl X hH hL hS hE hc hs h1 h2
  obtain ⟨k1, k2, k3⟩ := mj_kd_of hk
  refine va_cast X.1 X.2.1 X.2.2.2.2.2.2.2.2.1.1 hH.2 mj_ws_D (mj_S_self hS) a 2 (by rw [mj_ws_at k1, mj_e_int k2 (by omega) (by omega)]) (mj_tys_at mt_ty2) k3 hd fun H1 locs1 hP1 _ hS1 => ?_
  refine mj_size (Nat.le_of_eq hE) fun hle => ?_
  have hsz : H1.size = H.size := Nat.le_antisymm hle hS1.1
  refine K p e R s m args below meth c H1 locs1 cells slots mc ms rl X (mj_Hp_wa (f := upd (mj_i h a) i.toNatClampNeg (vp_nar .char x)) hH hsz ?_ hP1) hL (mj_S_tr hS hS1) (by rw [hsz]; exact hE) hc hs h1 h2
  exact (mj_e_int (h := mj_wi h a i.toNatClampNeg (vp_nar .char x)) (a := a) (kd := 102) k2 (by omega) (by omega)).trans (by rw [mj_wi, mj_wa_i])
theorem mj_g_aald {a : Nat} {i : Int32} {t kd : Nat} {C : String} (hd : decode (mt_b mi) pc = .ok (.aaload, 1)) (ht : mt_ty[t]? = some (kd, .object C)) (h2k : 200 ≤ kd) (hk : mj_kd h a kd i = true) (K : mj_Sim g l d mi (pc + 1) ls (mj_rv (mj_r h a i.toNatClampNeg) :: st) h r) : mj_Sim g l d mi pc ls (.int i :: .ref a :: st) h r := by
  intro p e R s m args below meth c H locs cells slots mc ms rl X hH hL hS hE hc hs h1 h2
  obtain ⟨k1, k2, k3⟩ := mj_kd_of hk
  have K' := K p e R s m args below meth c H locs cells slots mc ms rl X hH hL hS hE hc hs h1 h2
  rw [List.map_cons, mj_v_rv] at K'
  exact va_aldq X.1 X.2.1 X.2.2.2.2.2.2.2.2.1.1 hH.2 a t (by rw [mj_ws_at k1, mj_e_ref k2 h2k]) (mj_tys_at ht) k3 hd K'
theorem mj_up_map {f : Nat → Option Nat} {z i b : Nat} : va_up (fun j => (f j).map (fun x => z + x)) i (some (z + b)) = fun j => (va_up f i (some b) j).map (fun x => z + x) := by
  funext j
  by_cases hj : j = i <;> simp [va_up, hj]
theorem mj_g_aast {a b : Nat} {i : Int32} {t kd ci n : Nat} {C : String} {rc : vw_C} (hd : decode (mt_b mi) pc = .ok (.aastore, 1)) (ht : mt_ty[t]? = some (kd, .object C)) (h2k : 200 ≤ kd) (hk : mj_kd h a kd i = true) (hb : b < mj_z h) (hbm : mj_m h b = (ci, n)) (hrc : mt_cl[ci]? = some rc) (hsub : rc.1 = C ∨ Cond.castable rc.1 C ∈ mt_NW)
    (K : mj_Sim g l d mi (pc + 1) ls st (mj_wr h a i.toNatClampNeg (some b)) r) : mj_Sim g l d mi pc ls (.ref b :: .int i :: .ref a :: st) h r := by
  intro p e R s m args below meth c H locs cells slots mc ms rl X hH hL hS hE hc hs h1 h2
  obtain ⟨k1, k2, k3⟩ := mj_kd_of hk
  have f0 := (mt_ok_cl _ _ hrc).1
  have K' : ∀ (H1 : Heap) (locs1 : List Loc), va_P g.2.1 mt_cl ((mj_ws g h).set a (g.1 + a, .inl (g.2.2.1 kd, (mj_m h a).2, .inr (.inr (.inr (.inr (va_up (fun j => (mj_r h a j).map (fun x => g.1 + x)) i.toNatClampNeg (some (g.1 + b))))))))) H1 → va_D (mj_A g) ((mj_ws g h).set a (g.1 + a, .inl (g.2.2.1 kd, (mj_m h a).2, .inr (.inr (.inr (.inr (va_up (fun j => (mj_r h a j).map (fun x => g.1 + x)) i.toNatClampNeg (some (g.1 + b))))))))) → va_S (mj_A g) H H1 locs1 → W p l e R s m args below meth c H1 locs1 cells slots (MQ below (mj_Q g r) args s mc ms (mj_A g)) (F0 m (pc + 1) rl (st.map (mj_v g))) := by
    intro H1 locs1 hP1 _ hS1
    refine mj_size (Nat.le_of_eq hE) fun hle => ?_
    have hsz : H1.size = H.size := Nat.le_antisymm hle hS1.1
    refine K p e R s m args below meth c H1 locs1 cells slots mc ms rl X (mj_Hp_wr hH hsz ?_ hP1) hL (mj_S_tr hS hS1) (by rw [hsz]; exact hE) hc hs h1 h2
    rw [mj_e_ref (by rw [mj_wr_m]; exact k2) h2k, mj_wr_r, mj_up_map]
  have hv : (mj_ws g h)[b]? = some (g.1 + b, .inr (ci, mj_fs g h ci n b)) := by rw [mj_ws_at hb, mj_e_obj hbm f0]
  rcases hsub with hsub | hsub
  · subst hsub
    exact va_astq X.1 X.2.1 X.2.2.2.2.2.2.2.2.1.1 hH.2 mj_ws_D (mj_S_self hS) a t b ci (by rw [mj_ws_at k1, mj_e_ref k2 h2k]) (mj_tys_at ht) hv hrc k3 hd K'
  · exact va_astqO X.1 X.2.1 X.2.2.2.2.2.2.2.2.1.1 hH.2 mj_ws_D (mj_S_self hS) a t b ci (by rw [mj_ws_at k1, mj_e_ref k2 h2k]) (mj_tys_at ht) (X.2.2.2.2.2.2.2.2.1.2.1 _ hsub) hv hrc k3 hd K'
theorem mj_g_alen {a t kd n : Nat} {ty : FieldType} (hd : decode (mt_b mi) pc = .ok (.arraylength, 1)) (ht : mt_ty[t]? = some (kd, ty)) (h1k : 100 ≤ kd) (ha : a < mj_z h) (hm : mj_m h a = (kd, n)) (K : mj_Sim g l d mi (pc + 1) ls (.int (Int32.ofNat n) :: st) h r) : mj_Sim g l d mi pc ls (.ref a :: st) h r := by
  intro p e R s m args below meth c H locs cells slots mc ms rl X hH hL hS hE hc hs h1 h2
  have K' := K p e R s m args below meth c H locs cells slots mc ms rl X hH hL hS hE hc hs h1 h2
  by_cases h2k : kd < 200
  · exact va_alen X.1 X.2.1 X.2.2.2.2.2.2.2.2.1.1 hH.2 a t (x := (n, .inl (mj_i h a))) (by rw [mj_ws_at ha, mj_e_int hm h1k h2k]) (mj_tys_at ht) rfl hd K'
  · exact va_alen X.1 X.2.1 X.2.2.2.2.2.2.2.2.1.1 hH.2 a t (x := (n, .inr (.inr (.inr (.inr (fun j => (mj_r h a j).map (fun x => g.1 + x))))))) (by rw [mj_ws_at ha, mj_e_ref hm (by omega)]) (mj_tys_at ht) rfl hd K'
theorem mj_nA {g : mj_G} {b : Nat} (hb : b < g.1) : ¬ mj_A g b := fun z => Nat.not_le.mpr hb z
theorem mj_g_slen (hd : decode (mt_b mi) pc = .ok (.arraylength, 1)) (K : mj_Sim g l d mi (pc + 1) ls (.int (Int32.ofNat g.2.2.2.2.1) :: st) h r) : mj_Sim g l d mi pc ls (.retAddr 0 :: st) h r := by
  intro p e R s m args below meth c H locs cells slots mc ms rl X hH hL hS hE hc hs h1 h2
  have T := X.2.2.2.2.2.2.2.2.1
  have hz := X.2.2.2.2.2.2.2.2.2.1
  exact va_slen X.1 X.2.1 T.2.2.1 (Nat.lt_of_lt_of_le T.2.2.2.1 hz) (mj_nA T.2.2.2.1) hS hd (K p e R s m args below meth c H locs cells slots mc ms rl X hH hL hS hE hc hs h1 h2)
theorem mj_g_sld {i : Int32} (hd : decode (mt_b mi) pc = .ok (.iaload, 1)) (hi : mj_in i g.2.2.2.2.1 = true) (K : mj_Sim g l d mi (pc + 1) ls (.int (g.2.2.2.2.2 i.toNatClampNeg) :: st) h r) : mj_Sim g l d mi pc ls (.int i :: .retAddr 0 :: st) h r := by
  intro p e R s m args below meth c H locs cells slots mc ms rl X hH hL hS hE hc hs h1 h2
  have T := X.2.2.2.2.2.2.2.2.1
  have hz := X.2.2.2.2.2.2.2.2.2.1
  exact va_sld X.1 X.2.1 T.2.2.1 (Nat.lt_of_lt_of_le T.2.2.2.1 hz) (mj_nA T.2.2.2.1) hS (mj_in_vp hi) hd (K p e R s m args below meth c H locs cells slots mc ms rl X hH hL hS hE hc hs h1 h2)
theorem mj_g_ldi {idx : Nat} {v : Int32} (hd : decode (mt_b mi) pc = .ok (.ldc idx, 2)) (hw : Cond.constant (mt_y mi).cls idx v ∈ mt_TB) (K : mj_Sim g l d mi (pc + 2) ls (.int v :: st) h r) : mj_Sim g l d mi pc ls st h r := by
  intro p e R s m args below meth c H locs cells slots mc ms rl X hH hL hS hE hc hs h1 h2
  exact lv_ldc X.1 X.2.1 X.2.2.2.2.2.1 (X.2.2.2.2.2.2.2.1 _ hw) hd (K p e R s m args below meth c H locs cells slots mc ms rl X hH hL hS hE hc hs h1 h2)
theorem mj_g_ldwi {idx : Nat} {v : Int32} (hd : decode (mt_b mi) pc = .ok (.ldc_w idx, 3)) (hw : Cond.constant (mt_y mi).cls idx v ∈ mt_TB) (K : mj_Sim g l d mi (pc + 3) ls (.int v :: st) h r) : mj_Sim g l d mi pc ls st h r := by
  intro p e R s m args below meth c H locs cells slots mc ms rl X hH hL hS hE hc hs h1 h2
  exact lv_ldcw X.1 X.2.1 X.2.2.2.2.2.1 (X.2.2.2.2.2.2.2.1 _ hw) hd (K p e R s m args below meth c H locs cells slots mc ms rl X hH hL hS hE hc hs h1 h2)
theorem mj_g_lds {idx j : Nat} {tx : String} (hd : decode (mt_b mi) pc = .ok (.ldc idx, 2)) (hw : ((mt_y mi).cls, idx, tx, j) ∈ mt_KS) (K : mj_Sim g l d mi (pc + 2) ls (.retAddr (2 * j + 1) :: st) h r) : mj_Sim g l d mi pc ls st h r := by
  intro p e R s m args below meth c H locs cells slots mc ms rl X hH hL hS hE hc hs h1 h2
  have T := X.2.2.2.2.2.2.2.2.1
  exact va_ldcS X.1 X.2.1 X.2.2.2.2.2.1 (T.2.2.2.2.2.1 _ hw) hd (K p e R s m args below meth c H locs cells slots mc ms rl X hH hL hS hE hc hs h1 h2)
theorem mj_g_gets {idx : Nat} {v : Int32} {C n f : String} (hd : decode (mt_b mi) pc = .ok (.getstatic idx, 3)) (hw : (C, n, f, v) ∈ mt_SZ) (hl : Cond.fieldLink (mt_y mi).cls idx C n f ∈ mt_TB) (K : mj_Sim g l d mi (pc + 3) ls (.int v :: st) h r) : mj_Sim g l d mi pc ls st h r := by
  intro p e R s m args below meth c H locs cells slots mc ms rl X hH hL hS hE hc hs h1 h2
  have T := X.2.2.2.2.2.2.2.2.1
  exact va_gets X.1 X.2.1 (T.2.2.2.2.2.2.1 _ hw) hS X.2.2.2.2.2.1 (X.2.2.2.2.2.2.2.1 _ hl) (fun _ z => z) hd (K p e R s m args below meth c H locs cells slots mc ms rl X hH hL hS hE hc hs h1 h2)
theorem mj_g_lval {idx i : Nat} (hd : decode (mt_b mi) pc = .ok (.getfield idx, 3)) (hi : i < mt_lits.length) (hl : Cond.fieldLink (mt_y mi).cls idx "java/lang/String" "value" "[B" ∈ mt_TB) (K : mj_Sim g l d mi (pc + 3) ls (.retAddr (2 * i + 2) :: st) h r) : mj_Sim g l d mi pc ls (.retAddr (2 * i + 1) :: st) h r := by
  intro p e R s m args below meth c H locs cells slots mc ms rl X hH hL hS hE hc hs h1 h2
  have T := X.2.2.2.2.2.2.2.2.1
  exact vk_getf X.1 X.2.1 (T.2.2.2.2.1.1 i hi).2.2.1 hS X.2.2.2.2.2.1 (X.2.2.2.2.2.2.2.1 _ hl) (fun _ z => z) hd (K p e R s m args below meth c H locs cells slots mc ms rl X hH hL hS hE hc hs h1 h2)
theorem mj_g_lcod {idx i : Nat} (hd : decode (mt_b mi) pc = .ok (.getfield idx, 3)) (hi : i < mt_lits.length) (hl : Cond.fieldLink (mt_y mi).cls idx "java/lang/String" "coder" "B" ∈ mt_TB) (K : mj_Sim g l d mi (pc + 3) ls (.int 0 :: st) h r) : mj_Sim g l d mi pc ls (.retAddr (2 * i + 1) :: st) h r := by
  intro p e R s m args below meth c H locs cells slots mc ms rl X hH hL hS hE hc hs h1 h2
  have T := X.2.2.2.2.2.2.2.2.1
  exact vk_getf X.1 X.2.1 (T.2.2.2.2.1.1 i hi).2.1 hS X.2.2.2.2.2.1 (X.2.2.2.2.2.2.2.1 _ hl) (fun _ z => z) hd (K p e R s m args below meth c H locs cells slots mc ms rl X hH hL hS hE hc hs h1 h2)
theorem mj_lits_len {i : Nat} : (mt_lits.map List.length).getD i 0 = (mt_lits.getD i []).length := by
  simp only [List.getD, List.getElem?_map]
  cases mt_lits[i]? <;> rfl
theorem mj_g_llen {i : Nat} (hd : decode (mt_b mi) pc = .ok (.arraylength, 1)) (hi : i < mt_lits.length) (K : mj_Sim g l d mi (pc + 1) ls (.int (Int32.ofNat (mt_lits.getD i []).length) :: st) h r) : mj_Sim g l d mi pc ls (.retAddr (2 * i + 2) :: st) h r := by
  intro p e R s m args below meth c H locs cells slots mc ms rl X hH hL hS hE hc hs h1 h2
  have T := X.2.2.2.2.2.2.2.2.1
  exact va_tlen X.1 X.2.1 (T.2.2.2.2.1.1 i hi).2.2.2 hS (by rw [mj_lits_len]) hd (K p e R s m args below meth c H locs cells slots mc ms rl X hH hL hS hE hc hs h1 h2)
theorem mj_g_lbyt {i : Nat} {j : Int32} (hd : decode (mt_b mi) pc = .ok (.baload, 1)) (hi : i < mt_lits.length) (hj : mj_in j (mt_lits.getD i []).length = true) (K : mj_Sim g l d mi (pc + 1) ls (.int (mj_lit i j.toNatClampNeg) :: st) h r) : mj_Sim g l d mi pc ls (.int j :: .retAddr (2 * i + 2) :: st) h r := by
  intro p e R s m args below meth c H locs cells slots mc ms rl X hH hL hS hE hc hs h1 h2
  have T := X.2.2.2.2.2.2.2.2.1
  exact va_tb X.1 X.2.1 (T.2.2.2.2.1.1 i hi).2.2.2 hS (by rw [mj_lits_len]; exact mj_in_vp hj) rfl hd (K p e R s m args below meth c H locs cells slots mc ms rl X hH hL hS hE hc hs h1 h2)
end Steps2
