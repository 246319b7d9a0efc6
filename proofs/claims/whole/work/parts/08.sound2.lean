/-! What must hold for the small machine to speak of the true one; its steps, one by one. -/
def mj_tys (g : mj_G) : List (ClassId × FieldType) := mt_ty.map (fun q => (g.2.2.1 q.1, q.2))
def mj_Tab (g : mj_G) (U : State) : Prop := va_K g.2.1 mt_cl (mj_tys g) U ∧ (∀ w ∈ mt_NW, va_Nw w U) ∧ va_X (g.2.2.2.1 0) g.2.2.2.2.1 g.2.2.2.2.2 U U.heap ∧ g.2.2.2.1 0 < g.1
  ∧ vk_S mt_lits.length (mt_lits.map List.length) mt_lits (fun i => g.2.2.2.1 (2 * i + 1)) (fun i => g.2.2.2.1 (2 * i + 2)) (mj_A g) U U.heap
  ∧ (∀ q ∈ mt_KS, vk_R q.1 q.2.1 q.2.2.1 (g.2.2.2.1 (2 * q.2.2.2 + 1)) U)
  ∧ (∀ q ∈ mt_SZ, va_Z q.1 q.2.1 q.2.2.1 (.int q.2.2.2) (mj_A g) U U.heap)
  ∧ (∀ C ∈ mt_AO, va_AO C U)
theorem mj_Tab_mv {g : mj_G} {s U : State} (h : mj_Tab g s) (hW : s.WarmedH U.vm) (hz : g.1 ≤ s.heap.size) (hq : ∀ q : Nat, q < s.heap.size → ¬ mj_A g q → U.heap[q]? = s.heap[q]?) : mj_Tab g U := by
  obtain ⟨h1, h2, h3, h4, h5, h6, h7, h8⟩ := h
  refine ⟨va_K.moved hW.alike h1, fun w hw => ?_, va_X.moved hW.alike (h3.kept (hq _ (Nat.lt_of_lt_of_le h4 hz) (fun z => Nat.not_le.mpr h4 z))), h4, vk_S.moved hW.alike (h5.kept hq), fun q hqq => (h6 q hqq).warm hW, fun q hqq => va_Z.moved hW.alike ((h7 q hqq).kept hq), fun C hC => va_AO.moved hW.alike (h8 C hC)⟩
  have hk := (List.mem_filter.mp hw).2
  have hv := h2 w hw
  cases w <;> first | exact va_Nw.warmF hW hv | exact va_Nw.warmM hW hv | exact va_Nw.warmD hW hv | exact va_Nw.warmC hW hv | (simp [mj_isNest] at hk; done)
theorem mj_Tab_eq {g : mj_G} {u U : State} (h : mj_Tab g u) (hv : U.vm = u.vm) (hh : U.heap = u.heap) : mj_Tab g U := by
  have hA : u.vm.Alike U.vm := by rw [hv]; exact Vm.Alike.refl _
  obtain ⟨h1, h2, h3, h4, h5, h6, h7, h8⟩ := h
  refine ⟨va_K.moved hA h1, fun w hw => ?_, by rw [hh]; exact va_X.moved hA h3, h4, by rw [hh]; exact vk_S.moved hA h5, fun q hqq => (h6 q hqq).same hv, fun q hqq => by rw [hh]; exact va_Z.moved hA (h7 q hqq), fun C hC => va_AO.moved hA (h8 C hC)⟩
  have hk := (List.mem_filter.mp hw).2
  have hv' := h2 w hw
  cases w <;> first | exact va_Nw.same rfl hv.symm hv' | (simp [mj_isNest] at hk; done)
def mj_Cx (g : mj_G) (d mi : Nat) (p : Program) (R : Room) (s : State) (m : MethodId) (args : Array Value) (meth : Method) (c : Code) : Prop :=
  p.tables.exec = Jvm.exec ∧ c.code = mt_b mi ∧ c.maxLocals = mt_L mi ∧ meth.sig.returnType = mt_ret mi ∧ meth.locks = false ∧ s.vm.findClass (mt_y mi).cls = some m.cls ∧ ((mt_y mi).name = "<init>" → meth.name = "<init>") ∧ (∀ w ∈ mt_TB, w.before args s = true) ∧ mj_Tab g s ∧ g.1 ≤ s.heap.size ∧ d + 1 ≤ R.frames ∧ 64 * (d + 1) ≤ R.locals
def mj_Q (g : mj_G) (r : Option Value × MH) : Array Value → State → Outcome → State → Prop := fun _ st oc t => oc = .returned (r.1.map (mj_v g)) ∧ mj_Hp g r.2 t.heap ∧ va_F (mj_A g) st t
def mj_Sim (g : mj_G) (l : Launch) (d mi pc : Nat) (ls : List (Option Value)) (st : List Value) (h : MH) (r : Option Value × MH) : Prop :=
  ∀ (p : Program) (e : Env) (R : Room) (s : State) (m : MethodId) (args : Array Value) (below : List Frame) (meth : Method) (c : Code) (H : Heap) (locs : List Loc) (cells slots mc ms : Nat) (rl : Array Slot),
    mj_Cx g d mi p R s m args meth c → mj_Hp g h H → mj_Lo g (mt_L mi) ls rl → va_S (mj_A g) s.heap H locs → s.heap.size + cells = H.size →
    cells + mj_z r.2 ≤ mc + mj_z h → slots + mj_u r.2 ≤ ms + mj_u h → mc ≤ R.cells → ms ≤ R.slots →
    W p l e R s m args below meth c H locs cells slots (MQ below (mj_Q g r) args s mc ms (mj_A g)) (F0 m pc rl (st.map (mj_v g)))
section Steps1
variable {g : mj_G} {l : Launch} {d mi pc : Nat} {ls : List (Option Value)} {st : List Value} {h : MH} {r : Option Value × MH}
theorem mj_g_iconst {k : Int} (hd : decode (mt_b mi) pc = .ok (.iconst k, 1)) (K : mj_Sim g l d mi (pc + 1) ls (.int (Int32.ofInt k) :: st) h r) : mj_Sim g l d mi pc ls st h r := by
  intro p e R s m args below meth c H locs cells slots mc ms rl X hH hL hS hE hc hs h1 h2
  exact lv_iconst X.1 X.2.1 hd rfl (K p e R s m args below meth c H locs cells slots mc ms rl X hH hL hS hE hc hs h1 h2)
theorem mj_g_bipush {k : Int} (hd : decode (mt_b mi) pc = .ok (.bipush k, 2)) (K : mj_Sim g l d mi (pc + 2) ls (.int (Int8.ofInt k).toInt32 :: st) h r) : mj_Sim g l d mi pc ls st h r := by
  intro p e R s m args below meth c H locs cells slots mc ms rl X hH hL hS hE hc hs h1 h2
  exact lv_bipush X.1 X.2.1 hd rfl (K p e R s m args below meth c H locs cells slots mc ms rl X hH hL hS hE hc hs h1 h2)
theorem mj_g_sipush {k : Int} (hd : decode (mt_b mi) pc = .ok (.sipush k, 3)) (K : mj_Sim g l d mi (pc + 3) ls (.int (Int16.ofInt k).toInt32 :: st) h r) : mj_Sim g l d mi pc ls st h r := by
  intro p e R s m args below meth c H locs cells slots mc ms rl X hH hL hS hE hc hs h1 h2
  exact lv_sipush X.1 X.2.1 hd rfl (K p e R s m args below meth c H locs cells slots mc ms rl X hH hL hS hE hc hs h1 h2)
theorem mj_g_null (hd : decode (mt_b mi) pc = .ok (.aconst_null, 1)) (K : mj_Sim g l d mi (pc + 1) ls (.null :: st) h r) : mj_Sim g l d mi pc ls st h r := by
  intro p e R s m args below meth c H locs cells slots mc ms rl X hH hL hS hE hc hs h1 h2
  exact lv_null X.1 X.2.1 hd (K p e R s m args below meth c H locs cells slots mc ms rl X hH hL hS hE hc hs h1 h2)
theorem mj_g_iload {i : Nat} {x : Int32} (hd : decode (mt_b mi) pc = .ok (.iload i, 2)) (hl : ls.getD i none = some (.int x)) (K : mj_Sim g l d mi (pc + 2) ls (.int x :: st) h r) : mj_Sim g l d mi pc ls st h r := by
  intro p e R s m args below meth c H locs cells slots mc ms rl X hH hL hS hE hc hs h1 h2
  exact lv_iload X.1 X.2.1 hd (mj_Lo_get hL hl) (K p e R s m args below meth c H locs cells slots mc ms rl X hH hL hS hE hc hs h1 h2)
theorem mj_g_iload_n {i : Fin 4} {x : Int32} (hd : decode (mt_b mi) pc = .ok (.iload_n i, 1)) (hl : ls.getD i.val none = some (.int x)) (K : mj_Sim g l d mi (pc + 1) ls (.int x :: st) h r) : mj_Sim g l d mi pc ls st h r := by
  intro p e R s m args below meth c H locs cells slots mc ms rl X hH hL hS hE hc hs h1 h2
  exact lv_iload_n X.1 X.2.1 hd rfl (mj_Lo_get hL hl) (K p e R s m args below meth c H locs cells slots mc ms rl X hH hL hS hE hc hs h1 h2)
theorem mj_g_aload {i : Nat} {v : Value} (hd : decode (mt_b mi) pc = .ok (.aload i, 2)) (hl : ls.getD i none = some v) (hv : v = .null ∨ (∃ a, v = .ref a) ∨ ∃ a, v = .retAddr a) (K : mj_Sim g l d mi (pc + 2) ls (v :: st) h r) : mj_Sim g l d mi pc ls st h r := by
  intro p e R s m args below meth c H locs cells slots mc ms rl X hH hL hS hE hc hs h1 h2
  have K' := K p e R s m args below meth c H locs cells slots mc ms rl X hH hL hS hE hc hs h1 h2
  have hg := mj_Lo_get hL hl
  rcases hv with rfl | ⟨a, rfl⟩ | ⟨a, rfl⟩
  · exact lv_aloadN X.1 X.2.1 hd hg K'
  · exact lv_aload X.1 X.2.1 hd hg K'
  · exact lv_aload X.1 X.2.1 hd hg K'
theorem mj_g_aload_n {i : Fin 4} {v : Value} (hd : decode (mt_b mi) pc = .ok (.aload_n i, 1)) (hl : ls.getD i.val none = some v) (hv : v = .null ∨ (∃ a, v = .ref a) ∨ ∃ a, v = .retAddr a) (K : mj_Sim g l d mi (pc + 1) ls (v :: st) h r) : mj_Sim g l d mi pc ls st h r := by
  intro p e R s m args below meth c H locs cells slots mc ms rl X hH hL hS hE hc hs h1 h2
  have K' := K p e R s m args below meth c H locs cells slots mc ms rl X hH hL hS hE hc hs h1 h2
  have hg := mj_Lo_get hL hl
  rcases hv with rfl | ⟨a, rfl⟩ | ⟨a, rfl⟩
  · exact lv_aload_nN X.1 X.2.1 hd rfl hg K'
  · exact lv_aload_n X.1 X.2.1 hd rfl hg K'
  · exact lv_aload_n X.1 X.2.1 hd rfl hg K'
theorem mj_g_istore {i : Nat} {x : Int32} (hd : decode (mt_b mi) pc = .ok (.istore i, 2)) (hi : i < ls.length) (K : mj_Sim g l d mi (pc + 2) (ls.set i (some (.int x))) st h r) : mj_Sim g l d mi pc ls (.int x :: st) h r := by
  intro p e R s m args below meth c H locs cells slots mc ms rl X hH hL hS hE hc hs h1 h2
  exact lv_istore X.1 X.2.1 hd (mj_lv_has hL) (by have := hL.2.2.1; omega) rfl (fun rl' hl' => K p e R s m args below meth c H locs cells slots mc ms rl' X hH (mj_Lo_set (v := .int x) hL hi rfl hl') hS hE hc hs h1 h2)
theorem mj_g_istore_n {i : Fin 4} {x : Int32} (hd : decode (mt_b mi) pc = .ok (.istore_n i, 1)) (hi : i.val < ls.length) (K : mj_Sim g l d mi (pc + 1) (ls.set i.val (some (.int x))) st h r) : mj_Sim g l d mi pc ls (.int x :: st) h r := by
  intro p e R s m args below meth c H locs cells slots mc ms rl X hH hL hS hE hc hs h1 h2
  exact lv_istore_n X.1 X.2.1 hd rfl (mj_lv_has hL) (by have := hL.2.2.1; omega) rfl (fun rl' hl' => K p e R s m args below meth c H locs cells slots mc ms rl' X hH (mj_Lo_set (v := .int x) hL hi rfl hl') hS hE hc hs h1 h2)
theorem mj_g_astore {i : Nat} {v : Value} (hd : decode (mt_b mi) pc = .ok (.astore i, 2)) (hi : i < ls.length) (hv : v = .null ∨ (∃ a, v = .ref a) ∨ ∃ a, v = .retAddr a) (K : mj_Sim g l d mi (pc + 2) (ls.set i (some v)) st h r) : mj_Sim g l d mi pc ls (v :: st) h r := by
  intro p e R s m args below meth c H locs cells slots mc ms rl X hH hL hS hE hc hs h1 h2
  rcases hv with rfl | ⟨a, rfl⟩ | ⟨a, rfl⟩
  · exact lv_astoreN X.1 X.2.1 hd (mj_lv_has hL) (by have := hL.2.2.1; omega) rfl (fun rl' hl' => K p e R s m args below meth c H locs cells slots mc ms rl' X hH (mj_Lo_set (v := .null) hL hi rfl hl') hS hE hc hs h1 h2)
  · exact lv_astore X.1 X.2.1 hd (mj_lv_has hL) (by have := hL.2.2.1; omega) rfl (fun rl' hl' => K p e R s m args below meth c H locs cells slots mc ms rl' X hH (mj_Lo_set (v := .ref a) hL hi rfl hl') hS hE hc hs h1 h2)
  · exact lv_astore X.1 X.2.1 hd (mj_lv_has hL) (by have := hL.2.2.1; omega) rfl (fun rl' hl' => K p e R s m args below meth c H locs cells slots mc ms rl' X hH (mj_Lo_set (v := .retAddr a) hL hi rfl hl') hS hE hc hs h1 h2)
theorem mj_g_astore_n {i : Fin 4} {v : Value} (hd : decode (mt_b mi) pc = .ok (.astore_n i, 1)) (hi : i.val < ls.length) (hv : v = .null ∨ (∃ a, v = .ref a) ∨ ∃ a, v = .retAddr a) (K : mj_Sim g l d mi (pc + 1) (ls.set i.val (some v)) st h r) : mj_Sim g l d mi pc ls (v :: st) h r := by
  intro p e R s m args below meth c H locs cells slots mc ms rl X hH hL hS hE hc hs h1 h2
  rcases hv with rfl | ⟨a, rfl⟩ | ⟨a, rfl⟩
  · exact lv_astore_nN X.1 X.2.1 hd rfl (mj_lv_has hL) (by have := hL.2.2.1; omega) rfl (fun rl' hl' => K p e R s m args below meth c H locs cells slots mc ms rl' X hH (mj_Lo_set (v := .null) hL hi rfl hl') hS hE hc hs h1 h2)
  · exact lv_astore_n X.1 X.2.1 hd rfl (mj_lv_has hL) (by have := hL.2.2.1; omega) rfl (fun rl' hl' => K p e R s m args below meth c H locs cells slots mc ms rl' X hH (mj_Lo_set (v := .ref a) hL hi rfl hl') hS hE hc hs h1 h2)
  · exact lv_astore_n X.1 X.2.1 hd rfl (mj_lv_has hL) (by have := hL.2.2.1; omega) rfl (fun rl' hl' => K p e R s m args below meth c H locs cells slots mc ms rl' X hH (mj_Lo_set (v := .retAddr a) hL hi rfl hl') hS hE hc hs h1 h2)
theorem mj_g_iinc {i : Nat} {k : Int} {x : Int32} (hd : decode (mt_b mi) pc = .ok (.iinc i k, 3)) (hi : i < ls.length) (hl : ls.getD i none = some (.int x)) (K : mj_Sim g l d mi (pc + 3) (ls.set i (some (.int (x + Int32.ofInt k)))) st h r) : mj_Sim g l d mi pc ls st h r := by
  intro p e R s m args below meth c H locs cells slots mc ms rl X hH hL hS hE hc hs h1 h2
  have hx : ls[i]? = some (some (.int x)) := by
    simp only [List.getD] at hl
    cases hq : ls[i]? with
    | none => rw [hq] at hl; simp at hl
    | some o => rw [hq] at hl; simp at hl; rw [hl]
  obtain ⟨k0, hk0⟩ := List.getElem?_of_mem (mj_lv_mem (g := g) hx)
  exact lv_iinc X.1 X.2.1 hd (mj_lv_has hL) hk0 rfl (by have := hL.2.2.1; omega) rfl (fun rl' hl' => K p e R s m args below meth c H locs cells slots mc ms rl' X hH (mj_Lo_set (v := .int (x + Int32.ofInt k)) hL hi rfl hl') hS hE hc hs h1 h2)
theorem mj_g_iadd {x y : Int32} (hd : decode (mt_b mi) pc = .ok (.iadd, 1)) (K : mj_Sim g l d mi (pc + 1) ls (.int (x + y) :: st) h r) : mj_Sim g l d mi pc ls (.int y :: .int x :: st) h r := by
  intro p e R s m args below meth c H locs cells slots mc ms rl X hH hL hS hE hc hs h1 h2
  exact lv_iadd X.1 X.2.1 hd (K p e R s m args below meth c H locs cells slots mc ms rl X hH hL hS hE hc hs h1 h2)
theorem mj_g_isub {x y : Int32} (hd : decode (mt_b mi) pc = .ok (.isub, 1)) (K : mj_Sim g l d mi (pc + 1) ls (.int (x - y) :: st) h r) : mj_Sim g l d mi pc ls (.int y :: .int x :: st) h r := by
  intro p e R s m args below meth c H locs cells slots mc ms rl X hH hL hS hE hc hs h1 h2
  exact lv_isub X.1 X.2.1 hd (K p e R s m args below meth c H locs cells slots mc ms rl X hH hL hS hE hc hs h1 h2)
theorem mj_g_imul {x y : Int32} (hd : decode (mt_b mi) pc = .ok (.imul, 1)) (K : mj_Sim g l d mi (pc + 1) ls (.int (x * y) :: st) h r) : mj_Sim g l d mi pc ls (.int y :: .int x :: st) h r := by
  intro p e R s m args below meth c H locs cells slots mc ms rl X hH hL hS hE hc hs h1 h2
  exact lv_imul X.1 X.2.1 hd (K p e R s m args below meth c H locs cells slots mc ms rl X hH hL hS hE hc hs h1 h2)
theorem mj_g_iand {x y : Int32} (hd : decode (mt_b mi) pc = .ok (.iand, 1)) (K : mj_Sim g l d mi (pc + 1) ls (.int (x &&& y) :: st) h r) : mj_Sim g l d mi pc ls (.int y :: .int x :: st) h r := by
  intro p e R s m args below meth c H locs cells slots mc ms rl X hH hL hS hE hc hs h1 h2
  exact lv_iand X.1 X.2.1 hd (K p e R s m args below meth c H locs cells slots mc ms rl X hH hL hS hE hc hs h1 h2)
theorem mj_g_ior {x y : Int32} (hd : decode (mt_b mi) pc = .ok (.ior, 1)) (K : mj_Sim g l d mi (pc + 1) ls (.int (x ||| y) :: st) h r) : mj_Sim g l d mi pc ls (.int y :: .int x :: st) h r := by
  intro p e R s m args below meth c H locs cells slots mc ms rl X hH hL hS hE hc hs h1 h2
  exact lv_ior X.1 X.2.1 hd (K p e R s m args below meth c H locs cells slots mc ms rl X hH hL hS hE hc hs h1 h2)
theorem mj_g_ixor {x y : Int32} (hd : decode (mt_b mi) pc = .ok (.ixor, 1)) (K : mj_Sim g l d mi (pc + 1) ls (.int (x ^^^ y) :: st) h r) : mj_Sim g l d mi pc ls (.int y :: .int x :: st) h r := by
  intro p e R s m args below meth c H locs cells slots mc ms rl X hH hL hS hE hc hs h1 h2
  exact lv_ixor X.1 X.2.1 hd (K p e R s m args below meth c H locs cells slots mc ms rl X hH hL hS hE hc hs h1 h2)
theorem mj_g_ishl {x y : Int32} (hd : decode (mt_b mi) pc = .ok (.ishl, 1)) (K : mj_Sim g l d mi (pc + 1) ls (.int (x <<< (y &&& 31)) :: st) h r) : mj_Sim g l d mi pc ls (.int y :: .int x :: st) h r := by
  intro p e R s m args below meth c H locs cells slots mc ms rl X hH hL hS hE hc hs h1 h2
  exact lv_ishl X.1 X.2.1 hd (K p e R s m args below meth c H locs cells slots mc ms rl X hH hL hS hE hc hs h1 h2)
theorem mj_g_ishr {x y : Int32} (hd : decode (mt_b mi) pc = .ok (.ishr, 1)) (K : mj_Sim g l d mi (pc + 1) ls (.int (x >>> (y &&& 31)) :: st) h r) : mj_Sim g l d mi pc ls (.int y :: .int x :: st) h r := by
  intro p e R s m args below meth c H locs cells slots mc ms rl X hH hL hS hE hc hs h1 h2
  exact lv_ishr X.1 X.2.1 hd (K p e R s m args below meth c H locs cells slots mc ms rl X hH hL hS hE hc hs h1 h2)
theorem mj_g_idiv {x y : Int32} (hd : decode (mt_b mi) pc = .ok (.idiv, 1)) (hy : ¬ y = 0) (K : mj_Sim g l d mi (pc + 1) ls (.int (x / y) :: st) h r) : mj_Sim g l d mi pc ls (.int y :: .int x :: st) h r := by
  intro p e R s m args below meth c H locs cells slots mc ms rl X hH hL hS hE hc hs h1 h2
  exact lv_idiv X.1 X.2.1 hd hy (K p e R s m args below meth c H locs cells slots mc ms rl X hH hL hS hE hc hs h1 h2)
theorem mj_g_irem {x y : Int32} (hd : decode (mt_b mi) pc = .ok (.irem, 1)) (hy : ¬ y = 0) (K : mj_Sim g l d mi (pc + 1) ls (.int (x - x / y * y) :: st) h r) : mj_Sim g l d mi pc ls (.int y :: .int x :: st) h r := by
  intro p e R s m args below meth c H locs cells slots mc ms rl X hH hL hS hE hc hs h1 h2
  exact lv_irem X.1 X.2.1 hd hy (K p e R s m args below meth c H locs cells slots mc ms rl X hH hL hS hE hc hs h1 h2)
theorem mj_g_iushr {x y : Int32} (hd : decode (mt_b mi) pc = .ok (.iushr, 1)) (K : mj_Sim g l d mi (pc + 1) ls (.int (x.toUInt32 >>> (y.toUInt32 &&& Int32.toUInt32 31)).toInt32 :: st) h r) : mj_Sim g l d mi pc ls (.int y :: .int x :: st) h r := by
  intro p e R s m args below meth c H locs cells slots mc ms rl X hH hL hS hE hc hs h1 h2
  exact lv_iushr X.1 X.2.1 hd rfl (K p e R s m args below meth c H locs cells slots mc ms rl X hH hL hS hE hc hs h1 h2)
theorem mj_g_ineg {x : Int32} (hd : decode (mt_b mi) pc = .ok (.ineg, 1)) (K : mj_Sim g l d mi (pc + 1) ls (.int (-x) :: st) h r) : mj_Sim g l d mi pc ls (.int x :: st) h r := by
  intro p e R s m args below meth c H locs cells slots mc ms rl X hH hL hS hE hc hs h1 h2
  exact lv_ineg X.1 X.2.1 hd (K p e R s m args below meth c H locs cells slots mc ms rl X hH hL hS hE hc hs h1 h2)
theorem mj_g_i2c {x : Int32} (hd : decode (mt_b mi) pc = .ok (.i2c, 1)) (K : mj_Sim g l d mi (pc + 1) ls (.int (x.toUInt32 % 65536).toInt32 :: st) h r) : mj_Sim g l d mi pc ls (.int x :: st) h r := by
  intro p e R s m args below meth c H locs cells slots mc ms rl X hH hL hS hE hc hs h1 h2
  exact lv_i2c X.1 X.2.1 hd rfl (K p e R s m args below meth c H locs cells slots mc ms rl X hH hL hS hE hc hs h1 h2)
theorem mj_g_i2b {x : Int32} (hd : decode (mt_b mi) pc = .ok (.i2b, 1)) (K : mj_Sim g l d mi (pc + 1) ls (.int x.toInt8.toInt32 :: st) h r) : mj_Sim g l d mi pc ls (.int x :: st) h r := by
  intro p e R s m args below meth c H locs cells slots mc ms rl X hH hL hS hE hc hs h1 h2
  exact lv_i2b X.1 X.2.1 hd rfl (K p e R s m args below meth c H locs cells slots mc ms rl X hH hL hS hE hc hs h1 h2)
theorem mj_to_eq {off : Int} (ho : mj_ok pc off = true) : (pc : Int) + off = ((mj_to pc off : Nat) : Int) := by
  simp only [mj_ok, decide_eq_true_eq] at ho
  simp only [mj_to]
  omega
theorem mj_g_goto {off : Int} (hd : decode (mt_b mi) pc = .ok (.goto off, 3)) (ho : mj_ok pc off = true) (K : mj_Sim g l d mi (mj_to pc off) ls st h r) : mj_Sim g l d mi pc ls st h r := by
  intro p e R s m args below meth c H locs cells slots mc ms rl X hH hL hS hE hc hs h1 h2
  exact lv_goto X.1 X.2.1 hd (mj_to_eq ho) (K p e R s m args below meth c H locs cells slots mc ms rl X hH hL hS hE hc hs h1 h2)
theorem mj_g_if_eq {off : Int} {x : Int32} (hd : decode (mt_b mi) pc = .ok (.ifCond .eq off, 3)) (ho : mj_ok pc off = true) (Kt : x = 0 → mj_Sim g l d mi (mj_to pc off) ls st h r) (Kf : ¬ (x = 0) → mj_Sim g l d mi (pc + 3) ls st h r) : mj_Sim g l d mi pc ls (.int x :: st) h r := by
  intro p e R s m args below meth c H locs cells slots mc ms rl X hH hL hS hE hc hs h1 h2
  exact lv_if_eq X.1 X.2.1 hd (mj_to_eq ho) (fun z => Kt z p e R s m args below meth c H locs cells slots mc ms rl X hH hL hS hE hc hs h1 h2) (fun z => Kf z p e R s m args below meth c H locs cells slots mc ms rl X hH hL hS hE hc hs h1 h2)
theorem mj_g_if_ne {off : Int} {x : Int32} (hd : decode (mt_b mi) pc = .ok (.ifCond .ne off, 3)) (ho : mj_ok pc off = true) (Kt : ¬ x = 0 → mj_Sim g l d mi (mj_to pc off) ls st h r) (Kf : ¬ (¬ x = 0) → mj_Sim g l d mi (pc + 3) ls st h r) : mj_Sim g l d mi pc ls (.int x :: st) h r := by
  intro p e R s m args below meth c H locs cells slots mc ms rl X hH hL hS hE hc hs h1 h2
  exact lv_if_ne X.1 X.2.1 hd (mj_to_eq ho) (fun z => Kt z p e R s m args below meth c H locs cells slots mc ms rl X hH hL hS hE hc hs h1 h2) (fun z => Kf (fun q => q z) p e R s m args below meth c H locs cells slots mc ms rl X hH hL hS hE hc hs h1 h2)
theorem mj_g_if_lt {off : Int} {x : Int32} (hd : decode (mt_b mi) pc = .ok (.ifCond .lt off, 3)) (ho : mj_ok pc off = true) (Kt : x < 0 → mj_Sim g l d mi (mj_to pc off) ls st h r) (Kf : ¬ (x < 0) → mj_Sim g l d mi (pc + 3) ls st h r) : mj_Sim g l d mi pc ls (.int x :: st) h r := by
  intro p e R s m args below meth c H locs cells slots mc ms rl X hH hL hS hE hc hs h1 h2
  exact lv_if_lt X.1 X.2.1 hd (mj_to_eq ho) (fun z => Kt z p e R s m args below meth c H locs cells slots mc ms rl X hH hL hS hE hc hs h1 h2) (fun z => Kf z p e R s m args below meth c H locs cells slots mc ms rl X hH hL hS hE hc hs h1 h2)
theorem mj_g_if_ge {off : Int} {x : Int32} (hd : decode (mt_b mi) pc = .ok (.ifCond .ge off, 3)) (ho : mj_ok pc off = true) (Kt : 0 ≤ x → mj_Sim g l d mi (mj_to pc off) ls st h r) (Kf : ¬ (0 ≤ x) → mj_Sim g l d mi (pc + 3) ls st h r) : mj_Sim g l d mi pc ls (.int x :: st) h r := by
  intro p e R s m args below meth c H locs cells slots mc ms rl X hH hL hS hE hc hs h1 h2
  exact lv_if_ge X.1 X.2.1 hd (mj_to_eq ho) (fun z => Kt z p e R s m args below meth c H locs cells slots mc ms rl X hH hL hS hE hc hs h1 h2) (fun z => Kf z p e R s m args below meth c H locs cells slots mc ms rl X hH hL hS hE hc hs h1 h2)
theorem mj_g_if_gt {off : Int} {x : Int32} (hd : decode (mt_b mi) pc = .ok (.ifCond .gt off, 3)) (ho : mj_ok pc off = true) (Kt : 0 < x → mj_Sim g l d mi (mj_to pc off) ls st h r) (Kf : ¬ (0 < x) → mj_Sim g l d mi (pc + 3) ls st h r) : mj_Sim g l d mi pc ls (.int x :: st) h r := by
  intro p e R s m args below meth c H locs cells slots mc ms rl X hH hL hS hE hc hs h1 h2
  exact lv_if_gt X.1 X.2.1 hd (mj_to_eq ho) (fun z => Kt z p e R s m args below meth c H locs cells slots mc ms rl X hH hL hS hE hc hs h1 h2) (fun z => Kf z p e R s m args below meth c H locs cells slots mc ms rl X hH hL hS hE hc hs h1 h2)
theorem mj_g_if_le {off : Int} {x : Int32} (hd : decode (mt_b mi) pc = .ok (.ifCond .le off, 3)) (ho : mj_ok pc off = true) (Kt : x ≤ 0 → mj_Sim g l d mi (mj_to pc off) ls st h r) (Kf : ¬ (x ≤ 0) → mj_Sim g l d mi (pc + 3) ls st h r) : mj_Sim g l d mi pc ls (.int x :: st) h r := by
  intro p e R s m args below meth c H locs cells slots mc ms rl X hH hL hS hE hc hs h1 h2
  exact lv_if_le X.1 X.2.1 hd (mj_to_eq ho) (fun z => Kt z p e R s m args below meth c H locs cells slots mc ms rl X hH hL hS hE hc hs h1 h2) (fun z => Kf z p e R s m args below meth c H locs cells slots mc ms rl X hH hL hS hE hc hs h1 h2)
theorem mj_g_icmp_eq {off : Int} {x y : Int32} (hd : decode (mt_b mi) pc = .ok (.if_icmp .eq off, 3)) (ho : mj_ok pc off = true) (Kt : x = y → mj_Sim g l d mi (mj_to pc off) ls st h r) (Kf : ¬ (x = y) → mj_Sim g l d mi (pc + 3) ls st h r) : mj_Sim g l d mi pc ls (.int y :: .int x :: st) h r := by
  intro p e R s m args below meth c H locs cells slots mc ms rl X hH hL hS hE hc hs h1 h2
  exact lv_icmp_eq X.1 X.2.1 hd (mj_to_eq ho) (fun z => Kt z p e R s m args below meth c H locs cells slots mc ms rl X hH hL hS hE hc hs h1 h2) (fun z => Kf z p e R s m args below meth c H locs cells slots mc ms rl X hH hL hS hE hc hs h1 h2)
theorem mj_g_icmp_ne {off : Int} {x y : Int32} (hd : decode (mt_b mi) pc = .ok (.if_icmp .ne off, 3)) (ho : mj_ok pc off = true) (Kt : ¬ x = y → mj_Sim g l d mi (mj_to pc off) ls st h r) (Kf : ¬ (¬ x = y) → mj_Sim g l d mi (pc + 3) ls st h r) : mj_Sim g l d mi pc ls (.int y :: .int x :: st) h r := by
  intro p e R s m args below meth c H locs cells slots mc ms rl X hH hL hS hE hc hs h1 h2
  exact lv_icmp_ne X.1 X.2.1 hd (mj_to_eq ho) (fun z => Kt z p e R s m args below meth c H locs cells slots mc ms rl X hH hL hS hE hc hs h1 h2) (fun z => Kf (fun q => q z) p e R s m args below meth c H locs cells slots mc ms rl X hH hL hS hE hc hs h1 h2)
theorem mj_g_icmp_lt {off : Int} {x y : Int32} (hd : decode (mt_b mi) pc = .ok (.if_icmp .lt off, 3)) (ho : mj_ok pc off = true) (Kt : x < y → mj_Sim g l d mi (mj_to pc off) ls st h r) (Kf : ¬ (x < y) → mj_Sim g l d mi (pc + 3) ls st h r) : mj_Sim g l d mi pc ls (.int y :: .int x :: st) h r := by
  intro p e R s m args below meth c H locs cells slots mc ms rl X hH hL hS hE hc hs h1 h2
  exact lv_icmp_lt X.1 X.2.1 hd (mj_to_eq ho) (fun z => Kt z p e R s m args below meth c H locs cells slots mc ms rl X hH hL hS hE hc hs h1 h2) (fun z => Kf z p e R s m args below meth c H locs cells slots mc ms rl X hH hL hS hE hc hs h1 h2)
theorem mj_g_icmp_ge {off : Int} {x y : Int32} (hd : decode (mt_b mi) pc = .ok (.if_icmp .ge off, 3)) (ho : mj_ok pc off = true) (Kt : y ≤ x → mj_Sim g l d mi (mj_to pc off) ls st h r) (Kf : ¬ (y ≤ x) → mj_Sim g l d mi (pc + 3) ls st h r) : mj_Sim g l d mi pc ls (.int y :: .int x :: st) h r := by
  intro p e R s m args below meth c H locs cells slots mc ms rl X hH hL hS hE hc hs h1 h2
  exact lv_icmp_ge X.1 X.2.1 hd (mj_to_eq ho) (fun z => Kt z p e R s m args below meth c H locs cells slots mc ms rl X hH hL hS hE hc hs h1 h2) (fun z => Kf z p e R s m args below meth c H locs cells slots mc ms rl X hH hL hS hE hc hs h1 h2)
theorem mj_g_icmp_gt {off : Int} {x y : Int32} (hd : decode (mt_b mi) pc = .ok (.if_icmp .gt off, 3)) (ho : mj_ok pc off = true) (Kt : y < x → mj_Sim g l d mi (mj_to pc off) ls st h r) (Kf : ¬ (y < x) → mj_Sim g l d mi (pc + 3) ls st h r) : mj_Sim g l d mi pc ls (.int y :: .int x :: st) h r := by
  intro p e R s m args below meth c H locs cells slots mc ms rl X hH hL hS hE hc hs h1 h2
  exact lv_icmp_gt X.1 X.2.1 hd (mj_to_eq ho) (fun z => Kt z p e R s m args below meth c H locs cells slots mc ms rl X hH hL hS hE hc hs h1 h2) (fun z => Kf z p e R s m args below meth c H locs cells slots mc ms rl X hH hL hS hE hc hs h1 h2)
theorem mj_g_icmp_le {off : Int} {x y : Int32} (hd : decode (mt_b mi) pc = .ok (.if_icmp .le off, 3)) (ho : mj_ok pc off = true) (Kt : x ≤ y → mj_Sim g l d mi (mj_to pc off) ls st h r) (Kf : ¬ (x ≤ y) → mj_Sim g l d mi (pc + 3) ls st h r) : mj_Sim g l d mi pc ls (.int y :: .int x :: st) h r := by
  intro p e R s m args below meth c H locs cells slots mc ms rl X hH hL hS hE hc hs h1 h2
  exact lv_icmp_le X.1 X.2.1 hd (mj_to_eq ho) (fun z => Kt z p e R s m args below meth c H locs cells slots mc ms rl X hH hL hS hE hc hs h1 h2) (fun z => Kf z p e R s m args below meth c H locs cells slots mc ms rl X hH hL hS hE hc hs h1 h2)
theorem mj_g_ifnull_r {off : Int} {a : Nat} (hd : decode (mt_b mi) pc = .ok (.ifnull off, 3)) (K : mj_Sim g l d mi (pc + 3) ls st h r) : mj_Sim g l d mi pc ls (.ref a :: st) h r := by
  intro p e R s m args below meth c H locs cells slots mc ms rl X hH hL hS hE hc hs h1 h2
  exact lv_ifnull X.1 X.2.1 hd (K p e R s m args below meth c H locs cells slots mc ms rl X hH hL hS hE hc hs h1 h2)
theorem mj_g_ifnull_n {off : Int} (hd : decode (mt_b mi) pc = .ok (.ifnull off, 3)) (ho : mj_ok pc off = true) (K : mj_Sim g l d mi (mj_to pc off) ls st h r) : mj_Sim g l d mi pc ls (.null :: st) h r := by
  intro p e R s m args below meth c H locs cells slots mc ms rl X hH hL hS hE hc hs h1 h2
  exact lv_ifnullN X.1 X.2.1 hd (mj_to_eq ho) (K p e R s m args below meth c H locs cells slots mc ms rl X hH hL hS hE hc hs h1 h2)
theorem mj_g_ifnonnull_r {off : Int} {a : Nat} (hd : decode (mt_b mi) pc = .ok (.ifnonnull off, 3)) (ho : mj_ok pc off = true) (K : mj_Sim g l d mi (mj_to pc off) ls st h r) : mj_Sim g l d mi pc ls (.ref a :: st) h r := by
  intro p e R s m args below meth c H locs cells slots mc ms rl X hH hL hS hE hc hs h1 h2
  exact lv_ifnonnull X.1 X.2.1 hd (mj_to_eq ho) (K p e R s m args below meth c H locs cells slots mc ms rl X hH hL hS hE hc hs h1 h2)
theorem mj_g_ifnonnull_n {off : Int} (hd : decode (mt_b mi) pc = .ok (.ifnonnull off, 3)) (K : mj_Sim g l d mi (pc + 3) ls st h r) : mj_Sim g l d mi pc ls (.null :: st) h r := by
  intro p e R s m args below meth c H locs cells slots mc ms rl X hH hL hS hE hc hs h1 h2
  exact lv_ifnonnullN X.1 X.2.1 hd (K p e R s m args below meth c H locs cells slots mc ms rl X hH hL hS hE hc hs h1 h2)
theorem mj_g_dup {v : Value} (hd : decode (mt_b mi) pc = .ok (.dup, 1)) (hv : v.category = 1) (K : mj_Sim g l d mi (pc + 1) ls (v :: v :: st) h r) : mj_Sim g l d mi pc ls (v :: st) h r := by
  intro p e R s m args below meth c H locs cells slots mc ms rl X hH hL hS hE hc hs h1 h2
  exact lv_dup X.1 X.2.1 hd (mj_v_cat hv) (K p e R s m args below meth c H locs cells slots mc ms rl X hH hL hS hE hc hs h1 h2)
theorem mj_g_dup2 {v w : Value} (hd : decode (mt_b mi) pc = .ok (.dup2, 1)) (hv : v.category = 1) (hw : w.category = 1) (K : mj_Sim g l d mi (pc + 1) ls (v :: w :: v :: w :: st) h r) : mj_Sim g l d mi pc ls (v :: w :: st) h r := by
  intro p e R s m args below meth c H locs cells slots mc ms rl X hH hL hS hE hc hs h1 h2
  exact lv_dup2_11 X.1 X.2.1 hd (mj_v_cat hv) (mj_v_cat hw) (K p e R s m args below meth c H locs cells slots mc ms rl X hH hL hS hE hc hs h1 h2)
theorem mj_g_pop {v : Value} (hd : decode (mt_b mi) pc = .ok (.pop, 1)) (hv : v.category = 1) (K : mj_Sim g l d mi (pc + 1) ls st h r) : mj_Sim g l d mi pc ls (v :: st) h r := by
  intro p e R s m args below meth c H locs cells slots mc ms rl X hH hL hS hE hc hs h1 h2
  exact lv_pop X.1 X.2.1 hd (mj_v_cat hv) (K p e R s m args below meth c H locs cells slots mc ms rl X hH hL hS hE hc hs h1 h2)
theorem mj_g_tswOut {dflt lo hi : Int} {offs : Array Int} {n : Nat} {x : Int32} (hd : decode (mt_b mi) pc = .ok (.tableswitch dflt lo hi offs, n)) (hx : x.toInt < lo ∨ hi < x.toInt) (ho : mj_ok pc dflt = true) (K : mj_Sim g l d mi (mj_to pc dflt) ls st h r) : mj_Sim g l d mi pc ls (.int x :: st) h r := by
  intro p e R s m args below meth c H locs cells slots mc ms rl X hH hL hS hE hc hs h1 h2
  exact lv_tableOut X.1 X.2.1 hd hx (mj_to_eq ho) (K p e R s m args below meth c H locs cells slots mc ms rl X hH hL hS hE hc hs h1 h2)
theorem mj_g_tswIn {dflt lo hi : Int} {offs : Array Int} {n : Nat} {x : Int32} {off : Int} (hd : decode (mt_b mi) pc = .ok (.tableswitch dflt lo hi offs, n)) (hx : ¬ (x.toInt < lo ∨ hi < x.toInt)) (hf : offs[(x.toInt - lo).toNat]? = some off) (ho : mj_ok pc off = true) (K : mj_Sim g l d mi (mj_to pc off) ls st h r) : mj_Sim g l d mi pc ls (.int x :: st) h r := by
  intro p e R s m args below meth c H locs cells slots mc ms rl X hH hL hS hE hc hs h1 h2
  exact lv_tableIn X.1 X.2.1 hd (fun z => hx (Or.inl z)) (fun z => hx (Or.inr z)) hf (mj_to_eq ho) (K p e R s m args below meth c H locs cells slots mc ms rl X hH hL hS hE hc hs h1 h2)
theorem mj_g_lsw {dflt : Int} {ps : Array (Int × Int)} {n : Nat} {x : Int32} (hd : decode (mt_b mi) pc = .ok (.lookupswitch dflt ps, n)) (hp : (ps.toList.zip (ps.toList.drop 1)).all (fun (a, next) => a.1 < next.1) = true) (ho : mj_ok pc (Op.lookupswitch.offset ps.toList dflt x.toInt) = true) (K : mj_Sim g l d mi (mj_to pc (Op.lookupswitch.offset ps.toList dflt x.toInt)) ls st h r) : mj_Sim g l d mi pc ls (.int x :: st) h r := by
  intro p e R s m args below meth c H locs cells slots mc ms rl X hH hL hS hE hc hs h1 h2
  exact lv_lookup X.1 X.2.1 hd hp rfl (mj_to_eq ho) (K p e R s m args below meth c H locs cells slots mc ms rl X hH hL hS hE hc hs h1 h2)
end Steps1
