/-! A small machine over a pure heap, that reads the claim's own bytes. A heap: (how many cells, how many slots, (kind, length) of a cell, its ints, its references).
Kinds: below 100 an object of that class; 100 int[], 101 boolean[], 102 char[]; 200 and on: an array of references. A value .retAddr k stands for a thing that was there before: 0 the script, 2i+1 the i-th literal, 2i+2 its bytes. -/
abbrev MH : Type := Nat × Nat × (Nat → Nat × Nat) × (Nat → Nat → Int32) × (Nat → Nat → Option Nat)
abbrev MFr : Type := Nat × List (Option Value) × List Value × MH
abbrev MOut : Type := MFr ⊕ ((Nat × List Value × Nat × List Value) ⊕ Option Value)
def mj_z (h : MH) : Nat := h.1
def mj_u (h : MH) : Nat := h.2.1
def mj_m (h : MH) (a : Nat) : Nat × Nat := h.2.2.1 a
def mj_i (h : MH) (a k : Nat) : Int32 := h.2.2.2.1 a k
def mj_r (h : MH) (a k : Nat) : Option Nat := h.2.2.2.2 a k
/-- a row of ints is written -/
def mj_wa (h : MH) (a : Nat) (f : Nat → Int32) : MH := (h.1, h.2.1, h.2.2.1, va_up h.2.2.2.1 a f, h.2.2.2.2)
/-- an int is written -/
def mj_wi (h : MH) (a k : Nat) (x : Int32) : MH := mj_wa h a (upd (mj_i h a) k x)
/-- a reference is written -/
def mj_wr (h : MH) (a k : Nat) (x : Option Nat) : MH := (h.1, h.2.1, h.2.2.1, h.2.2.2.1, va_up h.2.2.2.2 a (va_up (mj_r h a) k x))
/-- a new cell -/
def mj_nw (h : MH) (kd n : Nat) : MH := (h.1 + 1, h.2.1 + n, va_up h.2.2.1 h.1 (kd, n), va_up h.2.2.2.1 h.1 (fun _ => 0), va_up h.2.2.2.2 h.1 (fun _ => none))
def mj_rv (r : Option Nat) : Value := match r with
  | none => .null
  | some a => .ref a
def mj_rd (h : MH) (ci a k : Nat) : Value := if mj_fr ci k then mj_rv (mj_r h a k) else .int (mj_i h a k)
def mj_fit (ty : FieldType) (x : Int32) : Bool := decide (narrow ty (.int x) = .int x) && fits ty (.int x)
def mj_in (i : Int32) (n : Nat) : Bool := !(decide (i < 0)) && decide (i.toNatClampNeg < n)
def mj_nx (pc : Nat) (ls : List (Option Value)) (st : List Value) (h : MH) : Option MOut := some (.inl (pc, ls, st, h))
def mj_un (n pc : Nat) (ls : List (Option Value)) (st : List Value) (h : MH) (f : Int32 → Int32) : Option MOut := if n = 1 then (match st with
  | .int x :: r => mj_nx (pc + 1) ls (.int (f x) :: r) h
  | _ => none) else none
def mj_bi (n pc : Nat) (ls : List (Option Value)) (st : List Value) (h : MH) (ok : Int32 → Bool) (f : Int32 → Int32 → Int32) : Option MOut := if n = 1 then (match st with
  | .int y :: .int x :: r => if ok y = true then mj_nx (pc + 1) ls (.int (f x y) :: r) h else none
  | _ => none) else none
def mj_to (pc : Nat) (off : Int) : Nat := ((pc : Int) + off).toNat
def mj_ok (pc : Nat) (off : Int) : Bool := decide (0 ≤ (pc : Int) + off)
def mj_if (n pc : Nat) (off : Int) (b : Bool) (ls : List (Option Value)) (st : List Value) (h : MH) : Option MOut := if n = 3 ∧ mj_ok pc off = true then (if b = true then mj_nx (mj_to pc off) ls st h else mj_nx (pc + 3) ls st h) else none
def mj_i1 (n pc : Nat) (off : Int) (f : Int32 → Bool) (ls : List (Option Value)) (st : List Value) (h : MH) : Option MOut := match st with
  | .int x :: r => mj_if n pc off (f x) ls r h
  | _ => none
def mj_i2 (n pc : Nat) (off : Int) (f : Int32 → Int32 → Bool) (ls : List (Option Value)) (st : List Value) (h : MH) : Option MOut := match st with
  | .int y :: .int x :: r => mj_if n pc off (f x y) ls r h
  | _ => none
def mj_nul (n pc : Nat) (off : Int) (b : Bool) (ls : List (Option Value)) (st : List Value) (h : MH) : Option MOut := match st with
  | .null :: r => mj_if n pc off b ls r h
  | .ref _ :: r => mj_if n pc off (!b) ls r h
  | _ => none
def mj_li (i len pc n : Nat) (ls : List (Option Value)) (st : List Value) (h : MH) : Option MOut := if n = len then (match ls.getD i none with
  | some (.int x) => mj_nx (pc + len) ls (.int x :: st) h
  | _ => none) else none
def mj_la (i len pc n : Nat) (ls : List (Option Value)) (st : List Value) (h : MH) : Option MOut := if n = len then (match ls.getD i none with
  | some .null => mj_nx (pc + len) ls (.null :: st) h
  | some (.ref a) => mj_nx (pc + len) ls (.ref a :: st) h
  | some (.retAddr a) => mj_nx (pc + len) ls (.retAddr a :: st) h
  | _ => none) else none
def mj_si (i len pc n : Nat) (ls : List (Option Value)) (st : List Value) (h : MH) : Option MOut := if n = len ∧ i < ls.length then (match st with
  | .int x :: r => mj_nx (pc + len) (ls.set i (some (.int x))) r h
  | _ => none) else none
def mj_sa (i len pc n : Nat) (ls : List (Option Value)) (st : List Value) (h : MH) : Option MOut := if n = len ∧ i < ls.length then (match st with
  | .null :: r => mj_nx (pc + len) (ls.set i (some .null)) r h
  | .ref a :: r => mj_nx (pc + len) (ls.set i (some (.ref a))) r h
  | .retAddr a :: r => mj_nx (pc + len) (ls.set i (some (.retAddr a))) r h
  | _ => none) else none
def mj_inc (i n pc : Nat) (k : Int) (ls : List (Option Value)) (st : List Value) (h : MH) : Option MOut := if n = 3 ∧ i < ls.length then (match ls.getD i none with
  | some (.int x) => mj_nx (pc + 3) (ls.set i (some (.int (x + Int32.ofInt k)))) st h
  | _ => none) else none
def mj_kd (h : MH) (a kd : Nat) (i : Int32) : Bool := decide (a < mj_z h) && decide ((mj_m h a).1 = kd) && mj_in i (mj_m h a).2
def mj_ald (kd n pc : Nat) (ls : List (Option Value)) (st : List Value) (h : MH) : Option MOut := if n = 1 then (match st with
  | .int i :: .ref a :: r => if mj_kd h a kd i = true then mj_nx (pc + 1) ls (.int (mj_i h a i.toNatClampNeg) :: r) h else none
  | _ => none) else none
def mj_ast (kd n pc : Nat) (f : Int32 → Int32) (ls : List (Option Value)) (st : List Value) (h : MH) : Option MOut := if n = 1 then (match st with
  | .int x :: .int i :: .ref a :: r => if mj_kd h a kd i = true then mj_nx (pc + 1) ls r (mj_wi h a i.toNatClampNeg (f x)) else none
  | _ => none) else none
/-- the script's and the literals' bytes -/
def mj_lit (i j : Nat) : Int32 := (mt_lits.getD i []).getD j 0
def mj_c1 (v : Value) : Bool := v.category == 1
def mj_call (pc n mj : Nat) (as rest : List Value) : Option MOut := if n = 3 ∧ rest.length ≤ 8 ∧ rest.all mj_c1 = true ∧ as.all mj_c1 = true ∧ as.length = mt_n mj then some (.inr (.inl (mj, as, pc + 3, rest))) else none
def mj_ent (mj : Nat) (as : List Value) : List (Option Value) := as.map some ++ List.replicate (mt_L mj - as.length) none
def mj_cpy (n pc : Nat) (ls : List (Option Value)) (st : List Value) (h : MH) : Option MOut := if n = 3 then (match st with
  | .int k :: .int dp :: .ref a1 :: .int sp :: .ref a0 :: r =>
    if (decide (r.length ≤ 8) && decide (a0 < mj_z h) && decide (a1 < mj_z h) && decide ((mj_m h a0).1 = (mj_m h a1).1) && (decide ((mj_m h a0).1 = 100) || (decide ((mj_m h a0).1 = 102) && (List.range k.toNatClampNeg).all (fun i => fits .char (.int (mj_i h a0 (sp.toNatClampNeg + i))))))
      && !(decide (sp < 0)) && !(decide (dp < 0)) && !(decide (k < 0)) && decide (sp.toNatClampNeg + k.toNatClampNeg ≤ (mj_m h a0).2) && decide (dp.toNatClampNeg + k.toNatClampNeg ≤ (mj_m h a1).2)) = true
    then mj_nx (pc + 3) ls r (mj_wa h a1 (va_cpy (mj_i h a0) (mj_i h a1) sp.toNatClampNeg dp.toNatClampNeg k.toNatClampNeg)) else none
  | _ => none) else none
def mj_ivs (mi pc n idx : Nat) (ls : List (Option Value)) (st : List Value) (h : MH) : Option MOut := match mj_get mt_MS (mt_on mi) idx with
  | none => none
  | some mj => if mj = 9999 then mj_cpy n pc ls st h else mj_call pc n mj (st.take (mt_n mj)).reverse (st.drop (mt_n mj))
def mj_ivp (mi pc n idx : Nat) (ls : List (Option Value)) (st : List Value) (h : MH) : Option MOut := match mj_get mt_MI (mt_on mi) idx with
  | none => none
  | some mj => if mj = 9999 then (match st with
      | .ref _ :: r => if n = 3 ∧ r.length ≤ 8 then mj_nx (pc + 3) ls r h else none
      | _ => none) else (match (st.take (mt_n mj)).reverse with
      | .ref a :: as => mj_call pc n mj (.ref a :: as) (st.drop (mt_n mj))
      | _ => none)
def mj_ivl (mi pc n idx : Nat) (st : List Value) : Option MOut := match mj_get mt_ML (mt_on mi) idx with
  | none => none
  | some mj => match (st.take (mt_n mj)).reverse with
    | .retAddr a :: as => if a % 2 = 1 ∧ a < 2 * mt_lits.length then mj_call pc n mj (.retAddr a :: as) (st.drop (mt_n mj)) else none
    | _ => none
/-- (receiver's class, method) -/
def mj_ivv (mi pc n idx : Nat) (st : List Value) (h : MH) : Option MOut := match mj_get mt_MV (mt_on mi) idx with
  | none => mj_ivl mi pc n idx st
  | some (k, rows) => match (st.take k).reverse with
    | .ref a :: as => if a < mj_z h then (match rows.find? (fun q => q.1 == (mj_m h a).1) with
        | some q => mj_call pc n q.2 (.ref a :: as) (st.drop k)
        | none => none) else none
    | _ => none
def mj_gf (mi pc n idx : Nat) (ls : List (Option Value)) (st : List Value) (h : MH) : Option MOut := if n = 3 then (match st with
  | .ref a :: r => (match mj_get mt_F (mt_on mi) idx with
    | some (ci, k) => if a < mj_z h ∧ mj_m h a = (ci, (mt_cf ci).length) ∧ k < (mt_cf ci).length then mj_nx (pc + 3) ls (mj_rd h ci a k :: r) h else none
    | none => none)
  | .retAddr a :: r => if a % 2 = 1 ∧ a < 2 * mt_lits.length then (match mj_get mt_LF (mt_on mi) idx with
    | some 0 => mj_nx (pc + 3) ls (.retAddr (a + 1) :: r) h
    | some 1 => mj_nx (pc + 3) ls (.int 0 :: r) h
    | _ => none) else none
  | _ => none) else none
def mj_pf (mi pc n idx : Nat) (ls : List (Option Value)) (st : List Value) (h : MH) : Option MOut := if n = 3 then (match mj_get mt_P (mt_on mi) idx with
  | some (ci, k, b) => if (!b || (mt_y mi).name == "<init>") = true then (match st with
    | .int x :: .ref a :: r => if a < mj_z h ∧ mj_m h a = (ci, (mt_cf ci).length) ∧ k < (mt_cf ci).length ∧ mj_fr ci k = false ∧ mj_fit ((mt_cf ci).getD k .int) x = true then mj_nx (pc + 3) ls r (mj_wi h a k x) else none
    | .null :: .ref a :: r => if a < mj_z h ∧ mj_m h a = (ci, (mt_cf ci).length) ∧ k < (mt_cf ci).length ∧ mj_fr ci k = true then mj_nx (pc + 3) ls r (mj_wr h a k none) else none
    | .ref b :: .ref a :: r => if a < mj_z h ∧ mj_m h a = (ci, (mt_cf ci).length) ∧ k < (mt_cf ci).length ∧ mj_fr ci k = true then mj_nx (pc + 3) ls r (mj_wr h a k (some b)) else none
    | _ => none) else none
  | none => none) else none
def mj_len (L n pc : Nat) (ls : List (Option Value)) (st : List Value) (h : MH) : Option MOut := if n = 1 then (match st with
  | .ref a :: r => if a < mj_z h ∧ 100 ≤ (mj_m h a).1 ∧ mt_ty.any (fun q => q.1 == (mj_m h a).1) = true then mj_nx (pc + 1) ls (.int (Int32.ofNat (mj_m h a).2) :: r) h else none
  | .retAddr a :: r => if a = 0 then mj_nx (pc + 1) ls (.int (Int32.ofNat L) :: r) h else if a % 2 = 0 ∧ a ≤ 2 * mt_lits.length then mj_nx (pc + 1) ls (.int (Int32.ofNat (mt_lits.getD (a / 2 - 1) []).length) :: r) h else none
  | _ => none) else none
def mj_ial (L : Nat) (xs : Nat → Int32) (n pc : Nat) (ls : List (Option Value)) (st : List Value) (h : MH) : Option MOut := match st with
  | .int i :: .retAddr 0 :: r => if n = 1 ∧ mj_in i L = true then mj_nx (pc + 1) ls (.int (xs i.toNatClampNeg) :: r) h else none
  | _ => mj_ald 100 n pc ls st h
def mj_bal (n pc : Nat) (ls : List (Option Value)) (st : List Value) (h : MH) : Option MOut := match st with
  | .int i :: .retAddr a :: r => if n = 1 ∧ a % 2 = 0 ∧ 0 < a ∧ a ≤ 2 * mt_lits.length ∧ mj_in i (mt_lits.getD (a / 2 - 1) []).length = true then mj_nx (pc + 1) ls (.int (mj_lit (a / 2 - 1) i.toNatClampNeg) :: r) h else none
  | _ => mj_ald 101 n pc ls st h
def mj_aal (n pc : Nat) (ls : List (Option Value)) (st : List Value) (h : MH) : Option MOut := if n = 1 then (match st with
  | .int i :: .ref a :: r => if (mj_kd h a 200 i || mj_kd h a 201 i) = true then mj_nx (pc + 1) ls (mj_rv (mj_r h a i.toNatClampNeg) :: r) h else none
  | _ => none) else none
def mj_aas (n pc : Nat) (ls : List (Option Value)) (st : List Value) (h : MH) : Option MOut := if n = 1 then (match st with
  | .ref b :: .int i :: .ref a :: r => if b < mj_z h ∧ mt_sub.any (fun q => q.1 == (mj_m h b).1 && q.2 == (mj_m h a).1) = true ∧ mj_kd h a (mj_m h a).1 i = true then mj_nx (pc + 1) ls r (mj_wr h a i.toNatClampNeg (some b)) else none
  | _ => none) else none
def mj_na (kd n len pc : Nat) (ls : List (Option Value)) (st : List Value) (h : MH) : Option MOut := if n = len then (match st with
  | .int k :: r => if ¬ k < 0 ∧ k.toNatClampNeg ≤ 65536 then mj_nx (pc + len) ls (.ref (mj_z h) :: r) (mj_nw h kd k.toNatClampNeg) else none
  | _ => none) else none
def mj_new (mi pc n idx : Nat) (ls : List (Option Value)) (st : List Value) (h : MH) : Option MOut := match mj_get mt_N (mt_on mi) idx with
  | some ci => if n = 3 then mj_nx (pc + 3) ls (.ref (mj_z h) :: st) (mj_nw h ci (mt_cf ci).length) else none
  | none => none
def mj_d1 (n pc : Nat) (ls : List (Option Value)) (st : List Value) (h : MH) : Option MOut := if n = 1 then (match st with
  | v :: r => if (v.category == 1) = true then mj_nx (pc + 1) ls (v :: v :: r) h else none
  | _ => none) else none
def mj_d2 (n pc : Nat) (ls : List (Option Value)) (st : List Value) (h : MH) : Option MOut := if n = 1 then (match st with
  | v :: w :: r => if (v.category == 1 && w.category == 1) = true then mj_nx (pc + 1) ls (v :: w :: v :: w :: r) h else none
  | _ => none) else none
def mj_p1 (n pc : Nat) (ls : List (Option Value)) (st : List Value) (h : MH) : Option MOut := if n = 1 then (match st with
  | v :: r => if (v.category == 1) = true then mj_nx (pc + 1) ls r h else none
  | _ => none) else none
def mj_ldc (mi pc n len idx : Nat) (ls : List (Option Value)) (st : List Value) (h : MH) : Option MOut := match mj_get mt_K (mt_on mi) idx with
  | some v => if n = len then mj_nx (pc + len) ls (v :: st) h else none
  | none => none
def mj_ldw (mi pc n idx : Nat) (ls : List (Option Value)) (st : List Value) (h : MH) : Option MOut := match mj_get mt_K (mt_on mi) idx with
  | some (.int x) => if n = 3 then mj_nx (pc + 3) ls (.int x :: st) h else none
  | _ => none
def mj_gs (mi pc n idx : Nat) (ls : List (Option Value)) (st : List Value) (h : MH) : Option MOut := match mj_get mt_S (mt_on mi) idx with
  | some v => if n = 3 then mj_nx (pc + 3) ls (.int v :: st) h else none
  | none => none
def mj_tsw (pc : Nat) (dflt lo hi : Int) (offs : Array Int) (ls : List (Option Value)) (st : List Value) (h : MH) : Option MOut := match st with
  | .int x :: r => if x.toInt < lo ∨ hi < x.toInt then (if mj_ok pc dflt = true then mj_nx (mj_to pc dflt) ls r h else none)
    else (match offs[(x.toInt - lo).toNat]? with
      | some off => if mj_ok pc off = true then mj_nx (mj_to pc off) ls r h else none
      | none => none)
  | _ => none
def mj_lsw (pc : Nat) (dflt : Int) (ps : Array (Int × Int)) (ls : List (Option Value)) (st : List Value) (h : MH) : Option MOut := match st with
  | .int x :: r => if (ps.toList.zip (ps.toList.drop 1)).all (fun (a, next) => a.1 < next.1) = true ∧ mj_ok pc (Op.lookupswitch.offset ps.toList dflt x.toInt) = true then mj_nx (mj_to pc (Op.lookupswitch.offset ps.toList dflt x.toInt)) ls r h else none
  | _ => none
def mj_vr (mi n : Nat) (st : List Value) : Option MOut := if n = 1 then (match mt_ret mi, st with
  | none, [] => some (.inr (.inr none))
  | _, _ => none) else none
def mj_ir (mi n : Nat) (st : List Value) : Option MOut := if n = 1 then (match mt_ret mi, st with
  | some ty, [.int x] => if mj_fit ty x = true ∧ mj_isR ty = false then some (.inr (.inr (some (.int x)))) else none
  | _, _ => none) else none
def mj_ar (mi n : Nat) (st : List Value) : Option MOut := if n = 1 then (match mt_ret mi, st with
  | some ty, [.ref a] => if mj_isR ty = true then some (.inr (.inr (some (.ref a)))) else none
  | _, _ => none) else none
def mj_ex (L : Nat) (xs : Nat → Int32) (mi pc : Nat) (ls : List (Option Value)) (st : List Value) (h : MH) (i : ClassFile.Instr) (n : Nat) : Option MOut := match i with
  | .iconst k => if n = 1 then mj_nx (pc + 1) ls (.int (Int32.ofInt k) :: st) h else none
  | .bipush k => if n = 2 then mj_nx (pc + 2) ls (.int (Int8.ofInt k).toInt32 :: st) h else none
  | .sipush k => if n = 3 then mj_nx (pc + 3) ls (.int (Int16.ofInt k).toInt32 :: st) h else none
  | .aconst_null => if n = 1 then mj_nx (pc + 1) ls (.null :: st) h else none
  | .ldc idx => mj_ldc mi pc n 2 idx ls st h
  | .ldc_w idx => mj_ldw mi pc n idx ls st h
  | .iload i => mj_li i 2 pc n ls st h
  | .iload_n i => mj_li i.val 1 pc n ls st h
  | .aload i => mj_la i 2 pc n ls st h
  | .aload_n i => mj_la i.val 1 pc n ls st h
  | .istore i => mj_si i 2 pc n ls st h
  | .istore_n i => mj_si i.val 1 pc n ls st h
  | .astore i => mj_sa i 2 pc n ls st h
  | .astore_n i => mj_sa i.val 1 pc n ls st h
  | .iinc i k => mj_inc i n pc k ls st h
  | .iadd => mj_bi n pc ls st h (fun _ => true) (fun x y => x + y)
  | .isub => mj_bi n pc ls st h (fun _ => true) (fun x y => x - y)
  | .imul => mj_bi n pc ls st h (fun _ => true) (fun x y => x * y)
  | .iand => mj_bi n pc ls st h (fun _ => true) (fun x y => x &&& y)
  | .ior => mj_bi n pc ls st h (fun _ => true) (fun x y => x ||| y)
  | .ixor => mj_bi n pc ls st h (fun _ => true) (fun x y => x ^^^ y)
  | .ishl => mj_bi n pc ls st h (fun _ => true) (fun x y => x <<< (y &&& 31))
  | .ishr => mj_bi n pc ls st h (fun _ => true) (fun x y => x >>> (y &&& 31))
  | .iushr => mj_bi n pc ls st h (fun _ => true) (fun x y => (x.toUInt32 >>> (y.toUInt32 &&& Int32.toUInt32 31)).toInt32)
  | .idiv => mj_bi n pc ls st h (fun y => !(y == 0)) (fun x y => x / y)
  | .irem => mj_bi n pc ls st h (fun y => !(y == 0)) (fun x y => x - x / y * y)
  | .ineg => mj_un n pc ls st h (fun x => -x)
  | .i2c => mj_un n pc ls st h (fun x => (x.toUInt32 % 65536).toInt32)
  | .i2b => mj_un n pc ls st h (fun x => x.toInt8.toInt32)
  | .goto off => if n = 3 ∧ mj_ok pc off = true then mj_nx (mj_to pc off) ls st h else none
  | .ifCond .eq off => mj_i1 n pc off (fun x => decide (x = 0)) ls st h
  | .ifCond .ne off => mj_i1 n pc off (fun x => decide (¬ x = 0)) ls st h
  | .ifCond .lt off => mj_i1 n pc off (fun x => decide (x < 0)) ls st h
  | .ifCond .ge off => mj_i1 n pc off (fun x => decide (0 ≤ x)) ls st h
  | .ifCond .gt off => mj_i1 n pc off (fun x => decide (0 < x)) ls st h
  | .ifCond .le off => mj_i1 n pc off (fun x => decide (x ≤ 0)) ls st h
  | .if_icmp .eq off => mj_i2 n pc off (fun x y => decide (x = y)) ls st h
  | .if_icmp .ne off => mj_i2 n pc off (fun x y => decide (¬ x = y)) ls st h
  | .if_icmp .lt off => mj_i2 n pc off (fun x y => decide (x < y)) ls st h
  | .if_icmp .ge off => mj_i2 n pc off (fun x y => decide (y ≤ x)) ls st h
  | .if_icmp .gt off => mj_i2 n pc off (fun x y => decide (y < x)) ls st h
  | .if_icmp .le off => mj_i2 n pc off (fun x y => decide (x ≤ y)) ls st h
  | .ifnull off => mj_nul n pc off true ls st h
  | .ifnonnull off => mj_nul n pc off false ls st h
  | .dup => mj_d1 n pc ls st h
  | .dup2 => mj_d2 n pc ls st h
  | .pop => mj_p1 n pc ls st h
  | .getfield idx => mj_gf mi pc n idx ls st h
  | .putfield idx => mj_pf mi pc n idx ls st h
  | .getstatic idx => mj_gs mi pc n idx ls st h
  | .iaload => mj_ial L xs n pc ls st h
  | .baload => mj_bal n pc ls st h
  | .caload => mj_ald 102 n pc ls st h
  | .aaload => mj_aal n pc ls st h
  | .iastore => mj_ast 100 n pc (fun x => x) ls st h
  | .bastore => mj_ast 101 n pc (fun x => vp_nar .boolean x) ls st h
  | .castore => mj_ast 102 n pc (fun x => vp_nar .char x) ls st h
  | .aastore => mj_aas n pc ls st h
  | .arraylength => mj_len L n pc ls st h
  | .newarray .int => mj_na 100 n 2 pc ls st h
  | .newarray .boolean => mj_na 101 n 2 pc ls st h
  | .newarray .char => mj_na 102 n 2 pc ls st h
  | .anewarray idx => (match mj_get mt_NA (mt_on mi) idx with
    | some kd => mj_na kd n 3 pc ls st h
    | none => none)
  | .new idx => mj_new mi pc n idx ls st h
  | .tableswitch dflt lo hi offs => mj_tsw pc dflt lo hi offs ls st h
  | .lookupswitch dflt ps => mj_lsw pc dflt ps ls st h
  | .invokestatic idx => mj_ivs mi pc n idx ls st h
  | .invokespecial idx => mj_ivp mi pc n idx ls st h
  | .invokevirtual idx => mj_ivv mi pc n idx st h
  | .return_ => mj_vr mi n st
  | .ireturn => mj_ir mi n st
  | .areturn => mj_ar mi n st
  | _ => none
def mj_ft (mi pc : Nat) : Option (ClassFile.Instr × Nat) := match decode (mt_b mi) pc with
  | .ok x => some x
  | .error _ => none
/-- n: how many instructions at most; d: how many frames above this one -/
def mj_run (L : Nat) (xs : Nat → Int32) : (n d mi pc : Nat) → (ls : List (Option Value)) → (st : List Value) → (h : MH) → Option (Option Value × MH)
  | 0, _, _, _, _, _, _ => none
  | n + 1, d, mi, pc, ls, st, h => match mj_ft mi pc with
    | none => none
    | some (i, len) => match mj_ex L xs mi pc ls st h i len with
      | none => none
      | some (.inl f) => mj_run L xs n d mi f.1 f.2.1 f.2.2.1 f.2.2.2
      | some (.inr (.inr v)) => some (v, h)
      | some (.inr (.inl q)) => match d with
        | 0 => none
        | d + 1 => match mj_run L xs n d q.1 0 (mj_ent q.1 q.2.1) [] h with
          | none => none
          | some r => mj_run L xs n (d + 1) mi q.2.2.1 ls (r.1.toList ++ q.2.2.2) r.2
def mj_Wp (L : Nat) (xs : Nat → Int32) (d mi pc : Nat) (ls : List (Option Value)) (st : List Value) (h : MH) (Q : Option Value × MH → Prop) : Prop := ∃ n r, mj_run L xs n d mi pc ls st h = some r ∧ Q r
