/-! What the tables' rows must say. -/
def mt_row (i : Nat) : mt_Row := mt_T.getD i (⟨"", "", ""⟩, ⟨#[]⟩, 0, none, 0, 0)
def mt_y (i : Nat) : MethodName := (mt_row i).1
def mt_b (i : Nat) : ByteArray := (mt_row i).2.1
def mt_L (i : Nat) : Nat := (mt_row i).2.2.1
def mt_ret (i : Nat) : Option FieldType := (mt_row i).2.2.2.1
def mt_on (i : Nat) : Nat := (mt_row i).2.2.2.2.1
def mt_n (i : Nat) : Nat := (mt_row i).2.2.2.2.2
def mt_cf (ci : Nat) : List FieldType := mt_fts.getD ci []
def mj_isR : FieldType → Bool
  | .object _ => true
  | .array _ => true
  | _ => false
def mj_fr (ci k : Nat) : Bool := mj_isR ((mt_cf ci).getD k .int)
def mt_lkF (own : String) (i : Nat) (f : String × String × String × Bool) : Prop := Cond.fieldLink own i f.1 f.2.1 f.2.2.1 ∈ mt_TB ∨ ∃ host, Cond.fieldLinkNest own i f.1 f.2.1 f.2.2.1 host ∈ mt_NW
def mt_Pf (e : (Nat × Nat) × (Nat × Nat)) : Prop := ∃ r : vw_C, mt_cl[e.2.1]? = some r ∧ e.2.2 < r.2.2 ∧ mt_lkF (mt_cn e.1.1) e.1.2 (r.2.1 e.2.2)
def mt_Pp (e : (Nat × Nat) × (Nat × Nat × Bool)) : Prop := ∃ r : vw_C, mt_cl[e.2.1]? = some r ∧ e.2.2.1 < r.2.2 ∧ (r.2.1 e.2.2.1).2.2.2 = e.2.2.2 ∧ (match e.2.2.2 with
  | true => Cond.fieldLink (mt_cn e.1.1) e.1.2 (r.2.1 e.2.2.1).1 (r.2.1 e.2.2.1).2.1 (r.2.1 e.2.2.1).2.2.1 ∈ mt_TB ∧ (r.2.1 e.2.2.1).1 = mt_cn e.1.1
  | false => mt_lkF (mt_cn e.1.1) e.1.2 (r.2.1 e.2.2.1))
def mt_Pl (e : (Nat × Nat) × Nat) : Prop := (e.2 = 0 → Cond.fieldLink (mt_cn e.1.1) e.1.2 "java/lang/String" "value" "[B" ∈ mt_TB) ∧ (e.2 = 1 → Cond.fieldLink (mt_cn e.1.1) e.1.2 "java/lang/String" "coder" "B" ∈ mt_TB)
def mt_Ps (e : (Nat × Nat) × Int32) : Prop := ∃ (C n f : String), (C, n, f, e.2) ∈ mt_SZ ∧ Cond.fieldLink (mt_cn e.1.1) e.1.2 C n f ∈ mt_TB
def mt_Pk (e : (Nat × Nat) × Value) : Prop := (∃ x : Int32, e.2 = .int x ∧ Cond.constant (mt_cn e.1.1) e.1.2 x ∈ mt_TB) ∨ ∃ (j : Nat) (tx : String), e.2 = .retAddr (2 * j + 1) ∧ (mt_cn e.1.1, e.1.2, tx, j) ∈ mt_KS
def mt_Pn (e : (Nat × Nat) × Nat) : Prop := ∃ r : vw_C, mt_cl[e.2]? = some r ∧ Cond.classLink (mt_cn e.1.1) e.1.2 r.1 ∈ mt_TB ∧ Cond.instantiable r.1 r.2.2 ∈ mt_TB ∧ Cond.initialized r.1 ∈ mt_TB
def mt_Pa (e : (Nat × Nat) × Nat) : Prop := ∃ (t : Nat) (C : String), mt_ty[t]? = some (e.2, FieldType.object C) ∧ 200 ≤ e.2 ∧ Cond.classLink (mt_cn e.1.1) e.1.2 C ∈ mt_TB ∧ C ∈ mt_AO
def mt_lkM (own : String) (i : Nat) (y : MethodName) : Prop := Cond.methodLink own i y ∈ mt_TB ∨ ∃ host, Cond.methodLinkNest own i y host ∈ mt_NW
def mt_Pms (e : (Nat × Nat) × Nat) : Prop := (e.2 = 9999 → Cond.methodLink (mt_cn e.1.1) e.1.2 arraycopyName ∈ mt_TB) ∧ (¬ e.2 = 9999 → (0 < e.2 ∧ e.2 < mt_T.length) ∧ mt_lkM (mt_cn e.1.1) e.1.2 (mt_y e.2) ∧ Cond.static (mt_y e.2) ∈ mt_TB ∧ (parseMethodDescriptor (mt_y e.2).desc).map (fun d => d.parameters.length) = some (mt_n e.2))
def mt_Pmi (e : (Nat × Nat) × Nat) : Prop := (e.2 = 9999 → Cond.methodLink (mt_cn e.1.1) e.1.2 Lib.objectInit ∈ mt_TB) ∧ (¬ e.2 = 9999 → (0 < e.2 ∧ e.2 < mt_T.length) ∧ mt_lkM (mt_cn e.1.1) e.1.2 (mt_y e.2) ∧ Cond.instanceMethod (mt_y e.2) ∈ mt_TB ∧ (mt_y e.2).name = "<init>" ∧ mt_ret e.2 = none ∧ (parseMethodDescriptor (mt_y e.2).desc).map (fun d => d.parameters.length) = some (mt_n e.2 - 1))
/-- how a virtual call of C's method mj is linked at idx -/
def mj_lkV (own : String) (idx : Nat) (C : String) (mj : Nat) : Prop :=
  (Cond.methodLink own idx (mt_y mj) ∈ mt_TB ∧ Cond.selects C (mt_y mj) (mt_y mj) ∈ mt_TB) ∨ (∃ host, Cond.methodLinkNest own idx (mt_y mj) host ∈ mt_NW ∧ Cond.selects C (mt_y mj) (mt_y mj) ∈ mt_TB)
  ∨ ∃ (x : MethodName) (owner : String), Cond.methodLink own idx x ∈ mt_TB ∧ Cond.sameMethod x.cls owner x.name x.desc ∈ mt_TB ∧ Cond.selects C x (mt_y mj) ∈ mt_TB ∧ Cond.declares ⟨owner, x.name, x.desc⟩ ∈ mt_NW ∧ owner ≠ "java/lang/invoke/MethodHandle" ∧ owner ≠ "java/lang/invoke/VarHandle" ∧ x.desc = (mt_y mj).desc
def mt_Pv1 (own : String) (idx : Nat) (q : Nat × Nat) : Prop := (0 < q.2 ∧ q.2 < mt_T.length) ∧ Cond.instanceMethod (mt_y q.2) ∈ mt_TB ∧ (parseMethodDescriptor (mt_y q.2).desc).map (fun d => d.parameters.length) = some (mt_n q.2 - 1) ∧ ∃ r : vw_C, mt_cl[q.1]? = some r ∧ mj_lkV own idx r.1 q.2
def mt_Pmv (e : (Nat × Nat) × (Nat × List (Nat × Nat))) : Prop := ∀ q ∈ e.2.2, mt_Pv1 (mt_cn e.1.1) e.1.2 q
def mt_Pml (e : (Nat × Nat) × Nat) : Prop := (0 < e.2 ∧ e.2 < mt_T.length) ∧ Cond.instanceMethod (mt_y e.2) ∈ mt_TB ∧ (parseMethodDescriptor (mt_y e.2).desc).map (fun d => d.parameters.length) = some (mt_n e.2 - 1) ∧ mj_lkV (mt_cn e.1.1) e.1.2 "java/lang/String" e.2
def mt_Pb (q : Nat × Nat) : Prop := ∃ (t : Nat) (C : String) (r : vw_C), mt_ty[t]? = some (q.2, FieldType.object C) ∧ 200 ≤ q.2 ∧ mt_cl[q.1]? = some r ∧ (r.1 = C ∨ Cond.castable r.1 C ∈ mt_NW)
def mt_Pc (ci : Nat) (r : vw_C) : Prop := ci < 100 ∧ r.2.2 = (mt_cf ci).length ∧ (∀ k, k < r.2.2 → parseFieldDescriptor (r.2.1 k).2.2.1 = some ((mt_cf ci).getD k .int)) ∧ (∀ a, a < r.2.2 → ∀ b, b < r.2.2 → a ≠ b → (r.2.1 a).2.1 ≠ (r.2.1 b).2.1) ∧ (∀ w ∈ u_ws r.1 r.2.1 r.2.2, w ∈ mt_TB) ∧ ∀ k, k < r.2.2 → defaultValue ((mt_cf ci).getD k .int) = if mj_fr ci k then .null else .int 0
