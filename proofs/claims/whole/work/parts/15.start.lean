/-! THE CLAIM OUT OF ONE WALK OF THE LAW'S BODY. Your part is whole_start (and what it stands on); all else here is the same for every law, but numbers. -/
def R_law : String := "HealBenchLaw"
def lw_P (b : Addr) (xs : List Int32) (args : Array Value) (s : State) : Prop := args = #[.ref b] ∧ s.IntsAt b xs ∧ xs.length ≤ 1536 ∧ (Jvm.Cond.and given_1 narrow_1).before args s = true
def lw_Q (_ : Array Value) (s : State) (o : Outcome) (t : State) : Prop := o = .returned (some (.int 1)) ∧ Framed s o t [] 600000 7302250
def lw_Z (below : List Frame) (a : Array Value) (s : State) : State → Prop := fun t => ∃ o, t.status = .running ∧ Ended t below o ∧ lw_Q a s o t
/-- the law's own end, with 1 on the stack, nothing written that was there before, its room as the claim has it -/
theorem lw_ret {p : Program} {l : Launch} {e : Env} {s : State} {m : MethodId} {below : List Frame} {meth : Method} {c : Code} {b : Nat} (hx : p.tables.exec = Jvm.exec) (hb : c.code = code) (hr : meth.sig.returnType = ret) (hlocks : meth.locks = false) {pc : Nat} {H : Heap} {ls : Array Slot} (hdg : decode code pc = .ok (.ireturn, 1)) : W p l e room_1 s m #[Value.ref b] below meth c H [] 600000 7302250 (lw_Z below #[Value.ref b] s) (F0 m pc ls [.int 1]) := by
  intro T hT X
  obtain ⟨fs, hret, hrun, hended, hW, hframe⟩ := X.leave (v := some (.int 1)) (hlocks := hlocks) (fun h => by rw [hr] at h; cases h)
  have hmeth' : T.vm.method? m = some meth := X.method'
  refine ⟨T.setFrames fs, ?_, .returned (some (.int 1)), hrun, hended, rfl, ⟨_, rfl⟩, hW, hframe⟩
  jvm_step X.here [X.here.top, hx, hb, hdg, hmeth', hr, ret, narrow_b1]
  (try refine ⟨rfl, ?_⟩); (try refine ⟨rfl, ?_⟩)
  first | (intro acts; rw [hret _ acts rfl rfl rfl]) | rw [hret _ _ rfl rfl rfl]
  exact Steps.refl _
/-- what holds at the law's entry: the machine, the code, the tables' words (any of lw_tbl by 'hts w (by decide +kernel)'), the script of L ints xs at the cell b, what the Statement gives of the start (any of its parts by flat_of_before) -/
def lw_At (p : Program) (s : State) (m : MethodId) (meth : Method) (c : Code) (b L : Nat) (xs : Nat → Int32) : Prop :=
  p.tables.exec = Jvm.exec ∧ c.code = code ∧ meth.sig.returnType = ret ∧ c.maxLocals = 4 ∧ s.vm.findClass R_law = some m.cls ∧ (∀ w ∈ lw_tbl, w.before #[Value.ref b] s = true) ∧ va_X b L xs s s.heap ∧ b < s.heap.size ∧ meth.locks = false ∧ (Jvm.Cond.and given_1 narrow_1).before #[Value.ref b] s = true
/-! The claim out of the small machine's run of the law. -/
def mj_h0 : MH := (0, 0, fun _ => (0, 0), fun _ _ => 0, fun _ _ => none)
/-- what is left to prove: the small machine's run of the law ends with 1, within the room -/
def mj_Law : Prop := ∀ (L : Nat) (xs : Nat → Int32), L ≤ 1536 → mj_Wp L xs 1000 0 0 [some (.retAddr 0), none, none, none] [] mj_h0 (fun r => r.1 = some (.int 1) ∧ mj_z r.2 ≤ 600000 ∧ mj_u r.2 ≤ 7302250)
def mj_tm (i : Nat) : Term := if i = 0 then .string "HealBench$Reader" 84 else .string "HealBench$Reader" 92
def mj_sg (b : Nat) (adK adV : Nat → Nat) (k : Nat) : Nat := if k = 0 then b else if k % 2 = 1 then adK (k / 2) else adV (k / 2 - 1)
theorem mj_sg1 {b : Nat} {adK adV : Nat → Nat} (i : Nat) : mj_sg b adK adV (2 * i + 1) = adK i := by
  unfold mj_sg
  rw [if_neg (by omega), if_pos (by omega)]
  congr 1
  omega
theorem mj_sg2 {b : Nat} {adK adV : Nat → Nat} (i : Nat) : mj_sg b adK adV (2 * i + 2) = adV i := by
  unfold mj_sg
  rw [if_neg (by omega), if_neg (by omega)]
  congr 1
  omega
theorem mj_lit_ex : ∀ i, i < 2 → Cond.exactly (mj_tm i) "java/lang/String" ∈ flatC (Jvm.Cond.and given_1 narrow_1) := by decide +kernel
theorem mj_lit_co : ∀ i, i < 2 → Cond.eq (.field (mj_tm i) "java/lang/String" "coder" "B") (.int 0) ∈ flatC (Jvm.Cond.and given_1 narrow_1) := by decide +kernel
theorem mj_lit_ar : ∀ i, i < 2 → Cond.arrayOf (.field (mj_tm i) "java/lang/String" "value" "[B") .byte ∈ flatC (Jvm.Cond.and given_1 narrow_1) := by decide +kernel
theorem mj_lit_le : ∀ i, i < 2 → Cond.eq (.length (.field (mj_tm i) "java/lang/String" "value" "[B")) (.int (Int32.ofNat ((mt_lits.map List.length).getD i 0))) ∈ flatC (Jvm.Cond.and given_1 narrow_1) := by decide +kernel
theorem mj_lit_el : ∀ i, i < 2 → ∀ j, j < (mt_lits.map List.length).getD i 0 → Cond.eq (.elem (.field (mj_tm i) "java/lang/String" "value" "[B") (.int (Int32.ofNat j))) (.int ((mt_lits.getD i []).getD j 0)) ∈ flatC (Jvm.Cond.and given_1 narrow_1) := by decide +kernel
theorem mj_lit_ne : Cond.not (Cond.eq (mj_tm 0) (mj_tm 1)) ∈ flatC (Jvm.Cond.and given_1 narrow_1) := by decide +kernel
theorem mj_lit_cs : Cond.eq (.static "java/lang/String" "COMPACT_STRINGS" "Z") (.int 1) ∈ flatC (Jvm.Cond.and given_1 narrow_1) := by decide +kernel
theorem mj_w_str : Cond.stringRef "HealBench$Reader" 84 "0123456789xidmMlunk" ∈ tables_1 ∧ Cond.stringRef "HealBench$Reader" 92 "yj" ∈ tables_1 ∧ Cond.laysStatic "java/lang/String" "COMPACT_STRINGS" "Z" ∈ tables_1 ∧ Cond.initialized "java/lang/String" ∈ tables_1 ∧ Cond.arrayOver (.object "HealBench$Test") ∈ tables_1 ∧ Cond.arrayOver (.object "HealBench$Sum") ∈ tables_1 := by decide +kernel
theorem mj_ends {below : List Frame} {args : Array Value} {s : State} {g : mj_G} {r : Option Value × MH} (hz : g.1 = s.heap.size) (h1 : r.1 = some (.int 1)) : ∀ t, MQ below (mj_Q g r) args s 600000 7302250 (mj_A g) t → lw_Z below args s t := by
  rintro t ⟨o, h2, h3, ⟨h4, -, -⟩, L, ⟨h5, h6, h7⟩, h8⟩
  refine ⟨o, h2, h3, ?_, h5, h6, ?_⟩
  · rw [h4, h1]
    rfl
  · refine State.sameButNew.drop_fresh (L := []) (J := L) h7 (fun q hq => ?_)
    have := h8 q hq
    show s.heap.size ≤ q.base
    rw [← hz]
    exact this
theorem mj_arrOf {s : State} {ty : FieldType} {args : Array Value} (h : (Cond.arrayClass ty).before args s = true) : ∃ c : ClassId, s.vm.findClass ("[" ++ ty.toString) = some c ∧ ArrOfT s c ty := by
  obtain ⟨c, k, comp, h1, h2, h3⟩ := Cond.arrayClass_spec h
  exact ⟨c, h1, fun n z => ⟨fun k h => (by cases h), k, h2, comp, h3⟩⟩
theorem mj_arrOver {s : State} {C : String} {args : Array Value} (h : (Cond.arrayOver (.object C)).before args s = true) : ∃ c : ClassId, ArrOfT s c (.object C) ∧ va_RA s c (.object C) := by
  obtain ⟨comp, c, k, h1, -, h3, h4, h5⟩ := Cond.arrayOver_spec h
  exact ⟨c, fun n z => ⟨fun k h => (by cases h), k, h3, comp, h4⟩, k, comp, h3, h4, h1, h5⟩
set_option maxHeartbeats 4000000 in
theorem whole_from (hall : mj_Law) {p : Program} {e : Env} {s : State} {m : MethodId} {below : List Frame} {meth : Method} {c : Code} (l : Launch) {b L : Nat} {xs : Nat → Int32} (hL : L ≤ 1536) (C0 : lw_At p s m meth c b L xs) : W p l e room_1 s m #[Value.ref b] below meth c s.heap [] 0 0 (lw_Z below #[Value.ref b] s) (entryFrame m ([Value.ref b] : List Value).toArray 4) := by
  obtain ⟨hx, hb, hr, hml, hown, hts, hX, hbl, hlk, hgv⟩ := C0
  have hfl := flat_of_before _ hgv
  have htb : ∀ w ∈ mt_TB, w.before #[Value.ref b] s = true := fun w hw => hts w (List.mem_filter.mp hw).1
  have ht1 : ∀ w ∈ tables_1, w.before #[Value.ref b] s = true := fun w hw => hts w (List.mem_append_right _ hw)
  obtain ⟨ws1, ws2, ws3, ws4, ws5, ws6⟩ := mj_w_str
  -- classes
  have hD : ∀ ci : Nat, ∃ q : ClassId × (Nat → Nat), ∀ r : vw_C, mt_cl[ci]? = some r → u_Kn s r.1 r.2.1 r.2.2 q.1 q.2 := by
    intro ci
    cases hc : mt_cl[ci]? with
    | none => exact ⟨(0, fun _ => 0), fun r h => by cases h⟩
    | some r0 =>
      obtain ⟨-, -, -, -, f4, -⟩ := mt_ok_cl ci r0 hc
      obtain ⟨cC, iS, hk⟩ := u_known htb f4 (htb _ (mt_ok_in ci r0 hc))
      exact ⟨(cC, iS), fun r h => by cases h; exact hk⟩
  -- array classes
  obtain ⟨a0, a01, a02⟩ := mj_arrOf (htb _ mt_arr0)
  obtain ⟨a1, a11, a12⟩ := mj_arrOf (htb _ mt_arr1)
  obtain ⟨a2, a21, a22⟩ := mj_arrOf (htb _ mt_arr2)
  obtain ⟨a3, a31, a32⟩ := mj_arrOver (ht1 _ ws5)
  obtain ⟨a4, a41, a42⟩ := mj_arrOver (ht1 _ ws6)
  -- literals
  have hnA : ∀ a : Nat, a < s.heap.size → ¬ (fun q => s.heap.size ≤ q) a := fun a h z => Nat.not_le.mpr h z
  obtain ⟨adK, adV, hS, hSe⟩ := vk_Sof (args := #[Value.ref b]) (s := s) (N := mt_lits.length) (tm := mj_tm) (len := mt_lits.map List.length) (byt := mt_lits) (A := fun q => s.heap.size ≤ q)
    (by decide) (fun i hi => hfl _ (mj_lit_ex i hi)) (fun i hi => hfl _ (mj_lit_co i hi)) (fun i hi => hfl _ (mj_lit_ar i hi)) (fun i hi => hfl _ (mj_lit_le i hi)) (fun i hi j hj => hfl _ (mj_lit_el i hi j hj))
    (fun i j hi hj hij => by
      have h2 : mt_lits.length = 2 := rfl
      have e : (i = 0 ∧ j = 1) ∨ (i = 1 ∧ j = 0) := by omega
      rcases e with ⟨rfl, rfl⟩ | ⟨rfl, rfl⟩
      · exact Or.inl (hfl _ mj_lit_ne)
      · exact Or.inr (hfl _ mj_lit_ne)) hnA
  obtain ⟨dK, hdK⟩ : ∃ f : Nat → ClassId × (Nat → Nat), ∀ ci r, mt_cl[ci]? = some r → u_Kn s r.1 r.2.1 r.2.2 (f ci).1 (f ci).2 := ⟨fun ci => Classical.choose (hD ci), fun ci => Classical.choose_spec (hD ci)⟩
  obtain ⟨g, hg⟩ : ∃ g : mj_G, g = (s.heap.size, (fun ci => (dK ci).1, fun ci => (dK ci).2), (fun kd => if kd = 100 then a0 else if kd = 101 then a1 else if kd = 102 then a2 else if kd = 200 then a3 else a4), mj_sg b adK adV, L, xs) := ⟨_, rfl⟩
  have hT : mj_Tab g s := by
    subst hg
    refine ⟨⟨fun ci r h => hdK ci r h, fun k q hk => ?_⟩, fun w hw => ?_, hX, hbl, ?_, fun q hq => ?_, fun q hq => ?_, fun C hC => ?_⟩
    · match k, hk with
      | 0, hk => cases hk; exact ⟨a02, a01⟩
      | 1, hk => cases hk; exact ⟨a12, a11⟩
      | 2, hk => cases hk; exact ⟨a22, a21⟩
      | 3, hk => cases hk; exact ⟨a31, a32⟩
      | 4, hk => cases hk; exact ⟨a41, a42⟩
      | n + 5, hk => simp [mj_tys, mt_ty] at hk
    · have hw1 := (List.mem_filter.mp hw).1
      have hw2 := (List.mem_filter.mp hw).2
      have hw3 := hts w hw1
      cases w <;> first | exact va_Nw.of rfl hw3 | (simp [mj_isNest] at hw2; done)
    · have e1 : (fun i => mj_sg b adK adV (2 * i + 1)) = adK := funext mj_sg1
      have e2 : (fun i => mj_sg b adK adV (2 * i + 2)) = adV := funext mj_sg2
      show vk_S _ _ _ (fun i => mj_sg b adK adV (2 * i + 1)) (fun i => mj_sg b adK adV (2 * i + 2)) _ _ _
      rw [e1, e2]
      exact hS
    · simp only [mt_KS, List.mem_cons, List.not_mem_nil, or_false] at hq
      rcases hq with rfl | rfl
      · exact vk_R.of (A := #[Value.ref b]) (ht1 _ ws1) (by
          show Term.eval _ _ _ _ _ _ = some (.ref (mj_sg b adK adV (2 * 0 + 1)))
          rw [mj_sg1]
          exact hSe 0 (by decide))
      · exact vk_R.of (A := #[Value.ref b]) (ht1 _ ws2) (by
          show Term.eval _ _ _ _ _ _ = some (.ref (mj_sg b adK adV (2 * 1 + 1)))
          rw [mj_sg1]
          exact hSe 1 (by decide))
    · simp only [mt_SZ, List.mem_cons, List.not_mem_nil, or_false] at hq
      subst hq
      exact va_Zof (ht1 _ ws3) (ht1 _ ws4) (va_eqi (hfl _ mj_lit_cs)) hnA
    · simp only [mt_AO, List.mem_cons, List.not_mem_nil, or_false] at hC
      rcases hC with rfl | rfl
      · exact va_AO.of (ht1 _ ws5)
      · exact va_AO.of (ht1 _ ws6)
  have hz : g.1 = s.heap.size := by rw [hg]
  obtain ⟨n, r, hrun, hr1, hr2, hr3⟩ := hall L xs hL
  have hLx : g.2.2.2.2.1 = L ∧ g.2.2.2.2.2 = xs := by rw [hg]; exact ⟨rfl, rfl⟩
  rw [← hLx.1, ← hLx.2] at hrun
  have hsim := (mj_sound g l n 1000 0 0 _ [] mj_h0 r hrun).2
  have hLo := mj_ent_Lo (g := g) (mj := 0) (as := [.retAddr 0]) (fun w hw => by
    simp only [List.mem_cons, List.not_mem_nil, or_false] at hw
    subst hw
    rfl) (by decide)
  have hW := hsim p e room_1 s m #[Value.ref b] below meth c s.heap [] 0 0 600000 7302250 _ ⟨hx, hb, hml, hr, hlk, hown, fun h => absurd h (by decide), htb, hT, Nat.le_of_eq hz, by decide, by decide⟩
    ⟨by rw [hz]; rfl, fun k q hk => by simp [mj_ws, mj_z, mj_h0] at hk⟩ hLo va_S.rf rfl (by show 0 + mj_z r.2 ≤ 600000 + 0; omega) (by show 0 + mj_u r.2 ≤ 7302250 + 0; omega) (Nat.le_refl _) (Nat.le_refl _)
  rw [lg_entry_eq]
  intro T hT0 X
  obtain ⟨t, q1, q2⟩ := hW T hT0 X
  have hbv : mj_v g (.retAddr 0) = Value.ref b := by rw [hg]; rfl
  refine ⟨t, ?_, mj_ends hz hr1 t q2⟩
  have e9 : [Value.retAddr 0].map (mj_v g) = [Value.ref b] := by rw [List.map_cons, hbv]; rfl
  rw [e9] at q1
  exact q1
