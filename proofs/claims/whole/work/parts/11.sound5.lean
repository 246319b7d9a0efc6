/-! Calls of the small machine. -/
theorem mj_c1_sum : ∀ (l : List Value), l.all mj_c1 = true → (l.map fun v => v.category).sum = l.length
  | [], _ => rfl
  | v :: l, hv => by
    simp only [List.all_cons, Bool.and_eq_true] at hv
    have h2 := mj_c1_sum l hv.2
    have h1 : v.category = 1 := by simpa [mj_c1] using hv.1
    simp only [List.map_cons, List.sum_cons, List.length_cons]
    omega
theorem mj_c1_map {g : mj_G} : ∀ (l : List Value), l.all mj_c1 = true → (l.map (mj_v g)).all mj_c1 = true
  | [], _ => rfl
  | v :: l, hv => by
    simp only [List.all_cons, Bool.and_eq_true] at hv
    have h1 : v.category = 1 := by simpa [mj_c1] using hv.1
    simp only [List.map_cons, List.all_cons, Bool.and_eq_true]
    exact ⟨by simp [mj_c1, mj_v_cat h1], mj_c1_map l hv.2⟩
theorem mj_c1_of {as : List Value} (h : as.all mj_c1 = true) : ∀ w ∈ as, w.category = 1 := fun w hw => by
  have := List.all_eq_true.mp h w hw
  simpa [mj_c1] using this
section Calls
variable {g : mj_G} {l : Launch} {d mi pc : Nat} {ls : List (Option Value)} {h : MH} {r r1 : Option Value × MH} {as rest : List Value} {idx mj : Nat}
theorem mj_blind : FrameBlind (mj_Pc g as h) := by
  intro a U gg mk q
  obtain ⟨q0, q1, q2, q3⟩ := q
  exact ⟨q0, q1, mj_Tab_eq q2 rfl rfl, q3⟩
theorem mj_pre {p : Program} {R : Room} {s : State} {m : MethodId} {args : Array Value} {meth : Method} {c : Code} {H : Heap} {locs : List Loc} (X : mj_Cx g d mi p R s m args meth c) (hH : mj_Hp g h H) (hS : va_S (mj_A g) s.heap H locs) : ∀ U : State, U.heap = H → s.WarmedH U.vm → mj_Pc g as h (as.map (mj_v g)).toArray U := by
  intro U hU hW
  have hz := X.2.2.2.2.2.2.2.2.2.1
  refine ⟨rfl, by rw [hU]; exact hH, mj_Tab_mv X.2.2.2.2.2.2.2.2.1 hW hz (fun q h1 h2 => by rw [hU]; exact hS.2.1 q h1 h2), by rw [hU]; exact Nat.le_trans hz hS.1⟩
/-- what goes on behind a call, whichever it was -/
theorem mj_back {p : Program} {e : Env} {R : Room} {s : State} {m : MethodId} {args : Array Value} {below : List Frame} {meth : Method} {c : Code} {H : Heap} {locs : List Loc} {cells slots mc ms mc1 ms1 : Nat} {rl : Array Slot} {st0 : List Value} {a : Array Value}
    (X : mj_Cx g d mi p R s m args meth c) (hL : mj_Lo g (mt_L mi) ls rl) (hS : va_S (mj_A g) s.heap H locs) (hH : mj_Hp g h H) (hE : s.heap.size + cells = H.size) (hc : cells + mj_z r.2 ≤ mc + mj_z h) (hs : slots + mj_u r.2 ≤ ms + mj_u h) (h1 : mc ≤ R.cells) (h2 : ms ≤ R.slots)
    (hz1 : mj_z r1.2 = mj_z h + mc1) (hu1 : mj_u r1.2 = mj_u h + ms1)
    (hr : va_Run p l e R s m args below meth c H locs cells slots mc1 ms1 (F0 m pc rl st0) (rest.map (mj_v g)) (mj_Q g r1 a) (mj_A g))
    (K : mj_Sim g l d mi (pc + 3) ls (r1.1.toList ++ rest) r1.2 r) : W p l e R s m args below meth c H locs cells slots (MQ below (mj_Q g r) args s mc ms (mj_A g)) (F0 m pc rl st0) := by
  refine mj_cont hr hS fun H1 locs1 hH1 hS1 => ?_
  have e1 : (r1.1.map (mj_v g)).toList ++ rest.map (mj_v g) = (r1.1.toList ++ rest).map (mj_v g) := by cases r1.1 <;> simp
  rw [e1]
  exact K p e R s m args below meth c H1 locs1 (cells + mc1) (slots + ms1) mc ms rl X hH1 hL hS1 (by have := hH.1; have := hH1.1; omega) (by omega) (by omega) h1 h2
theorem mj_stk {a : Nat} {as : List Value} : ((Value.ref a :: as).reverse ++ rest).map (mj_v g) = (as.map (mj_v g)).reverse ++ Value.ref (g.1 + a) :: rest.map (mj_v g) := by
  simp [mj_v]
theorem mj_stkL {a : Nat} {as : List Value} : ((Value.retAddr a :: as).reverse ++ rest).map (mj_v g) = (as.map (mj_v g)).reverse ++ Value.ref (g.2.2.2.1 a) :: rest.map (mj_v g) := by
  simp [mj_v]
theorem mj_stk0 : (as.reverse ++ rest).map (mj_v g) = (as.map (mj_v g)).reverse ++ rest.map (mj_v g) := by
  simp
theorem mj_c_S (hd : decode (mt_b mi) pc = .ok (.invokestatic idx, 3)) (hj : 0 < mj ∧ mj < mt_T.length) (hl : Cond.methodLink (mt_y mi).cls idx (mt_y mj) ∈ mt_TB ∨ ∃ host, Cond.methodLinkNest (mt_y mi).cls idx (mt_y mj) host ∈ mt_NW) (hst : Cond.static (mt_y mj) ∈ mt_TB) (hn : (parseMethodDescriptor (mt_y mj).desc).map (fun d => d.parameters.length) = some (mt_n mj))
    (hr8 : rest.length ≤ 8) (hrc : rest.all mj_c1 = true) (hac : as.all mj_c1 = true) (han : as.length = mt_n mj) (S1 : mj_Sim g l d mj 0 (mj_ent mj as) [] h r1) (m1 : mj_z h ≤ mj_z r1.2) (m2 : mj_u h ≤ mj_u r1.2) (m3 : mj_z r1.2 ≤ mj_z r.2) (m4 : mj_u r1.2 ≤ mj_u r.2)
    (K : mj_Sim g l (d + 1) mi (pc + 3) ls (r1.1.toList ++ rest) r1.2 r) : mj_Sim g l (d + 1) mi pc ls (as.reverse ++ rest) h r := by
  intro p e R s m args below meth c H locs cells slots mc ms rl X hH hL hS hE hc hs h1 h2
  obtain ⟨k1, k2, k3, k4, k5, k6⟩ := mt_ok_M mj hj
  obtain ⟨mc1, hz1⟩ := Nat.exists_eq_add_of_le m1
  obtain ⟨ms1, hu1⟩ := Nat.exists_eq_add_of_le m2
  have hM := mj_met S1 hz1 hu1 (by omega) (mj_c1_of hac) k1
  have hR := X.2.2.2.2.2.2.2.2.2.2
  have hts := X.2.2.2.2.2.2.2.1
  have hroom : (mj_rm d mc1 ms1).frames + 1 ≤ R.frames ∧ 8 + (mt_L mj + 11) + (mj_rm d mc1 ms1).locals ≤ R.locals := ⟨hR.1, by show 8 + (mt_L mj + 11) + 64 * (d + 1) ≤ _; omega⟩
  have hsum : ((rest.map (mj_v g)).map fun v => v.category).sum ≤ 8 := by rw [mj_c1_sum _ (mj_c1_map _ hrc), List.length_map]; exact hr8
  rw [mj_stk0]
  rcases hl with hl | ⟨host, hl⟩
  · exact mj_back X hL hS hH hE hc hs h1 h2 hz1 hu1 (va_runS ⟨X.1, X.2.1, X.2.2.1, X.2.2.2.2.2.1, hts⟩ hM ⟨callB_of (mt_n mj) hts (mj_good k2) rfl rfl rfl (hts _ k3) (hts _ hl) ⟨k4.1, k4.2, hn⟩ hroom, hts _ hst⟩ ⟨mj_blind, mj_pre X hH hS⟩ rfl (by rw [List.length_map]; exact han) hL.1 rfl (lv_room hsum) hd ⟨by omega, by omega⟩) K
  · exact mj_back X hL hS hH hE hc hs h1 h2 hz1 hu1 (va_runSN ⟨X.1, X.2.1, X.2.2.1, X.2.2.2.2.2.1, hts⟩ hM ⟨va_cnB (mt_n mj) hts (mj_good k2) rfl rfl rfl (X.2.2.2.2.2.2.2.2.1.2.1 _ hl) (hts _ k3) ⟨k4.1, k4.2, hn⟩ hroom, hts _ hst, trivial⟩ ⟨mj_blind, mj_pre X hH hS⟩ rfl (by rw [List.length_map]; exact han) hL.1 rfl (lv_room hsum) hd ⟨by omega, by omega⟩) K
theorem mj_c_I {a : Nat} {as : List Value} (hd : decode (mt_b mi) pc = .ok (.invokespecial idx, 3)) (hj : 0 < mj ∧ mj < mt_T.length) (hl : Cond.methodLink (mt_y mi).cls idx (mt_y mj) ∈ mt_TB ∨ ∃ host, Cond.methodLinkNest (mt_y mi).cls idx (mt_y mj) host ∈ mt_NW) (hst : Cond.instanceMethod (mt_y mj) ∈ mt_TB) (hnm : (mt_y mj).name = "<init>") (hret : mt_ret mj = none) (hn : (parseMethodDescriptor (mt_y mj).desc).map (fun d => d.parameters.length) = some (mt_n mj - 1))
    (hr8 : rest.length ≤ 8) (hrc : rest.all mj_c1 = true) (hac : (Value.ref a :: as).all mj_c1 = true) (han : (Value.ref a :: as).length = mt_n mj) (S1 : mj_Sim g l d mj 0 (mj_ent mj (.ref a :: as)) [] h r1) (m1 : mj_z h ≤ mj_z r1.2) (m2 : mj_u h ≤ mj_u r1.2) (m3 : mj_z r1.2 ≤ mj_z r.2) (m4 : mj_u r1.2 ≤ mj_u r.2)
    (K : mj_Sim g l (d + 1) mi (pc + 3) ls (r1.1.toList ++ rest) r1.2 r) : mj_Sim g l (d + 1) mi pc ls ((.ref a :: as).reverse ++ rest) h r := by
  intro p e R s m args below meth c H locs cells slots mc ms rl X hH hL hS hE hc hs h1 h2
  obtain ⟨k1, k2, k3, k4, k5, k6⟩ := mt_ok_M mj hj
  obtain ⟨mc1, hz1⟩ := Nat.exists_eq_add_of_le m1
  obtain ⟨ms1, hu1⟩ := Nat.exists_eq_add_of_le m2
  have hM := mj_met S1 hz1 hu1 (by omega) (mj_c1_of hac) k1
  have hR := X.2.2.2.2.2.2.2.2.2.2
  have hts := X.2.2.2.2.2.2.2.1
  have hroom : (mj_rm d mc1 ms1).frames + 1 ≤ R.frames ∧ 8 + (mt_L mj + 11) + (mj_rm d mc1 ms1).locals ≤ R.locals := ⟨hR.1, by show 8 + (mt_L mj + 11) + 64 * (d + 1) ≤ _; omega⟩
  have hsum : ((rest.map (mj_v g)).map fun v => v.category).sum ≤ 8 := by rw [mj_c1_sum _ (mj_c1_map _ hrc), List.length_map]; exact hr8
  have hlen : (as.map (mj_v g)).length = mt_n mj - 1 := by
    rw [List.length_map]
    rw [List.length_cons] at han
    omega
  rw [mj_stk]
  have hw1 : mj_ws1 mj = Cond.code (mt_y mj) (mt_b mj) (mt_L mj) none :: mt_TB := by rw [mj_ws1, hret]
  rcases hl with hl | ⟨host, hl⟩
  · exact mj_back X hL hS hH hE hc hs h1 h2 hz1 hu1 (va_runI (b := g.1 + a) (As := as.map (mj_v g)) ⟨X.1, X.2.1, X.2.2.1, X.2.2.2.2.2.1, hts⟩ hM (cwI (mt_n mj - 1) hts (mj_good k2) hw1 rfl rfl (hts _ k3) (hts _ hl) (hts _ hst) hnm ⟨k4.1, k4.2, hn⟩ hroom) ⟨mj_blind, mj_pre X hH hS⟩ rfl hlen hL.1 rfl (lv_room hsum) hd ⟨by omega, by omega⟩) K
  · exact mj_back X hL hS hH hE hc hs h1 h2 hz1 hu1 (va_runIN (b := g.1 + a) (As := as.map (mj_v g)) ⟨X.1, X.2.1, X.2.2.1, X.2.2.2.2.2.1, hts⟩ hM ⟨va_cnB (mt_n mj - 1) hts (mj_good k2) hw1 rfl rfl (X.2.2.2.2.2.2.2.2.1.2.1 _ hl) (hts _ k3) ⟨k4.1, k4.2, hn⟩ hroom, hnm, hts _ hst⟩ ⟨mj_blind, mj_pre X hH hS⟩ rfl hlen hL.1 rfl (lv_room hsum) hd ⟨by omega, by omega⟩) K
theorem mj_c_V {v : Value} {b : Nat} {C : String} {as : List Value} (hd : decode (mt_b mi) pc = .ok (.invokevirtual idx, 3)) (hj : 0 < mj ∧ mj < mt_T.length) (hl : mj_lkV (mt_y mi).cls idx C mj) (hst : Cond.instanceMethod (mt_y mj) ∈ mt_TB) (hn : (parseMethodDescriptor (mt_y mj).desc).map (fun d => d.parameters.length) = some (mt_n mj - 1)) (hv : mj_v g v = .ref b)
    (hrecv : ∀ (p : Program) (R : Room) (s : State) (m : MethodId) (args : Array Value) (meth : Method) (c : Code) (H : Heap) (locs : List Loc), mj_Cx g (d + 1) mi p R s m args meth c → mj_Hp g h H → va_S (mj_A g) s.heap H locs → ∃ cell : Cell, H[b]? = some cell ∧ cell.vm.isStatics = false ∧ s.vm.findClass C = some cell.cls)
    (hr8 : rest.length ≤ 8) (hrc : rest.all mj_c1 = true) (hac : (v :: as).all mj_c1 = true) (han : (v :: as).length = mt_n mj) (S1 : mj_Sim g l d mj 0 (mj_ent mj (v :: as)) [] h r1) (m1 : mj_z h ≤ mj_z r1.2) (m2 : mj_u h ≤ mj_u r1.2) (m3 : mj_z r1.2 ≤ mj_z r.2) (m4 : mj_u r1.2 ≤ mj_u r.2)
    (K : mj_Sim g l (d + 1) mi (pc + 3) ls (r1.1.toList ++ rest) r1.2 r) : mj_Sim g l (d + 1) mi pc ls ((v :: as).reverse ++ rest) h r := by
  intro p e R s m args below meth c H locs cells slots mc ms rl X hH hL hS hE hc hs h1 h2
  obtain ⟨k1, k2, k3, k4, k5, k6⟩ := mt_ok_M mj hj
  obtain ⟨mc1, hz1⟩ := Nat.exists_eq_add_of_le m1
  obtain ⟨ms1, hu1⟩ := Nat.exists_eq_add_of_le m2
  have hM := mj_met S1 hz1 hu1 (by omega) (mj_c1_of hac) k1
  have hR := X.2.2.2.2.2.2.2.2.2.2
  have hts := X.2.2.2.2.2.2.2.1
  have hroom : (mj_rm d mc1 ms1).frames + 1 ≤ R.frames ∧ 8 + (mt_L mj + 11) + (mj_rm d mc1 ms1).locals ≤ R.locals := ⟨hR.1, by show 8 + (mt_L mj + 11) + 64 * (d + 1) ≤ _; omega⟩
  have hsum : ((rest.map (mj_v g)).map fun v => v.category).sum ≤ 8 := by rw [mj_c1_sum _ (mj_c1_map _ hrc), List.length_map]; exact hr8
  have hlen : (as.map (mj_v g)).length = mt_n mj - 1 := by
    rw [List.length_map]
    rw [List.length_cons] at han
    omega
  have hstk : ((v :: as).reverse ++ rest).map (mj_v g) = (as.map (mj_v g)).reverse ++ Value.ref b :: rest.map (mj_v g) := by simp [hv]
  rw [hstk]
  have hcell := hrecv p R s m args meth c H locs X hH hS
  have hpre : ∀ U : State, U.heap = H → s.WarmedH U.vm → mj_Pc g (v :: as) h (Value.ref b :: as.map (mj_v g)).toArray U := by
    intro U hU hW
    have := mj_pre (as := v :: as) X hH hS U hU hW
    rw [List.map_cons, hv] at this
    exact this
  rcases hl with ⟨hl, hse⟩ | ⟨host, hl, hse⟩ | ⟨x, owner, hl, hsm, hse, hde, ho1, ho2, hxd⟩
  · exact mj_back X hL hS hH hE hc hs h1 h2 hz1 hu1 (va_runV (C := C) (b := b) (As := as.map (mj_v g)) ⟨X.1, X.2.1, X.2.2.1, X.2.2.2.2.2.1, hts⟩ hM ⟨callB_of (mt_n mj - 1) hts (mj_good k2) rfl rfl rfl (hts _ k3) (hts _ hl) ⟨k4.1, k4.2, hn⟩ hroom, hts _ hst, hts _ hse⟩ ⟨mj_blind, hcell, hpre⟩ rfl hlen hL.1 rfl (lv_room hsum) hd ⟨by omega, by omega⟩) K
  · exact mj_back X hL hS hH hE hc hs h1 h2 hz1 hu1 (va_runVN (C := C) (b := b) (As := as.map (mj_v g)) ⟨X.1, X.2.1, X.2.2.1, X.2.2.2.2.2.1, hts⟩ hM ⟨va_cnB (mt_n mj - 1) hts (mj_good k2) rfl rfl rfl (X.2.2.2.2.2.2.2.2.1.2.1 _ hl) (hts _ k3) ⟨k4.1, k4.2, hn⟩ hroom, hts _ hst, hts _ hse⟩ ⟨mj_blind, hcell, hpre⟩ rfl hlen hL.1 rfl (lv_room hsum) hd ⟨by omega, by omega⟩) K
  · have hG : GoodIn mt_TB (va_wsU (mt_y mi).cls idx C owner x (mt_y mj) (mj_ws1 mj)) := by
      intro w hw
      have hm : w ∈ mt_TB := by
        rcases List.mem_append.mp hw with hw | hw
        · simp only [List.mem_cons, List.not_mem_nil, or_false] at hw
          rcases hw with rfl | rfl | rfl | rfl | rfl
          · exact hl
          · exact hsm
          · exact hse
          · exact hst
          · exact k3
        · exact (mj_good k2 w hw).1
      exact ⟨hm, good_of_word (List.mem_filter.mp hm).2⟩
    exact mj_back X hL hS hH hE hc hs h1 h2 hz1 hu1 (va_runU (C := C) (owner := owner) (x := x) (b := b) (As := as.map (mj_v g)) ⟨X.1, X.2.1, X.2.2.1, X.2.2.2.2.2.1, hts⟩ hM (va_cwA (mt_n mj - 1) hts hG rfl rfl rfl (X.2.2.2.2.2.2.2.2.1.2.1 _ hde) ⟨ho1, ho2, by rw [hxd]; exact hn⟩ hroom) ⟨mj_blind, hcell, hpre⟩ rfl hlen hL.1 rfl (lv_room hsum) hd ⟨by omega, by omega⟩) K
end Calls
