/-! The small machine's heap as the kit's worlds. g: (the first address, the classes' numbers, the array classes, where things stood before, the script's length and ints) -/
abbrev mj_G : Type := Nat × va_G × (Nat → ClassId) × (Nat → Nat) × Nat × (Nat → Int32)
def mj_A (g : mj_G) : Nat → Prop := fun q => g.1 ≤ q
def mj_v (g : mj_G) : Value → Value
  | .ref a => .ref (g.1 + a)
  | .retAddr k => .ref (g.2.2.2.1 k)
  | v => v
def mj_fs (g : mj_G) (h : MH) (ci n a : Nat) : List Value := (List.range n).map (fun k => mj_v g (mj_rd h ci a k))
def mj_e (g : mj_G) (h : MH) (a : Nat) : va_E := if (mj_m h a).1 < 100 then .inr ((mj_m h a).1, mj_fs g h (mj_m h a).1 (mj_m h a).2 a)
  else if (mj_m h a).1 < 200 then .inl (g.2.2.1 (mj_m h a).1, (mj_m h a).2, .inl (mj_i h a))
  else .inl (g.2.2.1 (mj_m h a).1, (mj_m h a).2, .inr (.inr (.inr (.inr (fun j => (mj_r h a j).map (fun x => g.1 + x))))))
def mj_ws (g : mj_G) (h : MH) : va_W := (List.range (mj_z h)).map (fun a => (g.1 + a, mj_e g h a))
theorem mj_ws_at {g : mj_G} {h : MH} {a : Nat} (ha : a < mj_z h) : (mj_ws g h)[a]? = some (g.1 + a, mj_e g h a) := by
  simp [mj_ws, ha]
theorem mj_ws_set {g : mj_G} {h h' : MH} {a : Nat} (hz : mj_z h' = mj_z h) (ho : ∀ i, i ≠ a → mj_e g h' i = mj_e g h i) : mj_ws g h' = (mj_ws g h).set a (g.1 + a, mj_e g h' a) := by
  apply List.ext_getElem?
  intro i
  by_cases hi : i < mj_z h
  · rw [mj_ws_at (by rw [hz]; exact hi)]
    by_cases hia : i = a
    · subst hia
      rw [List.getElem?_set_self (by simp [mj_ws, hi])]
    · rw [List.getElem?_set_ne (Ne.symm hia), mj_ws_at hi, ho i hia]
  · rw [List.getElem?_eq_none (by simp [mj_ws, hz]; omega), List.getElem?_eq_none (by simp [mj_ws]; omega)]
theorem mj_ws_nw {g : mj_G} {h h' : MH} (hz : mj_z h' = mj_z h + 1) (ho : ∀ i, i < mj_z h → mj_e g h' i = mj_e g h i) : mj_ws g h' = mj_ws g h ++ [(g.1 + mj_z h, mj_e g h' (mj_z h))] := by
  unfold mj_ws
  rw [hz, List.range_succ, List.map_append]
  congr 1
  apply List.map_congr_left
  intro a ha
  rw [ho a (List.mem_range.mp ha)]
theorem mj_ws_D {g : mj_G} {h : MH} : va_D (mj_A g) (mj_ws g h) := by
  have key : ∀ (k : Nat) (q : Nat × va_E), (mj_ws g h)[k]? = some q → q.1 = g.1 + k := by
    intro k q hk
    by_cases hi : k < mj_z h
    · rw [mj_ws_at hi] at hk
      cases hk
      rfl
    · rw [List.getElem?_eq_none (by simp [mj_ws]; omega)] at hk
      cases hk
  refine ⟨fun i j p q hp hq hpq => ?_, fun k q hk => ?_⟩
  · have h1 := key i p hp
    have h2 := key j q hq
    omega
  · have h1 := key k q hk
    show g.1 ≤ q.1
    omega
/-- the heap holds the pure one -/
def mj_Hp (g : mj_G) (h : MH) (H : Heap) : Prop := H.size = g.1 + mj_z h ∧ va_P g.2.1 mt_cl (mj_ws g h) H
theorem mj_e_obj {g : mj_G} {h : MH} {a ci n : Nat} (hm : mj_m h a = (ci, n)) (hc : ci < 100) : mj_e g h a = .inr (ci, mj_fs g h ci n a) := by
  simp [mj_e, hm, hc]
theorem mj_e_int {g : mj_G} {h : MH} {a kd n : Nat} (hm : mj_m h a = (kd, n)) (h1 : 100 ≤ kd) (h2 : kd < 200) : mj_e g h a = .inl (g.2.2.1 kd, n, .inl (mj_i h a)) := by
  have : ¬ kd < 100 := by omega
  simp [mj_e, hm, this, h2]
theorem mj_e_ref {g : mj_G} {h : MH} {a kd n : Nat} (hm : mj_m h a = (kd, n)) (h1 : 200 ≤ kd) : mj_e g h a = .inl (g.2.2.1 kd, n, .inr (.inr (.inr (.inr (fun j => (mj_r h a j).map (fun x => g.1 + x)))))) := by
  have e1 : ¬ kd < 100 := by omega
  have e2 : ¬ kd < 200 := by omega
  simp [mj_e, hm, e1, e2]
theorem mj_fs_at {g : mj_G} {h : MH} {ci n a k : Nat} (hk : k < n) : (mj_fs g h ci n a)[k]? = some (mj_v g (mj_rd h ci a k)) := by
  simp [mj_fs, hk]
theorem mj_fs_len {g : mj_G} {h : MH} {ci n a : Nat} : (mj_fs g h ci n a).length = n := by simp [mj_fs]
theorem mj_fs_set {g : mj_G} {h h' : MH} {ci n a k : Nat} {v : Value} (hv : mj_v g (mj_rd h' ci a k) = v) (ho : ∀ j, j ≠ k → mj_rd h' ci a j = mj_rd h ci a j) : (mj_fs g h ci n a).set k v = mj_fs g h' ci n a := by
  apply List.ext_getElem?
  intro i
  by_cases hi : i < n
  · rw [mj_fs_at hi]
    by_cases hik : i = k
    · subst hik
      rw [List.getElem?_set_self (by rw [mj_fs_len]; exact hi), hv]
    · rw [List.getElem?_set_ne (Ne.symm hik), mj_fs_at hi, ho i hik]
  · rw [List.getElem?_eq_none (by rw [List.length_set, mj_fs_len]; omega), List.getElem?_eq_none (by rw [mj_fs_len]; omega)]
-- what writing does
theorem mj_wa_z {h : MH} {a : Nat} {f : Nat → Int32} : mj_z (mj_wa h a f) = mj_z h := rfl
theorem mj_wa_u {h : MH} {a : Nat} {f : Nat → Int32} : mj_u (mj_wa h a f) = mj_u h := rfl
theorem mj_wa_m {h : MH} {a b : Nat} {f : Nat → Int32} : mj_m (mj_wa h a f) b = mj_m h b := rfl
theorem mj_wa_r {h : MH} {a b : Nat} {f : Nat → Int32} : mj_r (mj_wa h a f) b = mj_r h b := rfl
theorem mj_wa_i {h : MH} {a : Nat} {f : Nat → Int32} : mj_i (mj_wa h a f) a = f := by
  funext j; simp [mj_i, mj_wa, va_up]
theorem mj_wa_o {h : MH} {a b : Nat} {f : Nat → Int32} (hb : b ≠ a) : mj_i (mj_wa h a f) b = mj_i h b := by
  funext j; simp [mj_i, mj_wa, va_up, hb]
theorem mj_wr_z {h : MH} {a k : Nat} {x : Option Nat} : mj_z (mj_wr h a k x) = mj_z h := rfl
theorem mj_wr_u {h : MH} {a k : Nat} {x : Option Nat} : mj_u (mj_wr h a k x) = mj_u h := rfl
theorem mj_wr_m {h : MH} {a b k : Nat} {x : Option Nat} : mj_m (mj_wr h a k x) b = mj_m h b := rfl
theorem mj_wr_i {h : MH} {a b k : Nat} {x : Option Nat} : mj_i (mj_wr h a k x) b = mj_i h b := rfl
theorem mj_wr_r {h : MH} {a k : Nat} {x : Option Nat} : mj_r (mj_wr h a k x) a = va_up (mj_r h a) k x := by
  funext j; simp [mj_r, mj_wr, va_up]
theorem mj_wr_o {h : MH} {a b k : Nat} {x : Option Nat} (hb : b ≠ a) : mj_r (mj_wr h a k x) b = mj_r h b := by
  funext j; simp [mj_r, mj_wr, va_up, hb]
theorem mj_e_wa {g : mj_G} {h : MH} {a b : Nat} {f : Nat → Int32} (hb : b ≠ a) : mj_e g (mj_wa h a f) b = mj_e g h b := by
  simp [mj_e, mj_wa_m, mj_wa_r, mj_wa_o hb, mj_fs, mj_rd]
theorem mj_e_wr {g : mj_G} {h : MH} {a b k : Nat} {x : Option Nat} (hb : b ≠ a) : mj_e g (mj_wr h a k x) b = mj_e g h b := by
  simp [mj_e, mj_wr_m, mj_wr_i, mj_wr_o hb, mj_fs, mj_rd]
theorem mj_nw_z {h : MH} {kd n : Nat} : mj_z (mj_nw h kd n) = mj_z h + 1 := rfl
theorem mj_nw_u {h : MH} {kd n : Nat} : mj_u (mj_nw h kd n) = mj_u h + n := rfl
theorem mj_nw_m {h : MH} {kd n : Nat} : mj_m (mj_nw h kd n) (mj_z h) = (kd, n) := by simp [mj_m, mj_nw, va_up, mj_z]
theorem mj_nw_i {h : MH} {kd n : Nat} : mj_i (mj_nw h kd n) (mj_z h) = fun _ => 0 := by funext j; simp [mj_i, mj_nw, va_up, mj_z]
theorem mj_nw_r {h : MH} {kd n : Nat} : mj_r (mj_nw h kd n) (mj_z h) = fun _ => none := by funext j; simp [mj_r, mj_nw, va_up, mj_z]
theorem mj_nw_mo {h : MH} {kd n b : Nat} (hb : b ≠ mj_z h) : mj_m (mj_nw h kd n) b = mj_m h b := by
  have : ¬ b = h.1 := hb
  simp [mj_m, mj_nw, va_up, this]
theorem mj_nw_io {h : MH} {kd n b : Nat} (hb : b ≠ mj_z h) : mj_i (mj_nw h kd n) b = mj_i h b := by
  have : ¬ b = h.1 := hb
  funext j; simp [mj_i, mj_nw, va_up, this]
theorem mj_nw_ro {h : MH} {kd n b : Nat} (hb : b ≠ mj_z h) : mj_r (mj_nw h kd n) b = mj_r h b := by
  have : ¬ b = h.1 := hb
  funext j; simp [mj_r, mj_nw, va_up, this]
theorem mj_e_nw {g : mj_G} {h : MH} {kd n b : Nat} (hb : b < mj_z h) : mj_e g (mj_nw h kd n) b = mj_e g h b := by
  have hn : b ≠ mj_z h := by omega
  simp [mj_e, mj_nw_mo hn, mj_nw_io hn, mj_nw_ro hn, mj_fs, mj_rd]
theorem mj_v_rv {g : mj_G} {r : Option Nat} : mj_v g (mj_rv r) = va_rf (r.map (fun x => g.1 + x)) := by
  cases r <;> rfl
theorem mj_v_cat {g : mj_G} {v : Value} (hv : v.category = 1) : (mj_v g v).category = 1 := by
  cases v <;> first | rfl | exact hv
theorem mj_in_vp {i : Int32} {n : Nat} (h : mj_in i n = true) : vp_in i n := by
  simp only [mj_in, Bool.and_eq_true, Bool.not_eq_true', decide_eq_false_iff_not, decide_eq_true_eq] at h
  intro q
  rcases q with q | q
  · exact h.1 q
  · omega
-- locals
def mj_Lo (g : mj_G) (nL : Nat) (ls : List (Option Value)) (rl : Array Slot) : Prop := rl.size = nL ∧ lv_wf rl ∧ ls.length = nL ∧ ∀ (i : Nat) (v : Value), ls[i]? = some (some v) → rl[i]? = some (.val (mj_v g v)) ∧ v.category = 1
def mj_lv (g : mj_G) (ls : List (Option Value)) : List (Nat × Value) := (List.range ls.length).filterMap (fun i => (ls.getD i none).map (fun v => (i, mj_v g v)))
theorem mj_lv_mem {g : mj_G} {ls : List (Option Value)} {i : Nat} {v : Value} (h : ls[i]? = some (some v)) : (i, mj_v g v) ∈ mj_lv g ls := by
  unfold mj_lv
  refine List.mem_filterMap.mpr ⟨i, List.mem_range.mpr (List.getElem?_eq_some_iff.mp h).1, ?_⟩
  simp [List.getD, h]
theorem mj_lv_of {g : mj_G} {ls : List (Option Value)} {q : Nat × Value} (h : q ∈ mj_lv g ls) : ∃ v, ls[q.1]? = some (some v) ∧ q.2 = mj_v g v := by
  unfold mj_lv at h
  obtain ⟨i, hi, he⟩ := List.mem_filterMap.mp h
  have hl := List.mem_range.mp hi
  have e1 : ls.getD i none = ls[i] := by simp [List.getD, hl]
  rw [e1] at he
  cases hv : ls[i] with
  | none => rw [hv] at he; simp at he
  | some v =>
    rw [hv] at he
    simp only [Option.map_some, Option.some.injEq] at he
    subst he
    exact ⟨v, by rw [List.getElem?_eq_getElem hl, hv], rfl⟩
theorem mj_lv_has {g : mj_G} {nL : Nat} {ls : List (Option Value)} {rl : Array Slot} (h : mj_Lo g nL ls rl) : lv_has rl nL (mj_lv g ls) := by
  obtain ⟨h1, h2, h3, h4⟩ := h
  refine ⟨h1, h2, fun q hq => ?_⟩
  obtain ⟨v, e1, e2⟩ := mj_lv_of hq
  rw [e2]
  exact (h4 q.1 v e1).1
theorem mj_Lo_set {g : mj_G} {nL i : Nat} {ls : List (Option Value)} {rl rl' : Array Slot} {v : Value} (h : mj_Lo g nL ls rl) (hi : i < ls.length) (hv : v.category = 1)
    (h' : lv_has rl' nL ((i, mj_v g v) :: (mj_lv g ls).filter (fun q => !(q.1 == i) && !(q.1 + 1 == i && q.2.category == 2)))) : mj_Lo g nL (ls.set i (some v)) rl' := by
  obtain ⟨h1, h2, h3, h4⟩ := h
  obtain ⟨g1, g2, g3⟩ := h'
  refine ⟨g1, g2, by rw [List.length_set]; exact h3, fun j w hj => ?_⟩
  by_cases hji : j = i
  · subst hji
    rw [List.getElem?_set_self hi] at hj
    cases hj
    exact ⟨g3 (j, mj_v g v) List.mem_cons_self, hv⟩
  · rw [List.getElem?_set_ne (Ne.symm hji)] at hj
    obtain ⟨f1, f2⟩ := h4 j w hj
    refine ⟨g3 (j, mj_v g w) (List.mem_cons_of_mem _ (List.mem_filter.mpr ⟨mj_lv_mem hj, ?_⟩)), f2⟩
    have f3 : (mj_v g w).category = 1 := mj_v_cat f2
    simp [hji, f3]
theorem mj_Lo_get {g : mj_G} {nL i : Nat} {ls : List (Option Value)} {rl : Array Slot} {v : Value} (h : mj_Lo g nL ls rl) (hv : ls.getD i none = some v) : rl[i]? = some (.val (mj_v g v)) := by
  refine (h.2.2.2 i v ?_).1
  simp only [List.getD] at hv
  cases hq : ls[i]? with
  | none => rw [hq] at hv; simp at hv
  | some o => rw [hq] at hv; simp at hv; rw [hv]
