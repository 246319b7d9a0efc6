/-! The JDK's leaves: max, min, floorMod, bitCount, fill. -/
def mxI (x y : Int32) : Int32 := if x < y then y else x
def mnI (x y : Int32) : Int32 := if y < x then y else x
def rmI (x y : Int32) : Int32 := x - x / y * y
def fmI (x y : Int32) : Int32 := if nI 0 ≤ x ^^^ y then rmI x y else if rmI x y = nI 0 then rmI x y else rmI x y + y
def usI (x y : Int32) : Int32 := (x.toUInt32 >>> (y.toUInt32 &&& Int32.toUInt32 31)).toInt32
def bcA (x : Int32) : Int32 := x - (usI x (nI 1) &&& nI 1431655765)
def bcB (x : Int32) : Int32 := (x &&& nI 858993459) + (usI x (nI 2) &&& nI 858993459)
def bcC (x : Int32) : Int32 := (x + usI x (nI 4)) &&& nI 252645135
def bcD (x : Int32) : Int32 := x + usI x (nI 8)
def bcE (x : Int32) : Int32 := x + usI x (nI 16)
def bcI (x : Int32) : Int32 := bcE (bcD (bcC (bcB (bcA x)))) &&& nI 63
section JdkK
variable {L : Nat} {xs : Nat → Int32} {d : Nat} {h : MH} {Q : Option Value × MH → Prop} {x y : Int32}
theorem k_max : mj_Wp L xs d 140 0 [some (.int x), some (.int y)] [] h Q ↔ Q (some (.int (mxI x y)), h) := by
  simp only [w_140_0, w_140_1, w_140_2, w_140_5, w_140_6, w_140_9, w_140_10, mxI]
  split <;> rfl
theorem k_min : mj_Wp L xs d 141 0 [some (.int x), some (.int y)] [] h Q ↔ Q (some (.int (mnI x y)), h) := by
  simp only [w_141_0, w_141_1, w_141_2, w_141_5, w_141_6, w_141_9, w_141_10, mnI]
  split <;> rfl
theorem k_floorMod (hy : ¬ y = 0) : mj_Wp L xs d 139 0 [some (.int x), some (.int y), none] [] h Q ↔ Q (some (.int (fmI x y)), h) := by
  simp only [w_139_0, w_139_1, w_139_2, w_139_3, w_139_4, w_139_5, w_139_6, w_139_7, w_139_10, w_139_11, w_139_14, w_139_15, w_139_16, w_139_17, w_139_18, w_139_19, hy, not_false_eq_true, fmI, rmI]
  by_cases h1 : nI 0 ≤ x ^^^ y <;> by_cases h2 : x - x / y * y = nI 0 <;> simp [h1, h2]
theorem k_bitCount : mj_Wp L xs d 138 0 [some (.int x)] [] h Q ↔ Q (some (.int (bcI x)), h) := by
  simp only [w_138_0, w_138_1, w_138_2, w_138_3, w_138_4, w_138_7, w_138_8, w_138_9, w_138_10, w_138_11, w_138_14, w_138_15, w_138_16, w_138_17, w_138_18, w_138_21, w_138_22, w_138_23, w_138_24, w_138_25, w_138_26, w_138_27, w_138_28, w_138_29, w_138_32, w_138_33, w_138_34, w_138_35, w_138_36, w_138_38, w_138_39, w_138_40, w_138_41, w_138_42, w_138_43, w_138_45, w_138_46, w_138_47, w_138_48, w_138_49, w_138_51, w_138_52]
  rfl
theorem mj_wa_wa {a : Nat} {f g : Nat → Int32} : mj_wa (mj_wa h a f) a g = mj_wa h a g := by
  simp only [mj_wa, bx_uu]
theorem mj_wi_wa {a k : Nat} {f : Nat → Int32} : mj_wi (mj_wa h a f) a k x = mj_wa h a (upd f k x) := by
  rw [mj_wi, mj_wa_i, mj_wa_wa]
theorem mj_wa_self {a : Nat} : mj_wa h a (mj_i h a) = h := by
  obtain ⟨z, u, m, i, r⟩ := h
  have e : va_up i a (i a) = i := by funext j; by_cases hj : j = a <;> simp [va_up, hj]
  show (z, u, m, va_up i a (i a), r) = (z, u, m, i, r)
  rw [e]
theorem k_fill_loop {a N : Nat} (H : mj_ik h a 100) (hN : mj_ln h a = N) (hb : N < 2 ^ 31) : ∀ (m j : Nat), j + m = N → (mj_Wp L xs d 137 5 [some (.ref a), some (.int x), some (.int (nI j)), some (.int (nI N))] [] (mj_wa h a (fun t => if t < j then x else mj_i h a t)) Q ↔ Q (none, mj_wa h a (fun t => if t < N then x else mj_i h a t)))
  | 0, j, e => by
    have e : j = N := by omega
    subst e
    simp only [w_137_5, w_137_6, w_137_7, w_137_20, nI_leI hb hb, Nat.le_refl, if_true]
  | m + 1, j, e => by
    have h1 : ¬ N ≤ j := by omega
    have h2 : mj_in (nI j) N = true := mj_in_nI (by omega) hb
    have h3 : (nI j).toNatClampNeg = j := nI_clamp (by omega)
    have h4 : upd (fun t => if t < j then x else mj_i h a t) j x = fun t => if t < j + 1 then x else mj_i h a t := by
      funext t
      by_cases h5 : t = j
      · subst h5; simp [upd]
      · by_cases h6 : t < j
        · simp [upd, h5, h6, show t < j + 1 by omega]
        · simp [upd, h5, h6, show ¬ t < j + 1 by omega]
    rw [w_137_5]
    simp only [w_137_6, w_137_7, nI_leI hb (show j < 2 ^ 31 by omega), h1, if_false, w_137_10, w_137_11, w_137_12, w_137_13, mj_ik_wa, H, mj_ln_wa, hN, h2, h3, mj_wi_wa, h4, w_137_14, nI_add, w_137_17]
    exact k_fill_loop H hN hb m (j + 1) (by omega)
theorem k_fill {a N : Nat} (H : mj_ik h a 100) (hN : mj_ln h a = N) (hb : N < 2 ^ 31) : mj_Wp L xs d 137 0 [some (.ref a), some (.int x), none, none] [] h Q ↔ Q (none, mj_wa h a (fun t => if t < N then x else mj_i h a t)) := by
  have e := k_fill_loop (L := L) (xs := xs) (d := d) (Q := Q) (x := x) H hN hb N 0 (by omega)
  have e2 : mj_wa h a (fun t => if t < 0 then x else mj_i h a t) = h := by
    simp only [Nat.not_lt_zero, if_false]
    exact mj_wa_self
  rw [e2] at e
  simp only [w_137_0, w_137_1, w_137_2, w_137_3_100, H, hN, w_137_4]
  exact e
end JdkK
