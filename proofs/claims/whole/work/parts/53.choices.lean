/-! Choices, and the states they lead to. -/
def alI (sc en : Nat) (x : Int32) : Bool := if x ≤ nI 0 then false else if x &&& (nI en ^^^ (-1)) = nI 0 then (if sc = 0 then decide (bcI x = nI 1) else if sc = 2 then true else decide (x = nI en)) else false
def alB (sc en c : Nat) : Bool := alI sc en (nI c)
theorem and_mask {x : Int32} {e : Nat} (he : e < 32) (hx : x &&& (nI e ^^^ (-1)) = nI 0) : ∃ c, c < 32 ∧ x = nI c := by
  have h1 : x.toBitVec &&& (BitVec.ofNat 32 e ^^^ BitVec.allOnes 32) = 0#32 := congrArg Int32.toBitVec hx
  refine ⟨x.toBitVec.toNat, ?_, ?_⟩
  · refine Nat.lt_pow_two_of_testBit (n := 5) _ (fun i hi => ?_)
    have h2 : (x.toBitVec &&& (BitVec.ofNat 32 e ^^^ BitVec.allOnes 32)).getLsbD i = (0#32).getLsbD i := by rw [h1]
    have h3 : e.testBit i = false := Nat.testBit_lt_two_pow (Nat.lt_of_lt_of_le he (Nat.pow_le_pow_right (by decide) hi : 2 ^ 5 ≤ 2 ^ i))
    rw [BitVec.getLsbD_and, BitVec.getLsbD_xor, BitVec.getLsbD_ofNat, h3, BitVec.getLsbD_allOnes] at h2
    by_cases h4 : i < 32
    · simpa [h4, BitVec.getLsbD] using h2
    · exact Nat.testBit_lt_two_pow (Nat.lt_of_lt_of_le x.toBitVec.isLt (Nat.pow_le_pow_right (by decide) (by omega)))
  · apply Int32.toBitVec_inj.mp
    show x.toBitVec = BitVec.ofNat 32 x.toBitVec.toNat
    simp
theorem mask_le : ∀ en, en < 32 → ∀ c, c < 32 → nI c &&& (nI en ^^^ (-1)) = nI 0 → c ≤ en := by decide +kernel
theorem alI_nI {sc en : Nat} {x : Int32} (he : en < 32) (H : alI sc en x = true) : ∃ c, 1 ≤ c ∧ c < 32 ∧ c ≤ en ∧ x = nI c := by
  unfold alI at H
  split at H
  · cases H
  · next h0 =>
    split at H
    · next h1 =>
      obtain ⟨c, h2, rfl⟩ := and_mask he h1
      refine ⟨c, ?_, h2, mask_le en he c h2 h1, rfl⟩
      cases c with
      | zero => exact absurd (by decide) h0
      | succ c => omega
    · cases H
theorem alB_lt {sc en c : Nat} (he : en < 32) (hc : c < 32) (H : alB sc en c = true) : 1 ≤ c ∧ c ≤ en := by
  obtain ⟨c', h1, h2, h3, h4⟩ := alI_nI he H
  have := (nI_eq (by omega) (by omega)).mp h4
  omega
/-- one that may be chosen, if any node could move -/
theorem alB_one : ∀ en, en < 32 → en ≠ 0 → ∀ sc, sc < 3 → ∃ c, c < 32 ∧ alB sc en c = true := by decide +kernel
theorem mask_bit0 : ∀ en, en < 32 → ∀ c, c < 32 → ∀ x, x < 5 → (!(decide (nI c &&& (nI en ^^^ (-1)) = nI 0)) || c / 2 ^ x % 2 == 0 || !(en / 2 ^ x % 2 == 0)) = true := by decide +kernel
theorem mask_bit (en : Nat) (he : en < 32) (c : Nat) (hc : c < 32) (x : Nat) (hx : x < 5) (h1 : nI c &&& (nI en ^^^ (-1)) = nI 0) (h2 : c / 2 ^ x % 2 ≠ 0) : en / 2 ^ x % 2 ≠ 0 := by
  intro h3
  have := mask_bit0 en he c hc x hx
  rw [h3, decide_eq_true h1, beq_eq_false_iff_ne.mpr h2] at this
  exact absurd this (by decide)
theorem alB_mask {sc en c : Nat} (H : alB sc en c = true) : nI c &&& (nI en ^^^ (-1)) = nI 0 := by
  unfold alB alI at H
  split at H
  · cases H
  · split at H
    · next h1 => exact h1
    · cases H
/-- digits into a number -/
def hn (nd : Nat → Nat) (k : Nat) : Nat → Nat
  | 0 => 0
  | j + 1 => hn nd k j * k + nd j
theorem hn_lt {nd : Nat → Nat} {k : Nat} : ∀ j, (∀ a, a < j → nd a < k) → hn nd k j < k ^ j
  | 0, _ => by simp [hn]
  | j + 1, q => by
    have h1 := hn_lt (k := k) j (fun a ha => q a (by omega))
    have h2 := q j (by omega)
    rw [hn, Nat.pow_succ]
    calc hn nd k j * k + nd j < hn nd k j * k + k := by omega
      _ = (hn nd k j + 1) * k := by rw [Nat.succ_mul]
      _ ≤ k ^ j * k := Nat.mul_le_mul_right k h1
theorem hn_cong {nd nd' : Nat → Nat} {k : Nat} : ∀ j, (∀ a, a < j → nd a = nd' a) → hn nd k j = hn nd' k j
  | 0, _ => rfl
  | j + 1, q => by rw [hn, hn, hn_cong j (fun a ha => q a (by omega)), q j (by omega)]
theorem hn_dg {n k s : Nat} (hs : s < k ^ n) : ∀ j, j ≤ n → hn (dg n k s) k j = s / k ^ (n - j)
  | 0, _ => by simp [hn, Nat.div_eq_of_lt hs]
  | j + 1, hj => by
    rw [hn, hn_dg hs j (by omega), dg, show n - j = (n - 1 - j) + 1 by omega, show n - (j + 1) = n - 1 - j by omega, Nat.pow_succ, ← Nat.div_div_eq_div_mul]
    exact Nat.div_add_mod' _ _
theorem hn_s {n k s : Nat} (hs : s < k ^ n) : hn (dg n k s) k n = s := by
  rw [hn_dg hs n (Nat.le_refl _)]
  simp
theorem hn_div {nd : Nat → Nat} {k i : Nat} : ∀ m, (∀ a, a < i + m → nd a < k) → hn nd k (i + m) / k ^ m = hn nd k i
  | 0, _ => by simp
  | m + 1, q => by
    have h1 := q (i + m) (by omega)
    rw [show i + (m + 1) = (i + m) + 1 by omega, hn, Nat.pow_succ, Nat.mul_comm (k ^ m) k, ← Nat.div_div_eq_div_mul, Nat.mul_comm _ k, Nat.mul_add_div (by omega), Nat.div_eq_of_lt h1, Nat.add_zero]
    exact hn_div m (fun a ha => q a (by omega))
theorem dg_hn {nd : Nat → Nat} {n k a : Nat} (q : ∀ a, a < n → nd a < k) (ha : a < n) : dg n k (hn nd k n) a = nd a := by
  have h1 := hn_div (nd := nd) (k := k) (i := a + 1) (n - 1 - a) (fun b hb => q b (by omega))
  rw [show a + 1 + (n - 1 - a) = n by omega] at h1
  rw [dg, h1, hn, Nat.add_comm, Nat.add_mul_mod_self_right]
  exact Nat.mod_eq_of_lt (q a ha)
theorem dg_lt {n k s a : Nat} (hk : 0 < k) : dg n k s a < k := Nat.mod_lt _ hk
/-- the moves of the nodes of c -/
def afF (sh : Nat → Int32) (c : Nat) (s0 : Int32) : Nat → Int32
  | 0 => s0
  | x + 1 => if c / 2 ^ x % 2 = 0 then afF sh c s0 x else afF sh c s0 x + sh x
def ndF (n k s c : Nat) (nv : Nat → Nat) (a : Nat) : Nat := if c / 2 ^ a % 2 = 0 then dg n k s a else nv a
theorem af_ring (A w r D v : Int32) : A + (r + w * D) + (v - D) * w = A + v * w + r := by grind
theorem af_hn {n k s c : Nat} {nv : Nat → Nat} {sh : Nat → Int32} (hs : s < k ^ n) (hsh : ∀ x, x < n → c / 2 ^ x % 2 ≠ 0 → sh x = (nI (nv x) - nI (dg n k s x)) * nI (k ^ (n - 1 - x))) : ∀ j, j ≤ n → afF sh c (nI s) j = nI (hn (ndF n k s c nv) k j * k ^ (n - j) + s % k ^ (n - j))
  | 0, _ => by simp [hn, afF, Nat.mod_eq_of_lt hs]
  | j + 1, hj => by
    have ih := af_hn (c := c) (nv := nv) (sh := sh) hs hsh j (by omega)
    rw [show n - j = (n - 1 - j) + 1 by omega] at ih
    rw [afF, ih, show n - (j + 1) = n - 1 - j by omega, Nat.mod_pow_succ, Nat.pow_succ, hn]
    have e1 : s / k ^ (n - 1 - j) % k = dg n k s j := rfl
    rw [e1]
    by_cases hb : c / 2 ^ j % 2 = 0
    · rw [if_pos hb]
      have e2 : ndF n k s c nv j = dg n k s j := if_pos hb
      rw [e2]
      congr 1
      rw [Nat.add_mul, Nat.mul_assoc, Nat.mul_comm (k ^ (n - 1 - j)) k, Nat.mul_comm (k ^ (n - 1 - j)) (dg n k s j)]
      omega
    · rw [if_neg hb]
      have e2 : ndF n k s c nv j = nv j := if_neg hb
      rw [e2, hsh j (by omega) hb, Nat.add_mul, Nat.mul_assoc, Nat.mul_comm (k ^ (n - 1 - j)) k]
      simp only [← nI_add, ← pk_mul]
      exact af_ring _ _ _ _ _
/-- the state behind a choice -/
def afN (n k : Nat) (nv : Nat → Nat → Nat) (s c : Nat) : Nat := hn (ndF n k s c (nv s)) k n
theorem afN_lt {n k : Nat} {nv : Nat → Nat → Nat} {s c : Nat} (hk : 0 < k) (hnv : ∀ x, x < n → nv s x < k) : afN n k nv s c < k ^ n := by
  refine hn_lt n (fun a ha => ?_)
  unfold ndF
  split
  · exact dg_lt hk
  · exact hnv a ha
theorem afN_eq {n k s c : Nat} {nv : Nat → Nat → Nat} {sh : Nat → Int32} (hs : s < k ^ n) (hsh : ∀ x, x < n → c / 2 ^ x % 2 ≠ 0 → sh x = (nI (nv s x) - nI (dg n k s x)) * nI (k ^ (n - 1 - x))) : afF sh c (nI s) n = nI (afN n k nv s c) := by
  rw [af_hn hs hsh n (Nat.le_refl _)]
  simp [afN, Nat.mod_one]
theorem xor_s {x y : Int32} (hy : 0 ≤ y.toInt) : 0 ≤ (x ^^^ y).toInt ↔ 0 ≤ x.toInt := by
  have e1 : (x ^^^ y).toBitVec.msb = decide ((x ^^^ y).toInt < 0) := BitVec.msb_eq_toInt
  have e2 : x.toBitVec.msb = decide (x.toInt < 0) := BitVec.msb_eq_toInt
  have e3 : y.toBitVec.msb = decide (y.toInt < 0) := BitVec.msb_eq_toInt
  rw [Int32.toBitVec_xor, BitVec.msb_xor, e2, e3, decide_eq_false (show ¬ y.toInt < 0 by omega), Bool.xor_false] at e1
  have e4 := decide_eq_decide.mp e1
  omega
/-- floorMod by a positive number, in other words -/
theorem fm_eq {x : Int32} {k : Nat} (h0 : 0 < k) (hk : k ≤ 4) : fmI x (nI k) = if rmI x (nI k) < nI 0 then rmI x (nI k) + nI k else rmI x (nI k) := by
  have hm : (nI k).toInt = k := nI_toInt (by omega)
  have hr : (rmI x (nI k)).toInt = x.toInt.tmod k := by rw [rmI, irem_eq_mod, Int32.toInt_mod, hm]
  have hx : 0 ≤ (x ^^^ nI k).toInt ↔ 0 ≤ x.toInt := xor_s (by omega)
  have h1 : nI 0 ≤ x ^^^ nI k ↔ 0 ≤ (x ^^^ nI k).toInt := by rw [Int32.le_iff_toInt_le, nI_toInt (by decide)]; rfl
  have h2 : rmI x (nI k) < nI 0 ↔ x.toInt.tmod k < 0 := by rw [Int32.lt_iff_toInt_lt, nI_toInt (by decide), hr]; rfl
  have h3 : rmI x (nI k) = nI 0 ↔ x.toInt.tmod k = 0 := by rw [← Int32.toInt_inj, hr, nI_toInt (by decide)]; rfl
  have s1 : 0 ≤ x.toInt → 0 ≤ x.toInt.tmod k := fun h => Int.tmod_nonneg _ h
  have s2 : x.toInt ≤ 0 → x.toInt.tmod k ≤ 0 := fun h => by
    have h2 := Int.tmod_nonneg (a := -x.toInt) (k : Int) (by omega)
    rw [Int.neg_tmod] at h2
    omega
  unfold fmI
  by_cases c : 0 ≤ x.toInt
  · have e1 := h1.mpr (hx.mpr c)
    have e2 : ¬ rmI x (nI k) < nI 0 := fun z => by have := h2.mp z; have := s1 c; omega
    rw [if_pos e1, if_neg e2]
  · have e1 : ¬ nI 0 ≤ x ^^^ nI k := fun z => by have := hx.mp (h1.mp z); omega
    rw [if_neg e1]
    by_cases z : x.toInt.tmod k = 0
    · rw [if_pos (h3.mpr z), if_neg (fun q => by have := h2.mp q; omega)]
    · rw [if_neg (fun q => z (h3.mp q)), if_pos (h2.mpr (by have := s2 (by omega); omega))]
/-- floorMod by k lies below k -/
theorem fm_lt {x : Int32} {k : Nat} (h0 : 0 < k) (hk : k ≤ 4) : ∃ j, j < k ∧ fmI x (nI k) = nI j := by
  have hm : (nI k).toInt = k := nI_toInt (by omega)
  have hr : (rmI x (nI k)).toInt = x.toInt.tmod k := by rw [rmI, irem_eq_mod, Int32.toInt_mod, hm]
  have h2 : rmI x (nI k) < nI 0 ↔ x.toInt.tmod k < 0 := by rw [Int32.lt_iff_toInt_lt, nI_toInt (by decide), hr]; rfl
  have b1 : -(k : Int) < x.toInt.tmod k := Int.lt_tmod_of_pos x.toInt (show (0 : Int) < k by omega)
  have b2 : x.toInt.tmod k < k := Int.tmod_lt_of_pos _ (by omega)
  rw [fm_eq h0 hk]
  by_cases z : x.toInt.tmod k < 0
  · rw [if_pos (h2.mpr z)]
    refine ⟨(x.toInt.tmod k + k).toNat, by omega, ?_⟩
    apply Int32.toInt_inj.mp
    rw [Int32.toInt_add, hr, hm, nI_toInt (by omega), Int.bmod_eq_of_le (by omega) (by omega)]
    omega
  · rw [if_neg (fun q => z (h2.mp q))]
    refine ⟨(x.toInt.tmod k).toNat, by omega, ?_⟩
    apply Int32.toInt_inj.mp
    rw [hr, nI_toInt (by omega)]
    omega
def nvN (n k : Nat) (lk : Nat → Nat) (rn : Nat) (G : Nat → GD) (sm : SM) (s x : Nat) : Nat := (nvI n k lk rn G sm s x).toNatClampNeg
theorem nvN_I {n k : Nat} {lk : Nat → Nat} {rn : Nat} {G : Nat → GD} {sm : SM} {s x : Nat} (h0 : 0 < k) (hk : k ≤ 4) : nI (nvN n k lk rn G sm s x) = nvI n k lk rn G sm s x ∧ nvN n k lk rn G sm s x < k := by
  obtain ⟨j, h1, h2⟩ := fm_lt (x := smv n k lk sm s x (frI n k lk rn G s x).toNatClampNeg) h0 hk
  have h3 : nvI n k lk rn G sm s x = nI j := h2
  rw [nvN, h3, nI_clamp (by omega)]
  exact ⟨rfl, h1⟩
/-- which nodes could move, bit by bit -/
theorem en_bit {n k : Nat} {lk : Nat → Nat} {rn : Nat} {G : Nat → GD} {s x : Nat} : ∀ j, x < j → enN n k lk rn G s j / 2 ^ x % 2 = if frI n k lk rn G s x = -1 then 0 else 1
  | j + 1, hx => by
    have hb := enN_lt (n := n) (k := k) (lk := lk) (rn := rn) (G := G) (s := s) j
    by_cases h : x = j
    · subst h
      rw [enN]
      split
      · rw [Nat.div_eq_of_lt hb]
      · rw [Nat.add_div_right _ (Nat.two_pow_pos _), Nat.div_eq_of_lt hb]
    · have ih := en_bit (n := n) (k := k) (lk := lk) (rn := rn) (G := G) (s := s) j (show x < j by omega)
      rw [enN]
      split
      · next q => exact ih
      · rw [← ih]
        have e1 : 2 ^ j = 2 ^ x * (2 * 2 ^ (j - x - 1)) := by
          rw [← Nat.pow_succ', ← Nat.pow_add]
          congr 1
          omega
        rw [e1, Nat.add_mul_div_left _ _ (Nat.two_pow_pos _), Nat.add_mul_mod_self_left]
/-- all that a choice leads to -/
theorem afN_ok {n k : Nat} {lk : Nat → Nat} {rn : Nat} {G : Nat → GD} {sm : SM} {s c sc : Nat} {sh : Nat → Int32} (hn : n ≤ 5) (h0 : 0 < k) (hk : k ≤ 4) (hs : s < k ^ n) (hc : c < 32) (H : alB sc (enN n k lk rn G s n) c = true) (hsh : ∀ x, x < n → frI n k lk rn G s x ≠ -1 → sh x = shI n k lk rn G sm s x) :
    afF sh c (nI s) n = nI (afN n k (nvN n k lk rn G sm) s c) ∧ afN n k (nvN n k lk rn G sm) s c < k ^ n := by
  have he : enN n k lk rn G s n < 32 := Nat.lt_of_lt_of_le (enN_lt n) (Nat.pow_le_pow_right (by decide) hn : 2 ^ n ≤ 2 ^ 5)
  refine ⟨afN_eq hs (fun x hx hb => ?_), afN_lt h0 (fun x _ => (nvN_I h0 hk).2)⟩
  have h1 := mask_bit _ he c hc x (by omega) (alB_mask H) hb
  rw [en_bit n hx] at h1
  have h2 : frI n k lk rn G s x ≠ -1 := fun z => by rw [if_pos z] at h1; exact h1 rfl
  rw [hsh x hx h2, shI, if_neg h2, (nvN_I h0 hk).1]
