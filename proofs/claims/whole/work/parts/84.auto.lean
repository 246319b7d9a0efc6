/-! The reference's reading, in plain words: what it keeps while it reads, and each step. -/
abbrev SE4 : Type := Nat × Bool × Bool × Nat
/-- open tests; and, or; how many tests of neighbours; side, comparing, adding; the guard's words, its ends, the sum's words -/
abbrev AU : Type := List SE4 × Bool × Bool × Nat × Nat × Nat × Nat × List Nat × (Nat → Int32) × List Nat
def uI (f : Nat → Int32) (a : Nat) (x : Int32) : Nat → Int32 := fun t => if t = a then x else f t
def orL (o : Bool) (c : Nat) (gs : List Nat) : List Nat := if o = true then gs ++ [c] else gs
def aAp (cd : List Nat) : AU → AU
  | (stk, an, o, qn, sd, cp, ad, gs, en, ss) => if sd = 2 then (stk, an, o, qn, sd, cp, ad, gs, en, ss ++ cd) else (stk, an, o, qn, sd, cp, ad, gs ++ cd, en, ss)
def popT : List SE4 → Nat → List Nat → (Nat → Int32) → List SE4 × Nat × List Nat × (Nat → Int32)
  | [], qn, gs, en => ([], qn, gs, en)
  | w :: st, qn, gs, en => if w.1 = 40 then (w :: st, qn, gs, en) else if w.1 = 33 then popT st qn (gs ++ [33]) en else popT st (qn - 1) gs (uI en w.2.2.2 (nI gs.length))
def aET : AU → AU
  | (stk, an, o, qn, sd, cp, ad, gs, en, ss) => ((popT stk qn gs en).1, false, o, (popT stk qn gs en).2.1, sd, cp, ad, orL an 38 (popT stk qn gs en).2.2.1, (popT stk qn gs en).2.2.2, ss)
def aEB : AU → AU
  | (stk, an, o, qn, sd, cp, ad, gs, en, ss) => (stk, an, false, qn, sd, cp, ad, orL o 124 gs, en, ss)
def aEC : AU → AU
  | (stk, an, o, qn, sd, cp, ad, gs, en, ss) => aET (stk, an, o, qn, sd, 0, ad, gs ++ [cp], en, ss)
def aGO (rule : Bool) (c : Nat) : AU → Option (Nat × AU)
  | (stk, an, o, qn, sd, cp, ad, gs, en, ss) =>
    if c = 38 then some (0, (stk, true, o, qn, sd, cp, ad, gs, en, ss))
    else if c = 124 then some (0, (stk, an, true, qn, sd, cp, ad, orL o 124 gs, en, ss))
    else if c = 41 then (match stk with
      | [] => none
      | w :: st => some (4, aET (st, w.2.1, w.2.2.1, qn, sd, cp, ad, orL o 124 gs, en, ss)))
    else if c = 62 ∧ rule = true then (match stk with
      | [] => some (1, ([], an, false, qn, 2, cp, ad, orL o 124 gs, en, ss))
      | _ :: _ => none)
    else none
def aFo (rule : Bool) (due c : Nat) : AU → Option (Nat × AU)
  | (stk, an, o, qn, sd, cp, ad, gs, en, ss) =>
    if due = 2 ∧ (c = 43 ∨ c = 45) then some (1, (stk, an, o, qn, sd, cp, c, gs, en, ss))
    else if due = 2 ∧ c = 37 then some (3, aAp [37] (stk, an, o, qn, sd, cp, ad, gs, en, ss))
    else if due < 4 ∧ sd = 0 ∧ (c = 61 ∨ c = 35 ∨ c = 60) then some (1, (stk, an, o, qn, 1, c, ad, gs, en, ss))
    else if due < 4 ∧ sd ≠ 1 then none
    else if c ≠ 38 ∧ c ≠ 124 ∧ c ≠ 41 ∧ c ≠ 62 then none
    else aGO rule c (if due < 4 then aEC (stk, an, o, qn, sd, cp, ad, gs, en, ss) else (stk, an, o, qn, sd, cp, ad, gs, en, ss))
def aBg (c : Nat) : AU → Option (Nat × AU)
  | (stk, an, o, qn, sd, cp, ad, gs, en, ss) =>
    if stk.length = 8 ∨ (c ≠ 33 ∧ c ≠ 40 ∧ (¬ (c = 65 ∨ c = 69) ∨ 0 < qn)) then none
    else if c = 33 then some (0, ((c, an, o, gs.length) :: stk, an, o, qn, sd, cp, ad, gs, en, ss))
    else if c = 40 then some (0, ((c, an, o, gs.length) :: stk, false, false, qn, sd, cp, ad, gs, en, ss))
    else some (0, ((c, an, o, gs.length) :: stk, an, o, qn + 1, sd, cp, ad, gs ++ [c], en, ss))
def adL (ad : Nat) : List Nat := if ad = 0 then [] else [ad]
def aSt (due c : Nat) : AU → Option (Nat × AU)
  | (stk, an, o, qn, sd, cp, ad, gs, en, ss) =>
    if isP (decide (0 < qn) && decide (sd ≠ 2)) c = true then some (2, aAp (c :: adL ad) (stk, an, o, qn, (if due = 0 then 0 else sd), cp, 0, gs, en, ss))
    else if due = 0 then aBg c (stk, an, o, qn, sd, cp, ad, gs, en, ss) else none
def aStep (rule : Bool) (due c : Nat) (σ : AU) : Option (Nat × AU) := if due < 2 then aSt due c σ else aFo rule due c σ
def aEnd (p : Nat) (τ : AU) : Nat ⊕ AU := if (aEB τ).1.isEmpty = true then .inr (aEB τ) else .inl p
def aFin (rule : Bool) (p due : Nat) (σ : AU) : Nat ⊕ AU :=
  if due < 2 then .inl p else if rule = true then (if σ.2.2.2.2.1 = 2 then .inr σ else .inl p)
  else if due < 4 ∧ σ.2.2.2.2.1 = 0 then .inl p else aEnd p (if due < 4 then aEC σ else σ)
def aRn (t : Nat → Nat) (rule : Bool) : Nat → Nat → Nat → AU → Nat ⊕ AU
  | 0, p, due, σ => aFin rule p due σ
  | m + 1, p, due, σ => match aStep rule due (t p) σ with
    | none => .inl p
    | some w => aRn t rule m (p + 1) w.1 w.2
def aR (t : Nat → Nat) (len : Nat) (rule : Bool) (p due : Nat) (σ : AU) : Nat ⊕ AU := aRn t rule (len - p) p due σ
/-- behind a test that is closed -/
def gR (t : Nat → Nat) (len : Nat) (rule : Bool) (q : Nat) (τ : AU) : Nat ⊕ AU := if q < len then (match aGO rule (t q) τ with
    | none => .inl q
    | some w => aR t len rule (q + 1) w.1 w.2)
  else if rule = true then .inl q else aEnd q τ
def exJ (nb : Bool) (n k m : Nat) (vs pt : Nat → Int32) : List IT → List Int32 → Option (List Int32)
  | [], st => some st
  | .inl c :: l, st => match exC nb k pt c st with
    | none => none
    | some st' => exJ nb n k m vs pt l st'
  | .inr w :: l, st => exJ nb n k m vs pt l (bI (quF (decide (w.1 = 65)) (w.2.2 n k m vs) m vs pt n) :: st)
theorem exJ_app {nb : Bool} {n k m : Nat} {vs pt : Nat → Int32} : ∀ (l1 l2 : List IT) (st st' : List Int32), exJ nb n k m vs pt l1 st = some st' → exJ nb n k m vs pt (l1 ++ l2) st = exJ nb n k m vs pt l2 st'
  | [], l2, st, st', q => by
    simp only [exJ, Option.some.injEq] at q
    rw [q]; rfl
  | .inl c :: l, l2, st, st', q => by
    rw [exJ] at q
    rw [List.cons_append, exJ]
    cases hc : exC nb k pt c st with
    | none => rw [hc] at q; cases q
    | some s1 => rw [hc] at q; exact exJ_app l l2 s1 st' q
  | .inr w :: l, l2, st, st', q => by
    rw [exJ] at q
    rw [List.cons_append, exJ]
    exact exJ_app l l2 _ st' q
theorem exJ_I {n k m : Nat} {vs pt : Nat → Int32} : ∀ (l : List IT) (st : List Int32), exJ false n k m vs pt l st = exI n k m vs pt l st
  | [], st => rfl
  | .inl c :: l, st => by
    rw [exJ, exI]
    cases hc : exC false k pt c st with
    | none => rfl
    | some s1 => exact exJ_I l s1
  | .inr w :: l, st => by rw [exJ, exI]; exact exJ_I l _
theorem exJ_L {nb : Bool} {n k m : Nat} {vs pt : Nat → Int32} : ∀ (l : List Nat) (st : List Int32), exJ nb n k m vs pt (l.map Sum.inl) st = exL nb k pt l st
  | [], st => rfl
  | c :: l, st => by
    rw [List.map_cons, exJ, exL]
    cases hc : exC nb k pt c st with
    | none => rfl
    | some s1 => exact exJ_L l s1
theorem flI_map : ∀ l : List Nat, flI (l.map Sum.inl) = l
  | [] => rfl
  | c :: l => by rw [List.map_cons, flI, flI_map l]
theorem okI_map {en : Nat → Int32} : ∀ (l : List Nat) (p : Nat), okI en (l.map Sum.inl) p
  | [], _ => trivial
  | c :: l, p => okI_map l (p + 1)
/-- a piece of a program that says D -/
def SG (nb : Bool) (its : List IT) (D : GD) (g : Nat) (en : Nat → Int32) : Prop := okI en its g ∧ (nb = true → ∃ cd : List Nat, its = cd.map Sum.inl) ∧ ∀ (n k m : Nat) (vs pt : Nat → Int32) (st : List Int32), exJ nb n k m vs pt its st = some (bI (D n k m vs pt) :: st)
theorem SG_pair {nb op : Bool} {a b : List IT} {D1 D2 : GD} {g : Nat} {en : Nat → Int32} (h1 : SG nb a D1 g en) (h2 : SG nb b D2 (g + (flI a).length) en) : SG nb (a ++ (b ++ [.inl (if op = true then 38 else 124)])) (prD op D1 D2) g en := by
  refine ⟨?_, fun hn => ?_, fun n k m vs pt st => ?_⟩
  · rw [okI_app, okI_app]
    exact ⟨h1.1, h2.1, trivial⟩
  · obtain ⟨c1, e1⟩ := h1.2.1 hn
    obtain ⟨c2, e2⟩ := h2.2.1 hn
    refine ⟨c1 ++ (c2 ++ [if op = true then 38 else 124]), ?_⟩
    rw [e1, e2, List.map_append, List.map_append]
    rfl
  · rw [exJ_app a _ st _ (h1.2.2 n k m vs pt st), exJ_app b _ _ _ (h2.2.2 n k m vs pt _)]
    cases op
    · simp only [prD, exJ, exC, Bool.false_eq_true, if_false]
      cases D1 n k m vs pt <;> cases D2 n k m vs pt <;> simp [isOp, joI, bI] <;> decide
    · simp only [prD, exJ, exC, if_true]
      cases D1 n k m vs pt <;> cases D2 n k m vs pt <;> simp [isOp, joI, bI] <;> decide
theorem SG_not {nb : Bool} {a : List IT} {D1 : GD} {g : Nat} {en : Nat → Int32} (h1 : SG nb a D1 g en) : SG nb (a ++ [.inl 33]) (fun n k m vs pt => !(D1 n k m vs pt)) g en := by
  refine ⟨?_, fun hn => ?_, fun n k m vs pt st => ?_⟩
  · rw [okI_app]
    exact ⟨h1.1, trivial⟩
  · obtain ⟨c1, e1⟩ := h1.2.1 hn
    refine ⟨c1 ++ [33], ?_⟩
    rw [e1, List.map_append]
    rfl
  · rw [exJ_app a _ st _ (h1.2.2 n k m vs pt st)]
    simp only [exJ, exC]
    cases D1 n k m vs pt <;> simp [bI] <;> decide
theorem SG_cong {nb : Bool} {a : List IT} {D1 : GD} {g : Nat} {en en' : Nat → Int32} (h1 : SG nb a D1 g en) (q : ∀ i, i < g + (flI a).length → en' i = en i) : SG nb a D1 g en' := ⟨okI_cong _ _ (fun i _ h => q i h) h1.1, h1.2.1, h1.2.2⟩
section ParseP
variable {t : Nat → Nat} {len : Nat} {rule : Bool}
theorem aR_lt {p due : Nat} {σ : AU} (h : p < len) : aR t len rule p due σ = match aStep rule due (t p) σ with
    | none => .inl p
    | some w => aR t len rule (p + 1) w.1 w.2 := by
  rw [aR, show len - p = (len - (p + 1)) + 1 by omega, aRn]
  cases aStep rule due (t p) σ <;> rfl
theorem aR_ge {p due : Nat} {σ : AU} (h : len ≤ p) : aR t len rule p due σ = aFin rule p due σ := by
  rw [aR, show len - p = 0 by omega, aRn]
theorem aR_some {p due due' : Nat} {σ σ' : AU} (h : p < len) (e : aStep rule due (t p) σ = some (due', σ')) : aR t len rule p due σ = aR t len rule (p + 1) due' σ' := by
  rw [aR_lt h, e]
theorem aR_none {p due : Nat} {σ : AU} (h : p < len) (e : aStep rule due (t p) σ = none) : aR t len rule p due σ = .inl p := by
  rw [aR_lt h, e]
theorem aAp_app {a b : List Nat} {σ : AU} : aAp b (aAp a σ) = aAp (a ++ b) σ := by
  obtain ⟨stk, an, o, qn, sd, cp, ad, gs, en, ss⟩ := σ
  unfold aAp
  by_cases h : sd = 2
  · simp [h]
  · simp [h]
theorem aAp_nil {σ : AU} : aAp [] σ = σ := by
  obtain ⟨stk, an, o, qn, sd, cp, ad, gs, en, ss⟩ := σ
  unfold aAp
  by_cases h : sd = 2 <;> simp [h]
theorem close_all {q due : Nat} {stk : List SE4} {an o : Bool} {qn cp ad : Nat} {gs : List Nat} {en : Nat → Int32} {ss : List Nat} (h1 : due = 4 ∨ due = 3 ∨ (due = 2 ∧ t q ≠ 43 ∧ t q ≠ 45 ∧ t q ≠ 37)) : aR t len rule q due (stk, an, o, qn, 1, cp, ad, gs, en, ss) = gR t len rule q (if due < 4 then aEC (stk, an, o, qn, 1, cp, ad, gs, en, ss) else (stk, an, o, qn, 1, cp, ad, gs, en, ss)) := by
  have hd : ¬ due < 2 := by omega
  by_cases hq : q < len
  · rw [aR_lt hq, gR, if_pos hq, aStep, if_neg hd, aFo]
    have e1 : ¬ (due = 2 ∧ (t q = 43 ∨ t q = 45)) := by omega
    have e2 : ¬ (due = 2 ∧ t q = 37) := by omega
    have e3 : ¬ (due < 4 ∧ (1 : Nat) = 0 ∧ (t q = 61 ∨ t q = 35 ∨ t q = 60)) := by omega
    have e4 : ¬ (due < 4 ∧ (1 : Nat) ≠ 1) := by omega
    rw [if_neg e1, if_neg e2, if_neg e3, if_neg e4]
    by_cases e5 : t q ≠ 38 ∧ t q ≠ 124 ∧ t q ≠ 41 ∧ t q ≠ 62
    · rw [if_pos e5]
      have e6 : ∀ τ : AU, aGO rule (t q) τ = none := fun τ => by
        obtain ⟨a1, a2, a3, a4, a5, a6, a7, a8, a9, a10⟩ := τ
        unfold aGO
        dsimp only
        rw [if_neg e5.1, if_neg e5.2.1, if_neg e5.2.2.1, if_neg (fun z => e5.2.2.2 z.1)]
      rw [e6]
    · rw [if_neg e5]
  · rw [aR_ge (by omega), gR, if_neg hq, aFin, if_neg hd]
    by_cases hr : rule = true
    · rw [if_pos hr, if_pos hr]
      rfl
    · rw [if_neg hr, if_neg hr, if_neg (fun z => by have := z.2; simp at this)]
theorem sum_loop {nb : Bool} {stk : List SE4} {an o : Bool} {qn sd cp p0 : Nat} {en : Nat → Int32} (ht : ∀ i, len ≤ i → t i = 0) (hnb : (decide (0 < qn) && decide (sd ≠ 2)) = nb) : ∀ (f p m : Nat) (gs ss : List Nat), p + 1 = p0 + 2 * m → 1 ≤ m → len ≤ p + f →
    (∀ q, pSumL t nb f p m = (q, none) → aR t len rule p 2 (stk, an, o, qn, sd, cp, 0, gs, en, ss) = .inl q) ∧
    (∀ q m' w, pSumL t nb f p m = (q, some (m', w)) → ∃ cd due, aR t len rule p 2 (stk, an, o, qn, sd, cp, 0, gs, en, ss) = aR t len rule q due (aAp cd (stk, an, o, qn, sd, cp, 0, gs, en, ss)) ∧ (due = 3 ∨ (due = 2 ∧ t q ≠ 43 ∧ t q ≠ 45 ∧ t q ≠ 37)) ∧ p ≤ q ∧ ∀ (k : Nat) (pt : Nat → Int32) (st : List Int32), exL nb k pt cd (svF pt (fun i => t (p0 + 2 * i)) (sgF t p0) m :: st) = some (smF k pt m' (fun i => t (p0 + 2 * i)) (sgF t p0) w :: st)) := by
  have base : ∀ (p m : Nat) (gs ss : List Nat), t p ≠ 43 → t p ≠ 45 → (∀ q, pFin t p m = (q, none) → aR t len rule p 2 (stk, an, o, qn, sd, cp, 0, gs, en, ss) = .inl q) ∧ (∀ q m' w, pFin t p m = (q, some (m', w)) → ∃ cd due, aR t len rule p 2 (stk, an, o, qn, sd, cp, 0, gs, en, ss) = aR t len rule q due (aAp cd (stk, an, o, qn, sd, cp, 0, gs, en, ss)) ∧ (due = 3 ∨ (due = 2 ∧ t q ≠ 43 ∧ t q ≠ 45 ∧ t q ≠ 37)) ∧ p ≤ q ∧ ∀ (k : Nat) (pt : Nat → Int32) (st : List Int32), exL nb k pt cd (svF pt (fun i => t (p0 + 2 * i)) (sgF t p0) m :: st) = some (smF k pt m' (fun i => t (p0 + 2 * i)) (sgF t p0) w :: st)) := by
    intro p m gs ss n43 n45
    unfold pFin
    by_cases h37 : t p = 37
    · rw [if_pos h37]
      have hp : p < len := Nat.lt_of_not_le (fun z => by rw [ht p z] at h37; cases h37)
      refine ⟨fun q z => (by cases z), fun q m' w z => ?_⟩
      cases z
      refine ⟨[37], 3, ?_, Or.inl rfl, by omega, fun k pt st => ?_⟩
      · refine aR_some hp ?_
        rw [aStep, if_neg (by decide), aFo, if_neg (by omega), if_pos ⟨rfl, h37⟩]
      · simp [exL, exC, smF]
    · rw [if_neg h37]
      refine ⟨fun q z => (by cases z), fun q m' w z => ?_⟩
      cases z
      exact ⟨[], 2, by rw [aAp_nil], Or.inr ⟨rfl, n43, n45, h37⟩, Nat.le_refl _, fun k pt st => by simp [exL, smF]⟩
  intro f
  induction f with
  | zero =>
    intro p m gs ss h0 hm hl
    have h1 := ht p (by omega)
    rw [pSumL]
    exact base p m gs ss (by rw [h1]; decide) (by rw [h1]; decide)
  | succ f ih =>
    intro p m gs ss h0 hm hl
    rw [pSumL]
    by_cases hop : t p = 43 ∨ t p = 45
    · rw [if_pos hop]
      have hp : p < len := Nat.lt_of_not_le (fun z => by have := ht p z; omega)
      have e1 : aR t len rule p 2 (stk, an, o, qn, sd, cp, 0, gs, en, ss) = aR t len rule (p + 1) 1 (stk, an, o, qn, sd, cp, t p, gs, en, ss) := by
        refine aR_some hp ?_
        rw [aStep, if_neg (by decide), aFo, if_pos ⟨rfl, hop⟩]
      by_cases hP : isP nb (t (p + 1)) = true
      · rw [if_pos hP]
        have hp1 : p + 1 < len := Nat.lt_of_not_le (fun z => by rw [ht _ z, isP_0] at hP; cases hP)
        have e2 : aR t len rule (p + 1) 1 (stk, an, o, qn, sd, cp, t p, gs, en, ss) = aR t len rule (p + 2) 2 (aAp [t (p + 1), t p] (stk, an, o, qn, sd, cp, 0, gs, en, ss)) := by
          refine aR_some hp1 ?_
          rw [aStep, if_pos (by decide), aSt, hnb, if_pos hP, adL, if_neg (by omega), if_neg (by decide)]
        obtain ⟨gs', ss', e3⟩ : ∃ gs' ss', aAp [t (p + 1), t p] (stk, an, o, qn, sd, cp, 0, gs, en, ss) = (stk, an, o, qn, sd, cp, 0, gs', en, ss') := by
          unfold aAp
          by_cases h2 : sd = 2
          · exact ⟨gs, ss ++ [t (p + 1), t p], by simp [h2]⟩
          · exact ⟨gs ++ [t (p + 1), t p], ss, by simp [h2]⟩
        obtain ⟨i1, i2⟩ := ih (p + 2) (m + 1) gs' ss' (by omega) (by omega) (by omega)
        rw [← e3] at i1 i2
        refine ⟨fun q z => by rw [e1, e2]; exact i1 q z, fun q m' w z => ?_⟩
        obtain ⟨cd, due, y1, y2, y3, y4⟩ := i2 q m' w z
        refine ⟨[t (p + 1), t p] ++ cd, due, by rw [e1, e2, y1, aAp_app], y2, by omega, fun k pt st => ?_⟩
        have e5 : p0 + 2 * m = p + 1 := by omega
        have hng : sgF t p0 m = (t p == 45) := by
          rw [sgF, decide_eq_true (by omega), Bool.true_and, show p0 + 2 * m - 1 = p by omega]
        have y5 := y4 k pt st
        rw [svF] at y5
        have e6 : exL nb k pt [t (p + 1), t p] (svF pt (fun i => t (p0 + 2 * i)) (sgF t p0) m :: st) = some ((svF pt (fun i => t (p0 + 2 * i)) (sgF t p0) m + (if sgF t p0 m = true then -(pt (t (p0 + 2 * m))) else pt (t (p0 + 2 * m)))) :: st) := by
          have hno := isP_nop0 (t (p + 1)) (isP_lt hP)
          have hPt : isP true (t (p + 1)) = true := by
            rcases isP_ok.mp hP with z | ⟨-, z⟩
            · exact isP_ok.mpr (Or.inl z)
            · exact isP_ok.mpr (Or.inr ⟨rfl, z⟩)
          rw [hPt] at hno
          simp only [Bool.not_true, Bool.false_or, Bool.and_eq_true, Bool.not_eq_true', beq_eq_false_iff_ne] at hno
          obtain ⟨⟨h37, h33⟩, hOp⟩ := hno
          have ec : exC nb k pt (t (p + 1)) (svF pt (fun i => t (p0 + 2 * i)) (sgF t p0) m :: st) = some (pt (t (p + 1)) :: svF pt (fun i => t (p0 + 2 * i)) (sgF t p0) m :: st) := by
            rw [exC, if_neg h37, if_neg h33, if_neg (by rw [hOp]; decide), if_pos hP]
          rw [exL, ec]
          dsimp only
          rw [exL, e5, hng]
          rcases hop with ho | ho
          · rw [ho]
            simp [exC, isOp, joI, exL]
          · rw [ho]
            simp [exC, isOp, joI, exL, Int32.sub_eq_add_neg]
        rw [exL_app _ _ _ _ e6]
        exact y5
      · rw [if_neg hP]
        refine ⟨fun q z => ?_, fun q m' w z => by cases z⟩
        cases z
        rw [e1]
        by_cases hp1 : p + 1 < len
        · refine aR_none hp1 ?_
          rw [aStep, if_pos (by decide), aSt, hnb, if_neg hP, if_neg (by decide)]
        · rw [aR_ge (by omega), aFin, if_pos (by decide)]
    · rw [if_neg hop]
      exact base p m gs ss (fun z => hop (Or.inl z)) (fun z => hop (Or.inr z))
end ParseP
