/-! The search in plain words: which states go on for ever outside the good ones, and how far the others are. -/
def uN (f : Nat → Nat) (a x : Nat) : Nat → Nat := fun t => if t = a then x else f t
theorem uN_s {f : Nat → Nat} {a x : Nat} : uN f a x a = x := if_pos rfl
theorem uN_o {f : Nat → Nat} {a x t : Nat} (h : t ≠ a) : uN f a x t = f t := if_neg h
def smN (f : Nat → Nat) : Nat → Nat
  | 0 => 0
  | j + 1 => smN f j + f j
theorem sm_cong {f g : Nat → Nat} : ∀ j, (∀ i, i < j → f i = g i) → smN f j = smN g j
  | 0, _ => rfl
  | j + 1, q => by rw [smN, smN, sm_cong j (fun i hi => q i (by omega)), q j (by omega)]
theorem sm_upd {f g : Nat → Nat} {a : Nat} (q : ∀ i, i ≠ a → f i = g i) : ∀ j, a < j → smN f j + g a = smN g j + f a
  | j + 1, ha => by
    by_cases h : a = j
    · subst h
      rw [smN, smN, sm_cong a (fun i hi => q i (by omega))]
      omega
    · have ih := sm_upd q j (by omega)
      rw [smN, smN, q j (fun z => h z.symm)]
      omega
theorem sm_le {f : Nat → Nat} {b : Nat} : ∀ j, (∀ i, i < j → f i ≤ b) → smN f j ≤ b * j
  | 0, _ => by simp [smN]
  | j + 1, q => by
    have ih := sm_le (f := f) (b := b) j (fun i hi => q i (by omega))
    have := q j (by omega)
    rw [smN, Nat.mul_succ]
    omega
theorem sm_ge {f : Nat → Nat} {a : Nat} : ∀ j, a < j → f a ≤ smN f j
  | j + 1, ha => by
    rw [smN]
    by_cases h : a = j
    · subst h; omega
    · have := sm_ge (f := f) j (show a < j by omega)
      omega
def Fst (p : Nat → Prop) (s : Nat) : Prop := p s ∧ ∀ t, t < s → ¬ p t
theorem Fst_uniq {p : Nat → Prop} {s t : Nat} (a : Fst p s) (b : Fst p t) : s = t := by
  rcases Nat.lt_trichotomy s t with h | h | h
  · exact absurd a.1 (b.2 s h)
  · exact h
  · exact absurd b.1 (a.2 t h)
/-- s lies on a run that never comes to good -/
def InX (N : Nat) (ok : Nat → Nat → Bool) (af : Nat → Nat → Nat) (gd : Nat → Bool) (s : Nat) : Prop := ∃ P : Nat → Prop, P s ∧ ∀ t, P t → t < N ∧ gd t = false ∧ ∃ c, c < 32 ∧ ok t c = true ∧ P (af t c)
def Dst (N : Nat) (ok : Nat → Nat → Bool) (af : Nat → Nat → Nat) (gd : Nat → Bool) (D : Nat → Nat) : Prop := ∀ s, s < N → (gd s = true → D s = 0) ∧ (gd s = false → (∀ c, c < 32 → ok s c = true → D (af s c) + 1 ≤ D s) ∧ ∃ c, c < 32 ∧ ok s c = true ∧ D s = D (af s c) + 1)
section Sea
variable {N : Nat} {ok : Nat → Nat → Bool} {af : Nat → Nat → Nat} {gd : Nat → Bool}
theorem InX_step {s : Nat} (q : InX N ok af gd s) : s < N ∧ gd s = false ∧ ∃ c, c < 32 ∧ ok s c = true ∧ InX N ok af gd (af s c) := by
  obtain ⟨P, h1, h2⟩ := q
  obtain ⟨a1, a2, c, a3, a4, a5⟩ := h2 s h1
  exact ⟨a1, a2, c, a3, a4, P, a5, h2⟩
theorem InX_of {s c : Nat} (hs : s < N) (hg : gd s = false) (hc : c < 32) (ho : ok s c = true) (q : InX N ok af gd (af s c)) : InX N ok af gd s := by
  obtain ⟨P, h1, h2⟩ := q
  refine ⟨fun t => t = s ∨ P t, Or.inl rfl, fun t ht => ?_⟩
  rcases ht with rfl | ht
  · exact ⟨hs, hg, c, hc, ho, Or.inr h1⟩
  · obtain ⟨a1, a2, c', a3, a4, a5⟩ := h2 t ht
    exact ⟨a1, a2, c', a3, a4, Or.inr a5⟩
theorem Dst_le {D D' : Nat → Nat} (hA : ∀ s, s < N → ∀ c, c < 32 → ok s c = true → af s c < N) (a : Dst N ok af gd D) (b : Dst N ok af gd D') : ∀ m s, D s ≤ m → s < N → D s ≤ D' s
  | m, s, hm, hs => by
    cases hg : gd s with
    | true => rw [(a s hs).1 hg]; exact Nat.zero_le _
    | false =>
      obtain ⟨c, h1, h2, h3⟩ := ((a s hs).2 hg).2
      have h4 := ((b s hs).2 hg).1 c h1 h2
      cases m with
      | zero => omega
      | succ m =>
        have := Dst_le hA a b m (af s c) (by omega) (hA s hs c h1 h2)
        omega
theorem Dst_uniq {D D' : Nat → Nat} (hA : ∀ s, s < N → ∀ c, c < 32 → ok s c = true → af s c < N) (a : Dst N ok af gd D) (b : Dst N ok af gd D') {s : Nat} (hs : s < N) : D s = D' s := Nat.le_antisymm (Dst_le hA a b _ s (Nat.le_refl _) hs) (Dst_le hA b a _ s (Nat.le_refl _) hs)
theorem Dst_noX {D : Nat → Nat} (a : Dst N ok af gd D) : ∀ m s, D s ≤ m → ¬ InX N ok af gd s
  | m, s, hm, q => by
    obtain ⟨h1, h2, c, h3, h4, h5⟩ := InX_step q
    have h6 := ((a s h1).2 h2).1 c h3 h4
    cases m with
    | zero => omega
    | succ m => exact Dst_noX a m (af s c) (by omega) h5
end Sea
/-- the step by which an endless run goes on -/
def NX (N : Nat) (ok : Nat → Nat → Bool) (af : Nat → Nat → Nat) (gd : Nat → Bool) (s t : Nat) : Prop := ∃ c, Fst (fun c => c < 32 ∧ ok s c = true ∧ InX N ok af gd (af s c)) c ∧ t = af s c
def P1 (N : Nat) (ok : Nat → Nat → Bool) (af : Nat → Nat → Nat) (gd : Nat → Bool) (s c : Nat) : Prop := s < N ∧ gd s = true ∧ c < 32 ∧ ok s c = true ∧ gd (af s c) = false
def P2 (N : Nat) (en : Nat → Nat) (gd : Nat → Bool) (s : Nat) : Prop := s < N ∧ gd s = false ∧ en s = 0
/-- what a search finds: the verdict, the run, and the distances -/
def SR (N : Nat) (en : Nat → Nat) (ok : Nat → Nat → Bool) (af : Nat → Nat → Nat) (gd : Nat → Bool) (vd rl : Nat) (run D : Nat → Nat) : Prop :=
  (vd = 1 ∧ rl = 2 ∧ ∃ c, Fst (fun s => ∃ c, P1 N ok af gd s c) (run 0) ∧ Fst (P1 N ok af gd (run 0)) c ∧ run 1 = af (run 0) c)
  ∨ ((∀ s c, ¬ P1 N ok af gd s c) ∧ vd = 2 ∧ rl = 1 ∧ Fst (P2 N en gd) (run 0))
  ∨ ((∀ s c, ¬ P1 N ok af gd s c) ∧ (∀ s, ¬ P2 N en gd s) ∧ vd = 3 ∧ ∃ m, rl = m + 1 ∧ Fst (InX N ok af gd) (run 0) ∧ (∀ i, i < m → NX N ok af gd (run i) (run (i + 1))) ∧ (∀ i j, i < j → j < m → run i ≠ run j) ∧ ∃ j, j < m ∧ run j = run m)
  ∨ ((∀ s c, ¬ P1 N ok af gd s c) ∧ (∀ s, ¬ P2 N en gd s) ∧ vd = 0 ∧ rl = 0 ∧ Dst N ok af gd D)
section Sea2
variable {N : Nat} {en : Nat → Nat} {ok : Nat → Nat → Bool} {af : Nat → Nat → Nat} {gd : Nat → Bool}
theorem NX_uniq {s t t' : Nat} (a : NX N ok af gd s t) (b : NX N ok af gd s t') : t = t' := by
  obtain ⟨c, h1, h2⟩ := a
  obtain ⟨c', h3, h4⟩ := b
  rw [h2, h4, Fst_uniq h1 h3]
theorem run_eq {run run' : Nat → Nat} {m m' : Nat} (h0 : run 0 = run' 0) (a : ∀ i, i < m → NX N ok af gd (run i) (run (i + 1))) (b : ∀ i, i < m' → NX N ok af gd (run' i) (run' (i + 1))) : ∀ i, i ≤ m → i ≤ m' → run i = run' i
  | 0, _, _ => h0
  | i + 1, h1, h2 => by
    have ih := run_eq h0 a b i (by omega) (by omega)
    have q1 := a i (by omega)
    have q2 := b i (by omega)
    rw [← ih] at q2
    exact NX_uniq q1 q2
theorem run_le {run run' : Nat → Nat} {m m' : Nat} (h0 : run 0 = run' 0) (a : ∀ i, i < m → NX N ok af gd (run i) (run (i + 1))) (b : ∀ i, i < m' → NX N ok af gd (run' i) (run' (i + 1))) (a2 : ∃ j, j < m ∧ run j = run m) (b1 : ∀ i j, i < j → j < m' → run' i ≠ run' j) : m' ≤ m := by
  refine Nat.le_of_not_lt (fun z => ?_)
  obtain ⟨j, h1, h2⟩ := a2
  have e1 := run_eq h0 a b j (by omega) (by omega)
  have e2 := run_eq h0 a b m (by omega) (by omega)
  exact b1 j m h1 z (by rw [← e1, ← e2]; exact h2)
theorem SR_uniq {vd vd' rl rl' : Nat} {run run' D D' : Nat → Nat} (hA : ∀ s, s < N → ∀ c, c < 32 → ok s c = true → af s c < N) (a : SR N en ok af gd vd rl run D) (b : SR N en ok af gd vd' rl' run' D') : vd = vd' ∧ rl = rl' ∧ (∀ i, i < rl → run i = run' i) ∧ (vd = 0 → ∀ s, s < N → D s = D' s) := by
  rcases a with ⟨a1, a2, c, a3, a4, a5⟩ | ⟨a0, a1, a2, a3⟩ | ⟨a0, a0', a1, m, a2, a3, a4, a5, a6⟩ | ⟨a0, a0', a1, a2, a3⟩
  · rcases b with ⟨b1, b2, c', b3, b4, b5⟩ | ⟨b0, b1⟩ | ⟨b0, b1⟩ | ⟨b0, b1⟩
    · have e0 := Fst_uniq a3 b3
      rw [← e0] at b4 b5
      have e1 := Fst_uniq a4 b4
      refine ⟨by omega, by omega, fun i hi => ?_, fun z => by omega⟩
      have : i = 0 ∨ i = 1 := by omega
      rcases this with rfl | rfl
      · exact e0
      · rw [a5, b5, e1]
    · exact absurd a4.1 (b0 _ _)
    · exact absurd a4.1 (b0 _ _)
    · exact absurd a4.1 (b0 _ _)
  · rcases b with ⟨b1, b2, c', b3, b4, b5⟩ | ⟨b0, b1, b2, b3⟩ | ⟨b0, b0', b1⟩ | ⟨b0, b0', b1⟩
    · exact absurd b4.1 (a0 _ _)
    · refine ⟨by omega, by omega, fun i hi => ?_, fun z => by omega⟩
      have : i = 0 := by omega
      subst this
      exact Fst_uniq a3 b3
    · exact absurd a3.1 (b0' _)
    · exact absurd a3.1 (b0' _)
  · rcases b with ⟨b1, b2, c', b3, b4, b5⟩ | ⟨b0, b1, b2, b3⟩ | ⟨b0, b0', b1, m', b2, b3, b4, b5, b6⟩ | ⟨b0, b0', b1, b2, b3⟩
    · exact absurd b4.1 (a0 _ _)
    · exact absurd b3.1 (a0' _)
    · have e0 := Fst_uniq a3 b3
      have l1 := run_le e0 a4 b4 a6 b5
      have l2 := run_le e0.symm b4 a4 b6 a5
      refine ⟨by omega, by omega, fun i hi => run_eq e0 a4 b4 i (by omega) (by omega), fun z => by omega⟩
    · exact absurd a3.1 (Dst_noX b3 _ _ (Nat.le_refl _))
  · rcases b with ⟨b1, b2, c', b3, b4, b5⟩ | ⟨b0, b1, b2, b3⟩ | ⟨b0, b0', b1, m', b2, b3, b4, b5, b6⟩ | ⟨b0, b0', b1, b2, b3⟩
    · exact absurd b4.1 (a0 _ _)
    · exact absurd b3.1 (a0' _)
    · exact absurd b3.1 (Dst_noX a3 _ _ (Nat.le_refl _))
    · exact ⟨by omega, by omega, fun i hi => by omega, fun _ s hs => Dst_uniq hA a3 b3 hs⟩
end Sea2
/-! The depth-first search's invariant. -/
def phF (mark tried : Nat → Nat) (s : Nat) : Nat := (31 - tried s) + (if mark s = 0 then 2 else if mark s = 1 then 1 else 0)
def phi (N : Nat) (mark tried : Nat → Nat) : Nat := smN (phF mark tried) N
def opF (mark : Nat → Nat) (s : Nat) : Nat := if mark s = 1 then 1 else 0
/-- what is known of a state -/
def DS (N : Nat) (en : Nat → Nat) (ok : Nat → Nat → Bool) (af : Nat → Nat → Nat) (gd : Nat → Bool) (mark tried dist : Nat → Nat) (ph s : Nat) : Prop :=
  mark s ≤ 2 ∧ tried s ≤ 31 ∧ (gd s = true → mark s = 2 ∧ dist s = 0) ∧ (mark s = 0 → tried s = 0 ∧ dist s = 0) ∧ (mark s = 2 → gd s = false → en s ≤ tried s) ∧ (gd s = false → 1000000 ≤ dist s → InX N ok af gd s)
  ∧ (gd s = false → dist s < 1000000 → (∀ c, c < 32 → c ≤ tried s → ok s c = true → mark (af s c) = 2 ∧ dist (af s c) < 1000000 ∧ dist (af s c) + 1 ≤ dist s) ∧ (dist s = 0 ∨ ∃ c, c < 32 ∧ ok s c = true ∧ mark (af s c) = 2 ∧ dist s = dist (af s c) + 1))
  ∧ (dist s + ph ≤ 33792 ∨ (1000000 ≤ dist s ∧ dist s + ph ≤ 1040000))
def DI (N : Nat) (en : Nat → Nat) (ok : Nat → Nat → Bool) (af : Nat → Nat → Nat) (gd : Nat → Bool) (mark tried dist path : Nat → Nat) (dp : Nat) : Prop :=
  (∀ s, s < N → DS N en ok af gd mark tried dist (phi N mark tried) s) ∧ (∀ i, i < dp → path i < N ∧ mark (path i) = 1) ∧ (∀ i, i + 1 < dp → ∃ c, c < 32 ∧ ok (path i) c = true ∧ af (path i) c = path (i + 1)) ∧ (∀ s, s < N → mark s = 1 → ∃ i, i < dp ∧ path i = s) ∧ smN (opF mark) N = dp ∧ (∀ i j, i < j → j < dp → path i ≠ path j)
section Dfs
variable {N : Nat} {en : Nat → Nat} {ok : Nat → Nat → Bool} {af : Nat → Nat → Nat} {gd : Nat → Bool} {mark tried dist path : Nat → Nat} {dp : Nat}
theorem phi_mark {a x : Nat} (ha : a < N) : phi N (uN mark a x) tried + phF mark tried a = phi N mark tried + phF (uN mark a x) tried a :=
  sm_upd (f := phF (uN mark a x) tried) (g := phF mark tried) (fun i hi => by simp only [phF, uN_o hi]) N ha
theorem phi_tried {a x : Nat} (ha : a < N) : phi N mark (uN tried a x) + phF mark tried a = phi N mark tried + phF mark (uN tried a x) a :=
  sm_upd (f := phF mark (uN tried a x)) (g := phF mark tried) (fun i hi => by simp only [phF, uN_o hi]) N ha
theorem op_mark {a x : Nat} (ha : a < N) : smN (opF (uN mark a x)) N + opF mark a = smN (opF mark) N + opF (uN mark a x) a :=
  sm_upd (f := opF (uN mark a x)) (g := opF mark) (fun i hi => by simp only [opF, uN_o hi]) N ha
/-- all choices are tried: the state is done -/
theorem D_close {st : Nat} (I : DI N en ok af gd mark tried dist path (dp + 1)) (hst : st = path dp) (hc : en st ≤ tried st) : DI N en ok af gd (uN mark st 2) tried dist path dp ∧ phi N (uN mark st 2) tried + 1 = phi N mark tried := by
  obtain ⟨i1, i2, i3, i4, i5, i6⟩ := I
  have q := i2 dp (by omega)
  rw [← hst] at q
  have e1 := phi_mark (N := N) (mark := mark) (tried := tried) (a := st) (x := 2) q.1
  have e2 := op_mark (N := N) (mark := mark) (a := st) (x := 2) q.1
  simp only [phF, opF, uN_s, q.2] at e1 e2
  have e3 : phi N (uN mark st 2) tried + 1 = phi N mark tried := by
    simp at e1
    omega
  have g0 : gd st = false := by
    cases hg : gd st with
    | false => rfl
    | true => have := ((i1 st q.1).2.2.1 hg).1; omega
  have m2 : ∀ t, mark t = 2 → uN mark st 2 t = 2 := fun t ht => by
    by_cases h : t = st
    · rw [h, uN_s]
    · rw [uN_o h]; exact ht
  refine ⟨⟨fun s hs => ?_, fun i hi => ?_, fun i hi => i3 i (by omega), fun s hs hm => ?_, by simp at e2; omega, fun i j h1 h2 => i6 i j h1 (by omega)⟩, e3⟩
  · obtain ⟨d1, d2, d3, d4, d5, d6, d7, d8⟩ := i1 s hs
    refine ⟨?_, d2, fun hg => ⟨m2 s (d3 hg).1, (d3 hg).2⟩, fun hm => ?_, fun hm hg => ?_, d6, fun hg hd => ?_, by omega⟩
    · by_cases h : s = st
      · rw [h, uN_s]; omega
      · rw [uN_o h]; exact d1
    · by_cases h : s = st
      · rw [h, uN_s] at hm; omega
      · rw [uN_o h] at hm; exact d4 hm
    · by_cases h : s = st
      · rw [h]; exact hc
      · rw [uN_o h] at hm; exact d5 hm hg
    · obtain ⟨f1, f2⟩ := d7 hg hd
      refine ⟨fun c c1 c2 c3 => ⟨m2 _ (f1 c c1 c2 c3).1, (f1 c c1 c2 c3).2⟩, ?_⟩
      rcases f2 with f2 | ⟨c, c1, c2, c3, c4⟩
      · exact Or.inl f2
      · exact Or.inr ⟨c, c1, c2, m2 _ c3, c4⟩
  · have q2 := i2 i (by omega)
    refine ⟨q2.1, ?_⟩
    by_cases h : path i = st
    · exact absurd (h.trans hst) (i6 i dp hi (by omega))
    · rw [uN_o h]; exact q2.2
  · by_cases h : s = st
    · rw [h, uN_s] at hm; omega
    · rw [uN_o h] at hm
      obtain ⟨i, h1, h2⟩ := i4 s hs hm
      refine ⟨i, ?_, h2⟩
      by_cases h3 : i = dp
      · exfalso; rw [h3, ← hst] at h2; exact h h2.symm
      · omega
theorem D_skip {st : Nat} (I : DI N en ok af gd mark tried dist path (dp + 1)) (hst : st = path dp) (hc : tried st + 1 < 32) (ho : ok st (tried st + 1) = false) : DI N en ok af gd mark (uN tried st (tried st + 1)) dist path (dp + 1) ∧ phi N mark (uN tried st (tried st + 1)) + 1 = phi N mark tried := by
  obtain ⟨i1, i2, i3, i4, i5, i6⟩ := I
  have q := i2 dp (by omega)
  rw [← hst] at q
  have e1 := phi_tried (N := N) (mark := mark) (tried := tried) (a := st) (x := tried st + 1) q.1
  simp only [phF, uN_s, q.2] at e1
  have e3 : phi N mark (uN tried st (tried st + 1)) + 1 = phi N mark tried := by omega
  refine ⟨⟨fun s hs => ?_, i2, i3, i4, i5, i6⟩, e3⟩
  obtain ⟨d1, d2, d3, d4, d5, d6, d7, d8⟩ := i1 s hs
  by_cases h : s = st
  · rw [← h] at q e3 hc ho ⊢
    refine ⟨d1, by rw [uN_s]; omega, d3, fun hm => by omega, fun hm => by omega, d6, fun hg hd => ?_, by omega⟩
    obtain ⟨f1, f2⟩ := d7 hg hd
    refine ⟨fun c c1 c2 c3 => ?_, f2⟩
    rw [uN_s] at c2
    by_cases h4 : c = tried s + 1
    · rw [h4] at c3; rw [ho] at c3; cases c3
    · exact f1 c c1 (by omega) c3
  · simp only [DS, uN_o h]
    exact ⟨d1, d2, d3, d4, d5, d6, d7, by omega⟩
theorem D_open {st nx : Nat} (I : DI N en ok af gd mark tried dist path (dp + 1)) (hst : st = path dp) {c : Nat} (hc : c < 32) (ho : ok st c = true) (hnx : nx = af st c) (hN : nx < N) (hm : mark nx = 0) : dp + 1 < N ∧ DI N en ok af gd (uN mark nx 1) tried dist (uN path (dp + 1) nx) (dp + 2) ∧ phi N (uN mark nx 1) tried + 1 = phi N mark tried := by
  obtain ⟨i1, i2, i3, i4, i5, i6⟩ := I
  have e1 := phi_mark (N := N) (mark := mark) (tried := tried) (a := nx) (x := 1) hN
  have e2 := op_mark (N := N) (mark := mark) (a := nx) (x := 1) hN
  simp only [phF, opF, uN_s, hm] at e1 e2
  have e3 : phi N (uN mark nx 1) tried + 1 = phi N mark tried := by
    simp at e1
    omega
  have e4 : smN (opF (uN mark nx 1)) N = dp + 2 := by simp at e2; omega
  have e5 : smN (opF (uN mark nx 1)) N ≤ 1 * N := sm_le N (fun i _ => by unfold opF; split <;> omega)
  have m2 : ∀ t, mark t ≠ 0 → uN mark nx 1 t = mark t := fun t ht => uN_o (fun z => ht (by rw [z]; exact hm))
  have g0 : gd nx = false := by
    cases hg : gd nx with
    | false => rfl
    | true => have := ((i1 nx hN).2.2.1 hg).1; omega
  have pne : ∀ i, i < dp + 1 → path i ≠ nx := fun i hi z => by have := (i2 i hi).2; rw [z] at this; omega
  refine ⟨by omega, ⟨fun s hs => ?_, fun i hi => ?_, fun i hi => ?_, fun s hs hs1 => ?_, e4, fun i j h1 h2 => ?_⟩, e3⟩
  · obtain ⟨d1, d2, d3, d4, d5, d6, d7, d8⟩ := i1 s hs
    by_cases h : s = nx
    · rw [← h] at hm g0 e3 ⊢
      have t0 := d4 hm
      refine ⟨by rw [uN_s]; omega, d2, fun hg => (by rw [g0] at hg; cases hg), fun z => (by rw [uN_s] at z; omega), fun z => (by rw [uN_s] at z; omega), d6, fun hg hd => ?_, by omega⟩
      obtain ⟨f1, f2⟩ := d7 hg hd
      refine ⟨fun c c1 c2 c3 => ?_, Or.inl t0.2⟩
      obtain ⟨y1, y2, y3⟩ := f1 c c1 c2 c3
      omega
    · refine ⟨by rw [uN_o h]; exact d1, d2, fun hg => by rw [uN_o h]; exact d3 hg, fun z => by rw [uN_o h] at z; exact d4 z, fun z => by rw [uN_o h] at z; exact d5 z, d6, fun hg hd => ?_, by omega⟩
      obtain ⟨f1, f2⟩ := d7 hg hd
      refine ⟨fun c c1 c2 c3 => ?_, ?_⟩
      · obtain ⟨y1, y2, y3⟩ := f1 c c1 c2 c3
        exact ⟨by rw [m2 _ (by omega)]; exact y1, y2, y3⟩
      · rcases f2 with f2 | ⟨c, c1, c2, c3, c4⟩
        · exact Or.inl f2
        · exact Or.inr ⟨c, c1, c2, by rw [m2 _ (by omega)]; exact c3, c4⟩
  · by_cases h : i = dp + 1
    · rw [h, uN_s]
      exact ⟨hN, uN_s⟩
    · rw [uN_o h]
      have := i2 i (by omega)
      exact ⟨this.1, by rw [m2 _ (by omega)]; exact this.2⟩
  · by_cases h : i = dp
    · rw [uN_o (show i ≠ dp + 1 by omega), h, uN_s, ← hst]
      exact ⟨c, hc, ho, hnx.symm⟩
    · rw [uN_o (show i ≠ dp + 1 by omega), uN_o (show i + 1 ≠ dp + 1 by omega)]
      exact i3 i (by omega)
  · by_cases h : s = nx
    · exact ⟨dp + 1, by omega, by rw [uN_s, h]⟩
    · rw [uN_o h] at hs1
      obtain ⟨i, h1, h2⟩ := i4 s hs hs1
      exact ⟨i, by omega, by rw [uN_o (by omega)]; exact h2⟩
  · by_cases h : j = dp + 1
    · rw [h, uN_s, uN_o (by omega)]
      exact pne i (by omega)
    · rw [uN_o h, uN_o (by omega)]
      exact i6 i j h1 (by omega)
theorem D_learn {st nx : Nat} (I : DI N en ok af gd mark tried dist path (dp + 1)) (hst : st = path dp) (hc : tried st + 1 < 32) (ho : ok st (tried st + 1) = true) (hnx : nx = af st (tried st + 1)) (hN : nx < N) (hm : mark nx ≠ 0) : DI N en ok af gd mark (uN tried st (tried st + 1)) (uN dist st (max (dist st) ((if mark nx = 1 then 1000000 else dist nx) + 1))) path (dp + 1) ∧ phi N mark (uN tried st (tried st + 1)) + 1 = phi N mark tried := by
  obtain ⟨i1, i2, i3, i4, i5, i6⟩ := I
  have q := i2 dp (by omega)
  rw [← hst] at q
  have e1 := phi_tried (N := N) (mark := mark) (tried := tried) (a := st) (x := tried st + 1) q.1
  simp only [phF, uN_s, q.2] at e1
  have e3 : phi N mark (uN tried st (tried st + 1)) + 1 = phi N mark tried := by omega
  have g0 : gd st = false := by
    cases hg : gd st with
    | false => rfl
    | true => have := ((i1 st q.1).2.2.1 hg).1; omega
  have m2 : ∀ t, mark t = 2 → t ≠ st := fun t ht z => by rw [z] at ht; omega
  obtain ⟨n1, n2, n3, n4, n5, n6, n7, n8⟩ := i1 nx hN
  -- the ring
  have ring : mark nx = 1 → InX N ok af gd st := by
    intro hm1
    obtain ⟨j, j1, j2⟩ := i4 nx hN hm1
    refine ⟨fun t => ∃ i, i < dp + 1 ∧ t = path i, ⟨dp, by omega, hst⟩, fun t ht => ?_⟩
    obtain ⟨i, h1, rfl⟩ := ht
    have qi := i2 i h1
    have gi : gd (path i) = false := by
      cases hg : gd (path i) with
      | false => rfl
      | true => have := ((i1 _ qi.1).2.2.1 hg).1; omega
    refine ⟨qi.1, gi, ?_⟩
    by_cases h2 : i = dp
    · rw [h2, ← hst]
      exact ⟨tried st + 1, hc, ho, j, j1, by rw [← hnx]; exact j2.symm⟩
    · obtain ⟨c, c1, c2, c3⟩ := i3 i (by omega)
      exact ⟨c, c1, c2, i + 1, by omega, c3⟩
  refine ⟨⟨fun s hs => ?_, i2, i3, i4, i5, i6⟩, e3⟩
  obtain ⟨d1, d2, d3, d4, d5, d6, d7, d8⟩ := i1 s hs
  by_cases h : s = st
  · rw [← h] at q e3 hc ho hnx g0 ring m2 ⊢
    simp only [DS, uN_s]
    refine ⟨d1, by omega, fun hg => (by rw [g0] at hg; cases hg), fun z => by omega, fun z => by omega, fun _ hd => ?_, fun _ hd => ?_, ?_⟩
    · by_cases hm1 : mark nx = 1
      · exact ring hm1
      · rw [if_neg hm1] at hd
        by_cases h5 : 1000000 ≤ dist s
        · exact d6 g0 h5
        · have h6 : 1000000 ≤ dist nx := by omega
          have gn : gd nx = false := by
            cases hg : gd nx with
            | false => rfl
            | true => have := (n3 hg).2; omega
          refine InX_of hs g0 hc ho ?_
          rw [← hnx]
          exact n6 gn h6
    · have hm1 : ¬ mark nx = 1 := fun z => by rw [if_pos z] at hd; omega
      rw [if_neg hm1] at hd ⊢
      obtain ⟨f1, f2⟩ := d7 g0 (by omega)
      refine ⟨fun c c1 c2 c3 => ?_, ?_⟩
      · by_cases h4 : c = tried s + 1
        · rw [h4, ← hnx, uN_o (m2 nx (by omega))]
          exact ⟨by omega, by omega, by omega⟩
        · obtain ⟨y1, y2, y3⟩ := f1 c c1 (by omega) c3
          rw [uN_o (m2 _ y1)]
          exact ⟨y1, y2, by omega⟩
      · by_cases h7 : dist nx + 1 ≤ dist s
        · rw [Nat.max_eq_left h7]
          rcases f2 with f2 | ⟨c, c1, c2, c3, c4⟩
          · exact Or.inl f2
          · exact Or.inr ⟨c, c1, c2, c3, by rw [uN_o (m2 _ c3)]; exact c4⟩
        · rw [Nat.max_eq_right (by omega)]
          exact Or.inr ⟨tried s + 1, hc, ho, by rw [← hnx]; omega, by rw [← hnx, uN_o (m2 nx (by omega))]⟩
    · split
      · omega
      · omega
  · simp only [DS, uN_o h]
    refine ⟨d1, d2, d3, d4, d5, d6, fun hg hd => ?_, by omega⟩
    obtain ⟨f1, f2⟩ := d7 hg hd
    refine ⟨fun c c1 c2 c3 => ?_, ?_⟩
    · obtain ⟨y1, y2, y3⟩ := f1 c c1 c2 c3
      rw [uN_o (m2 _ y1)]
      exact ⟨y1, y2, y3⟩
    · rcases f2 with f2 | ⟨c, c1, c2, c3, c4⟩
      · exact Or.inl f2
      · exact Or.inr ⟨c, c1, c2, c3, by rw [uN_o (m2 _ c3)]; exact c4⟩
theorem D_start {st : Nat} (I : DI N en ok af gd mark tried dist path 0) (hN : st < N) (hm : mark st = 0) : DI N en ok af gd (uN mark st 1) tried dist (uN path 0 st) 1 ∧ phi N (uN mark st 1) tried + 1 = phi N mark tried := by
  obtain ⟨i1, i2, i3, i4, i5, i6⟩ := I
  have e1 := phi_mark (N := N) (mark := mark) (tried := tried) (a := st) (x := 1) hN
  have e2 := op_mark (N := N) (mark := mark) (a := st) (x := 1) hN
  simp only [phF, opF, uN_s, hm] at e1 e2
  have e3 : phi N (uN mark st 1) tried + 1 = phi N mark tried := by
    simp at e1
    omega
  have g0 : gd st = false := by
    cases hg : gd st with
    | false => rfl
    | true => have := ((i1 st hN).2.2.1 hg).1; omega
  have m2 : ∀ t, mark t ≠ 0 → uN mark st 1 t = mark t := fun t ht => uN_o (fun z => ht (by rw [z]; exact hm))
  refine ⟨⟨fun s hs => ?_, fun i hi => ?_, fun i hi => by omega, fun s hs hs1 => ?_, by simp at e2; omega, fun i j h1 h2 => by omega⟩, e3⟩
  · obtain ⟨d1, d2, d3, d4, d5, d6, d7, d8⟩ := i1 s hs
    by_cases h : s = st
    · rw [← h] at hm g0 e3 ⊢
      have t0 := d4 hm
      refine ⟨by rw [uN_s]; omega, d2, fun hg => (by rw [g0] at hg; cases hg), fun z => (by rw [uN_s] at z; omega), fun z => (by rw [uN_s] at z; omega), d6, fun hg hd => ?_, by omega⟩
      obtain ⟨f1, f2⟩ := d7 hg hd
      refine ⟨fun c c1 c2 c3 => ?_, Or.inl t0.2⟩
      obtain ⟨y1, y2, y3⟩ := f1 c c1 c2 c3
      omega
    · refine ⟨by rw [uN_o h]; exact d1, d2, fun hg => by rw [uN_o h]; exact d3 hg, fun z => by rw [uN_o h] at z; exact d4 z, fun z => by rw [uN_o h] at z; exact d5 z, d6, fun hg hd => ?_, by omega⟩
      obtain ⟨f1, f2⟩ := d7 hg hd
      refine ⟨fun c c1 c2 c3 => ?_, ?_⟩
      · obtain ⟨y1, y2, y3⟩ := f1 c c1 c2 c3
        exact ⟨by rw [m2 _ (by omega)]; exact y1, y2, y3⟩
      · rcases f2 with f2 | ⟨c, c1, c2, c3, c4⟩
        · exact Or.inl f2
        · exact Or.inr ⟨c, c1, c2, by rw [m2 _ (by omega)]; exact c3, c4⟩
  · have : i = 0 := by omega
    rw [this, uN_s]
    exact ⟨hN, uN_s⟩
  · by_cases h : s = st
    · exact ⟨0, by omega, by rw [uN_s, h]⟩
    · rw [uN_o h] at hs1
      obtain ⟨i, h1, h2⟩ := i4 s hs hs1
      omega
theorem D_init (h0 : ∀ s, s < N → ok s 0 = false) (hN : N ≤ 1024) (hmk : ∀ s, s < N → mark s = if gd s = true then 2 else 0) (ht : ∀ s, s < N → tried s = 0) (hd : ∀ s, s < N → dist s = 0) : DI N en ok af gd mark tried dist path 0 ∧ phi N mark tried ≤ 33792 := by
  have e1 : phi N mark tried ≤ 33 * N := sm_le N (fun i _ => by unfold phF; split <;> (try split) <;> omega)
  have e2 : smN (opF mark) N ≤ 0 * N := sm_le N (fun i hi => by unfold opF; rw [hmk i hi]; split <;> (try split at *) <;> omega)
  refine ⟨⟨fun s hs => ?_, fun i hi => by omega, fun i hi => by omega, fun s hs hm => ?_, by omega, fun i j h1 h2 => by omega⟩, by omega⟩
  · have h1 := hmk s hs
    have h2 := ht s hs
    have h3 := hd s hs
    refine ⟨by rw [h1]; split <;> omega, by omega, fun hg => by rw [h1, if_pos hg]; exact ⟨rfl, h3⟩, fun _ => ⟨h2, h3⟩, fun z hg => ?_, fun _ z => by omega, fun _ _ => ⟨fun c c1 c2 c3 => ?_, Or.inl h3⟩, by omega⟩
    · rw [h1, hg] at z; simp at z
    · have : c = 0 := by omega
      rw [this, h0 s hs] at c3
      cases c3
  · have h1 := hmk s hs
    rw [hm] at h1
    split at h1 <;> omega
/-- no state is open, and none is new: what the distances say -/
theorem D_end (I : DI N en ok af gd mark tried dist path 0) (hE : ∀ s c, s < N → c < 32 → ok s c = true → c ≤ en s) (hA : ∀ s, s < N → ∀ c, c < 32 → ok s c = true → af s c < N) (hO : ∀ s, s < N → gd s = false → ∃ c, c < 32 ∧ ok s c = true) (hm : ∀ s, s < N → mark s ≠ 0) :
    (∀ s, s < N → (1000000 ≤ dist s ↔ InX N ok af gd s)) ∧ (∀ s, s < N → dist s ≤ 1040000) ∧ ((∀ s, s < N → dist s < 1000000) → Dst N ok af gd dist) := by
  obtain ⟨i1, i2, i3, i4, i5, i6⟩ := I
  have m2 : ∀ s, s < N → mark s = 2 := fun s hs => by
    have h1 := hm s hs
    have h2 := (i1 s hs).1
    have h3 : mark s ≠ 1 := fun z => by obtain ⟨i, h4, _⟩ := i4 s hs z; omega
    omega
  have key : ∀ m s, s < N → dist s < 1000000 → dist s ≤ m → ¬ InX N ok af gd s := by
    intro m
    induction m with
    | zero =>
      intro s hs h1 h2 q
      obtain ⟨q1, q2, c, q3, q4, q5⟩ := InX_step q
      obtain ⟨d1, d2, d3, d4, d5, d6, d7, d8⟩ := i1 s hs
      obtain ⟨y1, y2, y3⟩ := (d7 q2 h1).1 c q3 (Nat.le_trans (hE s c hs q3 q4) (d5 (m2 s hs) q2)) q4
      omega
    | succ m ih =>
      intro s hs h1 h2 q
      obtain ⟨q1, q2, c, q3, q4, q5⟩ := InX_step q
      obtain ⟨d1, d2, d3, d4, d5, d6, d7, d8⟩ := i1 s hs
      obtain ⟨y1, y2, y3⟩ := (d7 q2 h1).1 c q3 (Nat.le_trans (hE s c hs q3 q4) (d5 (m2 s hs) q2)) q4
      exact ih (af s c) (hA s hs c q3 q4) y2 (by omega) q5
  refine ⟨fun s hs => ⟨fun h1 => ?_, fun q => ?_⟩, fun s hs => ?_, fun hall s hs => ⟨fun hg => ((i1 s hs).2.2.1 hg).2, fun hg => ?_⟩⟩
  · obtain ⟨d1, d2, d3, d4, d5, d6, d7, d8⟩ := i1 s hs
    refine d6 ?_ h1
    cases hg : gd s with
    | false => rfl
    | true => have := (d3 hg).2; omega
  · refine Nat.le_of_not_lt (fun z => key _ s hs z (Nat.le_refl _) q)
  · obtain ⟨d1, d2, d3, d4, d5, d6, d7, d8⟩ := i1 s hs
    omega
  · obtain ⟨d1, d2, d3, d4, d5, d6, d7, d8⟩ := i1 s hs
    obtain ⟨f1, f2⟩ := d7 hg (hall s hs)
    have f3 : ∀ c, c < 32 → ok s c = true → dist (af s c) + 1 ≤ dist s := fun c c1 c2 => (f1 c c1 (Nat.le_trans (hE s c hs c1 c2) (d5 (m2 s hs) hg)) c2).2.2
    refine ⟨f3, ?_⟩
    rcases f2 with f2 | ⟨c, c1, c2, c3, c4⟩
    · obtain ⟨c, c1, c2⟩ := hO s hs hg
      have := f3 c c1 c2
      omega
    · exact ⟨c, c1, c2, c4⟩
/-- an open state leaves something to do -/
theorem D_phi (I : DI N en ok af gd mark tried dist path (dp + 1)) : 1 ≤ phi N mark tried := by
  obtain ⟨i1, i2, i3, i4, i5, i6⟩ := I
  have q := i2 dp (by omega)
  have := sm_ge (f := phF mark tried) N q.1
  simp only [phF, q.2] at this
  simp at this
  unfold phi
  omega
end Dfs
