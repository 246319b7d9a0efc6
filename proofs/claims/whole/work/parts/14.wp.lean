/-! Weakest preconditions over the small machine. -/
theorem mj_run_succ {L : Nat} {xs : Nat → Int32} : ∀ (n d mi pc : Nat) (ls : List (Option Value)) (st : List Value) (h : MH) (r : Option Value × MH), mj_run L xs n d mi pc ls st h = some r → mj_run L xs (n + 1) d mi pc ls st h = some r
  | 0, _, _, _, _, _, _, _, e => by cases e
  | n + 1, d, mi, pc, ls, st, h, r, e => by
    rw [mj_run] at e ⊢
    split at e
    · cases e
    · next i len hft =>
      split at e
      · cases e
      · next f hex => exact mj_run_succ n d mi f.1 f.2.1 f.2.2.1 f.2.2.2 r e
      · next v hex => exact e
      · next q hex =>
        split at e
        · cases e
        · next d' =>
          split at e
          · cases e
          · next r1 hr1 =>
            rw [mj_run_succ n d' q.1 0 (mj_ent q.1 q.2.1) [] h r1 hr1]
            exact mj_run_succ n (d' + 1) mi q.2.2.1 ls (r1.1.toList ++ q.2.2.2) r1.2 r e
theorem mj_run_le {L : Nat} {xs : Nat → Int32} {n m d mi pc : Nat} {ls : List (Option Value)} {st : List Value} {h : MH} {r : Option Value × MH} (hnm : n ≤ m) (e : mj_run L xs n d mi pc ls st h = some r) : mj_run L xs m d mi pc ls st h = some r := by
  obtain ⟨k, rfl⟩ := Nat.exists_eq_add_of_le hnm
  induction k with
  | zero => exact e
  | succ k ih => exact mj_run_succ _ _ _ _ _ _ _ _ (ih (by omega))
section Wp1
variable {L : Nat} {xs : Nat → Int32} {d mi pc : Nat} {ls : List (Option Value)} {st : List Value} {h : MH} {Q : Option Value × MH → Prop} {i : ClassFile.Instr} {len : Nat}
theorem mj_W_nx {f : MFr} (hf : mj_ft mi pc = some (i, len)) (he : mj_ex L xs mi pc ls st h i len = some (.inl f)) : mj_Wp L xs d mi pc ls st h Q ↔ mj_Wp L xs d mi f.1 f.2.1 f.2.2.1 f.2.2.2 Q := by
  constructor
  · rintro ⟨n, r, h1, h2⟩
    cases n with
    | zero => cases h1
    | succ n =>
      rw [mj_run] at h1
      simp only [hf, he] at h1
      exact ⟨n, r, h1, h2⟩
  · rintro ⟨n, r, h1, h2⟩
    refine ⟨n + 1, r, ?_, h2⟩
    rw [mj_run]
    simp only [hf, he]
    exact h1
theorem mj_W_rt {v : Option Value} (hf : mj_ft mi pc = some (i, len)) (he : mj_ex L xs mi pc ls st h i len = some (.inr (.inr v))) : mj_Wp L xs d mi pc ls st h Q ↔ Q (v, h) := by
  constructor
  · rintro ⟨n, r, h1, h2⟩
    cases n with
    | zero => cases h1
    | succ n =>
      rw [mj_run] at h1
      simp only [hf, he] at h1
      cases h1
      exact h2
  · intro hq
    refine ⟨1, (v, h), ?_, hq⟩
    rw [mj_run]
    simp only [hf, he]
theorem mj_W_cl {q : Nat × List Value × Nat × List Value} (hf : mj_ft mi pc = some (i, len)) (he : mj_ex L xs mi pc ls st h i len = some (.inr (.inl q))) : mj_Wp L xs (d + 1) mi pc ls st h Q ↔ mj_Wp L xs d q.1 0 (mj_ent q.1 q.2.1) [] h (fun r => mj_Wp L xs (d + 1) mi q.2.2.1 ls (r.1.toList ++ q.2.2.2) r.2 Q) := by
  constructor
  · rintro ⟨n, r, h1, h2⟩
    cases n with
    | zero => cases h1
    | succ n =>
      rw [mj_run] at h1
      simp only [hf, he] at h1
      split at h1
      · cases h1
      · next r1 hr1 => exact ⟨n, r1, hr1, n, r, h1, h2⟩
  · rintro ⟨n, r1, h1, m, r, h2, h3⟩
    refine ⟨max n m + 1, r, ?_, h3⟩
    rw [mj_run]
    simp only [hf, he]
    rw [mj_run_le (Nat.le_max_left n m) h1]
    exact mj_run_le (Nat.le_max_right n m) h2
theorem mj_W_mono {Q' : Option Value × MH → Prop} (hQ : ∀ r, Q r → Q' r) (hw : mj_Wp L xs d mi pc ls st h Q) : mj_Wp L xs d mi pc ls st h Q' := by
  obtain ⟨n, r, h1, h2⟩ := hw
  exact ⟨n, r, h1, hQ r h2⟩
end Wp1
