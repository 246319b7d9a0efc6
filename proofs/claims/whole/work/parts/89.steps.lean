/-! The reference's reading: the steps. -/
theorem nz_le {x : Nat} : nz x ≤ 1 := by unfold nz; split <;> omega
theorem b2_le {b : Bool} : b2n b ≤ 1 := by cases b <;> decide
theorem aEC_WF {stk : List SE4} {an o : Bool} {qn sd cp ad : Nat} {gs : List Nat} {en : Nat → Int32} {ss : List Nat} (hc : cp ≠ 0) : pot (aEC (stk, an, o, qn, sd, cp, ad, gs, en, ss)) = pot (stk, an, o, qn, sd, cp, ad, gs, en, ss) := by
  rw [aEC, aET_pot, pot, pot]
  have h1 : nz 0 = 0 := rfl
  have h2 : nz cp = 1 := if_neg hc
  simp only [List.length_append, List.length_cons, List.length_nil]
  omega
/-- a closed test: as it stands behind endTest -/
theorem aET_WF {stk : List SE4} {an o : Bool} {qn sd cp ad : Nat} {gs : List Nat} {en : Nat → Int32} {ss : List Nat} (hsd : sd = 1) (hl : stk.length ≤ 8) (hq : qn = qC stk) (hw : ∀ w, w ∈ stk → w.1 < 127 ∧ w.2.2.2 < 48) (hcp : cp < 127) (had : ad < 127) : WF 4 (aET (stk, an, o, qn, sd, cp, ad, gs, en, ss)) := by
  obtain ⟨p1, p2, p3, p4, p5⟩ := popT_pot stk qn gs en
  rw [aET]
  exact ⟨by omega, by omega, p3 hq, fun w h => hw w (p4 w h), hcp, had, fun _ => ⟨hsd, p5⟩, fun z => (by cases z), fun _ z => absurd rfl z, Nat.le_refl _⟩
theorem aGO_WF {rule : Bool} {c : Nat} {τ : AU} {due' : Nat} {τ' : AU} (h : WF 4 τ) (e : aGO rule c τ = some (due', τ')) : WF due' τ' ∧ pot τ' ≤ pot τ + 1 := by
  obtain ⟨stk, an, o, qn, sd, cp, ad, gs, en, ss⟩ := τ
  obtain ⟨h1, h2, h3, h4, h5, h6, h7, h8, h9, h10⟩ := h
  obtain ⟨hsd, htp⟩ := h7 rfl
  unfold aGO at e
  dsimp only at e
  by_cases c38 : c = 38
  · rw [if_pos c38] at e
    cases e
    refine ⟨⟨h1, h2, h3, h4, h5, h6, fun z => (by cases z), fun _ => by omega, fun z => absurd rfl z, by decide⟩, ?_⟩
    simp only [pot]
    have : b2n true = 1 := rfl
    omega
  rw [if_neg c38] at e
  by_cases c124 : c = 124
  · rw [if_pos c124] at e
    cases e
    refine ⟨⟨h1, h2, h3, h4, h5, h6, fun z => (by cases z), fun _ => by omega, fun z => absurd rfl z, by decide⟩, ?_⟩
    simp only [pot, orL_len]
    have : b2n true = 1 := rfl
    omega
  rw [if_neg c124] at e
  by_cases c41 : c = 41
  · rw [if_pos c41] at e
    cases stk with
    | nil => cases e
    | cons w st =>
      cases e
      have hw40 : w.1 = 40 := htp w st rfl
      have hq : qn = qC st := by rw [h3, qC, if_pos (Or.inl hw40)]; rfl
      refine ⟨aET_WF hsd (by rw [List.length_cons] at h2; omega) hq (fun w' h => h4 w' (List.mem_cons_of_mem _ h)) h5 h6, ?_⟩
      rw [aET_pot, pot, pot, orL_len, potS, if_neg (by omega), if_pos hw40]
      omega
  rw [if_neg c41] at e
  by_cases c62 : c = 62 ∧ rule = true
  · rw [if_pos c62] at e
    cases stk with
    | cons w st => cases e
    | nil =>
      cases e
      refine ⟨⟨by decide, by decide, h3, h4, h5, h6, fun z => (by cases z), fun z => (by cases z), fun _ _ z => (by cases z), by decide⟩, ?_⟩
      simp only [pot, orL_len]
      have : b2n false = 0 := rfl
      omega
  · rw [if_neg c62] at e; cases e
theorem aAp_pot {cd : List Nat} {σ : AU} : pot (aAp cd σ) = pot σ + cd.length := by
  obtain ⟨stk, an, o, qn, sd, cp, ad, gs, en, ss⟩ := σ
  unfold aAp
  by_cases h : sd = 2
  · simp only [h, if_true, pot, List.length_append]; omega
  · simp only [h, if_false, pot, List.length_append]; omega
theorem aAp_WF {due : Nat} {cd : List Nat} {σ : AU} : WF due (aAp cd σ) ↔ WF due σ := by
  obtain ⟨stk, an, o, qn, sd, cp, ad, gs, en, ss⟩ := σ
  unfold aAp
  by_cases h : sd = 2
  · simp only [h, if_true]; exact Iff.rfl
  · simp only [h, if_false]; exact Iff.rfl
theorem step_WF {rule : Bool} {due c : Nat} {σ : AU} {due' : Nat} {σ' : AU} (h : WF due σ) (hp : pot σ ≤ 47) (hc : c < 127) (e : aStep rule due c σ = some (due', σ')) : WF due' σ' ∧ pot σ' ≤ pot σ + 1 := by
  obtain ⟨stk, an, o, qn, sd, cp, ad, gs, en, ss⟩ := σ
  obtain ⟨h1, h2, h3, h4, h5, h6, h7, h8, h9, h10⟩ := id h
  have hpe : pot (stk, an, o, qn, sd, cp, ad, gs, en, ss) = gs.length + ss.length + nz ad + nz cp + b2n an + b2n o + potS stk := rfl
  have nz0 : nz 0 = 0 := rfl
  have bf : b2n false = 0 := rfl
  unfold aStep at e
  by_cases hd : due < 2
  · rw [if_pos hd, aSt] at e
    by_cases hP : isP (decide (0 < qn) && decide (sd ≠ 2)) c = true
    · rw [if_pos hP] at e
      cases e
      refine ⟨aAp_WF.mpr ⟨by split <;> omega, h2, h3, h4, h5, by decide, fun z => (by cases z), fun z => (by cases z), fun _ _ z => ?_, by decide⟩, ?_⟩
      · by_cases hd0 : due = 0
        · rw [if_pos hd0] at z; cases z
        · rw [if_neg hd0] at z; exact h9 hd0 (by omega) z
      · rw [aAp_pot, hpe, pot, adL]
        by_cases hz : ad = 0
        · rw [if_pos hz, hz]; simp only [List.length_cons, List.length_nil]; omega
        · have : nz ad = 1 := if_neg hz
          rw [if_neg hz]; simp only [List.length_cons, List.length_nil]; omega
    · rw [if_neg hP] at e
      by_cases hd0 : due = 0
      · rw [if_pos hd0, aBg] at e
        by_cases hb : stk.length = 8 ∨ (c ≠ 33 ∧ c ≠ 40 ∧ (¬ (c = 65 ∨ c = 69) ∨ 0 < qn))
        · rw [if_pos hb] at e; cases e
        · rw [if_neg hb] at e
          have hg : gs.length < 48 := by omega
          have hm : ∀ w : SE4, w ∈ (c, an, o, gs.length) :: stk → w.1 < 127 ∧ w.2.2.2 < 48 := fun w hw => by
            rcases List.mem_cons.mp hw with rfl | hw
            · exact ⟨hc, hg⟩
            · exact h4 w hw
          have hs2 := h8 hd0
          by_cases c33 : c = 33
          · rw [if_pos c33] at e
            cases e
            refine ⟨⟨h1, by simp only [List.length_cons]; omega, by rw [qC, if_pos (Or.inr c33)]; exact h3, hm, h5, h6, fun z => (by cases z), fun _ => hs2, fun z => absurd rfl z, by decide⟩, ?_⟩
            rw [hpe, pot, potS, if_pos c33]
            omega
          rw [if_neg c33] at e
          by_cases c40 : c = 40
          · rw [if_pos c40] at e
            cases e
            refine ⟨⟨h1, by simp only [List.length_cons]; omega, by rw [qC, if_pos (Or.inl c40)]; exact h3, hm, h5, h6, fun z => (by cases z), fun _ => hs2, fun z => absurd rfl z, by decide⟩, ?_⟩
            rw [hpe, pot, potS, if_neg c33, if_pos c40]
            dsimp only
            omega
          rw [if_neg c40] at e
          cases e
          refine ⟨⟨h1, by simp only [List.length_cons]; omega, by rw [qC, if_neg (by omega), h3], hm, h5, h6, fun z => (by cases z), fun _ => hs2, fun z => absurd rfl z, by decide⟩, ?_⟩
          rw [hpe, pot, potS, if_neg c33, if_neg c40]
          simp only [List.length_append, List.length_cons, List.length_nil]
          omega
      · rw [if_neg hd0] at e; cases e
  · rw [if_neg hd, aFo] at e
    by_cases q1 : due = 2 ∧ (c = 43 ∨ c = 45)
    · rw [if_pos q1] at e
      cases e
      refine ⟨⟨h1, h2, h3, h4, h5, hc, fun z => (by cases z), fun z => (by cases z), fun _ _ z => h9 (by omega) (by omega) z, by decide⟩, ?_⟩
      rw [hpe, pot]
      have := nz_le (x := c)
      omega
    rw [if_neg q1] at e
    by_cases q2 : due = 2 ∧ c = 37
    · rw [if_pos q2] at e
      cases e
      exact ⟨aAp_WF.mpr ⟨h1, h2, h3, h4, h5, h6, fun z => (by cases z), fun z => (by cases z), fun _ _ z => h9 (by omega) (by omega) z, by decide⟩, by rw [aAp_pot]; exact Nat.le_refl _⟩
    rw [if_neg q2] at e
    by_cases q3 : due < 4 ∧ sd = 0 ∧ (c = 61 ∨ c = 35 ∨ c = 60)
    · rw [if_pos q3] at e
      cases e
      refine ⟨⟨by decide, h2, h3, h4, hc, h6, fun z => (by cases z), fun z => (by cases z), fun _ _ _ => by omega, by decide⟩, ?_⟩
      rw [hpe, pot]
      have := nz_le (x := c)
      omega
    rw [if_neg q3] at e
    by_cases q4 : due < 4 ∧ sd ≠ 1
    · rw [if_pos q4] at e; cases e
    rw [if_neg q4] at e
    by_cases q5 : c ≠ 38 ∧ c ≠ 124 ∧ c ≠ 41 ∧ c ≠ 62
    · rw [if_pos q5] at e; cases e
    rw [if_neg q5] at e
    by_cases q6 : due < 4
    · rw [if_pos q6] at e
      have hs1 : sd = 1 := by
        by_cases z : sd = 1
        · exact z
        · exact absurd ⟨q6, z⟩ q4
      have hcp := h9 (by omega) (by omega) hs1
      have w4 : WF 4 (aEC (stk, an, o, qn, sd, cp, ad, gs, en, ss)) := by
        rw [aEC]
        exact aET_WF hs1 h2 h3 h4 (by decide) h6
      have := aGO_WF w4 e
      rw [aEC_WF hcp] at this
      exact this
    · rw [if_neg q6] at e
      have : due = 4 := by omega
      rw [this] at h
      exact aGO_WF h e
section StepK
variable {L : Nat} {xs : Nat → Int32} {d : Nat} {Q : Option Value × MH → Prop} {h : MH} {stk : List SE4} {an o : Bool} {qn sd cp ad : Nat} {gs : List Nat} {en : Nat → Int32} {ss : List Nat}
/-- one word of the object changes -/
theorem AS_w {j : Nat} {x : Int32} {an' o' : Bool} {qn' sd' cp' ad' : Nat} (a : AS h (stk, an, o, qn, sd, cp, ad, gs, en, ss)) (h17 : j ≠ 17) (f22 : (if j = 22 then x else bI an) = bI an') (f23 : (if j = 23 then x else bI o) = bI o') (f24 : (if j = 24 then x else nI qn) = nI qn') (f25 : (if j = 25 then x else nI sd) = nI sd') (f26 : (if j = 26 then x else nI cp) = nI cp') (f27 : (if j = 27 then x else nI ad) = nI ad') : AS (mj_wi h 25 j x) (stk, an', o', qn', sd', cp', ad', gs, en, ss) := by
  obtain ⟨hL, a1, a2, a3, a4, a5, a6, a7, a8, a9, a10, a11, a12, a13⟩ := id a
  have r2 : ∀ i, mj_i (mj_wi h 25 j x) 25 i = if j = i then x else mj_i h 25 i := fun i => by
    rw [mj_i_wi]
    by_cases hi : i = j
    · simp [hi]
    · rw [if_neg (fun z => hi z.2), if_neg (fun z => hi z.symm)]
  have ro : ∀ b i, b ≠ 25 → mj_i (mj_wi h 25 j x) b i = mj_i h b i := fun b i hb => mj_i_ne hb
  refine ⟨Lay_wi.mpr hL, by rw [r2, if_neg h17]; exact a1, skO_cong _ (fun i _ => ⟨ro _ _ (by decide), ro _ _ (by decide), ro _ _ (by decide), ro _ _ (by decide)⟩) a2, by rw [r2, a3]; exact f22, by rw [r2, a4]; exact f23, by rw [r2, a5]; exact f24, by rw [r2, a6]; exact f25, by rw [r2, a7]; exact f26, by rw [r2, a8]; exact f27, by rw [ro _ _ (by decide)]; exact a9, cdA_cong _ _ (fun i _ _ => ro _ _ (by decide)) a10, fun i => by rw [ro _ _ (by decide)]; exact a11 i, by rw [ro _ _ (by decide)]; exact a12, cdA_cong _ _ (fun i _ _ => ro _ _ (by decide)) a13⟩
end StepK
