/-! Every step of the small machine is the true machine's. -/
def mj_OK (g : mj_G) (l : Launch) (d mi pc : Nat) (ls : List (Option Value)) (st : List Value) (h : MH) : MOut → Prop
  | .inl f => (mj_z h ≤ mj_z f.2.2.2 ∧ mj_u h ≤ mj_u f.2.2.2) ∧ ∀ r : Option Value × MH, mj_z f.2.2.2 ≤ mj_z r.2 → mj_u f.2.2.2 ≤ mj_u r.2 → mj_Sim g l d mi f.1 f.2.1 f.2.2.1 f.2.2.2 r → mj_Sim g l d mi pc ls st h r
  | .inr (.inr v) => mj_Sim g l d mi pc ls st h (v, h)
  | .inr (.inl q) => ∀ (d' : Nat) (r1 r : Option Value × MH), d = d' + 1 → mj_Sim g l d' q.1 0 (mj_ent q.1 q.2.1) [] h r1 → mj_z h ≤ mj_z r1.2 → mj_u h ≤ mj_u r1.2 → mj_z r1.2 ≤ mj_z r.2 → mj_u r1.2 ≤ mj_u r.2 → mj_Sim g l d mi q.2.2.1 ls (r1.1.toList ++ q.2.2.2) r1.2 r → mj_Sim g l d mi pc ls st h r
section Cases
variable {g : mj_G} {l : Launch} {d mi pc n : Nat} {ls : List (Option Value)} {st : List Value} {h : MH} {o : MOut}
theorem mj_k_nx {pc' : Nat} {ls' : List (Option Value)} {st' : List Value} {h' : MH} (hz : mj_z h ≤ mj_z h' ∧ mj_u h ≤ mj_u h') (k : ∀ r : Option Value × MH, mj_z h' ≤ mj_z r.2 → mj_u h' ≤ mj_u r.2 → mj_Sim g l d mi pc' ls' st' h' r → mj_Sim g l d mi pc ls st h r) (e : mj_nx pc' ls' st' h' = some o) : mj_OK g l d mi pc ls st h o := by
  unfold mj_nx at e
  cases e
  exact ⟨hz, k⟩
theorem mj_k_n0 {pc' : Nat} {ls' : List (Option Value)} {st' : List Value} (k : ∀ r : Option Value × MH, mj_Sim g l d mi pc' ls' st' h r → mj_Sim g l d mi pc ls st h r) (e : mj_nx pc' ls' st' h = some o) : mj_OK g l d mi pc ls st h o := mj_k_nx ⟨Nat.le_refl _, Nat.le_refl _⟩ (fun r _ _ K => k r K) e
theorem mj_k_bi {ok : Int32 → Bool} {f : Int32 → Int32 → Int32} (k : ∀ (x y : Int32) (r : List Value) (rr : Option Value × MH), n = 1 → ok y = true → mj_Sim g l d mi (pc + 1) ls (.int (f x y) :: r) h rr → mj_Sim g l d mi pc ls (.int y :: .int x :: r) h rr) (e : mj_bi n pc ls st h ok f = some o) : mj_OK g l d mi pc ls st h o := by
  unfold mj_bi at e
  split at e
  · next hn =>
    split at e
    · split at e
      · next hy => exact mj_k_n0 (fun rr K => k _ _ _ rr hn hy K) e
      · cases e
    · cases e
  · cases e
theorem mj_k_un {f : Int32 → Int32} (k : ∀ (x : Int32) (r : List Value) (rr : Option Value × MH), n = 1 → mj_Sim g l d mi (pc + 1) ls (.int (f x) :: r) h rr → mj_Sim g l d mi pc ls (.int x :: r) h rr) (e : mj_un n pc ls st h f = some o) : mj_OK g l d mi pc ls st h o := by
  unfold mj_un at e
  split at e
  · next hn =>
    split at e
    · exact mj_k_n0 (fun rr K => k _ _ rr hn K) e
    · cases e
  · cases e
theorem mj_k_if {off : Int} {b : Bool} {st' : List Value} (k : ∀ rr : Option Value × MH, n = 3 → mj_ok pc off = true → (b = true → mj_Sim g l d mi (mj_to pc off) ls st' h rr) → (b = false → mj_Sim g l d mi (pc + 3) ls st' h rr) → mj_Sim g l d mi pc ls st h rr) (e : mj_if n pc off b ls st' h = some o) : mj_OK g l d mi pc ls st h o := by
  unfold mj_if at e
  split at e
  · next hn =>
    split at e
    · next hb => exact mj_k_n0 (fun rr K => k rr hn.1 hn.2 (fun _ => K) (fun z => by rw [hb] at z; cases z)) e
    · next hb => exact mj_k_n0 (fun rr K => k rr hn.1 hn.2 (fun z => absurd z hb) (fun _ => K)) e
  · cases e
theorem mj_k_i1 {off : Int} {f : Int32 → Bool} (k : ∀ (x : Int32) (r : List Value) (rr : Option Value × MH), n = 3 → mj_ok pc off = true → (f x = true → mj_Sim g l d mi (mj_to pc off) ls r h rr) → (f x = false → mj_Sim g l d mi (pc + 3) ls r h rr) → mj_Sim g l d mi pc ls (.int x :: r) h rr) (e : mj_i1 n pc off f ls st h = some o) : mj_OK g l d mi pc ls st h o := by
  unfold mj_i1 at e
  split at e
  · exact mj_k_if (fun rr h1 h2 h3 h4 => k _ _ rr h1 h2 h3 h4) e
  · cases e
theorem mj_k_i2 {off : Int} {f : Int32 → Int32 → Bool} (k : ∀ (x y : Int32) (r : List Value) (rr : Option Value × MH), n = 3 → mj_ok pc off = true → (f x y = true → mj_Sim g l d mi (mj_to pc off) ls r h rr) → (f x y = false → mj_Sim g l d mi (pc + 3) ls r h rr) → mj_Sim g l d mi pc ls (.int y :: .int x :: r) h rr) (e : mj_i2 n pc off f ls st h = some o) : mj_OK g l d mi pc ls st h o := by
  unfold mj_i2 at e
  split at e
  · exact mj_k_if (fun rr h1 h2 h3 h4 => k _ _ _ rr h1 h2 h3 h4) e
  · cases e
theorem mj_k_li {i len : Nat} (k : ∀ (x : Int32) (rr : Option Value × MH), n = len → ls.getD i none = some (.int x) → mj_Sim g l d mi (pc + len) ls (.int x :: st) h rr → mj_Sim g l d mi pc ls st h rr) (e : mj_li i len pc n ls st h = some o) : mj_OK g l d mi pc ls st h o := by
  unfold mj_li at e
  split at e
  · next hn =>
    split at e
    · next hx => exact mj_k_n0 (fun rr K => k _ rr hn hx K) e
    · cases e
  · cases e
theorem mj_k_la {i len : Nat} (k : ∀ (v : Value) (rr : Option Value × MH), n = len → ls.getD i none = some v → (v = .null ∨ (∃ a, v = .ref a) ∨ ∃ a, v = .retAddr a) → mj_Sim g l d mi (pc + len) ls (v :: st) h rr → mj_Sim g l d mi pc ls st h rr) (e : mj_la i len pc n ls st h = some o) : mj_OK g l d mi pc ls st h o := by
  unfold mj_la at e
  split at e
  · next hn =>
    split at e
    · next hx => exact mj_k_n0 (fun rr K => k _ rr hn hx (Or.inl rfl) K) e
    · next hx => exact mj_k_n0 (fun rr K => k _ rr hn hx (Or.inr (Or.inl ⟨_, rfl⟩)) K) e
    · next hx => exact mj_k_n0 (fun rr K => k _ rr hn hx (Or.inr (Or.inr ⟨_, rfl⟩)) K) e
    · cases e
  · cases e
theorem mj_k_si {i len : Nat} (k : ∀ (x : Int32) (r : List Value) (rr : Option Value × MH), n = len → i < ls.length → mj_Sim g l d mi (pc + len) (ls.set i (some (.int x))) r h rr → mj_Sim g l d mi pc ls (.int x :: r) h rr) (e : mj_si i len pc n ls st h = some o) : mj_OK g l d mi pc ls st h o := by
  unfold mj_si at e
  split at e
  · next hn =>
    split at e
    · exact mj_k_n0 (fun rr K => k _ _ rr hn.1 hn.2 K) e
    · cases e
  · cases e
theorem mj_k_sa {i len : Nat} (k : ∀ (v : Value) (r : List Value) (rr : Option Value × MH), n = len → i < ls.length → (v = .null ∨ (∃ a, v = .ref a) ∨ ∃ a, v = .retAddr a) → mj_Sim g l d mi (pc + len) (ls.set i (some v)) r h rr → mj_Sim g l d mi pc ls (v :: r) h rr) (e : mj_sa i len pc n ls st h = some o) : mj_OK g l d mi pc ls st h o := by
  unfold mj_sa at e
  split at e
  · next hn =>
    split at e
    · exact mj_k_n0 (fun rr K => k _ _ rr hn.1 hn.2 (Or.inl rfl) K) e
    · exact mj_k_n0 (fun rr K => k _ _ rr hn.1 hn.2 (Or.inr (Or.inl ⟨_, rfl⟩)) K) e
    · exact mj_k_n0 (fun rr K => k _ _ rr hn.1 hn.2 (Or.inr (Or.inr ⟨_, rfl⟩)) K) e
    · cases e
  · cases e
theorem mj_k_ald {kd : Nat} (k : ∀ (i : Int32) (a : Nat) (r : List Value) (rr : Option Value × MH), n = 1 → mj_kd h a kd i = true → mj_Sim g l d mi (pc + 1) ls (.int (mj_i h a i.toNatClampNeg) :: r) h rr → mj_Sim g l d mi pc ls (.int i :: .ref a :: r) h rr) (e : mj_ald kd n pc ls st h = some o) : mj_OK g l d mi pc ls st h o := by
  unfold mj_ald at e
  split at e
  · next hn =>
    split at e
    · split at e
      · next hk => exact mj_k_n0 (fun rr K => k _ _ _ rr hn hk K) e
      · cases e
    · cases e
  · cases e
theorem mj_k_ast {kd : Nat} {f : Int32 → Int32} (k : ∀ (x i : Int32) (a : Nat) (r : List Value) (rr : Option Value × MH), n = 1 → mj_kd h a kd i = true → mj_Sim g l d mi (pc + 1) ls r (mj_wi h a i.toNatClampNeg (f x)) rr → mj_Sim g l d mi pc ls (.int x :: .int i :: .ref a :: r) h rr) (e : mj_ast kd n pc f ls st h = some o) : mj_OK g l d mi pc ls st h o := by
  unfold mj_ast at e
  split at e
  · next hn =>
    split at e
    · split at e
      · next hk => exact mj_k_nx (h' := mj_wi h _ _ _) ⟨Nat.le_refl _, Nat.le_refl _⟩ (fun rr _ _ K => k _ _ _ _ rr hn hk K) e
      · cases e
    · cases e
  · cases e
theorem mj_k_call {mj : Nat} {as rest : List Value} (k : ∀ (d' : Nat) (r1 r : Option Value × MH), n = 3 → rest.length ≤ 8 → rest.all mj_c1 = true → as.all mj_c1 = true → as.length = mt_n mj → d = d' + 1 → mj_Sim g l d' mj 0 (mj_ent mj as) [] h r1 → mj_z h ≤ mj_z r1.2 → mj_u h ≤ mj_u r1.2 → mj_z r1.2 ≤ mj_z r.2 → mj_u r1.2 ≤ mj_u r.2 → mj_Sim g l d mi (pc + 3) ls (r1.1.toList ++ rest) r1.2 r → mj_Sim g l d mi pc ls st h r) (e : mj_call pc n mj as rest = some o) : mj_OK g l d mi pc ls st h o := by
  unfold mj_call at e
  split at e
  · next hn =>
    cases e
    intro d' r1 r hd' S1 m1 m2 m3 m4 K
    exact k d' r1 r hn.1 hn.2.1 hn.2.2.1 hn.2.2.2.1 hn.2.2.2.2 hd' S1 m1 m2 m3 m4 K
  · cases e
end Cases
section Main1
variable {g : mj_G} {l : Launch} {d mi pc n : Nat} {ls : List (Option Value)} {st : List Value} {h : MH} {o : MOut}
theorem mj_k_na {kd len : Nat} (k : ∀ (x : Int32) (r : List Value) (rr : Option Value × MH), n = len → ¬ x < 0 → x.toNatClampNeg ≤ 65536 → mj_z h + 1 ≤ mj_z rr.2 → mj_u h + x.toNatClampNeg ≤ mj_u rr.2 → mj_Sim g l d mi (pc + len) ls (.ref (mj_z h) :: r) (mj_nw h kd x.toNatClampNeg) rr → mj_Sim g l d mi pc ls (.int x :: r) h rr) (e : mj_na kd n len pc ls st h = some o) : mj_OK g l d mi pc ls st h o := by
  unfold mj_na at e
  split at e
  · next hn =>
    split at e
    · split at e
      · next hk => exact mj_k_nx (h' := mj_nw h _ _) ⟨Nat.le_succ _, Nat.le_add_right _ _⟩ (fun rr h1 h2 K => k _ _ rr hn hk.1 hk.2 h1 h2 K) e
      · cases e
    · cases e
  · cases e
theorem mj_k_new {idx : Nat} (hd : n = 3 → decode (mt_b mi) pc = .ok (.new idx, 3)) (e : mj_new mi pc n idx ls st h = some o) : mj_OK g l d mi pc ls st h o := by
  unfold mj_new at e
  split at e
  · next hg =>
    split at e
    · next hn => exact mj_k_nx (h' := mj_nw h _ _) ⟨Nat.le_succ _, Nat.le_add_right _ _⟩ (fun rr h1 h2 K => mj_g_new (hd hn) hg h1 h2 K) e
    · cases e
  · cases e
theorem mj_k_anew {idx : Nat} (hd : n = 3 → decode (mt_b mi) pc = .ok (.anewarray idx, 3)) (e : (match mj_get mt_NA (mt_on mi) idx with
    | some kd => mj_na kd n 3 pc ls st h
    | none => none) = some o) : mj_OK g l d mi pc ls st h o := by
  split at e
  · next hg =>
    obtain ⟨t, C, h1, h2, h3, h4⟩ := mt_ok_NA _ _ _ hg
    rw [mt_ok_on] at h3
    exact mj_k_na (fun x r rr hn q1 q2 q3 q4 K => mj_g_naq (hd hn) h1 h2 h3 h4 q1 q2 q3 q4 K) e
  · cases e
theorem mj_k_aal (hd : n = 1 → decode (mt_b mi) pc = .ok (.aaload, 1)) (e : mj_aal n pc ls st h = some o) : mj_OK g l d mi pc ls st h o := by
  unfold mj_aal at e
  split at e
  · next hn =>
    split at e
    · split at e
      · next hk =>
        refine mj_k_n0 (fun rr K => ?_) e
        rw [Bool.or_eq_true] at hk
        rcases hk with hk | hk
        · exact mj_g_aald (hd hn) mt_ty3 (by omega) hk K
        · exact mj_g_aald (hd hn) mt_ty4 (by omega) hk K
      · cases e
    · cases e
  · cases e
theorem mj_k_aas (hd : n = 1 → decode (mt_b mi) pc = .ok (.aastore, 1)) (e : mj_aas n pc ls st h = some o) : mj_OK g l d mi pc ls st h o := by
  unfold mj_aas at e
  split at e
  · next hn =>
    split at e
    · split at e
      · next hk =>
        obtain ⟨hb, hs, hk⟩ := hk
        obtain ⟨q, hq, hq2⟩ := List.any_eq_true.mp hs
        simp only [Bool.and_eq_true, beq_iff_eq] at hq2
        obtain ⟨t, C, rc, h1, h2, h3, h4⟩ := mt_ok_sub q hq
        rw [hq2.1] at h3
        rw [hq2.2] at h1 h2
        exact mj_k_nx (h' := mj_wr h _ _ _) ⟨Nat.le_refl _, Nat.le_refl _⟩ (fun rr _ _ K => mj_g_aast (hd hn) h1 h2 hk hb rfl h3 h4 K) e
      · cases e
    · cases e
  · cases e
theorem mj_k_len (hd : n = 1 → decode (mt_b mi) pc = .ok (.arraylength, 1)) (e : mj_len g.2.2.2.2.1 n pc ls st h = some o) : mj_OK g l d mi pc ls st h o := by
  unfold mj_len at e
  split at e
  · next hn =>
    split at e
    · split at e
      · next hk =>
        obtain ⟨ha, h1, hs⟩ := hk
        obtain ⟨q, hq, hq2⟩ := List.any_eq_true.mp hs
        simp only [beq_iff_eq] at hq2
        obtain ⟨t, ht⟩ := List.getElem?_of_mem hq
        refine mj_k_n0 (fun rr K => mj_g_alen (hd hn) (kd := q.1) (ty := q.2) ht (by rw [hq2]; exact h1) ha (by rw [hq2]) K) e
      · cases e
    · split at e
      · next h0 =>
        subst h0
        exact mj_k_n0 (fun rr K => mj_g_slen (hd hn) K) e
      · next h0 =>
        split at e
        · next a _ hk =>
          have e1 : a = 2 * (a / 2 - 1) + 2 := by omega
          refine mj_k_n0 (fun rr K => ?_) e
          rw [e1]
          exact mj_g_llen (hd hn) (by omega) K
        · cases e
    · cases e
  · cases e
theorem mj_k_ial (hd : n = 1 → decode (mt_b mi) pc = .ok (.iaload, 1)) (e : mj_ial g.2.2.2.2.1 g.2.2.2.2.2 n pc ls st h = some o) : mj_OK g l d mi pc ls st h o := by
  unfold mj_ial at e
  split at e
  · split at e
    · next hk => exact mj_k_n0 (fun rr K => mj_g_sld (hd hk.1) hk.2 K) e
    · cases e
  · exact mj_k_ald (fun i a r rr hn hk K => mj_g_iald (hd hn) hk K) e
theorem mj_k_bal (hd : n = 1 → decode (mt_b mi) pc = .ok (.baload, 1)) (e : mj_bal n pc ls st h = some o) : mj_OK g l d mi pc ls st h o := by
  unfold mj_bal at e
  split at e
  · next a _ =>
    split at e
    · next hk =>
      obtain ⟨hn, k1, k2, k3, k4⟩ := hk
      have e1 : a = 2 * (a / 2 - 1) + 2 := by omega
      refine mj_k_n0 (fun rr K => ?_) e
      rw [e1]
      exact mj_g_lbyt (hd hn) (by omega) k4 K
    · cases e
  · exact mj_k_ald (fun i a r rr hn hk K => mj_g_zald (hd hn) hk K) e
theorem mj_k_gf {idx : Nat} (hd : n = 3 → decode (mt_b mi) pc = .ok (.getfield idx, 3)) (e : mj_gf mi pc n idx ls st h = some o) : mj_OK g l d mi pc ls st h o := by
  unfold mj_gf at e
  split at e
  · next hn =>
    split at e
    · split at e
      · next hg =>
        split at e
        · next hk => exact mj_k_n0 (fun rr K => mj_g_getf (hd hn) hg hk.1 hk.2.1 hk.2.2 K) e
        · cases e
      · cases e
    · next a _ =>
      split at e
      · next hk =>
        have e1 : a = 2 * (a / 2) + 1 := by omega
        split at e
        · next hg =>
          have hl := mt_ok_LF0 _ _ hg
          rw [mt_ok_on] at hl
          refine mj_k_n0 (fun rr K => ?_) e
          rw [e1] at K ⊢
          exact mj_g_lval (hd hn) (by omega) hl K
        · next hg =>
          have hl := mt_ok_LF1 _ _ hg
          rw [mt_ok_on] at hl
          refine mj_k_n0 (fun rr K => ?_) e
          rw [e1]
          exact mj_g_lcod (hd hn) (by omega) hl K
        · cases e
      · cases e
    · cases e
  · cases e
theorem mj_k_pf {idx : Nat} (hd : n = 3 → decode (mt_b mi) pc = .ok (.putfield idx, 3)) (e : mj_pf mi pc n idx ls st h = some o) : mj_OK g l d mi pc ls st h o := by
  unfold mj_pf at e
  split at e
  · next hn =>
    split at e
    · next hg =>
      split at e
      · next hb =>
        split at e
        · split at e
          · next hk => exact mj_k_nx (h' := mj_wi h _ _ _) ⟨Nat.le_refl _, Nat.le_refl _⟩ (fun rr _ _ K => mj_g_puti (hd hn) hg hb hk.1 hk.2.1 hk.2.2.1 hk.2.2.2.1 hk.2.2.2.2 K) e
          · cases e
        · split at e
          · next hk => exact mj_k_nx (h' := mj_wr h _ _ _) ⟨Nat.le_refl _, Nat.le_refl _⟩ (fun rr _ _ K => mj_g_putr (x := none) (hd hn) hg hb hk.1 hk.2.1 hk.2.2.1 hk.2.2.2 K) e
          · cases e
        · split at e
          · next hk => exact mj_k_nx (h' := mj_wr h _ _ _) ⟨Nat.le_refl _, Nat.le_refl _⟩ (fun rr _ _ K => mj_g_putr (x := some _) (hd hn) hg hb hk.1 hk.2.1 hk.2.2.1 hk.2.2.2 K) e
          · cases e
        · cases e
      · cases e
    · cases e
  · cases e
theorem mj_k_d1 (hd : n = 1 → decode (mt_b mi) pc = .ok (.dup, 1)) (e : mj_d1 n pc ls st h = some o) : mj_OK g l d mi pc ls st h o := by
  unfold mj_d1 at e
  split at e
  · next hn =>
    split at e
    · split at e
      · next hk => exact mj_k_n0 (fun rr K => mj_g_dup (hd hn) (by simpa using hk) K) e
      · cases e
    · cases e
  · cases e
theorem mj_k_d2 (hd : n = 1 → decode (mt_b mi) pc = .ok (.dup2, 1)) (e : mj_d2 n pc ls st h = some o) : mj_OK g l d mi pc ls st h o := by
  unfold mj_d2 at e
  split at e
  · next hn =>
    split at e
    · split at e
      · next hk =>
        simp only [Bool.and_eq_true, beq_iff_eq] at hk
        exact mj_k_n0 (fun rr K => mj_g_dup2 (hd hn) hk.1 hk.2 K) e
      · cases e
    · cases e
  · cases e
theorem mj_k_p1 (hd : n = 1 → decode (mt_b mi) pc = .ok (.pop, 1)) (e : mj_p1 n pc ls st h = some o) : mj_OK g l d mi pc ls st h o := by
  unfold mj_p1 at e
  split at e
  · next hn =>
    split at e
    · split at e
      · next hk => exact mj_k_n0 (fun rr K => mj_g_pop (hd hn) (by simpa using hk) K) e
      · cases e
    · cases e
  · cases e
theorem mj_k_ldc {idx : Nat} (hd : n = 2 → decode (mt_b mi) pc = .ok (.ldc idx, 2)) (e : mj_ldc mi pc n 2 idx ls st h = some o) : mj_OK g l d mi pc ls st h o := by
  unfold mj_ldc at e
  split at e
  · next hg =>
    split at e
    · next hn =>
      refine mj_k_n0 (fun rr K => ?_) e
      have hk := mt_ok_K _ _ _ hg
      unfold mt_Pk at hk
      dsimp only at hk
      rw [mt_ok_on] at hk
      rcases hk with ⟨x, rfl, hw⟩ | ⟨j, tx, rfl, hw⟩
      · exact mj_g_ldi (hd hn) hw K
      · exact mj_g_lds (hd hn) hw K
    · cases e
  · cases e
theorem mj_k_ldw {idx : Nat} (hd : n = 3 → decode (mt_b mi) pc = .ok (.ldc_w idx, 3)) (e : mj_ldw mi pc n idx ls st h = some o) : mj_OK g l d mi pc ls st h o := by
  unfold mj_ldw at e
  split at e
  · next x hg =>
    split at e
    · next hn =>
      refine mj_k_n0 (fun rr K => ?_) e
      have hk := mt_ok_K _ _ _ hg
      unfold mt_Pk at hk
      dsimp only at hk
      rw [mt_ok_on] at hk
      rcases hk with ⟨y, hy, hw⟩ | ⟨j, tx, hy, hw⟩
      · cases hy
        exact mj_g_ldwi (hd hn) hw K
      · cases hy
    · cases e
  · cases e
theorem mj_k_gs {idx : Nat} (hd : n = 3 → decode (mt_b mi) pc = .ok (.getstatic idx, 3)) (e : mj_gs mi pc n idx ls st h = some o) : mj_OK g l d mi pc ls st h o := by
  unfold mj_gs at e
  split at e
  · next hg =>
    split at e
    · next hn =>
      obtain ⟨C, nn, f, h1, h2⟩ := mt_ok_S _ _ _ hg
      rw [mt_ok_on] at h2
      exact mj_k_n0 (fun rr K => mj_g_gets (hd hn) h1 h2 K) e
    · cases e
  · cases e
theorem mj_k_tsw {dflt lo hi : Int} {offs : Array Int} (hd : decode (mt_b mi) pc = .ok (.tableswitch dflt lo hi offs, n)) (e : mj_tsw pc dflt lo hi offs ls st h = some o) : mj_OK g l d mi pc ls st h o := by
  unfold mj_tsw at e
  split at e
  · split at e
    · next hx =>
      split at e
      · next ho => exact mj_k_n0 (fun rr K => mj_g_tswOut hd hx ho K) e
      · cases e
    · next hx =>
      split at e
      · next hf =>
        split at e
        · next ho => exact mj_k_n0 (fun rr K => mj_g_tswIn hd hx hf ho K) e
        · cases e
      · cases e
  · cases e
theorem mj_k_lsw {dflt : Int} {ps : Array (Int × Int)} (hd : decode (mt_b mi) pc = .ok (.lookupswitch dflt ps, n)) (e : mj_lsw pc dflt ps ls st h = some o) : mj_OK g l d mi pc ls st h o := by
  unfold mj_lsw at e
  split at e
  · split at e
    · next hx => exact mj_k_n0 (fun rr K => mj_g_lsw hd hx.1 hx.2 K) e
    · cases e
  · cases e
theorem mj_k_inc {i : Nat} {k : Int} (hd : n = 3 → decode (mt_b mi) pc = .ok (.iinc i k, 3)) (e : mj_inc i n pc k ls st h = some o) : mj_OK g l d mi pc ls st h o := by
  unfold mj_inc at e
  split at e
  · next hn =>
    split at e
    · next hx => exact mj_k_n0 (fun rr K => mj_g_iinc (hd hn.1) hn.2 hx K) e
    · cases e
  · cases e
theorem mj_tk {k : Nat} {L : List Value} (e : (st.take k).reverse = L) : st = L.reverse ++ st.drop k := by
  rw [← e, List.reverse_reverse, List.take_append_drop]
theorem mj_k_cpy {idx : Nat} (hd : n = 3 → decode (mt_b mi) pc = .ok (.invokestatic idx, 3)) (hl : Cond.methodLink (mt_y mi).cls idx arraycopyName ∈ mt_TB) (e : mj_cpy n pc ls st h = some o) : mj_OK g l d mi pc ls st h o := by
  unfold mj_cpy at e
  split at e
  · next hn =>
    split at e
    · split at e
      · next hk =>
        simp only [Bool.and_eq_true, Bool.or_eq_true, decide_eq_true_eq, Bool.not_eq_true', decide_eq_false_iff_not] at hk
        obtain ⟨⟨⟨⟨⟨⟨⟨⟨⟨k1, k2⟩, k3⟩, k4⟩, k5⟩, k6⟩, k7⟩, k8⟩, k9⟩, k10⟩ := hk
        refine mj_k_nx (h' := mj_wa h _ _) ⟨Nat.le_refl _, Nat.le_refl _⟩ (fun rr _ _ K => ?_) e
        rcases k5 with k5 | ⟨k5, k5'⟩
        · exact mj_g_copy (hd hn) hl mt_cpyW mt_ty0 rfl (by omega) (by omega) k1 k2 k3 (by rw [← k5]) (by rw [← k5, k4]) k6 k7 k8 k9 k10 (fun i _ => rfl) K
        · exact mj_g_copy (hd hn) hl mt_cpyW mt_ty2 rfl (by omega) (by omega) k1 k2 k3 (by rw [← k5]) (by rw [← k5, k4]) k6 k7 k8 k9 k10 (fun i hi => List.all_eq_true.mp k5' i (List.mem_range.mpr hi)) K
      · cases e
    · cases e
  · cases e
theorem mj_k_ivs {idx : Nat} (hd : n = 3 → decode (mt_b mi) pc = .ok (.invokestatic idx, 3)) (e : mj_ivs mi pc n idx ls st h = some o) : mj_OK g l d mi pc ls st h o := by
  unfold mj_ivs at e
  split at e
  · cases e
  · next mj hg =>
    have hk := mt_ok_MS _ _ _ hg
    unfold mt_Pms at hk
    dsimp only at hk
    rw [mt_ok_on] at hk
    split at e
    · next h9 => exact mj_k_cpy hd (hk.1 h9) e
    · next h9 =>
      obtain ⟨q1, q2, q3, q4⟩ := hk.2 h9
      refine mj_k_call (fun d' r1 r hn c1 c2 c3 c4 hdd S1 m1 m2 m3 m4 K => ?_) e
      subst hdd
      have := mj_c_S (hd hn) q1 q2 q3 q4 c1 c2 c3 c4 S1 m1 m2 m3 m4 K
      rw [List.reverse_reverse, List.take_append_drop] at this
      exact this
theorem mj_k_ivp {idx : Nat} (hd : n = 3 → decode (mt_b mi) pc = .ok (.invokespecial idx, 3)) (e : mj_ivp mi pc n idx ls st h = some o) : mj_OK g l d mi pc ls st h o := by
  unfold mj_ivp at e
  split at e
  · cases e
  · next mj hg =>
    have hk := mt_ok_MI _ _ _ hg
    unfold mt_Pmi at hk
    dsimp only at hk
    rw [mt_ok_on] at hk
    split at e
    · next h9 =>
      split at e
      · split at e
        · next hx => exact mj_k_n0 (fun rr K => mj_g_objInit (hd hx.1) (hk.1 h9) mt_objW hx.2 K) e
        · cases e
      · cases e
    · next h9 =>
      obtain ⟨q1, q2, q3, q4, q5, q6⟩ := hk.2 h9
      split at e
      · next hst =>
        refine mj_k_call (fun d' r1 r hn c1 c2 c3 c4 hdd S1 m1 m2 m3 m4 K => ?_) e
        subst hdd
        have := mj_c_I (hd hn) q1 q2 q3 q4 q5 q6 c1 c2 c3 c4 S1 m1 m2 m3 m4 K
        rw [← hst, List.reverse_reverse, List.take_append_drop] at this
        exact this
      · cases e
theorem mj_k_ivl {idx : Nat} (hd : n = 3 → decode (mt_b mi) pc = .ok (.invokevirtual idx, 3)) (e : mj_ivl mi pc n idx st = some o) : mj_OK g l d mi pc ls st h o := by
  unfold mj_ivl at e
  split at e
  · cases e
  · next mj hg =>
    obtain ⟨q1, q2, q3, q4⟩ := mt_ok_ML _ _ _ hg
    rw [mt_ok_on] at q4
    split at e
    · next a as hst =>
      split at e
      · next ha =>
        have e3 : 2 * (a / 2) + 1 = a := by omega
        refine mj_k_call (fun d' r1 r hn c1 c2 c3 c4 hdd S1 m1 m2 m3 m4 K => ?_) e
        subst hdd
        have := mj_c_V (v := .retAddr a) (C := "java/lang/String") (hd hn) q1 q4 q2 q3 rfl (fun p R s m args meth c H locs X hH hS => by
          have hv := vk_recv X.2.2.2.2.2.2.2.2.1.2.2.2.2.1 (i := a / 2) (by omega) hS
          rw [e3] at hv
          exact hv) c1 c2 c3 c4 S1 m1 m2 m3 m4 K
        rw [← hst, List.reverse_reverse, List.take_append_drop] at this
        exact this
      · cases e
    · cases e
theorem mj_k_ivv {idx : Nat} (hd : n = 3 → decode (mt_b mi) pc = .ok (.invokevirtual idx, 3)) (e : mj_ivv mi pc n idx st h = some o) : mj_OK g l d mi pc ls st h o := by
  unfold mj_ivv at e
  split at e
  · exact mj_k_ivl hd e
  · next k rows hg =>
    have hk := mt_ok_MV _ _ _ _ hg
    unfold mt_Pmv at hk
    dsimp only at hk
    rw [mt_ok_on] at hk
    split at e
    · next a as hst =>
      split at e
      · next ha =>
        split at e
        · next q hf =>
          have hq := List.mem_of_find?_eq_some hf
          have hq1 : q.1 = (mj_m h a).1 := by simpa using List.find?_some hf
          obtain ⟨q1, q2, q3, rc, e1, e2⟩ := hk q hq
          have f0 := (mt_ok_cl _ _ e1).1
          refine mj_k_call (fun d' r1 r hn c1 c2 c3 c4 hdd S1 m1 m2 m3 m4 K => ?_) e
          subst hdd
          have := mj_c_V (v := .ref a) (C := rc.1) (hd hn) q1 e2 q2 q3 rfl (fun p R s m args meth c H locs X hH hS => va_recv X.2.2.2.2.2.2.2.2.1.1 hH.2 e1 (by rw [mj_ws_at ha, mj_e_obj (ci := q.1) (n := (mj_m h a).2) (by rw [hq1]) f0])) c1 c2 c3 c4 S1 m1 m2 m3 m4 K
          rw [← hst, List.reverse_reverse, List.take_append_drop] at this
          exact this
        · cases e
      · cases e
    · cases e
end Main1
