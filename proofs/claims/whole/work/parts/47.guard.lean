/-! Guards: trees and what they say. -/
/-- a letter stands for another value -/
def ptU (pt : Nat → Int32) (y j : Int32) : Nat → Int32 := fun c => if c = 106 then j else if c = 121 then y else pt c
abbrev GD : Type := Nat → Nat → Nat → (Nat → Int32) → (Nat → Int32) → Bool
/-- all of the neighbours below b, or some of them -/
def quF (all : Bool) (D : (Nat → Int32) → Bool) (m : Nat) (vs : Nat → Int32) (pt : Nat → Int32) : Nat → Bool
  | 0 => all
  | b + 1 => if m / 2 ^ b % 2 = 0 then quF all D m vs pt b else if all = true then quF all D m vs pt b && D (ptU pt (vs b) (nI b)) else quF all D m vs pt b || D (ptU pt (vs b) (nI b))
def cpF (sg : Nat) (x y : Int32) : Bool := if sg = 60 then decide (x < y) else (decide (x = y) == decide (sg = 61))
/-- the letters of a sum; y and j inside a test of the neighbours -/
def okC (c : Nat) : Prop := (48 ≤ c ∧ c ≤ 57) ∨ c = 120 ∨ c = 105 ∨ c = 100 ∨ c = 109 ∨ c = 77 ∨ c = 108 ∨ c = 117 ∨ c = 110 ∨ c = 107
def okN (nb : Bool) (c : Nat) : Prop := okC c ∨ (nb = true ∧ (c = 121 ∨ c = 106))
/-- the tree at a, in at most t levels, says D (of n, k, the node's mask, the values, the letters); nb: inside a test of the neighbours -/
def TG : Nat → MH → Nat → Bool → GD → Prop
  | 0, _, _, _, _ => False
  | t + 1, h, a, nb, D => 46 ≤ a ∧ (
    (∃ (l r sg m1 m2 : Nat) (c1 c2 : Nat → Nat) (g1 g2 : Nat → Bool) (w1 w2 : Bool), mj_is h a 1 3 ∧ mj_r h a 0 = some l ∧ mj_r h a 2 = some r ∧ mj_i h a 1 = nI sg ∧ (sg = 60 ∨ sg = 61 ∨ sg = 35) ∧ SumAt h l m1 c1 g1 w1 ∧ SumAt h r m2 c2 g2 w2 ∧ ((∀ i, i < m1 → okN nb (c1 i)) ∧ ∀ i, i < m2 → okN nb (c2 i)) ∧ D = fun _ k _ _ pt => cpF sg (smF k pt m1 c1 g1 w1) (smF k pt m2 c2 g2 w2))
    ∨ (∃ (l r : Nat) (b : Bool) (D1 D2 : GD), mj_is h a 5 3 ∧ mj_r h a 0 = some l ∧ mj_r h a 1 = some r ∧ mj_i h a 2 = (if b = true then nI 1 else nI 0) ∧ TG t h l nb D1 ∧ TG t h r nb D2 ∧ D = fun n k m vs pt => if b = true then D1 n k m vs pt && D2 n k m vs pt else D1 n k m vs pt || D2 n k m vs pt)
    ∨ (∃ (i : Nat) (D1 : GD), mj_is h a 4 1 ∧ mj_r h a 0 = some i ∧ TG t h i nb D1 ∧ D = fun n k m vs pt => !(D1 n k m vs pt))
    ∨ (nb = false ∧ ∃ (i : Nat) (b : Bool) (D1 : GD), mj_is h a 3 2 ∧ mj_r h a 0 = some i ∧ mj_i h a 1 = (if b = true then nI 1 else nI 0) ∧ TG t h i true D1 ∧ D = fun n k m vs pt => quF b (D1 n k m vs) m vs pt n))
/-- the cells that are made later stay as they are -/
def Ext (h h' : MH) : Prop := mj_z h ≤ mj_z h' ∧ ∀ a, 46 ≤ a → a < mj_z h → mj_m h' a = mj_m h a ∧ mj_i h' a = mj_i h a ∧ mj_r h' a = mj_r h a
theorem Ext_rf {h : MH} : Ext h h := ⟨Nat.le_refl _, fun _ _ _ => ⟨rfl, rfl, rfl⟩⟩
theorem Ext_tr {h h' h'' : MH} (h1 : Ext h h') (h2 : Ext h' h'') : Ext h h'' := ⟨Nat.le_trans h1.1 h2.1, fun a ha hz => ⟨((h2.2 a ha (Nat.lt_of_lt_of_le hz h1.1)).1).trans (h1.2 a ha hz).1, ((h2.2 a ha (Nat.lt_of_lt_of_le hz h1.1)).2.1).trans (h1.2 a ha hz).2.1, ((h2.2 a ha (Nat.lt_of_lt_of_le hz h1.1)).2.2).trans (h1.2 a ha hz).2.2⟩⟩
theorem Ext_sx {S : List Nat} {h h' : MH} (h1 : mj_sx S h h') (hS : ∀ a ∈ S, a < 46) : Ext h h' := ⟨Nat.le_of_eq h1.1.symm, fun a ha _ => ⟨h1.2.2.1 a, h1.2.2.2.2 a (fun z => by have := hS a z; omega), h1.2.2.2.1 a⟩⟩
theorem Ext_is {h h' : MH} {a kd n : Nat} (e : Ext h h') (ha : 46 ≤ a) (H : mj_is h a kd n) : mj_is h' a kd n := ⟨Nat.lt_of_lt_of_le H.1 e.1, by rw [(e.2 a ha H.1).1]; exact H.2⟩
theorem Ext_Sum {h h' : MH} {a m : Nat} {cs : Nat → Nat} {ng : Nat → Bool} {w : Bool} (e : Ext h h') (s : SumAt h a m cs ng w) : SumAt h' a m cs ng w := by
  obtain ⟨T, f, len, q1, q2, s1, s2, s3, s4, s5, s6, s7, s8, s9, s10, s11, s12, s13⟩ := s
  obtain ⟨-, e2, e3⟩ := e.2 a q1 s1.1
  obtain ⟨f1, f2, -⟩ := e.2 T q2 s3.1
  refine ⟨T, f, len, q1, q2, Ext_is e q1 s1, by rw [e3]; exact s2, ⟨Nat.lt_of_lt_of_le s3.1 e.1, by rw [f1]; exact s3.2⟩, by rw [mj_ln, f1]; exact s4, s5, by rw [e2]; exact s6, by rw [e2]; exact s7, s8, s9, by rw [e2]; exact s10, by rw [f2]; exact s11, by rw [f2]; exact s12, s13⟩
theorem Ext_TG {h h' : MH} (e : Ext h h') : ∀ (t a : Nat) (nb : Bool) (D : GD), TG t h a nb D → TG t h' a nb D
  | 0, _, _, _, q => q.elim
  | t + 1, a, nb, D, ⟨q0, q⟩ => by
    refine ⟨q0, ?_⟩
    rcases q with ⟨l, r, sg, m1, m2, c1, c2, g1, g2, w1, w2, p1, p2, p3, p4, p5, p6, p7, p8, p9⟩ | ⟨l, r, b, D1, D2, p1, p2, p3, p4, p5, p6, p7⟩ | ⟨i, D1, p1, p2, p3, p4⟩ | ⟨hn, i, b, D1, p1, p2, p3, p4, p5⟩
    · obtain ⟨-, e2, e3⟩ := e.2 a q0 p1.1
      exact Or.inl ⟨l, r, sg, m1, m2, c1, c2, g1, g2, w1, w2, Ext_is e q0 p1, by rw [e3]; exact p2, by rw [e3]; exact p3, by rw [e2]; exact p4, p5, Ext_Sum e p6, Ext_Sum e p7, p8, p9⟩
    · obtain ⟨-, e2, e3⟩ := e.2 a q0 p1.1
      exact Or.inr (Or.inl ⟨l, r, b, D1, D2, Ext_is e q0 p1, by rw [e3]; exact p2, by rw [e3]; exact p3, by rw [e2]; exact p4, Ext_TG e t l nb D1 p5, Ext_TG e t r nb D2 p6, p7⟩)
    · obtain ⟨-, e2, e3⟩ := e.2 a q0 p1.1
      exact Or.inr (Or.inr (Or.inl ⟨i, D1, Ext_is e q0 p1, by rw [e3]; exact p2, Ext_TG e t i nb D1 p3, p4⟩))
    · obtain ⟨-, e2, e3⟩ := e.2 a q0 p1.1
      exact Or.inr (Or.inr (Or.inr ⟨hn, i, b, D1, Ext_is e q0 p1, by rw [e3]; exact p2, by rw [e2]; exact p3, Ext_TG e t i true D1 p4, p5⟩))
theorem TG_mono {h : MH} : ∀ (t a : Nat) (nb : Bool) (D : GD), TG t h a nb D → TG (t + 1) h a nb D
  | 0, _, _, _, q => q.elim
  | t + 1, a, nb, D, ⟨q0, q⟩ => by
    refine ⟨q0, ?_⟩
    rcases q with q | ⟨l, r, b, D1, D2, p1, p2, p3, p4, p5, p6, p7⟩ | ⟨i, D1, p1, p2, p3, p4⟩ | ⟨hn, i, b, D1, p1, p2, p3, p4, p5⟩
    · exact Or.inl q
    · exact Or.inr (Or.inl ⟨l, r, b, D1, D2, p1, p2, p3, p4, TG_mono t l nb D1 p5, TG_mono t r nb D2 p6, p7⟩)
    · exact Or.inr (Or.inr (Or.inl ⟨i, D1, p1, p2, TG_mono t i nb D1 p3, p4⟩))
    · exact Or.inr (Or.inr (Or.inr ⟨hn, i, b, D1, p1, p2, p3, TG_mono t i true D1 p4, p5⟩))
theorem sv_cong {pt pt' : Nat → Int32} {cs : Nat → Nat} {ng : Nat → Bool} : ∀ m : Nat, (∀ i, i < m → pt (cs i) = pt' (cs i)) → svF pt cs ng m = svF pt' cs ng m
  | 0, _ => rfl
  | m + 1, q => by
    rw [svF, svF, sv_cong m (fun i hi => q i (by omega)), q m (by omega)]
/-- only its own letters matter to a tree -/
theorem TG_ind {h : MH} : ∀ (t a : Nat) (nb : Bool) (D : GD), TG t h a nb D → ∀ (n k m : Nat) (vs pt pt' : Nat → Int32), (∀ c, okN nb c → pt c = pt' c) → D n k m vs pt = D n k m vs pt'
  | 0, _, _, _, q => q.elim
  | t + 1, a, nb, D, ⟨_, q⟩ => by
    intro n k m vs pt pt' hp
    rcases q with ⟨l, r, sg, m1, m2, c1, c2, g1, g2, w1, w2, p1, p2, p3, p4, p5, p6, p7, p8, rfl⟩ | ⟨l, r, b, D1, D2, p1, p2, p3, p4, p5, p6, rfl⟩ | ⟨i, D1, p1, p2, p3, rfl⟩ | ⟨hn, i, b, D1, p1, p2, p3, p4, rfl⟩
    · obtain ⟨y1, y2⟩ := p8
      have z1 : svF pt c1 g1 m1 = svF pt' c1 g1 m1 := sv_cong m1 (fun i hi => hp _ (y1 i hi))
      have z2 : svF pt c2 g2 m2 = svF pt' c2 g2 m2 := sv_cong m2 (fun i hi => hp _ (y2 i hi))
      simp only [smF, z1, z2]
    · simp only [TG_ind t l nb D1 p5 n k m vs pt pt' hp, TG_ind t r nb D2 p6 n k m vs pt pt' hp]
    · simp only [TG_ind t i nb D1 p3 n k m vs pt pt' hp]
    · have e : ∀ y j, D1 n k m vs (ptU pt y j) = D1 n k m vs (ptU pt' y j) := by
        intro y j
        refine TG_ind t i true D1 p4 n k m vs _ _ (fun c hc => ?_)
        unfold ptU
        by_cases h1 : c = 106
        · simp [h1]
        · by_cases h2 : c = 121
          · simp [h2]
          · simp only [h1, h2, if_false]
            rcases hc with hc | ⟨-, hc⟩
            · exact hp c (Or.inl hc)
            · omega
      have : ∀ z, quF b (D1 n k m vs) m vs pt z = quF b (D1 n k m vs) m vs pt' z := by
        intro z
        induction z with
        | zero => rfl
        | succ z ih => simp only [quF, ih, e]
      exact this n
theorem okC_ne {c : Nat} (hc : okC c) : c ≠ 121 ∧ c ≠ 106 := by
  unfold okC at hc
  omega
