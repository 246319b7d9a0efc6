/-! What the guards answer, all of them. -/
section HoldsAll
variable {L : Nat} {xs : Nat → Int32}
theorem k_holds {v n k e x : Nat} {lk : Nat → Nat} {vs : Nat → Int32} : ∀ (t d a : Nat) (nb : Bool) (D : GD) (h : MH) (Q : Option Value × MH → Prop), VS h v n k e lk x vs → TG t h a nb D → HQ Q h v nb (D n k (lk x) vs (mj_i h (v + 2))) → HW L xs (d + t + 1) a v h Q := by
  intro t
  induction t with
  | zero => intro d a nb D h Q _ q; exact q.elim
  | succ t ih =>
    intro d a nb D h Q s q hQ
    rw [show d + (t + 1) + 1 = d + t + 1 + 1 by omega]
    have n10 : ¬ nI 1 = nI 0 := by decide
    have n01 : ¬ nI 0 = nI 1 := by decide
    have hS46 : ∀ z ∈ [v + 2], z < 46 := by rcases s.1 with h1 | h1 <;> subst h1 <;> decide
    obtain ⟨pa, q⟩ := q
    have hav : a ∉ [v + 2] := fun z => by have := hS46 a z; omega
    rcases q with ⟨l, r, sg, m1, m2, c1, c2, g1, g2, w1, w2, p1, p2, p3, p4, p5, p6, p7, p8, rfl⟩ | ⟨l, r, b, D1, D2, p1, p2, p3, p4, p5, p6, rfl⟩ | ⟨i, D1, p1, p2, p3, rfl⟩ | ⟨hn, i, b, D1, p1, p2, p3, p4, rfl⟩
    · rw [HW_1 p1, k_cmp (t := t) s p1 p2 p3 p4 p5 p6 p7]
      exact hQ h sx_rf (fun _ _ _ => rfl) (fun _ => rfl)
    · rw [HW_5 p1]
      simp only [w_55_0, w_55_1, w_55_4, p1, p2, mj_rv_some, c_55_5 (TG_cls p5)]
      refine ih d l nb D1 h _ s p5 (fun h' u1 u2 u3 => ?_)
      have e1 := Ext_sx u1 hS46
      have b1 := Ext_is e1 pa p1
      have b3 : mj_i h' a 2 = (if b = true then nI 1 else nI 0) := by rw [sx_i u1 hav]; exact p4
      have b2 : mj_r h' a 1 = some r := by rw [sx_r u1]; exact p3
      have p6' := Ext_TG e1 _ _ _ _ p6
      have e2 : D2 n k (lk x) vs (mj_i h' (v + 2)) = D2 n k (lk x) vs (mj_i h (v + 2)) := by
        cases nb with
        | true => rw [u3 rfl]
        | false => exact TG_ind t r false D2 p6 n k (lk x) vs _ _ (fun c hc => by
            rcases hc with hc | ⟨hc, -⟩
            · exact u2 c (okC_ne hc).1 (okC_ne hc).2
            · cases hc)
      simp only [w_55_8, w_55_9, w_55_12, Option.toList, List.cons_append, List.nil_append, b1, b3]
      by_cases hD : D1 n k (lk x) vs (mj_i h (v + 2)) = b
      · have e9 : (bI (D1 n k (lk x) vs (mj_i h (v + 2))) = if b = true then nI 1 else nI 0) = True := by
          rw [hD]; exact eq_true rfl
        simp only [e9, not_true_eq_false, if_false, w_55_15, w_55_16, w_55_19, b1, b2, mj_rv_some, c_55_20 (TG_cls p6')]
        refine ih d r nb D2 h' _ (VS_sx s u1) p6' (fun h'' y1 y2 y3 => ?_)
        simp only [w_55_23, w_55_38, fit_bI, Option.toList, List.cons_append, List.nil_append]
        have fin := hQ h'' (sx_tr u1 y1) (fun c z1 z2 => (y2 c z1 z2).trans (u2 c z1 z2)) (fun z => by rw [y3 z, u3 z])
        have e3 : (if b = true then D1 n k (lk x) vs (mj_i h (v + 2)) && D2 n k (lk x) vs (mj_i h (v + 2)) else D1 n k (lk x) vs (mj_i h (v + 2)) || D2 n k (lk x) vs (mj_i h (v + 2))) = D2 n k (lk x) vs (mj_i h' (v + 2)) := by
          rw [e2, hD]
          cases b <;> simp
        dsimp only at fin
        rw [e3] at fin
        exact fin
      · have e9 : (bI (D1 n k (lk x) vs (mj_i h (v + 2))) = if b = true then nI 1 else nI 0) = False := by
          have : (if b = true then nI 1 else nI 0) = bI b := rfl
          rw [this, bI_eq]; exact eq_false hD
        have hDn : D1 n k (lk x) vs (mj_i h (v + 2)) = !b := by
          cases b <;> simp_all
        have fin := hQ h' u1 u2 u3
        have e3 : (if b = true then D1 n k (lk x) vs (mj_i h (v + 2)) && D2 n k (lk x) vs (mj_i h (v + 2)) else D1 n k (lk x) vs (mj_i h (v + 2)) || D2 n k (lk x) vs (mj_i h (v + 2))) = !b := by
          rw [hDn]
          cases b <;> simp
        dsimp only at fin
        rw [e3] at fin
        simp only [e9, not_false_eq_true, if_true, w_55_26, w_55_27, w_55_30, w_55_33, w_55_34, w_55_37, w_55_38, b1, b3, mj_fit_n0, mj_fit_n1]
        cases b
        · simpa [bI] using fin
        · simpa [bI, n10] using fin
    · rw [HW_4 p1]
      simp only [w_54_0, w_54_1, w_54_4, p1, p2, mj_rv_some, c_54_5 (TG_cls p3)]
      refine ih d i nb D1 h _ s p3 (fun h' u1 u2 u3 => ?_)
      have fin := hQ h' u1 u2 u3
      simp only [w_54_8, w_54_11, w_54_12, w_54_15, w_54_16, Option.toList, List.cons_append, List.nil_append, mj_fit_n0, mj_fit_n1]
      cases hD : D1 n k (lk x) vs (mj_i h (v + 2))
      · simp only [hD] at fin
        simpa [bI] using fin
      · simp only [hD] at fin
        simpa [bI, n10] using fin
    · subst hn
      rw [HW_3 p1]
      simp only [w_52_0, w_52_1]
      refine k_nb_loop (pt0 := mj_i h (v + 2)) (by omega) (fun h' Q' s' q' hq' => ih d i true D1 h' Q' s' q' hq') n 0 h (by omega) s p4 p1 pa p2 p3 (fun _ _ _ => rfl) rfl (fun h' u1 u2 => hQ h' u1 u2 (fun z => by cases z))
end HoldsAll
