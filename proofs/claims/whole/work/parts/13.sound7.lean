/-! The small machine's runs are the true machine's. -/
section Main2
variable {g : mj_G} {l : Launch} {d mi pc n : Nat} {ls : List (Option Value)} {st : List Value} {h : MH} {o : MOut}
theorem mj_k_vr (hd : n = 1 → decode (mt_b mi) pc = .ok (.return_, 1)) (e : mj_vr mi n st = some o) : mj_OK g l d mi pc ls st h o := by
  unfold mj_vr at e
  split at e
  · next hn =>
    split at e
    · next hr => 
      cases e
      exact mj_g_vret (hd hn) hr
    · cases e
  · cases e
theorem mj_k_ir (hd : n = 1 → decode (mt_b mi) pc = .ok (.ireturn, 1)) (e : mj_ir mi n st = some o) : mj_OK g l d mi pc ls st h o := by
  unfold mj_ir at e
  split at e
  · next hn =>
    split at e
    · next hr =>
      split at e
      · next hf =>
        cases e
        have hf1 := hf.1
        simp only [mj_fit, Bool.and_eq_true, decide_eq_true_eq] at hf1
        exact mj_g_iret (hd hn) hr hf1.1
      · cases e
    · cases e
  · cases e
theorem mj_k_ar (hd : n = 1 → decode (mt_b mi) pc = .ok (.areturn, 1)) (e : mj_ar mi n st = some o) : mj_OK g l d mi pc ls st h o := by
  unfold mj_ar at e
  split at e
  · next hn =>
    split at e
    · next hr =>
      split at e
      · next hf =>
        cases e
        exact mj_g_aret (hd hn) hr hf
      · cases e
    · cases e
  · cases e
theorem mj_k_nul {off : Int} {b : Bool} (k1 : ∀ (r : List Value) (rr : Option Value × MH), n = 3 → mj_ok pc off = true → (b = true → mj_Sim g l d mi (mj_to pc off) ls r h rr) → (b = false → mj_Sim g l d mi (pc + 3) ls r h rr) → mj_Sim g l d mi pc ls (.null :: r) h rr) (k2 : ∀ (a : Nat) (r : List Value) (rr : Option Value × MH), n = 3 → mj_ok pc off = true → ((!b) = true → mj_Sim g l d mi (mj_to pc off) ls r h rr) → ((!b) = false → mj_Sim g l d mi (pc + 3) ls r h rr) → mj_Sim g l d mi pc ls (.ref a :: r) h rr) (e : mj_nul n pc off b ls st h = some o) : mj_OK g l d mi pc ls st h o := by
  unfold mj_nul at e
  split at e
  · exact mj_k_if (fun rr h1 h2 h3 h4 => k1 _ rr h1 h2 h3 h4) e
  · exact mj_k_if (fun rr h1 h2 h3 h4 => k2 _ _ rr h1 h2 h3 h4) e
  · cases e
set_option maxHeartbeats 4000000 in
theorem mj_ex_ok {i : ClassFile.Instr} (hd : decode (mt_b mi) pc = .ok (i, n)) (e : mj_ex g.2.2.2.2.1 g.2.2.2.2.2 mi pc ls st h i n = some o) : mj_OK g l d mi pc ls st h o := by
  cases i with
  | iconst k => 
    replace e : (if n = 1 then _ else none) = some o := e
    split at e
    · next hn =>
      subst hn
      exact mj_k_n0 (fun rr K => mj_g_iconst hd K) e
    · cases e
  | bipush k => 
    replace e : (if n = 2 then _ else none) = some o := e
    split at e
    · next hn =>
      subst hn
      exact mj_k_n0 (fun rr K => mj_g_bipush hd K) e
    · cases e
  | sipush k => 
    replace e : (if n = 3 then _ else none) = some o := e
    split at e
    · next hn =>
      subst hn
      exact mj_k_n0 (fun rr K => mj_g_sipush hd K) e
    · cases e
  | aconst_null => 
    replace e : (if n = 1 then _ else none) = some o := e
    split at e
    · next hn =>
      subst hn
      exact mj_k_n0 (fun rr K => mj_g_null hd K) e
    · cases e
  | ldc idx => exact mj_k_ldc (fun hn => by subst hn; exact hd) e
  | ldc_w idx => exact mj_k_ldw (fun hn => by subst hn; exact hd) e
  | iload i => exact mj_k_li (fun x rr hn hx K => by subst hn; exact mj_g_iload hd hx K) e
  | iload_n i => exact mj_k_li (fun x rr hn hx K => by subst hn; exact mj_g_iload_n hd hx K) e
  | aload i => exact mj_k_la (fun v rr hn hx hv K => by subst hn; exact mj_g_aload hd hx hv K) e
  | aload_n i => exact mj_k_la (fun v rr hn hx hv K => by subst hn; exact mj_g_aload_n hd hx hv K) e
  | istore i => exact mj_k_si (fun x r rr hn hx K => by subst hn; exact mj_g_istore hd hx K) e
  | istore_n i => exact mj_k_si (fun x r rr hn hx K => by subst hn; exact mj_g_istore_n hd hx K) e
  | astore i => exact mj_k_sa (fun v r rr hn hx hv K => by subst hn; exact mj_g_astore hd hx hv K) e
  | astore_n i => exact mj_k_sa (fun v r rr hn hx hv K => by subst hn; exact mj_g_astore_n hd hx hv K) e
  | iinc i k => exact mj_k_inc (fun hn => by subst hn; exact hd) e
  | iadd => exact mj_k_bi (fun x y r rr hn _ K => by subst hn; exact mj_g_iadd hd K) e
  | isub => exact mj_k_bi (fun x y r rr hn _ K => by subst hn; exact mj_g_isub hd K) e
  | imul => exact mj_k_bi (fun x y r rr hn _ K => by subst hn; exact mj_g_imul hd K) e
  | iand => exact mj_k_bi (fun x y r rr hn _ K => by subst hn; exact mj_g_iand hd K) e
  | ior => exact mj_k_bi (fun x y r rr hn _ K => by subst hn; exact mj_g_ior hd K) e
  | ixor => exact mj_k_bi (fun x y r rr hn _ K => by subst hn; exact mj_g_ixor hd K) e
  | ishl => exact mj_k_bi (fun x y r rr hn _ K => by subst hn; exact mj_g_ishl hd K) e
  | ishr => exact mj_k_bi (fun x y r rr hn _ K => by subst hn; exact mj_g_ishr hd K) e
  | iushr => exact mj_k_bi (fun x y r rr hn _ K => by subst hn; exact mj_g_iushr hd K) e
  | idiv => exact mj_k_bi (fun x y r rr hn hy K => by subst hn; exact mj_g_idiv hd (by simpa using hy) K) e
  | irem => exact mj_k_bi (fun x y r rr hn hy K => by subst hn; exact mj_g_irem hd (by simpa using hy) K) e
  | ineg => exact mj_k_un (fun x r rr hn K => by subst hn; exact mj_g_ineg hd K) e
  | i2c => exact mj_k_un (fun x r rr hn K => by subst hn; exact mj_g_i2c hd K) e
  | i2b => exact mj_k_un (fun x r rr hn K => by subst hn; exact mj_g_i2b hd K) e
  | goto off => 
    replace e : (if n = 3 ∧ mj_ok pc off = true then _ else none) = some o := e
    split at e
    · next hn =>
      obtain ⟨hn, ho⟩ := hn
      subst hn
      exact mj_k_n0 (fun rr K => mj_g_goto hd ho K) e
    · cases e
  | ifCond cnd off =>
    cases cnd with
    | eq => exact mj_k_i1 (fun x r rr hn ho kt kf => by subst hn; exact mj_g_if_eq hd ho (fun z => kt (decide_eq_true z)) (fun z => kf (decide_eq_false z))) e
    | ne => exact mj_k_i1 (fun x r rr hn ho kt kf => by subst hn; exact mj_g_if_ne hd ho (fun z => kt (decide_eq_true z)) (fun z => kf (decide_eq_false z))) e
    | lt => exact mj_k_i1 (fun x r rr hn ho kt kf => by subst hn; exact mj_g_if_lt hd ho (fun z => kt (decide_eq_true z)) (fun z => kf (decide_eq_false z))) e
    | ge => exact mj_k_i1 (fun x r rr hn ho kt kf => by subst hn; exact mj_g_if_ge hd ho (fun z => kt (decide_eq_true z)) (fun z => kf (decide_eq_false z))) e
    | gt => exact mj_k_i1 (fun x r rr hn ho kt kf => by subst hn; exact mj_g_if_gt hd ho (fun z => kt (decide_eq_true z)) (fun z => kf (decide_eq_false z))) e
    | le => exact mj_k_i1 (fun x r rr hn ho kt kf => by subst hn; exact mj_g_if_le hd ho (fun z => kt (decide_eq_true z)) (fun z => kf (decide_eq_false z))) e
  | if_icmp cnd off =>
    cases cnd with
    | eq => exact mj_k_i2 (fun x y r rr hn ho kt kf => by subst hn; exact mj_g_icmp_eq hd ho (fun z => kt (decide_eq_true z)) (fun z => kf (decide_eq_false z))) e
    | ne => exact mj_k_i2 (fun x y r rr hn ho kt kf => by subst hn; exact mj_g_icmp_ne hd ho (fun z => kt (decide_eq_true z)) (fun z => kf (decide_eq_false z))) e
    | lt => exact mj_k_i2 (fun x y r rr hn ho kt kf => by subst hn; exact mj_g_icmp_lt hd ho (fun z => kt (decide_eq_true z)) (fun z => kf (decide_eq_false z))) e
    | ge => exact mj_k_i2 (fun x y r rr hn ho kt kf => by subst hn; exact mj_g_icmp_ge hd ho (fun z => kt (decide_eq_true z)) (fun z => kf (decide_eq_false z))) e
    | gt => exact mj_k_i2 (fun x y r rr hn ho kt kf => by subst hn; exact mj_g_icmp_gt hd ho (fun z => kt (decide_eq_true z)) (fun z => kf (decide_eq_false z))) e
    | le => exact mj_k_i2 (fun x y r rr hn ho kt kf => by subst hn; exact mj_g_icmp_le hd ho (fun z => kt (decide_eq_true z)) (fun z => kf (decide_eq_false z))) e
  | ifnull off => exact mj_k_nul (fun r rr hn ho kt kf => by subst hn; exact mj_g_ifnull_n hd ho (kt rfl)) (fun a r rr hn ho kt kf => by subst hn; exact mj_g_ifnull_r hd (kf rfl)) e
  | ifnonnull off => exact mj_k_nul (fun r rr hn ho kt kf => by subst hn; exact mj_g_ifnonnull_n hd (kf rfl)) (fun a r rr hn ho kt kf => by subst hn; exact mj_g_ifnonnull_r hd ho (kt rfl)) e
  | dup => exact mj_k_d1 (fun hn => by subst hn; exact hd) e
  | dup2 => exact mj_k_d2 (fun hn => by subst hn; exact hd) e
  | pop => exact mj_k_p1 (fun hn => by subst hn; exact hd) e
  | getfield idx => exact mj_k_gf (fun hn => by subst hn; exact hd) e
  | putfield idx => exact mj_k_pf (fun hn => by subst hn; exact hd) e
  | getstatic idx => exact mj_k_gs (fun hn => by subst hn; exact hd) e
  | iaload => exact mj_k_ial (fun hn => by subst hn; exact hd) e
  | baload => exact mj_k_bal (fun hn => by subst hn; exact hd) e
  | aaload => exact mj_k_aal (fun hn => by subst hn; exact hd) e
  | aastore => exact mj_k_aas (fun hn => by subst hn; exact hd) e
  | arraylength => exact mj_k_len (fun hn => by subst hn; exact hd) e
  | new idx => exact mj_k_new (fun hn => by subst hn; exact hd) e
  | anewarray idx => exact mj_k_anew (fun hn => by subst hn; exact hd) e
  | invokestatic idx => exact mj_k_ivs (fun hn => by subst hn; exact hd) e
  | invokespecial idx => exact mj_k_ivp (fun hn => by subst hn; exact hd) e
  | invokevirtual idx => exact mj_k_ivv (fun hn => by subst hn; exact hd) e
  | return_ => exact mj_k_vr (fun hn => by subst hn; exact hd) e
  | ireturn => exact mj_k_ir (fun hn => by subst hn; exact hd) e
  | areturn => exact mj_k_ar (fun hn => by subst hn; exact hd) e
  | caload => exact mj_k_ald (fun i a r rr hn hk K => by subst hn; exact mj_g_cald hd hk K) e
  | iastore => exact mj_k_ast (fun x i a r rr hn hk K => by subst hn; exact mj_g_iast hd hk K) e
  | bastore => exact mj_k_ast (fun x i a r rr hn hk K => by subst hn; exact mj_g_zast hd hk K) e
  | castore => exact mj_k_ast (fun x i a r rr hn hk K => by subst hn; exact mj_g_cast hd hk K) e
  | newarray t =>
    cases t with
    | int => exact mj_k_na (fun x r rr hn q1 q2 q3 q4 K => by subst hn; exact mj_g_na_int hd q1 q2 q3 q4 K) e
    | boolean => exact mj_k_na (fun x r rr hn q1 q2 q3 q4 K => by subst hn; exact mj_g_na_boolean hd q1 q2 q3 q4 K) e
    | char => exact mj_k_na (fun x r rr hn q1 q2 q3 q4 K => by subst hn; exact mj_g_na_char hd q1 q2 q3 q4 K) e
    | _ => cases e
  | tableswitch dflt lo hi offs => exact mj_k_tsw hd e
  | lookupswitch dflt ps => exact mj_k_lsw hd e
  | _ => cases e
theorem mj_ft_ok {mi pc : Nat} {x : ClassFile.Instr × Nat} (e : mj_ft mi pc = some x) : decode (mt_b mi) pc = .ok x := by
  unfold mj_ft at e
  split at e
  · next hx =>
    cases e
    exact hx
  · cases e
theorem mj_sound (g : mj_G) (l : Launch) : ∀ (n d mi pc : Nat) (ls : List (Option Value)) (st : List Value) (h : MH) (r : Option Value × MH), mj_run g.2.2.2.2.1 g.2.2.2.2.2 n d mi pc ls st h = some r → (mj_z h ≤ mj_z r.2 ∧ mj_u h ≤ mj_u r.2) ∧ mj_Sim g l d mi pc ls st h r
  | 0, _, _, _, _, _, _, _, e => by cases e
  | n + 1, d, mi, pc, ls, st, h, r, e => by
    rw [mj_run] at e
    split at e
    · cases e
    · next i len hft =>
      have hd := mj_ft_ok hft
      split at e
      · cases e
      · next f hex =>
        have hok : mj_OK g l d mi pc ls st h (.inl f) := mj_ex_ok hd hex
        obtain ⟨h1, h2⟩ := mj_sound g l n d mi f.1 f.2.1 f.2.2.1 f.2.2.2 r e
        exact ⟨⟨Nat.le_trans hok.1.1 h1.1, Nat.le_trans hok.1.2 h1.2⟩, hok.2 r h1.1 h1.2 h2⟩
      · next v hex =>
        have hok : mj_OK g l d mi pc ls st h (.inr (.inr v)) := mj_ex_ok hd hex
        cases e
        exact ⟨⟨Nat.le_refl _, Nat.le_refl _⟩, hok⟩
      · next q hex =>
        have hok : mj_OK g l d mi pc ls st h (.inr (.inl q)) := mj_ex_ok hd hex
        split at e
        · cases e
        · next d' =>
          split at e
          · cases e
          · next r1 hr1 =>
            obtain ⟨h1, h2⟩ := mj_sound g l n d' q.1 0 (mj_ent q.1 q.2.1) [] h r1 hr1
            obtain ⟨h3, h4⟩ := mj_sound g l n (d' + 1) mi q.2.2.1 ls (r1.1.toList ++ q.2.2.2) r1.2 r e
            exact ⟨⟨Nat.le_trans h1.1 h3.1, Nat.le_trans h1.2 h3.2⟩, hok d' r1 r rfl h2 h1.1 h1.2 h3.1 h3.2 h4⟩
end Main2
