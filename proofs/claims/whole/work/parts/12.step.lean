set_option maxHeartbeats 4000000 in
/-- A STEP OF THE SMALL MACHINE IS A STEP OF THE MACHINE -/
theorem m_step_ok {E : mE} {cc : ByteArray} {own : String} {Ts NW : List Jvm.Cond} {rm : Room} {T : mT} {Rt : mO → mW → Prop} (C : m_Cx E cc own Ts NW rm) (hT : m_TOk E cc own T Rt) {pc len t : Nat} {i : Instr} {h : Int32} {tb : List (Int32 × Nat)}
    (hd : decode cc pc = .ok (i, len)) (hl : m_len i len = true) (hh : m_hok pc i h t tb = true) {lo : mL} {st : List mV} {w : mW} {kn : mL → List mV → mW → Prop} {kb : Nat → mL → List mV → mW → Prop}
    (hs : m_step T Rt pc i h t tb lo st w kn kb) (hn : ∀ lo st w, kn lo st w → m_W E (pc + len) lo st w) (hk : ∀ t lo st w, kb t lo st w → m_W E t lo st w) : m_W E pc lo st w := by
  obtain ⟨hT0, hT1, hT2, hT3, hT4, hT5, hT6, hT7⟩ := hT
  have C0 := C
  obtain ⟨p, l, e, R, s, m, args, below, meth, c, cells, slots, Q, D, A, cI, cZ, ad, nL, N⟩ := E
  obtain ⟨hx, hb, hml, hown, hK, hD, hA, hts, hnw, hR, hc0, hs0⟩ := C
  cases i with
  | iconst n =>
    have hle := Nat.eq_of_beq_eq_true (show Nat.beq len 1 = true from hl)
    subst hle
    intro ls H locs hlh hN hP hS
    exact lv_iconst hx hb hd (of_decide_eq_true hh) (hn _ _ _ hs ls H locs hlh hN hP hS)
  | bipush n =>
    have hle := Nat.eq_of_beq_eq_true (show Nat.beq len 2 = true from hl)
    subst hle
    intro ls H locs hlh hN hP hS
    exact lv_bipush hx hb hd (of_decide_eq_true hh) (hn _ _ _ hs ls H locs hlh hN hP hS)
  | sipush n =>
    have hle := Nat.eq_of_beq_eq_true (show Nat.beq len 3 = true from hl)
    subst hle
    intro ls H locs hlh hN hP hS
    exact lv_sipush hx hb hd (of_decide_eq_true hh) (hn _ _ _ hs ls H locs hlh hN hP hS)
  | ldc j =>
    have hle := Nat.eq_of_beq_eq_true (show Nat.beq len 2 = true from hl)
    subst hle
    obtain ⟨v, hv, hs1⟩ := m_cs_ok hs
    intro ls H locs hlh hN hP hS
    exact lv_ldc hx hb hown (hT3 _ hv) hd (hn _ _ _ hs1 ls H locs hlh hN hP hS)
  | iload_n j =>
    have hle := Nat.eq_of_beq_eq_true (show Nat.beq len 1 = true from hl)
    subst hle
    obtain ⟨v, hv, hs1⟩ := m_nth_ok hs
    obtain ⟨x, rfl, hs2⟩ := m_isI_ok hs1
    intro ls H locs hlh hN hP hS
    exact lv_iload_n hx hb hd rfl (m_lh_get hlh hv) (hn _ _ _ hs2 ls H locs hlh hN hP hS)
  | iload j =>
    have hle := Nat.eq_of_beq_eq_true (show Nat.beq len 2 = true from hl)
    subst hle
    obtain ⟨v, hv, hs1⟩ := m_nth_ok hs
    obtain ⟨x, rfl, hs2⟩ := m_isI_ok hs1
    intro ls H locs hlh hN hP hS
    exact lv_iload hx hb hd (m_lh_get hlh hv) (hn _ _ _ hs2 ls H locs hlh hN hP hS)
  | aload_n j =>
    have hle := Nat.eq_of_beq_eq_true (show Nat.beq len 1 = true from hl)
    subst hle
    obtain ⟨v, hv, hs1⟩ := m_nth_ok hs
    obtain ⟨x, rfl, hs2⟩ := m_isR_ok hs1
    intro ls H locs hlh hN hP hS
    exact lv_aload_n hx hb hd rfl (m_lh_get hlh hv) (hn _ _ _ hs2 ls H locs hlh hN hP hS)
  | aload j =>
    have hle := Nat.eq_of_beq_eq_true (show Nat.beq len 2 = true from hl)
    subst hle
    obtain ⟨v, hv, hs1⟩ := m_nth_ok hs
    obtain ⟨x, rfl, hs2⟩ := m_isR_ok hs1
    intro ls H locs hlh hN hP hS
    exact lv_aload hx hb hd (m_lh_get hlh hv) (hn _ _ _ hs2 ls H locs hlh hN hP hS)
  | istore_n j =>
    have hle := Nat.eq_of_beq_eq_true (show Nat.beq len 1 = true from hl)
    subst hle
    obtain ⟨x, r, rfl, hs1⟩ := m_pI_ok hs
    obtain ⟨hi, hs2⟩ := m_upd_ok hs1
    intro ls H locs hlh hN hP hS
    exact lv_istore_n hx hb hd rfl hlh.2 (by rw [← hlh.1]; exact hi) rfl (fun ls' h' => hn _ _ _ hs2 ls' H locs (m_lh_set hlh h') hN hP hS)
  | istore j =>
    have hle := Nat.eq_of_beq_eq_true (show Nat.beq len 2 = true from hl)
    subst hle
    obtain ⟨x, r, rfl, hs1⟩ := m_pI_ok hs
    obtain ⟨hi, hs2⟩ := m_upd_ok hs1
    intro ls H locs hlh hN hP hS
    exact lv_istore hx hb hd hlh.2 (by rw [← hlh.1]; exact hi) rfl (fun ls' h' => hn _ _ _ hs2 ls' H locs (m_lh_set hlh h') hN hP hS)
  | astore_n j =>
    have hle := Nat.eq_of_beq_eq_true (show Nat.beq len 1 = true from hl)
    subst hle
    obtain ⟨x, r, rfl, hs1⟩ := m_pR_ok hs
    obtain ⟨hi, hs2⟩ := m_upd_ok hs1
    intro ls H locs hlh hN hP hS
    exact lv_astore_n hx hb hd rfl hlh.2 (by rw [← hlh.1]; exact hi) rfl (fun ls' h' => hn _ _ _ hs2 ls' H locs (m_lh_set hlh h') hN hP hS)
  | astore j =>
    have hle := Nat.eq_of_beq_eq_true (show Nat.beq len 2 = true from hl)
    subst hle
    obtain ⟨x, r, rfl, hs1⟩ := m_pR_ok hs
    obtain ⟨hi, hs2⟩ := m_upd_ok hs1
    intro ls H locs hlh hN hP hS
    exact lv_astore hx hb hd hlh.2 (by rw [← hlh.1]; exact hi) rfl (fun ls' h' => hn _ _ _ hs2 ls' H locs (m_lh_set hlh h') hN hP hS)
  | iinc j n =>
    have hle := Nat.eq_of_beq_eq_true (show Nat.beq len 3 = true from hl)
    subst hle
    obtain ⟨v, hv, hs1⟩ := m_nth_ok hs
    obtain ⟨x, rfl, hs2⟩ := m_isI_ok hs1
    obtain ⟨hi, hs3⟩ := m_upd_ok hs2
    exact m_W.iinc C0 hd (of_decide_eq_true hh) hv (hn _ _ _ hs3)
  | iadd =>
    have hle := Nat.eq_of_beq_eq_true (show Nat.beq len 1 = true from hl)
    subst hle
    obtain ⟨x, y, r, rfl, hs1⟩ := m_pII_ok hs
    intro ls H locs hlh hN hP hS
    exact lv_iadd hx hb hd (hn _ _ _ hs1 ls H locs hlh hN hP hS)
  | isub =>
    have hle := Nat.eq_of_beq_eq_true (show Nat.beq len 1 = true from hl)
    subst hle
    obtain ⟨x, y, r, rfl, hs1⟩ := m_pII_ok hs
    intro ls H locs hlh hN hP hS
    exact lv_isub hx hb hd (hn _ _ _ hs1 ls H locs hlh hN hP hS)
  | imul =>
    have hle := Nat.eq_of_beq_eq_true (show Nat.beq len 1 = true from hl)
    subst hle
    obtain ⟨x, y, r, rfl, hs1⟩ := m_pII_ok hs
    intro ls H locs hlh hN hP hS
    exact lv_imul hx hb hd (hn _ _ _ hs1 ls H locs hlh hN hP hS)
  | iand =>
    have hle := Nat.eq_of_beq_eq_true (show Nat.beq len 1 = true from hl)
    subst hle
    obtain ⟨x, y, r, rfl, hs1⟩ := m_pII_ok hs
    intro ls H locs hlh hN hP hS
    exact lv_iand hx hb hd (hn _ _ _ hs1 ls H locs hlh hN hP hS)
  | ior =>
    have hle := Nat.eq_of_beq_eq_true (show Nat.beq len 1 = true from hl)
    subst hle
    obtain ⟨x, y, r, rfl, hs1⟩ := m_pII_ok hs
    intro ls H locs hlh hN hP hS
    exact lv_ior hx hb hd (hn _ _ _ hs1 ls H locs hlh hN hP hS)
  | ixor =>
    have hle := Nat.eq_of_beq_eq_true (show Nat.beq len 1 = true from hl)
    subst hle
    obtain ⟨x, y, r, rfl, hs1⟩ := m_pII_ok hs
    intro ls H locs hlh hN hP hS
    exact lv_ixor hx hb hd (hn _ _ _ hs1 ls H locs hlh hN hP hS)
  | ishl =>
    have hle := Nat.eq_of_beq_eq_true (show Nat.beq len 1 = true from hl)
    subst hle
    obtain ⟨x, y, r, rfl, hs1⟩ := m_pII_ok hs
    intro ls H locs hlh hN hP hS
    exact lv_ishl hx hb hd (hn _ _ _ hs1 ls H locs hlh hN hP hS)
  | ishr =>
    have hle := Nat.eq_of_beq_eq_true (show Nat.beq len 1 = true from hl)
    subst hle
    obtain ⟨x, y, r, rfl, hs1⟩ := m_pII_ok hs
    intro ls H locs hlh hN hP hS
    exact lv_ishr hx hb hd (hn _ _ _ hs1 ls H locs hlh hN hP hS)
  | idiv =>
    have hle := Nat.eq_of_beq_eq_true (show Nat.beq len 1 = true from hl)
    subst hle
    obtain ⟨x, y, r, rfl, hne, hs1⟩ := m_pII_ok hs
    intro ls H locs hlh hN hP hS
    exact lv_idiv hx hb hd hne (hn _ _ _ hs1 ls H locs hlh hN hP hS)
  | irem =>
    have hle := Nat.eq_of_beq_eq_true (show Nat.beq len 1 = true from hl)
    subst hle
    obtain ⟨x, y, r, rfl, hne, hs1⟩ := m_pII_ok hs
    intro ls H locs hlh hN hP hS
    exact lv_irem hx hb hd hne (hn _ _ _ hs1 ls H locs hlh hN hP hS)
  | ifCond cn off =>
    have hle := Nat.eq_of_beq_eq_true (show Nat.beq len 3 = true from hl)
    subst hle
    have ht := of_decide_eq_true hh
    cases cn
    case eq =>
      obtain ⟨x, r, rfl, hs1⟩ := m_pI_ok hs
      intro ls H locs hlh hN hP hS
      exact lv_if_eq hx hb hd ht (fun q => hk _ _ _ _ (hs1.1 q) ls H locs hlh hN hP hS) (fun q => hn _ _ _ (hs1.2 q) ls H locs hlh hN hP hS)
    case ne =>
      obtain ⟨x, r, rfl, hs1⟩ := m_pI_ok hs
      intro ls H locs hlh hN hP hS
      exact lv_if_ne hx hb hd ht (fun q => hk _ _ _ _ (hs1.1 q) ls H locs hlh hN hP hS) (fun q => hn _ _ _ (hs1.2 q) ls H locs hlh hN hP hS)
    case lt =>
      obtain ⟨x, r, rfl, hs1⟩ := m_pI_ok hs
      intro ls H locs hlh hN hP hS
      exact lv_if_lt hx hb hd ht (fun q => hk _ _ _ _ (hs1.1 q) ls H locs hlh hN hP hS) (fun q => hn _ _ _ (hs1.2 q) ls H locs hlh hN hP hS)
    case ge =>
      obtain ⟨x, r, rfl, hs1⟩ := m_pI_ok hs
      intro ls H locs hlh hN hP hS
      exact lv_if_ge hx hb hd ht (fun q => hk _ _ _ _ (hs1.1 q) ls H locs hlh hN hP hS) (fun q => hn _ _ _ (hs1.2 q) ls H locs hlh hN hP hS)
    case gt =>
      obtain ⟨x, r, rfl, hs1⟩ := m_pI_ok hs
      intro ls H locs hlh hN hP hS
      exact lv_if_gt hx hb hd ht (fun q => hk _ _ _ _ (hs1.1 q) ls H locs hlh hN hP hS) (fun q => hn _ _ _ (hs1.2 q) ls H locs hlh hN hP hS)
    case le =>
      obtain ⟨x, r, rfl, hs1⟩ := m_pI_ok hs
      intro ls H locs hlh hN hP hS
      exact lv_if_le hx hb hd ht (fun q => hk _ _ _ _ (hs1.1 q) ls H locs hlh hN hP hS) (fun q => hn _ _ _ (hs1.2 q) ls H locs hlh hN hP hS)
  | if_icmp cn off =>
    have hle := Nat.eq_of_beq_eq_true (show Nat.beq len 3 = true from hl)
    subst hle
    have ht := of_decide_eq_true hh
    cases cn
    case eq =>
      obtain ⟨x, y, r, rfl, hs1⟩ := m_pII_ok hs
      intro ls H locs hlh hN hP hS
      exact lv_icmp_eq hx hb hd ht (fun q => hk _ _ _ _ (hs1.1 q) ls H locs hlh hN hP hS) (fun q => hn _ _ _ (hs1.2 q) ls H locs hlh hN hP hS)
    case ne =>
      obtain ⟨x, y, r, rfl, hs1⟩ := m_pII_ok hs
      intro ls H locs hlh hN hP hS
      exact lv_icmp_ne hx hb hd ht (fun q => hk _ _ _ _ (hs1.1 q) ls H locs hlh hN hP hS) (fun q => hn _ _ _ (hs1.2 q) ls H locs hlh hN hP hS)
    case lt =>
      obtain ⟨x, y, r, rfl, hs1⟩ := m_pII_ok hs
      intro ls H locs hlh hN hP hS
      exact lv_icmp_lt hx hb hd ht (fun q => hk _ _ _ _ (hs1.1 q) ls H locs hlh hN hP hS) (fun q => hn _ _ _ (hs1.2 q) ls H locs hlh hN hP hS)
    case ge =>
      obtain ⟨x, y, r, rfl, hs1⟩ := m_pII_ok hs
      intro ls H locs hlh hN hP hS
      exact lv_icmp_ge hx hb hd ht (fun q => hk _ _ _ _ (hs1.1 q) ls H locs hlh hN hP hS) (fun q => hn _ _ _ (hs1.2 q) ls H locs hlh hN hP hS)
    case gt =>
      obtain ⟨x, y, r, rfl, hs1⟩ := m_pII_ok hs
      intro ls H locs hlh hN hP hS
      exact lv_icmp_gt hx hb hd ht (fun q => hk _ _ _ _ (hs1.1 q) ls H locs hlh hN hP hS) (fun q => hn _ _ _ (hs1.2 q) ls H locs hlh hN hP hS)
    case le =>
      obtain ⟨x, y, r, rfl, hs1⟩ := m_pII_ok hs
      intro ls H locs hlh hN hP hS
      exact lv_icmp_le hx hb hd ht (fun q => hk _ _ _ _ (hs1.1 q) ls H locs hlh hN hP hS) (fun q => hn _ _ _ (hs1.2 q) ls H locs hlh hN hP hS)
  | goto off =>
    have hle := Nat.eq_of_beq_eq_true (show Nat.beq len 3 = true from hl)
    subst hle
    intro ls H locs hlh hN hP hS
    exact lv_goto hx hb hd (of_decide_eq_true hh) (hk _ _ _ _ hs ls H locs hlh hN hP hS)
  | dup =>
    have hle := Nat.eq_of_beq_eq_true (show Nat.beq len 1 = true from hl)
    subst hle
    obtain ⟨v, r, rfl, hs1⟩ := m_p1_ok hs
    intro ls H locs hlh hN hP hS
    exact lv_dup hx hb hd (m_v_cat ad v) (hn _ _ _ hs1 ls H locs hlh hN hP hS)
  | pop =>
    have hle := Nat.eq_of_beq_eq_true (show Nat.beq len 1 = true from hl)
    subst hle
    obtain ⟨v, r, rfl, hs1⟩ := m_p1_ok hs
    intro ls H locs hlh hN hP hS
    exact lv_pop hx hb hd (m_v_cat ad v) (hn _ _ _ hs1 ls H locs hlh hN hP hS)
  | dup_x1 =>
    have hle := Nat.eq_of_beq_eq_true (show Nat.beq len 1 = true from hl)
    subst hle
    obtain ⟨v, r, rfl, hs1⟩ := m_p1_ok hs
    obtain ⟨u, r, rfl, hs2⟩ := m_p1_ok hs1
    intro ls H locs hlh hN hP hS
    exact lv_dup_x1 hx hb hd (m_v_cat ad v) (m_v_cat ad u) (hn _ _ _ hs2 ls H locs hlh hN hP hS)
  | dup_x2 =>
    have hle := Nat.eq_of_beq_eq_true (show Nat.beq len 1 = true from hl)
    subst hle
    obtain ⟨v, r, rfl, hs1⟩ := m_p1_ok hs
    obtain ⟨u, r, rfl, hs2⟩ := m_p1_ok hs1
    obtain ⟨z, r, rfl, hs3⟩ := m_p1_ok hs2
    intro ls H locs hlh hN hP hS
    exact lv_dup_x2 hx hb hd (m_v_cat ad v) (m_v_cat ad u) (m_v_cat ad z) (hn _ _ _ hs3 ls H locs hlh hN hP hS)
  | dup2 =>
    have hle := Nat.eq_of_beq_eq_true (show Nat.beq len 1 = true from hl)
    subst hle
    obtain ⟨v, r, rfl, hs1⟩ := m_p1_ok hs
    obtain ⟨u, r, rfl, hs2⟩ := m_p1_ok hs1
    intro ls H locs hlh hN hP hS
    exact lv_dup2_11 hx hb hd (m_v_cat ad v) (m_v_cat ad u) (hn _ _ _ hs2 ls H locs hlh hN hP hS)
  | getfield j =>
    have hle := Nat.eq_of_beq_eq_true (show Nat.beq len 3 = true from hl)
    subst hle
    obtain ⟨a, r, rfl, hs1⟩ := m_pR_ok hs
    obtain ⟨ci, q, hq, hs2⟩ := m_fl_ok hs1
    obtain ⟨cel, hc, hs3⟩ := m_nth_ok hs2
    obtain ⟨fs, rfl, hs4⟩ := m_ob_ok hs3
    obtain ⟨v, hv, hs5⟩ := m_nth_ok hs4
    exact m_W.get (hT1 _ hq) hd hc hv (hn _ _ _ hs5)
  | putfield j =>
    have hle := Nat.eq_of_beq_eq_true (show Nat.beq len 3 = true from hl)
    subst hle
    obtain ⟨hb0, hs1⟩ := m_mut_ok hs
    obtain ⟨x, r, rfl, hs2⟩ := m_pI_ok hs1
    obtain ⟨a, r, rfl, hs3⟩ := m_pR_ok hs2
    obtain ⟨ci, q, hq, hs4⟩ := m_fl_ok hs3
    obtain ⟨cel, hc, hs5⟩ := m_nth_ok hs4
    obtain ⟨fs, rfl, hs6⟩ := m_ob_ok hs5
    obtain ⟨hv, hs7⟩ := m_upd_ok hs6
    obtain ⟨hv2, hs8⟩ := m_upd_ok hs7
    exact m_W.put C0 (hT0 hb0) (hT2 _ hq) hd hc hv (hn _ _ _ hs8)
  | iaload =>
    have hle := Nat.eq_of_beq_eq_true (show Nat.beq len 1 = true from hl)
    subst hle
    obtain ⟨x, r, rfl, hs1⟩ := m_pI_ok hs
    obtain ⟨a, r, rfl, hs2⟩ := m_pR_ok hs1
    obtain ⟨cel, hc, hs3⟩ := m_nth_ok hs2
    obtain ⟨n, f, rfl, hn31, j, rfl, hj, hs4⟩ := m_ar_ok hs3
    exact m_W.iald C0 hd hc hn31 hj (hn _ _ _ hs4)
  | baload =>
    have hle := Nat.eq_of_beq_eq_true (show Nat.beq len 1 = true from hl)
    subst hle
    obtain ⟨x, r, rfl, hs1⟩ := m_pI_ok hs
    obtain ⟨a, r, rfl, hs2⟩ := m_pR_ok hs1
    obtain ⟨cel, hc, hs3⟩ := m_nth_ok hs2
    obtain ⟨n, f, rfl, hn31, j, rfl, hj, hs4⟩ := m_ar_ok hs3
    exact m_W.zald C0 hd hc hn31 hj (hn _ _ _ hs4)
  | iastore =>
    have hle := Nat.eq_of_beq_eq_true (show Nat.beq len 1 = true from hl)
    subst hle
    obtain ⟨hb0, hs1⟩ := m_mut_ok hs
    obtain ⟨x, r, rfl, hs2⟩ := m_pI_ok hs1
    obtain ⟨y, r, rfl, hs3⟩ := m_pI_ok hs2
    obtain ⟨a, r, rfl, hs4⟩ := m_pR_ok hs3
    obtain ⟨cel, hc, hs5⟩ := m_nth_ok hs4
    obtain ⟨n, f, rfl, hn31, j, rfl, hj, hs6⟩ := m_ar_ok hs5
    obtain ⟨hv, hs7⟩ := m_upd_ok hs6
    exact m_W.iast C0 (hT0 hb0) hd hc hn31 hj (hn _ _ _ hs7)
  | bastore =>
    have hle := Nat.eq_of_beq_eq_true (show Nat.beq len 1 = true from hl)
    subst hle
    obtain ⟨hb0, hs1⟩ := m_mut_ok hs
    obtain ⟨x, r, rfl, hs2⟩ := m_pI_ok hs1
    obtain ⟨y, r, rfl, hs3⟩ := m_pI_ok hs2
    obtain ⟨a, r, rfl, hs4⟩ := m_pR_ok hs3
    obtain ⟨cel, hc, hs5⟩ := m_nth_ok hs4
    obtain ⟨n, f, rfl, hn31, j, rfl, hj, hs6⟩ := m_ar_ok hs5
    obtain ⟨hv, hs7⟩ := m_upd_ok hs6
    exact m_W.zast C0 (hT0 hb0) hd hc hn31 hj (hn _ _ _ hs7)
  | arraylength =>
    have hle := Nat.eq_of_beq_eq_true (show Nat.beq len 1 = true from hl)
    subst hle
    obtain ⟨a, r, rfl, hs1⟩ := m_pR_ok hs
    obtain ⟨cel, hc, hs2⟩ := m_nth_ok hs1
    obtain ⟨z, n, f, rfl, hs3⟩ := m_arl_ok hs2
    exact m_W.alen C0 hd hc (hn _ _ _ hs3)
  | tableswitch dd lw hi offs =>
    obtain ⟨x, r, rfl, hs1⟩ := m_pI_ok hs
    rcases m_sw_ok hs1 with ⟨j, v, t', h1, h2, h3⟩ | ⟨h1, h2⟩
    · intro ls H locs hlh hN hP hS
      obtain ⟨a1, a2, a3⟩ := m_swT hh h1 h2
      exact lv_tableIn hx hb hd a1 a2 a3 (tgt := t') (by omega) (hk _ _ _ _ h3 ls H locs hlh hN hP hS)
    · intro ls H locs hlh hN hP hS
      have a1 := m_swF hh h1
      have a2 : (pc : Int) + dd = (t : Int) := by
        simp only [m_hok, Bool.and_eq_true, decide_eq_true_eq] at hh
        exact hh.1.1
      exact lv_tableOut hx hb hd a1 a2 (hk _ _ _ _ h2 ls H locs hlh hN hP hS)
  | invokevirtual j =>
    have hle := Nat.eq_of_beq_eq_true (show Nat.beq len 3 = true from hl)
    subst hle
    obtain ⟨n, ct, hm, hs1⟩ := m_ca_ok hs
    obtain ⟨as, r, hlen, rfl, hs2⟩ := m_pop_ok hs1
    obtain ⟨h8, _, hs3⟩ := m_le8_ok hs2
    rw [List.append_nil] at hs3
    exact hT4 _ hm pc lo as r w _ hd hlen h8 hs3 (fun r' w' q => hn _ _ _ q)
  | invokestatic j =>
    have hle := Nat.eq_of_beq_eq_true (show Nat.beq len 3 = true from hl)
    subst hle
    obtain ⟨n, ct, hm, hs1⟩ := m_ca_ok hs
    obtain ⟨as, r, hlen, rfl, hs2⟩ := m_pop_ok hs1
    obtain ⟨h8, _, hs3⟩ := m_le8_ok hs2
    rw [List.append_nil] at hs3
    exact hT4 _ hm pc lo as r w _ hd hlen h8 hs3 (fun r' w' q => hn _ _ _ q)
  | invokespecial j =>
    have hle := Nat.eq_of_beq_eq_true (show Nat.beq len 3 = true from hl)
    subst hle
    obtain ⟨n, ct, hm, hs1⟩ := m_ca_ok hs
    obtain ⟨as, r, hlen, rfl, hs2⟩ := m_pop_ok hs1
    obtain ⟨h8, _, hs3⟩ := m_le8_ok hs2
    rw [List.append_nil] at hs3
    exact hT4 _ hm pc lo as r w _ hd hlen h8 hs3 (fun r' w' q => hn _ _ _ q)
  | ireturn =>
    have hle := Nat.eq_of_beq_eq_true (show Nat.beq len 1 = true from hl)
    subst hle
    obtain ⟨x, r, rfl, hs1⟩ := m_pI_ok hs
    cases r with
    | nil => exact hT6 pc lo x w hd hs
    | cons _ _ => exact False.elim hs
  | return_ =>
    have hle := Nat.eq_of_beq_eq_true (show Nat.beq len 1 = true from hl)
    subst hle
    cases st with
    | nil => exact hT7 pc lo w hd hs
    | cons _ _ => exact False.elim hs
  | new j =>
    cases st with
    | nil =>
      obtain ⟨kd, hm, hs1⟩ := m_th_ok hs
      exact hT5 _ hm lo w hs1
    | cons _ _ => exact False.elim hs
  | _ => exact False.elim hs
/-- the rows of a method as they stand in its code, each behind the other -/
def m_wf (cc : ByteArray) : List mI → Bool
  | [] => true
  | (pc, i, len, nx, h, t, tb) :: r => decide (decode cc pc = .ok (i, len)) && (Nat.beq nx (pc + len) && (m_len i len && (m_hok pc i h t tb && ((match r with
    | [] => true
    | q :: _ => Nat.beq q.1 nx) && m_wf cc r))))
def m_at (sp : List Nat) (n : Nat) : Bool := sp.any (fun q => Nat.beq q n)
def m_find : List mI → Nat → (List mI → Prop) → Prop
  | [], _, _ => False
  | q :: r, t, k => match Nat.beq q.1 t with
    | true => k (q :: r)
    | false => m_find r t k
/-- a stretch of a method: from its first row on, up to a place in sp, or to the end -/
def m_run (T : mT) (Rt : mO → mW → Prop) (P : List mI) (sp : List Nat) (K : Nat → mL → List mV → mW → Prop) : Nat → List mI → mL → List mV → mW → Prop
  | 0, [], _, _, _ => False
  | 0, q :: _, lo, st, w => K q.1 lo st w
  | _ + 1, [], _, _, _ => False
  | n + 1, (pc, i, _, nx, h, t, tb) :: r, lo, st, w => m_step T Rt pc i h t tb lo st w
      (fun lo st w => match m_at sp nx with
        | true => K nx lo st w
        | false => m_run T Rt P sp K n r lo st w)
      (fun t lo st w => match m_at sp t with
        | true => K t lo st w
        | false => m_find P t (fun r => m_run T Rt P sp K n r lo st w))
theorem m_wf_cons {cc : ByteArray} {pc len nx t : Nat} {i : Instr} {h : Int32} {tb : List (Int32 × Nat)} {r : List mI} (hw : m_wf cc ((pc, i, len, nx, h, t, tb) :: r) = true) :
    decode cc pc = .ok (i, len) ∧ nx = pc + len ∧ m_len i len = true ∧ m_hok pc i h t tb = true ∧ (∀ q r', r = q :: r' → q.1 = nx) ∧ m_wf cc r = true := by
  unfold m_wf at hw
  simp only [Bool.and_eq_true, decide_eq_true_eq] at hw
  obtain ⟨h1, h2, h3, h4, h5, h6⟩ := hw
  refine ⟨h1, Nat.eq_of_beq_eq_true h2, h3, h4, fun q r' e => ?_, h6⟩
  subst e
  exact Nat.eq_of_beq_eq_true h5
theorem m_find_ok {cc : ByteArray} : ∀ {P : List mI} {t : Nat} {k : List mI → Prop}, m_wf cc P = true → m_find P t k → ∃ q r, q.1 = t ∧ m_wf cc (q :: r) = true ∧ k (q :: r)
  | [], _, _, _, h => False.elim h
  | q :: r, t, k, hw, h => by
    simp only [m_find] at h
    split at h
    · rename_i hb
      exact ⟨q, r, Nat.eq_of_beq_eq_true hb, hw, h⟩
    · obtain ⟨pc, i, len, nx, h', t', tb⟩ := q
      exact m_find_ok (m_wf_cons hw).2.2.2.2.2 h
theorem m_run_ok {E : mE} {cc : ByteArray} {own : String} {Ts NW : List Jvm.Cond} {rm : Room} {T : mT} {Rt : mO → mW → Prop} (C : m_Cx E cc own Ts NW rm) (hT : m_TOk E cc own T Rt) {P : List mI} (hP : m_wf cc P = true) {sp : List Nat} {K : Nat → mL → List mV → mW → Prop} (hK : ∀ pc lo st w, K pc lo st w → m_W E pc lo st w) :
    ∀ (n : Nat) (q : mI) (r : List mI) (lo : mL) (st : List mV) (w : mW), m_wf cc (q :: r) = true → m_run T Rt P sp K n (q :: r) lo st w → m_W E q.1 lo st w := by
  intro n
  induction n with
  | zero => intro q r lo st w _ h; exact hK _ _ _ _ h
  | succ n ih =>
    intro q r lo st w hw h
    obtain ⟨pc, i, len, nx, hh, t, tb⟩ := q
    obtain ⟨h1, h2, h3, h4, h5, h6⟩ := m_wf_cons hw
    subst h2
    refine m_step_ok C hT h1 h3 h4 h (fun lo st w hkn => ?_) (fun t lo st w hkb => ?_)
    · split at hkn
      · exact hK _ _ _ _ hkn
      · cases r with
        | nil => cases n <;> exact False.elim hkn
        | cons q r' =>
          have := h5 q r' rfl
          rw [← this]
          exact ih q r' lo st w h6 hkn
    · split at hkb
      · exact hK _ _ _ _ hkb
      · obtain ⟨q, r', e1, e2, e3⟩ := m_find_ok hP hkb
        rw [← e1]
        exact ih q r' lo st w e2 e3
/-- a loop: every round comes back to its head with less to do, or goes on elsewhere -/
theorem m_loop {E : mE} {hd : Nat} {I : Nat → mL → List mV → mW → Prop}
    (body : ∀ n lo st w, I n lo st w → (∀ n' lo' st' w', n' < n → I n' lo' st' w' → m_W E hd lo' st' w') → m_W E hd lo st w) : ∀ n lo st w, I n lo st w → m_W E hd lo st w := by
  intro n
  induction n using Nat.strongRecOn with
  | ind n ih => intro lo st w h; exact body n lo st w h (fun n' lo' st' w' hlt h' => ih n' hlt lo' st' w' h')
theorem m_walk {E : mE} {cc : ByteArray} {own : String} {Ts NW : List Jvm.Cond} {rm : Room} {T : mT} {Rt : mO → mW → Prop} (C : m_Cx E cc own Ts NW rm) (hT : m_TOk E cc own T Rt) {P : List mI} (hP : m_wf cc P = true) (sp : List Nat) (n : Nat) {pc : Nat} {lo : mL} {st : List mV} {w : mW}
    (h : m_find P pc (fun r => m_run T Rt P sp (m_W E) n r lo st w)) : m_W E pc lo st w := by
  obtain ⟨q, r, e1, e2, e3⟩ := m_find_ok hP h
  rw [← e1]
  exact m_run_ok C hT hP (fun _ _ _ _ h => h) n q r lo st w e2 e3
theorem m_ix {n j : Nat} {k : Nat → Prop} (hj : j < n) (h : k j) : ∃ i : Nat, nI j = nI i ∧ i < n ∧ k i := ⟨j, rfl, hj, h⟩
theorem m_ixe {n j : Nat} {x : Int32} {k : Nat → Prop} (e : x = nI j) (hj : j < n) (h : k j) : ∃ i : Nat, x = nI i ∧ i < n ∧ k i := ⟨j, e, hj, h⟩
