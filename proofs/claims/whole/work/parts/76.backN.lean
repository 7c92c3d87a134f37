/-! back, where nothing is kept. -/
def b_pre (D : va_G) (cI cZ cK : ClassId) (ad : Nat → Nat) (g : Nat → Option Nat) (k : Nat) (w : mW) (sz : Nat) : Array Value → State → Prop :=
  va_Pc [.ref (ad 11), .int (nI k)] (fun U => U.heap.size = sz ∧ va_P D m_cl (m_ws cI cZ ad w 0 ++ [(ad 12, z_kp cK g)]) U.heap ∧ va_K D m_cl (z_ty cI cZ ++ [(cK, .object R_St)]) U ∧ va_D (fun _ => True) (m_ws cI cZ ad w 0 ++ [(ad 12, z_kp cK g)]) ∧ ∀ x ∈ nw, va_Nw x U)
def p_Le_back1 : List mI := [(26, .aload_n 0, 1, 27, 0, 0, []), (27, .getfield 12, 3, 30, 0, 0, []), (30, .invokevirtual 152, 3, 33, 0, 0, []), (33, .goto 16, 3, 36, 0, 49, []), (36, .aload_n 0, 1, 37, 0, 0, []), (37, .getfield 12, 3, 40, 0, 0, []), (40, .aload_n 0, 1, 41, 0, 0, []), (41, .getfield 16, 3, 44, 0, 0, []), (44, .iload_n 1, 1, 45, 0, 0, []), (45, .aaload, 1, 46, 0, 0, []), (46, .invokevirtual 148, 3, 49, 0, 0, []), (49, .aload_n 0, 1, 50, 0, 0, []), (50, .getfield 12, 3, 53, 0, 0, []), (53, .getfield 98, 3, 56, 0, 0, []), (56, .ireturn, 1, 57, 0, 0, [])]
theorem wf_Le_back1 : m_wf c_Le_back p_Le_back1 = true := by decide +kernel
theorem kp_out {D : va_G} {cI cZ cK : ClassId} {ad : Nat → Nat} {g : Nat → Option Nat} {w : mW} {H : Heap} (hP : va_P D m_cl (m_ws cI cZ ad w 0 ++ [(ad 12, z_kp cK g)]) H) (hD : va_D (fun _ => True) (m_ws cI cZ ad w 0 ++ [(ad 12, z_kp cK g)])) : ad 12 < H.size ∧ ¬ va_A (m_ws cI cZ ad w 0) H.size (ad 12) := by
  have h12 : (m_ws cI cZ ad w 0 ++ [(ad 12, z_kp cK g)])[w.length]? = some (ad 12, z_kp cK g) := by
    rw [List.getElem?_append_right (by rw [m_ws_len]; exact Nat.le_refl _), m_ws_len, Nat.sub_self]
    rfl
  have hlt : ad 12 < H.size := (hP _ _ h12).lt
  refine ⟨hlt, ?_⟩
  rintro (⟨i, e, hi⟩ | hi)
  · have hil : i < w.length := by
      have := (List.getElem?_eq_some_iff.mp hi).1
      rw [m_ws_len] at this
      exact this
    have h1 : (m_ws cI cZ ad w 0 ++ [(ad 12, z_kp cK g)])[i]? = some (ad 12, e) := by
      rw [List.getElem?_append_left (by rw [m_ws_len]; exact hil)]
      exact hi
    have := hD.1 i w.length _ _ h1 h12 rfl
    omega
  · omega
set_option maxHeartbeats 8000000 in
set_option maxRecDepth 20000 in
theorem x_backN (l : Launch) (D : va_G) (cI cZ cK : ClassId) (ad : Nat → Nat) (g : Nat → Option Nat) (k sz : Nat) (w : mW) (s0 : aS) (hk : k < 8) (hg : g k = none) (hw : RCw s0 [] w) :
    Met l y_Le_back ws_Le_back (rmk 3) (b_pre D cI cZ cK ad g k w sz) (m_post D cI cZ ad 12 (va_A (m_ws cI cZ ad w 0) sz) (fun r w' => r = some (.inl 0) ∧ RCw a_0 [] w')) 0 0 (va_A (m_ws cI cZ ad w 0) sz) := by
  obtain ⟨bal, o, nd, am, ro, ra, rd, pv, bc, rc, h, j, bu, rfl, hRC⟩ := hw
  refine Met.ofW (cc := c_Le_back) (maxL := 2) (ret := some .int) (by decide) rfl ?_
  intro p e s m args below meth c s₁ B hml hv
  obtain ⟨rfl, hsz, hP, hK, hD0, hnw⟩ := hv
  have hx := B.exec
  have hb := B.bytes
  have hr := B.returns
  have hts := atoms_spec (ws := ws_Le_back) B.pre
  have hw : ∀ x ∈ gw, x.before #[Value.ref (ad 11), Value.int (nI k)] s = true := fun x h => hts x (List.mem_cons_of_mem _ h)
  have hown : s.vm.findClass R_Le = some m.cls := findClass_of_methodNamed B.named
  have hlocks := B.notSynchronized
  subst hsz
  obtain ⟨hkl, hkA⟩ := kp_out hP hD0
  have hPw := hP.sub (ws' := m_ws cI cZ ad (lW bal o nd am ro ra rd pv bc rc h j bu []) 0) [0, 1, 2, 3, 4, 5, 6, 7, 8, 9, 10, 11] rfl
  have hPk := hP.sub (ws' := [(ad 12, z_kp cK g)]) [12] rfl
  have hDw := hD0.sub (ws' := m_ws cI cZ ad (lW bal o nd am ro ra rd pv bc rc h j bu []) 0) [0, 1, 2, 3, 4, 5, 6, 7, 8, 9, 10, 11] (by decide) rfl
  have hKm := hK.sub (tys' := z_ty cI cZ) [0, 1] rfl
  have C : m_Cx (p, l, e, (headSpec ws_Le_back (rmk 3)).room, s, m, #[Value.ref (ad 11), Value.int (nI k)], below, meth, c, 0, 0, MQ below (m_post D cI cZ ad 12 (va_A (m_ws cI cZ ad (lW bal o nd am ro ra rd pv bc rc h j bu []) 0) s.heap.size) (fun r w' => r = some (.inl 0) ∧ RCw a_0 [] w')) #[Value.ref (ad 11), Value.int (nI k)] s 0 0 (va_A (m_ws cI cZ ad (lW bal o nd am ro ra rd pv bc rc h j bu []) 0) s.heap.size), D, va_A (m_ws cI cZ ad (lW bal o nd am ro ra rd pv bc rc h j bu []) 0) s.heap.size, cI, cZ, ad, 2, 12) c_Le_back R_Le ws_Le_back nw (rmk 3) :=
    ⟨hx, hb, hml, hown, hKm, fun w' hw' => m_D_of hDw hw', fun q hq => Or.inr hq, hts, hnw, rfl, Nat.le_refl _, Nat.le_refl _⟩
  have hmut : ∀ i, i < 12 → va_A (m_ws cI cZ ad (lW bal o nd am ro ra rd pv bc rc h j bu []) 0) s.heap.size (ad i) := by
    intro i hi
    obtain ⟨e1, g1⟩ := m_ws_at (cI := cI) (cZ := cZ) (ad := ad) (lW bal o nd am ro ra rd pv bc rc h j bu []) hi
    exact Or.inl ⟨i, e1, g1⟩
  have hret : m_RetOk (p, l, e, (headSpec ws_Le_back (rmk 3)).room, s, m, #[Value.ref (ad 11), Value.int (nI k)], below, meth, c, 0, 0, MQ below (m_post D cI cZ ad 12 (va_A (m_ws cI cZ ad (lW bal o nd am ro ra rd pv bc rc h j bu []) 0) s.heap.size) (fun r w' => r = some (.inl 0) ∧ RCw a_0 [] w')) #[Value.ref (ad 11), Value.int (nI k)] s 0 0 (va_A (m_ws cI cZ ad (lW bal o nd am ro ra rd pv bc rc h j bu []) 0) s.heap.size), D, va_A (m_ws cI cZ ad (lW bal o nd am ro ra rd pv bc rc h j bu []) 0) s.heap.size, cI, cZ, ad, 2, 12) c_Le_back (m_Rt (some .int) (fun r w' => r = some (.inl 0) ∧ RCw a_0 [] w')) := by
    refine ⟨fun pc lo x w' hd hR => ?_, fun pc lo w' hd hR => hR.elim⟩
    intro ls H locs hlh hN' hP' hS
    exact W.iret hx hb hr (fun t ht hW => ⟨⟨some (.inl x), w', rfl, hN', hR, by rw [ht]; exact hP'⟩, hS.F ht⟩) hS.2.2 hd
  have hT : m_TOk (p, l, e, (headSpec ws_Le_back (rmk 3)).room, s, m, #[Value.ref (ad 11), Value.int (nI k)], below, meth, c, 0, 0, MQ below (m_post D cI cZ ad 12 (va_A (m_ws cI cZ ad (lW bal o nd am ro ra rd pv bc rc h j bu []) 0) s.heap.size) (fun r w' => r = some (.inl 0) ∧ RCw a_0 [] w')) #[Value.ref (ad 11), Value.int (nI k)] s 0 0 (va_A (m_ws cI cZ ad (lW bal o nd am ro ra rd pv bc rc h j bu []) 0) s.heap.size), D, va_A (m_ws cI cZ ad (lW bal o nd am ro ra rd pv bc rc h j bu []) 0) s.heap.size, cI, cZ, ad, 2, 12) c_Le_back R_Le (false, fl_Le, fp_Le, [], [(1, 140, 1, ct_in 8), (0, 152, 1, ct_sf)], []) (m_Rt (some .int) (fun r w' => r = some (.inl 0) ∧ RCw a_0 [] w')) := ⟨fun _ => hmut, get_Le C, put_Le C, m_none, m_one (ca_Le_140 (pb := true) C (fun h => nomatch h) c_isKeptState rfl rfl ⟨by decide, by decide⟩) (m_one (ca_Le_152 (pb := false) C (fun _ => hmut) c_sf rfl rfl ct_sf_r ⟨by decide, by decide⟩) m_none), m_none, hret⟩
  have fin : m_W (p, l, e, (headSpec ws_Le_back (rmk 3)).room, s, m, #[Value.ref (ad 11), Value.int (nI k)], below, meth, c, 0, 0, MQ below (m_post D cI cZ ad 12 (va_A (m_ws cI cZ ad (lW bal o nd am ro ra rd pv bc rc h j bu []) 0) s.heap.size) (fun r w' => r = some (.inl 0) ∧ RCw a_0 [] w')) #[Value.ref (ad 11), Value.int (nI k)] s 0 0 (va_A (m_ws cI cZ ad (lW bal o nd am ro ra rd pv bc rc h j bu []) 0) s.heap.size), D, va_A (m_ws cI cZ ad (lW bal o nd am ro ra rd pv bc rc h j bu []) 0) s.heap.size, cI, cZ, ad, 2, 12) 26 [some (.inr 11), some (.inl (nI k))] [] (lW bal o nd am ro ra rd pv bc rc h j bu []) := by
    refine m_walk C hT wf_Le_back1 [] 30 ?_
    refine m_c0 <| ⟨_, _, _, _, _, _, _, _, _, _, _, _, _, _, rfl, rfl, fun bal' o' nd' am' pv' g1 g2 g3 => ?_⟩
    exact ⟨rfl, ⟨bal', o', nd', am', _, _, _, pv', _, _, _, _, _, rfl, RC_0 g1 g2 g3⟩⟩
  have at17 : m_W (p, l, e, (headSpec ws_Le_back (rmk 3)).room, s, m, #[Value.ref (ad 11), Value.int (nI k)], below, meth, c, 0, 0, MQ below (m_post D cI cZ ad 12 (va_A (m_ws cI cZ ad (lW bal o nd am ro ra rd pv bc rc h j bu []) 0) s.heap.size) (fun r w' => r = some (.inl 0) ∧ RCw a_0 [] w')) #[Value.ref (ad 11), Value.int (nI k)] s 0 0 (va_A (m_ws cI cZ ad (lW bal o nd am ro ra rd pv bc rc h j bu []) 0) s.heap.size), D, va_A (m_ws cI cZ ad (lW bal o nd am ro ra rd pv bc rc h j bu []) 0) s.heap.size, cI, cZ, ad, 2, 12) 17 [some (.inr 11), some (.inl (nI k))] [] (lW bal o nd am ro ra rd pv bc rc h j bu []) := by
    intro ls H locs hlh hN' hP' hS
    have hPk' : va_P D m_cl [(ad 12, z_kp cK g)] H := hPk.kept (fun i q hi => by
      have e9 : q = (ad 12, z_kp cK g) := by
        match i, hi with
        | 0, hi => exact (Option.some.inj hi).symm
      rw [e9]
      exact hS.2.1 _ hkl hkA)
    have hPj : va_P D m_cl (m_ws cI cZ ad (lW bal o nd am ro ra rd pv bc rc h j bu []) 0 ++ [(ad 12, z_kp cK g)]) H := hP'.app hPk'
    refine lv_aload_n hx hb (show decode c_Le_back 17 = .ok (.aload_n 0, 1) by decide +kernel) rfl (m_lh_get (v := .inr 11) hlh rfl) ?_
    refine va_get (D := D) (ci := 3) (C := R_Le) (T := F_Le) (N := 2) hx hb hw ig_Le hown hK hPj 11 rfl rfl 1 (by decide) (hw (.fieldLink R_Le 16 R_Le "kept" "[LStakeLedger$State;") (m_ing (by decide +kernel) (by decide +kernel))) (fun _ h9 => h9) rfl (show decode c_Le_back 18 = .ok (.getfield 16, 3) by decide +kernel) ?_
    refine lv_iload_n hx hb (show decode c_Le_back 21 = .ok (.iload_n 1, 1) by decide +kernel) rfl (m_lh_get (v := .inl (nI k)) hlh rfl) ?_
    refine va_aldq hx hb hK hPj 12 2 rfl rfl (nI_in hk (by decide)) (show decode c_Le_back 22 = .ok (.aaload, 1) by decide +kernel) ?_
    rw [nI_clamp (show k < 2 ^ 31 by omega), hg]
    refine lv_ifnonnullN hx hb (show decode c_Le_back 23 = .ok (.ifnonnull 13, 3) by decide +kernel) ?_
    exact fin ls H locs hlh hN' hP' hS
  have start : m_W (p, l, e, (headSpec ws_Le_back (rmk 3)).room, s, m, #[Value.ref (ad 11), Value.int (nI k)], below, meth, c, 0, 0, MQ below (m_post D cI cZ ad 12 (va_A (m_ws cI cZ ad (lW bal o nd am ro ra rd pv bc rc h j bu []) 0) s.heap.size) (fun r w' => r = some (.inl 0) ∧ RCw a_0 [] w')) #[Value.ref (ad 11), Value.int (nI k)] s 0 0 (va_A (m_ws cI cZ ad (lW bal o nd am ro ra rd pv bc rc h j bu []) 0) s.heap.size), D, va_A (m_ws cI cZ ad (lW bal o nd am ro ra rd pv bc rc h j bu []) 0) s.heap.size, cI, cZ, ad, 2, 12) 0 [some (.inr 11), some (.inl (nI k))] [] (lW bal o nd am ro ra rd pv bc rc h j bu []) := by
    refine m_walk C hT wf_Le_back0 [17] 30 ?_
    refine m_c0 <| ct_in_i (fun h1 => ?_) (fun h1 => absurd (isR_of (n := 8) hk (by decide)) h1)
    exact And.intro (fun _ => at17) (fun z => absurd z (by decide))
  have hl := lv_entry ([.ref (ad 11), .int (nI k)]) (n := 2) (Nat.le_of_ble_eq_true rfl)
  rw [lg_entry_eq]
  generalize (lg_sl ([.ref (ad 11), .int (nI k)]) ++ List.replicate (2 - (lg_sl ([.ref (ad 11), .int (nI k)])).length) Slot.unset).toArray = ls at hl ⊢
  exact start ls s.heap [] ⟨rfl, hl.1, hl.2.1, hl.2.2⟩ rfl hPw va_S.rf
