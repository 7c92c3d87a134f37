/-! keep, where nothing is kept yet. -/
def kn_post (D : va_G) (cI cZ cK : ClassId) (ad : Nat → Nat) (g : Nat → Option Nat) (k : Nat) (w : mW) (A : Nat → Prop) (K : mW → Prop) : Array Value → State → Outcome → State → Prop :=
  fun _ st oc t => (∃ adk wk, oc = .returned none ∧ K wk ∧ va_P D m_cl (k_ws cI cZ cK ad adk (va_up g k (some (adk 0))) w wk) t.heap ∧ va_D A (k_ws cI cZ cK ad adk (va_up g k (some (adk 0))) w wk)) ∧ va_F A st t
theorem up_at {g : Nat → Option Nat} {k : Nat} {v : Option Nat} : va_up g k v k = v := by simp [va_up]
set_option maxHeartbeats 16000000 in
set_option maxRecDepth 20000 in
theorem x_keepN (l : Launch) (D : va_G) (cI cZ cK : ClassId) (ad : Nat → Nat) (g : Nat → Option Nat) (k sz : Nat) (w : mW) (s0 : aS) (hk : k < 8) (hg : g k = none) (hw0 : RCw s0 [] w) (hl0 : s0.2.2.1.length ≤ 32) :
    Met l y_Le_keep ws_Le_keep (rmI 4 11 615) (b_pre D cI cZ cK ad g k w sz) (kn_post D cI cZ cK ad g k w (va_A (m_ws cI cZ ad w 0 ++ [(ad 12, z_kp cK g)]) sz) (fun wk' => sRC s0 wk')) 11 615 (va_A (m_ws cI cZ ad w 0 ++ [(ad 12, z_kp cK g)]) sz) := by
  obtain ⟨bal, o, nd, am, ro, ra, rd, pv, bc, rc, h, j, bu, rfl, hRC⟩ := hw0
  refine Met.ofW (cc := c_Le_keep) (maxL := 2) (ret := none) (by decide) rfl ?_
  intro p e s m args below meth c s₁ B hml hv
  obtain ⟨rfl, hsz, hP, hK, hD0, hnw⟩ := hv
  have hx := B.exec
  have hb := B.bytes
  have hr := B.returns
  have hts := atoms_spec (ws := ws_Le_keep) B.pre
  have hw : ∀ x ∈ gw, x.before #[Value.ref (ad 11), Value.int (nI k)] s = true := fun x h => hts x (List.mem_cons_of_mem _ h)
  have hown : s.vm.findClass R_Le = some m.cls := findClass_of_methodNamed B.named
  have hlocks := B.notSynchronized
  subst hsz
  have hD := hD0.self (sz := s.heap.size)
  generalize hAe : va_A (m_ws cI cZ ad (lW bal o nd am ro ra rd pv bc rc h j bu []) 0 ++ [(ad 12, z_kp cK g)]) s.heap.size = A at hD ⊢
  have hA : ∀ q : Nat, s.heap.size ≤ q → A q := fun q h => by rw [← hAe]; exact Or.inr h
  have hS : va_S A s.heap s.heap [] := va_S.rf
  have hKm := hK.sub (tys' := z_ty cI cZ) [0, 1] rfl
  have G : g_Cx p (headSpec ws_Le_keep (rmI 4 11 615)).room s m #[Value.ref (ad 11), Value.int (nI k)] c c_Le_keep R_Le (.code y_Le_keep c_Le_keep 2 none) D cI cZ 2 := ⟨⟨hx, hb, hml, hown, hts⟩, hKm, hnw⟩
  have hl := lv_entry ([.ref (ad 11), .int (nI k)]) (n := 2) (Nat.le_of_ble_eq_true rfl)
  rw [lg_entry_eq]
  generalize (lg_sl ([.ref (ad 11), .int (nI k)]) ++ List.replicate (2 - (lg_sl ([.ref (ad 11), .int (nI k)])).length) Slot.unset).toArray = ls at hl ⊢
  have hl : lv_has ls 2 [(0, .ref (ad 11)), (1, .int (nI k))] := hl
  refine lv_iload_n hx hb (show decode c_Le_keep 0 = .ok (.iload_n 1, 1) by decide +kernel) rfl (lv_at hl 1 rfl) ?_
  refine m_goS (pb := true) (as := [.inl (nI k)]) (rest := []) (w := (lW bal o nd am ro ra rd pv bc rc h j bu [])) (K := fun r w' => r = some (.inl 1) ∧ w' = (lW bal o nd am ro ra rd pv bc rc h j bu [])) 1 G c_isKeptState cd_Le_isKeptState (m_ing (by decide +kernel) (by decide +kernel)) (m_ing (by decide +kernel) (by decide +kernel)) (m_ing (by decide +kernel) (by decide +kernel)) rfl rfl ⟨by decide +kernel, by decide +kernel, by decide +kernel⟩ ⟨by decide, by decide⟩ rfl hl.1 (by decide) (show decode c_Le_keep 1 = .ok (.invokestatic 140, 3) by decide +kernel) ⟨Nat.zero_le _, Nat.zero_le _⟩ (ct_in_i (fun _ => ⟨rfl, rfl⟩) (fun h1 => absurd (isR_of (n := 8) hk (by decide)) h1)) (hP.sub (ws' := m_ws cI cZ ad (lW bal o nd am ro ra rd pv bc rc h j bu []) 0) [0, 1, 2, 3, 4, 5, 6, 7, 8, 9, 10, 11] rfl) (hD.sub (ws' := m_ws cI cZ ad (lW bal o nd am ro ra rd pv bc rc h j bu []) 0) [0, 1, 2, 3, 4, 5, 6, 7, 8, 9, 10, 11] (by decide) rfl) hS hA ?_
  rintro r w' H1 locs1 - ⟨rfl, rfl⟩ - hfr hS
  have hP : va_P D m_cl (m_ws cI cZ ad (lW bal o nd am ro ra rd pv bc rc h j bu []) 0 ++ [(ad 12, z_kp cK g)]) H1 := hP.kept (fun i q hi => hfr q.1 ((hP i q hi).lt) (Nat.not_le.mpr ((hP i q hi).lt)))
  refine lv_if_ne hx hb (show decode c_Le_keep 4 = .ok (.ifCond .ne 13, 3) by decide +kernel) (tgt := 17) rfl (fun _ => ?_) (fun h9 => absurd h9 (by decide))
  refine lv_aload_n hx hb (show decode c_Le_keep 17 = .ok (.aload_n 0, 1) by decide +kernel) rfl (lv_at hl 0 rfl) ?_
  refine va_get (D := D) (ci := 3) (C := R_Le) (T := F_Le) (N := 2) hx hb hw ig_Le hown hK hP 11 rfl rfl 1 (by decide) (hw (.fieldLink R_Le 16 R_Le "kept" "[LStakeLedger$State;") (m_ing (by decide +kernel) (by decide +kernel))) (fun _ h9 => h9) rfl (show decode c_Le_keep 18 = .ok (.getfield 16, 3) by decide +kernel) ?_
  refine lv_iload_n hx hb (show decode c_Le_keep 21 = .ok (.iload_n 1, 1) by decide +kernel) rfl (lv_at hl 1 rfl) ?_
  refine va_aldq hx hb hK hP 12 2 rfl rfl (nI_in hk (by decide)) (show decode c_Le_keep 22 = .ok (.aaload, 1) by decide +kernel) ?_
  rw [nI_clamp (show k < 2 ^ 31 by omega), hg]
  refine lv_ifnonnullN hx hb (show decode c_Le_keep 23 = .ok (.ifnonnull 16, 3) by decide +kernel) ?_
  refine lv_aload_n hx hb (show decode c_Le_keep 26 = .ok (.aload_n 0, 1) by decide +kernel) rfl (lv_at hl 0 rfl) ?_
  refine va_get (D := D) (ci := 3) (C := R_Le) (T := F_Le) (N := 2) hx hb hw ig_Le hown hK hP 11 rfl rfl 1 (by decide) (hw (.fieldLink R_Le 16 R_Le "kept" "[LStakeLedger$State;") (m_ing (by decide +kernel) (by decide +kernel))) (fun _ h9 => h9) rfl (show decode c_Le_keep 27 = .ok (.getfield 16, 3) by decide +kernel) ?_
  refine lv_iload_n hx hb (show decode c_Le_keep 30 = .ok (.iload_n 1, 1) by decide +kernel) rfl (lv_at hl 1 rfl) ?_
  refine va_new (ci := 0) (fs := [.null, .null, .null, .null, .int 0, .int 0, .int 0]) (C := R_St) (T := F_St) (N := 7) hx hb hw ig_St t_St k_St hown (hw (.classLink R_Le 9 R_St) (m_ing (by decide +kernel) (by decide +kernel))) (hw (.instantiable R_St 7) (m_ing (by decide +kernel) (by decide +kernel))) (hw (.initialized R_St) (m_ing (by decide +kernel) (by decide +kernel))) hK hP hD hS hA rfl (fun j hj => by rcases (show j = 0 ∨ j = 1 ∨ j = 2 ∨ j = 3 ∨ j = 4 ∨ j = 5 ∨ j = 6 by omega) with rfl | rfl | rfl | rfl | rfl | rfl | rfl <;> rfl) (Nat.le_of_ble_eq_true rfl) (Nat.le_of_ble_eq_true rfl) (show decode c_Le_keep 31 = .ok (.new 9, 3) by decide +kernel) (fun q1 H hP hD hS => ?_)
  refine lv_dup hx hb (show decode c_Le_keep 34 = .ok (.dup, 1) by decide +kernel) rfl ?_
  have hPc := hP.sub (ws' := [(q1, .inr (0, [.null, .null, .null, .null, .int 0, .int 0, .int 0]))]) [13] rfl
  have hDc := hD.sub (ws' := [(q1, .inr (0, [.null, .null, .null, .null, .int 0, .int 0, .int 0]))]) [13] (by decide) rfl
  have hFc := va_free (wc := [(q1, .inr (0, [.null, .null, .null, .null, .int 0, .int 0, .int 0]))]) hD hS hA [13] rfl
  refine va_callv (va_runIN (host := "StakeLedger") (As := []) (rest := [.ref q1, .int (nI k), .ref (ad 12)]) ⟨hx, hb, hml, hown, hts⟩ (i_St l D cI cZ q1 H.size) ⟨va_cnB 0 hts (m_good_in gw_ok cd_St_init) rfl rfl rfl (hnw (.methodLinkNest R_Le 11 y_St_init "StakeLedger") (m_inn (by decide +kernel) (by decide +kernel))) (hw (.initialized R_St) (m_ing (by decide +kernel) (by decide +kernel))) ⟨by decide, by decide, by decide +kernel⟩ ⟨Nat.le_of_ble_eq_true rfl, Nat.le_of_ble_eq_true rfl⟩, rfl, hw (.instanceMethod y_St_init) (m_ing (by decide +kernel) (by decide +kernel))⟩ ⟨z_blindN, fun U hU hW => ⟨rfl, by rw [hU], by rw [hU]; exact hPc, va_K.moved hW.alike hKm, hDc.weaken (fun _ _ _ _ => trivial), fun x hx' => m_isN_warm (nw_ok x hx') hW (hnw x hx')⟩⟩ rfl rfl hl.1 rfl (lv_room (Nat.le_of_ble_eq_true rfl)) (show decode c_Le_keep 35 = .ok (.invokespecial 11, 3) by decide +kernel) ⟨Nat.le_of_ble_eq_true rfl, Nat.le_of_ble_eq_true rfl⟩) hS (fun q _ h => hFc q h) hFc (fun adk t H1 locs ht hvm h5 hB hz1 hk1 hS => ?_)
  obtain ⟨e0, bal2, o2, nd2, am2, ro2, ra2, rd2, pv2, bc2, rc2, h2, j2, bu2, hRK, hP1, hD1⟩ := hB
  subst e0
  rw [ht] at hP1
  obtain ⟨hP, hD⟩ := va_join (wr := (m_ws cI cZ ad (lW bal o nd am ro ra rd pv bc rc h j bu []) 0 ++ [(ad 12, z_kp cK g)])) (w1 := m_ws cI cZ adk (sW bal2 o2 nd2 am2 ro2 ra2 rd2 pv2 bc2 rc2 h2 j2 bu2 []) 0) hP hD [13] [0, 1, 2, 3, 4, 5, 6, 7, 8, 9, 10, 11, 12] rfl rfl (by decide) (by decide) hk1 hFc hP1 hD1
  generalize H1 = H at hP hS ⊢
  refine va_astq hx hb hK hP hD hS 12 2 13 0 rfl (r := (R_St, F_St, 7)) rfl rfl rfl (nI_in hk (by decide)) (show decode c_Le_keep 38 = .ok (.aastore, 1) by decide +kernel) (fun H3 locs hP hD hS => ?_)
  rw [nI_clamp (show k < 2 ^ 31 by omega)] at hP hD
  have hP : va_P D m_cl (k_ws cI cZ cK ad adk (va_up g k (some (adk 0))) (lW bal o nd am ro ra rd pv bc rc h j bu []) (sW bal2 o2 nd2 am2 ro2 ra2 rd2 pv2 bc2 rc2 h2 j2 bu2 [])) H3 := hP
  have hD : va_D A (k_ws cI cZ cK ad adk (va_up g k (some (adk 0))) (lW bal o nd am ro ra rd pv bc rc h j bu []) (sW bal2 o2 nd2 am2 ro2 ra2 rd2 pv2 bc2 rc2 h2 j2 bu2 [])) := hD
  refine lv_aload_n hx hb (show decode c_Le_keep 39 = .ok (.aload_n 0, 1) by decide +kernel) rfl (lv_at hl 0 rfl) ?_
  refine va_get (D := D) (ci := 3) (C := R_Le) (T := F_Le) (N := 2) hx hb hw ig_Le hown hK hP 11 rfl rfl 1 (by decide) (hw (.fieldLink R_Le 16 R_Le "kept" "[LStakeLedger$State;") (m_ing (by decide +kernel) (by decide +kernel))) (fun _ h9 => h9) rfl (show decode c_Le_keep 40 = .ok (.getfield 16, 3) by decide +kernel) ?_
  refine lv_iload_n hx hb (show decode c_Le_keep 43 = .ok (.iload_n 1, 1) by decide +kernel) rfl (lv_at hl 1 rfl) ?_
  refine va_aldq hx hb hK hP 12 2 rfl rfl (nI_in hk (by decide)) (show decode c_Le_keep 44 = .ok (.aaload, 1) by decide +kernel) ?_
  rw [nI_clamp (show k < 2 ^ 31 by omega), up_at]
  refine lv_aload_n hx hb (show decode c_Le_keep 45 = .ok (.aload_n 0, 1) by decide +kernel) rfl (lv_at hl 0 rfl) ?_
  refine va_get (D := D) (ci := 3) (C := R_Le) (T := F_Le) (N := 2) hx hb hw ig_Le hown hK hP 11 rfl rfl 0 (by decide) (hw (.fieldLink R_Le 12 R_Le "now" "LStakeLedger$State;") (m_ing (by decide +kernel) (by decide +kernel))) (fun _ h9 => h9) rfl (show decode c_Le_keep 46 = .ok (.getfield 12, 3) by decide +kernel) ?_
  have hPc := hP.sub (ws' := m_ws cI cZ (adL [adk 0, adk 1, adk 2, adk 3, adk 4, adk 5, adk 6, adk 7, adk 8, adk 9, adk 10, ad 0, ad 1, ad 2, ad 3, ad 4, ad 5, ad 6, ad 7, ad 8, ad 9, ad 10]) (sW bal2 o2 nd2 am2 ro2 ra2 rd2 pv2 bc2 rc2 h2 j2 bu2 (oW bal o nd am ro ra rd pv bc rc h j bu [])) 0) [13, 14, 15, 16, 17, 18, 19, 20, 21, 22, 23, 0, 1, 2, 3, 4, 5, 6, 7, 8, 9, 10] rfl
  have hDc := hD.sub (ws' := m_ws cI cZ (adL [adk 0, adk 1, adk 2, adk 3, adk 4, adk 5, adk 6, adk 7, adk 8, adk 9, adk 10, ad 0, ad 1, ad 2, ad 3, ad 4, ad 5, ad 6, ad 7, ad 8, ad 9, ad 10]) (sW bal2 o2 nd2 am2 ro2 ra2 rd2 pv2 bc2 rc2 h2 j2 bu2 (oW bal o nd am ro ra rd pv bc rc h j bu [])) 0) [13, 14, 15, 16, 17, 18, 19, 20, 21, 22, 23, 0, 1, 2, 3, 4, 5, 6, 7, 8, 9, 10] (by decide) rfl
  have hFc := va_free (wc := m_ws cI cZ (adL [adk 0, adk 1, adk 2, adk 3, adk 4, adk 5, adk 6, adk 7, adk 8, adk 9, adk 10, ad 0, ad 1, ad 2, ad 3, ad 4, ad 5, ad 6, ad 7, ad 8, ad 9, ad 10]) (sW bal2 o2 nd2 am2 ro2 ra2 rd2 pv2 bc2 rc2 h2 j2 bu2 (oW bal o nd am ro ra rd pv bc rc h j bu [])) 0) hD hS hA [13, 14, 15, 16, 17, 18, 19, 20, 21, 22, 23, 0, 1, 2, 3, 4, 5, 6, 7, 8, 9, 10] rfl
  refine m_goVN (pb := false) (host := "StakeLedger") (Cn := R_St) (Tn := F_St) (Nn := 7) (ci := 0) (a := 0) (ad := (adL [adk 0, adk 1, adk 2, adk 3, adk 4, adk 5, adk 6, adk 7, adk 8, adk 9, adk 10, ad 0, ad 1, ad 2, ad 3, ad 4, ad 5, ad 6, ad 7, ad 8, ad 9, ad 10])) (as := [.inr 11]) (rest := []) (w := (sW bal2 o2 nd2 am2 ro2 ra2 rd2 pv2 bc2 rc2 h2 j2 bu2 (oW bal o nd am ro ra rd pv bc rc h j bu []))) (K := fun r w' => r = none ∧ ∃ bal' o' nd' am' ro' ra' rd' pv' : Nat → Int32, RC s0 bal' o' nd' am' ro' ra' rd' pv' bc rc h j bu ∧ w' = sW bal' o' nd' am' ro' ra' rd' pv' bc rc h j bu (oW bal o nd am ro ra rd pv bc rc h j bu [])) 1 G c_sb cd_St_become (m_inn (by decide +kernel) (by decide +kernel)) (m_ing (by decide +kernel) (by decide +kernel)) (m_ing (by decide +kernel) (by decide +kernel)) (m_ing (by decide +kernel) (by decide +kernel)) rfl rfl rfl rfl ⟨by decide +kernel, by decide +kernel, by decide +kernel⟩ ⟨by decide, by decide⟩ rfl hl.1 (by decide) (show decode c_Le_keep 49 = .ok (.invokevirtual 148, 3) by decide +kernel) ⟨Nat.le_of_ble_eq_true rfl, Nat.le_of_ble_eq_true rfl⟩ ⟨_, _, _, _, _, _, _, _, _, _, _, _, _, _, _, _, _, _, _, _, _, _, _, _, _, _, _, rfl, rfl, fun bal' o' nd' am' ro' ra' rd' pv' e1 e2 e3 e4 e5 e6 e7 e8 => ⟨rfl, bal', o', nd', am', ro', ra', rd', pv', RC_congr hRC hl0 e1 e2 e3 e4 e5 e6 e7 e8, rfl⟩⟩ hPc hDc hS hA ?_
  rintro r w' H2 locs2 hN' ⟨rfl, bal', o', nd', am', ro', ra', rd', pv', hRN, rfl⟩ hP1 hfr2 hS
  have hD1 : va_D (va_A (m_ws cI cZ (adL [adk 0, adk 1, adk 2, adk 3, adk 4, adk 5, adk 6, adk 7, adk 8, adk 9, adk 10, ad 0, ad 1, ad 2, ad 3, ad 4, ad 5, ad 6, ad 7, ad 8, ad 9, ad 10]) (sW bal2 o2 nd2 am2 ro2 ra2 rd2 pv2 bc2 rc2 h2 j2 bu2 (oW bal o nd am ro ra rd pv bc rc h j bu [])) 0) H3.size) (m_ws cI cZ (adL [adk 0, adk 1, adk 2, adk 3, adk 4, adk 5, adk 6, adk 7, adk 8, adk 9, adk 10, ad 0, ad 1, ad 2, ad 3, ad 4, ad 5, ad 6, ad 7, ad 8, ad 9, ad 10]) (sW bal' o' nd' am' ro' ra' rd' pv' bc rc h j bu (oW bal o nd am ro ra rd pv bc rc h j bu [])) 0) := m_DA (m_D_of hDc hN') rfl (fun i hi => by
    obtain ⟨e1, g1⟩ := m_ws_at (cI := cI) (cZ := cZ) (ad := (adL [adk 0, adk 1, adk 2, adk 3, adk 4, adk 5, adk 6, adk 7, adk 8, adk 9, adk 10, ad 0, ad 1, ad 2, ad 3, ad 4, ad 5, ad 6, ad 7, ad 8, ad 9, ad 10])) (sW bal2 o2 nd2 am2 ro2 ra2 rd2 pv2 bc2 rc2 h2 j2 bu2 (oW bal o nd am ro ra rd pv bc rc h j bu [])) (k := i) hi
    exact Or.inl ⟨i, e1, g1⟩)
  obtain ⟨hPn, hDn⟩ := va_join (wr := [(ad 11, .inr (3, [.ref (ad 0), .ref (ad 12)])), (ad 12, z_kp cK (va_up g k (some (adk 0))))]) (w1 := m_ws cI cZ (adL [adk 0, adk 1, adk 2, adk 3, adk 4, adk 5, adk 6, adk 7, adk 8, adk 9, adk 10, ad 0, ad 1, ad 2, ad 3, ad 4, ad 5, ad 6, ad 7, ad 8, ad 9, ad 10]) (sW bal' o' nd' am' ro' ra' rd' pv' bc rc h j bu (oW bal o nd am ro ra rd pv bc rc h j bu [])) 0) hP hD [13, 14, 15, 16, 17, 18, 19, 20, 21, 22, 23, 0, 1, 2, 3, 4, 5, 6, 7, 8, 9, 10] [11, 12] rfl rfl (by decide) (by decide) hfr2 hFc hP1 hD1
  have hP : va_P D m_cl (k_ws cI cZ cK ad adk (va_up g k (some (adk 0))) (lW bal o nd am ro ra rd pv bc rc h j bu []) (sW bal' o' nd' am' ro' ra' rd' pv' bc rc h j bu [])) H2 := hPn.sub [13, 14, 15, 16, 17, 18, 19, 20, 21, 22, 23, 0, 1, 2, 3, 4, 5, 6, 7, 8, 9, 10, 11, 12] rfl
  have hD : va_D A (k_ws cI cZ cK ad adk (va_up g k (some (adk 0))) (lW bal o nd am ro ra rd pv bc rc h j bu []) (sW bal' o' nd' am' ro' ra' rd' pv' bc rc h j bu [])) := hDn.sub [13, 14, 15, 16, 17, 18, 19, 20, 21, 22, 23, 0, 1, 2, 3, 4, 5, 6, 7, 8, 9, 10, 11, 12] (by decide) rfl
  exact W.vret hx hb hr (fun t ht hW => ⟨⟨adk, sW bal' o' nd' am' ro' ra' rd' pv' bc rc h j bu [], rfl, ⟨bal', o', nd', am', ro', ra', rd', pv', _, _, _, _, _, rfl, hRN⟩, by rw [ht]; exact hP, hD⟩, hS.F ht⟩) hS.2.2 (show decode c_Le_keep 52 = .ok (.return_, 1) by decide +kernel)
