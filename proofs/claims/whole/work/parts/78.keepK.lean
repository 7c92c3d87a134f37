/-! keep. -/
def kk_post (D : va_G) (cI cZ cK : ClassId) (ad adk : Nat → Nat) (g : Nat → Option Nat) (w : mW) (A : Nat → Prop) (K : mW → Prop) : Array Value → State → Outcome → State → Prop :=
  fun _ st oc t => (∃ wk, oc = .returned none ∧ K wk ∧ va_P D m_cl (k_ws cI cZ cK ad adk g w wk) t.heap) ∧ va_F A st t
set_option maxHeartbeats 16000000 in
set_option maxRecDepth 20000 in
theorem x_keepK (l : Launch) (D : va_G) (cI cZ cK : ClassId) (ad adk : Nat → Nat) (g : Nat → Option Nat) (k sz : Nat) (w wk : mW) (s0 sk : aS) (hk : k < 8) (hg : g k = some (adk 0)) (hw0 : RCw s0 [] w) (hwk : sRC sk wk) (hl0 : s0.2.2.1.length ≤ 32) :
    Met l y_Le_keep ws_Le_keep (rmk 4) (k_pre D cI cZ cK ad adk g k w wk sz) (kk_post D cI cZ cK ad adk g w (va_A (k_ws cI cZ cK ad adk g w wk) sz) (fun wk' => sRC s0 wk')) 0 0 (va_A (k_ws cI cZ cK ad adk g w wk) sz) := by
  obtain ⟨bal, o, nd, am, ro, ra, rd, pv, bc, rc, h, j, bu, rfl, hRC⟩ := hw0
  obtain ⟨bal2, o2, nd2, am2, ro2, ra2, rd2, pv2, bc2, rc2, h2, j2, bu2, rfl, hRK⟩ := hwk
  refine Met.ofW (cc := c_Le_keep) (maxL := 2) (ret := none) (by decide) rfl ?_
  intro p e s m args below meth c s₁ B hml hv
  obtain ⟨rfl, hsz, hP, hK, hD0, hnw⟩ := hv
  have hx := B.exec
  have hb := B.bytes
  have hr := B.returns
  have hts := atoms_spec (ws := ws_Le_keep) B.pre
  have hw : ∀ x ∈ gw, x.before #[Value.ref (ad 11), Value.int (nI k)] s = true := fun x h => hts x (List.mem_cons_of_mem _ h)
  have hown : s.vm.findClass R_Le = some m.cls := findClass_of_methodNamed B.named
  have hlocks := B.notSynchronized
  subst hsz
  have hD := hD0.self (sz := s.heap.size)
  generalize hAe : va_A (k_ws cI cZ cK ad adk g (lW bal o nd am ro ra rd pv bc rc h j bu []) (sW bal2 o2 nd2 am2 ro2 ra2 rd2 pv2 bc2 rc2 h2 j2 bu2 [])) s.heap.size = A at hD ⊢
  have hA : ∀ q : Nat, s.heap.size ≤ q → A q := fun q h => by rw [← hAe]; exact Or.inr h
  have hS : va_S A s.heap s.heap [] := va_S.rf
  have hKm := hK.sub (tys' := z_ty cI cZ) [0, 1] rfl
  have G : g_Cx p (headSpec ws_Le_keep (rmk 4)).room s m #[Value.ref (ad 11), Value.int (nI k)] c c_Le_keep R_Le (.code y_Le_keep c_Le_keep 2 none) D cI cZ 2 := ⟨⟨hx, hb, hml, hown, hts⟩, hKm, hnw⟩
  have hl := lv_entry ([.ref (ad 11), .int (nI k)]) (n := 2) (Nat.le_of_ble_eq_true rfl)
  rw [lg_entry_eq]
  generalize (lg_sl ([.ref (ad 11), .int (nI k)]) ++ List.replicate (2 - (lg_sl ([.ref (ad 11), .int (nI k)])).length) Slot.unset).toArray = ls at hl ⊢
  have hl : lv_has ls 2 [(0, .ref (ad 11)), (1, .int (nI k))] := hl
  refine lv_iload_n hx hb (show decode c_Le_keep 0 = .ok (.iload_n 1, 1) by decide +kernel) rfl (lv_at hl 1 rfl) ?_
  refine m_goS (pb := true) (as := [.inl (nI k)]) (rest := []) (w := (lW bal o nd am ro ra rd pv bc rc h j bu [])) (K := fun r w' => r = some (.inl 1) ∧ w' = (lW bal o nd am ro ra rd pv bc rc h j bu [])) 1 G c_isKeptState cd_Le_isKeptState (m_ing (by decide +kernel) (by decide +kernel)) (m_ing (by decide +kernel) (by decide +kernel)) (m_ing (by decide +kernel) (by decide +kernel)) rfl rfl ⟨by decide +kernel, by decide +kernel, by decide +kernel⟩ ⟨by decide, by decide⟩ rfl hl.1 (by decide) (show decode c_Le_keep 1 = .ok (.invokestatic 140, 3) by decide +kernel) ⟨Nat.zero_le _, Nat.zero_le _⟩ (ct_in_i (fun _ => ⟨rfl, rfl⟩) (fun h1 => absurd (isR_of (n := 8) hk (by decide)) h1)) (hP.sub (ws' := m_ws cI cZ ad (lW bal o nd am ro ra rd pv bc rc h j bu []) 0) [0, 1, 2, 3, 4, 5, 6, 7, 8, 9, 10, 11] rfl) (hD.sub (ws' := m_ws cI cZ ad (lW bal o nd am ro ra rd pv bc rc h j bu []) 0) [0, 1, 2, 3, 4, 5, 6, 7, 8, 9, 10, 11] (by decide) rfl) hS hA ?_
  rintro r w' H1 locs1 - ⟨rfl, rfl⟩ - hfr hS
  have hP : va_P D m_cl (k_ws cI cZ cK ad adk g (lW bal o nd am ro ra rd pv bc rc h j bu []) (sW bal2 o2 nd2 am2 ro2 ra2 rd2 pv2 bc2 rc2 h2 j2 bu2 [])) H1 := hP.kept (fun i q hi => hfr q.1 ((hP i q hi).lt) (Nat.not_le.mpr ((hP i q hi).lt)))
  refine lv_if_ne hx hb (show decode c_Le_keep 4 = .ok (.ifCond .ne 13, 3) by decide +kernel) (tgt := 17) rfl (fun _ => ?_) (fun h9 => absurd h9 (by decide))
  refine lv_aload_n hx hb (show decode c_Le_keep 17 = .ok (.aload_n 0, 1) by decide +kernel) rfl (lv_at hl 0 rfl) ?_
  refine va_get (D := D) (ci := 3) (C := R_Le) (T := F_Le) (N := 2) hx hb hw ig_Le hown hK hP 11 rfl rfl 1 (by decide) (hw (.fieldLink R_Le 16 R_Le "kept" "[LStakeLedger$State;") (m_ing (by decide +kernel) (by decide +kernel))) (fun _ h9 => h9) rfl (show decode c_Le_keep 18 = .ok (.getfield 16, 3) by decide +kernel) ?_
  refine lv_iload_n hx hb (show decode c_Le_keep 21 = .ok (.iload_n 1, 1) by decide +kernel) rfl (lv_at hl 1 rfl) ?_
  refine va_aldq hx hb hK hP 12 2 rfl rfl (nI_in hk (by decide)) (show decode c_Le_keep 22 = .ok (.aaload, 1) by decide +kernel) ?_
  rw [nI_clamp (show k < 2 ^ 31 by omega), hg]
  refine lv_ifnonnull hx hb (show decode c_Le_keep 23 = .ok (.ifnonnull 16, 3) by decide +kernel) (tgt := 39) rfl ?_
  refine lv_aload_n hx hb (show decode c_Le_keep 39 = .ok (.aload_n 0, 1) by decide +kernel) rfl (lv_at hl 0 rfl) ?_
  refine va_get (D := D) (ci := 3) (C := R_Le) (T := F_Le) (N := 2) hx hb hw ig_Le hown hK hP 11 rfl rfl 1 (by decide) (hw (.fieldLink R_Le 16 R_Le "kept" "[LStakeLedger$State;") (m_ing (by decide +kernel) (by decide +kernel))) (fun _ h9 => h9) rfl (show decode c_Le_keep 40 = .ok (.getfield 16, 3) by decide +kernel) ?_
  refine lv_iload_n hx hb (show decode c_Le_keep 43 = .ok (.iload_n 1, 1) by decide +kernel) rfl (lv_at hl 1 rfl) ?_
  refine va_aldq hx hb hK hP 12 2 rfl rfl (nI_in hk (by decide)) (show decode c_Le_keep 44 = .ok (.aaload, 1) by decide +kernel) ?_
  rw [nI_clamp (show k < 2 ^ 31 by omega), hg]
  refine lv_aload_n hx hb (show decode c_Le_keep 45 = .ok (.aload_n 0, 1) by decide +kernel) rfl (lv_at hl 0 rfl) ?_
  refine va_get (D := D) (ci := 3) (C := R_Le) (T := F_Le) (N := 2) hx hb hw ig_Le hown hK hP 11 rfl rfl 0 (by decide) (hw (.fieldLink R_Le 12 R_Le "now" "LStakeLedger$State;") (m_ing (by decide +kernel) (by decide +kernel))) (fun _ h9 => h9) rfl (show decode c_Le_keep 46 = .ok (.getfield 12, 3) by decide +kernel) ?_
  have hPc := hP.sub (ws' := m_ws cI cZ (adL [adk 0, adk 1, adk 2, adk 3, adk 4, adk 5, adk 6, adk 7, adk 8, adk 9, adk 10, ad 0, ad 1, ad 2, ad 3, ad 4, ad 5, ad 6, ad 7, ad 8, ad 9, ad 10]) (sW bal2 o2 nd2 am2 ro2 ra2 rd2 pv2 bc2 rc2 h2 j2 bu2 (oW bal o nd am ro ra rd pv bc rc h j bu [])) 0) [13, 14, 15, 16, 17, 18, 19, 20, 21, 22, 23, 0, 1, 2, 3, 4, 5, 6, 7, 8, 9, 10] rfl
  have hDc := hD.sub (ws' := m_ws cI cZ (adL [adk 0, adk 1, adk 2, adk 3, adk 4, adk 5, adk 6, adk 7, adk 8, adk 9, adk 10, ad 0, ad 1, ad 2, ad 3, ad 4, ad 5, ad 6, ad 7, ad 8, ad 9, ad 10]) (sW bal2 o2 nd2 am2 ro2 ra2 rd2 pv2 bc2 rc2 h2 j2 bu2 (oW bal o nd am ro ra rd pv bc rc h j bu [])) 0) [13, 14, 15, 16, 17, 18, 19, 20, 21, 22, 23, 0, 1, 2, 3, 4, 5, 6, 7, 8, 9, 10] (by decide) rfl
  have hFc := va_free (wc := m_ws cI cZ (adL [adk 0, adk 1, adk 2, adk 3, adk 4, adk 5, adk 6, adk 7, adk 8, adk 9, adk 10, ad 0, ad 1, ad 2, ad 3, ad 4, ad 5, ad 6, ad 7, ad 8, ad 9, ad 10]) (sW bal2 o2 nd2 am2 ro2 ra2 rd2 pv2 bc2 rc2 h2 j2 bu2 (oW bal o nd am ro ra rd pv bc rc h j bu [])) 0) hD hS hA [13, 14, 15, 16, 17, 18, 19, 20, 21, 22, 23, 0, 1, 2, 3, 4, 5, 6, 7, 8, 9, 10] rfl
  refine m_goVN (pb := false) (host := "StakeLedger") (Cn := R_St) (Tn := F_St) (Nn := 7) (ci := 0) (a := 0) (ad := (adL [adk 0, adk 1, adk 2, adk 3, adk 4, adk 5, adk 6, adk 7, adk 8, adk 9, adk 10, ad 0, ad 1, ad 2, ad 3, ad 4, ad 5, ad 6, ad 7, ad 8, ad 9, ad 10])) (as := [.inr 11]) (rest := []) (w := (sW bal2 o2 nd2 am2 ro2 ra2 rd2 pv2 bc2 rc2 h2 j2 bu2 (oW bal o nd am ro ra rd pv bc rc h j bu []))) (K := fun r w' => r = none ∧ ∃ bal' o' nd' am' ro' ra' rd' pv' : Nat → Int32, RC s0 bal' o' nd' am' ro' ra' rd' pv' bc rc h j bu ∧ w' = sW bal' o' nd' am' ro' ra' rd' pv' bc rc h j bu (oW bal o nd am ro ra rd pv bc rc h j bu [])) 1 G c_sb cd_St_become (m_inn (by decide +kernel) (by decide +kernel)) (m_ing (by decide +kernel) (by decide +kernel)) (m_ing (by decide +kernel) (by decide +kernel)) (m_ing (by decide +kernel) (by decide +kernel)) rfl rfl rfl rfl ⟨by decide +kernel, by decide +kernel, by decide +kernel⟩ ⟨by decide, by decide⟩ rfl hl.1 (by decide) (show decode c_Le_keep 49 = .ok (.invokevirtual 148, 3) by decide +kernel) ⟨Nat.le_of_ble_eq_true rfl, Nat.le_of_ble_eq_true rfl⟩ ⟨_, _, _, _, _, _, _, _, _, _, _, _, _, _, _, _, _, _, _, _, _, _, _, _, _, _, _, rfl, rfl, fun bal' o' nd' am' ro' ra' rd' pv' e1 e2 e3 e4 e5 e6 e7 e8 => ⟨rfl, bal', o', nd', am', ro', ra', rd', pv', RC_congr hRC hl0 e1 e2 e3 e4 e5 e6 e7 e8, rfl⟩⟩ hPc hDc hS hA ?_
  rintro r w' H2 locs2 hN' ⟨rfl, bal', o', nd', am', ro', ra', rd', pv', hRN, rfl⟩ hP1 hfr2 hS
  have hD1 : va_D (va_A (m_ws cI cZ (adL [adk 0, adk 1, adk 2, adk 3, adk 4, adk 5, adk 6, adk 7, adk 8, adk 9, adk 10, ad 0, ad 1, ad 2, ad 3, ad 4, ad 5, ad 6, ad 7, ad 8, ad 9, ad 10]) (sW bal2 o2 nd2 am2 ro2 ra2 rd2 pv2 bc2 rc2 h2 j2 bu2 (oW bal o nd am ro ra rd pv bc rc h j bu [])) 0) H1.size) (m_ws cI cZ (adL [adk 0, adk 1, adk 2, adk 3, adk 4, adk 5, adk 6, adk 7, adk 8, adk 9, adk 10, ad 0, ad 1, ad 2, ad 3, ad 4, ad 5, ad 6, ad 7, ad 8, ad 9, ad 10]) (sW bal' o' nd' am' ro' ra' rd' pv' bc rc h j bu (oW bal o nd am ro ra rd pv bc rc h j bu [])) 0) := m_DA (m_D_of hDc hN') rfl (fun i hi => by
    obtain ⟨e1, g1⟩ := m_ws_at (cI := cI) (cZ := cZ) (ad := (adL [adk 0, adk 1, adk 2, adk 3, adk 4, adk 5, adk 6, adk 7, adk 8, adk 9, adk 10, ad 0, ad 1, ad 2, ad 3, ad 4, ad 5, ad 6, ad 7, ad 8, ad 9, ad 10])) (sW bal2 o2 nd2 am2 ro2 ra2 rd2 pv2 bc2 rc2 h2 j2 bu2 (oW bal o nd am ro ra rd pv bc rc h j bu [])) (k := i) hi
    exact Or.inl ⟨i, e1, g1⟩)
  obtain ⟨hPn, hDn⟩ := va_join (wr := [(ad 11, .inr (3, [.ref (ad 0), .ref (ad 12)])), (ad 12, z_kp cK g)]) (w1 := m_ws cI cZ (adL [adk 0, adk 1, adk 2, adk 3, adk 4, adk 5, adk 6, adk 7, adk 8, adk 9, adk 10, ad 0, ad 1, ad 2, ad 3, ad 4, ad 5, ad 6, ad 7, ad 8, ad 9, ad 10]) (sW bal' o' nd' am' ro' ra' rd' pv' bc rc h j bu (oW bal o nd am ro ra rd pv bc rc h j bu [])) 0) hP hD [13, 14, 15, 16, 17, 18, 19, 20, 21, 22, 23, 0, 1, 2, 3, 4, 5, 6, 7, 8, 9, 10] [11, 12] rfl rfl (by decide) (by decide) hfr2 hFc hP1 hD1
  have hP : va_P D m_cl (k_ws cI cZ cK ad adk g (lW bal o nd am ro ra rd pv bc rc h j bu []) (sW bal' o' nd' am' ro' ra' rd' pv' bc rc h j bu [])) H2 := hPn.sub [13, 14, 15, 16, 17, 18, 19, 20, 21, 22, 23, 0, 1, 2, 3, 4, 5, 6, 7, 8, 9, 10, 11, 12] rfl
  have hD : va_D A (k_ws cI cZ cK ad adk g (lW bal o nd am ro ra rd pv bc rc h j bu []) (sW bal' o' nd' am' ro' ra' rd' pv' bc rc h j bu [])) := hDn.sub [13, 14, 15, 16, 17, 18, 19, 20, 21, 22, 23, 0, 1, 2, 3, 4, 5, 6, 7, 8, 9, 10, 11, 12] (by decide) rfl
  exact W.vret hx hb hr (fun t ht hW => ⟨⟨sW bal' o' nd' am' ro' ra' rd' pv' bc rc h j bu [], rfl, ⟨bal', o', nd', am', ro', ra', rd', pv', _, _, _, _, _, rfl, hRN⟩, by rw [ht]; exact hP⟩, hS.F ht⟩) hS.2.2 (show decode c_Le_keep 52 = .ok (.return_, 1) by decide +kernel)
