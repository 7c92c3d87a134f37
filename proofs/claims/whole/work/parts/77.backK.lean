/-! back, where a state is kept. -/
theorem RC_congr {s : aS} {bal2 o2 nd2 am2 ro2 ra2 rd2 pv2 bal' o' nd' am' ro' ra' rd' pv' : Nat → Int32} {bc2 rc2 h2 j2 bu2 : Int32} (h : RC s bal2 o2 nd2 am2 ro2 ra2 rd2 pv2 bc2 rc2 h2 j2 bu2) (hl : s.2.2.1.length ≤ 32) (e1 : ∀ k, k < 200 → bal' k = bal2 k) (e2 : ∀ k, k < 96 → o' k = o2 k) (e3 : ∀ k, k < 96 → nd' k = nd2 k) (e4 : ∀ k, k < 96 → am' k = am2 k) (e5 : ∀ k, k < 32 → ro' k = ro2 k) (e6 : ∀ k, k < 32 → ra' k = ra2 k) (e7 : ∀ k, k < 32 → rd' k = rd2 k) (e8 : ∀ k, k < 16 → pv' k = pv2 k) : RC s bal' o' nd' am' ro' ra' rd' pv' bc2 rc2 h2 j2 bu2 := by
  obtain ⟨L, c, r1, ⟨b1, b2, b3, b4, b5, b6⟩, r3, r4, r5, r6, r7, r8, r9⟩ := h
  refine ⟨L, c, r1, ⟨b1, b2, b3, b4, fun i hi => ?_, b6⟩, fun k hk => (e1 k hk).trans (r3 k hk), fun i r hi => ?_, r5, fun k hk => (e8 k hk).trans (r6 k hk), r7, r8, r9⟩
  · rw [e2 i (by omega), e3 i (by omega), e4 i (by omega)]
    exact b5 i hi
  · have hlt := (List.getElem?_eq_some_iff.mp hi).1
    rw [e5 i (by omega), e6 i (by omega), e7 i (by omega)]
    exact r4 i r hi
def sRC (s : aS) (w : mW) : Prop := ∃ bal o nd am ro ra rd pv bc rc h j bu, w = sW bal o nd am ro ra rd pv bc rc h j bu [] ∧ RC s bal o nd am ro ra rd pv bc rc h j bu
abbrev k_ws (cI cZ cK : ClassId) (ad adk : Nat → Nat) (g : Nat → Option Nat) (w wk : mW) : va_W := m_ws cI cZ ad w 0 ++ ((ad 12, z_kp cK g) :: m_ws cI cZ adk wk 0)
def k_pre (D : va_G) (cI cZ cK : ClassId) (ad adk : Nat → Nat) (g : Nat → Option Nat) (k : Nat) (w wk : mW) (sz : Nat) : Array Value → State → Prop :=
  va_Pc [.ref (ad 11), .int (nI k)] (fun U => U.heap.size = sz ∧ va_P D m_cl (k_ws cI cZ cK ad adk g w wk) U.heap ∧ va_K D m_cl (z_ty cI cZ ++ [(cK, .object R_St)]) U ∧ va_D (fun _ => True) (k_ws cI cZ cK ad adk g w wk) ∧ ∀ x ∈ nw, va_Nw x U)
def k_post (D : va_G) (cI cZ cK : ClassId) (ad adk : Nat → Nat) (g : Nat → Option Nat) (wk : mW) (A : Nat → Prop) (x : Int32) (K : mW → Prop) : Array Value → State → Outcome → State → Prop :=
  fun _ st oc t => (∃ w, oc = .returned (some (.int x)) ∧ K w ∧ va_P D m_cl (k_ws cI cZ cK ad adk g w wk) t.heap) ∧ va_F A st t
set_option maxHeartbeats 16000000 in
set_option maxRecDepth 20000 in
theorem x_backK (l : Launch) (D : va_G) (cI cZ cK : ClassId) (ad adk : Nat → Nat) (g : Nat → Option Nat) (k sz : Nat) (w wk : mW) (s0 sk : aS) (hk : k < 8) (hg : g k = some (adk 0)) (hw0 : RCw s0 [] w) (hwk : sRC sk wk) (hlk : sk.2.2.1.length ≤ 32) :
    Met l y_Le_back ws_Le_back (rmk 4) (k_pre D cI cZ cK ad adk g k w wk sz) (k_post D cI cZ cK ad adk g wk (va_A (k_ws cI cZ cK ad adk g w wk) sz) sk.2.2.2.2.2.2 (fun w' => RCw sk [] w')) 0 0 (va_A (k_ws cI cZ cK ad adk g w wk) sz) := by
  obtain ⟨bal, o, nd, am, ro, ra, rd, pv, bc, rc, h, j, bu, rfl, hRC⟩ := hw0
  obtain ⟨bal2, o2, nd2, am2, ro2, ra2, rd2, pv2, bc2, rc2, h2, j2, bu2, rfl, hRK⟩ := hwk
  refine Met.ofW (cc := c_Le_back) (maxL := 2) (ret := some .int) (by decide) rfl ?_
  intro p e s m args below meth c s₁ B hml hv
  obtain ⟨rfl, hsz, hP, hK, hD0, hnw⟩ := hv
  have hx := B.exec
  have hb := B.bytes
  have hr := B.returns
  have hts := atoms_spec (ws := ws_Le_back) B.pre
  have hw : ∀ x ∈ gw, x.before #[Value.ref (ad 11), Value.int (nI k)] s = true := fun x h => hts x (List.mem_cons_of_mem _ h)
  have hown : s.vm.findClass R_Le = some m.cls := findClass_of_methodNamed B.named
  have hlocks := B.notSynchronized
  subst hsz
  have hD := hD0.self (sz := s.heap.size)
  generalize hAe : va_A (k_ws cI cZ cK ad adk g (lW bal o nd am ro ra rd pv bc rc h j bu []) (sW bal2 o2 nd2 am2 ro2 ra2 rd2 pv2 bc2 rc2 h2 j2 bu2 [])) s.heap.size = A at hD ⊢
  have hA : ∀ q : Nat, s.heap.size ≤ q → A q := fun q h => by rw [← hAe]; exact Or.inr h
  have hS : va_S A s.heap s.heap [] := va_S.rf
  have hKm := hK.sub (tys' := z_ty cI cZ) [0, 1] rfl
  have G : g_Cx p (headSpec ws_Le_back (rmk 4)).room s m #[Value.ref (ad 11), Value.int (nI k)] c c_Le_back R_Le (.code y_Le_back c_Le_back 2 (some .int)) D cI cZ 2 := ⟨⟨hx, hb, hml, hown, hts⟩, hKm, hnw⟩
  have hl := lv_entry ([.ref (ad 11), .int (nI k)]) (n := 2) (Nat.le_of_ble_eq_true rfl)
  rw [lg_entry_eq]
  generalize (lg_sl ([.ref (ad 11), .int (nI k)]) ++ List.replicate (2 - (lg_sl ([.ref (ad 11), .int (nI k)])).length) Slot.unset).toArray = ls at hl ⊢
  have hl : lv_has ls 2 [(0, .ref (ad 11)), (1, .int (nI k))] := hl
  refine lv_iload_n hx hb (show decode c_Le_back 0 = .ok (.iload_n 1, 1) by decide +kernel) rfl (lv_at hl 1 rfl) ?_
  refine m_goS (pb := true) (as := [.inl (nI k)]) (rest := []) (w := (lW bal o nd am ro ra rd pv bc rc h j bu [])) (K := fun r w' => r = some (.inl 1) ∧ w' = (lW bal o nd am ro ra rd pv bc rc h j bu [])) 1 G c_isKeptState cd_Le_isKeptState (m_ing (by decide +kernel) (by decide +kernel)) (m_ing (by decide +kernel) (by decide +kernel)) (m_ing (by decide +kernel) (by decide +kernel)) rfl rfl ⟨by decide +kernel, by decide +kernel, by decide +kernel⟩ ⟨by decide, by decide⟩ rfl hl.1 (by decide) (show decode c_Le_back 1 = .ok (.invokestatic 140, 3) by decide +kernel) ⟨Nat.zero_le _, Nat.zero_le _⟩ (ct_in_i (fun _ => ⟨rfl, rfl⟩) (fun h1 => absurd (isR_of (n := 8) hk (by decide)) h1)) (hP.sub (ws' := m_ws cI cZ ad (lW bal o nd am ro ra rd pv bc rc h j bu []) 0) [0, 1, 2, 3, 4, 5, 6, 7, 8, 9, 10, 11] rfl) (hD.sub (ws' := m_ws cI cZ ad (lW bal o nd am ro ra rd pv bc rc h j bu []) 0) [0, 1, 2, 3, 4, 5, 6, 7, 8, 9, 10, 11] (by decide) rfl) hS hA ?_
  rintro r w' H1 locs1 - ⟨rfl, rfl⟩ - hfr hS
  have hP : va_P D m_cl (k_ws cI cZ cK ad adk g (lW bal o nd am ro ra rd pv bc rc h j bu []) (sW bal2 o2 nd2 am2 ro2 ra2 rd2 pv2 bc2 rc2 h2 j2 bu2 [])) H1 := hP.kept (fun i q hi => hfr q.1 ((hP i q hi).lt) (Nat.not_le.mpr ((hP i q hi).lt)))
  refine lv_if_ne hx hb (show decode c_Le_back 4 = .ok (.ifCond .ne 13, 3) by decide +kernel) (tgt := 17) rfl (fun _ => ?_) (fun h9 => absurd h9 (by decide))
  refine lv_aload_n hx hb (show decode c_Le_back 17 = .ok (.aload_n 0, 1) by decide +kernel) rfl (lv_at hl 0 rfl) ?_
  refine va_get (D := D) (ci := 3) (C := R_Le) (T := F_Le) (N := 2) hx hb hw ig_Le hown hK hP 11 rfl rfl 1 (by decide) (hw (.fieldLink R_Le 16 R_Le "kept" "[LStakeLedger$State;") (m_ing (by decide +kernel) (by decide +kernel))) (fun _ h9 => h9) rfl (show decode c_Le_back 18 = .ok (.getfield 16, 3) by decide +kernel) ?_
  refine lv_iload_n hx hb (show decode c_Le_back 21 = .ok (.iload_n 1, 1) by decide +kernel) rfl (lv_at hl 1 rfl) ?_
  refine va_aldq hx hb hK hP 12 2 rfl rfl (nI_in hk (by decide)) (show decode c_Le_back 22 = .ok (.aaload, 1) by decide +kernel) ?_
  rw [nI_clamp (show k < 2 ^ 31 by omega), hg]
  refine lv_ifnonnull hx hb (show decode c_Le_back 23 = .ok (.ifnonnull 13, 3) by decide +kernel) (tgt := 36) rfl ?_
  refine lv_aload_n hx hb (show decode c_Le_back 36 = .ok (.aload_n 0, 1) by decide +kernel) rfl (lv_at hl 0 rfl) ?_
  refine va_get (D := D) (ci := 3) (C := R_Le) (T := F_Le) (N := 2) hx hb hw ig_Le hown hK hP 11 rfl rfl 0 (by decide) (hw (.fieldLink R_Le 12 R_Le "now" "LStakeLedger$State;") (m_ing (by decide +kernel) (by decide +kernel))) (fun _ h9 => h9) rfl (show decode c_Le_back 37 = .ok (.getfield 12, 3) by decide +kernel) ?_
  refine lv_aload_n hx hb (show decode c_Le_back 40 = .ok (.aload_n 0, 1) by decide +kernel) rfl (lv_at hl 0 rfl) ?_
  refine va_get (D := D) (ci := 3) (C := R_Le) (T := F_Le) (N := 2) hx hb hw ig_Le hown hK hP 11 rfl rfl 1 (by decide) (hw (.fieldLink R_Le 16 R_Le "kept" "[LStakeLedger$State;") (m_ing (by decide +kernel) (by decide +kernel))) (fun _ h9 => h9) rfl (show decode c_Le_back 41 = .ok (.getfield 16, 3) by decide +kernel) ?_
  refine lv_iload_n hx hb (show decode c_Le_back 44 = .ok (.iload_n 1, 1) by decide +kernel) rfl (lv_at hl 1 rfl) ?_
  refine va_aldq hx hb hK hP 12 2 rfl rfl (nI_in hk (by decide)) (show decode c_Le_back 45 = .ok (.aaload, 1) by decide +kernel) ?_
  rw [nI_clamp (show k < 2 ^ 31 by omega), hg]
  have hPc := hP.sub (ws' := m_ws cI cZ (adL [ad 0, ad 1, ad 2, ad 3, ad 4, ad 5, ad 6, ad 7, ad 8, ad 9, ad 10, adk 0, adk 1, adk 2, adk 3, adk 4, adk 5, adk 6, adk 7, adk 8, adk 9, adk 10]) (sW bal o nd am ro ra rd pv bc rc h j bu (oW bal2 o2 nd2 am2 ro2 ra2 rd2 pv2 bc2 rc2 h2 j2 bu2 [])) 0) [0, 1, 2, 3, 4, 5, 6, 7, 8, 9, 10, 13, 14, 15, 16, 17, 18, 19, 20, 21, 22, 23] rfl
  have hDc := hD.sub (ws' := m_ws cI cZ (adL [ad 0, ad 1, ad 2, ad 3, ad 4, ad 5, ad 6, ad 7, ad 8, ad 9, ad 10, adk 0, adk 1, adk 2, adk 3, adk 4, adk 5, adk 6, adk 7, adk 8, adk 9, adk 10]) (sW bal o nd am ro ra rd pv bc rc h j bu (oW bal2 o2 nd2 am2 ro2 ra2 rd2 pv2 bc2 rc2 h2 j2 bu2 [])) 0) [0, 1, 2, 3, 4, 5, 6, 7, 8, 9, 10, 13, 14, 15, 16, 17, 18, 19, 20, 21, 22, 23] (by decide) rfl
  have hFc := va_free (wc := m_ws cI cZ (adL [ad 0, ad 1, ad 2, ad 3, ad 4, ad 5, ad 6, ad 7, ad 8, ad 9, ad 10, adk 0, adk 1, adk 2, adk 3, adk 4, adk 5, adk 6, adk 7, adk 8, adk 9, adk 10]) (sW bal o nd am ro ra rd pv bc rc h j bu (oW bal2 o2 nd2 am2 ro2 ra2 rd2 pv2 bc2 rc2 h2 j2 bu2 [])) 0) hD hS hA [0, 1, 2, 3, 4, 5, 6, 7, 8, 9, 10, 13, 14, 15, 16, 17, 18, 19, 20, 21, 22, 23] rfl
  refine m_goVN (pb := false) (host := "StakeLedger") (Cn := R_St) (Tn := F_St) (Nn := 7) (ci := 0) (a := 0) (ad := (adL [ad 0, ad 1, ad 2, ad 3, ad 4, ad 5, ad 6, ad 7, ad 8, ad 9, ad 10, adk 0, adk 1, adk 2, adk 3, adk 4, adk 5, adk 6, adk 7, adk 8, adk 9, adk 10])) (as := [.inr 11]) (rest := []) (w := (sW bal o nd am ro ra rd pv bc rc h j bu (oW bal2 o2 nd2 am2 ro2 ra2 rd2 pv2 bc2 rc2 h2 j2 bu2 []))) (K := fun r w' => r = none ∧ ∃ bal' o' nd' am' ro' ra' rd' pv' : Nat → Int32, RC sk bal' o' nd' am' ro' ra' rd' pv' bc2 rc2 h2 j2 bu2 ∧ w' = sW bal' o' nd' am' ro' ra' rd' pv' bc2 rc2 h2 j2 bu2 (oW bal2 o2 nd2 am2 ro2 ra2 rd2 pv2 bc2 rc2 h2 j2 bu2 [])) 1 G c_sb cd_St_become (m_inn (by decide +kernel) (by decide +kernel)) (m_ing (by decide +kernel) (by decide +kernel)) (m_ing (by decide +kernel) (by decide +kernel)) (m_ing (by decide +kernel) (by decide +kernel)) rfl rfl rfl rfl ⟨by decide +kernel, by decide +kernel, by decide +kernel⟩ ⟨by decide, by decide⟩ rfl hl.1 (by decide) (show decode c_Le_back 46 = .ok (.invokevirtual 148, 3) by decide +kernel) ⟨Nat.zero_le _, Nat.zero_le _⟩ ⟨_, _, _, _, _, _, _, _, _, _, _, _, _, _, _, _, _, _, _, _, _, _, _, _, _, _, _, rfl, rfl, fun bal' o' nd' am' ro' ra' rd' pv' e1 e2 e3 e4 e5 e6 e7 e8 => ⟨rfl, bal', o', nd', am', ro', ra', rd', pv', RC_congr hRK hlk e1 e2 e3 e4 e5 e6 e7 e8, rfl⟩⟩ hPc hDc hS hA ?_
  rintro r w' H2 locs2 hN' ⟨rfl, bal', o', nd', am', ro', ra', rd', pv', hRN, rfl⟩ hP1 hfr2 hS
  have hD1 : va_D (va_A (m_ws cI cZ (adL [ad 0, ad 1, ad 2, ad 3, ad 4, ad 5, ad 6, ad 7, ad 8, ad 9, ad 10, adk 0, adk 1, adk 2, adk 3, adk 4, adk 5, adk 6, adk 7, adk 8, adk 9, adk 10]) (sW bal o nd am ro ra rd pv bc rc h j bu (oW bal2 o2 nd2 am2 ro2 ra2 rd2 pv2 bc2 rc2 h2 j2 bu2 [])) 0) H1.size) (m_ws cI cZ (adL [ad 0, ad 1, ad 2, ad 3, ad 4, ad 5, ad 6, ad 7, ad 8, ad 9, ad 10, adk 0, adk 1, adk 2, adk 3, adk 4, adk 5, adk 6, adk 7, adk 8, adk 9, adk 10]) (sW bal' o' nd' am' ro' ra' rd' pv' bc2 rc2 h2 j2 bu2 (oW bal2 o2 nd2 am2 ro2 ra2 rd2 pv2 bc2 rc2 h2 j2 bu2 [])) 0) := m_DA (m_D_of hDc hN') rfl (fun i hi => by
    obtain ⟨e1, g1⟩ := m_ws_at (cI := cI) (cZ := cZ) (ad := (adL [ad 0, ad 1, ad 2, ad 3, ad 4, ad 5, ad 6, ad 7, ad 8, ad 9, ad 10, adk 0, adk 1, adk 2, adk 3, adk 4, adk 5, adk 6, adk 7, adk 8, adk 9, adk 10])) (sW bal o nd am ro ra rd pv bc rc h j bu (oW bal2 o2 nd2 am2 ro2 ra2 rd2 pv2 bc2 rc2 h2 j2 bu2 [])) (k := i) hi
    exact Or.inl ⟨i, e1, g1⟩)
  obtain ⟨hPn, -⟩ := va_join (wr := [(ad 11, .inr (3, [.ref (ad 0), .ref (ad 12)])), (ad 12, z_kp cK g)]) (w1 := m_ws cI cZ (adL [ad 0, ad 1, ad 2, ad 3, ad 4, ad 5, ad 6, ad 7, ad 8, ad 9, ad 10, adk 0, adk 1, adk 2, adk 3, adk 4, adk 5, adk 6, adk 7, adk 8, adk 9, adk 10]) (sW bal' o' nd' am' ro' ra' rd' pv' bc2 rc2 h2 j2 bu2 (oW bal2 o2 nd2 am2 ro2 ra2 rd2 pv2 bc2 rc2 h2 j2 bu2 [])) 0) hP hD [0, 1, 2, 3, 4, 5, 6, 7, 8, 9, 10, 13, 14, 15, 16, 17, 18, 19, 20, 21, 22, 23] [11, 12] rfl rfl (by decide) (by decide) hfr2 hFc hP1 hD1
  have hP : va_P D m_cl (k_ws cI cZ cK ad adk g (lW bal' o' nd' am' ro' ra' rd' pv' bc2 rc2 h2 j2 bu2 []) (sW bal2 o2 nd2 am2 ro2 ra2 rd2 pv2 bc2 rc2 h2 j2 bu2 [])) H2 := hPn.sub [2, 3, 4, 5, 6, 7, 8, 9, 10, 11, 12, 0, 1, 13, 14, 15, 16, 17, 18, 19, 20, 21, 22, 23] rfl
  refine lv_aload_n hx hb (show decode c_Le_back 49 = .ok (.aload_n 0, 1) by decide +kernel) rfl (lv_at hl 0 rfl) ?_
  refine va_get (D := D) (ci := 3) (C := R_Le) (T := F_Le) (N := 2) hx hb hw ig_Le hown hK hP 11 rfl rfl 0 (by decide) (hw (.fieldLink R_Le 12 R_Le "now" "LStakeLedger$State;") (m_ing (by decide +kernel) (by decide +kernel))) (fun _ h9 => h9) rfl (show decode c_Le_back 50 = .ok (.getfield 12, 3) by decide +kernel) ?_
  refine va_getN (D := D) (ci := 0) (C := R_St) (T := F_St) (N := 7) (host := "StakeLedger") hx hb hw ig_St hown hK hP 0 rfl rfl 4 (by decide) (va_Nw.use (m_isN_on (nw_ok _ (m_inn (by decide +kernel) (by decide +kernel)))) (hnw (.fieldLinkNest R_Le 98 R_St "height" "I" "StakeLedger") (m_inn (by decide +kernel) (by decide +kernel)))) (fun _ h9 => h9) (v := .int h2) rfl (show decode c_Le_back 53 = .ok (.getfield 98, 3) by decide +kernel) ?_
  have eh : h2 = sk.2.2.2.2.2.2 := by
    obtain ⟨L, c, r1, r2, r3, r4, r5, r6, r7, r8, r9⟩ := hRK
    exact r9
  refine W.iret hx hb hr (fun t ht hW => ⟨⟨lW bal' o' nd' am' ro' ra' rd' pv' bc2 rc2 h2 j2 bu2 [], by rw [eh], ⟨bal', o', nd', am', ro', ra', rd', pv', _, _, _, _, _, rfl, hRN⟩, by rw [ht]; exact hP⟩, hS.F ht⟩) hS.2.2 (show decode c_Le_back 56 = .ok (.ireturn, 1) by decide +kernel)
