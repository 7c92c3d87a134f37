/-! The ledger's constructor. -/
abbrev z_kp (cK : ClassId) (g : Nat → Option Nat) : va_E := .inl (cK, 8, .inr (.inr (.inr (.inr g))))
def z_preL (D : va_G) (cI cZ : ClassId) (ci h0 : Nat) (fs : List Value) (sz : Nat) : Array Value → State → Prop :=
  va_Pc [.ref h0] (fun U => U.heap.size = sz ∧ va_P D m_cl [(h0, .inr (ci, fs))] U.heap ∧ va_K D m_cl (z_ty cI cZ) U ∧ va_D (fun _ => True) [(h0, .inr (ci, fs))] ∧ (∀ x ∈ nw, va_Nw x U) ∧ va_AO R_St U)
theorem z_blindL {D : va_G} {cI cZ : ClassId} {ci h0 : Nat} {fs : List Value} {sz : Nat} : FrameBlind (z_preL D cI cZ ci h0 fs sz) := by
  intro a U g mk q
  obtain ⟨q0, q1, qP, qK, qD, qN, qO⟩ := q
  exact ⟨q0, q1, qP, va_K.moved (u := U) (U := U.calling g mk a) (Vm.Alike.refl U.vm) qK, qD, fun x hx => va_Nw.same (u := U) (U := U.calling g mk a) (m_isN_on (nw_ok x hx)) rfl (qN x hx), va_AO.moved (u := U) (U := U.calling g mk a) (Vm.Alike.refl U.vm) qO⟩
/-- a new ledger's world: places 0 to 10 its state, 11 the ledger, 12 what is kept -/
def z_Le (D : va_G) (cI cZ : ClassId) (A : Nat → Prop) (h0 : Nat) (u : (Nat → Nat) × ClassId) (t : State) : Prop := u.1 11 = h0 ∧ va_K D m_cl (z_ty cI cZ ++ [(u.2, .object R_St)]) t ∧ ∃ w, RCw a_0 [] w ∧ va_P D m_cl (m_ws cI cZ u.1 w 0 ++ [(u.1 12, z_kp u.2 (fun _ => none))]) t.heap ∧ va_D A (m_ws cI cZ u.1 w 0 ++ [(u.1 12, z_kp u.2 (fun _ => none))])
set_option maxHeartbeats 8000000 in
set_option maxRecDepth 20000 in
theorem i_Le (l : Launch) (D : va_G) (cI cZ : ClassId) (h0 sz : Nat) : Met l y_Le_init ws_Le_init (rmI 3 12 623) (z_preL D cI cZ 3 h0 [.null, .null] sz)
    (va_Qv (fun _ : (Nat → Nat) × ClassId => True) (fun u t => z_Le D cI cZ (va_A [(h0, .inr (3, [.null, .null]))] sz) h0 u t) (va_A [(h0, .inr (3, [.null, .null]))] sz)) 12 623 (va_A [(h0, .inr (3, [.null, .null]))] sz) := by
  refine Met.ofW (cc := c_Le_init) (maxL := 1) (ret := none) (by decide) rfl ?_
  intro p e s m args below meth c s₁ B hml hv
  obtain ⟨rfl, hsz, hP, hK, hD0, hnw, hao⟩ := hv
  have hx := B.exec
  have hb := B.bytes
  have hr := B.returns
  have hts := atoms_spec (ws := ws_Le_init) B.pre
  have hg : ∀ x ∈ gw, x.before #[Value.ref h0] s = true := fun x h => hts x (List.mem_cons_of_mem _ h)
  have hown : s.vm.findClass R_Le = some m.cls := findClass_of_methodNamed B.named
  have hlocks := B.notSynchronized
  have hin : meth.name = "<init>" := (name_of_methodNamed B.named B.method).1
  subst hsz
  have hD := hD0.self (sz := s.heap.size)
  generalize hAe : va_A [(h0, .inr (3, [.null, .null]))] s.heap.size = A at hD ⊢
  have hA : ∀ q : Nat, s.heap.size ≤ q → A q := fun q h => by rw [← hAe]; exact Or.inr h
  have hS : va_S A s.heap s.heap [] := va_S.rf
  have hl := lv_entry ([.ref h0]) (n := 1) (Nat.le_of_ble_eq_true rfl)
  rw [lg_entry_eq]
  generalize (lg_sl ([.ref h0]) ++ List.replicate (1 - (lg_sl ([.ref h0])).length) Slot.unset).toArray = ls at hl ⊢
  have hl : lv_has ls 1 [(0, .ref h0)] := hl
  refine lv_aload_n hx hb (show decode c_Le_init 0 = .ok (.aload_n 0, 1) by decide +kernel) rfl (lv_at hl 0 rfl) ?_
  refine W.objInit hx hb hown (hg (.methodLink R_Le 3 objectInit) (m_ing (by decide +kernel) (by decide +kernel))) (hg (.instanceMethod objectInit) (m_ing (by decide +kernel) (by decide +kernel))) (hg (.code objectInit ⟨#[0xb1]⟩ 1 none) (m_ing (by decide +kernel) (by decide +kernel))) rfl (by rw [hml]; exact hl.1) rfl (show decode c_Le_init 1 = .ok (.invokespecial 3, 3) by decide +kernel) (Nat.le_of_ble_eq_true rfl) (Nat.le_of_ble_eq_true rfl) ?_
  refine W.eq (g2 := F0 m 4 ls []) rfl ?_
  refine lv_aload_n hx hb (show decode c_Le_init 4 = .ok (.aload_n 0, 1) by decide +kernel) rfl (lv_at hl 0 rfl) ?_
  refine va_new (ci := 0) (fs := [.null, .null, .null, .null, .int 0, .int 0, .int 0]) (C := R_St) (T := F_St) (N := 7) hx hb hg ig_St t_St k_St hown (hg (.classLink R_Le 9 R_St) (m_ing (by decide +kernel) (by decide +kernel))) (hg (.instantiable R_St 7) (m_ing (by decide +kernel) (by decide +kernel))) (hg (.initialized R_St) (m_ing (by decide +kernel) (by decide +kernel))) hK hP hD hS hA rfl (fun j hj => by rcases (show j = 0 ∨ j = 1 ∨ j = 2 ∨ j = 3 ∨ j = 4 ∨ j = 5 ∨ j = 6 by omega) with rfl | rfl | rfl | rfl | rfl | rfl | rfl <;> rfl) (Nat.le_of_ble_eq_true rfl) (Nat.le_of_ble_eq_true rfl) (show decode c_Le_init 5 = .ok (.new 9, 3) by decide +kernel) (fun q1 H hP hD hS => ?_)
  have hP : va_P D m_cl [(h0, .inr (3, [.null, .null])), (q1, .inr (0, [.null, .null, .null, .null, .int 0, .int 0, .int 0]))] H := hP
  have hD : va_D A [(h0, .inr (3, [.null, .null])), (q1, .inr (0, [.null, .null, .null, .null, .int 0, .int 0, .int 0]))] := hD
  refine lv_dup hx hb (show decode c_Le_init 8 = .ok (.dup, 1) by decide +kernel) rfl ?_
  have hPc := hP.sub (ws' := [(q1, .inr (0, [.null, .null, .null, .null, .int 0, .int 0, .int 0]))]) [1] rfl
  have hDc := hD.sub (ws' := [(q1, .inr (0, [.null, .null, .null, .null, .int 0, .int 0, .int 0]))]) [1] (by decide) rfl
  have hFc := va_free (wc := [(q1, .inr (0, [.null, .null, .null, .null, .int 0, .int 0, .int 0]))]) hD hS hA [1] rfl
  refine va_callv (va_runIN (host := "StakeLedger") (As := []) (rest := [.ref q1, .ref h0]) ⟨hx, hb, hml, hown, hts⟩ (i_St l D cI cZ q1 H.size) ⟨va_cnB 0 hts (m_good_in gw_ok cd_St_init) rfl rfl rfl (hnw (.methodLinkNest R_Le 11 y_St_init "StakeLedger") (m_inn (by decide +kernel) (by decide +kernel))) (hg (.initialized R_St) (m_ing (by decide +kernel) (by decide +kernel))) ⟨by decide, by decide, by decide +kernel⟩ ⟨Nat.le_of_ble_eq_true rfl, Nat.le_of_ble_eq_true rfl⟩, rfl, hg (.instanceMethod y_St_init) (m_ing (by decide +kernel) (by decide +kernel))⟩ ⟨z_blindN, fun U hU hW => ⟨rfl, by rw [hU], by rw [hU]; exact hPc, va_K.moved hW.alike hK, hDc.weaken (fun _ _ _ _ => trivial), fun x hx' => m_isN_warm (nw_ok x hx') hW (hnw x hx')⟩⟩ rfl rfl hl.1 rfl (lv_room (Nat.le_of_ble_eq_true rfl)) (show decode c_Le_init 9 = .ok (.invokespecial 11, 3) by decide +kernel) ⟨Nat.le_of_ble_eq_true rfl, Nat.le_of_ble_eq_true rfl⟩) hS (fun q _ h => hFc q h) hFc (fun ad t H1 locs ht hvm h5 hB hz1 hk1 hS => ?_)
  obtain ⟨e0, bal, o, nd, am, ro, ra, rd, pv, bc, rc, h, j, bu, hRC, hP1, hD1⟩ := hB
  subst e0
  rw [ht] at hP1
  obtain ⟨hP, hD⟩ := va_join (wr := [(h0, .inr (3, [.null, .null]))]) (w1 := m_ws cI cZ ad (sW bal o nd am ro ra rd pv bc rc h j bu []) 0) hP hD [1] [0] rfl rfl (by decide) (by decide) hk1 hFc hP1 hD1
  generalize H1 = H at hP hS ⊢
  refine va_putF (D := D) (ci := 3) (v := .ref (ad 0)) (ty := .object R_St) (C := R_Le) (T := F_Le) (N := 2) hx hb hg ig_Le t_Le k_Le n_Le hown hK hP hD hS 0 rfl rfl 0 (by decide) (hg (.fieldLink R_Le 12 R_Le "now" "LStakeLedger$State;") (m_ing (by decide +kernel) (by decide +kernel))) (fun _ h9 => h9) rfl hin rfl (by decide +kernel) rfl rfl (Nat.le_of_ble_eq_true rfl) (show decode c_Le_init 12 = .ok (.putfield 12, 3) by decide +kernel) (fun H locs hP hD hS => ?_)
  refine lv_aload_n hx hb (show decode c_Le_init 15 = .ok (.aload_n 0, 1) by decide +kernel) rfl (lv_at hl 0 rfl) ?_
  refine lv_bipush hx hb (show decode c_Le_init 16 = .ok (.bipush 8, 2) by decide +kernel) rfl ?_
  refine va_newq hx hb (C := R_St) hown (hg (.classLink R_Le 9 R_St) (m_ing (by decide +kernel) (by decide +kernel))) hao hK hP hD hS hA (N' := 8) (by decide) (by decide) (by decide) (Nat.le_of_ble_eq_true rfl) (Nat.le_of_ble_eq_true rfl) (show decode c_Le_init 18 = .ok (.anewarray 9, 3) by decide +kernel) (fun qk cK H hK2 hP hD hS => ?_)
  refine va_putF (D := D) (ci := 3) (v := .ref qk) (ty := .array (.object R_St)) (C := R_Le) (T := F_Le) (N := 2) hx hb hg ig_Le t_Le k_Le n_Le hown hK hP hD hS 0 rfl rfl 1 (by decide) (hg (.fieldLink R_Le 16 R_Le "kept" "[LStakeLedger$State;") (m_ing (by decide +kernel) (by decide +kernel))) (fun _ h9 => h9) rfl hin rfl (by decide +kernel) rfl rfl (Nat.le_of_ble_eq_true rfl) (show decode c_Le_init 21 = .ok (.putfield 16, 3) by decide +kernel) (fun H locs hP hD hS => ?_)
  have hP9 := hP.sub (ws' := m_ws cI cZ (adL [ad 0, ad 1, ad 2, ad 3, ad 4, ad 5, ad 6, ad 7, ad 8, ad 9, ad 10, h0, qk]) (lW bal o nd am ro ra rd pv bc rc h j bu []) 0 ++ [(qk, z_kp cK (fun _ => none))]) [1, 2, 3, 4, 5, 6, 7, 8, 9, 10, 11, 0, 12] rfl
  have hD9 := hD.sub (ws' := m_ws cI cZ (adL [ad 0, ad 1, ad 2, ad 3, ad 4, ad 5, ad 6, ad 7, ad 8, ad 9, ad 10, h0, qk]) (lW bal o nd am ro ra rd pv bc rc h j bu []) 0 ++ [(qk, z_kp cK (fun _ => none))]) [1, 2, 3, 4, 5, 6, 7, 8, 9, 10, 11, 0, 12] (by decide) rfl
  exact W.vret hx hb hr (fun t ht hW => ⟨⟨(adL [ad 0, ad 1, ad 2, ad 3, ad 4, ad 5, ad 6, ad 7, ad 8, ad 9, ad 10, h0, qk], cK), rfl, trivial, rfl, va_K.moved hW.alike hK2, _, ⟨bal, o, nd, am, ro, ra, rd, pv, bc, rc, h, j, bu, rfl, hRC⟩, by rw [ht]; exact hP9, hAe ▸ hD9⟩, hS.F ht⟩) hS.2.2 (show decode c_Le_init 24 = .ok (.return_, 1) by decide +kernel)
