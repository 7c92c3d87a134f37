/-! The state's constructor. -/
def z_preN (D : va_G) (cI cZ : ClassId) (ci h0 : Nat) (fs : List Value) (sz : Nat) : Array Value → State → Prop :=
  va_Pc [.ref h0] (fun U => U.heap.size = sz ∧ va_P D m_cl [(h0, .inr (ci, fs))] U.heap ∧ va_K D m_cl (z_ty cI cZ) U ∧ va_D (fun _ => True) [(h0, .inr (ci, fs))] ∧ ∀ x ∈ nw, va_Nw x U)
theorem z_blind {D : va_G} {cI cZ : ClassId} {ci h0 : Nat} {fs : List Value} {sz : Nat} : FrameBlind (z_pre D cI cZ ci h0 fs sz) := by
  intro a U g mk q
  obtain ⟨q0, q1, qP, qK, qD⟩ := q
  exact ⟨q0, q1, qP, va_K.moved (u := U) (U := U.calling g mk a) (Vm.Alike.refl U.vm) qK, qD⟩
theorem z_blindN {D : va_G} {cI cZ : ClassId} {ci h0 : Nat} {fs : List Value} {sz : Nat} : FrameBlind (z_preN D cI cZ ci h0 fs sz) := by
  intro a U g mk q
  obtain ⟨q0, q1, qP, qK, qD, qN⟩ := q
  exact ⟨q0, q1, qP, va_K.moved (u := U) (U := U.calling g mk a) (Vm.Alike.refl U.vm) qK, qD, fun x hx => va_Nw.same (u := U) (U := U.calling g mk a) (m_isN_on (nw_ok x hx)) rfl (qN x hx)⟩
/-- addresses, as a list tells them -/
def adL (l : List Nat) (k : Nat) : Nat := l.getD k 0
theorem ky_diag {i : Nat} (h : i < 16) : ky ((List.range 16).map (fun k => (k, k))) i = (i, i) := by
  have h1 : ((List.range 16).map (fun k => (k, k)))[i]? = some (i, i) := by
    rw [List.getElem?_map, List.getElem?_range h]
    rfl
  have h2 := ky_get (L := (List.range 16).map (fun k => (k, k))) (j := i) (by rw [List.length_map, List.length_range]; exact h)
  rw [h1] at h2
  exact (Option.some.inj h2).symm
theorem RC_0 {bal o nd am ro ra rd pv : Nat → Int32} (h1 : ∀ k, k < 200 → bal k = 1000) (h2 : ∀ k, k < 16 → o k = nI k ∧ nd k = nI k ∧ am k = 100) (h3 : ∀ k, k < 16 → pv k = 0) : RC a_0 bal o nd am ro ra rd pv 16 0 0 0 0 := by
  refine ⟨(List.range 16).map (fun k => (k, k)), 16, rfl, ⟨rfl, by omega, by decide, fun q hq => ?_, fun i hi => ?_, fun x n hx hn => ?_⟩, fun k hk => h1 k hk, fun i r hi => by simp [a_0] at hi, rfl, fun k hk => h3 k hk, fun i hi => ?_, rfl, rfl⟩
  · obtain ⟨k, hk, rfl⟩ := List.mem_map.mp hq
    rw [List.mem_range] at hk
    exact ⟨by show k < 200; omega, hk⟩
  · rw [ky_diag hi]
    obtain ⟨e1, e2, e3⟩ := h2 i hi
    refine ⟨e1, e2, ?_⟩
    rw [e3]
    show _ = if (16 * i + i) / 16 = (16 * i + i) % 16 then (100 : Int32) else 0
    rw [if_pos (by omega)]
  · show _ ↔ ¬ (if (16 * x + n) / 16 = (16 * x + n) % 16 then (100 : Int32) else 0) = 0
    have e : (16 * x + n) / 16 = (16 * x + n) % 16 ↔ x = n := by omega
    constructor
    · intro hm
      obtain ⟨k, hk, e2⟩ := List.mem_map.mp hm
      cases e2
      rw [if_pos (e.mpr rfl)]
      decide
    · intro hne
      by_cases z : x = n
      · subst z
        exact List.mem_map.mpr ⟨x, List.mem_range.mpr hn, rfl⟩
      · rw [if_neg (fun y => z (e.mp y))] at hne
        exact absurd rfl hne
  · rw [b_0]
    show false = (decide (i < 16) && false)
    simp
def p_St_init : List mI := [(43, .aload_n 0, 1, 44, 0, 0, []), (44, .invokevirtual 32, 3, 47, 0, 0, []), (47, .return_, 1, 48, 0, 0, [])]
theorem wf_St_init : m_wf c_St_init p_St_init = true := by decide +kernel
theorem ct_sf_r : ∀ as w K, ct_sf as w K → ∃ a r fs, as = .inr a :: r ∧ w[a]? = some (.inr (0, fs)) := by
  intro as w K h
  obtain ⟨_, _, _, _, _, _, _, _, _, _, _, _, _, _, rfl, rfl, _⟩ := h
  exact ⟨0, _, _, rfl, rfl⟩
/-- a new state's world -/
def z_St (D : va_G) (cI cZ : ClassId) (A : Nat → Prop) (h0 : Nat) (ad : Nat → Nat) (t : State) : Prop := ad 0 = h0 ∧ ∃ bal o nd am ro ra rd pv bc rc h j bu, RC a_0 bal o nd am ro ra rd pv bc rc h j bu ∧ va_P D m_cl (m_ws cI cZ ad (sW bal o nd am ro ra rd pv bc rc h j bu []) 0) t.heap ∧ va_D A (m_ws cI cZ ad (sW bal o nd am ro ra rd pv bc rc h j bu []) 0)
set_option maxHeartbeats 8000000 in
set_option maxRecDepth 20000 in
theorem i_St (l : Launch) (D : va_G) (cI cZ : ClassId) (h0 sz : Nat) : Met l y_St_init ws_St_init (rmI 2 10 608) (z_preN D cI cZ 0 h0 [.null, .null, .null, .null, .int 0, .int 0, .int 0] sz)
    (va_Qv (fun _ : Nat → Nat => True) (fun u t => z_St D cI cZ (va_A [(h0, .inr (0, [.null, .null, .null, .null, .int 0, .int 0, .int 0]))] sz) h0 u t) (va_A [(h0, .inr (0, [.null, .null, .null, .null, .int 0, .int 0, .int 0]))] sz)) 10 608 (va_A [(h0, .inr (0, [.null, .null, .null, .null, .int 0, .int 0, .int 0]))] sz) := by
  refine Met.ofW (cc := c_St_init) (maxL := 1) (ret := none) (by decide) rfl ?_
  intro p e s m args below meth c s₁ B hml hv
  obtain ⟨rfl, hsz, hP, hK, hD0, hnw⟩ := hv
  have hx := B.exec
  have hb := B.bytes
  have hr := B.returns
  have hts := atoms_spec (ws := ws_St_init) B.pre
  have hg : ∀ x ∈ gw, x.before #[Value.ref h0] s = true := fun x h => hts x (List.mem_cons_of_mem _ h)
  have hown : s.vm.findClass R_St = some m.cls := findClass_of_methodNamed B.named
  have hlocks := B.notSynchronized
  have hin : meth.name = "<init>" := (name_of_methodNamed B.named B.method).1
  subst hsz
  have hD := hD0.self (sz := s.heap.size)
  generalize hAe : va_A [(h0, .inr (0, [.null, .null, .null, .null, .int 0, .int 0, .int 0]))] s.heap.size = A at hD ⊢
  have hA : ∀ q : Nat, s.heap.size ≤ q → A q := fun q h => by rw [← hAe]; exact Or.inr h
  have hS : va_S A s.heap s.heap [] := va_S.rf
  have hl := lv_entry ([.ref h0]) (n := 1) (Nat.le_of_ble_eq_true rfl)
  rw [lg_entry_eq]
  generalize (lg_sl ([.ref h0]) ++ List.replicate (1 - (lg_sl ([.ref h0])).length) Slot.unset).toArray = ls at hl ⊢
  have hl : lv_has ls 1 [(0, .ref h0)] := hl
  refine lv_aload_n hx hb (show decode c_St_init 0 = .ok (.aload_n 0, 1) by decide +kernel) rfl (lv_at hl 0 rfl) ?_
  refine W.objInit hx hb hown (hg (.methodLink R_St 3 objectInit) (m_ing (by decide +kernel) (by decide +kernel))) (hg (.instanceMethod objectInit) (m_ing (by decide +kernel) (by decide +kernel))) (hg (.code objectInit ⟨#[0xb1]⟩ 1 none) (m_ing (by decide +kernel) (by decide +kernel))) rfl (by rw [hml]; exact hl.1) rfl (show decode c_St_init 1 = .ok (.invokespecial 3, 3) by decide +kernel) (Nat.le_of_ble_eq_true rfl) (Nat.le_of_ble_eq_true rfl) ?_
  refine W.eq (g2 := F0 m 4 ls []) rfl ?_
  refine lv_aload_n hx hb (show decode c_St_init 4 = .ok (.aload_n 0, 1) by decide +kernel) rfl (lv_at hl 0 rfl) ?_
  refine lv_sipush hx hb (show decode c_St_init 5 = .ok (.sipush 200, 3) by decide +kernel) rfl ?_
  refine va_newa hx hb (atype := .int) (hg (.arrayClass .int) (m_ing (by decide +kernel) (by decide +kernel))) (ty := .int) rfl hK hP hD hS hA (N' := 200) (a0 := (200, .inl (fun _ => 0))) (fun _ => rfl) (by decide) (by decide) (by decide) (Nat.le_of_ble_eq_true rfl) (Nat.le_of_ble_eq_true rfl) (show decode c_St_init 8 = .ok (.newarray .int, 2) by decide +kernel) (fun q1 cA H hK2 hP hD hS => ?_)
  have e1 := z_same hK2
  subst e1
  refine va_putF (D := D) (ci := 0) (v := .ref q1) (ty := .array .int) (C := R_St) (T := F_St) (N := 7) hx hb hg ig_St t_St k_St n_St hown hK hP hD hS 0 rfl rfl 0 (by decide) (hg (.fieldLink R_St 9 R_St "balance" "[I") (m_ing (by decide +kernel) (by decide +kernel))) (fun _ h9 => h9) rfl hin rfl (by decide +kernel) rfl rfl (Nat.le_of_ble_eq_true rfl) (show decode c_St_init 10 = .ok (.putfield 9, 3) by decide +kernel) (fun H locs hP hD hS => ?_)
  have hP : va_P D m_cl [(h0, .inr (0, [.ref q1, .null, .null, .null, .int 0, .int 0, .int 0])), (q1, z_ar cA 200)] H := hP
  have hD : va_D A [(h0, .inr (0, [.ref q1, .null, .null, .null, .int 0, .int 0, .int 0])), (q1, z_ar cA 200)] := hD
  refine lv_aload_n hx hb (show decode c_St_init 13 = .ok (.aload_n 0, 1) by decide +kernel) rfl (lv_at hl 0 rfl) ?_
  refine va_new (ci := 1) (fs := [.null, .null, .null, .int 0]) (C := R_Bo) (T := F_Bo) (N := 4) hx hb hg ig_Bo t_Bo k_Bo hown (hg (.classLink R_St 15 R_Bo) (m_ing (by decide +kernel) (by decide +kernel))) (hg (.instantiable R_Bo 4) (m_ing (by decide +kernel) (by decide +kernel))) (hg (.initialized R_Bo) (m_ing (by decide +kernel) (by decide +kernel))) hK hP hD hS hA rfl (fun j hj => by rcases (show j = 0 ∨ j = 1 ∨ j = 2 ∨ j = 3 by omega) with rfl | rfl | rfl | rfl <;> rfl) (Nat.le_of_ble_eq_true rfl) (Nat.le_of_ble_eq_true rfl) (show decode c_St_init 14 = .ok (.new 15, 3) by decide +kernel) (fun q2 H hP hD hS => ?_)
  have hP : va_P D m_cl [(h0, .inr (0, [.ref q1, .null, .null, .null, .int 0, .int 0, .int 0])), (q1, z_ar cA 200), (q2, .inr (1, [.null, .null, .null, .int 0]))] H := hP
  have hD : va_D A [(h0, .inr (0, [.ref q1, .null, .null, .null, .int 0, .int 0, .int 0])), (q1, z_ar cA 200), (q2, .inr (1, [.null, .null, .null, .int 0]))] := hD
  refine lv_dup hx hb (show decode c_St_init 17 = .ok (.dup, 1) by decide +kernel) rfl ?_
  have hPc := hP.sub (ws' := [(q2, .inr (1, [.null, .null, .null, .int 0]))]) [2] rfl
  have hDc := hD.sub (ws' := [(q2, .inr (1, [.null, .null, .null, .int 0]))]) [2] (by decide) rfl
  have hFc := va_free (wc := [(q2, .inr (1, [.null, .null, .null, .int 0]))]) hD hS hA [2] rfl
  refine va_callv (va_runIN (host := "StakeLedger") (As := []) (rest := [.ref q2, .ref h0]) ⟨hx, hb, hml, hown, hts⟩ (i_Bo l D cA cZ q2 H.size) ⟨va_cnB 0 hts (m_good_in gw_ok cd_Bo_init) rfl rfl rfl (hnw (.methodLinkNest R_St 17 y_Bo_init "StakeLedger") (m_inn (by decide +kernel) (by decide +kernel))) (hg (.initialized R_Bo) (m_ing (by decide +kernel) (by decide +kernel))) ⟨by decide, by decide, by decide +kernel⟩ ⟨Nat.le_of_ble_eq_true rfl, Nat.le_of_ble_eq_true rfl⟩, rfl, hg (.instanceMethod y_Bo_init) (m_ing (by decide +kernel) (by decide +kernel))⟩ ⟨z_blind, fun U hU hW => ⟨rfl, by rw [hU], by rw [hU]; exact hPc, va_K.moved hW.alike hK, hDc.weaken (fun _ _ _ _ => trivial)⟩⟩ rfl rfl hl.1 rfl (lv_room (Nat.le_of_ble_eq_true rfl)) (show decode c_St_init 18 = .ok (.invokespecial 17, 3) by decide +kernel) ⟨Nat.le_of_ble_eq_true rfl, Nat.le_of_ble_eq_true rfl⟩) hS (fun q _ h => hFc q h) hFc (fun u t H1 locs ht hvm h5 hB hz1 hk1 hS => ?_)
  obtain ⟨q2a, q2b, q2c⟩ := u
  obtain ⟨hP1, hD1⟩ := hB
  rw [ht] at hP1
  obtain ⟨hP, hD⟩ := va_join (wr := [(h0, .inr (0, [.ref q1, .null, .null, .null, .int 0, .int 0, .int 0])), (q1, z_ar cA 200)]) (w1 := [(q2, .inr (1, [.ref q2a, .ref q2b, .ref q2c, .int 0])), (q2a, z_ar cA 96), (q2b, z_ar cA 96), (q2c, z_ar cA 96)]) hP hD [2] [0, 1] rfl rfl (by decide) (by decide) hk1 hFc hP1 hD1
  generalize H1 = H at hP hS ⊢
  have hP : va_P D m_cl [(h0, .inr (0, [.ref q1, .null, .null, .null, .int 0, .int 0, .int 0])), (q1, z_ar cA 200), (q2, .inr (1, [.ref q2a, .ref q2b, .ref q2c, .int 0])), (q2a, z_ar cA 96), (q2b, z_ar cA 96), (q2c, z_ar cA 96)] H := hP
  have hD : va_D A [(h0, .inr (0, [.ref q1, .null, .null, .null, .int 0, .int 0, .int 0])), (q1, z_ar cA 200), (q2, .inr (1, [.ref q2a, .ref q2b, .ref q2c, .int 0])), (q2a, z_ar cA 96), (q2b, z_ar cA 96), (q2c, z_ar cA 96)] := hD
  refine va_putF (D := D) (ci := 0) (v := .ref q2) (ty := .object R_Bo) (C := R_St) (T := F_St) (N := 7) hx hb hg ig_St t_St k_St n_St hown hK hP hD hS 0 rfl rfl 1 (by decide) (hg (.fieldLink R_St 18 R_St "bonds" "LStakeLedger$Bonds;") (m_ing (by decide +kernel) (by decide +kernel))) (fun _ h9 => h9) rfl hin rfl (by decide +kernel) rfl rfl (Nat.le_of_ble_eq_true rfl) (show decode c_St_init 21 = .ok (.putfield 18, 3) by decide +kernel) (fun H locs hP hD hS => ?_)
  have hP : va_P D m_cl [(h0, .inr (0, [.ref q1, .ref q2, .null, .null, .int 0, .int 0, .int 0])), (q1, z_ar cA 200), (q2, .inr (1, [.ref q2a, .ref q2b, .ref q2c, .int 0])), (q2a, z_ar cA 96), (q2b, z_ar cA 96), (q2c, z_ar cA 96)] H := hP
  have hD : va_D A [(h0, .inr (0, [.ref q1, .ref q2, .null, .null, .int 0, .int 0, .int 0])), (q1, z_ar cA 200), (q2, .inr (1, [.ref q2a, .ref q2b, .ref q2c, .int 0])), (q2a, z_ar cA 96), (q2b, z_ar cA 96), (q2c, z_ar cA 96)] := hD
  refine lv_aload_n hx hb (show decode c_St_init 24 = .ok (.aload_n 0, 1) by decide +kernel) rfl (lv_at hl 0 rfl) ?_
  refine va_new (ci := 2) (fs := [.null, .null, .null, .int 0]) (C := R_Re) (T := F_Re) (N := 4) hx hb hg ig_Re t_Re k_Re hown (hg (.classLink R_St 22 R_Re) (m_ing (by decide +kernel) (by decide +kernel))) (hg (.instantiable R_Re 4) (m_ing (by decide +kernel) (by decide +kernel))) (hg (.initialized R_Re) (m_ing (by decide +kernel) (by decide +kernel))) hK hP hD hS hA rfl (fun j hj => by rcases (show j = 0 ∨ j = 1 ∨ j = 2 ∨ j = 3 by omega) with rfl | rfl | rfl | rfl <;> rfl) (Nat.le_of_ble_eq_true rfl) (Nat.le_of_ble_eq_true rfl) (show decode c_St_init 25 = .ok (.new 22, 3) by decide +kernel) (fun q3 H hP hD hS => ?_)
  have hP : va_P D m_cl [(h0, .inr (0, [.ref q1, .ref q2, .null, .null, .int 0, .int 0, .int 0])), (q1, z_ar cA 200), (q2, .inr (1, [.ref q2a, .ref q2b, .ref q2c, .int 0])), (q2a, z_ar cA 96), (q2b, z_ar cA 96), (q2c, z_ar cA 96), (q3, .inr (2, [.null, .null, .null, .int 0]))] H := hP
  have hD : va_D A [(h0, .inr (0, [.ref q1, .ref q2, .null, .null, .int 0, .int 0, .int 0])), (q1, z_ar cA 200), (q2, .inr (1, [.ref q2a, .ref q2b, .ref q2c, .int 0])), (q2a, z_ar cA 96), (q2b, z_ar cA 96), (q2c, z_ar cA 96), (q3, .inr (2, [.null, .null, .null, .int 0]))] := hD
  refine lv_dup hx hb (show decode c_St_init 28 = .ok (.dup, 1) by decide +kernel) rfl ?_
  have hPc := hP.sub (ws' := [(q3, .inr (2, [.null, .null, .null, .int 0]))]) [6] rfl
  have hDc := hD.sub (ws' := [(q3, .inr (2, [.null, .null, .null, .int 0]))]) [6] (by decide) rfl
  have hFc := va_free (wc := [(q3, .inr (2, [.null, .null, .null, .int 0]))]) hD hS hA [6] rfl
  refine va_callv (va_runIN (host := "StakeLedger") (As := []) (rest := [.ref q3, .ref h0]) ⟨hx, hb, hml, hown, hts⟩ (i_Re l D cA cZ q3 H.size) ⟨va_cnB 0 hts (m_good_in gw_ok cd_Re_init) rfl rfl rfl (hnw (.methodLinkNest R_St 24 y_Re_init "StakeLedger") (m_inn (by decide +kernel) (by decide +kernel))) (hg (.initialized R_Re) (m_ing (by decide +kernel) (by decide +kernel))) ⟨by decide, by decide, by decide +kernel⟩ ⟨Nat.le_of_ble_eq_true rfl, Nat.le_of_ble_eq_true rfl⟩, rfl, hg (.instanceMethod y_Re_init) (m_ing (by decide +kernel) (by decide +kernel))⟩ ⟨z_blind, fun U hU hW => ⟨rfl, by rw [hU], by rw [hU]; exact hPc, va_K.moved hW.alike hK, hDc.weaken (fun _ _ _ _ => trivial)⟩⟩ rfl rfl hl.1 rfl (lv_room (Nat.le_of_ble_eq_true rfl)) (show decode c_St_init 29 = .ok (.invokespecial 24, 3) by decide +kernel) ⟨Nat.le_of_ble_eq_true rfl, Nat.le_of_ble_eq_true rfl⟩) hS (fun q _ h => hFc q h) hFc (fun u t H1 locs ht hvm h5 hB hz1 hk1 hS => ?_)
  obtain ⟨q3a, q3b, q3c⟩ := u
  obtain ⟨hP1, hD1⟩ := hB
  rw [ht] at hP1
  obtain ⟨hP, hD⟩ := va_join (wr := [(h0, .inr (0, [.ref q1, .ref q2, .null, .null, .int 0, .int 0, .int 0])), (q1, z_ar cA 200), (q2, .inr (1, [.ref q2a, .ref q2b, .ref q2c, .int 0])), (q2a, z_ar cA 96), (q2b, z_ar cA 96), (q2c, z_ar cA 96)]) (w1 := [(q3, .inr (2, [.ref q3a, .ref q3b, .ref q3c, .int 0])), (q3a, z_ar cA 32), (q3b, z_ar cA 32), (q3c, z_ar cA 32)]) hP hD [6] [0, 1, 2, 3, 4, 5] rfl rfl (by decide) (by decide) hk1 hFc hP1 hD1
  generalize H1 = H at hP hS ⊢
  have hP : va_P D m_cl [(h0, .inr (0, [.ref q1, .ref q2, .null, .null, .int 0, .int 0, .int 0])), (q1, z_ar cA 200), (q2, .inr (1, [.ref q2a, .ref q2b, .ref q2c, .int 0])), (q2a, z_ar cA 96), (q2b, z_ar cA 96), (q2c, z_ar cA 96), (q3, .inr (2, [.ref q3a, .ref q3b, .ref q3c, .int 0])), (q3a, z_ar cA 32), (q3b, z_ar cA 32), (q3c, z_ar cA 32)] H := hP
  have hD : va_D A [(h0, .inr (0, [.ref q1, .ref q2, .null, .null, .int 0, .int 0, .int 0])), (q1, z_ar cA 200), (q2, .inr (1, [.ref q2a, .ref q2b, .ref q2c, .int 0])), (q2a, z_ar cA 96), (q2b, z_ar cA 96), (q2c, z_ar cA 96), (q3, .inr (2, [.ref q3a, .ref q3b, .ref q3c, .int 0])), (q3a, z_ar cA 32), (q3b, z_ar cA 32), (q3c, z_ar cA 32)] := hD
  refine va_putF (D := D) (ci := 0) (v := .ref q3) (ty := .object R_Re) (C := R_St) (T := F_St) (N := 7) hx hb hg ig_St t_St k_St n_St hown hK hP hD hS 0 rfl rfl 2 (by decide) (hg (.fieldLink R_St 25 R_St "returns" "LStakeLedger$Returns;") (m_ing (by decide +kernel) (by decide +kernel))) (fun _ h9 => h9) rfl hin rfl (by decide +kernel) rfl rfl (Nat.le_of_ble_eq_true rfl) (show decode c_St_init 32 = .ok (.putfield 25, 3) by decide +kernel) (fun H locs hP hD hS => ?_)
  have hP : va_P D m_cl [(h0, .inr (0, [.ref q1, .ref q2, .ref q3, .null, .int 0, .int 0, .int 0])), (q1, z_ar cA 200), (q2, .inr (1, [.ref q2a, .ref q2b, .ref q2c, .int 0])), (q2a, z_ar cA 96), (q2b, z_ar cA 96), (q2c, z_ar cA 96), (q3, .inr (2, [.ref q3a, .ref q3b, .ref q3c, .int 0])), (q3a, z_ar cA 32), (q3b, z_ar cA 32), (q3c, z_ar cA 32)] H := hP
  have hD : va_D A [(h0, .inr (0, [.ref q1, .ref q2, .ref q3, .null, .int 0, .int 0, .int 0])), (q1, z_ar cA 200), (q2, .inr (1, [.ref q2a, .ref q2b, .ref q2c, .int 0])), (q2a, z_ar cA 96), (q2b, z_ar cA 96), (q2c, z_ar cA 96), (q3, .inr (2, [.ref q3a, .ref q3b, .ref q3c, .int 0])), (q3a, z_ar cA 32), (q3b, z_ar cA 32), (q3c, z_ar cA 32)] := hD
  refine lv_aload_n hx hb (show decode c_St_init 35 = .ok (.aload_n 0, 1) by decide +kernel) rfl (lv_at hl 0 rfl) ?_
  refine lv_bipush hx hb (show decode c_St_init 36 = .ok (.bipush 16, 2) by decide +kernel) rfl ?_
  refine va_newa hx hb (atype := .int) (hg (.arrayClass .int) (m_ing (by decide +kernel) (by decide +kernel))) (ty := .int) rfl hK hP hD hS hA (N' := 16) (a0 := (16, .inl (fun _ => 0))) (fun _ => rfl) (by decide) (by decide) (by decide) (Nat.le_of_ble_eq_true rfl) (Nat.le_of_ble_eq_true rfl) (show decode c_St_init 38 = .ok (.newarray .int, 2) by decide +kernel) (fun q4 cA H hK2 hP hD hS => ?_)
  have e1 := z_same hK2
  subst e1
  refine va_putF (D := D) (ci := 0) (v := .ref q4) (ty := .array .int) (C := R_St) (T := F_St) (N := 7) hx hb hg ig_St t_St k_St n_St hown hK hP hD hS 0 rfl rfl 3 (by decide) (hg (.fieldLink R_St 29 R_St "provedHeight" "[I") (m_ing (by decide +kernel) (by decide +kernel))) (fun _ h9 => h9) rfl hin rfl (by decide +kernel) rfl rfl (Nat.le_of_ble_eq_true rfl) (show decode c_St_init 40 = .ok (.putfield 29, 3) by decide +kernel) (fun H locs hP hD hS => ?_)
  have hP : va_P D m_cl [(h0, .inr (0, [.ref q1, .ref q2, .ref q3, .ref q4, .int 0, .int 0, .int 0])), (q1, z_ar cA 200), (q2, .inr (1, [.ref q2a, .ref q2b, .ref q2c, .int 0])), (q2a, z_ar cA 96), (q2b, z_ar cA 96), (q2c, z_ar cA 96), (q3, .inr (2, [.ref q3a, .ref q3b, .ref q3c, .int 0])), (q3a, z_ar cA 32), (q3b, z_ar cA 32), (q3c, z_ar cA 32), (q4, z_ar cA 16)] H := hP
  have hD : va_D A [(h0, .inr (0, [.ref q1, .ref q2, .ref q3, .ref q4, .int 0, .int 0, .int 0])), (q1, z_ar cA 200), (q2, .inr (1, [.ref q2a, .ref q2b, .ref q2c, .int 0])), (q2a, z_ar cA 96), (q2b, z_ar cA 96), (q2c, z_ar cA 96), (q3, .inr (2, [.ref q3a, .ref q3b, .ref q3c, .int 0])), (q3a, z_ar cA 32), (q3b, z_ar cA 32), (q3c, z_ar cA 32), (q4, z_ar cA 16)] := hD
  have hP0 : va_P D m_cl (m_ws cA cZ (adL [h0, q1, q2, q2a, q2b, q2c, q3, q3a, q3b, q3c, q4]) (sW (fun _ => 0) (fun _ => 0) (fun _ => 0) (fun _ => 0) (fun _ => 0) (fun _ => 0) (fun _ => 0) (fun _ => 0) 0 0 0 0 0 []) 0) H := hP
  have hD0 : va_D A (m_ws cA cZ (adL [h0, q1, q2, q2a, q2b, q2c, q3, q3a, q3b, q3c, q4]) (sW (fun _ => 0) (fun _ => 0) (fun _ => 0) (fun _ => 0) (fun _ => 0) (fun _ => 0) (fun _ => 0) (fun _ => 0) 0 0 0 0 0 []) 0) := hD
  have C : m_Cx (p, l, e, (headSpec ws_St_init (rmI 2 10 608)).room, s, m, #[Value.ref h0], below, meth, c, 10, 608, MQ below (va_Qv (fun _ : Nat → Nat => True) (fun u t => z_St D cA cZ A h0 u t) A) #[Value.ref h0] s 10 608 A, D, A, cA, cZ, adL [h0, q1, q2, q2a, q2b, q2c, q3, q3a, q3b, q3c, q4], 1, 11) c_St_init R_St ws_St_init nw (rmI 2 10 608) :=
    ⟨hx, hb, hml, hown, hK, fun w' hw' => m_D_of hD0 hw', hA, hts, hnw, rfl, Nat.le_refl _, Nat.le_refl _⟩
  have hmut : ∀ k, k < 11 → A (adL [h0, q1, q2, q2a, q2b, q2c, q3, q3a, q3b, q3c, q4] k) := by
    intro k hk
    obtain ⟨e1, g1⟩ := m_ws_at (cI := cA) (cZ := cZ) (ad := adL [h0, q1, q2, q2a, q2b, q2c, q3, q3a, q3b, q3c, q4]) (sW (fun _ => 0) (fun _ => 0) (fun _ => 0) (fun _ => 0) (fun _ => 0) (fun _ => 0) (fun _ => 0) (fun _ => 0) 0 0 0 0 0 []) hk
    exact hD0.2 k _ g1
  have hret : m_RetOk (p, l, e, (headSpec ws_St_init (rmI 2 10 608)).room, s, m, #[Value.ref h0], below, meth, c, 10, 608, MQ below (va_Qv (fun _ : Nat → Nat => True) (fun u t => z_St D cA cZ A h0 u t) A) #[Value.ref h0] s 10 608 A, D, A, cA, cZ, adL [h0, q1, q2, q2a, q2b, q2c, q3, q3a, q3b, q3c, q4], 1, 11) c_St_init (m_Rt none (fun _ w => ∃ bal o nd am ro ra rd pv bc rc h j bu, RC a_0 bal o nd am ro ra rd pv bc rc h j bu ∧ w = sW bal o nd am ro ra rd pv bc rc h j bu [])) := by
    refine ⟨fun pc lo x w' hd hR => hR.elim, fun pc lo w' hd hR => ?_⟩
    intro ls H locs hlh hN' hP' hS
    obtain ⟨bal, o, nd, am, ro, ra, rd, pv, bc, rc, h, j, bu, hRC, rfl⟩ := hR
    refine W.vret hx hb hr (fun t ht hW => ⟨⟨adL [h0, q1, q2, q2a, q2b, q2c, q3, q3a, q3b, q3c, q4], rfl, trivial, rfl, bal, o, nd, am, ro, ra, rd, pv, bc, rc, h, j, bu, hRC, by rw [ht]; exact hP', ?_⟩, hS.F ht⟩) hS.2.2 hd
    exact m_DA (m_D_of hD0 hN') hN' hmut
  have hT : m_TOk (p, l, e, (headSpec ws_St_init (rmI 2 10 608)).room, s, m, #[Value.ref h0], below, meth, c, 10, 608, MQ below (va_Qv (fun _ : Nat → Nat => True) (fun u t => z_St D cA cZ A h0 u t) A) #[Value.ref h0] s 10 608 A, D, A, cA, cZ, adL [h0, q1, q2, q2a, q2b, q2c, q3, q3a, q3b, q3c, q4], 1, 11) c_St_init R_St (false, [], [], [], [(0, 32, 1, ct_sf)], []) (m_Rt none (fun _ w => ∃ bal o nd am ro ra rd pv bc rc h j bu, RC a_0 bal o nd am ro ra rd pv bc rc h j bu ∧ w = sW bal o nd am ro ra rd pv bc rc h j bu [])) := ⟨fun _ => hmut, m_none, m_none, m_none, m_one (ca_St_32 (pb := false) C (fun _ => hmut) c_sf rfl rfl ct_sf_r ⟨by decide, by decide⟩) m_none, m_none, hret⟩
  have fin : m_W (p, l, e, (headSpec ws_St_init (rmI 2 10 608)).room, s, m, #[Value.ref h0], below, meth, c, 10, 608, MQ below (va_Qv (fun _ : Nat → Nat => True) (fun u t => z_St D cA cZ A h0 u t) A) #[Value.ref h0] s 10 608 A, D, A, cA, cZ, adL [h0, q1, q2, q2a, q2b, q2c, q3, q3a, q3b, q3c, q4], 1, 11) 43 [some (.inr 0)] [] (sW (fun _ => 0) (fun _ => 0) (fun _ => 0) (fun _ => 0) (fun _ => 0) (fun _ => 0) (fun _ => 0) (fun _ => 0) 0 0 0 0 0 []) := by
    refine m_walk C hT wf_St_init [] 20 ?_
    exact m_c0 <| ⟨_, _, _, _, _, _, _, _, _, _, _, _, _, _, rfl, rfl, fun bal' o' nd' am' pv' g1 g2 g3 => ⟨bal', o', nd', am', _, _, _, pv', _, _, _, _, _, RC_0 g1 g2 g3, rfl⟩⟩
  subst hAe
  exact fin ls H _ ⟨rfl, hl.1, hl.2.1, hl.2.2⟩ rfl hP0 hS
