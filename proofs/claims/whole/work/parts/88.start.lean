/-! The law's start. -/
theorem D_left {A : Nat → Prop} {w1 w2 : va_W} (h : va_D A (w1 ++ w2)) : va_D A w1 := by
  have at' : ∀ (k : Nat) (q : Nat × va_E), w1[k]? = some q → (w1 ++ w2)[k]? = some q := fun k q hk => by rw [List.getElem?_append_left (List.getElem?_eq_some_iff.mp hk).1]; exact hk
  exact ⟨fun i j p q hi hj e => h.1 i j p q (at' i p hi) (at' j q hj) e, fun k q hk => h.2 k q (at' k q hk)⟩
theorem D_x {A : Nat → Prop} {w1 w2 : va_W} (h : va_D A (w1 ++ w2)) {q : Nat} {e e' : va_E} (h1 : (q, e) ∈ w1) (h2 : (q, e') ∈ w2) : False := by
  obtain ⟨i, hi⟩ := List.mem_iff_getElem?.mp h1
  obtain ⟨j, hj⟩ := List.mem_iff_getElem?.mp h2
  have hl := (List.getElem?_eq_some_iff.mp hi).1
  have := h.1 i (w1.length + j) (q, e) (q, e') (by rw [List.getElem?_append_left hl]; exact hi) (by rw [List.getElem?_append_right (Nat.le_add_right _ _), Nat.add_sub_cancel_left]; exact hj) rfl
  omega
theorem o_join {D : va_G} {A : Nat → Prop} {w1 w2 : va_W} {q2 : Nat} {e2 : va_E} {H H1 : Heap} (hP : va_P D m_cl (w1 ++ [(q2, e2)]) H) (hD : va_D A (w1 ++ [(q2, e2)])) (hk : ∀ q : Nat, q < H.size → ¬ va_A [(q2, e2)] H.size q → H1[q]? = H[q]?) (hF : ∀ q, va_A [(q2, e2)] H.size q → A q) (hP1 : va_P D m_cl w2 H1) (hD1 : va_D (va_A [(q2, e2)] H.size) w2) : va_P D m_cl (w1 ++ w2) H1 ∧ va_D A (w1 ++ w2) := by
  have apart : ∀ (k : Nat) (q : Nat × va_E), w1[k]? = some q → q.1 < H.size ∧ ¬ va_A [(q2, e2)] H.size q.1 := by
    intro k q hq
    have hl := (P_left hP k q hq).lt
    refine ⟨hl, fun h => ?_⟩
    rcases h with ⟨j, e, hj⟩ | h
    · exact D_x hD (q := q.1) (e := q.2) (List.mem_of_getElem? hq) (List.mem_of_getElem? hj)
    · omega
  exact ⟨va_P.app ((P_left hP).kept (fun k q hq => hk q.1 (apart k q hq).1 (apart k q hq).2)) hP1, va_D.app (D_left hD) (hD1.weaken (fun _ q _ h => hF q.1 h)) (fun i j x y hx hy e => (apart i x hx).2 (by rw [e]; exact hD1.2 j y hy))⟩
noncomputable def o_co (w1 : va_W) (a12 ou : Nat) : Nat → Nat := fun q => @ite _ (∃ e, (q, e) ∈ w1) (Classical.propDecidable _) 1 (if q = a12 then 2 else if q = ou then 3 else 4)
theorem o_co1 {w1 : va_W} {a12 ou q : Nat} (h : ∃ e, (q, e) ∈ w1) : o_co w1 a12 ou q = 1 := by unfold o_co; rw [if_pos h]
theorem o_coN {w1 : va_W} {a12 ou q : Nat} (h : ¬ ∃ e, (q, e) ∈ w1) : o_co w1 a12 ou q = if q = a12 then 2 else if q = ou then 3 else 4 := by unfold o_co; rw [if_neg h]
theorem lw_first {D : va_G} {cI cZ cK cL : ClassId} {ad am : Nat → Nat} {ou lo : Nat} {w wm : mW} {f : Nat → Int64} {H : Heap} (hP : va_P D m_cl (((m_ws cI cZ ad w 0 ++ [(ad 12, z_kp cK (fun _ => none))]) ++ m_ws cI cZ am wm 0) ++ [(ou, lo_ar cL f)]) H) (hD : va_D (fun q => lo ≤ q) (((m_ws cI cZ ad w 0 ++ [(ad 12, z_kp cK (fun _ => none))]) ++ m_ws cI cZ am wm 0) ++ [(ou, lo_ar cL f)]))
    (hw : RCw a_0 [] w) (hMS : MS 1 0 (fun _ => a_0) (fun _ => 0) 0 wm) : lw_I D cI cZ cK cL ad am ou lo 0 H := by
  have hDa := D_left (D_left hD)
  have n2 : ¬ ∃ e, (ad 12, e) ∈ m_ws cI cZ ad w 0 := fun ⟨e, he⟩ => D_x hDa he (List.mem_singleton.mpr rfl)
  have n3 : ¬ ∃ e, (ou, e) ∈ m_ws cI cZ ad w 0 := fun ⟨e, he⟩ => D_x hD (List.mem_append_left _ (List.mem_append_left _ he)) (List.mem_singleton.mpr rfl)
  have n23 : ou ≠ ad 12 := fun he => D_x hD (q := ou) (List.mem_append_left _ (List.mem_append_right _ (List.mem_singleton.mpr (by rw [he])))) (List.mem_singleton.mpr rfl)
  refine ⟨o_co (m_ws cI cZ ad w 0) (ad 12) ou, 1, 0, fun _ => a_0, fun _ => 0, 0, wm, f, ⟨w, fun _ => none, hw, ⟨P_left (P_left (P_left hP)), (D_left hDa).weaken (fun k q hk hA => ⟨hA, o_co1 ⟨q.2, List.mem_of_getElem? hk⟩⟩)⟩, ⟨P_right (P_left (P_left hP)), o_one ⟨(D_right hDa).2 0 _ rfl, by rw [o_coN n2, if_pos rfl]⟩⟩, ⟨P_right hP, o_one ⟨(D_right hD).2 0 _ rfl, by rw [o_coN n3, if_neg n23, if_pos rfl]⟩⟩, fun k hk => Or.inl ⟨rfl, rfl⟩⟩, ⟨P_right (P_left hP), (D_right (D_left hD)).weaken (fun k q hk hA => ⟨hA, ?_⟩)⟩, hMS, Nat.le_refl _, IV_0, fun k hk => IV_0⟩
  have hq : (q.1, q.2) ∈ m_ws cI cZ am wm 0 := List.mem_of_getElem? hk
  have m1 : ¬ ∃ e, (q.1, e) ∈ m_ws cI cZ ad w 0 := fun ⟨e, he⟩ => D_x (D_left hD) (List.mem_append_left _ he) hq
  have m2 : q.1 ≠ ad 12 := fun he => D_x (D_left hD) (q := q.1) (List.mem_append_right _ (List.mem_singleton.mpr (by rw [he]))) hq
  have m3 : q.1 ≠ ou := fun he => D_x hD (q := q.1) (List.mem_append_right _ hq) (List.mem_singleton.mpr (by rw [he]))
  rw [o_coN m1, if_neg m2, if_neg m3]
theorem arr_K {args : Array Value} {s : State} {ty : FieldType} (h : (Jvm.Cond.arrayClass ty).before args s = true) : ∃ cA : ClassId, ArrOfT s cA ty ∧ s.vm.findClass ("[" ++ ty.toString) = some cA := by
  obtain ⟨cA, kA, comp, h1, h2, h3⟩ := Cond.arrayClass_spec h
  exact ⟨cA, fun n z => ⟨fun k h => (by cases h), kA, h2, comp, h3⟩, h1⟩
theorem xw_of {x : Jvm.Cond} (hx : m_isX x = true) {args : Array Value} {s : State} (h : x.before args s = true) : va_Nw x s := by
  unfold m_isX at hx
  rcases Bool.or_eq_true _ _ ▸ hx with h1 | h1
  · exact va_Nw.of (m_isN_on h1) h
  · rcases Bool.or_eq_true _ _ ▸ h1 with h2 | h2
    · cases x <;> first | exact va_Nw.of rfl h | exact h | exact Bool.noConfusion (show false = true from h2)
    · exact va_Nw.of (Bool.and_eq_true _ _ ▸ h2).1 h
theorem cl_Kn {s : State} {args : Array Value} (hg : ∀ x ∈ gw, x.before args s = true) : ∃ D : va_G, ∀ (c : Nat) (q : vw_C), m_cl[c]? = some q → u_Kn s q.1 q.2.1 q.2.2 (D.1 c) (D.2 c) := by
  obtain ⟨c0, i0, h0⟩ := u_known hg ig_St (hg (.instantiable R_St 7) (m_ing (by decide +kernel) (by decide +kernel)))
  obtain ⟨c1, i1, h1⟩ := u_known hg ig_Bo (hg (.instantiable R_Bo 4) (m_ing (by decide +kernel) (by decide +kernel)))
  obtain ⟨c2, i2, h2⟩ := u_known hg ig_Re (hg (.instantiable R_Re 4) (m_ing (by decide +kernel) (by decide +kernel)))
  obtain ⟨c3, i3, h3⟩ := u_known hg ig_Le (hg (.instantiable R_Le 2) (m_ing (by decide +kernel) (by decide +kernel)))
  obtain ⟨c4, i4, h4⟩ := u_known hg ig_Mo (hg (.instantiable R_Mo 23) (m_ing (by decide +kernel) (by decide +kernel)))
  refine ⟨(fun k => if k = 0 then c0 else if k = 1 then c1 else if k = 2 then c2 else if k = 3 then c3 else c4, fun k => if k = 0 then i0 else if k = 1 then i1 else if k = 2 then i2 else if k = 3 then i3 else i4), fun c q hq => ?_⟩
  match c, hq with
  | 0, hq => cases hq; exact h0
  | 1, hq => cases hq; exact h1
  | 2, hq => cases hq; exact h2
  | 3, hq => cases hq; exact h3
  | 4, hq => cases hq; exact h4
  | n + 5, hq => first | cases hq | exact absurd hq (by simp [m_cl])
set_option maxHeartbeats 16000000 in
set_option maxRecDepth 20000 in
/-- from the entry, for every script of at most 2560 ints, the law comes to its end with true -/
theorem whole_start {p : Program} {e : Env} {s : State} {m : MethodId} {below : List Frame} {meth : Method} {c : Code} (l : Launch) (hl9 : l.stackTraces = false) {b L : Nat} {xs : Nat → Int32} (hL : L ≤ 2560) (C0 : lw_At p s m meth c b L xs) : W p l e room_1 s m #[Value.ref b] below meth c s.heap [] 0 0 (lw_Z below #[Value.ref b] s) (entryFrame m ([Value.ref b] : List Value).toArray 7) := by
  obtain ⟨hx, hb, hr, hml, hown, hts, hX, hbl, hlocks, hgv⟩ := C0
  have hfl := flat_of_before _ hgv
  have hg : ∀ x ∈ gw, x.before #[Value.ref b] s = true := fun x h => hts x (List.mem_filter.mp h).1
  have hown : s.vm.findClass R_La = some m.cls := hown
  have hxw : ∀ x ∈ xw, va_Nw x s := fun x h => xw_of (xw_ok x h) (hts x (List.mem_filter.mp h).1)
  have hnw : ∀ x ∈ nw, va_Nw x s := fun x h => hxw x (nw_xw x h)
  have hts' : ∀ x ∈ (Jvm.Cond.initialized R_La :: gw), x.before #[Value.ref b] s = true := fun x h => (List.mem_cons.mp h).elim (fun e9 => e9 ▸ hg _ in_La0) (hg x)
  have hn1 : va_Nc (exn 1) (exn 0) s := va_Nc.of (hfl _ (by decide +kernel))
  have hn2 : va_Nc (exn 0) (exn 2) s := va_Nc.of (hfl _ (by decide +kernel))
  have hU : vx_Zq Bundle.tN "UNASSIGNED_STACK" Bundle.steD (fun q => s.heap.size ≤ q) s s.heap := vx_Zqof (hts _ (by decide +kernel)) (hts _ (by decide +kernel)) (hfl _ (by decide +kernel)) (fun a h => Nat.not_le.mpr h)
  have hSe : vx_Zq Bundle.tN "SUPPRESSED_SENTINEL" Bundle.listD (fun q => s.heap.size ≤ q) s s.heap := vx_Zqof (hts _ (by decide +kernel)) (hts _ (by decide +kernel)) (hfl _ (by decide +kernel)) (fun a h => Nat.not_le.mpr h)
  have hao : va_AO R_St s := va_AO.of (hts (.arrayOver (.object R_St)) (by decide +kernel))
  obtain ⟨D, hKc⟩ := cl_Kn hg
  obtain ⟨cI, hcI⟩ := arr_K (hg (.arrayClass .int) (m_ing (by decide +kernel) (by decide +kernel)))
  obtain ⟨cZ, hcZ⟩ := arr_K (hg (.arrayClass .boolean) (m_ing (by decide +kernel) (by decide +kernel)))
  have hK : va_K D m_cl (z_ty cI cZ) s := ⟨hKc, fun k q hq => by
    match k, hq with
    | 0, hq => cases hq; exact hcI
    | 1, hq => cases hq; exact hcZ
    | n + 2, hq => first | cases hq | exact absurd hq (by simp)⟩
  have hA : ∀ q : Nat, s.heap.size ≤ q → (fun q => s.heap.size ≤ q) q := fun q h => h
  have hS : va_S (fun q => s.heap.size ≤ q) s.heap s.heap [] := va_S.rf
  have hP : va_P D m_cl [] s.heap := fun k q h => by simp at h
  have hD : va_D (fun q => s.heap.size ≤ q) [] := ⟨fun i j p q h => by simp at h, fun k q h => by simp at h⟩
  have hl := lv_entry ([.ref b]) (n := 7) (Nat.le_of_ble_eq_true rfl)
  rw [lg_entry_eq]
  generalize (lg_sl ([.ref b]) ++ List.replicate (7 - (lg_sl ([.ref b])).length) Slot.unset).toArray = ls at hl ⊢
  have hl : lv_has ls 7 [(0, .ref b)] := hl
  refine va_new (ci := 3) (fs := [.null, .null]) (C := R_Le) (T := F_Le) (N := 2) hx hb hg ig_Le t_Le k_Le hown (hg (.classLink R_La 8 R_Le) (m_ing (by decide +kernel) (by decide +kernel))) (hg (.instantiable R_Le 2) (m_ing (by decide +kernel) (by decide +kernel))) (hg _ in_Le0) hK hP hD hS hA rfl (fun j hj => by rcases (show j = 0 ∨ j = 1 by omega) with rfl | rfl <;> rfl) (Nat.le_of_ble_eq_true rfl) (Nat.le_of_ble_eq_true rfl) (show decode code 0 = .ok (.new 8, 3) by decide +kernel) (fun q1 H hP hD hS => ?_)
  have hP : va_P D m_cl [(q1, .inr (3, [.null, .null]))] H := hP
  have hD : va_D (fun q => s.heap.size ≤ q) [(q1, .inr (3, [.null, .null]))] := hD
  refine lv_dup hx hb (show decode code 3 = .ok (.dup, 1) by decide +kernel) rfl ?_
  have hFc := va_free (wc := [(q1, .inr (3, [.null, .null]))]) hD hS hA [0] rfl
  refine va_callv (va_runI (As := []) (rest := [.ref q1]) ⟨hx, hb, hml, hown, hts'⟩ (i_Le l D cI cZ q1 H.size) ⟨callB_of 0 hts' (m_good_in gw_ok cd_Le_init) rfl rfl rfl (hg _ in_Le0) (hg (.methodLink R_La 54 y_Le_init) (m_ing (by decide +kernel) (by decide +kernel))) ⟨by decide, by decide, by decide +kernel⟩ ⟨Nat.le_of_ble_eq_true rfl, Nat.le_of_ble_eq_true rfl⟩, rfl, hg (.instanceMethod y_Le_init) (m_ing (by decide +kernel) (by decide +kernel))⟩ ⟨z_blindL, fun U hU hW => ⟨rfl, by rw [hU], by rw [hU]; exact hP, va_K.moved hW.alike hK, hD.weaken (fun _ _ _ _ => trivial), fun x hx' => m_isN_warm (nw_ok x hx') hW (hnw x hx'), va_AO.moved hW.alike hao⟩⟩ rfl rfl hl.1 rfl (lv_room (Nat.le_of_ble_eq_true rfl)) (show decode code 4 = .ok (.invokespecial 54, 3) by decide +kernel) ⟨Nat.le_of_ble_eq_true rfl, Nat.le_of_ble_eq_true rfl⟩) hS (fun q _ h => hFc q h) hFc (fun u t H1 locs ht hvm h5 hB hz1 hk1 hS => ?_)
  obtain ⟨ad, cK⟩ := u
  obtain ⟨e0, hK2, w, hRC, hP1, hD1⟩ := hB
  rw [ht] at hP1
  have e0 : ad 11 = q1 := e0
  subst e0
  have hK2 : va_K D m_cl (z_ty cI cZ ++ [(cK, .object R_St)]) s := va_K.moved hvm.symm hK2
  have hD1 : va_D (fun q => s.heap.size ≤ q) (m_ws cI cZ ad w 0 ++ [(ad 12, z_kp cK (fun _ => none))]) := hD1.weaken (fun _ _ _ h => hFc _ h)
  have hP1 : va_P D m_cl (m_ws cI cZ ad w 0 ++ [(ad 12, z_kp cK (fun _ => none))]) H1 := hP1
  generalize hW1 : m_ws cI cZ ad w 0 ++ [(ad 12, z_kp cK (fun _ => none))] = W1 at hP1 hD1
  refine lv_astore_n hx hb (show decode code 7 = .ok (.astore_n 1, 1) by decide +kernel) rfl hl (by decide) (lv' := [(1, .ref (ad 11)), (0, .ref b)]) rfl (fun ls1 hl1 => ?_)
  refine va_new (ci := 4) (fs := [.null, .null, .null, .null, .null, .null, .int 0, .int 0, .null, .int 0, .null, .null, .null, .null, .null, .null, .null, .null, .int 0, .int 0, .int 0, .int 0, .int 0]) (C := R_Mo) (T := F_Mo) (N := 23) hx hb hg ig_Mo t_Mo k_Mo hown (hg (.classLink R_La 55 R_Mo) (m_ing (by decide +kernel) (by decide +kernel))) (hg (.instantiable R_Mo 23) (m_ing (by decide +kernel) (by decide +kernel))) (hg _ in_Mo0) hK hP1 hD1 hS hA rfl (fun j hj => by rcases (show j = 0 ∨ j = 1 ∨ j = 2 ∨ j = 3 ∨ j = 4 ∨ j = 5 ∨ j = 6 ∨ j = 7 ∨ j = 8 ∨ j = 9 ∨ j = 10 ∨ j = 11 ∨ j = 12 ∨ j = 13 ∨ j = 14 ∨ j = 15 ∨ j = 16 ∨ j = 17 ∨ j = 18 ∨ j = 19 ∨ j = 20 ∨ j = 21 ∨ j = 22 by omega) with rfl | rfl | rfl | rfl | rfl | rfl | rfl | rfl | rfl | rfl | rfl | rfl | rfl | rfl | rfl | rfl | rfl | rfl | rfl | rfl | rfl | rfl | rfl <;> rfl) (Nat.le_of_ble_eq_true rfl) (Nat.le_of_ble_eq_true rfl) (show decode code 8 = .ok (.new 55, 3) by decide +kernel) (fun q2 H2 hP2 hD2 hS => ?_)
  refine lv_dup hx hb (show decode code 11 = .ok (.dup, 1) by decide +kernel) rfl ?_
  have hPm : va_P D m_cl [(q2, .inr (4, [.null, .null, .null, .null, .null, .null, .int 0, .int 0, .null, .int 0, .null, .null, .null, .null, .null, .null, .null, .null, .int 0, .int 0, .int 0, .int 0, .int 0]))] H2 := P_right hP2
  have hDm : va_D (fun q => s.heap.size ≤ q) [(q2, .inr (4, [.null, .null, .null, .null, .null, .null, .int 0, .int 0, .null, .int 0, .null, .null, .null, .null, .null, .null, .null, .null, .int 0, .int 0, .int 0, .int 0, .int 0]))] := D_right hD2
  have hFm := va_free (wc := [(q2, .inr (4, [.null, .null, .null, .null, .null, .null, .int 0, .int 0, .null, .int 0, .null, .null, .null, .null, .null, .null, .null, .null, .int 0, .int 0, .int 0, .int 0, .int 0]))]) hDm hS hA [0] rfl
  refine va_callv (va_runI (As := []) (rest := [.ref q2]) ⟨hx, hb, hml, hown, hts'⟩ (i_Mo l D cI cZ q2 H2.size) ⟨callB_of 0 hts' (m_good_in gw_ok cd_Mo_init) rfl rfl rfl (hg _ in_Mo0) (hg (.methodLink R_La 57 y_Mo_init) (m_ing (by decide +kernel) (by decide +kernel))) ⟨by decide, by decide, by decide +kernel⟩ ⟨Nat.le_of_ble_eq_true rfl, Nat.le_of_ble_eq_true rfl⟩, rfl, hg (.instanceMethod y_Mo_init) (m_ing (by decide +kernel) (by decide +kernel))⟩ ⟨z_blind, fun U hU hW => ⟨rfl, by rw [hU], by rw [hU]; exact hPm, va_K.moved hW.alike hK, hDm.weaken (fun _ _ _ _ => trivial)⟩⟩ rfl rfl hl1.1 rfl (lv_room (Nat.le_of_ble_eq_true rfl)) (show decode code 12 = .ok (.invokespecial 57, 3) by decide +kernel) ⟨Nat.le_of_ble_eq_true rfl, Nat.le_of_ble_eq_true rfl⟩) hS (fun q _ h => hFm q h) hFm (fun am t3 H3 locs3 ht3 hvm3 h53 hB3 hz3 hk3 hS => ?_)
  obtain ⟨e3, wm, hMS, hP3, hD3⟩ := hB3
  rw [ht3] at hP3
  subst e3
  obtain ⟨hP4, hD4⟩ := o_join hP2 hD2 hk3 hFm hP3 hD3
  refine lv_astore_n hx hb (show decode code 15 = .ok (.astore_n 2, 1) by decide +kernel) rfl hl1 (by decide) (lv' := [(2, .ref (am 0)), (1, .ref (ad 11)), (0, .ref b)]) rfl (fun ls2 hl2 => ?_)
  refine lv_iconst (v := 1) hx hb (show decode code 16 = .ok (.iconst 1, 1) by decide +kernel) rfl ?_
  refine va_newa hx hb (atype := .long) (hg (.arrayClass .long) (m_ing (by decide +kernel) (by decide +kernel))) (ty := .long) rfl hK2 hP4 hD4 hS hA (N' := 1) (a0 := (1, .inr (.inl (fun _ => 0)))) (fun _ => rfl) (by decide) (by decide) (by decide) (Nat.le_of_ble_eq_true rfl) (Nat.le_of_ble_eq_true rfl) (show decode code 17 = .ok (.newarray .long, 2) by decide +kernel) (fun ou cL H5 hK5 hP5 hD5 hS => ?_)
  refine lv_astore_n hx hb (show decode code 19 = .ok (.astore_n 3, 1) by decide +kernel) rfl hl2 (by decide) (lv' := [(3, .ref ou), (2, .ref (am 0)), (1, .ref (ad 11)), (0, .ref b)]) rfl (fun ls3 hl3 => ?_)
  refine lv_iconst (v := 0) hx hb (show decode code 20 = .ok (.iconst 0, 1) by decide +kernel) rfl ?_
  refine lv_istore hx hb (show decode code 21 = .ok (.istore 4, 2) by decide +kernel) hl3 (by decide) (lv' := [(4, .int 0), (3, .ref ou), (2, .ref (am 0)), (1, .ref (ad 11)), (0, .ref b)]) rfl (fun ls4 hl4 => ?_)
  have C : lw_K l p s m c b L xs D cI cZ cK cL := ⟨⟨⟨hx, hb, hml, hown, hts'⟩, hK, hnw⟩, ⟨hl9, hxw, hU, hSe⟩, hK5, hn1, hn2, hX, hbl, hL⟩
  subst hW1
  refine o_widen (k := 60 + 13 * 0) (n := 40000 + 700 * 0) (Nat.le_of_ble_eq_true rfl) (Nat.le_of_ble_eq_true rfl) ?_
  exact lw_loop (ad := ad) (am := am) (ou := ou) C hr hlocks 513 0 rfl (Nat.zero_le _) ls4 H5 _ (lw_first hP5 hD5 hRC hMS) (lv_sub hl4 [4, 3, 2, 1, 0] rfl) hS
