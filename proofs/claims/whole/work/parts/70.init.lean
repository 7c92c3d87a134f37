/-! Constructors: the bonds' and the returns'. -/
abbrev rmI (k c n : Nat) : Room := { frames := k, cells := c, slots := n, locals := 30 * k }
abbrev z_ty (cI cZ : ClassId) : List (ClassId × FieldType) := [(cI, .int), (cZ, .boolean)]
theorem z_same {D : va_G} {cI cZ cA : ClassId} {s : State} (h : va_K D m_cl (z_ty cI cZ ++ [(cA, .int)]) s) : cA = cI := by
  have h1 : s.vm.findClass ("[" ++ FieldType.int.toString) = some cI := (h.2 0 (cI, .int) rfl).2
  have h2 : s.vm.findClass ("[" ++ FieldType.int.toString) = some cA := (h.2 2 (cA, .int) rfl).2
  exact Option.some.inj (h2.symm.trans h1)
abbrev z_ar (cI : ClassId) (n : Nat) : va_E := .inl (cI, n, .inl (fun _ => 0))
def z_pre (D : va_G) (cI cZ : ClassId) (ci h0 : Nat) (fs : List Value) (sz : Nat) : Array Value → State → Prop :=
  va_Pc [.ref h0] (fun U => U.heap.size = sz ∧ va_P D m_cl [(h0, .inr (ci, fs))] U.heap ∧ va_K D m_cl (z_ty cI cZ) U ∧ va_D (fun _ => True) [(h0, .inr (ci, fs))])
set_option maxHeartbeats 8000000 in
set_option maxRecDepth 20000 in
theorem i_Bo (l : Launch) (D : va_G) (cI cZ : ClassId) (h0 sz : Nat) : Met l y_Bo_init ws_Bo_init (rmI 1 3 288) (z_pre D cI cZ 1 h0 [.null, .null, .null, .int 0] sz)
    (va_Qv (fun _ : Nat × Nat × Nat => True) (fun u t => va_P D m_cl [(h0, .inr (1, [.ref u.1, .ref u.2.1, .ref u.2.2, .int 0])), (u.1, z_ar cI 96), (u.2.1, z_ar cI 96), (u.2.2, z_ar cI 96)] t.heap ∧ va_D (va_A [(h0, .inr (1, [.null, .null, .null, .int 0]))] sz) [(h0, .inr (1, [.ref u.1, .ref u.2.1, .ref u.2.2, .int 0])), (u.1, z_ar cI 96), (u.2.1, z_ar cI 96), (u.2.2, z_ar cI 96)]) (va_A [(h0, .inr (1, [.null, .null, .null, .int 0]))] sz)) 3 288 (va_A [(h0, .inr (1, [.null, .null, .null, .int 0]))] sz) := by
  refine Met.ofW (cc := c_Bo_init) (maxL := 1) (ret := none) (by decide) rfl ?_
  intro p e s m args below meth c s₁ B hml hv
  obtain ⟨rfl, hsz, hP, hK, hD0⟩ := hv
  have hx := B.exec
  have hb := B.bytes
  have hr := B.returns
  have hts := atoms_spec (ws := ws_Bo_init) B.pre
  have hg : ∀ x ∈ gw, x.before #[Value.ref h0] s = true := fun x h => hts x (List.mem_cons_of_mem _ h)
  have hown : s.vm.findClass R_Bo = some m.cls := findClass_of_methodNamed B.named
  have hlocks := B.notSynchronized
  have hin : meth.name = "<init>" := (name_of_methodNamed B.named B.method).1
  subst hsz
  have hD := hD0.self (sz := s.heap.size)
  generalize hAe : va_A [(h0, .inr (1, [.null, .null, .null, .int 0]))] s.heap.size = A at hD ⊢
  have hA : ∀ q : Nat, s.heap.size ≤ q → A q := fun q h => by rw [← hAe]; exact Or.inr h
  have hS : va_S A s.heap s.heap [] := va_S.rf
  have hl := lv_entry ([.ref h0]) (n := 1) (Nat.le_of_ble_eq_true rfl)
  rw [lg_entry_eq]
  generalize (lg_sl ([.ref h0]) ++ List.replicate (1 - (lg_sl ([.ref h0])).length) Slot.unset).toArray = ls at hl ⊢
  have hl : lv_has ls 1 [(0, .ref h0)] := hl
  refine lv_aload_n hx hb (show decode c_Bo_init 0 = .ok (.aload_n 0, 1) by decide +kernel) rfl (lv_at hl 0 rfl) ?_
  refine W.objInit hx hb hown (hg (.methodLink R_Bo 3 objectInit) (m_ing (by decide +kernel) (by decide +kernel))) (hg (.instanceMethod objectInit) (m_ing (by decide +kernel) (by decide +kernel))) (hg (.code objectInit ⟨#[0xb1]⟩ 1 none) (m_ing (by decide +kernel) (by decide +kernel))) rfl (by rw [hml]; exact hl.1) rfl (show decode c_Bo_init 1 = .ok (.invokespecial 3, 3) by decide +kernel) (Nat.le_of_ble_eq_true rfl) (Nat.le_of_ble_eq_true rfl) ?_
  refine W.eq (g2 := F0 m 4 ls []) rfl ?_
  refine lv_aload_n hx hb (show decode c_Bo_init 4 = .ok (.aload_n 0, 1) by decide +kernel) rfl (lv_at hl 0 rfl) ?_
  refine lv_bipush hx hb (show decode c_Bo_init 5 = .ok (.bipush 96, 2) by decide +kernel) rfl ?_
  refine va_newa hx hb (atype := .int) (hg (.arrayClass .int) (m_ing (by decide +kernel) (by decide +kernel))) (ty := .int) rfl hK hP hD hS hA (N' := 96) (a0 := (96, .inl (fun _ => 0))) (fun _ => rfl) (by decide) (by decide) (by decide) (Nat.le_of_ble_eq_true rfl) (Nat.le_of_ble_eq_true rfl) (show decode c_Bo_init 7 = .ok (.newarray .int, 2) by decide +kernel) (fun q1 cA H hK2 hP hD hS => ?_)
  have e1 := z_same hK2
  subst e1
  refine va_putF (D := D) (ci := 1) (v := .ref q1) (ty := .array .int) (C := R_Bo) (T := F_Bo) (N := 4) hx hb hg ig_Bo t_Bo k_Bo n_Bo hown hK hP hD hS 0 rfl rfl 0 (by decide) (hg (.fieldLink R_Bo 9 R_Bo "owner" "[I") (m_ing (by decide +kernel) (by decide +kernel))) (fun _ h9 => h9) rfl hin rfl (by decide +kernel) rfl rfl (Nat.le_of_ble_eq_true rfl) (show decode c_Bo_init 9 = .ok (.putfield 9, 3) by decide +kernel) (fun H locs hP hD hS => ?_)
  have hP : va_P D m_cl [(h0, .inr (1, [.ref q1, .null, .null, .int 0])), (q1, z_ar cA 96)] H := hP
  have hD : va_D A [(h0, .inr (1, [.ref q1, .null, .null, .int 0])), (q1, z_ar cA 96)] := hD
  refine lv_aload_n hx hb (show decode c_Bo_init 12 = .ok (.aload_n 0, 1) by decide +kernel) rfl (lv_at hl 0 rfl) ?_
  refine lv_bipush hx hb (show decode c_Bo_init 13 = .ok (.bipush 96, 2) by decide +kernel) rfl ?_
  refine va_newa hx hb (atype := .int) (hg (.arrayClass .int) (m_ing (by decide +kernel) (by decide +kernel))) (ty := .int) rfl hK hP hD hS hA (N' := 96) (a0 := (96, .inl (fun _ => 0))) (fun _ => rfl) (by decide) (by decide) (by decide) (Nat.le_of_ble_eq_true rfl) (Nat.le_of_ble_eq_true rfl) (show decode c_Bo_init 15 = .ok (.newarray .int, 2) by decide +kernel) (fun q2 cA H hK2 hP hD hS => ?_)
  have e1 := z_same hK2
  subst e1
  refine va_putF (D := D) (ci := 1) (v := .ref q2) (ty := .array .int) (C := R_Bo) (T := F_Bo) (N := 4) hx hb hg ig_Bo t_Bo k_Bo n_Bo hown hK hP hD hS 0 rfl rfl 1 (by decide) (hg (.fieldLink R_Bo 15 R_Bo "node" "[I") (m_ing (by decide +kernel) (by decide +kernel))) (fun _ h9 => h9) rfl hin rfl (by decide +kernel) rfl rfl (Nat.le_of_ble_eq_true rfl) (show decode c_Bo_init 17 = .ok (.putfield 15, 3) by decide +kernel) (fun H locs hP hD hS => ?_)
  have hP : va_P D m_cl [(h0, .inr (1, [.ref q1, .ref q2, .null, .int 0])), (q1, z_ar cA 96), (q2, z_ar cA 96)] H := hP
  have hD : va_D A [(h0, .inr (1, [.ref q1, .ref q2, .null, .int 0])), (q1, z_ar cA 96), (q2, z_ar cA 96)] := hD
  refine lv_aload_n hx hb (show decode c_Bo_init 20 = .ok (.aload_n 0, 1) by decide +kernel) rfl (lv_at hl 0 rfl) ?_
  refine lv_bipush hx hb (show decode c_Bo_init 21 = .ok (.bipush 96, 2) by decide +kernel) rfl ?_
  refine va_newa hx hb (atype := .int) (hg (.arrayClass .int) (m_ing (by decide +kernel) (by decide +kernel))) (ty := .int) rfl hK hP hD hS hA (N' := 96) (a0 := (96, .inl (fun _ => 0))) (fun _ => rfl) (by decide) (by decide) (by decide) (Nat.le_of_ble_eq_true rfl) (Nat.le_of_ble_eq_true rfl) (show decode c_Bo_init 23 = .ok (.newarray .int, 2) by decide +kernel) (fun q3 cA H hK2 hP hD hS => ?_)
  have e1 := z_same hK2
  subst e1
  refine va_putF (D := D) (ci := 1) (v := .ref q3) (ty := .array .int) (C := R_Bo) (T := F_Bo) (N := 4) hx hb hg ig_Bo t_Bo k_Bo n_Bo hown hK hP hD hS 0 rfl rfl 2 (by decide) (hg (.fieldLink R_Bo 18 R_Bo "amount" "[I") (m_ing (by decide +kernel) (by decide +kernel))) (fun _ h9 => h9) rfl hin rfl (by decide +kernel) rfl rfl (Nat.le_of_ble_eq_true rfl) (show decode c_Bo_init 25 = .ok (.putfield 18, 3) by decide +kernel) (fun H locs hP hD hS => ?_)
  have hP : va_P D m_cl [(h0, .inr (1, [.ref q1, .ref q2, .ref q3, .int 0])), (q1, z_ar cA 96), (q2, z_ar cA 96), (q3, z_ar cA 96)] H := hP
  have hD : va_D A [(h0, .inr (1, [.ref q1, .ref q2, .ref q3, .int 0])), (q1, z_ar cA 96), (q2, z_ar cA 96), (q3, z_ar cA 96)] := hD
  exact W.vret hx hb hr (fun t ht hW => ⟨⟨(q1, q2, q3), rfl, trivial, by rw [ht]; exact hP, hAe ▸ hD⟩, hS.F ht⟩) hS.2.2 (show decode c_Bo_init 28 = .ok (.return_, 1) by decide +kernel)
set_option maxHeartbeats 8000000 in
set_option maxRecDepth 20000 in
theorem i_Re (l : Launch) (D : va_G) (cI cZ : ClassId) (h0 sz : Nat) : Met l y_Re_init ws_Re_init (rmI 1 3 96) (z_pre D cI cZ 2 h0 [.null, .null, .null, .int 0] sz)
    (va_Qv (fun _ : Nat × Nat × Nat => True) (fun u t => va_P D m_cl [(h0, .inr (2, [.ref u.1, .ref u.2.1, .ref u.2.2, .int 0])), (u.1, z_ar cI 32), (u.2.1, z_ar cI 32), (u.2.2, z_ar cI 32)] t.heap ∧ va_D (va_A [(h0, .inr (2, [.null, .null, .null, .int 0]))] sz) [(h0, .inr (2, [.ref u.1, .ref u.2.1, .ref u.2.2, .int 0])), (u.1, z_ar cI 32), (u.2.1, z_ar cI 32), (u.2.2, z_ar cI 32)]) (va_A [(h0, .inr (2, [.null, .null, .null, .int 0]))] sz)) 3 96 (va_A [(h0, .inr (2, [.null, .null, .null, .int 0]))] sz) := by
  refine Met.ofW (cc := c_Re_init) (maxL := 1) (ret := none) (by decide) rfl ?_
  intro p e s m args below meth c s₁ B hml hv
  obtain ⟨rfl, hsz, hP, hK, hD0⟩ := hv
  have hx := B.exec
  have hb := B.bytes
  have hr := B.returns
  have hts := atoms_spec (ws := ws_Re_init) B.pre
  have hg : ∀ x ∈ gw, x.before #[Value.ref h0] s = true := fun x h => hts x (List.mem_cons_of_mem _ h)
  have hown : s.vm.findClass R_Re = some m.cls := findClass_of_methodNamed B.named
  have hlocks := B.notSynchronized
  have hin : meth.name = "<init>" := (name_of_methodNamed B.named B.method).1
  subst hsz
  have hD := hD0.self (sz := s.heap.size)
  generalize hAe : va_A [(h0, .inr (2, [.null, .null, .null, .int 0]))] s.heap.size = A at hD ⊢
  have hA : ∀ q : Nat, s.heap.size ≤ q → A q := fun q h => by rw [← hAe]; exact Or.inr h
  have hS : va_S A s.heap s.heap [] := va_S.rf
  have hl := lv_entry ([.ref h0]) (n := 1) (Nat.le_of_ble_eq_true rfl)
  rw [lg_entry_eq]
  generalize (lg_sl ([.ref h0]) ++ List.replicate (1 - (lg_sl ([.ref h0])).length) Slot.unset).toArray = ls at hl ⊢
  have hl : lv_has ls 1 [(0, .ref h0)] := hl
  refine lv_aload_n hx hb (show decode c_Re_init 0 = .ok (.aload_n 0, 1) by decide +kernel) rfl (lv_at hl 0 rfl) ?_
  refine W.objInit hx hb hown (hg (.methodLink R_Re 3 objectInit) (m_ing (by decide +kernel) (by decide +kernel))) (hg (.instanceMethod objectInit) (m_ing (by decide +kernel) (by decide +kernel))) (hg (.code objectInit ⟨#[0xb1]⟩ 1 none) (m_ing (by decide +kernel) (by decide +kernel))) rfl (by rw [hml]; exact hl.1) rfl (show decode c_Re_init 1 = .ok (.invokespecial 3, 3) by decide +kernel) (Nat.le_of_ble_eq_true rfl) (Nat.le_of_ble_eq_true rfl) ?_
  refine W.eq (g2 := F0 m 4 ls []) rfl ?_
  refine lv_aload_n hx hb (show decode c_Re_init 4 = .ok (.aload_n 0, 1) by decide +kernel) rfl (lv_at hl 0 rfl) ?_
  refine lv_bipush hx hb (show decode c_Re_init 5 = .ok (.bipush 32, 2) by decide +kernel) rfl ?_
  refine va_newa hx hb (atype := .int) (hg (.arrayClass .int) (m_ing (by decide +kernel) (by decide +kernel))) (ty := .int) rfl hK hP hD hS hA (N' := 32) (a0 := (32, .inl (fun _ => 0))) (fun _ => rfl) (by decide) (by decide) (by decide) (Nat.le_of_ble_eq_true rfl) (Nat.le_of_ble_eq_true rfl) (show decode c_Re_init 7 = .ok (.newarray .int, 2) by decide +kernel) (fun q1 cA H hK2 hP hD hS => ?_)
  have e1 := z_same hK2
  subst e1
  refine va_putF (D := D) (ci := 2) (v := .ref q1) (ty := .array .int) (C := R_Re) (T := F_Re) (N := 4) hx hb hg ig_Re t_Re k_Re n_Re hown hK hP hD hS 0 rfl rfl 0 (by decide) (hg (.fieldLink R_Re 9 R_Re "owner" "[I") (m_ing (by decide +kernel) (by decide +kernel))) (fun _ h9 => h9) rfl hin rfl (by decide +kernel) rfl rfl (Nat.le_of_ble_eq_true rfl) (show decode c_Re_init 9 = .ok (.putfield 9, 3) by decide +kernel) (fun H locs hP hD hS => ?_)
  have hP : va_P D m_cl [(h0, .inr (2, [.ref q1, .null, .null, .int 0])), (q1, z_ar cA 32)] H := hP
  have hD : va_D A [(h0, .inr (2, [.ref q1, .null, .null, .int 0])), (q1, z_ar cA 32)] := hD
  refine lv_aload_n hx hb (show decode c_Re_init 12 = .ok (.aload_n 0, 1) by decide +kernel) rfl (lv_at hl 0 rfl) ?_
  refine lv_bipush hx hb (show decode c_Re_init 13 = .ok (.bipush 32, 2) by decide +kernel) rfl ?_
  refine va_newa hx hb (atype := .int) (hg (.arrayClass .int) (m_ing (by decide +kernel) (by decide +kernel))) (ty := .int) rfl hK hP hD hS hA (N' := 32) (a0 := (32, .inl (fun _ => 0))) (fun _ => rfl) (by decide) (by decide) (by decide) (Nat.le_of_ble_eq_true rfl) (Nat.le_of_ble_eq_true rfl) (show decode c_Re_init 15 = .ok (.newarray .int, 2) by decide +kernel) (fun q2 cA H hK2 hP hD hS => ?_)
  have e1 := z_same hK2
  subst e1
  refine va_putF (D := D) (ci := 2) (v := .ref q2) (ty := .array .int) (C := R_Re) (T := F_Re) (N := 4) hx hb hg ig_Re t_Re k_Re n_Re hown hK hP hD hS 0 rfl rfl 1 (by decide) (hg (.fieldLink R_Re 15 R_Re "amount" "[I") (m_ing (by decide +kernel) (by decide +kernel))) (fun _ h9 => h9) rfl hin rfl (by decide +kernel) rfl rfl (Nat.le_of_ble_eq_true rfl) (show decode c_Re_init 17 = .ok (.putfield 15, 3) by decide +kernel) (fun H locs hP hD hS => ?_)
  have hP : va_P D m_cl [(h0, .inr (2, [.ref q1, .ref q2, .null, .int 0])), (q1, z_ar cA 32), (q2, z_ar cA 32)] H := hP
  have hD : va_D A [(h0, .inr (2, [.ref q1, .ref q2, .null, .int 0])), (q1, z_ar cA 32), (q2, z_ar cA 32)] := hD
  refine lv_aload_n hx hb (show decode c_Re_init 20 = .ok (.aload_n 0, 1) by decide +kernel) rfl (lv_at hl 0 rfl) ?_
  refine lv_bipush hx hb (show decode c_Re_init 21 = .ok (.bipush 32, 2) by decide +kernel) rfl ?_
  refine va_newa hx hb (atype := .int) (hg (.arrayClass .int) (m_ing (by decide +kernel) (by decide +kernel))) (ty := .int) rfl hK hP hD hS hA (N' := 32) (a0 := (32, .inl (fun _ => 0))) (fun _ => rfl) (by decide) (by decide) (by decide) (Nat.le_of_ble_eq_true rfl) (Nat.le_of_ble_eq_true rfl) (show decode c_Re_init 23 = .ok (.newarray .int, 2) by decide +kernel) (fun q3 cA H hK2 hP hD hS => ?_)
  have e1 := z_same hK2
  subst e1
  refine va_putF (D := D) (ci := 2) (v := .ref q3) (ty := .array .int) (C := R_Re) (T := F_Re) (N := 4) hx hb hg ig_Re t_Re k_Re n_Re hown hK hP hD hS 0 rfl rfl 2 (by decide) (hg (.fieldLink R_Re 18 R_Re "due" "[I") (m_ing (by decide +kernel) (by decide +kernel))) (fun _ h9 => h9) rfl hin rfl (by decide +kernel) rfl rfl (Nat.le_of_ble_eq_true rfl) (show decode c_Re_init 25 = .ok (.putfield 18, 3) by decide +kernel) (fun H locs hP hD hS => ?_)
  have hP : va_P D m_cl [(h0, .inr (2, [.ref q1, .ref q2, .ref q3, .int 0])), (q1, z_ar cA 32), (q2, z_ar cA 32), (q3, z_ar cA 32)] H := hP
  have hD : va_D A [(h0, .inr (2, [.ref q1, .ref q2, .ref q3, .int 0])), (q1, z_ar cA 32), (q2, z_ar cA 32), (q3, z_ar cA 32)] := hD
  exact W.vret hx hb hr (fun t ht hW => ⟨⟨(q1, q2, q3), rfl, trivial, by rw [ht]; exact hP, hAe ▸ hD⟩, hS.F ht⟩) hS.2.2 (show decode c_Re_init 28 = .ok (.return_, 1) by decide +kernel)
