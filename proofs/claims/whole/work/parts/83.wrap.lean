/-! The wrappers of the methods that may throw. -/
theorem q_of_n {c1 c2 : Prop} {o : aO} {x : Int32} (h : ¬ (q_of c1 c2 o x).1 = 0) (s : aS) : rs s (q_of c1 c2 o x) = s := by
  by_cases h1 : c1
  · by_cases h2 : c2
    · rw [q_of_2 h1 h2] at h
      exact absurd rfl h
    · rw [q_of_1 h1 h2]
      rfl
  · rw [q_of_0 h1]
    rfl
theorem qe_pay {s : aS} {a b v p : Int32} (h : ¬ (q_pay s a b v p).1 = 0) : rs s (q_pay s a b v p) = s := q_of_n h s
theorem qe_bond {s : aS} {a b v p : Int32} (h : ¬ (q_bond s a b v p).1 = 0) : rs s (q_bond s a b v p) = s := q_of_n h s
theorem qe_unbond {s : aS} {a b v p : Int32} (h : ¬ (q_unbond s a b v p).1 = 0) : rs s (q_unbond s a b v p) = s := q_of_n h s
theorem qe_free {s : aS} {a b p : Int32} (h : ¬ (q_free s a b p).1 = 0) : rs s (q_free s a b p) = s := q_of_n h s
theorem qe_prove {s : aS} {a b v p : Int32} (h : ¬ (q_prove s a b v p).1 = 0) : rs s (q_prove s a b v p) = s := q_of_n h s
theorem qe_next {s : aS} (h : ¬ (q_next s).1 = 0) : rs s (q_next s) = s := by
  unfold q_next at h ⊢
  by_cases e : s.2.2.2.2.2.2 = 1000000
  · rw [if_pos e]
    rfl
  · rw [if_neg e] at h
    exact absurd rfl h
theorem qs_c {c : Prop} {a b : qR} (s : aS) (ha : a.2.2 = none) (hb : b.2.2 = none) : (q_c c a b).2.2 = none := by
  by_cases h : c
  · rw [q_c_t h]; exact ha
  · rw [q_c_f h]; exact hb
theorem rs_n {s : aS} {r : qR} (h : r.2.2 = none) : rs s r = s := by unfold rs; rw [h]
theorem qs_account {s : aS} {a b : Int32} : rs s (q_account s a b) = s := rs_n (qs_c s (qs_c s rfl rfl) rfl)
theorem qs_sum {s : aS} {b : Int32} : rs s (q_sum s b) = s := rs_n (qs_c s rfl rfl)
theorem qs_proposer {s : aS} {a b : Int32} : rs s (q_proposer s a b) = s := rs_n (qs_c s rfl rfl)
theorem qe_account {s : aS} {a b : Int32} (_ : ¬ (q_account s a b).1 = 0) : rs s (q_account s a b) = s := qs_account
theorem qe_sum {s : aS} {b : Int32} (_ : ¬ (q_sum s b).1 = 0) : rs s (q_sum s b) = s := qs_sum
theorem qe_proposer {s : aS} {a b : Int32} (_ : ¬ (q_proposer s a b).1 = 0) : rs s (q_proposer s a b) = s := qs_proposer
abbrev rmW : Room := { frames := 7, cells := 1, slots := 6, locals := 210 }
set_option maxHeartbeats 16000000 in
set_option maxRecDepth 20000 in
theorem lx_pay (l : Launch) (hst : l.stackTraces = false) (D : va_G) (cI cZ cK cL : ClassId) (ad : Nat → Nat) (ou : Nat) (co : Nat → Nat) (lo : Nat) (s0 : aS) (ks : Nat → aS) (f : Nat → Int64) (sz : Nat) (x1 x2 x3 x4 : Int32) {T : Nat} (hI : IV T s0) (hT : T ≤ 1000) :
    vx_Met l y_La_pay (.codeWith y_La_pay method_3_code 7 (some .int) hh_pay :: gw) rmW (l_pre D cI cZ cK cL ad ou co lo s0 ks f sz [.ref (ad 11), .int x1, .int x2, .int x3, .int x4, .ref ou]) (l_post D cI cZ cK cL ad ou co lo (l_A co lo sz) (q_pay s0 x1 x2 x3 x4).1 (rs s0 (q_pay s0 x1 x2 x3 x4)) ks (fun f' => (q_pay s0 x1 x2 x3 x4).1 = 0 → f' 0 = (q_pay s0 x1 x2 x3 x4).2.1.toInt64)) (fun _ _ _ => False) 1 6 (l_A co lo sz) := by
  refine vx_ofWH (cc := method_3_code) (maxL := 7) (ret := some .int) (hh := hh_pay) (by decide) rfl ?_
  intro p e s m args below meth c s₁ B hml hv
  obtain ⟨rfl, hsz, ⟨w, g, hw0, o1, o2, o3, o4⟩, hK, hxw, hU, hSe, hn1, hn2⟩ := hv
  have hx := B.exec
  have hb := B.bytes
  have hr := B.returns
  have hts := atoms_spec (ws := .codeWith y_La_pay method_3_code 7 (some .int) hh_pay :: gw) B.pre
  have htab := vx_table (x := y_La_pay) B (hts _ List.mem_cons_self)
  have hw : ∀ x ∈ gw, x.before ([.ref (ad 11), .int x1, .int x2, .int x3, .int x4, .ref ou] : List Value).toArray s = true := fun x h => hts x (List.mem_cons_of_mem _ h)
  have hown : s.vm.findClass R_La = some m.cls := findClass_of_methodNamed B.named
  subst hsz
  have hA : ∀ q : Nat, s.heap.size ≤ q → l_A co lo s.heap.size q := fun q h => Or.inr h
  have hS : va_S (l_A co lo s.heap.size) s.heap s.heap [] := va_S.rf
  have hKm := hK.sub (tys' := z_ty cI cZ) [0, 1] rfl
  have hDw := o1.inA (sz := s.heap.size) (by decide)
  have h3 : lo ≤ ou ∧ co ou = 3 := o3.2.2 0 (ou, lo_ar cL f) rfl
  have hou : l_A co lo s.heap.size ou := Or.inl ⟨h3.1, by rw [h3.2]; decide⟩
  have hwa := RCw_at hw0
  have G : g_Cx p (rmW : Room) s m ([.ref (ad 11), .int x1, .int x2, .int x3, .int x4, .ref ou] : List Value).toArray c method_3_code R_La (.codeWith y_La_pay method_3_code 7 (some .int) hh_pay) D cI cZ 7 := ⟨⟨hx, hb, hml, hown, hts⟩, hKm, fun x hx' => hxw x (nw_xw x hx')⟩
  have GX : g_X l s (l_A co lo s.heap.size) := ⟨hst, hxw, hU, hSe⟩
  have hl := lv_entry ([.ref (ad 11), .int x1, .int x2, .int x3, .int x4, .ref ou]) (n := 7) (Nat.le_of_ble_eq_true rfl)
  rw [lg_entry_eq]
  generalize (lg_sl ([.ref (ad 11), .int x1, .int x2, .int x3, .int x4, .ref ou]) ++ List.replicate (7 - (lg_sl ([.ref (ad 11), .int x1, .int x2, .int x3, .int x4, .ref ou])).length) Slot.unset).toArray = ls at hl ⊢
  have hl : lv_has ls 7 [(0, .ref (ad 11)), (1, .int x1), (2, .int x2), (3, .int x3), (4, .int x4), (5, .ref ou)] := hl
  refine lv_aload hx hb (show decode method_3_code 0 = .ok (.aload 5, 2) by decide +kernel) (lv_at hl 5 rfl) ?_
  refine lv_iconst (v := 0) hx hb (show decode method_3_code 2 = .ok (.iconst 0, 1) by decide +kernel) rfl ?_
  refine lv_aload_n hx hb (show decode method_3_code 3 = .ok (.aload_n 0, 1) by decide +kernel) rfl (lv_at hl 0 rfl) ?_
  refine lv_iload_n hx hb (show decode method_3_code 4 = .ok (.iload_n 1, 1) by decide +kernel) rfl (lv_at hl 1 rfl) ?_
  refine lv_iload_n hx hb (show decode method_3_code 5 = .ok (.iload_n 2, 1) by decide +kernel) rfl (lv_at hl 2 rfl) ?_
  refine lv_iload_n hx hb (show decode method_3_code 6 = .ok (.iload_n 3, 1) by decide +kernel) rfl (lv_at hl 3 rfl) ?_
  refine lv_iload hx hb (show decode method_3_code 7 = .ok (.iload 4, 2) by decide +kernel) (lv_at hl 4 rfl) ?_
  refine m_goVX (y := y_Le_pay) (bytes := c_Le_pay) (maxL := 5) (ret := some .int) (j := 7) (ci := 3) (rmY := rmX) (ct := cx_pay) (Cn := R_Le) (Tn := F_Le) (Nn := 2) (a := 11) (as := [.inl x1, .inl x2, .inl x3, .inl x4]) (w := w) (fs := [.inr 0, .inr 12]) (rest := [.int 0, .ref ou]) (K := fun r w' => (q_pay s0 x1 x2 x3 x4).1 = 0 ∧ r = some (.inl (q_pay s0 x1 x2 x3 x4).2.1) ∧ RCw (rs s0 (q_pay s0 x1 x2 x3 x4)) [] w') (X := fun kd w' => w' = w ∧ ((q_pay s0 x1 x2 x3 x4).1 = 1 ∧ kd = 0 ∨ (q_pay s0 x1 x2 x3 x4).1 = 2 ∧ kd = 1)) 4 G GX x_pay cd_Le_pay lk_pay im_pay se_pay in_Le0 rfl rfl rfl hwa ⟨by decide, by decide, by decide +kernel⟩ ⟨by decide, by decide⟩ rfl hl.1 (Nat.le_of_ble_eq_true rfl) (show decode method_3_code 9 = .ok (.invokevirtual 7, 3) by decide +kernel) ⟨by decide, by decide⟩ (cy_pay hw0 hI hT (fun e9 => ⟨rfl, Or.inl ⟨e9, rfl⟩⟩) (fun e9 => ⟨rfl, Or.inr ⟨e9, rfl⟩⟩) (fun e9 w' h9 => ⟨e9, rfl, h9⟩)) o1.1 hDw hS hA ?_ ?_
  · intro kd w' ce q9 H1 locs1 hl1 hX1 hP1 hf1 hS1 hce hcv hcl
    obtain ⟨rfl, hX1⟩ := hX1
    have hLC : LC D cI cZ cK cL ad ou co lo s0 ks f H1 := LC_up o1 o2 o3 o4 hw0 rfl hP1 hf1
    rcases hX1 with ⟨hq, rfl⟩ | ⟨hq, rfl⟩
    · refine vx_catch (own := R_La) (name := exn 0) hown [] ⟨0, 14, 17, 13⟩ [⟨0, 14, 21, 15⟩] htab (fun z hz => nomatch hz) (by decide) (by decide) (hw _ lk_13) (va_Nw.use rfl (hxw _ ks_0)) hce hcv hcl ?_
      refine lv_astore hx hb (show decode method_3_code 17 = .ok (.astore 6, 2) by decide +kernel) hl (by decide) rfl (fun ls1 hl1 => ?_)
      refine lv_iconst (v := 1) hx hb (show decode method_3_code 19 = .ok (.iconst 1, 1) by decide +kernel) rfl ?_
      exact vx_ret (W.iret hx hb hr (fun t ht hW => ⟨⟨co, f, 1, rfl, e_1 hq, fun _ _ => rfl, by rw [ht, show rs s0 (q_pay s0 x1 x2 x3 x4) = s0 from qe_pay (fun h9 => absurd (hq.symm.trans h9) (by decide))]; exact hLC, fun h9 => absurd (hq.symm.trans h9) (by decide)⟩, hS1.F ht⟩) hS1.2.2 (show decode method_3_code 20 = .ok (.ireturn, 1) by decide +kernel))
    · refine vx_catch (own := R_La) (name := exn 1) hown [⟨0, 14, 17, 13⟩] ⟨0, 14, 21, 15⟩ [] htab (fun z hz => by rw [List.mem_singleton.mp hz]; exact Or.inr ⟨by decide, exn 0, hw _ lk_13, hn1⟩) (by decide) (by decide) (hw _ lk_15) (va_Nw.use rfl (hxw _ ks_1)) hce hcv hcl ?_
      refine lv_astore hx hb (show decode method_3_code 21 = .ok (.astore 6, 2) by decide +kernel) hl (by decide) rfl (fun ls1 hl1 => ?_)
      refine lv_iconst (v := 2) hx hb (show decode method_3_code 23 = .ok (.iconst 2, 1) by decide +kernel) rfl ?_
      exact vx_ret (W.iret hx hb hr (fun t ht hW => ⟨⟨co, f, 2, rfl, e_2 hq, fun _ _ => rfl, by rw [ht, show rs s0 (q_pay s0 x1 x2 x3 x4) = s0 from qe_pay (fun h9 => absurd (hq.symm.trans h9) (by decide))]; exact hLC, fun h9 => absurd (hq.symm.trans h9) (by decide)⟩, hS1.F ht⟩) hS1.2.2 (show decode method_3_code 24 = .ok (.ireturn, 1) by decide +kernel))
  · intro r w' H1 locs1 hl1 hK1 hP1 hf1 hS1
    obtain ⟨hq, rfl, hRC1⟩ := hK1
    have hLC := LC_up o1 o2 o3 o4 hRC1 hl1 hP1 hf1
    refine W.eq (g2 := F0 m 12 ls [.int (q_pay s0 x1 x2 x3 x4).2.1, .int 0, .ref ou]) rfl ?_
    refine lv_i2l hx hb (show decode method_3_code 12 = .ok (.i2l, 1) by decide +kernel) rfl ?_
    refine o_last hx hb hK 3 rfl hLC hou hS1 (show decode method_3_code 13 = .ok (.lastore, 1) by decide +kernel) (fun H2 locs2 f1 hf2 hLC hS2 => ?_)
    refine lv_goto hx hb (show decode method_3_code 14 = .ok (.goto 11, 3) by decide +kernel) (tgt := 25) rfl ?_
    refine lv_iconst (v := 0) hx hb (show decode method_3_code 25 = .ok (.iconst 0, 1) by decide +kernel) rfl ?_
    exact vx_ret (W.iret hx hb hr (fun t ht hW => ⟨⟨co, f1, 0, rfl, e_0 hq, fun _ _ => rfl, by rw [ht]; exact hLC, fun _ => hf2⟩, hS2.F ht⟩) hS2.2.2 (show decode method_3_code 26 = .ok (.ireturn, 1) by decide +kernel))
set_option maxHeartbeats 16000000 in
set_option maxRecDepth 20000 in
theorem lx_bond (l : Launch) (hst : l.stackTraces = false) (D : va_G) (cI cZ cK cL : ClassId) (ad : Nat → Nat) (ou : Nat) (co : Nat → Nat) (lo : Nat) (s0 : aS) (ks : Nat → aS) (f : Nat → Int64) (sz : Nat) (x1 x2 x3 x4 : Int32) {T : Nat} (hI : IV T s0) (hT : T ≤ 1000) :
    vx_Met l y_La_bond (.codeWith y_La_bond method_4_code 7 (some .int) hh_bond :: gw) rmW (l_pre D cI cZ cK cL ad ou co lo s0 ks f sz [.ref (ad 11), .int x1, .int x2, .int x3, .int x4, .ref ou]) (l_post D cI cZ cK cL ad ou co lo (l_A co lo sz) (q_bond s0 x1 x2 x3 x4).1 (rs s0 (q_bond s0 x1 x2 x3 x4)) ks (fun f' => (q_bond s0 x1 x2 x3 x4).1 = 0 → f' 0 = (q_bond s0 x1 x2 x3 x4).2.1.toInt64)) (fun _ _ _ => False) 1 6 (l_A co lo sz) := by
  refine vx_ofWH (cc := method_4_code) (maxL := 7) (ret := some .int) (hh := hh_bond) (by decide) rfl ?_
  intro p e s m args below meth c s₁ B hml hv
  obtain ⟨rfl, hsz, ⟨w, g, hw0, o1, o2, o3, o4⟩, hK, hxw, hU, hSe, hn1, hn2⟩ := hv
  have hx := B.exec
  have hb := B.bytes
  have hr := B.returns
  have hts := atoms_spec (ws := .codeWith y_La_bond method_4_code 7 (some .int) hh_bond :: gw) B.pre
  have htab := vx_table (x := y_La_bond) B (hts _ List.mem_cons_self)
  have hw : ∀ x ∈ gw, x.before ([.ref (ad 11), .int x1, .int x2, .int x3, .int x4, .ref ou] : List Value).toArray s = true := fun x h => hts x (List.mem_cons_of_mem _ h)
  have hown : s.vm.findClass R_La = some m.cls := findClass_of_methodNamed B.named
  subst hsz
  have hA : ∀ q : Nat, s.heap.size ≤ q → l_A co lo s.heap.size q := fun q h => Or.inr h
  have hS : va_S (l_A co lo s.heap.size) s.heap s.heap [] := va_S.rf
  have hKm := hK.sub (tys' := z_ty cI cZ) [0, 1] rfl
  have hDw := o1.inA (sz := s.heap.size) (by decide)
  have h3 : lo ≤ ou ∧ co ou = 3 := o3.2.2 0 (ou, lo_ar cL f) rfl
  have hou : l_A co lo s.heap.size ou := Or.inl ⟨h3.1, by rw [h3.2]; decide⟩
  have hwa := RCw_at hw0
  have G : g_Cx p (rmW : Room) s m ([.ref (ad 11), .int x1, .int x2, .int x3, .int x4, .ref ou] : List Value).toArray c method_4_code R_La (.codeWith y_La_bond method_4_code 7 (some .int) hh_bond) D cI cZ 7 := ⟨⟨hx, hb, hml, hown, hts⟩, hKm, fun x hx' => hxw x (nw_xw x hx')⟩
  have GX : g_X l s (l_A co lo s.heap.size) := ⟨hst, hxw, hU, hSe⟩
  have hl := lv_entry ([.ref (ad 11), .int x1, .int x2, .int x3, .int x4, .ref ou]) (n := 7) (Nat.le_of_ble_eq_true rfl)
  rw [lg_entry_eq]
  generalize (lg_sl ([.ref (ad 11), .int x1, .int x2, .int x3, .int x4, .ref ou]) ++ List.replicate (7 - (lg_sl ([.ref (ad 11), .int x1, .int x2, .int x3, .int x4, .ref ou])).length) Slot.unset).toArray = ls at hl ⊢
  have hl : lv_has ls 7 [(0, .ref (ad 11)), (1, .int x1), (2, .int x2), (3, .int x3), (4, .int x4), (5, .ref ou)] := hl
  refine lv_aload hx hb (show decode method_4_code 0 = .ok (.aload 5, 2) by decide +kernel) (lv_at hl 5 rfl) ?_
  refine lv_iconst (v := 0) hx hb (show decode method_4_code 2 = .ok (.iconst 0, 1) by decide +kernel) rfl ?_
  refine lv_aload_n hx hb (show decode method_4_code 3 = .ok (.aload_n 0, 1) by decide +kernel) rfl (lv_at hl 0 rfl) ?_
  refine lv_iload_n hx hb (show decode method_4_code 4 = .ok (.iload_n 1, 1) by decide +kernel) rfl (lv_at hl 1 rfl) ?_
  refine lv_iload_n hx hb (show decode method_4_code 5 = .ok (.iload_n 2, 1) by decide +kernel) rfl (lv_at hl 2 rfl) ?_
  refine lv_iload_n hx hb (show decode method_4_code 6 = .ok (.iload_n 3, 1) by decide +kernel) rfl (lv_at hl 3 rfl) ?_
  refine lv_iload hx hb (show decode method_4_code 7 = .ok (.iload 4, 2) by decide +kernel) (lv_at hl 4 rfl) ?_
  refine m_goVX (y := y_Le_bond) (bytes := c_Le_bond) (maxL := 5) (ret := some .int) (j := 17) (ci := 3) (rmY := rmX) (ct := cx_bond) (Cn := R_Le) (Tn := F_Le) (Nn := 2) (a := 11) (as := [.inl x1, .inl x2, .inl x3, .inl x4]) (w := w) (fs := [.inr 0, .inr 12]) (rest := [.int 0, .ref ou]) (K := fun r w' => (q_bond s0 x1 x2 x3 x4).1 = 0 ∧ r = some (.inl (q_bond s0 x1 x2 x3 x4).2.1) ∧ RCw (rs s0 (q_bond s0 x1 x2 x3 x4)) [] w') (X := fun kd w' => w' = w ∧ ((q_bond s0 x1 x2 x3 x4).1 = 1 ∧ kd = 0 ∨ (q_bond s0 x1 x2 x3 x4).1 = 2 ∧ kd = 1)) 4 G GX x_bond cd_Le_bond lk_bond im_bond se_bond in_Le0 rfl rfl rfl hwa ⟨by decide, by decide, by decide +kernel⟩ ⟨by decide, by decide⟩ rfl hl.1 (Nat.le_of_ble_eq_true rfl) (show decode method_4_code 9 = .ok (.invokevirtual 17, 3) by decide +kernel) ⟨by decide, by decide⟩ (cy_bond hw0 hI hT (fun e9 => ⟨rfl, Or.inl ⟨e9, rfl⟩⟩) (fun e9 => ⟨rfl, Or.inr ⟨e9, rfl⟩⟩) (fun e9 w' h9 => ⟨e9, rfl, h9⟩)) o1.1 hDw hS hA ?_ ?_
  · intro kd w' ce q9 H1 locs1 hl1 hX1 hP1 hf1 hS1 hce hcv hcl
    obtain ⟨rfl, hX1⟩ := hX1
    have hLC : LC D cI cZ cK cL ad ou co lo s0 ks f H1 := LC_up o1 o2 o3 o4 hw0 rfl hP1 hf1
    rcases hX1 with ⟨hq, rfl⟩ | ⟨hq, rfl⟩
    · refine vx_catch (own := R_La) (name := exn 0) hown [] ⟨0, 14, 17, 13⟩ [⟨0, 14, 21, 15⟩] htab (fun z hz => nomatch hz) (by decide) (by decide) (hw _ lk_13) (va_Nw.use rfl (hxw _ ks_0)) hce hcv hcl ?_
      refine lv_astore hx hb (show decode method_4_code 17 = .ok (.astore 6, 2) by decide +kernel) hl (by decide) rfl (fun ls1 hl1 => ?_)
      refine lv_iconst (v := 1) hx hb (show decode method_4_code 19 = .ok (.iconst 1, 1) by decide +kernel) rfl ?_
      exact vx_ret (W.iret hx hb hr (fun t ht hW => ⟨⟨co, f, 1, rfl, e_1 hq, fun _ _ => rfl, by rw [ht, show rs s0 (q_bond s0 x1 x2 x3 x4) = s0 from qe_bond (fun h9 => absurd (hq.symm.trans h9) (by decide))]; exact hLC, fun h9 => absurd (hq.symm.trans h9) (by decide)⟩, hS1.F ht⟩) hS1.2.2 (show decode method_4_code 20 = .ok (.ireturn, 1) by decide +kernel))
    · refine vx_catch (own := R_La) (name := exn 1) hown [⟨0, 14, 17, 13⟩] ⟨0, 14, 21, 15⟩ [] htab (fun z hz => by rw [List.mem_singleton.mp hz]; exact Or.inr ⟨by decide, exn 0, hw _ lk_13, hn1⟩) (by decide) (by decide) (hw _ lk_15) (va_Nw.use rfl (hxw _ ks_1)) hce hcv hcl ?_
      refine lv_astore hx hb (show decode method_4_code 21 = .ok (.astore 6, 2) by decide +kernel) hl (by decide) rfl (fun ls1 hl1 => ?_)
      refine lv_iconst (v := 2) hx hb (show decode method_4_code 23 = .ok (.iconst 2, 1) by decide +kernel) rfl ?_
      exact vx_ret (W.iret hx hb hr (fun t ht hW => ⟨⟨co, f, 2, rfl, e_2 hq, fun _ _ => rfl, by rw [ht, show rs s0 (q_bond s0 x1 x2 x3 x4) = s0 from qe_bond (fun h9 => absurd (hq.symm.trans h9) (by decide))]; exact hLC, fun h9 => absurd (hq.symm.trans h9) (by decide)⟩, hS1.F ht⟩) hS1.2.2 (show decode method_4_code 24 = .ok (.ireturn, 1) by decide +kernel))
  · intro r w' H1 locs1 hl1 hK1 hP1 hf1 hS1
    obtain ⟨hq, rfl, hRC1⟩ := hK1
    have hLC := LC_up o1 o2 o3 o4 hRC1 hl1 hP1 hf1
    refine W.eq (g2 := F0 m 12 ls [.int (q_bond s0 x1 x2 x3 x4).2.1, .int 0, .ref ou]) rfl ?_
    refine lv_i2l hx hb (show decode method_4_code 12 = .ok (.i2l, 1) by decide +kernel) rfl ?_
    refine o_last hx hb hK 3 rfl hLC hou hS1 (show decode method_4_code 13 = .ok (.lastore, 1) by decide +kernel) (fun H2 locs2 f1 hf2 hLC hS2 => ?_)
    refine lv_goto hx hb (show decode method_4_code 14 = .ok (.goto 11, 3) by decide +kernel) (tgt := 25) rfl ?_
    refine lv_iconst (v := 0) hx hb (show decode method_4_code 25 = .ok (.iconst 0, 1) by decide +kernel) rfl ?_
    exact vx_ret (W.iret hx hb hr (fun t ht hW => ⟨⟨co, f1, 0, rfl, e_0 hq, fun _ _ => rfl, by rw [ht]; exact hLC, fun _ => hf2⟩, hS2.F ht⟩) hS2.2.2 (show decode method_4_code 26 = .ok (.ireturn, 1) by decide +kernel))
set_option maxHeartbeats 16000000 in
set_option maxRecDepth 20000 in
theorem lx_unbond (l : Launch) (hst : l.stackTraces = false) (D : va_G) (cI cZ cK cL : ClassId) (ad : Nat → Nat) (ou : Nat) (co : Nat → Nat) (lo : Nat) (s0 : aS) (ks : Nat → aS) (f : Nat → Int64) (sz : Nat) (x1 x2 x3 x4 : Int32) {T : Nat} (hI : IV T s0) (hT : T ≤ 1000) :
    vx_Met l y_La_unbond (.codeWith y_La_unbond method_5_code 7 (some .int) hh_unbond :: gw) rmW (l_pre D cI cZ cK cL ad ou co lo s0 ks f sz [.ref (ad 11), .int x1, .int x2, .int x3, .int x4, .ref ou]) (l_post D cI cZ cK cL ad ou co lo (l_A co lo sz) (q_unbond s0 x1 x2 x3 x4).1 (rs s0 (q_unbond s0 x1 x2 x3 x4)) ks (fun f' => (q_unbond s0 x1 x2 x3 x4).1 = 0 → f' 0 = (q_unbond s0 x1 x2 x3 x4).2.1.toInt64)) (fun _ _ _ => False) 1 6 (l_A co lo sz) := by
  refine vx_ofWH (cc := method_5_code) (maxL := 7) (ret := some .int) (hh := hh_unbond) (by decide) rfl ?_
  intro p e s m args below meth c s₁ B hml hv
  obtain ⟨rfl, hsz, ⟨w, g, hw0, o1, o2, o3, o4⟩, hK, hxw, hU, hSe, hn1, hn2⟩ := hv
  have hx := B.exec
  have hb := B.bytes
  have hr := B.returns
  have hts := atoms_spec (ws := .codeWith y_La_unbond method_5_code 7 (some .int) hh_unbond :: gw) B.pre
  have htab := vx_table (x := y_La_unbond) B (hts _ List.mem_cons_self)
  have hw : ∀ x ∈ gw, x.before ([.ref (ad 11), .int x1, .int x2, .int x3, .int x4, .ref ou] : List Value).toArray s = true := fun x h => hts x (List.mem_cons_of_mem _ h)
  have hown : s.vm.findClass R_La = some m.cls := findClass_of_methodNamed B.named
  subst hsz
  have hA : ∀ q : Nat, s.heap.size ≤ q → l_A co lo s.heap.size q := fun q h => Or.inr h
  have hS : va_S (l_A co lo s.heap.size) s.heap s.heap [] := va_S.rf
  have hKm := hK.sub (tys' := z_ty cI cZ) [0, 1] rfl
  have hDw := o1.inA (sz := s.heap.size) (by decide)
  have h3 : lo ≤ ou ∧ co ou = 3 := o3.2.2 0 (ou, lo_ar cL f) rfl
  have hou : l_A co lo s.heap.size ou := Or.inl ⟨h3.1, by rw [h3.2]; decide⟩
  have hwa := RCw_at hw0
  have G : g_Cx p (rmW : Room) s m ([.ref (ad 11), .int x1, .int x2, .int x3, .int x4, .ref ou] : List Value).toArray c method_5_code R_La (.codeWith y_La_unbond method_5_code 7 (some .int) hh_unbond) D cI cZ 7 := ⟨⟨hx, hb, hml, hown, hts⟩, hKm, fun x hx' => hxw x (nw_xw x hx')⟩
  have GX : g_X l s (l_A co lo s.heap.size) := ⟨hst, hxw, hU, hSe⟩
  have hl := lv_entry ([.ref (ad 11), .int x1, .int x2, .int x3, .int x4, .ref ou]) (n := 7) (Nat.le_of_ble_eq_true rfl)
  rw [lg_entry_eq]
  generalize (lg_sl ([.ref (ad 11), .int x1, .int x2, .int x3, .int x4, .ref ou]) ++ List.replicate (7 - (lg_sl ([.ref (ad 11), .int x1, .int x2, .int x3, .int x4, .ref ou])).length) Slot.unset).toArray = ls at hl ⊢
  have hl : lv_has ls 7 [(0, .ref (ad 11)), (1, .int x1), (2, .int x2), (3, .int x3), (4, .int x4), (5, .ref ou)] := hl
  refine lv_aload hx hb (show decode method_5_code 0 = .ok (.aload 5, 2) by decide +kernel) (lv_at hl 5 rfl) ?_
  refine lv_iconst (v := 0) hx hb (show decode method_5_code 2 = .ok (.iconst 0, 1) by decide +kernel) rfl ?_
  refine lv_aload_n hx hb (show decode method_5_code 3 = .ok (.aload_n 0, 1) by decide +kernel) rfl (lv_at hl 0 rfl) ?_
  refine lv_iload_n hx hb (show decode method_5_code 4 = .ok (.iload_n 1, 1) by decide +kernel) rfl (lv_at hl 1 rfl) ?_
  refine lv_iload_n hx hb (show decode method_5_code 5 = .ok (.iload_n 2, 1) by decide +kernel) rfl (lv_at hl 2 rfl) ?_
  refine lv_iload_n hx hb (show decode method_5_code 6 = .ok (.iload_n 3, 1) by decide +kernel) rfl (lv_at hl 3 rfl) ?_
  refine lv_iload hx hb (show decode method_5_code 7 = .ok (.iload 4, 2) by decide +kernel) (lv_at hl 4 rfl) ?_
  refine m_goVX (y := y_Le_unbond) (bytes := c_Le_unbond) (maxL := 5) (ret := some .int) (j := 20) (ci := 3) (rmY := rmX) (ct := cx_unbond) (Cn := R_Le) (Tn := F_Le) (Nn := 2) (a := 11) (as := [.inl x1, .inl x2, .inl x3, .inl x4]) (w := w) (fs := [.inr 0, .inr 12]) (rest := [.int 0, .ref ou]) (K := fun r w' => (q_unbond s0 x1 x2 x3 x4).1 = 0 ∧ r = some (.inl (q_unbond s0 x1 x2 x3 x4).2.1) ∧ RCw (rs s0 (q_unbond s0 x1 x2 x3 x4)) [] w') (X := fun kd w' => w' = w ∧ ((q_unbond s0 x1 x2 x3 x4).1 = 1 ∧ kd = 0 ∨ (q_unbond s0 x1 x2 x3 x4).1 = 2 ∧ kd = 1)) 4 G GX x_unbond cd_Le_unbond lk_unbond im_unbond se_unbond in_Le0 rfl rfl rfl hwa ⟨by decide, by decide, by decide +kernel⟩ ⟨by decide, by decide⟩ rfl hl.1 (Nat.le_of_ble_eq_true rfl) (show decode method_5_code 9 = .ok (.invokevirtual 20, 3) by decide +kernel) ⟨by decide, by decide⟩ (cy_unbond hw0 hI hT (fun e9 => ⟨rfl, Or.inl ⟨e9, rfl⟩⟩) (fun e9 => ⟨rfl, Or.inr ⟨e9, rfl⟩⟩) (fun e9 w' h9 => ⟨e9, rfl, h9⟩)) o1.1 hDw hS hA ?_ ?_
  · intro kd w' ce q9 H1 locs1 hl1 hX1 hP1 hf1 hS1 hce hcv hcl
    obtain ⟨rfl, hX1⟩ := hX1
    have hLC : LC D cI cZ cK cL ad ou co lo s0 ks f H1 := LC_up o1 o2 o3 o4 hw0 rfl hP1 hf1
    rcases hX1 with ⟨hq, rfl⟩ | ⟨hq, rfl⟩
    · refine vx_catch (own := R_La) (name := exn 0) hown [] ⟨0, 14, 17, 13⟩ [⟨0, 14, 21, 15⟩] htab (fun z hz => nomatch hz) (by decide) (by decide) (hw _ lk_13) (va_Nw.use rfl (hxw _ ks_0)) hce hcv hcl ?_
      refine lv_astore hx hb (show decode method_5_code 17 = .ok (.astore 6, 2) by decide +kernel) hl (by decide) rfl (fun ls1 hl1 => ?_)
      refine lv_iconst (v := 1) hx hb (show decode method_5_code 19 = .ok (.iconst 1, 1) by decide +kernel) rfl ?_
      exact vx_ret (W.iret hx hb hr (fun t ht hW => ⟨⟨co, f, 1, rfl, e_1 hq, fun _ _ => rfl, by rw [ht, show rs s0 (q_unbond s0 x1 x2 x3 x4) = s0 from qe_unbond (fun h9 => absurd (hq.symm.trans h9) (by decide))]; exact hLC, fun h9 => absurd (hq.symm.trans h9) (by decide)⟩, hS1.F ht⟩) hS1.2.2 (show decode method_5_code 20 = .ok (.ireturn, 1) by decide +kernel))
    · refine vx_catch (own := R_La) (name := exn 1) hown [⟨0, 14, 17, 13⟩] ⟨0, 14, 21, 15⟩ [] htab (fun z hz => by rw [List.mem_singleton.mp hz]; exact Or.inr ⟨by decide, exn 0, hw _ lk_13, hn1⟩) (by decide) (by decide) (hw _ lk_15) (va_Nw.use rfl (hxw _ ks_1)) hce hcv hcl ?_
      refine lv_astore hx hb (show decode method_5_code 21 = .ok (.astore 6, 2) by decide +kernel) hl (by decide) rfl (fun ls1 hl1 => ?_)
      refine lv_iconst (v := 2) hx hb (show decode method_5_code 23 = .ok (.iconst 2, 1) by decide +kernel) rfl ?_
      exact vx_ret (W.iret hx hb hr (fun t ht hW => ⟨⟨co, f, 2, rfl, e_2 hq, fun _ _ => rfl, by rw [ht, show rs s0 (q_unbond s0 x1 x2 x3 x4) = s0 from qe_unbond (fun h9 => absurd (hq.symm.trans h9) (by decide))]; exact hLC, fun h9 => absurd (hq.symm.trans h9) (by decide)⟩, hS1.F ht⟩) hS1.2.2 (show decode method_5_code 24 = .ok (.ireturn, 1) by decide +kernel))
  · intro r w' H1 locs1 hl1 hK1 hP1 hf1 hS1
    obtain ⟨hq, rfl, hRC1⟩ := hK1
    have hLC := LC_up o1 o2 o3 o4 hRC1 hl1 hP1 hf1
    refine W.eq (g2 := F0 m 12 ls [.int (q_unbond s0 x1 x2 x3 x4).2.1, .int 0, .ref ou]) rfl ?_
    refine lv_i2l hx hb (show decode method_5_code 12 = .ok (.i2l, 1) by decide +kernel) rfl ?_
    refine o_last hx hb hK 3 rfl hLC hou hS1 (show decode method_5_code 13 = .ok (.lastore, 1) by decide +kernel) (fun H2 locs2 f1 hf2 hLC hS2 => ?_)
    refine lv_goto hx hb (show decode method_5_code 14 = .ok (.goto 11, 3) by decide +kernel) (tgt := 25) rfl ?_
    refine lv_iconst (v := 0) hx hb (show decode method_5_code 25 = .ok (.iconst 0, 1) by decide +kernel) rfl ?_
    exact vx_ret (W.iret hx hb hr (fun t ht hW => ⟨⟨co, f1, 0, rfl, e_0 hq, fun _ _ => rfl, by rw [ht]; exact hLC, fun _ => hf2⟩, hS2.F ht⟩) hS2.2.2 (show decode method_5_code 26 = .ok (.ireturn, 1) by decide +kernel))
set_option maxHeartbeats 16000000 in
set_option maxRecDepth 20000 in
theorem lx_free (l : Launch) (hst : l.stackTraces = false) (D : va_G) (cI cZ cK cL : ClassId) (ad : Nat → Nat) (ou : Nat) (co : Nat → Nat) (lo : Nat) (s0 : aS) (ks : Nat → aS) (f : Nat → Int64) (sz : Nat) (x1 x2 x3 : Int32) {T : Nat} (hI : IV T s0) (hT : T ≤ 1000) :
    vx_Met l y_La_free (.codeWith y_La_free method_6_code 6 (some .int) hh_free :: gw) rmW (l_pre D cI cZ cK cL ad ou co lo s0 ks f sz [.ref (ad 11), .int x1, .int x2, .int x3, .ref ou]) (l_post D cI cZ cK cL ad ou co lo (l_A co lo sz) (q_free s0 x1 x2 x3).1 (rs s0 (q_free s0 x1 x2 x3)) ks (fun f' => (q_free s0 x1 x2 x3).1 = 0 → f' 0 = (q_free s0 x1 x2 x3).2.1.toInt64)) (fun _ _ _ => False) 1 6 (l_A co lo sz) := by
  refine vx_ofWH (cc := method_6_code) (maxL := 6) (ret := some .int) (hh := hh_free) (by decide) rfl ?_
  intro p e s m args below meth c s₁ B hml hv
  obtain ⟨rfl, hsz, ⟨w, g, hw0, o1, o2, o3, o4⟩, hK, hxw, hU, hSe, hn1, hn2⟩ := hv
  have hx := B.exec
  have hb := B.bytes
  have hr := B.returns
  have hts := atoms_spec (ws := .codeWith y_La_free method_6_code 6 (some .int) hh_free :: gw) B.pre
  have htab := vx_table (x := y_La_free) B (hts _ List.mem_cons_self)
  have hw : ∀ x ∈ gw, x.before ([.ref (ad 11), .int x1, .int x2, .int x3, .ref ou] : List Value).toArray s = true := fun x h => hts x (List.mem_cons_of_mem _ h)
  have hown : s.vm.findClass R_La = some m.cls := findClass_of_methodNamed B.named
  subst hsz
  have hA : ∀ q : Nat, s.heap.size ≤ q → l_A co lo s.heap.size q := fun q h => Or.inr h
  have hS : va_S (l_A co lo s.heap.size) s.heap s.heap [] := va_S.rf
  have hKm := hK.sub (tys' := z_ty cI cZ) [0, 1] rfl
  have hDw := o1.inA (sz := s.heap.size) (by decide)
  have h3 : lo ≤ ou ∧ co ou = 3 := o3.2.2 0 (ou, lo_ar cL f) rfl
  have hou : l_A co lo s.heap.size ou := Or.inl ⟨h3.1, by rw [h3.2]; decide⟩
  have hwa := RCw_at hw0
  have G : g_Cx p (rmW : Room) s m ([.ref (ad 11), .int x1, .int x2, .int x3, .ref ou] : List Value).toArray c method_6_code R_La (.codeWith y_La_free method_6_code 6 (some .int) hh_free) D cI cZ 6 := ⟨⟨hx, hb, hml, hown, hts⟩, hKm, fun x hx' => hxw x (nw_xw x hx')⟩
  have GX : g_X l s (l_A co lo s.heap.size) := ⟨hst, hxw, hU, hSe⟩
  have hl := lv_entry ([.ref (ad 11), .int x1, .int x2, .int x3, .ref ou]) (n := 6) (Nat.le_of_ble_eq_true rfl)
  rw [lg_entry_eq]
  generalize (lg_sl ([.ref (ad 11), .int x1, .int x2, .int x3, .ref ou]) ++ List.replicate (6 - (lg_sl ([.ref (ad 11), .int x1, .int x2, .int x3, .ref ou])).length) Slot.unset).toArray = ls at hl ⊢
  have hl : lv_has ls 6 [(0, .ref (ad 11)), (1, .int x1), (2, .int x2), (3, .int x3), (4, .ref ou)] := hl
  refine lv_aload hx hb (show decode method_6_code 0 = .ok (.aload 4, 2) by decide +kernel) (lv_at hl 4 rfl) ?_
  refine lv_iconst (v := 0) hx hb (show decode method_6_code 2 = .ok (.iconst 0, 1) by decide +kernel) rfl ?_
  refine lv_aload_n hx hb (show decode method_6_code 3 = .ok (.aload_n 0, 1) by decide +kernel) rfl (lv_at hl 0 rfl) ?_
  refine lv_iload_n hx hb (show decode method_6_code 4 = .ok (.iload_n 1, 1) by decide +kernel) rfl (lv_at hl 1 rfl) ?_
  refine lv_iload_n hx hb (show decode method_6_code 5 = .ok (.iload_n 2, 1) by decide +kernel) rfl (lv_at hl 2 rfl) ?_
  refine lv_iload_n hx hb (show decode method_6_code 6 = .ok (.iload_n 3, 1) by decide +kernel) rfl (lv_at hl 3 rfl) ?_
  refine m_goVX (y := y_Le_free) (bytes := c_Le_free) (maxL := 4) (ret := some .int) (j := 23) (ci := 3) (rmY := rmX) (ct := cx_free) (Cn := R_Le) (Tn := F_Le) (Nn := 2) (a := 11) (as := [.inl x1, .inl x2, .inl x3]) (w := w) (fs := [.inr 0, .inr 12]) (rest := [.int 0, .ref ou]) (K := fun r w' => (q_free s0 x1 x2 x3).1 = 0 ∧ r = some (.inl (q_free s0 x1 x2 x3).2.1) ∧ RCw (rs s0 (q_free s0 x1 x2 x3)) [] w') (X := fun kd w' => w' = w ∧ ((q_free s0 x1 x2 x3).1 = 1 ∧ kd = 0 ∨ (q_free s0 x1 x2 x3).1 = 2 ∧ kd = 1)) 3 G GX x_free cd_Le_free lk_free im_free se_free in_Le0 rfl rfl rfl hwa ⟨by decide, by decide, by decide +kernel⟩ ⟨by decide, by decide⟩ rfl hl.1 (Nat.le_of_ble_eq_true rfl) (show decode method_6_code 7 = .ok (.invokevirtual 23, 3) by decide +kernel) ⟨by decide, by decide⟩ (cy_free hw0 hI hT (fun e9 => ⟨rfl, Or.inl ⟨e9, rfl⟩⟩) (fun e9 => ⟨rfl, Or.inr ⟨e9, rfl⟩⟩) (fun e9 w' h9 => ⟨e9, rfl, h9⟩)) o1.1 hDw hS hA ?_ ?_
  · intro kd w' ce q9 H1 locs1 hl1 hX1 hP1 hf1 hS1 hce hcv hcl
    obtain ⟨rfl, hX1⟩ := hX1
    have hLC : LC D cI cZ cK cL ad ou co lo s0 ks f H1 := LC_up o1 o2 o3 o4 hw0 rfl hP1 hf1
    rcases hX1 with ⟨hq, rfl⟩ | ⟨hq, rfl⟩
    · refine vx_catch (own := R_La) (name := exn 0) hown [] ⟨0, 12, 15, 13⟩ [⟨0, 12, 19, 15⟩] htab (fun z hz => nomatch hz) (by decide) (by decide) (hw _ lk_13) (va_Nw.use rfl (hxw _ ks_0)) hce hcv hcl ?_
      refine lv_astore hx hb (show decode method_6_code 15 = .ok (.astore 5, 2) by decide +kernel) hl (by decide) rfl (fun ls1 hl1 => ?_)
      refine lv_iconst (v := 1) hx hb (show decode method_6_code 17 = .ok (.iconst 1, 1) by decide +kernel) rfl ?_
      exact vx_ret (W.iret hx hb hr (fun t ht hW => ⟨⟨co, f, 1, rfl, e_1 hq, fun _ _ => rfl, by rw [ht, show rs s0 (q_free s0 x1 x2 x3) = s0 from qe_free (fun h9 => absurd (hq.symm.trans h9) (by decide))]; exact hLC, fun h9 => absurd (hq.symm.trans h9) (by decide)⟩, hS1.F ht⟩) hS1.2.2 (show decode method_6_code 18 = .ok (.ireturn, 1) by decide +kernel))
    · refine vx_catch (own := R_La) (name := exn 1) hown [⟨0, 12, 15, 13⟩] ⟨0, 12, 19, 15⟩ [] htab (fun z hz => by rw [List.mem_singleton.mp hz]; exact Or.inr ⟨by decide, exn 0, hw _ lk_13, hn1⟩) (by decide) (by decide) (hw _ lk_15) (va_Nw.use rfl (hxw _ ks_1)) hce hcv hcl ?_
      refine lv_astore hx hb (show decode method_6_code 19 = .ok (.astore 5, 2) by decide +kernel) hl (by decide) rfl (fun ls1 hl1 => ?_)
      refine lv_iconst (v := 2) hx hb (show decode method_6_code 21 = .ok (.iconst 2, 1) by decide +kernel) rfl ?_
      exact vx_ret (W.iret hx hb hr (fun t ht hW => ⟨⟨co, f, 2, rfl, e_2 hq, fun _ _ => rfl, by rw [ht, show rs s0 (q_free s0 x1 x2 x3) = s0 from qe_free (fun h9 => absurd (hq.symm.trans h9) (by decide))]; exact hLC, fun h9 => absurd (hq.symm.trans h9) (by decide)⟩, hS1.F ht⟩) hS1.2.2 (show decode method_6_code 22 = .ok (.ireturn, 1) by decide +kernel))
  · intro r w' H1 locs1 hl1 hK1 hP1 hf1 hS1
    obtain ⟨hq, rfl, hRC1⟩ := hK1
    have hLC := LC_up o1 o2 o3 o4 hRC1 hl1 hP1 hf1
    refine W.eq (g2 := F0 m 10 ls [.int (q_free s0 x1 x2 x3).2.1, .int 0, .ref ou]) rfl ?_
    refine lv_i2l hx hb (show decode method_6_code 10 = .ok (.i2l, 1) by decide +kernel) rfl ?_
    refine o_last hx hb hK 3 rfl hLC hou hS1 (show decode method_6_code 11 = .ok (.lastore, 1) by decide +kernel) (fun H2 locs2 f1 hf2 hLC hS2 => ?_)
    refine lv_goto hx hb (show decode method_6_code 12 = .ok (.goto 11, 3) by decide +kernel) (tgt := 23) rfl ?_
    refine lv_iconst (v := 0) hx hb (show decode method_6_code 23 = .ok (.iconst 0, 1) by decide +kernel) rfl ?_
    exact vx_ret (W.iret hx hb hr (fun t ht hW => ⟨⟨co, f1, 0, rfl, e_0 hq, fun _ _ => rfl, by rw [ht]; exact hLC, fun _ => hf2⟩, hS2.F ht⟩) hS2.2.2 (show decode method_6_code 24 = .ok (.ireturn, 1) by decide +kernel))
set_option maxHeartbeats 16000000 in
set_option maxRecDepth 20000 in
theorem lx_prove (l : Launch) (hst : l.stackTraces = false) (D : va_G) (cI cZ cK cL : ClassId) (ad : Nat → Nat) (ou : Nat) (co : Nat → Nat) (lo : Nat) (s0 : aS) (ks : Nat → aS) (f : Nat → Int64) (sz : Nat) (x1 x2 x3 x4 : Int32) {T : Nat} (hI : IV T s0) (hT : T ≤ 1000) :
    vx_Met l y_La_prove (.codeWith y_La_prove method_7_code 7 (some .int) hh_prove :: gw) rmW (l_pre D cI cZ cK cL ad ou co lo s0 ks f sz [.ref (ad 11), .int x1, .int x2, .int x3, .int x4, .ref ou]) (l_post D cI cZ cK cL ad ou co lo (l_A co lo sz) (q_prove s0 x1 x2 x3 x4).1 (rs s0 (q_prove s0 x1 x2 x3 x4)) ks (fun f' => (q_prove s0 x1 x2 x3 x4).1 = 0 → f' 0 = (q_prove s0 x1 x2 x3 x4).2.1.toInt64)) (fun _ _ _ => False) 1 6 (l_A co lo sz) := by
  refine vx_ofWH (cc := method_7_code) (maxL := 7) (ret := some .int) (hh := hh_prove) (by decide) rfl ?_
  intro p e s m args below meth c s₁ B hml hv
  obtain ⟨rfl, hsz, ⟨w, g, hw0, o1, o2, o3, o4⟩, hK, hxw, hU, hSe, hn1, hn2⟩ := hv
  have hx := B.exec
  have hb := B.bytes
  have hr := B.returns
  have hts := atoms_spec (ws := .codeWith y_La_prove method_7_code 7 (some .int) hh_prove :: gw) B.pre
  have htab := vx_table (x := y_La_prove) B (hts _ List.mem_cons_self)
  have hw : ∀ x ∈ gw, x.before ([.ref (ad 11), .int x1, .int x2, .int x3, .int x4, .ref ou] : List Value).toArray s = true := fun x h => hts x (List.mem_cons_of_mem _ h)
  have hown : s.vm.findClass R_La = some m.cls := findClass_of_methodNamed B.named
  subst hsz
  have hA : ∀ q : Nat, s.heap.size ≤ q → l_A co lo s.heap.size q := fun q h => Or.inr h
  have hS : va_S (l_A co lo s.heap.size) s.heap s.heap [] := va_S.rf
  have hKm := hK.sub (tys' := z_ty cI cZ) [0, 1] rfl
  have hDw := o1.inA (sz := s.heap.size) (by decide)
  have h3 : lo ≤ ou ∧ co ou = 3 := o3.2.2 0 (ou, lo_ar cL f) rfl
  have hou : l_A co lo s.heap.size ou := Or.inl ⟨h3.1, by rw [h3.2]; decide⟩
  have hwa := RCw_at hw0
  have G : g_Cx p (rmW : Room) s m ([.ref (ad 11), .int x1, .int x2, .int x3, .int x4, .ref ou] : List Value).toArray c method_7_code R_La (.codeWith y_La_prove method_7_code 7 (some .int) hh_prove) D cI cZ 7 := ⟨⟨hx, hb, hml, hown, hts⟩, hKm, fun x hx' => hxw x (nw_xw x hx')⟩
  have GX : g_X l s (l_A co lo s.heap.size) := ⟨hst, hxw, hU, hSe⟩
  have hl := lv_entry ([.ref (ad 11), .int x1, .int x2, .int x3, .int x4, .ref ou]) (n := 7) (Nat.le_of_ble_eq_true rfl)
  rw [lg_entry_eq]
  generalize (lg_sl ([.ref (ad 11), .int x1, .int x2, .int x3, .int x4, .ref ou]) ++ List.replicate (7 - (lg_sl ([.ref (ad 11), .int x1, .int x2, .int x3, .int x4, .ref ou])).length) Slot.unset).toArray = ls at hl ⊢
  have hl : lv_has ls 7 [(0, .ref (ad 11)), (1, .int x1), (2, .int x2), (3, .int x3), (4, .int x4), (5, .ref ou)] := hl
  refine lv_aload hx hb (show decode method_7_code 0 = .ok (.aload 5, 2) by decide +kernel) (lv_at hl 5 rfl) ?_
  refine lv_iconst (v := 0) hx hb (show decode method_7_code 2 = .ok (.iconst 0, 1) by decide +kernel) rfl ?_
  refine lv_aload_n hx hb (show decode method_7_code 3 = .ok (.aload_n 0, 1) by decide +kernel) rfl (lv_at hl 0 rfl) ?_
  refine lv_iload_n hx hb (show decode method_7_code 4 = .ok (.iload_n 1, 1) by decide +kernel) rfl (lv_at hl 1 rfl) ?_
  refine lv_iload_n hx hb (show decode method_7_code 5 = .ok (.iload_n 2, 1) by decide +kernel) rfl (lv_at hl 2 rfl) ?_
  refine lv_iload_n hx hb (show decode method_7_code 6 = .ok (.iload_n 3, 1) by decide +kernel) rfl (lv_at hl 3 rfl) ?_
  refine lv_iload hx hb (show decode method_7_code 7 = .ok (.iload 4, 2) by decide +kernel) (lv_at hl 4 rfl) ?_
  refine m_goVX (y := y_Le_prove) (bytes := c_Le_prove) (maxL := 6) (ret := some .int) (j := 27) (ci := 3) (rmY := rmX) (ct := cx_prove) (Cn := R_Le) (Tn := F_Le) (Nn := 2) (a := 11) (as := [.inl x1, .inl x2, .inl x3, .inl x4]) (w := w) (fs := [.inr 0, .inr 12]) (rest := [.int 0, .ref ou]) (K := fun r w' => (q_prove s0 x1 x2 x3 x4).1 = 0 ∧ r = some (.inl (q_prove s0 x1 x2 x3 x4).2.1) ∧ RCw (rs s0 (q_prove s0 x1 x2 x3 x4)) [] w') (X := fun kd w' => w' = w ∧ ((q_prove s0 x1 x2 x3 x4).1 = 1 ∧ kd = 0 ∨ (q_prove s0 x1 x2 x3 x4).1 = 2 ∧ kd = 1)) 4 G GX x_prove cd_Le_prove lk_prove im_prove se_prove in_Le0 rfl rfl rfl hwa ⟨by decide, by decide, by decide +kernel⟩ ⟨by decide, by decide⟩ rfl hl.1 (Nat.le_of_ble_eq_true rfl) (show decode method_7_code 9 = .ok (.invokevirtual 27, 3) by decide +kernel) ⟨by decide, by decide⟩ (cy_prove hw0 hI hT (fun e9 => ⟨rfl, Or.inl ⟨e9, rfl⟩⟩) (fun e9 => ⟨rfl, Or.inr ⟨e9, rfl⟩⟩) (fun e9 w' h9 => ⟨e9, rfl, h9⟩)) o1.1 hDw hS hA ?_ ?_
  · intro kd w' ce q9 H1 locs1 hl1 hX1 hP1 hf1 hS1 hce hcv hcl
    obtain ⟨rfl, hX1⟩ := hX1
    have hLC : LC D cI cZ cK cL ad ou co lo s0 ks f H1 := LC_up o1 o2 o3 o4 hw0 rfl hP1 hf1
    rcases hX1 with ⟨hq, rfl⟩ | ⟨hq, rfl⟩
    · refine vx_catch (own := R_La) (name := exn 0) hown [] ⟨0, 14, 17, 13⟩ [⟨0, 14, 21, 15⟩] htab (fun z hz => nomatch hz) (by decide) (by decide) (hw _ lk_13) (va_Nw.use rfl (hxw _ ks_0)) hce hcv hcl ?_
      refine lv_astore hx hb (show decode method_7_code 17 = .ok (.astore 6, 2) by decide +kernel) hl (by decide) rfl (fun ls1 hl1 => ?_)
      refine lv_iconst (v := 1) hx hb (show decode method_7_code 19 = .ok (.iconst 1, 1) by decide +kernel) rfl ?_
      exact vx_ret (W.iret hx hb hr (fun t ht hW => ⟨⟨co, f, 1, rfl, e_1 hq, fun _ _ => rfl, by rw [ht, show rs s0 (q_prove s0 x1 x2 x3 x4) = s0 from qe_prove (fun h9 => absurd (hq.symm.trans h9) (by decide))]; exact hLC, fun h9 => absurd (hq.symm.trans h9) (by decide)⟩, hS1.F ht⟩) hS1.2.2 (show decode method_7_code 20 = .ok (.ireturn, 1) by decide +kernel))
    · refine vx_catch (own := R_La) (name := exn 1) hown [⟨0, 14, 17, 13⟩] ⟨0, 14, 21, 15⟩ [] htab (fun z hz => by rw [List.mem_singleton.mp hz]; exact Or.inr ⟨by decide, exn 0, hw _ lk_13, hn1⟩) (by decide) (by decide) (hw _ lk_15) (va_Nw.use rfl (hxw _ ks_1)) hce hcv hcl ?_
      refine lv_astore hx hb (show decode method_7_code 21 = .ok (.astore 6, 2) by decide +kernel) hl (by decide) rfl (fun ls1 hl1 => ?_)
      refine lv_iconst (v := 2) hx hb (show decode method_7_code 23 = .ok (.iconst 2, 1) by decide +kernel) rfl ?_
      exact vx_ret (W.iret hx hb hr (fun t ht hW => ⟨⟨co, f, 2, rfl, e_2 hq, fun _ _ => rfl, by rw [ht, show rs s0 (q_prove s0 x1 x2 x3 x4) = s0 from qe_prove (fun h9 => absurd (hq.symm.trans h9) (by decide))]; exact hLC, fun h9 => absurd (hq.symm.trans h9) (by decide)⟩, hS1.F ht⟩) hS1.2.2 (show decode method_7_code 24 = .ok (.ireturn, 1) by decide +kernel))
  · intro r w' H1 locs1 hl1 hK1 hP1 hf1 hS1
    obtain ⟨hq, rfl, hRC1⟩ := hK1
    have hLC := LC_up o1 o2 o3 o4 hRC1 hl1 hP1 hf1
    refine W.eq (g2 := F0 m 12 ls [.int (q_prove s0 x1 x2 x3 x4).2.1, .int 0, .ref ou]) rfl ?_
    refine lv_i2l hx hb (show decode method_7_code 12 = .ok (.i2l, 1) by decide +kernel) rfl ?_
    refine o_last hx hb hK 3 rfl hLC hou hS1 (show decode method_7_code 13 = .ok (.lastore, 1) by decide +kernel) (fun H2 locs2 f1 hf2 hLC hS2 => ?_)
    refine lv_goto hx hb (show decode method_7_code 14 = .ok (.goto 11, 3) by decide +kernel) (tgt := 25) rfl ?_
    refine lv_iconst (v := 0) hx hb (show decode method_7_code 25 = .ok (.iconst 0, 1) by decide +kernel) rfl ?_
    exact vx_ret (W.iret hx hb hr (fun t ht hW => ⟨⟨co, f1, 0, rfl, e_0 hq, fun _ _ => rfl, by rw [ht]; exact hLC, fun _ => hf2⟩, hS2.F ht⟩) hS2.2.2 (show decode method_7_code 26 = .ok (.ireturn, 1) by decide +kernel))
set_option maxHeartbeats 16000000 in
set_option maxRecDepth 20000 in
theorem lx_next (l : Launch) (hst : l.stackTraces = false) (D : va_G) (cI cZ cK cL : ClassId) (ad : Nat → Nat) (ou : Nat) (co : Nat → Nat) (lo : Nat) (s0 : aS) (ks : Nat → aS) (f : Nat → Int64) (sz : Nat) {T : Nat} (hI : IV T s0) (hT : T ≤ 1000) :
    vx_Met l y_La_next (.codeWith y_La_next method_8_code 3 (some .int) hh_next :: gw) rmW (l_pre D cI cZ cK cL ad ou co lo s0 ks f sz [.ref (ad 11), .ref ou]) (l_post D cI cZ cK cL ad ou co lo (l_A co lo sz) (q_next s0).1 (rs s0 (q_next s0)) ks (fun f' => (q_next s0).1 = 0 → f' 0 = (q_next s0).2.1.toInt64)) (fun _ _ _ => False) 1 6 (l_A co lo sz) := by
  refine vx_ofWH (cc := method_8_code) (maxL := 3) (ret := some .int) (hh := hh_next) (by decide) rfl ?_
  intro p e s m args below meth c s₁ B hml hv
  obtain ⟨rfl, hsz, ⟨w, g, hw0, o1, o2, o3, o4⟩, hK, hxw, hU, hSe, hn1, hn2⟩ := hv
  have hx := B.exec
  have hb := B.bytes
  have hr := B.returns
  have hts := atoms_spec (ws := .codeWith y_La_next method_8_code 3 (some .int) hh_next :: gw) B.pre
  have htab := vx_table (x := y_La_next) B (hts _ List.mem_cons_self)
  have hw : ∀ x ∈ gw, x.before ([.ref (ad 11), .ref ou] : List Value).toArray s = true := fun x h => hts x (List.mem_cons_of_mem _ h)
  have hown : s.vm.findClass R_La = some m.cls := findClass_of_methodNamed B.named
  subst hsz
  have hA : ∀ q : Nat, s.heap.size ≤ q → l_A co lo s.heap.size q := fun q h => Or.inr h
  have hS : va_S (l_A co lo s.heap.size) s.heap s.heap [] := va_S.rf
  have hKm := hK.sub (tys' := z_ty cI cZ) [0, 1] rfl
  have hDw := o1.inA (sz := s.heap.size) (by decide)
  have h3 : lo ≤ ou ∧ co ou = 3 := o3.2.2 0 (ou, lo_ar cL f) rfl
  have hou : l_A co lo s.heap.size ou := Or.inl ⟨h3.1, by rw [h3.2]; decide⟩
  have hwa := RCw_at hw0
  have G : g_Cx p (rmW : Room) s m ([.ref (ad 11), .ref ou] : List Value).toArray c method_8_code R_La (.codeWith y_La_next method_8_code 3 (some .int) hh_next) D cI cZ 3 := ⟨⟨hx, hb, hml, hown, hts⟩, hKm, fun x hx' => hxw x (nw_xw x hx')⟩
  have GX : g_X l s (l_A co lo s.heap.size) := ⟨hst, hxw, hU, hSe⟩
  have hl := lv_entry ([.ref (ad 11), .ref ou]) (n := 3) (Nat.le_of_ble_eq_true rfl)
  rw [lg_entry_eq]
  generalize (lg_sl ([.ref (ad 11), .ref ou]) ++ List.replicate (3 - (lg_sl ([.ref (ad 11), .ref ou])).length) Slot.unset).toArray = ls at hl ⊢
  have hl : lv_has ls 3 [(0, .ref (ad 11)), (1, .ref ou)] := hl
  refine lv_aload_n hx hb (show decode method_8_code 0 = .ok (.aload_n 1, 1) by decide +kernel) rfl (lv_at hl 1 rfl) ?_
  refine lv_iconst (v := 0) hx hb (show decode method_8_code 1 = .ok (.iconst 0, 1) by decide +kernel) rfl ?_
  refine lv_aload_n hx hb (show decode method_8_code 2 = .ok (.aload_n 0, 1) by decide +kernel) rfl (lv_at hl 0 rfl) ?_
  refine m_goVX (y := y_Le_next) (bytes := c_Le_next) (maxL := 1) (ret := some .int) (j := 30) (ci := 3) (rmY := rmX) (ct := cx_next) (Cn := R_Le) (Tn := F_Le) (Nn := 2) (a := 11) (as := []) (w := w) (fs := [.inr 0, .inr 12]) (rest := [.int 0, .ref ou]) (K := fun r w' => (q_next s0).1 = 0 ∧ r = some (.inl (q_next s0).2.1) ∧ RCw (rs s0 (q_next s0)) [] w') (X := fun kd w' => w' = w ∧ ((q_next s0).1 = 1 ∧ kd = 1)) 0 G GX x_next cd_Le_next lk_next im_next se_next in_Le0 rfl rfl rfl hwa ⟨by decide, by decide, by decide +kernel⟩ ⟨by decide, by decide⟩ rfl hl.1 (Nat.le_of_ble_eq_true rfl) (show decode method_8_code 3 = .ok (.invokevirtual 30, 3) by decide +kernel) ⟨by decide, by decide⟩ (cy_next hw0 hI hT (fun e9 => ⟨rfl, ⟨e9, rfl⟩⟩) (fun e9 w' h9 => ⟨e9, rfl, h9⟩)) o1.1 hDw hS hA ?_ ?_
  · intro kd w' ce q9 H1 locs1 hl1 hX1 hP1 hf1 hS1 hce hcv hcl
    obtain ⟨rfl, hX1⟩ := hX1
    have hLC : LC D cI cZ cK cL ad ou co lo s0 ks f H1 := LC_up o1 o2 o3 o4 hw0 rfl hP1 hf1
    obtain ⟨hq, rfl⟩ := hX1
    refine vx_catch (own := R_La) (name := exn 1) hown [] ⟨0, 8, 11, 15⟩ [] htab (fun z hz => nomatch hz) (by decide) (by decide) (hw _ lk_15) (va_Nw.use rfl (hxw _ ks_1)) hce hcv hcl ?_
    refine lv_astore_n hx hb (show decode method_8_code 11 = .ok (.astore_n 2, 1) by decide +kernel) rfl hl (by decide) rfl (fun ls1 hl1 => ?_)
    refine lv_iconst (v := 1) hx hb (show decode method_8_code 12 = .ok (.iconst 1, 1) by decide +kernel) rfl ?_
    exact vx_ret (W.iret hx hb hr (fun t ht hW => ⟨⟨co, f, 1, rfl, e_1 hq, fun _ _ => rfl, by rw [ht, show rs s0 (q_next s0) = s0 from qe_next (fun h9 => absurd (hq.symm.trans h9) (by decide))]; exact hLC, fun h9 => absurd (hq.symm.trans h9) (by decide)⟩, hS1.F ht⟩) hS1.2.2 (show decode method_8_code 13 = .ok (.ireturn, 1) by decide +kernel))
  · intro r w' H1 locs1 hl1 hK1 hP1 hf1 hS1
    obtain ⟨hq, rfl, hRC1⟩ := hK1
    have hLC := LC_up o1 o2 o3 o4 hRC1 hl1 hP1 hf1
    refine W.eq (g2 := F0 m 6 ls [.int (q_next s0).2.1, .int 0, .ref ou]) rfl ?_
    refine lv_i2l hx hb (show decode method_8_code 6 = .ok (.i2l, 1) by decide +kernel) rfl ?_
    refine o_last hx hb hK 3 rfl hLC hou hS1 (show decode method_8_code 7 = .ok (.lastore, 1) by decide +kernel) (fun H2 locs2 f1 hf2 hLC hS2 => ?_)
    refine lv_goto hx hb (show decode method_8_code 8 = .ok (.goto 6, 3) by decide +kernel) (tgt := 14) rfl ?_
    refine lv_iconst (v := 0) hx hb (show decode method_8_code 14 = .ok (.iconst 0, 1) by decide +kernel) rfl ?_
    exact vx_ret (W.iret hx hb hr (fun t ht hW => ⟨⟨co, f1, 0, rfl, e_0 hq, fun _ _ => rfl, by rw [ht]; exact hLC, fun _ => hf2⟩, hS2.F ht⟩) hS2.2.2 (show decode method_8_code 15 = .ok (.ireturn, 1) by decide +kernel))
set_option maxHeartbeats 16000000 in
set_option maxRecDepth 20000 in
theorem lx_account (l : Launch) (hst : l.stackTraces = false) (D : va_G) (cI cZ cK cL : ClassId) (ad : Nat → Nat) (ou : Nat) (co : Nat → Nat) (lo : Nat) (s0 : aS) (ks : Nat → aS) (f : Nat → Int64) (sz : Nat) (x1 x2 : Int32) {T : Nat} (hI : IV T s0) (hT : T ≤ 1000) :
    vx_Met l y_La_account (.codeWith y_La_account method_11_code 5 (some .int) hh_account :: gw) rmW (l_pre D cI cZ cK cL ad ou co lo s0 ks f sz [.ref (ad 11), .int x1, .int x2, .ref ou]) (l_post D cI cZ cK cL ad ou co lo (l_A co lo sz) (q_account s0 x1 x2).1 (rs s0 (q_account s0 x1 x2)) ks (fun f' => (q_account s0 x1 x2).1 = 0 → f' 0 = (q_account s0 x1 x2).2.1.toInt64)) (fun _ _ _ => False) 1 6 (l_A co lo sz) := by
  refine vx_ofWH (cc := method_11_code) (maxL := 5) (ret := some .int) (hh := hh_account) (by decide) rfl ?_
  intro p e s m args below meth c s₁ B hml hv
  obtain ⟨rfl, hsz, ⟨w, g, hw0, o1, o2, o3, o4⟩, hK, hxw, hU, hSe, hn1, hn2⟩ := hv
  have hx := B.exec
  have hb := B.bytes
  have hr := B.returns
  have hts := atoms_spec (ws := .codeWith y_La_account method_11_code 5 (some .int) hh_account :: gw) B.pre
  have htab := vx_table (x := y_La_account) B (hts _ List.mem_cons_self)
  have hw : ∀ x ∈ gw, x.before ([.ref (ad 11), .int x1, .int x2, .ref ou] : List Value).toArray s = true := fun x h => hts x (List.mem_cons_of_mem _ h)
  have hown : s.vm.findClass R_La = some m.cls := findClass_of_methodNamed B.named
  subst hsz
  have hA : ∀ q : Nat, s.heap.size ≤ q → l_A co lo s.heap.size q := fun q h => Or.inr h
  have hS : va_S (l_A co lo s.heap.size) s.heap s.heap [] := va_S.rf
  have hKm := hK.sub (tys' := z_ty cI cZ) [0, 1] rfl
  have hDw := o1.inA (sz := s.heap.size) (by decide)
  have h3 : lo ≤ ou ∧ co ou = 3 := o3.2.2 0 (ou, lo_ar cL f) rfl
  have hou : l_A co lo s.heap.size ou := Or.inl ⟨h3.1, by rw [h3.2]; decide⟩
  have hwa := RCw_at hw0
  have G : g_Cx p (rmW : Room) s m ([.ref (ad 11), .int x1, .int x2, .ref ou] : List Value).toArray c method_11_code R_La (.codeWith y_La_account method_11_code 5 (some .int) hh_account) D cI cZ 5 := ⟨⟨hx, hb, hml, hown, hts⟩, hKm, fun x hx' => hxw x (nw_xw x hx')⟩
  have GX : g_X l s (l_A co lo s.heap.size) := ⟨hst, hxw, hU, hSe⟩
  have hl := lv_entry ([.ref (ad 11), .int x1, .int x2, .ref ou]) (n := 5) (Nat.le_of_ble_eq_true rfl)
  rw [lg_entry_eq]
  generalize (lg_sl ([.ref (ad 11), .int x1, .int x2, .ref ou]) ++ List.replicate (5 - (lg_sl ([.ref (ad 11), .int x1, .int x2, .ref ou])).length) Slot.unset).toArray = ls at hl ⊢
  have hl : lv_has ls 5 [(0, .ref (ad 11)), (1, .int x1), (2, .int x2), (3, .ref ou)] := hl
  refine lv_aload_n hx hb (show decode method_11_code 0 = .ok (.aload_n 3, 1) by decide +kernel) rfl (lv_at hl 3 rfl) ?_
  refine lv_iconst (v := 0) hx hb (show decode method_11_code 1 = .ok (.iconst 0, 1) by decide +kernel) rfl ?_
  refine lv_aload_n hx hb (show decode method_11_code 2 = .ok (.aload_n 0, 1) by decide +kernel) rfl (lv_at hl 0 rfl) ?_
  refine lv_iload_n hx hb (show decode method_11_code 3 = .ok (.iload_n 1, 1) by decide +kernel) rfl (lv_at hl 1 rfl) ?_
  refine lv_iload_n hx hb (show decode method_11_code 4 = .ok (.iload_n 2, 1) by decide +kernel) rfl (lv_at hl 2 rfl) ?_
  refine m_goVX (y := y_Le_account) (bytes := c_Le_account) (maxL := 3) (ret := some .int) (j := 44) (ci := 3) (rmY := rmX) (ct := cx_account) (Cn := R_Le) (Tn := F_Le) (Nn := 2) (a := 11) (as := [.inl x1, .inl x2]) (w := w) (fs := [.inr 0, .inr 12]) (rest := [.int 0, .ref ou]) (K := fun r w' => (q_account s0 x1 x2).1 = 0 ∧ r = some (.inl (q_account s0 x1 x2).2.1) ∧ RCw (rs s0 (q_account s0 x1 x2)) [] w') (X := fun kd w' => w' = w ∧ ((q_account s0 x1 x2).1 = 1 ∧ kd = 2 ∨ (q_account s0 x1 x2).1 = 2 ∧ kd = 0)) 2 G GX x_account cd_Le_account lk_account im_account se_account in_Le0 rfl rfl rfl hwa ⟨by decide, by decide, by decide +kernel⟩ ⟨by decide, by decide⟩ rfl hl.1 (Nat.le_of_ble_eq_true rfl) (show decode method_11_code 5 = .ok (.invokevirtual 44, 3) by decide +kernel) ⟨by decide, by decide⟩ (cy_account hw0 hI hT (fun e9 => ⟨rfl, Or.inl ⟨e9, rfl⟩⟩) (fun e9 => ⟨rfl, Or.inr ⟨e9, rfl⟩⟩) (fun e9 w' h9 => ⟨e9, rfl, h9⟩)) o1.1 hDw hS hA ?_ ?_
  · intro kd w' ce q9 H1 locs1 hl1 hX1 hP1 hf1 hS1 hce hcv hcl
    obtain ⟨rfl, hX1⟩ := hX1
    have hLC : LC D cI cZ cK cL ad ou co lo s0 ks f H1 := LC_up o1 o2 o3 o4 hw0 rfl hP1 hf1
    rcases hX1 with ⟨hq, rfl⟩ | ⟨hq, rfl⟩
    · refine vx_catch (own := R_La) (name := exn 2) hown [] ⟨0, 10, 13, 38⟩ [⟨0, 10, 17, 13⟩] htab (fun z hz => nomatch hz) (by decide) (by decide) (hw _ lk_38) (va_Nw.use rfl (hxw _ ks_2)) hce hcv hcl ?_
      refine lv_astore hx hb (show decode method_11_code 13 = .ok (.astore 4, 2) by decide +kernel) hl (by decide) rfl (fun ls1 hl1 => ?_)
      refine lv_iconst (v := 1) hx hb (show decode method_11_code 15 = .ok (.iconst 1, 1) by decide +kernel) rfl ?_
      exact vx_ret (W.iret hx hb hr (fun t ht hW => ⟨⟨co, f, 1, rfl, e_1 hq, fun _ _ => rfl, by rw [ht, show rs s0 (q_account s0 x1 x2) = s0 from qe_account (fun h9 => absurd (hq.symm.trans h9) (by decide))]; exact hLC, fun h9 => absurd (hq.symm.trans h9) (by decide)⟩, hS1.F ht⟩) hS1.2.2 (show decode method_11_code 16 = .ok (.ireturn, 1) by decide +kernel))
    · refine vx_catch (own := R_La) (name := exn 0) hown [⟨0, 10, 13, 38⟩] ⟨0, 10, 17, 13⟩ [] htab (fun z hz => by rw [List.mem_singleton.mp hz]; exact Or.inr ⟨by decide, exn 2, hw _ lk_38, hn2⟩) (by decide) (by decide) (hw _ lk_13) (va_Nw.use rfl (hxw _ ks_0)) hce hcv hcl ?_
      refine lv_astore hx hb (show decode method_11_code 17 = .ok (.astore 4, 2) by decide +kernel) hl (by decide) rfl (fun ls1 hl1 => ?_)
      refine lv_iconst (v := 2) hx hb (show decode method_11_code 19 = .ok (.iconst 2, 1) by decide +kernel) rfl ?_
      exact vx_ret (W.iret hx hb hr (fun t ht hW => ⟨⟨co, f, 2, rfl, e_2 hq, fun _ _ => rfl, by rw [ht, show rs s0 (q_account s0 x1 x2) = s0 from qe_account (fun h9 => absurd (hq.symm.trans h9) (by decide))]; exact hLC, fun h9 => absurd (hq.symm.trans h9) (by decide)⟩, hS1.F ht⟩) hS1.2.2 (show decode method_11_code 20 = .ok (.ireturn, 1) by decide +kernel))
  · intro r w' H1 locs1 hl1 hK1 hP1 hf1 hS1
    obtain ⟨hq, rfl, hRC1⟩ := hK1
    have hLC := LC_up o1 o2 o3 o4 hRC1 hl1 hP1 hf1
    refine W.eq (g2 := F0 m 8 ls [.int (q_account s0 x1 x2).2.1, .int 0, .ref ou]) rfl ?_
    refine lv_i2l hx hb (show decode method_11_code 8 = .ok (.i2l, 1) by decide +kernel) rfl ?_
    refine o_last hx hb hK 3 rfl hLC hou hS1 (show decode method_11_code 9 = .ok (.lastore, 1) by decide +kernel) (fun H2 locs2 f1 hf2 hLC hS2 => ?_)
    refine lv_goto hx hb (show decode method_11_code 10 = .ok (.goto 11, 3) by decide +kernel) (tgt := 21) rfl ?_
    refine lv_iconst (v := 0) hx hb (show decode method_11_code 21 = .ok (.iconst 0, 1) by decide +kernel) rfl ?_
    exact vx_ret (W.iret hx hb hr (fun t ht hW => ⟨⟨co, f1, 0, rfl, e_0 hq, fun _ _ => rfl, by rw [ht]; exact hLC, fun _ => hf2⟩, hS2.F ht⟩) hS2.2.2 (show decode method_11_code 22 = .ok (.ireturn, 1) by decide +kernel))
set_option maxHeartbeats 16000000 in
set_option maxRecDepth 20000 in
theorem lx_sum (l : Launch) (hst : l.stackTraces = false) (D : va_G) (cI cZ cK cL : ClassId) (ad : Nat → Nat) (ou : Nat) (co : Nat → Nat) (lo : Nat) (s0 : aS) (ks : Nat → aS) (f : Nat → Int64) (sz : Nat) (x1 : Int32) {T : Nat} (hI : IV T s0) (hT : T ≤ 1000) :
    vx_Met l y_La_sum (.codeWith y_La_sum method_12_code 4 (some .int) hh_sum :: gw) rmW (l_pre D cI cZ cK cL ad ou co lo s0 ks f sz [.ref (ad 11), .int x1, .ref ou]) (l_post D cI cZ cK cL ad ou co lo (l_A co lo sz) (q_sum s0 x1).1 (rs s0 (q_sum s0 x1)) ks (fun f' => (q_sum s0 x1).1 = 0 → f' 0 = (q_sum s0 x1).2.1.toInt64)) (fun _ _ _ => False) 1 6 (l_A co lo sz) := by
  refine vx_ofWH (cc := method_12_code) (maxL := 4) (ret := some .int) (hh := hh_sum) (by decide) rfl ?_
  intro p e s m args below meth c s₁ B hml hv
  obtain ⟨rfl, hsz, ⟨w, g, hw0, o1, o2, o3, o4⟩, hK, hxw, hU, hSe, hn1, hn2⟩ := hv
  have hx := B.exec
  have hb := B.bytes
  have hr := B.returns
  have hts := atoms_spec (ws := .codeWith y_La_sum method_12_code 4 (some .int) hh_sum :: gw) B.pre
  have htab := vx_table (x := y_La_sum) B (hts _ List.mem_cons_self)
  have hw : ∀ x ∈ gw, x.before ([.ref (ad 11), .int x1, .ref ou] : List Value).toArray s = true := fun x h => hts x (List.mem_cons_of_mem _ h)
  have hown : s.vm.findClass R_La = some m.cls := findClass_of_methodNamed B.named
  subst hsz
  have hA : ∀ q : Nat, s.heap.size ≤ q → l_A co lo s.heap.size q := fun q h => Or.inr h
  have hS : va_S (l_A co lo s.heap.size) s.heap s.heap [] := va_S.rf
  have hKm := hK.sub (tys' := z_ty cI cZ) [0, 1] rfl
  have hDw := o1.inA (sz := s.heap.size) (by decide)
  have h3 : lo ≤ ou ∧ co ou = 3 := o3.2.2 0 (ou, lo_ar cL f) rfl
  have hou : l_A co lo s.heap.size ou := Or.inl ⟨h3.1, by rw [h3.2]; decide⟩
  have hwa := RCw_at hw0
  have G : g_Cx p (rmW : Room) s m ([.ref (ad 11), .int x1, .ref ou] : List Value).toArray c method_12_code R_La (.codeWith y_La_sum method_12_code 4 (some .int) hh_sum) D cI cZ 4 := ⟨⟨hx, hb, hml, hown, hts⟩, hKm, fun x hx' => hxw x (nw_xw x hx')⟩
  have GX : g_X l s (l_A co lo s.heap.size) := ⟨hst, hxw, hU, hSe⟩
  have hl := lv_entry ([.ref (ad 11), .int x1, .ref ou]) (n := 4) (Nat.le_of_ble_eq_true rfl)
  rw [lg_entry_eq]
  generalize (lg_sl ([.ref (ad 11), .int x1, .ref ou]) ++ List.replicate (4 - (lg_sl ([.ref (ad 11), .int x1, .ref ou])).length) Slot.unset).toArray = ls at hl ⊢
  have hl : lv_has ls 4 [(0, .ref (ad 11)), (1, .int x1), (2, .ref ou)] := hl
  refine lv_aload_n hx hb (show decode method_12_code 0 = .ok (.aload_n 2, 1) by decide +kernel) rfl (lv_at hl 2 rfl) ?_
  refine lv_iconst (v := 0) hx hb (show decode method_12_code 1 = .ok (.iconst 0, 1) by decide +kernel) rfl ?_
  refine lv_aload_n hx hb (show decode method_12_code 2 = .ok (.aload_n 0, 1) by decide +kernel) rfl (lv_at hl 0 rfl) ?_
  refine lv_iload_n hx hb (show decode method_12_code 3 = .ok (.iload_n 1, 1) by decide +kernel) rfl (lv_at hl 1 rfl) ?_
  refine m_goVX (y := y_Le_sum) (bytes := c_Le_sum) (maxL := 2) (ret := some .int) (j := 48) (ci := 3) (rmY := rmX) (ct := cx_sum) (Cn := R_Le) (Tn := F_Le) (Nn := 2) (a := 11) (as := [.inl x1]) (w := w) (fs := [.inr 0, .inr 12]) (rest := [.int 0, .ref ou]) (K := fun r w' => (q_sum s0 x1).1 = 0 ∧ r = some (.inl (q_sum s0 x1).2.1) ∧ RCw (rs s0 (q_sum s0 x1)) [] w') (X := fun kd w' => w' = w ∧ ((q_sum s0 x1).1 = 1 ∧ kd = 0)) 1 G GX x_sum cd_Le_sum lk_sum im_sum se_sum in_Le0 rfl rfl rfl hwa ⟨by decide, by decide, by decide +kernel⟩ ⟨by decide, by decide⟩ rfl hl.1 (Nat.le_of_ble_eq_true rfl) (show decode method_12_code 4 = .ok (.invokevirtual 48, 3) by decide +kernel) ⟨by decide, by decide⟩ (cy_sum hw0 hI hT (fun e9 => ⟨rfl, ⟨e9, rfl⟩⟩) (fun e9 w' h9 => ⟨e9, rfl, h9⟩)) o1.1 hDw hS hA ?_ ?_
  · intro kd w' ce q9 H1 locs1 hl1 hX1 hP1 hf1 hS1 hce hcv hcl
    obtain ⟨rfl, hX1⟩ := hX1
    have hLC : LC D cI cZ cK cL ad ou co lo s0 ks f H1 := LC_up o1 o2 o3 o4 hw0 rfl hP1 hf1
    obtain ⟨hq, rfl⟩ := hX1
    refine vx_catch (own := R_La) (name := exn 0) hown [] ⟨0, 9, 12, 13⟩ [] htab (fun z hz => nomatch hz) (by decide) (by decide) (hw _ lk_13) (va_Nw.use rfl (hxw _ ks_0)) hce hcv hcl ?_
    refine lv_astore_n hx hb (show decode method_12_code 12 = .ok (.astore_n 3, 1) by decide +kernel) rfl hl (by decide) rfl (fun ls1 hl1 => ?_)
    refine lv_iconst (v := 1) hx hb (show decode method_12_code 13 = .ok (.iconst 1, 1) by decide +kernel) rfl ?_
    exact vx_ret (W.iret hx hb hr (fun t ht hW => ⟨⟨co, f, 1, rfl, e_1 hq, fun _ _ => rfl, by rw [ht, show rs s0 (q_sum s0 x1) = s0 from qe_sum (fun h9 => absurd (hq.symm.trans h9) (by decide))]; exact hLC, fun h9 => absurd (hq.symm.trans h9) (by decide)⟩, hS1.F ht⟩) hS1.2.2 (show decode method_12_code 14 = .ok (.ireturn, 1) by decide +kernel))
  · intro r w' H1 locs1 hl1 hK1 hP1 hf1 hS1
    obtain ⟨hq, rfl, hRC1⟩ := hK1
    have hLC := LC_up o1 o2 o3 o4 hRC1 hl1 hP1 hf1
    refine W.eq (g2 := F0 m 7 ls [.int (q_sum s0 x1).2.1, .int 0, .ref ou]) rfl ?_
    refine lv_i2l hx hb (show decode method_12_code 7 = .ok (.i2l, 1) by decide +kernel) rfl ?_
    refine o_last hx hb hK 3 rfl hLC hou hS1 (show decode method_12_code 8 = .ok (.lastore, 1) by decide +kernel) (fun H2 locs2 f1 hf2 hLC hS2 => ?_)
    refine lv_goto hx hb (show decode method_12_code 9 = .ok (.goto 6, 3) by decide +kernel) (tgt := 15) rfl ?_
    refine lv_iconst (v := 0) hx hb (show decode method_12_code 15 = .ok (.iconst 0, 1) by decide +kernel) rfl ?_
    exact vx_ret (W.iret hx hb hr (fun t ht hW => ⟨⟨co, f1, 0, rfl, e_0 hq, fun _ _ => rfl, by rw [ht]; exact hLC, fun _ => hf2⟩, hS2.F ht⟩) hS2.2.2 (show decode method_12_code 16 = .ok (.ireturn, 1) by decide +kernel))
set_option maxHeartbeats 16000000 in
set_option maxRecDepth 20000 in
theorem lx_proposer (l : Launch) (hst : l.stackTraces = false) (D : va_G) (cI cZ cK cL : ClassId) (ad : Nat → Nat) (ou : Nat) (co : Nat → Nat) (lo : Nat) (s0 : aS) (ks : Nat → aS) (f : Nat → Int64) (sz : Nat) (x1 x2 : Int32) {T : Nat} (hI : IV T s0) (hT : T ≤ 1000) :
    vx_Met l y_La_proposer (.codeWith y_La_proposer method_13_code 5 (some .int) hh_proposer :: gw) rmW (l_pre D cI cZ cK cL ad ou co lo s0 ks f sz [.ref (ad 11), .int x1, .int x2, .ref ou]) (l_post D cI cZ cK cL ad ou co lo (l_A co lo sz) (q_proposer s0 x1 x2).1 (rs s0 (q_proposer s0 x1 x2)) ks (fun f' => (q_proposer s0 x1 x2).1 = 0 → f' 0 = (q_proposer s0 x1 x2).2.1.toInt64)) (fun _ _ _ => False) 1 6 (l_A co lo sz) := by
  refine vx_ofWH (cc := method_13_code) (maxL := 5) (ret := some .int) (hh := hh_proposer) (by decide) rfl ?_
  intro p e s m args below meth c s₁ B hml hv
  obtain ⟨rfl, hsz, ⟨w, g, hw0, o1, o2, o3, o4⟩, hK, hxw, hU, hSe, hn1, hn2⟩ := hv
  have hx := B.exec
  have hb := B.bytes
  have hr := B.returns
  have hts := atoms_spec (ws := .codeWith y_La_proposer method_13_code 5 (some .int) hh_proposer :: gw) B.pre
  have htab := vx_table (x := y_La_proposer) B (hts _ List.mem_cons_self)
  have hw : ∀ x ∈ gw, x.before ([.ref (ad 11), .int x1, .int x2, .ref ou] : List Value).toArray s = true := fun x h => hts x (List.mem_cons_of_mem _ h)
  have hown : s.vm.findClass R_La = some m.cls := findClass_of_methodNamed B.named
  subst hsz
  have hA : ∀ q : Nat, s.heap.size ≤ q → l_A co lo s.heap.size q := fun q h => Or.inr h
  have hS : va_S (l_A co lo s.heap.size) s.heap s.heap [] := va_S.rf
  have hKm := hK.sub (tys' := z_ty cI cZ) [0, 1] rfl
  have hDw := o1.inA (sz := s.heap.size) (by decide)
  have h3 : lo ≤ ou ∧ co ou = 3 := o3.2.2 0 (ou, lo_ar cL f) rfl
  have hou : l_A co lo s.heap.size ou := Or.inl ⟨h3.1, by rw [h3.2]; decide⟩
  have hwa := RCw_at hw0
  have G : g_Cx p (rmW : Room) s m ([.ref (ad 11), .int x1, .int x2, .ref ou] : List Value).toArray c method_13_code R_La (.codeWith y_La_proposer method_13_code 5 (some .int) hh_proposer) D cI cZ 5 := ⟨⟨hx, hb, hml, hown, hts⟩, hKm, fun x hx' => hxw x (nw_xw x hx')⟩
  have GX : g_X l s (l_A co lo s.heap.size) := ⟨hst, hxw, hU, hSe⟩
  have hl := lv_entry ([.ref (ad 11), .int x1, .int x2, .ref ou]) (n := 5) (Nat.le_of_ble_eq_true rfl)
  rw [lg_entry_eq]
  generalize (lg_sl ([.ref (ad 11), .int x1, .int x2, .ref ou]) ++ List.replicate (5 - (lg_sl ([.ref (ad 11), .int x1, .int x2, .ref ou])).length) Slot.unset).toArray = ls at hl ⊢
  have hl : lv_has ls 5 [(0, .ref (ad 11)), (1, .int x1), (2, .int x2), (3, .ref ou)] := hl
  refine lv_aload_n hx hb (show decode method_13_code 0 = .ok (.aload_n 3, 1) by decide +kernel) rfl (lv_at hl 3 rfl) ?_
  refine lv_iconst (v := 0) hx hb (show decode method_13_code 1 = .ok (.iconst 0, 1) by decide +kernel) rfl ?_
  refine lv_aload_n hx hb (show decode method_13_code 2 = .ok (.aload_n 0, 1) by decide +kernel) rfl (lv_at hl 0 rfl) ?_
  refine lv_iload_n hx hb (show decode method_13_code 3 = .ok (.iload_n 1, 1) by decide +kernel) rfl (lv_at hl 1 rfl) ?_
  refine lv_iload_n hx hb (show decode method_13_code 4 = .ok (.iload_n 2, 1) by decide +kernel) rfl (lv_at hl 2 rfl) ?_
  refine m_goVX (y := y_Le_proposer) (bytes := c_Le_proposer) (maxL := 7) (ret := some .int) (j := 51) (ci := 3) (rmY := rmX) (ct := cx_proposer) (Cn := R_Le) (Tn := F_Le) (Nn := 2) (a := 11) (as := [.inl x1, .inl x2]) (w := w) (fs := [.inr 0, .inr 12]) (rest := [.int 0, .ref ou]) (K := fun r w' => (q_proposer s0 x1 x2).1 = 0 ∧ r = some (.inl (q_proposer s0 x1 x2).2.1) ∧ RCw (rs s0 (q_proposer s0 x1 x2)) [] w') (X := fun kd w' => w' = w ∧ ((q_proposer s0 x1 x2).1 = 1 ∧ kd = 0)) 2 G GX x_proposer cd_Le_proposer lk_proposer im_proposer se_proposer in_Le0 rfl rfl rfl hwa ⟨by decide, by decide, by decide +kernel⟩ ⟨by decide, by decide⟩ rfl hl.1 (Nat.le_of_ble_eq_true rfl) (show decode method_13_code 5 = .ok (.invokevirtual 51, 3) by decide +kernel) ⟨by decide, by decide⟩ (cy_proposer hw0 hI hT (fun e9 => ⟨rfl, ⟨e9, rfl⟩⟩) (fun e9 w' h9 => ⟨e9, rfl, h9⟩)) o1.1 hDw hS hA ?_ ?_
  · intro kd w' ce q9 H1 locs1 hl1 hX1 hP1 hf1 hS1 hce hcv hcl
    obtain ⟨rfl, hX1⟩ := hX1
    have hLC : LC D cI cZ cK cL ad ou co lo s0 ks f H1 := LC_up o1 o2 o3 o4 hw0 rfl hP1 hf1
    obtain ⟨hq, rfl⟩ := hX1
    refine vx_catch (own := R_La) (name := exn 0) hown [] ⟨0, 10, 13, 13⟩ [] htab (fun z hz => nomatch hz) (by decide) (by decide) (hw _ lk_13) (va_Nw.use rfl (hxw _ ks_0)) hce hcv hcl ?_
    refine lv_astore hx hb (show decode method_13_code 13 = .ok (.astore 4, 2) by decide +kernel) hl (by decide) rfl (fun ls1 hl1 => ?_)
    refine lv_iconst (v := 1) hx hb (show decode method_13_code 15 = .ok (.iconst 1, 1) by decide +kernel) rfl ?_
    exact vx_ret (W.iret hx hb hr (fun t ht hW => ⟨⟨co, f, 1, rfl, e_1 hq, fun _ _ => rfl, by rw [ht, show rs s0 (q_proposer s0 x1 x2) = s0 from qe_proposer (fun h9 => absurd (hq.symm.trans h9) (by decide))]; exact hLC, fun h9 => absurd (hq.symm.trans h9) (by decide)⟩, hS1.F ht⟩) hS1.2.2 (show decode method_13_code 16 = .ok (.ireturn, 1) by decide +kernel))
  · intro r w' H1 locs1 hl1 hK1 hP1 hf1 hS1
    obtain ⟨hq, rfl, hRC1⟩ := hK1
    have hLC := LC_up o1 o2 o3 o4 hRC1 hl1 hP1 hf1
    refine W.eq (g2 := F0 m 8 ls [.int (q_proposer s0 x1 x2).2.1, .int 0, .ref ou]) rfl ?_
    refine lv_i2l hx hb (show decode method_13_code 8 = .ok (.i2l, 1) by decide +kernel) rfl ?_
    refine o_last hx hb hK 3 rfl hLC hou hS1 (show decode method_13_code 9 = .ok (.lastore, 1) by decide +kernel) (fun H2 locs2 f1 hf2 hLC hS2 => ?_)
    refine lv_goto hx hb (show decode method_13_code 10 = .ok (.goto 7, 3) by decide +kernel) (tgt := 17) rfl ?_
    refine lv_iconst (v := 0) hx hb (show decode method_13_code 17 = .ok (.iconst 0, 1) by decide +kernel) rfl ?_
    exact vx_ret (W.iret hx hb hr (fun t ht hW => ⟨⟨co, f1, 0, rfl, e_0 hq, fun _ _ => rfl, by rw [ht]; exact hLC, fun _ => hf2⟩, hS2.F ht⟩) hS2.2.2 (show decode method_13_code 18 = .ok (.ireturn, 1) by decide +kernel))
