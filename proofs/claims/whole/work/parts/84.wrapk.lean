/-! The wrappers of keep and back. -/
theorem b_blind {D : va_G} {cI cZ cK : ClassId} {ad : Nat → Nat} {g : Nat → Option Nat} {k : Nat} {w : mW} {sz : Nat} : FrameBlind (b_pre D cI cZ cK ad g k w sz) := by
  intro a U g mk q
  obtain ⟨q0, q1, qP, qK, qD, qN⟩ := q
  exact ⟨q0, q1, qP, va_K.moved (u := U) (U := U.calling g mk a) (Vm.Alike.refl U.vm) qK, qD, fun x hx => va_Nw.same (u := U) (U := U.calling g mk a) (m_isN_on (nw_ok x hx)) rfl (qN x hx)⟩
theorem k_blind {D : va_G} {cI cZ cK : ClassId} {ad adk : Nat → Nat} {g : Nat → Option Nat} {k : Nat} {w wk : mW} {sz : Nat} : FrameBlind (k_pre D cI cZ cK ad adk g k w wk sz) := by
  intro a U g mk q
  obtain ⟨q0, q1, qP, qK, qD, qN⟩ := q
  exact ⟨q0, q1, qP, va_K.moved (u := U) (U := U.calling g mk a) (Vm.Alike.refl U.vm) qK, qD, fun x hx => va_Nw.same (u := U) (U := U.calling g mk a) (m_isN_on (nw_ok x hx)) rfl (qN x hx)⟩
theorem up_id {ks : Nat → aS} {k : Nat} : va_up ks k (ks k) = ks := by
  funext j
  unfold va_up
  split
  · rename_i h; rw [h]
  · rfl
section OV
variable {p : Program} {l : Launch} {e : Env} {R : Room} {s : State} {m : MethodId} {args : Array Value} {below : List Frame} {meth : Method} {c : Code} {H : Heap} {locs : List Loc} {cells slots pc nL mc ms : Nat} {ls : Array Slot} {cc : ByteArray} {own : String} {a0 : Jvm.Cond} {D : va_G} {cI cZ : ClassId} {ad : Nat → Nat} {free : Addr → Prop} {rest As : List Value}
theorem o_runV {y : MethodName} {bytes : ByteArray} {maxL j ci : Nat} {ret : Option FieldType} {rmY : Room} {Cn : String} {Tn : u_T} {Nn a : Nat} {w : mW} {fs : List mV} {Pc : Array Value → State → Prop} {Qc : Array Value → State → Outcome → State → Prop} (n : Nat) (G : g_Cx p R s m args c cc own a0 D cI cZ nL)
    (hM : Met l y (.code y bytes maxL ret :: gw) rmY Pc Qc mc ms free) (hcode : Jvm.Cond.code y bytes maxL ret ∈ gw) (hlink : Jvm.Cond.methodLink own j y ∈ gw) (him : Jvm.Cond.instanceMethod y ∈ gw) (hsel : Jvm.Cond.selects Cn y y ∈ gw) (hini : Jvm.Cond.initialized y.cls ∈ gw) (hrc : rmY.cells = mc) (hrs : rmY.slots = ms)
    (hcl : m_cl[ci]? = some (Cn, Tn, Nn)) (hwa : w[a]? = some (.inr (ci, fs))) (hP : va_P D m_cl (m_ws cI cZ ad w 0) H)
    (hd : y.cls ≠ "java/lang/invoke/MethodHandle" ∧ y.cls ≠ "java/lang/invoke/VarHandle" ∧ (parseMethodDescriptor y.desc).map (fun d => d.parameters.length) = some n) (hR : rmY.frames + 1 ≤ R.frames ∧ 8 + (maxL + 11) + rmY.locals ≤ R.locals) (hn : As.length = n) (hls : ls.size = nL) (hr8 : (rest.map fun v => v.category).sum ≤ 8) (hdg : decode cc pc = .ok (.invokevirtual j, 3)) (hf : cells + mc ≤ R.cells ∧ slots + ms ≤ R.slots)
    (hbl : FrameBlind Pc) (hpre : ∀ U : State, U.heap = H → s.WarmedH U.vm → Pc (Value.ref (ad a) :: As).toArray U) :
    va_Run p l e R s m args below meth c H locs cells slots mc ms (F0 m pc ls (As.reverse ++ .ref (ad a) :: rest)) rest (Qc (Value.ref (ad a) :: As).toArray) free := by
  have hw : ∀ x ∈ gw, x.before args s = true := fun x h => G.1.2.2.2.2 x (List.mem_cons_of_mem _ h)
  have cw : CallB R s args own j y bytes maxL ret (.code y bytes maxL ret :: gw) rmY mc ms n := callB_of n G.1.2.2.2.2 (m_good_in gw_ok hcode) rfl hrc hrs (hw _ hini) (hw _ hlink) hd hR
  have h1 := m_ws_get (cI := cI) (cZ := cZ) (ad := ad) w 0 a hwa
  rw [Nat.zero_add] at h1
  exact va_runV (C := Cn) (b := ad a) (As := As) (rest := rest) G.1 hM ⟨cw, hw _ him, hw _ hsel⟩ ⟨hbl, va_recv G.2.1 hP hcl h1, hpre⟩ rfl hn hls rfl (lv_room hr8) hdg hf
end OV
abbrev rmK : Room := { frames := 7, cells := 11, slots := 615, locals := 210 }
set_option maxHeartbeats 16000000 in
set_option maxRecDepth 20000 in
theorem lx_back0 (l : Launch) (hst : l.stackTraces = false) (D : va_G) (cI cZ cK cL : ClassId) (ad : Nat → Nat) (ou : Nat) (co : Nat → Nat) (lo : Nat) (s0 : aS) (ks : Nat → aS) (f : Nat → Int64) (sz : Nat) (x1 : Int32) (ha : ¬ isR x1 8) :
    vx_Met l y_La_back (.codeWith y_La_back method_10_code 4 (some .int) hh_back :: gw) rmW (l_pre D cI cZ cK cL ad ou co lo s0 ks f sz [.ref (ad 11), .int x1, .ref ou]) (l_post D cI cZ cK cL ad ou co lo (l_A co lo sz) 1 s0 ks (fun _ => True)) (fun _ _ _ => False) 1 6 (l_A co lo sz) := by
  refine vx_ofWH (cc := method_10_code) (maxL := 4) (ret := some .int) (hh := hh_back) (by decide) rfl ?_
  intro p e s m args below meth c s₁ B hml hv
  obtain ⟨rfl, hsz, ⟨w, g, hw0, o1, o2, o3, o4⟩, hK, hxw, hU, hSe, hn1, hn2⟩ := hv
  have hx := B.exec
  have hb := B.bytes
  have hr := B.returns
  have hts := atoms_spec (ws := .codeWith y_La_back method_10_code 4 (some .int) hh_back :: gw) B.pre
  have htab := vx_table (x := y_La_back) B (hts _ List.mem_cons_self)
  have hw : ∀ x ∈ gw, x.before ([.ref (ad 11), .int x1, .ref ou] : List Value).toArray s = true := fun x h => hts x (List.mem_cons_of_mem _ h)
  have hown : s.vm.findClass R_La = some m.cls := findClass_of_methodNamed B.named
  subst hsz
  have hA : ∀ q : Nat, s.heap.size ≤ q → l_A co lo s.heap.size q := fun q h => Or.inr h
  have hS : va_S (l_A co lo s.heap.size) s.heap s.heap [] := va_S.rf
  have hKm := hK.sub (tys' := z_ty cI cZ) [0, 1] rfl
  have hDw := o1.inA (sz := s.heap.size) (by decide)
  have h3 : lo ≤ ou ∧ co ou = 3 := o3.2.2 0 (ou, lo_ar cL f) rfl
  have hou : l_A co lo s.heap.size ou := Or.inl ⟨h3.1, by rw [h3.2]; decide⟩
  have hwa := RCw_at hw0
  have G : g_Cx p (rmW : Room) s m ([.ref (ad 11), .int x1, .ref ou] : List Value).toArray c method_10_code R_La (.codeWith y_La_back method_10_code 4 (some .int) hh_back) D cI cZ 4 := ⟨⟨hx, hb, hml, hown, hts⟩, hKm, fun x hx' => hxw x (nw_xw x hx')⟩
  have GX : g_X l s (l_A co lo s.heap.size) := ⟨hst, hxw, hU, hSe⟩
  have hl := lv_entry ([.ref (ad 11), .int x1, .ref ou]) (n := 4) (Nat.le_of_ble_eq_true rfl)
  rw [lg_entry_eq]
  generalize (lg_sl ([.ref (ad 11), .int x1, .ref ou]) ++ List.replicate (4 - (lg_sl ([.ref (ad 11), .int x1, .ref ou])).length) Slot.unset).toArray = ls at hl ⊢
  have hl : lv_has ls 4 [(0, .ref (ad 11)), (1, .int x1), (2, .ref ou)] := hl
  refine lv_aload_n hx hb (show decode method_10_code 0 = .ok (.aload_n 2, 1) by decide +kernel) rfl (lv_at hl 2 rfl) ?_
  refine lv_iconst (v := 0) hx hb (show decode method_10_code 1 = .ok (.iconst 0, 1) by decide +kernel) rfl ?_
  refine lv_aload_n hx hb (show decode method_10_code 2 = .ok (.aload_n 0, 1) by decide +kernel) rfl (lv_at hl 0 rfl) ?_
  refine lv_iload_n hx hb (show decode method_10_code 3 = .ok (.iload_n 1, 1) by decide +kernel) rfl (lv_at hl 1 rfl) ?_
  refine m_goVX (y := y_Le_back) (bytes := c_Le_back) (maxL := 2) (ret := some .int) (j := 40) (ci := 3) (rmY := rmX) (ct := cx_bad) (Cn := R_Le) (Tn := F_Le) (Nn := 2) (a := 11) (as := [.inl x1]) (w := w) (fs := [.inr 0, .inr 12]) (rest := [.int 0, .ref ou]) (K := fun r w' => False) (X := fun kd w' => w' = w ∧ kd = 2) 1 G GX x_back0 cd_Le_back lk_back im_back se_back in_Le0 rfl rfl rfl hwa ⟨by decide, by decide, by decide +kernel⟩ ⟨by decide, by decide⟩ rfl hl.1 (Nat.le_of_ble_eq_true rfl) (show decode method_10_code 4 = .ok (.invokevirtual 40, 3) by decide +kernel) ⟨by decide, by decide⟩ (cy_bad hw0 ha ⟨rfl, rfl⟩) o1.1 hDw hS hA ?_ (fun r w' H1 locs1 hl1 hK1 => hK1.elim)
  intro kd w' ce q9 H1 locs1 hl1 hX1 hP1 hf1 hS1 hce hcv hcl
  obtain ⟨rfl, rfl⟩ := hX1
  have hLC : LC D cI cZ cK cL ad ou co lo s0 ks f H1 := LC_up o1 o2 o3 o4 hw0 rfl hP1 hf1
  refine vx_catch (own := R_La) (name := exn 2) hown [] ⟨0, 9, 12, 38⟩ [] htab (fun z hz => nomatch hz) (by decide) (by decide) (hw _ lk_38) (va_Nw.use rfl (hxw _ ks_2)) hce hcv hcl ?_
  refine lv_astore_n hx hb (show decode method_10_code 12 = .ok (.astore_n 3, 1) by decide +kernel) rfl hl (by decide) rfl (fun ls1 hl1 => ?_)
  refine lv_iconst (v := 1) hx hb (show decode method_10_code 13 = .ok (.iconst 1, 1) by decide +kernel) rfl ?_
  exact vx_ret (W.iret hx hb hr (fun t ht hW => ⟨⟨co, f, 1, rfl, rfl, fun _ _ => rfl, by rw [ht]; exact hLC, trivial⟩, hS1.F ht⟩) hS1.2.2 (show decode method_10_code 14 = .ok (.ireturn, 1) by decide +kernel))
set_option maxHeartbeats 16000000 in
set_option maxRecDepth 20000 in
theorem lx_backG (l : Launch) (hst : l.stackTraces = false) (D : va_G) (cI cZ cK cL : ClassId) (ad : Nat → Nat) (ou : Nat) (co : Nat → Nat) (lo : Nat) (s0 : aS) (ks : Nat → aS) (f : Nat → Int64) (sz : Nat) (k : Nat) (hk : k < 8) (hlk : (ks k).2.2.1.length ≤ 32) :
    vx_Met l y_La_back (.codeWith y_La_back method_10_code 4 (some .int) hh_back :: gw) rmW (l_pre D cI cZ cK cL ad ou co lo s0 ks f sz [.ref (ad 11), .int (nI k), .ref ou]) (l_post D cI cZ cK cL ad ou co lo (l_A co lo sz) 0 (ks k) ks (fun f' => f' 0 = (ks k).2.2.2.2.2.2.toInt64)) (fun _ _ _ => False) 1 6 (l_A co lo sz) := by
  refine vx_ofWH (cc := method_10_code) (maxL := 4) (ret := some .int) (hh := hh_back) (by decide) rfl ?_
  intro p e s m args below meth c s₁ B hml hv
  obtain ⟨rfl, hsz, ⟨w, g, hw0, o1, o2, o3, o4⟩, hK, hxw, hU, hSe, hn1, hn2⟩ := hv
  have hx := B.exec
  have hb := B.bytes
  have hr := B.returns
  have hts := atoms_spec (ws := .codeWith y_La_back method_10_code 4 (some .int) hh_back :: gw) B.pre
  have htab := vx_table (x := y_La_back) B (hts _ List.mem_cons_self)
  have hw : ∀ x ∈ gw, x.before ([.ref (ad 11), .int (nI k), .ref ou] : List Value).toArray s = true := fun x h => hts x (List.mem_cons_of_mem _ h)
  have hown : s.vm.findClass R_La = some m.cls := findClass_of_methodNamed B.named
  subst hsz
  have hA : ∀ q : Nat, s.heap.size ≤ q → l_A co lo s.heap.size q := fun q h => Or.inr h
  have hS : va_S (l_A co lo s.heap.size) s.heap s.heap [] := va_S.rf
  have hKm := hK.sub (tys' := z_ty cI cZ) [0, 1] rfl
  have hDw := o1.inA (sz := s.heap.size) (by decide)
  have h3 : lo ≤ ou ∧ co ou = 3 := o3.2.2 0 (ou, lo_ar cL f) rfl
  have hou : l_A co lo s.heap.size ou := Or.inl ⟨h3.1, by rw [h3.2]; decide⟩
  have hwa := RCw_at hw0
  have G : g_Cx p (rmW : Room) s m ([.ref (ad 11), .int (nI k), .ref ou] : List Value).toArray c method_10_code R_La (.codeWith y_La_back method_10_code 4 (some .int) hh_back) D cI cZ 4 := ⟨⟨hx, hb, hml, hown, hts⟩, hKm, fun x hx' => hxw x (nw_xw x hx')⟩
  have GX : g_X l s (l_A co lo s.heap.size) := ⟨hst, hxw, hU, hSe⟩
  have hl := lv_entry ([.ref (ad 11), .int (nI k), .ref ou]) (n := 4) (Nat.le_of_ble_eq_true rfl)
  rw [lg_entry_eq]
  generalize (lg_sl ([.ref (ad 11), .int (nI k), .ref ou]) ++ List.replicate (4 - (lg_sl ([.ref (ad 11), .int (nI k), .ref ou])).length) Slot.unset).toArray = ls at hl ⊢
  have hl : lv_has ls 4 [(0, .ref (ad 11)), (1, .int (nI k)), (2, .ref ou)] := hl
  have hKk := hK.sub (tys' := z_ty cI cZ ++ [(cK, .object R_St)]) [0, 1, 2] rfl
  refine lv_aload_n hx hb (show decode method_10_code 0 = .ok (.aload_n 2, 1) by decide +kernel) rfl (lv_at hl 2 rfl) ?_
  refine lv_iconst (v := 0) hx hb (show decode method_10_code 1 = .ok (.iconst 0, 1) by decide +kernel) rfl ?_
  refine lv_aload_n hx hb (show decode method_10_code 2 = .ok (.aload_n 0, 1) by decide +kernel) rfl (lv_at hl 0 rfl) ?_
  refine lv_iload_n hx hb (show decode method_10_code 3 = .ok (.iload_n 1, 1) by decide +kernel) rfl (lv_at hl 1 rfl) ?_
  rcases o4 k hk with ⟨hg, hk0⟩ | ⟨adk, wk, hg, hR, o5⟩
  · have hFc := o_Fc (sz := s.heap.size) (Z := l_A co lo s.heap.size) (o1.mA (by decide)) hA
    refine o_goes (A1 := va_A (m_ws cI cZ ad w 0) s.heap.size) (o_runV (As := [.int (nI k)]) (rest := [.int 0, .ref ou]) 1 G (x_backN l D cI cZ cK ad g k s.heap.size w s0 hk hg hw0) cd_Le_back lk_back im_back se_back in_Le0 rfl rfl (ci := 3) (Tn := F_Le) (Nn := 2) rfl hwa o1.1 ⟨by decide, by decide, by decide +kernel⟩ ⟨by decide, by decide⟩ rfl hl.1 (Nat.le_of_ble_eq_true rfl) (show decode method_10_code 4 = .ok (.invokevirtual 40, 3) by decide +kernel) ⟨by decide, by decide⟩ b_blind (fun U hU hW => ⟨rfl, by rw [hU], by rw [hU]; exact o1.1.app o2.1, va_K.moved hW.alike hKk, o_app o1 o2 (by decide), fun x hx' => m_isN_warm (nw_ok x hx') hW (hxw x (nw_xw x hx'))⟩)) (fun st o t h9 => h9.2) hS (fun q _ h9 => hFc q h9) hFc (fun v st t H1 locs1 hst9 ht hq hf1 hS1 => ?_)
    obtain ⟨⟨r, w', hv, hl9, ⟨rfl, hRC1⟩, hP1⟩, -⟩ := hq
    cases hv
    rw [ht] at hP1
    rw [← hk0] at hRC1
    have hLC := LC_up o1 o2 o3 o4 hRC1 (hl9.trans (RCw_len hw0).symm) hP1 hf1
    refine o_widen (k := 1) (n := 6) (Nat.le_of_ble_eq_true rfl) (Nat.le_of_ble_eq_true rfl) ?_
    refine W.eq (g2 := F0 m 7 ls [.int 0, .int 0, .ref ou]) rfl ?_
    refine lv_i2l hx hb (show decode method_10_code 7 = .ok (.i2l, 1) by decide +kernel) rfl ?_
    refine o_last hx hb hK 3 rfl hLC hou hS1 (show decode method_10_code 8 = .ok (.lastore, 1) by decide +kernel) (fun H2 locs2 f1 hf2 hLC hS2 => ?_)
    refine lv_goto hx hb (show decode method_10_code 9 = .ok (.goto 6, 3) by decide +kernel) (tgt := 15) rfl ?_
    refine lv_iconst (v := 0) hx hb (show decode method_10_code 15 = .ok (.iconst 0, 1) by decide +kernel) rfl ?_
    exact vx_ret (W.iret hx hb hr (fun t ht hW => ⟨⟨co, f1, 0, rfl, rfl, fun _ _ => rfl, by rw [ht]; exact hLC, by show f1 0 = _; rw [hf2, hk0]; rfl⟩, hS2.F ht⟩) hS2.2.2 (show decode method_10_code 16 = .ok (.ireturn, 1) by decide +kernel))
  · have hFc := o_Fc (sz := s.heap.size) (Z := l_A co lo s.heap.size) (o_in2 (o1.mA (by decide)) (o_in2 (o2.mA (by decide)) (o5.mA (by omega)))) hA
    refine o_goes (A1 := va_A (k_ws cI cZ cK ad adk g w wk) s.heap.size) (o_runV (As := [.int (nI k)]) (rest := [.int 0, .ref ou]) 1 G (x_backK l D cI cZ cK ad adk g k s.heap.size w wk s0 (ks k) hk hg hw0 hR hlk) cd_Le_back lk_back im_back se_back in_Le0 rfl rfl (ci := 3) (Tn := F_Le) (Nn := 2) rfl hwa o1.1 ⟨by decide, by decide, by decide +kernel⟩ ⟨by decide, by decide⟩ rfl hl.1 (Nat.le_of_ble_eq_true rfl) (show decode method_10_code 4 = .ok (.invokevirtual 40, 3) by decide +kernel) ⟨by decide, by decide⟩ k_blind (fun U hU hW => ⟨rfl, by rw [hU], by rw [hU]; exact o1.1.app (o2.1.app o5.1), va_K.moved hW.alike hKk, o_app3 o1 o2 o5 (by omega) (by omega) (by omega), fun x hx' => m_isN_warm (nw_ok x hx') hW (hxw x (nw_xw x hx'))⟩)) (fun st o t h9 => h9.2) hS (fun q _ h9 => hFc q h9) hFc (fun v st t H1 locs1 hst9 ht hq hf1 hS1 => ?_)
    obtain ⟨⟨w', hv, hRC1, hP1⟩, -⟩ := hq
    cases hv
    rw [ht] at hP1
    have hLC := LC_k o1 o2 o3 o4 hg o5 hRC1 ((RCw_len hRC1).trans (RCw_len hw0).symm) hR rfl hP1 hf1
    rw [up_id] at hLC
    refine o_widen (k := 1) (n := 6) (Nat.le_of_ble_eq_true rfl) (Nat.le_of_ble_eq_true rfl) ?_
    refine W.eq (g2 := F0 m 7 ls [.int (ks k).2.2.2.2.2.2, .int 0, .ref ou]) rfl ?_
    refine lv_i2l hx hb (show decode method_10_code 7 = .ok (.i2l, 1) by decide +kernel) rfl ?_
    refine o_last hx hb hK 3 rfl hLC hou hS1 (show decode method_10_code 8 = .ok (.lastore, 1) by decide +kernel) (fun H2 locs2 f1 hf2 hLC hS2 => ?_)
    refine lv_goto hx hb (show decode method_10_code 9 = .ok (.goto 6, 3) by decide +kernel) (tgt := 15) rfl ?_
    refine lv_iconst (v := 0) hx hb (show decode method_10_code 15 = .ok (.iconst 0, 1) by decide +kernel) rfl ?_
    exact vx_ret (W.iret hx hb hr (fun t ht hW => ⟨⟨co, f1, 0, rfl, rfl, fun _ _ => rfl, by rw [ht]; exact hLC, hf2⟩, hS2.F ht⟩) hS2.2.2 (show decode method_10_code 16 = .ok (.ireturn, 1) by decide +kernel))
set_option maxHeartbeats 16000000 in
set_option maxRecDepth 20000 in
theorem lx_keep0 (l : Launch) (hst : l.stackTraces = false) (D : va_G) (cI cZ cK cL : ClassId) (ad : Nat → Nat) (ou : Nat) (co : Nat → Nat) (lo : Nat) (s0 : aS) (ks : Nat → aS) (f : Nat → Int64) (sz : Nat) (x1 : Int32) (ha : ¬ isR x1 8) :
    vx_Met l y_La_keep (.codeWith y_La_keep method_9_code 3 (some .int) hh_keep :: gw) rmW (l_pre D cI cZ cK cL ad ou co lo s0 ks f sz [.ref (ad 11), .int x1]) (l_post D cI cZ cK cL ad ou co lo (l_A co lo sz) 1 s0 ks (fun _ => True)) (fun _ _ _ => False) 1 6 (l_A co lo sz) := by
  refine vx_ofWH (cc := method_9_code) (maxL := 3) (ret := some .int) (hh := hh_keep) (by decide) rfl ?_
  intro p e s m args below meth c s₁ B hml hv
  obtain ⟨rfl, hsz, ⟨w, g, hw0, o1, o2, o3, o4⟩, hK, hxw, hU, hSe, hn1, hn2⟩ := hv
  have hx := B.exec
  have hb := B.bytes
  have hr := B.returns
  have hts := atoms_spec (ws := .codeWith y_La_keep method_9_code 3 (some .int) hh_keep :: gw) B.pre
  have htab := vx_table (x := y_La_keep) B (hts _ List.mem_cons_self)
  have hw : ∀ x ∈ gw, x.before ([.ref (ad 11), .int x1] : List Value).toArray s = true := fun x h => hts x (List.mem_cons_of_mem _ h)
  have hown : s.vm.findClass R_La = some m.cls := findClass_of_methodNamed B.named
  subst hsz
  have hA : ∀ q : Nat, s.heap.size ≤ q → l_A co lo s.heap.size q := fun q h => Or.inr h
  have hS : va_S (l_A co lo s.heap.size) s.heap s.heap [] := va_S.rf
  have hKm := hK.sub (tys' := z_ty cI cZ) [0, 1] rfl
  have hDw := o1.inA (sz := s.heap.size) (by decide)
  have h3 : lo ≤ ou ∧ co ou = 3 := o3.2.2 0 (ou, lo_ar cL f) rfl
  have hou : l_A co lo s.heap.size ou := Or.inl ⟨h3.1, by rw [h3.2]; decide⟩
  have hwa := RCw_at hw0
  have G : g_Cx p (rmW : Room) s m ([.ref (ad 11), .int x1] : List Value).toArray c method_9_code R_La (.codeWith y_La_keep method_9_code 3 (some .int) hh_keep) D cI cZ 3 := ⟨⟨hx, hb, hml, hown, hts⟩, hKm, fun x hx' => hxw x (nw_xw x hx')⟩
  have GX : g_X l s (l_A co lo s.heap.size) := ⟨hst, hxw, hU, hSe⟩
  have hl := lv_entry ([.ref (ad 11), .int x1]) (n := 3) (Nat.le_of_ble_eq_true rfl)
  rw [lg_entry_eq]
  generalize (lg_sl ([.ref (ad 11), .int x1]) ++ List.replicate (3 - (lg_sl ([.ref (ad 11), .int x1])).length) Slot.unset).toArray = ls at hl ⊢
  have hl : lv_has ls 3 [(0, .ref (ad 11)), (1, .int x1)] := hl
  refine lv_aload_n hx hb (show decode method_9_code 0 = .ok (.aload_n 0, 1) by decide +kernel) rfl (lv_at hl 0 rfl) ?_
  refine lv_iload_n hx hb (show decode method_9_code 1 = .ok (.iload_n 1, 1) by decide +kernel) rfl (lv_at hl 1 rfl) ?_
  refine m_goVX (y := y_Le_keep) (bytes := c_Le_keep) (maxL := 2) (ret := none) (j := 34) (ci := 3) (rmY := rmX) (ct := cx_bad) (Cn := R_Le) (Tn := F_Le) (Nn := 2) (a := 11) (as := [.inl x1]) (w := w) (fs := [.inr 0, .inr 12]) (rest := []) (K := fun r w' => False) (X := fun kd w' => w' = w ∧ kd = 2) 1 G GX x_keep0 cd_Le_keep lk_keep im_keep se_keep in_Le0 rfl rfl rfl hwa ⟨by decide, by decide, by decide +kernel⟩ ⟨by decide, by decide⟩ rfl hl.1 (Nat.le_of_ble_eq_true rfl) (show decode method_9_code 2 = .ok (.invokevirtual 34, 3) by decide +kernel) ⟨by decide, by decide⟩ (cy_bad hw0 ha ⟨rfl, rfl⟩) o1.1 hDw hS hA ?_ (fun r w' H1 locs1 hl1 hK1 => hK1.elim)
  intro kd w' ce q9 H1 locs1 hl1 hX1 hP1 hf1 hS1 hce hcv hcl
  obtain ⟨rfl, rfl⟩ := hX1
  have hLC : LC D cI cZ cK cL ad ou co lo s0 ks f H1 := LC_up o1 o2 o3 o4 hw0 rfl hP1 hf1
  refine vx_catch (own := R_La) (name := exn 2) hown [] ⟨0, 5, 8, 38⟩ [] htab (fun z hz => nomatch hz) (by decide) (by decide) (hw _ lk_38) (va_Nw.use rfl (hxw _ ks_2)) hce hcv hcl ?_
  refine lv_astore_n hx hb (show decode method_9_code 8 = .ok (.astore_n 2, 1) by decide +kernel) rfl hl (by decide) rfl (fun ls1 hl1 => ?_)
  refine lv_iconst (v := 1) hx hb (show decode method_9_code 9 = .ok (.iconst 1, 1) by decide +kernel) rfl ?_
  exact vx_ret (W.iret hx hb hr (fun t ht hW => ⟨⟨co, f, 1, rfl, rfl, fun _ _ => rfl, by rw [ht]; exact hLC, trivial⟩, hS1.F ht⟩) hS1.2.2 (show decode method_9_code 10 = .ok (.ireturn, 1) by decide +kernel))
set_option maxHeartbeats 16000000 in
set_option maxRecDepth 20000 in
theorem lx_keepG (l : Launch) (hst : l.stackTraces = false) (D : va_G) (cI cZ cK cL : ClassId) (ad : Nat → Nat) (ou : Nat) (co : Nat → Nat) (lo : Nat) (s0 : aS) (ks : Nat → aS) (f : Nat → Int64) (sz : Nat) (k : Nat) (hk : k < 8) (hlk : s0.2.2.1.length ≤ 32) :
    vx_Met l y_La_keep (.codeWith y_La_keep method_9_code 3 (some .int) hh_keep :: gw) rmK (l_pre D cI cZ cK cL ad ou co lo s0 ks f sz [.ref (ad 11), .int (nI k)]) (l_post D cI cZ cK cL ad ou co lo (l_A co lo sz) 0 s0 (va_up ks k s0) (fun _ => True)) (fun _ _ _ => False) 11 615 (l_A co lo sz) := by
  refine vx_ofWH (cc := method_9_code) (maxL := 3) (ret := some .int) (hh := hh_keep) (by decide) rfl ?_
  intro p e s m args below meth c s₁ B hml hv
  obtain ⟨rfl, hsz, ⟨w, g, hw0, o1, o2, o3, o4⟩, hK, hxw, hU, hSe, hn1, hn2⟩ := hv
  have hx := B.exec
  have hb := B.bytes
  have hr := B.returns
  have hts := atoms_spec (ws := .codeWith y_La_keep method_9_code 3 (some .int) hh_keep :: gw) B.pre
  have htab := vx_table (x := y_La_keep) B (hts _ List.mem_cons_self)
  have hw : ∀ x ∈ gw, x.before ([.ref (ad 11), .int (nI k)] : List Value).toArray s = true := fun x h => hts x (List.mem_cons_of_mem _ h)
  have hown : s.vm.findClass R_La = some m.cls := findClass_of_methodNamed B.named
  subst hsz
  have hA : ∀ q : Nat, s.heap.size ≤ q → l_A co lo s.heap.size q := fun q h => Or.inr h
  have hS : va_S (l_A co lo s.heap.size) s.heap s.heap [] := va_S.rf
  have hKm := hK.sub (tys' := z_ty cI cZ) [0, 1] rfl
  have hDw := o1.inA (sz := s.heap.size) (by decide)
  have h3 : lo ≤ ou ∧ co ou = 3 := o3.2.2 0 (ou, lo_ar cL f) rfl
  have hou : l_A co lo s.heap.size ou := Or.inl ⟨h3.1, by rw [h3.2]; decide⟩
  have hwa := RCw_at hw0
  have G : g_Cx p (rmK : Room) s m ([.ref (ad 11), .int (nI k)] : List Value).toArray c method_9_code R_La (.codeWith y_La_keep method_9_code 3 (some .int) hh_keep) D cI cZ 3 := ⟨⟨hx, hb, hml, hown, hts⟩, hKm, fun x hx' => hxw x (nw_xw x hx')⟩
  have GX : g_X l s (l_A co lo s.heap.size) := ⟨hst, hxw, hU, hSe⟩
  have hl := lv_entry ([.ref (ad 11), .int (nI k)]) (n := 3) (Nat.le_of_ble_eq_true rfl)
  rw [lg_entry_eq]
  generalize (lg_sl ([.ref (ad 11), .int (nI k)]) ++ List.replicate (3 - (lg_sl ([.ref (ad 11), .int (nI k)])).length) Slot.unset).toArray = ls at hl ⊢
  have hl : lv_has ls 3 [(0, .ref (ad 11)), (1, .int (nI k))] := hl
  have hKk := hK.sub (tys' := z_ty cI cZ ++ [(cK, .object R_St)]) [0, 1, 2] rfl
  refine lv_aload_n hx hb (show decode method_9_code 0 = .ok (.aload_n 0, 1) by decide +kernel) rfl (lv_at hl 0 rfl) ?_
  refine lv_iload_n hx hb (show decode method_9_code 1 = .ok (.iload_n 1, 1) by decide +kernel) rfl (lv_at hl 1 rfl) ?_
  rcases o4 k hk with ⟨hg, hk0⟩ | ⟨adk, wk, hg, hR, o5⟩
  · have hFc := o_Fc (sz := s.heap.size) (Z := l_A co lo s.heap.size) (o_in2 (o1.mA (by decide)) (o2.mA (by decide))) hA
    refine o_goes (A1 := va_A (m_ws cI cZ ad w 0 ++ [(ad 12, z_kp cK g)]) s.heap.size) (o_runV (As := [.int (nI k)]) (rest := []) 1 G (x_keepN l D cI cZ cK ad g k s.heap.size w s0 hk hg hw0 hlk) cd_Le_keep lk_keep im_keep se_keep in_Le0 rfl rfl (ci := 3) (Tn := F_Le) (Nn := 2) rfl hwa o1.1 ⟨by decide, by decide, by decide +kernel⟩ ⟨by decide, by decide⟩ rfl hl.1 (Nat.le_of_ble_eq_true rfl) (show decode method_9_code 2 = .ok (.invokevirtual 34, 3) by decide +kernel) ⟨by decide, by decide⟩ b_blind (fun U hU hW => ⟨rfl, by rw [hU], by rw [hU]; exact o1.1.app o2.1, va_K.moved hW.alike hKk, o_app o1 o2 (by decide), fun x hx' => m_isN_warm (nw_ok x hx') hW (hxw x (nw_xw x hx'))⟩)) (fun st o t h9 => h9.2) hS (fun q _ h9 => hFc q h9) hFc (fun v st t H1 locs1 hst9 ht hq hf1 hS1 => ?_)
    obtain ⟨⟨adk, wk, hv, hR1, hP1, hD1⟩, -⟩ := hq
    cases hv
    rw [ht] at hP1
    have hLC := LC_n o1 o2 o3 o4 hw0 hR1 hP1 hD1 hf1
    refine o_widen (k := 11) (n := 615) (Nat.le_of_ble_eq_true rfl) (Nat.le_of_ble_eq_true rfl) ?_
    refine W.eq (g2 := F0 m 5 ls []) rfl ?_
    refine lv_goto hx hb (show decode method_9_code 5 = .ok (.goto 6, 3) by decide +kernel) (tgt := 11) rfl ?_
    refine lv_iconst (v := 0) hx hb (show decode method_9_code 11 = .ok (.iconst 0, 1) by decide +kernel) rfl ?_
    exact vx_ret (W.iret hx hb hr (fun t ht hW => ⟨⟨o_new co s.heap.size (10 + k), f, 0, rfl, rfl, fun q h9 => o_new_lt h9, by rw [ht]; exact hLC, trivial⟩, hS1.F ht⟩) hS1.2.2 (show decode method_9_code 12 = .ok (.ireturn, 1) by decide +kernel))
  · have hFc := o_Fc (sz := s.heap.size) (Z := l_A co lo s.heap.size) (o_in2 (o1.mA (by decide)) (o_in2 (o2.mA (by decide)) (o5.mA (by omega)))) hA
    refine o_goes (A1 := va_A (k_ws cI cZ cK ad adk g w wk) s.heap.size) (o_runV (As := [.int (nI k)]) (rest := []) 1 G (x_keepK l D cI cZ cK ad adk g k s.heap.size w wk s0 (ks k) hk hg hw0 hR hlk) cd_Le_keep lk_keep im_keep se_keep in_Le0 rfl rfl (ci := 3) (Tn := F_Le) (Nn := 2) rfl hwa o1.1 ⟨by decide, by decide, by decide +kernel⟩ ⟨by decide, by decide⟩ rfl hl.1 (Nat.le_of_ble_eq_true rfl) (show decode method_9_code 2 = .ok (.invokevirtual 34, 3) by decide +kernel) ⟨by decide, by decide⟩ k_blind (fun U hU hW => ⟨rfl, by rw [hU], by rw [hU]; exact o1.1.app (o2.1.app o5.1), va_K.moved hW.alike hKk, o_app3 o1 o2 o5 (by omega) (by omega) (by omega), fun x hx' => m_isN_warm (nw_ok x hx') hW (hxw x (nw_xw x hx'))⟩)) (fun st o t h9 => h9.2) hS (fun q _ h9 => hFc q h9) hFc (fun v st t H1 locs1 hst9 ht hq hf1 hS1 => ?_)
    obtain ⟨⟨wk', hv, hR1, hP1⟩, -⟩ := hq
    cases hv
    rw [ht] at hP1
    have hLC := LC_k o1 o2 o3 o4 hg o5 hw0 rfl hR1 ((sRC_len hR1).trans (sRC_len hR).symm) hP1 hf1
    refine o_widen (k := 11) (n := 615) (Nat.le_of_ble_eq_true rfl) (Nat.le_of_ble_eq_true rfl) ?_
    refine W.eq (g2 := F0 m 5 ls []) rfl ?_
    refine lv_goto hx hb (show decode method_9_code 5 = .ok (.goto 6, 3) by decide +kernel) (tgt := 11) rfl ?_
    refine lv_iconst (v := 0) hx hb (show decode method_9_code 11 = .ok (.iconst 0, 1) by decide +kernel) rfl ?_
    exact vx_ret (W.iret hx hb hr (fun t ht hW => ⟨⟨co, f, 0, rfl, rfl, fun _ _ => rfl, by rw [ht]; exact hLC, trivial⟩, hS1.F ht⟩) hS1.2.2 (show decode method_9_code 12 = .ok (.ireturn, 1) by decide +kernel))
