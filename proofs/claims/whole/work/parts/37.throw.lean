/-! Methods that may throw: contracts and walks. -/
def m_isS : Jvm.Cond → Bool
  | .stringRef .. => true
  | _ => false
def m_isX (x : Jvm.Cond) : Bool := m_isN x || (m_isS x || (x.onTables && x.keepsFace))
theorem m_str_same {own tx : String} {k : Nat} {u U : State} (h : u.vm = U.vm) (hZ : va_Nw (.stringRef own k tx) u) : va_Nw (.stringRef own k tx) U := by
  first
  | exact va_tabs rfl h hZ
  | (unfold va_Nw at hZ ⊢
     simp only [Cond.before, Cond.holds, Cond.value, State.resolvedAt?, State.names, State.poolOf?, h] at hZ ⊢
     exact hZ)
theorem m_isX_same {x : Jvm.Cond} (hx : m_isX x = true) {u U : State} (h : u.vm = U.vm) (hZ : va_Nw x u) : va_Nw x U := by
  unfold m_isX at hx
  rcases Bool.or_eq_true _ _ ▸ hx with h1 | h1
  · exact va_Nw.same (m_isN_on h1) h hZ
  · rcases Bool.or_eq_true _ _ ▸ h1 with h2 | h2
    · cases x <;> first | exact m_str_same h hZ | exact Bool.noConfusion (show false = true from h2)
    · exact va_Nw.same (Bool.and_eq_true _ _ ▸ h2).1 h hZ
theorem m_isX_warm {x : Jvm.Cond} (hx : m_isX x = true) {s U : State} (hW : s.WarmedH U.vm) (h : va_Nw x s) : va_Nw x U := by
  unfold m_isX at hx
  rcases Bool.or_eq_true _ _ ▸ hx with h1 | h1
  · exact m_isN_warm h1 hW h
  · rcases Bool.or_eq_true _ _ ▸ h1 with h2 | h2
    · cases x <;> first | exact m_str_same (u := s.setVm U.vm) rfl (Cond.stringRef_warmed (args := #[]) hW h) | exact Bool.noConfusion (show false = true from h2)
    · have h3 := Bool.and_eq_true _ _ ▸ h2
      exact va_tabs h3.1 (rfl : (s.setVm U.vm).vm = U.vm) (Cond.before_shiftedFace (args := #[]) (State.Shifted.of_warmed hW) x h3.2 h)
/-- the words that ride: of the nest, the texts, and those of a throw -/
def xw : List Jvm.Cond := lw_tbl.filter m_isX
theorem xw_ok : ∀ x ∈ xw, m_isX x = true := fun _ h => (List.mem_filter.mp h).2
theorem nw_xw : ∀ x ∈ nw, x ∈ xw := fun x h => List.mem_filter.mpr ⟨(List.mem_filter.mp h).1, by unfold m_isX; rw [(List.mem_filter.mp h).2]; rfl⟩
theorem m_inx {x : Jvm.Cond} (h : x ∈ lw_tbl) (h2 : m_isX x = true) : x ∈ xw := List.mem_filter.mpr ⟨h, h2⟩
def exn : Nat → String
  | 0 => "java/lang/IllegalArgumentException"
  | 1 => "java/lang/IllegalStateException"
  | _ => "java/lang/IndexOutOfBoundsException"
abbrev x_up : List String := ["java/lang/RuntimeException", "java/lang/Exception"]
def m_preX (D : va_G) (cI cZ : ClassId) (ad : Nat → Nat) (as : List mV) (w : mW) (sz : Nat) : Array Value → State → Prop :=
  va_Pc (as.map (m_v ad)) (fun U => U.heap.size = sz ∧ va_P D m_cl (m_ws cI cZ ad w 0) U.heap ∧ va_K D m_cl [(cI, .int), (cZ, .boolean)] U ∧ va_D (fun _ => True) (m_ws cI cZ ad w 0) ∧ (∀ x ∈ xw, va_Nw x U) ∧ vx_Zq Bundle.tN "UNASSIGNED_STACK" Bundle.steD (va_A (m_ws cI cZ ad w 0) sz) U U.heap ∧ vx_Zq Bundle.tN "SUPPRESSED_SENTINEL" Bundle.listD (va_A (m_ws cI cZ ad w 0) sz) U U.heap)
def m_postX (D : va_G) (cI cZ : ClassId) (ad : Nat → Nat) (N : Nat) (A : Nat → Prop) (X : Nat → mW → Prop) : String → State → State → Prop :=
  fun En st t => ∃ (kd : Nat) (w : mW), En = exn kd ∧ X kd w ∧ w.length = N ∧ va_P D m_cl (m_ws cI cZ ad w 0) t.heap ∧ va_F A st t
abbrev mCX : Type := List mV → mW → (Option mV → mW → Prop) → (Nat → mW → Prop) → Prop
def m_MetX (y : MethodName) (ws : List Jvm.Cond) (rm : Room) (ct : mCX) : Prop :=
  ∀ (l : Launch), l.stackTraces = false → ∀ (D : va_G) (cI cZ : ClassId) (ad : Nat → Nat) (as : List mV) (w : mW) (sz : Nat) (K : Option mV → mW → Prop) (X : Nat → mW → Prop), ct as w K X →
    vx_Met l y ws rm (m_preX D cI cZ ad as w sz) (m_post D cI cZ ad w.length (va_A (m_ws cI cZ ad w 0) sz) K) (m_postX D cI cZ ad w.length (va_A (m_ws cI cZ ad w 0) sz) X) 1 6 (va_A (m_ws cI cZ ad w 0) sz)
def m_RtX (ret : Option FieldType) (K : Option mV → mW → Prop) (X : Nat → mW → Prop) : mO → mW → Prop
  | .inl r, w => m_Rt ret K (.inl r) w
  | .inr kd, w => X kd w
/-- what the tables must say of a throw -/
def m_XOk (own : String) (kd ik ic : Nat) : Prop :=
  Jvm.Cond.classLink own ik (exn kd) ∈ gw ∧ Jvm.Cond.initialized (exn kd) ∈ gw ∧ (∀ x ∈ vx_atS own ic (exn kd) x_up, x ∈ gw ∨ (x ∈ xw ∧ x.onTables = true)) ∧ (∀ x ∈ Jvm.Cond.classLink own ik (exn kd) :: Jvm.Cond.initialized (exn kd) :: vx_atS own ic (exn kd) x_up, vx_ot x = true) ∧ Bundle.fit (exn kd) = true ∧ ∀ n ∈ x_up, Bundle.fit n = true
def m_dec5 (cc : ByteArray) (pc ik is ic : Nat) : Prop := decode cc pc = .ok (.new ik, 3) ∧ decode cc (pc + 3) = .ok (.dup, 1) ∧ decode cc (pc + 4) = .ok (.ldc is, 2) ∧ decode cc (pc + 6) = .ok (.invokespecial ic, 3) ∧ decode cc (pc + 9) = .ok (.athrow, 1)
set_option maxHeartbeats 4000000 in
theorem m_MetX_of {y : MethodName} {cc : ByteArray} {nL : Nat} {ret : Option FieldType} {rm : Room} {ct : mCX} (hy : plainName y.cls = true) (hlen : ∀ as w K X, ct as w K X → as.length ≤ nL) (hrm : rm.cells = 1 ∧ rm.slots = 6 ∧ 6 ≤ rm.frames ∧ 90 ≤ rm.locals)
    (body : ∀ (E : mE) (as : List mV) (w : mW) (K : Option mV → mW → Prop) (X : Nat → mW → Prop), m_Cx E cc y.cls (.code y cc nL ret :: gw) nw rm → m_Mut E → m_RetOk E cc (m_RtX ret K X) →
      (∀ (pc kd ik is ic : Nat) (text : String), m_XOk y.cls kd ik ic → Jvm.Cond.stringRef y.cls is text ∈ xw → m_dec5 cc pc ik is ic → m_ThrOk E (m_RtX ret K X) pc kd) → ct as w K X → m_W E 0 (as.map some ++ List.replicate (nL - as.length) none) [] w) :
    m_MetX y (.code y cc nL ret :: gw) rm ct := by
  intro l hl D cI cZ ad as w sz K X hct
  refine vx_ofW (cc := cc) (maxL := nL) (ret := ret) hy rfl ?_
  intro p e s m args below meth c s₁ B hml hno hv
  obtain ⟨rfl, hsz, hP, hK, hD0, hN, hU, hSe⟩ := hv
  subst hsz
  have hx := B.exec
  have hb := B.bytes
  have hr := B.returns
  have hlocks := B.notSynchronized
  have hts := atoms_spec (ws := .code y cc nL ret :: gw) B.pre
  have hown : s.vm.findClass y.cls = some m.cls := findClass_of_methodNamed B.named
  have hw : ∀ x ∈ gw, x.before ((as.map (m_v ad)).toArray) s = true := fun x h => hts x (List.mem_cons_of_mem _ h)
  have hmut : ∀ k, k < w.length → va_A (m_ws cI cZ ad w 0) s.heap.size (ad k) := by
    intro k hk
    obtain ⟨e1, g1⟩ := m_ws_at (cI := cI) (cZ := cZ) (ad := ad) w hk
    exact Or.inl ⟨k, e1, g1⟩
  have C : m_Cx (p, l, e, (headSpec (.code y cc nL ret :: gw) rm).room, s, m, (as.map (m_v ad)).toArray, below, meth, c, 0, 0, vx_MQ below (m_post D cI cZ ad w.length (va_A (m_ws cI cZ ad w 0) s.heap.size) K) (m_postX D cI cZ ad w.length (va_A (m_ws cI cZ ad w 0) s.heap.size) X) (as.map (m_v ad)).toArray s 1 6 (va_A (m_ws cI cZ ad w 0) s.heap.size), D, va_A (m_ws cI cZ ad w 0) s.heap.size, cI, cZ, ad, nL, w.length) cc y.cls (.code y cc nL ret :: gw) nw rm :=
    ⟨hx, hb, hml, hown, hK, fun w' hw' => m_D_of hD0 hw', fun q hq => Or.inr hq, hts, fun x h => hN x (nw_xw x h), rfl, Nat.zero_le _, Nat.zero_le _⟩
  have hret : m_RetOk (p, l, e, (headSpec (.code y cc nL ret :: gw) rm).room, s, m, (as.map (m_v ad)).toArray, below, meth, c, 0, 0, vx_MQ below (m_post D cI cZ ad w.length (va_A (m_ws cI cZ ad w 0) s.heap.size) K) (m_postX D cI cZ ad w.length (va_A (m_ws cI cZ ad w 0) s.heap.size) X) (as.map (m_v ad)).toArray s 1 6 (va_A (m_ws cI cZ ad w 0) s.heap.size), D, va_A (m_ws cI cZ ad w 0) s.heap.size, cI, cZ, ad, nL, w.length) cc (m_RtX ret K X) := by
    refine ⟨fun pc lo x w' hd hR => ?_, fun pc lo w' hd hR => ?_⟩
    · intro ls H locs hlh hN' hP' hS
      refine W.widen (k := 1) (n := 6) (by omega) (by omega) (vx_ret ?_)
      cases ret with
      | none => exact False.elim hR
      | some ty =>
        cases ty <;> first | exact False.elim hR | skip
        · exact W.iret hx hb hr (fun t ht hW => ⟨⟨some (.inl x), w', rfl, hN', hR, by rw [ht]; exact hP'⟩, hS.F ht⟩) hS.2.2 hd
        · exact W.zret hx hb hr (m_nar hR.1) (fun t ht hW => ⟨⟨some (.inl x), w', rfl, hN', hR.2, by rw [ht]; exact hP'⟩, hS.F ht⟩) hS.2.2 hd
    · intro ls H locs hlh hN' hP' hS
      refine W.widen (k := 1) (n := 6) (by omega) (by omega) (vx_ret ?_)
      cases ret with
      | none => exact W.vret hx hb hr (fun t ht hW => ⟨⟨none, w', rfl, hN', hR, by rw [ht]; exact hP'⟩, hS.F ht⟩) hS.2.2 hd
      | some ty => cases ty <;> exact False.elim hR
  have hthr : ∀ (pc kd ik is ic : Nat) (text : String), m_XOk y.cls kd ik ic → Jvm.Cond.stringRef y.cls is text ∈ xw → m_dec5 cc pc ik is ic → m_ThrOk (p, l, e, (headSpec (.code y cc nL ret :: gw) rm).room, s, m, (as.map (m_v ad)).toArray, below, meth, c, 0, 0, vx_MQ below (m_post D cI cZ ad w.length (va_A (m_ws cI cZ ad w 0) s.heap.size) K) (m_postX D cI cZ ad w.length (va_A (m_ws cI cZ ad w 0) s.heap.size) X) (as.map (m_v ad)).toArray s 1 6 (va_A (m_ws cI cZ ad w 0) s.heap.size), D, va_A (m_ws cI cZ ad w 0) s.heap.size, cI, cZ, ad, nL, w.length) (m_RtX ret K X) pc kd := by
    intro pc kd ik is ic text hxk hstr hd5 lo w' hXw ls H locs hlh hN' hP' hS
    obtain ⟨hx1, hx2, hx3, hx4, hx5, hx6⟩ := hxk
    obtain ⟨d0, d3, d4, d6, d9⟩ := hd5
    obtain ⟨hc1, hs1, hf1, hl1⟩ := hrm
    have hst0 := hN _ hstr
    obtain ⟨-, -, -, sa, -, -, -, -, -, hev⟩ := Cond.stringRef_spec (args := #[]) (first := s) (o := none) (idx := []) hown hst0
    have hat : ∀ x ∈ vx_atS y.cls ic (exn kd) x_up, x.before ((as.map (m_v ad)).toArray) s = true := fun x h => by
      rcases hx3 x h with h1 | ⟨h1, h2⟩
      · exact hw x h1
      · exact va_Nw.use h2 (hN x h1)
    refine vx_throwS (sa := sa) hx hb hl hown hx5 hx6 (hw _ hx1) (hw _ hx2) ⟨hst0, hev⟩ hat hx4 hU hSe hS (hlh.2.1.trans hml.symm) d0 d3 d4 d6 d9 (fun x hx' => (hno x hx').elim) (show 2 + 3 < rm.frames by omega) (show 0 + (13 * (2 + 1) + 43) ≤ rm.locals by omega) (show 0 + 1 ≤ rm.cells by omega) (show 0 + 6 ≤ rm.slots by omega) hlocks (fun t ht h1 h2 => ?_) hS.2.2 (Nat.le_refl _) (Nat.le_refl _)
    refine ⟨kd, w', rfl, hXw, hN', hP'.kept (fun k q hk => h2 q.1 (vx_lt hP' hk)), ⟨Nat.le_trans hS.1 h1, fun q hq hA => ?_⟩⟩
    rw [h2 q (Nat.lt_of_lt_of_le hq hS.1)]
    exact hS.2.1 q hq hA
  have hl' := lv_entry (as.map (m_v ad)) (n := nL) (by rw [m_sl_len]; exact hlen as w K X hct)
  rw [lg_entry_eq]
  generalize (lg_sl (as.map (m_v ad)) ++ List.replicate (nL - (lg_sl (as.map (m_v ad))).length) Slot.unset).toArray = ls at hl' ⊢
  exact body _ as w K X C hmut hret hthr hct ls s.heap [] (m_lh_entry (hlen as w K X hct) hl') rfl hP va_S.rf
theorem xk_0 : m_XOk R_Le 0 30 34 := ⟨m_ing (by decide +kernel) (by decide +kernel), m_ing (by decide +kernel) (by decide +kernel), by decide +kernel, by decide +kernel, by decide +kernel, by decide +kernel⟩
theorem xk_1 : m_XOk R_Le 1 41 45 := ⟨m_ing (by decide +kernel) (by decide +kernel), m_ing (by decide +kernel) (by decide +kernel), by decide +kernel, by decide +kernel, by decide +kernel, by decide +kernel⟩
theorem xk_2 : m_XOk R_Le 2 143 147 := ⟨m_ing (by decide +kernel) (by decide +kernel), m_ing (by decide +kernel) (by decide +kernel), by decide +kernel, by decide +kernel, by decide +kernel, by decide +kernel⟩
