/-! Calls by contracts over small worlds, out of a walk of the machine itself: what lies outside the callee's world stays. -/
section GO
variable {p : Program} {l : Launch} {e : Env} {R : Room} {s : State} {m : MethodId} {args : Array Value} {below : List Frame} {meth : Method} {c : Code} {H H0 : Heap} {locs : List Loc} {cells slots pc nL : Nat} {ls : Array Slot} {Q : State → Prop} {cc : ByteArray} {own : String} {a0 : Jvm.Cond} {D : va_G} {cI cZ : ClassId} {A0 : Nat → Prop} {ad : Nat → Nat}
/-- what stands behind every call -/
def g_Cx (p : Program) (R : Room) (s : State) (m : MethodId) (args : Array Value) (c : Code) (cc : ByteArray) (own : String) (a0 : Jvm.Cond) (D : va_G) (cI cZ : ClassId) (nL : Nat) : Prop :=
  CallFix p m c cc nL s args (a0 :: gw) own ∧ va_K D m_cl (z_ty cI cZ) s ∧ ∀ x ∈ nw, va_Nw x s
theorem m_goW {pb : Bool} {w : mW} {rest st0 : List Value} {K : Option mV → mW → Prop} {a : Array Value}
    (hDw : va_D A0 (m_ws cI cZ ad w 0)) (hS : va_S A0 H0 H locs) (hA : ∀ q, H0.size ≤ q → A0 q)
    (hrun : va_Run p l e R s m args below meth c H locs cells slots 0 0 (F0 m pc ls st0) rest (m_post D cI cZ ad w.length (m_A pb (m_ws cI cZ ad w 0) H.size) K a) (m_A pb (m_ws cI cZ ad w 0) H.size))
    (kk : ∀ (r : Option mV) (w' : mW) (H1 : Heap) (locs1 : List Loc), w'.length = w.length → K r w' → va_P D m_cl (m_ws cI cZ ad w' 0) H1 → (∀ q : Nat, q < H.size → ¬ m_A pb (m_ws cI cZ ad w 0) H.size q → H1[q]? = H[q]?) → va_S A0 H0 H1 locs1 → W p l e R s m args below meth c H1 locs1 cells slots Q (F0 m (pc + 3) ls ((r.map (m_v ad)).toList ++ rest))) : W p l e R s m args below meth c H locs cells slots Q (F0 m pc ls st0) := by
  have hFc : ∀ q, m_A pb (m_ws cI cZ ad w 0) H.size q → A0 q := by
    intro q hq
    cases pb with
    | true => exact hA q (Nat.le_trans hS.1 hq)
    | false =>
      rcases hq with ⟨k, e', hk'⟩ | hq
      · exact hDw.2 k _ hk'
      · exact hA q (Nat.le_trans hS.1 hq)
  exact m_goes hrun hS (fun q _ h => hFc q h) hFc kk
theorem m_goP {as : List mV} {w : mW} (G : g_Cx p R s m args c cc own a0 D cI cZ nL) (hP : va_P D m_cl (m_ws cI cZ ad w 0) H) (hDw : va_D A0 (m_ws cI cZ ad w 0)) : ∀ U : State, U.heap = H → s.WarmedH U.vm → m_pre nw D cI cZ ad as w H.size (as.map (m_v ad)).toArray U := fun U hU hW =>
  ⟨rfl, by rw [hU], by rw [hU]; exact hP, va_K.moved hW.alike G.2.1, hDw.weaken (fun _ _ _ _ => trivial), fun x hx' => m_isN_warm (nw_ok x hx') hW (G.2.2 x hx')⟩
theorem m_goS {pb : Bool} {y : MethodName} {bytes : ByteArray} {maxL j : Nat} {ret : Option FieldType} {rmY : Room} {ct : mCT} {as : List mV} {w : mW} {rest : List Value} {K : Option mV → mW → Prop} (n : Nat) (G : g_Cx p R s m args c cc own a0 D cI cZ nL)
    (hM : m_Met pb y (.code y bytes maxL ret :: gw) nw rmY ct) (hcode : Jvm.Cond.code y bytes maxL ret ∈ gw) (hlink : Jvm.Cond.methodLink own j y ∈ gw) (hst : Jvm.Cond.static y ∈ gw) (hini : Jvm.Cond.initialized y.cls ∈ gw) (hrc : rmY.cells = 0) (hrs : rmY.slots = 0)
    (hd : y.cls ≠ "java/lang/invoke/MethodHandle" ∧ y.cls ≠ "java/lang/invoke/VarHandle" ∧ (parseMethodDescriptor y.desc).map (fun d => d.parameters.length) = some n) (hR : rmY.frames + 1 ≤ R.frames ∧ 8 + (maxL + 11) + rmY.locals ≤ R.locals) (hn : as.length = n) (hls : ls.size = nL) (hr8 : (rest.map fun v => v.category).sum ≤ 8) (hdg : decode cc pc = .ok (.invokestatic j, 3)) (hf : cells ≤ R.cells ∧ slots ≤ R.slots)
    (hct : ct as w K) (hP : va_P D m_cl (m_ws cI cZ ad w 0) H) (hDw : va_D A0 (m_ws cI cZ ad w 0)) (hS : va_S A0 H0 H locs) (hA : ∀ q, H0.size ≤ q → A0 q)
    (kk : ∀ (r : Option mV) (w' : mW) (H1 : Heap) (locs1 : List Loc), w'.length = w.length → K r w' → va_P D m_cl (m_ws cI cZ ad w' 0) H1 → (∀ q : Nat, q < H.size → ¬ m_A pb (m_ws cI cZ ad w 0) H.size q → H1[q]? = H[q]?) → va_S A0 H0 H1 locs1 → W p l e R s m args below meth c H1 locs1 cells slots Q (F0 m (pc + 3) ls ((r.map (m_v ad)).toList ++ rest))) : W p l e R s m args below meth c H locs cells slots Q (F0 m pc ls ((as.map (m_v ad)).reverse ++ rest)) := by
  have hw : ∀ x ∈ gw, x.before args s = true := fun x h => G.1.2.2.2.2 x (List.mem_cons_of_mem _ h)
  have cw : CallB R s args own j y bytes maxL ret (.code y bytes maxL ret :: gw) rmY 0 0 n := callB_of n G.1.2.2.2.2 (m_good_in gw_ok hcode) rfl hrc hrs (hw _ hini) (hw _ hlink) hd hR
  exact m_goW hDw hS hA (va_runS (As := as.map (m_v ad)) (rest := rest) G.1 (hM l D cI cZ ad as w H.size K hct) ⟨cw, hw _ hst⟩ ⟨m_blind nw_ok, m_goP G hP hDw⟩ rfl (by rw [List.length_map]; exact hn) hls rfl (lv_room hr8) hdg ⟨by omega, by omega⟩) kk
theorem m_goVN {pb : Bool} {y : MethodName} {bytes : ByteArray} {maxL j ci : Nat} {ret : Option FieldType} {rmY : Room} {ct : mCT} {host Cn : String} {Tn : u_T} {Nn a : Nat} {as : List mV} {w : mW} {fs : List mV} {rest : List Value} {K : Option mV → mW → Prop} (n : Nat) (G : g_Cx p R s m args c cc own a0 D cI cZ nL)
    (hM : m_Met pb y (.code y bytes maxL ret :: gw) nw rmY ct) (hcode : Jvm.Cond.code y bytes maxL ret ∈ gw) (hlink : Jvm.Cond.methodLinkNest own j y host ∈ nw) (him : Jvm.Cond.instanceMethod y ∈ gw) (hsel : Jvm.Cond.selects Cn y y ∈ gw) (hini : Jvm.Cond.initialized y.cls ∈ gw) (hrc : rmY.cells = 0) (hrs : rmY.slots = 0)
    (hcl : m_cl[ci]? = some (Cn, Tn, Nn)) (hwa : w[a]? = some (.inr (ci, fs)))
    (hd : y.cls ≠ "java/lang/invoke/MethodHandle" ∧ y.cls ≠ "java/lang/invoke/VarHandle" ∧ (parseMethodDescriptor y.desc).map (fun d => d.parameters.length) = some n) (hR : rmY.frames + 1 ≤ R.frames ∧ 8 + (maxL + 11) + rmY.locals ≤ R.locals) (hn : as.length = n) (hls : ls.size = nL) (hr8 : (rest.map fun v => v.category).sum ≤ 8) (hdg : decode cc pc = .ok (.invokevirtual j, 3)) (hf : cells ≤ R.cells ∧ slots ≤ R.slots)
    (hct : ct (.inr a :: as) w K) (hP : va_P D m_cl (m_ws cI cZ ad w 0) H) (hDw : va_D A0 (m_ws cI cZ ad w 0)) (hS : va_S A0 H0 H locs) (hA : ∀ q, H0.size ≤ q → A0 q)
    (kk : ∀ (r : Option mV) (w' : mW) (H1 : Heap) (locs1 : List Loc), w'.length = w.length → K r w' → va_P D m_cl (m_ws cI cZ ad w' 0) H1 → (∀ q : Nat, q < H.size → ¬ m_A pb (m_ws cI cZ ad w 0) H.size q → H1[q]? = H[q]?) → va_S A0 H0 H1 locs1 → W p l e R s m args below meth c H1 locs1 cells slots Q (F0 m (pc + 3) ls ((r.map (m_v ad)).toList ++ rest))) : W p l e R s m args below meth c H locs cells slots Q (F0 m pc ls ((as.map (m_v ad)).reverse ++ .ref (ad a) :: rest)) := by
  have hw : ∀ x ∈ gw, x.before args s = true := fun x h => G.1.2.2.2.2 x (List.mem_cons_of_mem _ h)
  have cw : va_CN R s args own j y host bytes maxL ret (.code y bytes maxL ret :: gw) rmY 0 0 n := va_cnB n G.1.2.2.2.2 (m_good_in gw_ok hcode) rfl hrc hrs (G.2.2 _ hlink) (hw _ hini) hd hR
  have h1 := m_ws_get (cI := cI) (cZ := cZ) (ad := ad) w 0 a hwa
  rw [Nat.zero_add] at h1
  exact m_goW hDw hS hA (va_runVN (C := Cn) (b := ad a) (As := as.map (m_v ad)) (rest := rest) G.1 (hM l D cI cZ ad (.inr a :: as) w H.size K hct) ⟨cw, hw _ him, hw _ hsel⟩ ⟨m_blind nw_ok, va_recv G.2.1 hP hcl h1, m_goP (as := .inr a :: as) G hP hDw⟩ rfl (by rw [List.length_map]; exact hn) hls rfl (lv_room hr8) hdg ⟨by omega, by omega⟩) kk
theorem m_goV {pb : Bool} {y : MethodName} {bytes : ByteArray} {maxL j ci : Nat} {ret : Option FieldType} {rmY : Room} {ct : mCT} {Cn : String} {Tn : u_T} {Nn a : Nat} {as : List mV} {w : mW} {fs : List mV} {rest : List Value} {K : Option mV → mW → Prop} (n : Nat) (G : g_Cx p R s m args c cc own a0 D cI cZ nL)
    (hM : m_Met pb y (.code y bytes maxL ret :: gw) nw rmY ct) (hcode : Jvm.Cond.code y bytes maxL ret ∈ gw) (hlink : Jvm.Cond.methodLink own j y ∈ gw) (him : Jvm.Cond.instanceMethod y ∈ gw) (hsel : Jvm.Cond.selects Cn y y ∈ gw) (hini : Jvm.Cond.initialized y.cls ∈ gw) (hrc : rmY.cells = 0) (hrs : rmY.slots = 0)
    (hcl : m_cl[ci]? = some (Cn, Tn, Nn)) (hwa : w[a]? = some (.inr (ci, fs)))
    (hd : y.cls ≠ "java/lang/invoke/MethodHandle" ∧ y.cls ≠ "java/lang/invoke/VarHandle" ∧ (parseMethodDescriptor y.desc).map (fun d => d.parameters.length) = some n) (hR : rmY.frames + 1 ≤ R.frames ∧ 8 + (maxL + 11) + rmY.locals ≤ R.locals) (hn : as.length = n) (hls : ls.size = nL) (hr8 : (rest.map fun v => v.category).sum ≤ 8) (hdg : decode cc pc = .ok (.invokevirtual j, 3)) (hf : cells ≤ R.cells ∧ slots ≤ R.slots)
    (hct : ct (.inr a :: as) w K) (hP : va_P D m_cl (m_ws cI cZ ad w 0) H) (hDw : va_D A0 (m_ws cI cZ ad w 0)) (hS : va_S A0 H0 H locs) (hA : ∀ q, H0.size ≤ q → A0 q)
    (kk : ∀ (r : Option mV) (w' : mW) (H1 : Heap) (locs1 : List Loc), w'.length = w.length → K r w' → va_P D m_cl (m_ws cI cZ ad w' 0) H1 → (∀ q : Nat, q < H.size → ¬ m_A pb (m_ws cI cZ ad w 0) H.size q → H1[q]? = H[q]?) → va_S A0 H0 H1 locs1 → W p l e R s m args below meth c H1 locs1 cells slots Q (F0 m (pc + 3) ls ((r.map (m_v ad)).toList ++ rest))) : W p l e R s m args below meth c H locs cells slots Q (F0 m pc ls ((as.map (m_v ad)).reverse ++ .ref (ad a) :: rest)) := by
  have hw : ∀ x ∈ gw, x.before args s = true := fun x h => G.1.2.2.2.2 x (List.mem_cons_of_mem _ h)
  have cw : CallB R s args own j y bytes maxL ret (.code y bytes maxL ret :: gw) rmY 0 0 n := callB_of n G.1.2.2.2.2 (m_good_in gw_ok hcode) rfl hrc hrs (hw _ hini) (hw _ hlink) hd hR
  have h1 := m_ws_get (cI := cI) (cZ := cZ) (ad := ad) w 0 a hwa
  rw [Nat.zero_add] at h1
  exact m_goW hDw hS hA (va_runV (C := Cn) (b := ad a) (As := as.map (m_v ad)) (rest := rest) G.1 (hM l D cI cZ ad (.inr a :: as) w H.size K hct) ⟨cw, hw _ him, hw _ hsel⟩ ⟨m_blind nw_ok, va_recv G.2.1 hP hcl h1, m_goP (as := .inr a :: as) G hP hDw⟩ rfl (by rw [List.length_map]; exact hn) hls rfl (lv_room hr8) hdg ⟨by omega, by omega⟩) kk
end GO
