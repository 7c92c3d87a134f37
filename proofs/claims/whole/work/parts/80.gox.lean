/-! A call, out of a walk of the machine itself, of a method that may throw. -/
theorem m_blindX {D : va_G} {cI cZ : ClassId} {ad : Nat → Nat} {as : List mV} {w : mW} {sz : Nat} : FrameBlind (m_preX D cI cZ ad as w sz) := by
  intro a U g mk q
  obtain ⟨q0, q1, qP, qK, qD, qN, qU, qS⟩ := q
  exact ⟨q0, q1, qP, va_K.moved (u := U) (U := U.calling g mk a) (Vm.Alike.refl U.vm) qK, qD, fun x hx => m_isX_same (u := U) (U := U.calling g mk a) (xw_ok x hx) rfl (qN x hx), vx_Zq.moved (u := U) (U := U.calling g mk a) (Vm.Alike.refl U.vm) qU, vx_Zq.moved (u := U) (U := U.calling g mk a) (Vm.Alike.refl U.vm) qS⟩
section GOX
variable {p : Program} {l : Launch} {e : Env} {R : Room} {s : State} {m : MethodId} {args : Array Value} {below : List Frame} {meth : Method} {c : Code} {H : Heap} {locs : List Loc} {cells slots pc nL : Nat} {ls : Array Slot} {Q : State → Prop} {cc : ByteArray} {own : String} {a0 : Jvm.Cond} {D : va_G} {cI cZ : ClassId} {A0 : Nat → Prop} {ad : Nat → Nat}
/-- what stands behind a call that may throw -/
def g_X (l : Launch) (s : State) (A0 : Nat → Prop) : Prop := l.stackTraces = false ∧ (∀ x ∈ xw, va_Nw x s) ∧ vx_Zq Bundle.tN "UNASSIGNED_STACK" Bundle.steD A0 s s.heap ∧ vx_Zq Bundle.tN "SUPPRESSED_SENTINEL" Bundle.listD A0 s s.heap
theorem m_goVX {y : MethodName} {bytes : ByteArray} {maxL j ci : Nat} {ret : Option FieldType} {rmY : Room} {ct : mCX} {Cn : String} {Tn : u_T} {Nn a : Nat} {as : List mV} {w : mW} {fs : List mV} {rest : List Value} {K : Option mV → mW → Prop} {X : Nat → mW → Prop} (n : Nat) (G : g_Cx p R s m args c cc own a0 D cI cZ nL) (GX : g_X l s A0)
    (hM : m_MetX y (.code y bytes maxL ret :: gw) rmY ct) (hcode : Jvm.Cond.code y bytes maxL ret ∈ gw) (hlink : Jvm.Cond.methodLink own j y ∈ gw) (him : Jvm.Cond.instanceMethod y ∈ gw) (hsel : Jvm.Cond.selects Cn y y ∈ gw) (hini : Jvm.Cond.initialized y.cls ∈ gw) (hrc : rmY.cells = 1) (hrs : rmY.slots = 6)
    (hcl : m_cl[ci]? = some (Cn, Tn, Nn)) (hwa : w[a]? = some (.inr (ci, fs)))
    (hd : y.cls ≠ "java/lang/invoke/MethodHandle" ∧ y.cls ≠ "java/lang/invoke/VarHandle" ∧ (parseMethodDescriptor y.desc).map (fun d => d.parameters.length) = some n) (hR : rmY.frames + 1 ≤ R.frames ∧ 8 + (maxL + 11) + rmY.locals ≤ R.locals) (hn : as.length = n) (hls : ls.size = nL) (hr8 : (rest.map fun v => v.category).sum ≤ 8) (hdg : decode cc pc = .ok (.invokevirtual j, 3)) (hf : cells + 1 ≤ R.cells ∧ slots + 6 ≤ R.slots)
    (hct : ct (.inr a :: as) w K X) (hP : va_P D m_cl (m_ws cI cZ ad w 0) H) (hDw : va_D A0 (m_ws cI cZ ad w 0)) (hS : va_S A0 s.heap H locs) (hA : ∀ q, s.heap.size ≤ q → A0 q)
    (kx : ∀ (kd : Nat) (w' : mW) (ce : Cell) (q9 : Addr) (H1 : Heap) (locs1 : List Loc), w'.length = w.length → X kd w' → va_P D m_cl (m_ws cI cZ ad w' 0) H1 → (∀ q : Nat, q < H.size → ¬ va_A (m_ws cI cZ ad w 0) H.size q → H1[q]? = H[q]?) → va_S A0 s.heap H1 locs1 → H1[q9]? = some ce → ce.vm = .none → s.vm.findClass (exn kd) = some ce.cls → vx_W p l e R s m args below meth c H1 locs1 (cells + 1) (slots + 6) Q (F0 m pc ls rest) q9)
    (kk : ∀ (r : Option mV) (w' : mW) (H1 : Heap) (locs1 : List Loc), w'.length = w.length → K r w' → va_P D m_cl (m_ws cI cZ ad w' 0) H1 → (∀ q : Nat, q < H.size → ¬ va_A (m_ws cI cZ ad w 0) H.size q → H1[q]? = H[q]?) → va_S A0 s.heap H1 locs1 → W p l e R s m args below meth c H1 locs1 (cells + 1) (slots + 6) Q (F0 m (pc + 3) ls ((r.map (m_v ad)).toList ++ rest))) : W p l e R s m args below meth c H locs cells slots Q (F0 m pc ls ((as.map (m_v ad)).reverse ++ .ref (ad a) :: rest)) := by
  obtain ⟨hst, hxw, hU, hSe⟩ := GX
  have hw : ∀ x ∈ gw, x.before args s = true := fun x h => G.1.2.2.2.2 x (List.mem_cons_of_mem _ h)
  have cw : CallB R s args own j y bytes maxL ret (.code y bytes maxL ret :: gw) rmY 1 6 n := callB_of n G.1.2.2.2.2 (m_good_in gw_ok hcode) rfl hrc hrs (hw _ hini) (hw _ hlink) hd hR
  have h1 := m_ws_get (cI := cI) (cZ := cZ) (ad := ad) w 0 a hwa
  rw [Nat.zero_add] at h1
  have hFc : ∀ q, va_A (m_ws cI cZ ad w 0) H.size q → A0 q := by
    intro q hq
    rcases hq with ⟨k, e', hk'⟩ | hq
    · exact hDw.2 k _ hk'
    · exact hA q (Nat.le_trans hS.1 hq)
  have hpre : ∀ U : State, U.heap = H → s.WarmedH U.vm → m_preX D cI cZ ad (.inr a :: as) w H.size ((.inr a :: as).map (m_v ad)).toArray U := fun U hU' hW =>
    ⟨rfl, by rw [hU'], by rw [hU']; exact hP, va_K.moved hW.alike G.2.1, hDw.weaken (fun _ _ _ _ => trivial), fun x hx' => m_isX_warm (xw_ok x hx') hW (hxw x hx'), by rw [hU']; exact vx_Zq.moved hW.alike ((hU.kept hS.2.1).narrow hFc), by rw [hU']; exact vx_Zq.moved hW.alike ((hSe.kept hS.2.1).narrow hFc)⟩
  have hrun := vx_runV (C := Cn) (b := ad a) (As := as.map (m_v ad)) (rest := rest) (cells := cells) (slots := slots) (locs := locs) (e := e) (below := below) (meth := meth) (g := F0 m pc ls ((as.map (m_v ad)).reverse ++ .ref (ad a) :: rest)) G.1 (hM l hst D cI cZ ad (.inr a :: as) w H.size K X hct) ⟨cw, hw _ him, hw _ hsel⟩ ⟨m_blindX, va_recv G.2.1 hP hcl h1, hpre⟩ rfl (by rw [List.length_map]; exact hn) hls rfl (lv_room hr8) hdg hf
  intro T hT X0
  rcases hrun T hT X0 with ⟨v, st₀, t, T', L, h0, X', hL, e1, e2, ⟨⟨r, w', hv, hN, hp, hb⟩, hF⟩, st⟩ | ⟨q, st₀, t, T', L, En, ce, h0, X', hL, e1, e2, ⟨kd, w', rfl, hp, hN, hb, hF⟩, hce, hcv, hcl', st⟩
  · cases hv
    obtain ⟨k1, k2, k3⟩ := vx_keep h0 e1 hS (fun q _ h => hFc q h) hFc hL hF
    rw [← e1] at hb
    obtain ⟨t2, a1, b1⟩ := kk r w' T'.heap (locs ++ L) hN hp hb k2 k3 T' rfl X'
    exact ⟨t2, st t2 a1, b1⟩
  · obtain ⟨k1, k2, k3⟩ := vx_keep h0 e1 hS (fun q _ h => hFc q h) hFc hL hF
    rw [← e1] at hb hce
    obtain ⟨t2, a1, b1⟩ := kx kd w' ce q T'.heap (locs ++ L) hN hp hb k2 k3 hce hcv hcl' T' rfl X'
    exact ⟨t2, st.trans a1, b1⟩
end GOX
