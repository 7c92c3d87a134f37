/-! Contracts over small worlds, and calls by them. -/
theorem m_isN_on {x : Jvm.Cond} (hx : m_isN x = true) : x.onTables = true := by
  cases x <;> first | rfl | exact Bool.noConfusion (show false = true from hx)
theorem m_isN_warm {x : Jvm.Cond} (hx : m_isN x = true) {s U : State} (hW : s.WarmedH U.vm) (h : va_Nw x s) : va_Nw x U := by
  cases x <;> first | exact va_Nw.warmF hW h | exact va_Nw.warmM hW h | exact Bool.noConfusion (show false = true from hx)
def m_pre (NW : List Jvm.Cond) (D : va_G) (cI cZ : ClassId) (ad : Nat → Nat) (as : List mV) (w : mW) (sz : Nat) : Array Value → State → Prop :=
  va_Pc (as.map (m_v ad)) (fun U => U.heap.size = sz ∧ va_P D m_cl (m_ws cI cZ ad w 0) U.heap ∧ va_K D m_cl [(cI, .int), (cZ, .boolean)] U ∧ va_D (fun _ => True) (m_ws cI cZ ad w 0) ∧ ∀ x ∈ NW, va_Nw x U)
def m_post (D : va_G) (cI cZ : ClassId) (ad : Nat → Nat) (N : Nat) (A : Nat → Prop) (K : Option mV → mW → Prop) : Array Value → State → Outcome → State → Prop :=
  fun _ st oc t => (∃ (r : Option mV) (w : mW), oc = .returned (r.map (m_v ad)) ∧ w.length = N ∧ K r w ∧ va_P D m_cl (m_ws cI cZ ad w 0) t.heap) ∧ va_F A st t
/-- what a method may change: its world and what is new; or (pb) only what is new -/
def m_A (pb : Bool) (ws : va_W) (sz : Nat) : Nat → Prop := match pb with
  | true => fun q => sz ≤ q
  | false => va_A ws sz
theorem m_A_new {pb : Bool} {ws : va_W} {sz q : Nat} (h : sz ≤ q) : m_A pb ws sz q := by
  cases pb
  · exact Or.inr h
  · exact h
/-- the method y, from any world of which ct says so, comes back to K -/
def m_Met (pb : Bool) (y : MethodName) (ws NW : List Jvm.Cond) (rm : Room) (ct : mCT) : Prop :=
  ∀ (l : Launch) (D : va_G) (cI cZ : ClassId) (ad : Nat → Nat) (as : List mV) (w : mW) (sz : Nat) (K : Option mV → mW → Prop), ct as w K →
    Met l y ws rm (m_pre NW D cI cZ ad as w sz) (m_post D cI cZ ad w.length (m_A pb (m_ws cI cZ ad w 0) sz) K) 0 0 (m_A pb (m_ws cI cZ ad w 0) sz)
def m_Rt : Option FieldType → (Option mV → mW → Prop) → mO → mW → Prop
  | some .boolean, K, .inl (some (.inl x)), w => (x = 0 ∨ x = 1) ∧ K (some (.inl x)) w
  | some .int, K, .inl (some (.inl x)), w => K (some (.inl x)) w
  | none, K, .inl none, w => K none w
  | _, _, _, _ => False
theorem m_ws_at {cI cZ : ClassId} {ad : Nat → Nat} (w : mW) {k : Nat} (hk : k < w.length) : ∃ e, (m_ws cI cZ ad w 0)[k]? = some (ad k, e) := by
  have h := m_ws_get (cI := cI) (cZ := cZ) (ad := ad) w 0 k (List.getElem?_eq_getElem hk)
  rw [Nat.zero_add] at h
  exact ⟨_, h⟩
theorem m_D_of {cI cZ : ClassId} {ad : Nat → Nat} {B : Nat → Prop} {w w' : mW} (h : va_D B (m_ws cI cZ ad w 0)) (hl : w'.length = w.length) : va_D (fun _ => True) (m_ws cI cZ ad w' 0) := by
  refine ⟨fun i j p q hi hj he => ?_, fun k q hk => trivial⟩
  obtain ⟨a1, a2⟩ := m_ws_addr w' 0 i hi
  obtain ⟨b1, b2⟩ := m_ws_addr w' 0 j hj
  rw [Nat.zero_add] at a2 b2
  obtain ⟨e1, g1⟩ := m_ws_at (cI := cI) (cZ := cZ) (ad := ad) w (show i < w.length by omega)
  obtain ⟨e2, g2⟩ := m_ws_at (cI := cI) (cZ := cZ) (ad := ad) w (show j < w.length by omega)
  exact h.1 i j _ _ g1 g2 (by show ad i = ad j; rw [← a2, ← b2]; exact he)
theorem m_sl_len (ad : Nat → Nat) : ∀ (as : List mV), (lg_sl (as.map (m_v ad))).length = as.length
  | [] => rfl
  | v :: r => by
    have := m_sl_len ad r
    simp only [lg_sl, List.map_cons, List.flatMap_cons, List.length_append, m_v_cat, List.length_cons] at this ⊢
    simp at this ⊢
    omega
theorem m_args_mem (ad : Nat → Nat) : ∀ (as : List mV) (k i : Nat) {v : mV}, as[i]? = some v → (k + i, m_v ad v) ∈ lv_args k (as.map (m_v ad))
  | [], _, _, _, h => by simp at h
  | u :: r, k, 0, v, h => by
    simp only [List.getElem?_cons_zero, Option.some.injEq] at h
    subst h
    simp [lv_args]
  | u :: r, k, i + 1, v, h => by
    simp only [List.getElem?_cons_succ] at h
    have := m_args_mem ad r (k + 1) i h
    simp only [List.map_cons, lv_args, m_v_cat]
    refine List.mem_cons_of_mem _ ?_
    rw [show k + (i + 1) = k + 1 + i by omega]
    simpa using this
theorem m_lh_entry {ad : Nat → Nat} {nL : Nat} {as : List mV} {ls : Array Slot} (hn : as.length ≤ nL) (h : lv_has ls nL (lv_args 0 (as.map (m_v ad)))) : m_lh ad nL (as.map some ++ List.replicate (nL - as.length) none) ls := by
  refine ⟨by simp; omega, h.1, h.2.1, fun q hq => ?_⟩
  unfold m_lv at hq
  obtain ⟨⟨o, j⟩, hm, he⟩ := List.mem_filterMap.mp hq
  rw [List.mem_zipIdx_iff_getElem?] at hm
  cases o with
  | none => simp at he
  | some u =>
    simp only [Option.map_some, Option.some.injEq] at he
    subst he
    simp only at hm
    by_cases hj : j < (as.map some).length
    · rw [List.getElem?_append_left hj, List.getElem?_map] at hm
      cases ha : as[j]? with
      | none => rw [ha] at hm; simp at hm
      | some v =>
        rw [ha] at hm
        simp only [Option.map_some, Option.some.injEq] at hm
        subst hm
        have := m_args_mem ad as 0 j ha
        rw [Nat.zero_add] at this
        exact h.2.2 _ this
    · rw [List.getElem?_append_right (by omega)] at hm
      have := List.eq_of_mem_replicate (List.mem_of_getElem? hm)
      cases this
theorem m_nar {x : Int32} (h : x = 0 ∨ x = 1) : narrow .boolean (.int x) = .int x := by
  rcases h with rfl | rfl <;> decide
set_option maxHeartbeats 4000000 in
/-- A CONTRACT OUT OF A WALK -/
theorem m_Met_of {pb : Bool} {y : MethodName} {cc : ByteArray} {nL : Nat} {ret : Option FieldType} {G NW : List Jvm.Cond} {rm : Room} {ct : mCT} (hy : plainName y.cls = true) (hlen : ∀ as w K, ct as w K → as.length ≤ nL)
    (body : ∀ (E : mE) (as : List mV) (w : mW) (K : Option mV → mW → Prop), m_Cx E cc y.cls (.code y cc nL ret :: G) NW rm → (pb = false → m_Mut E) → m_RetOk E cc (m_Rt ret K) → ct as w K → m_W E 0 (as.map some ++ List.replicate (nL - as.length) none) [] w) :
    m_Met pb y (.code y cc nL ret :: G) NW rm ct := by
  intro l D cI cZ ad as w sz K hct
  refine Met.ofW (cc := cc) (maxL := nL) (ret := ret) hy rfl ?_
  intro p e s m args below meth c s₁ B hml hv
  obtain ⟨rfl, hsz, hP, hK, hD0, hN⟩ := hv
  subst hsz
  have hx := B.exec
  have hb := B.bytes
  have hr := B.returns
  have hlocks := B.notSynchronized
  have hts := atoms_spec (ws := .code y cc nL ret :: G) B.pre
  have hown : s.vm.findClass y.cls = some m.cls := findClass_of_methodNamed B.named
  have C : m_Cx (p, l, e, (headSpec (.code y cc nL ret :: G) rm).room, s, m, (as.map (m_v ad)).toArray, below, meth, c, 0, 0, MQ below (m_post D cI cZ ad w.length (m_A pb (m_ws cI cZ ad w 0) s.heap.size) K) (as.map (m_v ad)).toArray s 0 0 (m_A pb (m_ws cI cZ ad w 0) s.heap.size), D, m_A pb (m_ws cI cZ ad w 0) s.heap.size, cI, cZ, ad, nL, w.length) cc y.cls (.code y cc nL ret :: G) NW rm :=
    ⟨hx, hb, hml, hown, hK, fun w' hw' => m_D_of hD0 hw', fun q hq => m_A_new hq, hts, hN, rfl, Nat.zero_le _, Nat.zero_le _⟩
  have hret : m_RetOk (p, l, e, (headSpec (.code y cc nL ret :: G) rm).room, s, m, (as.map (m_v ad)).toArray, below, meth, c, 0, 0, MQ below (m_post D cI cZ ad w.length (m_A pb (m_ws cI cZ ad w 0) s.heap.size) K) (as.map (m_v ad)).toArray s 0 0 (m_A pb (m_ws cI cZ ad w 0) s.heap.size), D, m_A pb (m_ws cI cZ ad w 0) s.heap.size, cI, cZ, ad, nL, w.length) cc (m_Rt ret K) := by
    refine ⟨fun pc lo x w' hd hR => ?_, fun pc lo w' hd hR => ?_⟩
    · intro ls H locs hlh hN' hP' hS
      cases ret with
      | none => exact False.elim hR
      | some ty =>
        cases ty <;> first | exact False.elim hR | skip
        · exact W.iret hx hb hr (fun t ht hW => ⟨⟨some (.inl x), w', rfl, hN', hR, by rw [ht]; exact hP'⟩, hS.F ht⟩) hS.2.2 hd
        · exact W.zret hx hb hr (m_nar hR.1) (fun t ht hW => ⟨⟨some (.inl x), w', rfl, hN', hR.2, by rw [ht]; exact hP'⟩, hS.F ht⟩) hS.2.2 hd
    · intro ls H locs hlh hN' hP' hS
      cases ret with
      | none => exact W.vret hx hb hr (fun t ht hW => ⟨⟨none, w', rfl, hN', hR, by rw [ht]; exact hP'⟩, hS.F ht⟩) hS.2.2 hd
      | some ty => cases ty <;> exact False.elim hR
  have hl := lv_entry (as.map (m_v ad)) (n := nL) (by rw [m_sl_len]; exact hlen as w K hct)
  rw [lg_entry_eq]
  generalize (lg_sl (as.map (m_v ad)) ++ List.replicate (nL - (lg_sl (as.map (m_v ad))).length) Slot.unset).toArray = ls at hl ⊢
  have hmut : pb = false → ∀ k, k < w.length → m_A pb (m_ws cI cZ ad w 0) s.heap.size (ad k) := by
    intro hpb k hk
    subst hpb
    obtain ⟨e1, g1⟩ := m_ws_at (cI := cI) (cZ := cZ) (ad := ad) w hk
    exact Or.inl ⟨k, e1, g1⟩
  exact body _ as w K C hmut hret hct ls s.heap [] (m_lh_entry (hlen as w K hct) hl) rfl hP va_S.rf
section MG
variable {p : Program} {l : Launch} {e : Env} {R : Room} {s : State} {m : MethodId} {args : Array Value} {below : List Frame} {meth : Method} {c : Code} {H : Heap} {locs : List Loc} {cells slots : Nat} {Q : State → Prop}
theorem m_goes {pc : Nat} {ls : Array Slot} {st0 rest : List Value} {a : Array Value} {D : va_G} {cI cZ : ClassId} {ad : Nat → Nat} {N : Nat} {A0 A1 : Nat → Prop} {free : Addr → Prop} {H0 : Heap} {K : Option mV → mW → Prop} {mc ms : Nat}
    (hr : va_Run p l e R s m args below meth c H locs cells slots mc ms (F0 m pc ls st0) rest (m_post D cI cZ ad N A1 K a) free) (hS : va_S A0 H0 H locs) (hA : ∀ q, q < H.size → A1 q → A0 q) (hf : ∀ q, free q → A0 q)
    (kk : ∀ (r : Option mV) (w : mW) (H1 : Heap) (locs1 : List Loc), w.length = N → K r w → va_P D m_cl (m_ws cI cZ ad w 0) H1 → (∀ q : Nat, q < H.size → ¬ A1 q → H1[q]? = H[q]?) → va_S A0 H0 H1 locs1 → W p l e R s m args below meth c H1 locs1 (cells + mc) (slots + ms) Q (F0 m (pc + 3) ls ((r.map (m_v ad)).toList ++ rest))) : W p l e R s m args below meth c H locs cells slots Q (F0 m pc ls st0) := by
  intro T hT X
  obtain ⟨v, st₀, t, T', L, h0, X', hL, e1, e2, ⟨⟨r, w, hv, hN, hp, hb⟩, hz, hk⟩, st⟩ := hr T hT X
  cases hv
  rw [h0] at hz hk
  rw [← e1] at hb
  obtain ⟨t2, a1, b1⟩ := kk r w T'.heap (locs ++ L) hN hp hb (fun q h1 h2 => by rw [e1]; exact hk q h1 h2)
    ⟨Nat.le_trans hS.1 (by rw [e1]; exact hz), fun q h1 h2 => by rw [e1, hk q (Nat.lt_of_lt_of_le h1 hS.1) (fun z => h2 (hA q (Nat.lt_of_lt_of_le h1 hS.1) z))]; exact hS.2.1 q h1 h2, fun q hq => by
      rcases List.mem_append.mp hq with h | h
      · exact hS.2.2 q h
      · exact hf _ (hL q h)⟩ T' rfl X'
  exact ⟨t2, st t2 a1, b1⟩
end MG
theorem m_blind {NW : List Jvm.Cond} (hNW : ∀ x ∈ NW, m_isN x = true) {D : va_G} {cI cZ : ClassId} {ad : Nat → Nat} {as : List mV} {w : mW} {sz : Nat} : FrameBlind (m_pre NW D cI cZ ad as w sz) := by
  intro a U g mk q
  obtain ⟨q0, q1, qP, qK, qD, qN⟩ := q
  exact ⟨q0, q1, qP, va_K.moved (u := U) (U := U.calling g mk a) (Vm.Alike.refl U.vm) qK, qD, fun x hx => va_Nw.same (u := U) (U := U.calling g mk a) (m_isN_on (hNW x hx)) rfl (qN x hx)⟩
theorem m_good_in {G : List Jvm.Cond} (hG : ∀ x ∈ G, m_good x = true) {a b : Jvm.Cond} (hb : b ∈ G) : GoodIn (a :: G) (b :: G) := by
  have key : ∀ x ∈ G, (x.onTables && x.keeps) = true ∨ ∃ ty, x = .arrayClass ty := by
    intro x hx
    have h := hG x hx
    unfold m_good at h
    split at h
    · exact Or.inr ⟨_, rfl⟩
    · exact Or.inl h
  intro x hx
  rcases List.mem_cons.mp hx with rfl | hx
  · exact ⟨List.mem_cons_of_mem _ hb, key _ hb⟩
  · exact ⟨List.mem_cons_of_mem _ hx, key _ hx⟩
section MCA
variable {E : mE} {cc : ByteArray} {own : String} {a0 : Jvm.Cond} {G NW : List Jvm.Cond} {rm : Room}
theorem m_cat_sum (ad : Nat → Nat) : ∀ (st : List mV), ((st.map (m_v ad)).map fun v => v.category).sum = st.length
  | [] => rfl
  | v :: r => by
    have := m_cat_sum ad r
    simp only [List.map_cons, List.sum_cons, List.length_cons, m_v_cat, this]
    omega
theorem m_calW {pb : Bool} {y : MethodName} {bytes : ByteArray} {maxL n : Nat} {ret : Option FieldType} {rmY : Room} {ct : mCT} (C : m_Cx E cc own (a0 :: G) NW rm) (hNW : ∀ x ∈ NW, m_isN x = true) {z j : Nat}
    (hmut : pb = false → m_Mut E) (hM : m_Met pb y (.code y bytes maxL ret :: G) NW rmY ct)
    (run : ∀ (p : Program) (l : Launch) (e : Env) (R : Room) (s : State) (m : MethodId) (args : Array Value) (below : List Frame) (meth : Method) (c : Code) (cells slots : Nat) (Q : State → Prop) (D : va_G) (A : Nat → Prop) (cI cZ : ClassId) (ad : Nat → Nat) (nL N : Nat), E = (p, l, e, R, s, m, args, below, meth, c, cells, slots, Q, D, A, cI, cZ, ad, nL, N) →
      ∀ (pc : Nat) (ls : Array Slot) (H : Heap) (locs : List Loc) (as st : List mV) (w : mW) (K : Option mV → mW → Prop), decode cc pc = .ok (m_inv z j, 3) → as.length = n → ct as w K → ls.size = nL → st.length ≤ 8 → va_P D m_cl (m_ws cI cZ ad w 0) H →
        Met l y (.code y bytes maxL ret :: G) rmY (m_pre NW D cI cZ ad as w H.size) (m_post D cI cZ ad w.length (m_A pb (m_ws cI cZ ad w 0) H.size) K) 0 0 (m_A pb (m_ws cI cZ ad w 0) H.size) →
        FrameBlind (m_pre NW D cI cZ ad as w H.size) → (∀ U : State, U.heap = H → s.WarmedH U.vm → m_pre NW D cI cZ ad as w H.size (as.map (m_v ad)).toArray U) →
        va_Run p l e R s m args below meth c H locs cells slots 0 0 (F0 m pc ls ((as.reverse ++ st).map (m_v ad))) (st.map (m_v ad)) (m_post D cI cZ ad w.length (m_A pb (m_ws cI cZ ad w 0) H.size) K (as.map (m_v ad)).toArray) (m_A pb (m_ws cI cZ ad w 0) H.size)) :
    m_CalOk E cc z j n ct := by
  obtain ⟨p, l, e, R, s, m, args, below, meth, c, cells, slots, Q, D, A, cI, cZ, ad, nL, N⟩ := E
  obtain ⟨hx, hb, hml, hown, hK, hD, hA, hts, hnw, hR, hc0, hs0⟩ := C
  intro pc lo as st w K hd hn h8 hct hk ls H locs hlh hN hP hS
  have hDw := hD w hN
  have hpre : ∀ U : State, U.heap = H → s.WarmedH U.vm → m_pre NW D cI cZ ad as w H.size (as.map (m_v ad)).toArray U := fun U hU hW =>
    ⟨rfl, by rw [hU], by rw [hU]; exact hP, va_K.moved hW.alike hK, hDw.weaken (fun _ _ _ _ => trivial), fun x hx' => m_isN_warm (hNW x hx') hW (hnw x hx')⟩
  have hrun := run p l e R s m args below meth c cells slots Q D A cI cZ ad nL N rfl pc ls H locs as st w K hd hn hct hlh.2.1 h8 hP (hM l D cI cZ ad as w H.size K hct) (m_blind hNW) hpre
  have hFc : ∀ q, m_A pb (m_ws cI cZ ad w 0) H.size q → A q := by
    intro q hq
    cases pb with
    | true => exact hA q (Nat.le_trans hS.1 hq)
    | false =>
      rcases hq with ⟨k, e', hk'⟩ | hq
      · exact (m_DA hDw hN (hmut rfl)).2 k _ hk'
      · exact hA q (Nat.le_trans hS.1 hq)
  refine m_goes hrun hS (fun q _ h => hFc q h) hFc (fun r w' H1 locs1 hN1 hK1 hP1 _ hS1 => ?_)
  have := hk r w' hK1 ls H1 locs1 hlh (by rw [hN1]; exact hN) hP1 hS1
  have e2 : (r.toList ++ st).map (m_v ad) = (r.map (m_v ad)).toList ++ st.map (m_v ad) := by
    cases r <;> simp
  rw [e2] at this
  exact this
theorem m_room {m : MethodId} {pc : Nat} {ls : Array Slot} {st0 : List Value} {ad : Nat → Nat} {st : List mV} (h : st.length ≤ 8) : 2 * (F0 m pc ls st0).monitorRoom + ((st.map (m_v ad)).map fun v => v.category).sum ≤ 8 := lv_room (by rw [m_cat_sum]; exact h)
/-- a call of a static method of the same class -/
theorem m_calS {pb : Bool} {y : MethodName} {bytes : ByteArray} {maxL n j : Nat} {ret : Option FieldType} {rmY : Room} {ct : mCT} (C : m_Cx E cc own (a0 :: G) NW rm) (hNW : ∀ x ∈ NW, m_isN x = true) (hG : ∀ x ∈ G, m_good x = true)
    (hmut : pb = false → m_Mut E) (hM : m_Met pb y (.code y bytes maxL ret :: G) NW rmY ct) (hcode : Jvm.Cond.code y bytes maxL ret ∈ G) (hlink : Jvm.Cond.methodLink own j y ∈ G) (hst : Jvm.Cond.static y ∈ G) (hini : Jvm.Cond.initialized y.cls ∈ G) (hrc : rmY.cells = 0) (hrs : rmY.slots = 0)
    (hd : y.cls ≠ "java/lang/invoke/MethodHandle" ∧ y.cls ≠ "java/lang/invoke/VarHandle" ∧ (parseMethodDescriptor y.desc).map (fun d => d.parameters.length) = some n) (hR : rmY.frames + 1 ≤ rm.frames ∧ 8 + (maxL + 11) + rmY.locals ≤ rm.locals) : m_CalOk E cc 1 j n ct := by
  have C0 := C
  refine m_calW C hNW hmut hM ?_
  intro p l e R s m args below meth c cells slots Q D A cI cZ ad nL N hE pc ls H locs as st w K hdc hn hct hls h8 hP hMet hbl hpre
  subst hE
  obtain ⟨hx, hb, hml, hown, hK, hD, hA, hts, hnw, hRm, hc0, hs0⟩ := C0
  subst hRm
  have hw : ∀ x ∈ G, x.before args s = true := fun x h => hts x (List.mem_cons_of_mem _ h)
  have cw : CallB R s args own j y bytes maxL ret (.code y bytes maxL ret :: G) rmY 0 0 n := callB_of n hts (m_good_in hG hcode) rfl hrc hrs (hw _ hini) (hw _ hlink) hd hR
  exact va_runS (As := as.map (m_v ad)) (rest := st.map (m_v ad)) ⟨hx, hb, hml, hown, hts⟩ hMet ⟨cw, hw _ hst⟩ ⟨hbl, hpre⟩ rfl (by rw [List.length_map]; exact hn) hls (by show ((as.reverse ++ st).map (m_v ad)) = _; rw [List.map_append, List.map_reverse]) (m_room h8) hdc ⟨by omega, by omega⟩
/-- a call of a private method of a nest mate (or of its own class under a nest word) -/
theorem m_calVN {pb : Bool} {y : MethodName} {bytes : ByteArray} {maxL n j ci : Nat} {ret : Option FieldType} {rmY : Room} {ct : mCT} {host Cn : String} {Tn : u_T} {Nn : Nat} (C : m_Cx E cc own (a0 :: G) NW rm) (hNW : ∀ x ∈ NW, m_isN x = true) (hG : ∀ x ∈ G, m_good x = true)
    (hmut : pb = false → m_Mut E) (hM : m_Met pb y (.code y bytes maxL ret :: G) NW rmY ct) (hcode : Jvm.Cond.code y bytes maxL ret ∈ G) (hlink : Jvm.Cond.methodLinkNest own j y host ∈ NW) (him : Jvm.Cond.instanceMethod y ∈ G) (hsel : Jvm.Cond.selects Cn y y ∈ G) (hini : Jvm.Cond.initialized y.cls ∈ G) (hrc : rmY.cells = 0) (hrs : rmY.slots = 0)
    (hcl : m_cl[ci]? = some (Cn, Tn, Nn)) (hct : ∀ as w K, ct as w K → ∃ a r fs, as = .inr a :: r ∧ w[a]? = some (.inr (ci, fs)))
    (hd : y.cls ≠ "java/lang/invoke/MethodHandle" ∧ y.cls ≠ "java/lang/invoke/VarHandle" ∧ (parseMethodDescriptor y.desc).map (fun d => d.parameters.length) = some n) (hR : rmY.frames + 1 ≤ rm.frames ∧ 8 + (maxL + 11) + rmY.locals ≤ rm.locals) : m_CalOk E cc 0 j (n + 1) ct := by
  have C0 := C
  refine m_calW C hNW hmut hM ?_
  intro p l e R s m args below meth c cells slots Q D A cI cZ ad nL N hE pc ls H locs as st w K hdc hn hct' hls h8 hP hMet hbl hpre
  subst hE
  obtain ⟨hx, hb, hml, hown, hK, hD, hA, hts, hnw, hRm, hc0, hs0⟩ := C0
  subst hRm
  have hw : ∀ x ∈ G, x.before args s = true := fun x h => hts x (List.mem_cons_of_mem _ h)
  obtain ⟨a, r, fs, rfl, hwa⟩ := hct as w K hct'
  have cw : va_CN R s args own j y host bytes maxL ret (.code y bytes maxL ret :: G) rmY 0 0 n := va_cnB n hts (m_good_in hG hcode) rfl hrc hrs (hnw _ hlink) (hw _ hini) hd hR
  have h1 := m_ws_get (cI := cI) (cZ := cZ) (ad := ad) w 0 a hwa
  rw [Nat.zero_add] at h1
  refine va_runVN (C := Cn) (b := ad a) (As := r.map (m_v ad)) (rest := st.map (m_v ad)) ⟨hx, hb, hml, hown, hts⟩ hMet ⟨cw, hw _ him, hw _ hsel⟩ ⟨hbl, va_recv hK hP hcl h1, hpre⟩ rfl (by rw [List.length_map]; simpa using hn) hls ?_ (m_room h8) hdc ⟨by omega, by omega⟩
  show ((List.reverse (.inr a :: r) ++ st).map (m_v ad)) = _
  simp [m_v]
/-- a call of a method of its own class, or a public one, by its plain word -/
theorem m_calV {pb : Bool} {y : MethodName} {bytes : ByteArray} {maxL n j ci : Nat} {ret : Option FieldType} {rmY : Room} {ct : mCT} {Cn : String} {Tn : u_T} {Nn : Nat} (C : m_Cx E cc own (a0 :: G) NW rm) (hNW : ∀ x ∈ NW, m_isN x = true) (hG : ∀ x ∈ G, m_good x = true)
    (hmut : pb = false → m_Mut E) (hM : m_Met pb y (.code y bytes maxL ret :: G) NW rmY ct) (hcode : Jvm.Cond.code y bytes maxL ret ∈ G) (hlink : Jvm.Cond.methodLink own j y ∈ G) (him : Jvm.Cond.instanceMethod y ∈ G) (hsel : Jvm.Cond.selects Cn y y ∈ G) (hini : Jvm.Cond.initialized y.cls ∈ G) (hrc : rmY.cells = 0) (hrs : rmY.slots = 0)
    (hcl : m_cl[ci]? = some (Cn, Tn, Nn)) (hct : ∀ as w K, ct as w K → ∃ a r fs, as = .inr a :: r ∧ w[a]? = some (.inr (ci, fs)))
    (hd : y.cls ≠ "java/lang/invoke/MethodHandle" ∧ y.cls ≠ "java/lang/invoke/VarHandle" ∧ (parseMethodDescriptor y.desc).map (fun d => d.parameters.length) = some n) (hR : rmY.frames + 1 ≤ rm.frames ∧ 8 + (maxL + 11) + rmY.locals ≤ rm.locals) : m_CalOk E cc 0 j (n + 1) ct := by
  have C0 := C
  refine m_calW C hNW hmut hM ?_
  intro p l e R s m args below meth c cells slots Q D A cI cZ ad nL N hE pc ls H locs as st w K hdc hn hct' hls h8 hP hMet hbl hpre
  subst hE
  obtain ⟨hx, hb, hml, hown, hK, hD, hA, hts, hnw, hRm, hc0, hs0⟩ := C0
  subst hRm
  have hw : ∀ x ∈ G, x.before args s = true := fun x h => hts x (List.mem_cons_of_mem _ h)
  obtain ⟨a, r, fs, rfl, hwa⟩ := hct as w K hct'
  have cw : CallB R s args own j y bytes maxL ret (.code y bytes maxL ret :: G) rmY 0 0 n := callB_of n hts (m_good_in hG hcode) rfl hrc hrs (hw _ hini) (hw _ hlink) hd hR
  have h1 := m_ws_get (cI := cI) (cZ := cZ) (ad := ad) w 0 a hwa
  rw [Nat.zero_add] at h1
  refine va_runV (C := Cn) (b := ad a) (As := r.map (m_v ad)) (rest := st.map (m_v ad)) ⟨hx, hb, hml, hown, hts⟩ hMet ⟨cw, hw _ him, hw _ hsel⟩ ⟨hbl, va_recv hK hP hcl h1, hpre⟩ rfl (by rw [List.length_map]; simpa using hn) hls ?_ (m_room h8) hdc ⟨by omega, by omega⟩
  show ((List.reverse (.inr a :: r) ++ st).map (m_v ad)) = _
  simp [m_v]
-- fields
theorem m_getP {j ci q : Nat} {Cn ref : String} {Tn : u_T} {Nn : Nat} (C : m_Cx E cc own (a0 :: G) NW rm) (hcl : m_cl[ci]? = some (Cn, Tn, Nn)) (hin : ∀ w ∈ u_ws Cn Tn Nn, w ∈ G) (hq : q < Nn) (href : (Tn q).1 = ref) (hlink : Jvm.Cond.fieldLink own j ref (Tn q).2.1 (Tn q).2.2.1 ∈ G) : m_GetOk E cc j ci q := by
  obtain ⟨p, l, e, R, s, m, args, below, meth, c, cells, slots, Q, D, A, cI, cZ, ad, nL, N⟩ := E
  obtain ⟨hx, hb, hml, hown, hK, hD, hA, hts, hnw, hRm, hc0, hs0⟩ := C
  subst href
  intro pc ls H locs rest ws q0 a fs v hd hP he hv kk
  exact va_get (D := D) (ci := ci) (C := Cn) (T := Tn) (N := Nn) hx hb hts (fun w h => List.mem_cons_of_mem _ (hin w h)) hown hK hP q0 he hcl q hq (hts _ (List.mem_cons_of_mem _ hlink)) (fun _ h9 => h9) hv hd kk
theorem m_getN {j ci q : Nat} {Cn ref host : String} {Tn : u_T} {Nn : Nat} (C : m_Cx E cc own (a0 :: G) NW rm) (hNW : ∀ x ∈ NW, m_isN x = true) (hcl : m_cl[ci]? = some (Cn, Tn, Nn)) (hin : ∀ w ∈ u_ws Cn Tn Nn, w ∈ G) (hq : q < Nn) (href : (Tn q).1 = ref) (hlink : Jvm.Cond.fieldLinkNest own j ref (Tn q).2.1 (Tn q).2.2.1 host ∈ NW) : m_GetOk E cc j ci q := by
  obtain ⟨p, l, e, R, s, m, args, below, meth, c, cells, slots, Q, D, A, cI, cZ, ad, nL, N⟩ := E
  obtain ⟨hx, hb, hml, hown, hK, hD, hA, hts, hnw, hRm, hc0, hs0⟩ := C
  subst href
  intro pc ls H locs rest ws q0 a fs v hd hP he hv kk
  exact va_getN (D := D) (ci := ci) (C := Cn) (T := Tn) (N := Nn) hx hb hts (fun w h => List.mem_cons_of_mem _ (hin w h)) hown hK hP q0 he hcl q hq (va_Nw.use (m_isN_on (hNW _ hlink)) (hnw _ hlink)) (fun _ h9 => h9) hv hd kk
theorem m_putP {j ci q : Nat} {Cn ref : String} {Tn : u_T} {Nn : Nat} {ty0 : Nat → FieldType} (C : m_Cx E cc own (a0 :: G) NW rm) (hcl : m_cl[ci]? = some (Cn, Tn, Nn)) (hin : ∀ w ∈ u_ws Cn Tn Nn, w ∈ G) (hty : ∀ k, k < Nn → parseFieldDescriptor (Tn k).2.2.1 = some (ty0 k)) (hnm : ∀ a, a < Nn → ∀ b, b < Nn → a ≠ b → (Tn a).2.1 ≠ (Tn b).2.1) (hq : q < Nn) (href : (Tn q).1 = ref) (hfin : (Tn q).2.2.2 = false) (hint : ty0 q = .int) (hlink : Jvm.Cond.fieldLink own j ref (Tn q).2.1 (Tn q).2.2.1 ∈ G) : m_PutOk E cc j ci q := by
  obtain ⟨p, l, e, R, s, m, args, below, meth, c, cells, slots, Q, D, A, cI, cZ, ad, nL, N⟩ := E
  obtain ⟨hx, hb, hml, hown, hK, hD, hA, hts, hnw, hRm, hc0, hs0⟩ := C
  subst href
  intro pc ls H locs rest ws q0 a fs x hd hP hD' hS he hl kk
  exact va_put (D := D) (ci := ci) (C := Cn) (T := Tn) (N := Nn) (ty := .int) hx hb hts (fun w h => List.mem_cons_of_mem _ (hin w h)) ty0 hty hnm hown hK hP hD' hS q0 he hcl q hq (hts _ (List.mem_cons_of_mem _ hlink)) (fun _ h9 => h9) hfin (by rw [hty q hq, hint]) rfl rfl hl hd (fun H1 locs1 hP1 _ hS1 => kk H1 locs1 hP1 hS1)
theorem m_putN {j ci q : Nat} {Cn ref host : String} {Tn : u_T} {Nn : Nat} {ty0 : Nat → FieldType} (C : m_Cx E cc own (a0 :: G) NW rm) (hNW : ∀ x ∈ NW, m_isN x = true) (hcl : m_cl[ci]? = some (Cn, Tn, Nn)) (hin : ∀ w ∈ u_ws Cn Tn Nn, w ∈ G) (hty : ∀ k, k < Nn → parseFieldDescriptor (Tn k).2.2.1 = some (ty0 k)) (hnm : ∀ a, a < Nn → ∀ b, b < Nn → a ≠ b → (Tn a).2.1 ≠ (Tn b).2.1) (hq : q < Nn) (href : (Tn q).1 = ref) (hfin : (Tn q).2.2.2 = false) (hint : ty0 q = .int) (hlink : Jvm.Cond.fieldLinkNest own j ref (Tn q).2.1 (Tn q).2.2.1 host ∈ NW) : m_PutOk E cc j ci q := by
  obtain ⟨p, l, e, R, s, m, args, below, meth, c, cells, slots, Q, D, A, cI, cZ, ad, nL, N⟩ := E
  obtain ⟨hx, hb, hml, hown, hK, hD, hA, hts, hnw, hRm, hc0, hs0⟩ := C
  subst href
  intro pc ls H locs rest ws q0 a fs x hd hP hD' hS he hl kk
  exact va_putN (D := D) (ci := ci) (C := Cn) (T := Tn) (N := Nn) (ty := .int) hx hb hts (fun w h => List.mem_cons_of_mem _ (hin w h)) ty0 hty hnm hown hK hP hD' hS q0 he hcl q hq (va_Nw.use (m_isN_on (hNW _ hlink)) (hnw _ hlink)) (fun _ h9 => h9) hfin (by rw [hty q hq, hint]) rfl rfl hl hd (fun H1 locs1 hP1 _ hS1 => kk H1 locs1 hP1 hS1)
end MCA
