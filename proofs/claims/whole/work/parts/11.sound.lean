/-! The small machine's steps are the machine's. -/
abbrev mE : Type := Program × Launch × Env × Room × State × MethodId × Array Value × List Frame × Method × Code × Nat × Nat × (State → Prop) × va_G × (Nat → Prop) × ClassId × ClassId × (Nat → Nat) × Nat × Nat
/-- at pc, with these locals, this stack, this world: the machine comes to an end as E wants it -/
def m_W : mE → Nat → mL → List mV → mW → Prop
  | (p, l, e, R, s, m, args, below, meth, c, cells, slots, Q, D, A, cI, cZ, ad, nL, N), pc, lo, st, w =>
    ∀ (ls : Array Slot) (H : Heap) (locs : List Loc), m_lh ad nL lo ls → w.length = N → va_P D m_cl (m_ws cI cZ ad w 0) H → va_S A s.heap H locs → W p l e R s m args below meth c H locs cells slots Q (F0 m pc ls (st.map (m_v ad)))
/-- what a walk stands on -/
def m_Cx : mE → ByteArray → String → List Jvm.Cond → List Jvm.Cond → Room → Prop
  | (p, _, _, R, s, m, args, _, _, c, cells, slots, _, D, A, cI, cZ, ad, nL, N), cc, own, Ts, NW, rm =>
    p.tables.exec = Jvm.exec ∧ c.code = cc ∧ c.maxLocals = nL ∧ s.vm.findClass own = some m.cls ∧ va_K D m_cl [(cI, .int), (cZ, .boolean)] s ∧ (∀ w : mW, w.length = N → va_D (fun _ => True) (m_ws cI cZ ad w 0)) ∧ (∀ q, s.heap.size ≤ q → A q) ∧ (∀ x ∈ Ts, x.before args s = true) ∧ (∀ x ∈ NW, va_Nw x s) ∧ R = rm ∧ cells ≤ R.cells ∧ slots ≤ R.slots
theorem m_ws_addr {cI cZ : ClassId} {ad : Nat → Nat} : ∀ (w : mW) (i0 k : Nat) {q : Nat × va_E}, (m_ws cI cZ ad w i0)[k]? = some q → k < w.length ∧ q.1 = ad (i0 + k)
  | [], _, _, _, h => by simp [m_ws] at h
  | c :: r, i0, 0, q, h => by
    simp only [m_ws, List.getElem?_cons_zero, Option.some.injEq] at h
    subst h
    exact ⟨by simp, rfl⟩
  | c :: r, i0, k + 1, q, h => by
    simp only [m_ws, List.getElem?_cons_succ] at h
    obtain ⟨h1, h2⟩ := m_ws_addr r (i0 + 1) k h
    exact ⟨by simpa using h1, by rw [h2, Nat.add_right_comm i0 1 k]; rfl⟩
/-- the world's cells may be changed -/
def m_Mut : mE → Prop
  | (_, _, _, _, _, _, _, _, _, _, _, _, _, _, A, _, _, ad, _, N) => ∀ k, k < N → A (ad k)
theorem m_DA {A : Nat → Prop} {cI cZ : ClassId} {ad : Nat → Nat} {N : Nat} {w : mW} (h : va_D (fun _ => True) (m_ws cI cZ ad w 0)) (hl : w.length = N) (hm : ∀ k, k < N → A (ad k)) : va_D A (m_ws cI cZ ad w 0) :=
  h.weaken (fun k q hk _ => by
    obtain ⟨a, b⟩ := m_ws_addr w 0 k hk
    rw [b, Nat.zero_add]
    exact hm k (by omega))
def m_GetOk : mE → ByteArray → Nat → Nat → Nat → Prop
  | (p, l, e, R, s, m, args, below, meth, c, cells, slots, Q, D, _, _, _, _, _, _), cc, idx, ci, q =>
    ∀ (pc : Nat) (ls : Array Slot) (H : Heap) (locs : List Loc) (rest : List Value) (ws : va_W) (q0 a : Nat) (fs : List Value) (v : Value), decode cc pc = .ok (.getfield idx, 3) → va_P D m_cl ws H → ws[q0]? = some (a, .inr (ci, fs)) → fs[q]? = some v →
      W p l e R s m args below meth c H locs cells slots Q (F0 m (pc + 3) ls (v :: rest)) → W p l e R s m args below meth c H locs cells slots Q (F0 m pc ls (.ref a :: rest))
def m_PutOk : mE → ByteArray → Nat → Nat → Nat → Prop
  | (p, l, e, R, s, m, args, below, meth, c, cells, slots, Q, D, A, _, _, _, _, _), cc, idx, ci, q =>
    ∀ (pc : Nat) (ls : Array Slot) (H : Heap) (locs : List Loc) (rest : List Value) (ws : va_W) (q0 a : Nat) (fs : List Value) (x : Int32), decode cc pc = .ok (.putfield idx, 3) → va_P D m_cl ws H → va_D A ws → va_S A s.heap H locs → ws[q0]? = some (a, .inr (ci, fs)) → q < fs.length →
      (∀ (H1 : Heap) (locs1 : List Loc), va_P D m_cl (ws.set q0 (a, .inr (ci, fs.set q (.int x)))) H1 → va_S A s.heap H1 locs1 → W p l e R s m args below meth c H1 locs1 cells slots Q (F0 m (pc + 3) ls rest)) → W p l e R s m args below meth c H locs cells slots Q (F0 m pc ls (.int x :: .ref a :: rest))
def m_CstOk : mE → Nat → Int32 → String → Prop
  | (_, _, _, _, s, _, args, _, _, _, _, _, _, _, _, _, _, _, _, _), j, v, own => (Jvm.Cond.constant own j v).before args s = true
def m_inv : Nat → Nat → Instr
  | 0, j => .invokevirtual j
  | 1, j => .invokestatic j
  | _, j => .invokespecial j
def m_CalOk (E : mE) (cc : ByteArray) (z j n : Nat) (ct : mCT) : Prop :=
  ∀ (pc : Nat) (lo : mL) (as st : List mV) (w : mW) (K : Option mV → mW → Prop), decode cc pc = .ok (m_inv z j, 3) → as.length = n → st.length ≤ 8 → ct as w K → (∀ r w', K r w' → m_W E (pc + 3) lo (r.toList ++ st) w') → m_W E pc lo (as.reverse ++ st) w
def m_RetOk (E : mE) (cc : ByteArray) (Rt : mO → mW → Prop) : Prop :=
  (∀ (pc : Nat) (lo : mL) (x : Int32) (w : mW), decode cc pc = .ok (.ireturn, 1) → Rt (.inl (some (.inl x))) w → m_W E pc lo [.inl x] w) ∧
  (∀ (pc : Nat) (lo : mL) (w : mW), decode cc pc = .ok (.return_, 1) → Rt (.inl none) w → m_W E pc lo [] w)
def m_ThrOk (E : mE) (Rt : mO → mW → Prop) (pc kd : Nat) : Prop := ∀ (lo : mL) (w : mW), Rt (.inr kd) w → m_W E pc lo [] w
def m_TOk (E : mE) (cc : ByteArray) (own : String) (T : mT) (Rt : mO → mW → Prop) : Prop :=
  (T.1 = false → m_Mut E) ∧ (∀ q ∈ T.2.1, m_GetOk E cc q.1 q.2.1 q.2.2) ∧ (∀ q ∈ T.2.2.1, m_PutOk E cc q.1 q.2.1 q.2.2) ∧ (∀ q ∈ T.2.2.2.1, m_CstOk E q.1 q.2 own) ∧ (∀ q ∈ T.2.2.2.2.1, m_CalOk E cc q.1 q.2.1 q.2.2.1 q.2.2.2) ∧ (∀ q ∈ T.2.2.2.2.2, m_ThrOk E Rt q.1 q.2) ∧ m_RetOk E cc Rt
/-- the constant and the target that stand beside an instruction are its own -/
def m_hok (pc : Nat) (i : Instr) (h : Int32) (t : Nat) (tb : List (Int32 × Nat)) : Bool :=
  match i with
  | .iconst n => decide (Int32.ofInt n = h)
  | .bipush n => decide ((Int8.ofInt n).toInt32 = h)
  | .sipush n => decide ((Int16.ofInt n).toInt32 = h)
  | .iinc _ n => decide (Int32.ofInt n = h)
  | .ifCond _ off => decide ((pc : Int) + off = (t : Int))
  | .if_icmp _ off => decide ((pc : Int) + off = (t : Int))
  | .goto off => decide ((pc : Int) + off = (t : Int))
  | .tableswitch d lo hi offs => decide ((pc : Int) + d = (t : Int)) && decide ((tb.length : Int) = hi - lo + 1) && tb.zipIdx.all (fun q => decide (q.1.1.toInt = lo + (q.2 : Int)) && decide (offs[q.2]? = some ((q.1.2 : Int) - (pc : Int))))
  | _ => true
def m_len (i : Instr) (len : Nat) : Bool :=
  match i with
  | .bipush _ | .ldc _ | .iload _ | .aload _ | .istore _ | .astore _ => Nat.beq len 2
  | .sipush _ | .iinc _ _ | .ifCond _ _ | .if_icmp _ _ | .goto _ | .getfield _ | .putfield _ | .invokevirtual _ | .invokestatic _ | .invokespecial _ | .new _ => Nat.beq len 3
  | .tableswitch _ _ _ _ => true
  | _ => Nat.beq len 1
section MS
variable {E : mE} {cc : ByteArray} {own : String} {Ts NW : List Jvm.Cond} {rm : Room}
theorem m_W.iinc {pc : Nat} {lo : mL} {st : List mV} {w : mW} {i : Nat} {n : Int} {x h : Int32} (C : m_Cx E cc own Ts NW rm) (hd : decode cc pc = .ok (.iinc i n, 3)) (hh : Int32.ofInt n = h) (hi : lo[i]? = some (some (.inl x)))
    (kk : m_W E (pc + 3) (lo.set i (some (.inl (x + h)))) st w) : m_W E pc lo st w := by
  obtain ⟨p, l, e, R, s, m, args, below, meth, c, cells, slots, Q, D, A, cI, cZ, ad, nL, N⟩ := E
  intro ls H locs hl hN hP hS
  obtain ⟨k, hk⟩ := List.getElem?_of_mem (m_lv_mem (ad := ad) hi)
  have hlt : i < lo.length := (List.getElem?_eq_some_iff.mp hi).1
  refine lv_iinc C.1 C.2.1 hd hl.2 hk rfl (by rw [← hl.1]; exact hlt) rfl (fun ls' h' => ?_)
  subst hh
  exact kk ls' H locs (m_lh_set (v := .inl (x + Int32.ofInt n)) hl h') hN hP hS
theorem m_W.get {pc : Nat} {lo : mL} {st : List mV} {w : mW} {a j ci q : Nat} {fs : List mV} {v : mV} (hg : m_GetOk E cc j ci q) (hd : decode cc pc = .ok (.getfield j, 3)) (hw : w[a]? = some (.inr (ci, fs))) (hq : fs[q]? = some v)
    (kk : m_W E (pc + 3) lo (v :: st) w) : m_W E pc lo (.inr a :: st) w := by
  obtain ⟨p, l, e, R, s, m, args, below, meth, c, cells, slots, Q, D, A, cI, cZ, ad, nL, N⟩ := E
  intro ls H locs hl hN hP hS
  have h1 := m_ws_get (cI := cI) (cZ := cZ) (ad := ad) w 0 a hw
  rw [Nat.zero_add] at h1
  exact hg pc ls H locs (st.map (m_v ad)) _ a (ad a) (fs.map (m_v ad)) (m_v ad v) hd hP h1 (by rw [List.getElem?_map, hq]; rfl) (kk ls H locs hl hN hP hS)
theorem m_W.put {pc : Nat} {lo : mL} {st : List mV} {w : mW} {a j ci q : Nat} {fs : List mV} {x : Int32} (C : m_Cx E cc own Ts NW rm) (hm : m_Mut E) (hg : m_PutOk E cc j ci q) (hd : decode cc pc = .ok (.putfield j, 3)) (hw : w[a]? = some (.inr (ci, fs))) (hq : q < fs.length)
    (kk : m_W E (pc + 3) lo st (w.set a (.inr (ci, fs.set q (.inl x))))) : m_W E pc lo (.inl x :: .inr a :: st) w := by
  obtain ⟨p, l, e, R, s, m, args, below, meth, c, cells, slots, Q, D, A, cI, cZ, ad, nL, N⟩ := E
  intro ls H locs hl hN hP hS
  have h1 := m_ws_get (cI := cI) (cZ := cZ) (ad := ad) w 0 a hw
  have h2 := m_ws_set (cI := cI) (cZ := cZ) (ad := ad) w 0 a (.inr (ci, fs.set q (.inl x)))
  rw [Nat.zero_add] at h1 h2
  refine hg pc ls H locs (st.map (m_v ad)) _ a (ad a) (fs.map (m_v ad)) x hd hP (m_DA (C.2.2.2.2.2.1 w hN) hN hm) hS h1 (by rw [List.length_map]; exact hq) (fun H1 locs1 hP1 hS1 => ?_)
  refine kk ls H1 locs1 hl (by rw [List.length_set]; exact hN) ?_ hS1
  rw [← h2]
  have e1 : (fs.set q (.inl x)).map (m_v ad) = (fs.map (m_v ad)).set q (.int x) := by rw [List.map_set]; rfl
  show va_P D m_cl ((m_ws cI cZ ad w 0).set a (ad a, .inr (ci, (fs.set q (.inl x)).map (m_v ad)))) H1
  rw [e1]
  exact hP1
theorem m_W.iald {pc : Nat} {lo : mL} {st : List mV} {w : mW} {a n j : Nat} {f : Nat → Int32} (C : m_Cx E cc own Ts NW rm) (hd : decode cc pc = .ok (.iaload, 1)) (hw : w[a]? = some (.inl (false, n, f))) (hn : n < 2 ^ 31) (hj : j < n)
    (kk : m_W E (pc + 1) lo (.inl (f j) :: st) w) : m_W E pc lo (.inl (nI j) :: .inr a :: st) w := by
  obtain ⟨p, l, e, R, s, m, args, below, meth, c, cells, slots, Q, D, A, cI, cZ, ad, nL, N⟩ := E
  intro ls H locs hl hN hP hS
  have h1 := m_ws_get (cI := cI) (cZ := cZ) (ad := ad) w 0 a hw
  rw [Nat.zero_add] at h1
  refine va_iald C.1 C.2.1 C.2.2.2.2.1 hP a 0 h1 rfl (vp_in_nI hj hn) hd ?_
  rw [nI_clamp (by omega)]
  exact kk ls H locs hl hN hP hS
theorem m_W.zald {pc : Nat} {lo : mL} {st : List mV} {w : mW} {a n j : Nat} {f : Nat → Int32} (C : m_Cx E cc own Ts NW rm) (hd : decode cc pc = .ok (.baload, 1)) (hw : w[a]? = some (.inl (true, n, f))) (hn : n < 2 ^ 31) (hj : j < n)
    (kk : m_W E (pc + 1) lo (.inl (f j) :: st) w) : m_W E pc lo (.inl (nI j) :: .inr a :: st) w := by
  obtain ⟨p, l, e, R, s, m, args, below, meth, c, cells, slots, Q, D, A, cI, cZ, ad, nL, N⟩ := E
  intro ls H locs hl hN hP hS
  have h1 := m_ws_get (cI := cI) (cZ := cZ) (ad := ad) w 0 a hw
  rw [Nat.zero_add] at h1
  refine va_zald C.1 C.2.1 C.2.2.2.2.1 hP a 1 h1 rfl (vp_in_nI hj hn) hd ?_
  rw [nI_clamp (by omega)]
  exact kk ls H locs hl hN hP hS
theorem m_W.iast {pc : Nat} {lo : mL} {st : List mV} {w : mW} {a n j : Nat} {f : Nat → Int32} {x : Int32} (C : m_Cx E cc own Ts NW rm) (hm : m_Mut E) (hd : decode cc pc = .ok (.iastore, 1)) (hw : w[a]? = some (.inl (false, n, f))) (hn : n < 2 ^ 31) (hj : j < n)
    (kk : m_W E (pc + 1) lo st (w.set a (.inl (false, n, upd f j x)))) : m_W E pc lo (.inl x :: .inl (nI j) :: .inr a :: st) w := by
  obtain ⟨p, l, e, R, s, m, args, below, meth, c, cells, slots, Q, D, A, cI, cZ, ad, nL, N⟩ := E
  intro ls H locs hl hN hP hS
  have h1 := m_ws_get (cI := cI) (cZ := cZ) (ad := ad) w 0 a hw
  have h2 := m_ws_set (cI := cI) (cZ := cZ) (ad := ad) w 0 a (.inl (false, n, upd f j x))
  rw [Nat.zero_add] at h1 h2
  refine va_iast C.1 C.2.1 C.2.2.2.2.1 hP (m_DA (C.2.2.2.2.2.1 w hN) hN hm) hS a 0 h1 rfl (vp_in_nI hj hn) hd (fun H1 locs1 hP1 hD1 hS1 => ?_)
  rw [nI_clamp (by omega)] at hP1
  refine kk ls H1 locs1 hl (by rw [List.length_set]; exact hN) ?_ hS1
  rw [← h2]
  exact hP1
theorem m_W.zast {pc : Nat} {lo : mL} {st : List mV} {w : mW} {a n j : Nat} {f : Nat → Int32} {x : Int32} (C : m_Cx E cc own Ts NW rm) (hm : m_Mut E) (hd : decode cc pc = .ok (.bastore, 1)) (hw : w[a]? = some (.inl (true, n, f))) (hn : n < 2 ^ 31) (hj : j < n)
    (kk : m_W E (pc + 1) lo st (w.set a (.inl (true, n, upd f j (vp_nar .boolean x))))) : m_W E pc lo (.inl x :: .inl (nI j) :: .inr a :: st) w := by
  obtain ⟨p, l, e, R, s, m, args, below, meth, c, cells, slots, Q, D, A, cI, cZ, ad, nL, N⟩ := E
  intro ls H locs hl hN hP hS
  have h1 := m_ws_get (cI := cI) (cZ := cZ) (ad := ad) w 0 a hw
  have h2 := m_ws_set (cI := cI) (cZ := cZ) (ad := ad) w 0 a (.inl (true, n, upd f j (vp_nar .boolean x)))
  rw [Nat.zero_add] at h1 h2
  refine va_zast C.1 C.2.1 C.2.2.2.2.1 hP (m_DA (C.2.2.2.2.2.1 w hN) hN hm) hS a 1 h1 rfl (vp_in_nI hj hn) hd (fun H1 locs1 hP1 hD1 hS1 => ?_)
  rw [nI_clamp (by omega)] at hP1
  refine kk ls H1 locs1 hl (by rw [List.length_set]; exact hN) ?_ hS1
  rw [← h2]
  exact hP1
theorem m_W.alen {pc : Nat} {lo : mL} {st : List mV} {w : mW} {a n : Nat} {z : Bool} {f : Nat → Int32} (C : m_Cx E cc own Ts NW rm) (hd : decode cc pc = .ok (.arraylength, 1)) (hw : w[a]? = some (.inl (z, n, f)))
    (kk : m_W E (pc + 1) lo (.inl (nI n) :: st) w) : m_W E pc lo (.inr a :: st) w := by
  obtain ⟨p, l, e, R, s, m, args, below, meth, c, cells, slots, Q, D, A, cI, cZ, ad, nL, N⟩ := E
  intro ls H locs hl hN hP hS
  have h1 := m_ws_get (cI := cI) (cZ := cZ) (ad := ad) w 0 a hw
  rw [Nat.zero_add] at h1
  cases z with
  | false => exact va_alen C.1 C.2.1 C.2.2.2.2.1 hP a 0 h1 (ty := .int) rfl rfl hd (kk ls H locs hl hN hP hS)
  | true => exact va_alen C.1 C.2.1 C.2.2.2.2.1 hP a 1 h1 (ty := .boolean) rfl rfl hd (kk ls H locs hl hN hP hS)
theorem m_swT {pc t : Nat} {x h : Int32} {tb : List (Int32 × Nat)} {d lo hi : Int} {offs : Array Int} (hh : m_hok pc (.tableswitch d lo hi offs) h t tb = true) {j : Nat} {v : Int32} {t' : Nat} (hj : tb[j]? = some (v, t')) (hx : x = v) :
    ¬ x.toInt < lo ∧ ¬ hi < x.toInt ∧ offs[(x.toInt - lo).toNat]? = some ((t' : Int) - (pc : Int)) := by
  simp only [m_hok, Bool.and_eq_true, decide_eq_true_eq, List.all_eq_true] at hh
  obtain ⟨⟨-, h2⟩, h3⟩ := hh
  have h4 := h3 ((v, t'), j) (List.mem_zipIdx_iff_getElem?.mpr hj)
  have hlt : j < tb.length := (List.getElem?_eq_some_iff.mp hj).1
  subst hx
  simp only at h4
  refine ⟨by omega, by omega, ?_⟩
  have : (x.toInt - lo).toNat = j := by omega
  rw [this]
  exact h4.2
theorem m_swF {pc t : Nat} {x h : Int32} {tb : List (Int32 × Nat)} {d lo hi : Int} {offs : Array Int} (hh : m_hok pc (.tableswitch d lo hi offs) h t tb = true) (hx : ∀ q ∈ tb, ¬ x = q.1) : x.toInt < lo ∨ hi < x.toInt := by
  simp only [m_hok, Bool.and_eq_true, decide_eq_true_eq, List.all_eq_true] at hh
  obtain ⟨⟨-, h2⟩, h3⟩ := hh
  by_cases h5 : x.toInt < lo
  · exact .inl h5
  by_cases h6 : hi < x.toInt
  · exact .inr h6
  exfalso
  have hlt : (x.toInt - lo).toNat < tb.length := by omega
  have hg : tb[(x.toInt - lo).toNat]? = some tb[(x.toInt - lo).toNat] := List.getElem?_eq_getElem hlt
  have h4 := h3 (tb[(x.toInt - lo).toNat], (x.toInt - lo).toNat) (List.mem_zipIdx_iff_getElem?.mpr hg)
  refine hx _ (List.mem_of_getElem? hg) (Int32.toInt_inj.mp ?_)
  have := h4.1
  simp only at this
  omega
end MS
