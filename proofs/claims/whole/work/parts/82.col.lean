/-! The law's worlds: addresses have colours (1 the ledger, 2 what is kept, 3 the answer's place, 4 the model, 10 + k the state kept at k). -/
def o_W (D : va_G) (co : Nat → Nat) (lo k : Nat) (ws : va_W) (H : Heap) : Prop := va_P D m_cl ws H ∧ va_D (fun q => lo ≤ q ∧ co q = k) ws
section OW
variable {D : va_G} {co co' : Nat → Nat} {lo k k' : Nat} {ws wc : va_W} {H H1 : Heap} {cI cZ cK cL : ClassId} {ad : Nat → Nat} {ou : Nat}
theorem o_W.keep (h : o_W D co lo k ws H) (hk : ∀ q : Nat, q < H.size → co q = k → H1[q]? = H[q]?) : o_W D co lo k ws H1 :=
  ⟨h.1.kept (fun i q hi => hk q.1 (h.1 i q hi).lt (h.2.2 i q hi).2), h.2⟩
theorem o_W.re (h : o_W D co lo k ws H) (he : ∀ q : Nat, q < H.size → co' q = co q) : o_W D co' lo k ws H :=
  ⟨h.1, h.2.weaken (fun i q hi hA => ⟨hA.1, (he q.1 (h.1 i q hi).lt).trans hA.2⟩)⟩
theorem o_W.col (h : o_W D co lo k ws H) {q : Nat} {e : va_E} (hi : (q, e) ∈ ws) : lo ≤ q ∧ co q = k := by
  obtain ⟨i, hi⟩ := List.mem_iff_getElem?.mp hi
  exact h.2.2 i (q, e) hi
theorem o_far (hc : ∀ (q : Nat) (e : va_E), (q, e) ∈ wc → co q ≠ k) (hk : ∀ q : Nat, q < H.size → ¬ va_A wc H.size q → H1[q]? = H[q]?) : ∀ q : Nat, q < H.size → co q = k → H1[q]? = H[q]? := by
  intro q hq hq2
  refine hk q hq (fun z => ?_)
  rcases z with ⟨i, e, hi⟩ | z
  · exact hc q e (List.mem_of_getElem? hi) hq2
  · omega
theorem o_W.ne (h : o_W D co lo k' ws H) (hn : k' ≠ k) : ∀ (q : Nat) (e : va_E), (q, e) ∈ ws → co q ≠ k := fun q e hi hc => hn ((h.col hi).2.symm.trans hc)
theorem o_in2 {w1 w2 : va_W} {Z : Nat → Prop} (h1 : ∀ (q : Nat) (e : va_E), (q, e) ∈ w1 → Z q) (h2 : ∀ (q : Nat) (e : va_E), (q, e) ∈ w2 → Z q) : ∀ (q : Nat) (e : va_E), (q, e) ∈ w1 ++ w2 → Z q := fun q e hi => (List.mem_append.mp hi).elim (h1 q e) (h2 q e)
theorem o_Fc {Z : Nat → Prop} {sz : Nat} (h : ∀ (q : Nat) (e : va_E), (q, e) ∈ ws → Z q) (hA : ∀ q, sz ≤ q → Z q) : ∀ q, va_A ws sz q → Z q := by
  intro q z
  rcases z with ⟨i, e, hi⟩ | z
  · exact h q e (List.mem_of_getElem? hi)
  · exact hA q z
theorem o_app (h1 : o_W D co lo k ws H) (h2 : o_W D co lo k' wc H) (hn : k ≠ k') : va_D (fun _ => True) (ws ++ wc) := by
  refine va_D.app (h1.2.weaken (fun _ _ _ _ => trivial)) (h2.2.weaken (fun _ _ _ _ => trivial)) (fun i j p q hi hj e => ?_)
  have a1 : co p.1 = k := (h1.2.2 i p hi).2
  have a2 : co q.1 = k' := (h2.2.2 j q hj).2
  rw [e, a2] at a1
  exact hn a1.symm
theorem o_app3 {k3 : Nat} {w3 : va_W} (h1 : o_W D co lo k ws H) (h2 : o_W D co lo k' wc H) (h3 : o_W D co lo k3 w3 H) (hn : k ≠ k') (hm : k ≠ k3) (hl : k' ≠ k3) : va_D (fun _ => True) (ws ++ (wc ++ w3)) := by
  refine va_D.app (h1.2.weaken (fun _ _ _ _ => trivial)) (o_app h2 h3 hl) (fun i j p q hi hj e => ?_)
  have a1 : co p.1 = k := (h1.2.2 i p hi).2
  rcases List.mem_append.mp (List.mem_of_getElem? hj) with hz | hz
  · have a2 : co q.1 = k' := (h2.col (q := q.1) (e := q.2) hz).2
    rw [e, a2] at a1
    exact hn a1.symm
  · have a2 : co q.1 = k3 := (h3.col (q := q.1) (e := q.2) hz).2
    rw [e, a2] at a1
    exact hm a1.symm
theorem P_left {w1 w2 : va_W} (h : va_P D m_cl (w1 ++ w2) H) : va_P D m_cl w1 H := fun k q hk => h k q (by rw [List.getElem?_append_left (List.getElem?_eq_some_iff.mp hk).1]; exact hk)
theorem P_right {w1 w2 : va_W} (h : va_P D m_cl (w1 ++ w2) H) : va_P D m_cl w2 H := fun k q hk => h (w1.length + k) q (by rw [List.getElem?_append_right (Nat.le_add_right _ _), Nat.add_sub_cancel_left]; exact hk)
theorem D_right {A : Nat → Prop} {w1 w2 : va_W} (h : va_D A (w1 ++ w2)) : va_D A w2 := by
  have at' : ∀ (k : Nat) (q : Nat × va_E), w2[k]? = some q → (w1 ++ w2)[w1.length + k]? = some q := fun k q hk => by rw [List.getElem?_append_right (Nat.le_add_right _ _), Nat.add_sub_cancel_left]; exact hk
  refine ⟨fun i j p q hi hj e => ?_, fun k q hk => h.2 _ q (at' k q hk)⟩
  have := h.1 _ _ p q (at' i p hi) (at' j q hj) e
  omega
theorem m_D_as {B : Nat → Prop} {w w' : mW} (h : va_D B (m_ws cI cZ ad w 0)) (hl : w'.length = w.length) : va_D B (m_ws cI cZ ad w' 0) := by
  refine ⟨(m_D_of h hl).1, fun k q hk => ?_⟩
  obtain ⟨a1, a2⟩ := m_ws_addr w' 0 k hk
  rw [Nat.zero_add] at a2
  obtain ⟨e1, g1⟩ := m_ws_at (cI := cI) (cZ := cZ) (ad := ad) w (show k < w.length by omega)
  rw [a2]
  exact h.2 k _ g1
theorem o_one {B : Nat → Prop} {a : Nat} {e : va_E} (h : B a) : va_D B [(a, e)] := by
  refine ⟨fun i j p q hi hj _ => ?_, fun k q hk => ?_⟩
  · have h1 := (List.getElem?_eq_some_iff.mp hi).1
    have h2 := (List.getElem?_eq_some_iff.mp hj).1
    simp only [List.length_cons, List.length_nil] at h1 h2
    omega
  · have h1 := (List.getElem?_eq_some_iff.mp hk).1
    simp only [List.length_cons, List.length_nil] at h1
    have h0 : k = 0 := by omega
    subst h0
    cases hk
    exact h
theorem RCw_len {s : aS} {w : mW} (h : RCw s [] w) : w.length = 12 := by
  obtain ⟨_, _, _, _, _, _, _, _, _, _, _, _, _, rfl, _⟩ := h
  rfl
theorem RCw_at {s : aS} {w : mW} (h : RCw s [] w) : w[11]? = some (.inr (3, [.inr 0, .inr 12])) := by
  obtain ⟨_, _, _, _, _, _, _, _, _, _, _, _, _, rfl, _⟩ := h
  rfl
theorem sRC_len {s : aS} {w : mW} (h : sRC s w) : w.length = 11 := by
  obtain ⟨_, _, _, _, _, _, _, _, _, _, _, _, _, rfl, _⟩ := h
  rfl
/-- what is kept -/
def LK (D : va_G) (cI cZ : ClassId) (co : Nat → Nat) (lo : Nat) (g : Nat → Option Nat) (ks : Nat → aS) (H : Heap) : Prop :=
  ∀ k, k < 8 → (g k = none ∧ ks k = a_0) ∨ ∃ adk wk, g k = some (adk 0) ∧ sRC (ks k) wk ∧ o_W D co lo (10 + k) (m_ws cI cZ adk wk 0) H
theorem LK.keep {g : Nat → Option Nat} {ks : Nat → aS} (h : LK D cI cZ co lo g ks H) (hk : ∀ j, 10 ≤ j → ∀ q : Nat, q < H.size → co q = j → H1[q]? = H[q]?) : LK D cI cZ co lo g ks H1 := by
  intro k hk8
  rcases h k hk8 with a | ⟨adk, wk, a1, a2, a3⟩
  · exact Or.inl a
  · exact Or.inr ⟨adk, wk, a1, a2, a3.keep (hk (10 + k) (by omega))⟩
theorem LK.re {g : Nat → Option Nat} {ks : Nat → aS} (h : LK D cI cZ co lo g ks H) (he : ∀ q : Nat, q < H.size → co' q = co q) : LK D cI cZ co' lo g ks H := by
  intro k hk8
  rcases h k hk8 with a | ⟨adk, wk, a1, a2, a3⟩
  · exact Or.inl a
  · exact Or.inr ⟨adk, wk, a1, a2, a3.re he⟩
/-- the ledger's side -/
def LC (D : va_G) (cI cZ cK cL : ClassId) (ad : Nat → Nat) (ou : Nat) (co : Nat → Nat) (lo : Nat) (s0 : aS) (ks : Nat → aS) (f : Nat → Int64) (H : Heap) : Prop :=
  ∃ (w : mW) (g : Nat → Option Nat), RCw s0 [] w ∧ o_W D co lo 1 (m_ws cI cZ ad w 0) H ∧ o_W D co lo 2 [(ad 12, z_kp cK g)] H ∧ o_W D co lo 3 [(ou, lo_ar cL f)] H ∧ LK D cI cZ co lo g ks H
theorem LC_up {s1 : aS} {ks : Nat → aS} {f : Nat → Int64} {w w' : mW} {g : Nat → Option Nat} (o1 : o_W D co lo 1 (m_ws cI cZ ad w 0) H) (o2 : o_W D co lo 2 [(ad 12, z_kp cK g)] H) (o3 : o_W D co lo 3 [(ou, lo_ar cL f)] H) (o4 : LK D cI cZ co lo g ks H)
    (hw' : RCw s1 [] w') (hl : w'.length = w.length) (hP : va_P D m_cl (m_ws cI cZ ad w' 0) H1) (hf : ∀ q : Nat, q < H.size → ¬ va_A (m_ws cI cZ ad w 0) H.size q → H1[q]? = H[q]?) : LC D cI cZ cK cL ad ou co lo s1 ks f H1 :=
  ⟨w', g, hw', ⟨hP, m_D_as o1.2 hl⟩, o2.keep (o_far (o1.ne (by omega)) hf), o3.keep (o_far (o1.ne (by omega)) hf), o4.keep (fun j hj => o_far (o1.ne (by omega)) hf)⟩
/-- what the wrappers may change -/
def l_A (co : Nat → Nat) (lo sz : Nat) : Nat → Prop := fun q => (lo ≤ q ∧ co q ≠ 4) ∨ sz ≤ q
theorem o_W.mA {sz : Nat} (h : o_W D co lo k ws H) (hn : k ≠ 4) : ∀ (q : Nat) (e : va_E), (q, e) ∈ ws → l_A co lo sz q := fun q e hi => Or.inl ⟨(h.col hi).1, fun z => hn ((h.col hi).2.symm.trans z)⟩
theorem o_W.inA {sz : Nat} (h : o_W D co lo k ws H) (hn : k ≠ 4) : va_D (l_A co lo sz) ws := h.2.weaken (fun _ q _ hA => Or.inl ⟨hA.1, fun z => hn (hA.2.symm.trans z)⟩)
theorem LC_k {s1 sk : aS} {ks : Nat → aS} {f : Nat → Int64} {w w' wk wk' : mW} {g : Nat → Option Nat} {adk : Nat → Nat} (o1 : o_W D co lo 1 (m_ws cI cZ ad w 0) H) (o2 : o_W D co lo 2 [(ad 12, z_kp cK g)] H) (o3 : o_W D co lo 3 [(ou, lo_ar cL f)] H) (o4 : LK D cI cZ co lo g ks H)
    (hg : g k = some (adk 0)) (o5 : o_W D co lo (10 + k) (m_ws cI cZ adk wk 0) H) (hw' : RCw s1 [] w') (hl : w'.length = w.length) (hwk : sRC sk wk') (hlk : wk'.length = wk.length) (hP : va_P D m_cl (k_ws cI cZ cK ad adk g w' wk') H1)
    (hf : ∀ q : Nat, q < H.size → ¬ va_A (k_ws cI cZ cK ad adk g w wk) H.size q → H1[q]? = H[q]?) : LC D cI cZ cK cL ad ou co lo s1 (va_up ks k sk) f H1 := by
  have hP2 : va_P D m_cl ([(ad 12, z_kp cK g)] ++ m_ws cI cZ adk wk' 0) H1 := P_right hP
  have far : ∀ j, 1 ≠ j → 2 ≠ j → 10 + k ≠ j → ∀ q : Nat, q < H.size → co q = j → H1[q]? = H[q]? := fun j h1 h2 h3 => o_far (wc := m_ws cI cZ ad w 0 ++ ([(ad 12, z_kp cK g)] ++ m_ws cI cZ adk wk 0)) (o_in2 (Z := fun q => co q ≠ j) (o1.ne h1) (o_in2 (Z := fun q => co q ≠ j) (o2.ne h2) (o5.ne h3))) hf
  refine ⟨w', g, hw', ⟨P_left hP, m_D_as o1.2 hl⟩, ⟨P_left hP2, o2.2⟩, o3.keep (far 3 (by omega) (by omega) (by omega)), fun k' hk' => ?_⟩
  by_cases e : k' = k
  · subst e
    exact Or.inr ⟨adk, wk', hg, by rw [va_up_self]; exact hwk, ⟨P_right hP2, m_D_as o5.2 hlk⟩⟩
  · rw [va_up_ne ks sk e]
    rcases o4 k' hk' with a | ⟨adk', wk2, a1, a2, a3⟩
    · exact Or.inl a
    · exact Or.inr ⟨adk', wk2, a1, a2, a3.keep (far (10 + k') (by omega) (by omega) (by omega))⟩
def o_new (co : Nat → Nat) (sz k : Nat) : Nat → Nat := fun q => if sz ≤ q then k else co q
theorem o_new_lt {sz q : Nat} (h : q < sz) : o_new co sz k q = co q := by unfold o_new; rw [if_neg (by omega)]
theorem LC_n {s0 : aS} {ks : Nat → aS} {f : Nat → Int64} {w wk : mW} {g : Nat → Option Nat} {adk : Nat → Nat} (o1 : o_W D co lo 1 (m_ws cI cZ ad w 0) H) (o2 : o_W D co lo 2 [(ad 12, z_kp cK g)] H) (o3 : o_W D co lo 3 [(ou, lo_ar cL f)] H) (o4 : LK D cI cZ co lo g ks H)
    (hw : RCw s0 [] w) (hwk : sRC s0 wk) (hP : va_P D m_cl (k_ws cI cZ cK ad adk (va_up g k (some (adk 0))) w wk) H1) (hD : va_D (va_A (m_ws cI cZ ad w 0 ++ [(ad 12, z_kp cK g)]) H.size) (k_ws cI cZ cK ad adk (va_up g k (some (adk 0))) w wk))
    (hf : ∀ q : Nat, q < H.size → ¬ va_A (m_ws cI cZ ad w 0 ++ [(ad 12, z_kp cK g)]) H.size q → H1[q]? = H[q]?) : LC D cI cZ cK cL ad ou (o_new co H.size (10 + k)) lo s0 (va_up ks k s0) f H1 := by
  have he : ∀ q : Nat, q < H.size → o_new co H.size (10 + k) q = co q := fun q h => o_new_lt h
  have hP2 : va_P D m_cl ([(ad 12, z_kp cK (va_up g k (some (adk 0))))] ++ m_ws cI cZ adk wk 0) H1 := P_right hP
  have hlo : lo ≤ H.size := by
    have h9 := o2.1 0 (ad 12, z_kp cK g) rfl
    have h8 : lo ≤ ad 12 ∧ co (ad 12) = 2 := o2.2.2 0 (ad 12, z_kp cK g) rfl
    have h7 : ad 12 < H.size := h9.lt
    omega
  have far : ∀ j, 1 ≠ j → 2 ≠ j → ∀ q : Nat, q < H.size → o_new co H.size (10 + k) q = j → H1[q]? = H[q]? := fun j h1 h2 => o_far (wc := m_ws cI cZ ad w 0 ++ [(ad 12, z_kp cK g)]) (o_in2 (Z := fun q => o_new co H.size (10 + k) q ≠ j) ((o1.re he).ne h1) ((o2.re he).ne h2)) hf
  refine ⟨w, va_up g k (some (adk 0)), hw, ⟨P_left hP, (o1.re he).2⟩, ⟨P_left hP2, o_one ((o2.re he).2.2 0 (ad 12, z_kp cK g) rfl)⟩, (o3.re he).keep (far 3 (by omega) (by omega)), fun k' hk' => ?_⟩
  by_cases e : k' = k
  · subst e
    have hD3 : va_D _ ([(ad 12, z_kp cK (va_up g k' (some (adk 0))))] ++ m_ws cI cZ adk wk 0) := D_right hD
    have hD4 := D_right hD3
    refine Or.inr ⟨adk, wk, by rw [va_up_self], by rw [va_up_self]; exact hwk, ⟨P_right hP2, ⟨hD4.1, fun i q hi => ?_⟩⟩⟩
    have hq : H.size ≤ q.1 := by
      rcases hD4.2 i q hi with ⟨j, e9, hj⟩ | h
      · exfalso
        have hjl : j < (m_ws cI cZ ad w 0 ++ [(ad 12, z_kp cK g)]).length := (List.getElem?_eq_some_iff.mp hj).1
        rw [List.length_append] at hjl
        simp only [List.length_cons, List.length_nil] at hjl
        have h13 : (k_ws cI cZ cK ad adk (va_up g k' (some (adk 0))) w wk)[(m_ws cI cZ ad w 0).length + (1 + i)]? = some q := by
          rw [List.getElem?_append_right (Nat.le_add_right _ _), Nat.add_sub_cancel_left]
          show ([(ad 12, z_kp cK (va_up g k' (some (adk 0))))] ++ m_ws cI cZ adk wk 0)[1 + i]? = some q
          rw [List.getElem?_append_right (by simp)]
          simpa using hi
        by_cases hjw : j < (m_ws cI cZ ad w 0).length
        · rw [List.getElem?_append_left hjw] at hj
          have h1 : (k_ws cI cZ cK ad adk (va_up g k' (some (adk 0))) w wk)[j]? = some (q.1, e9) := by
            rw [List.getElem?_append_left hjw]
            exact hj
          have := hD.1 _ _ _ _ h1 h13 rfl
          omega
        · have hj0 : j = (m_ws cI cZ ad w 0).length := by omega
          subst hj0
          rw [List.getElem?_append_right (Nat.le_refl _), Nat.sub_self] at hj
          have hj1 : (ad 12, z_kp cK g) = (q.1, e9) := Option.some.inj hj
          have h1 : (k_ws cI cZ cK ad adk (va_up g k' (some (adk 0))) w wk)[(m_ws cI cZ ad w 0).length]? = some (ad 12, z_kp cK (va_up g k' (some (adk 0)))) := by
            rw [List.getElem?_append_right (Nat.le_refl _), Nat.sub_self]
            rfl
          have := hD.1 _ _ _ _ h1 h13 (show ad 12 = q.1 from congrArg Prod.fst hj1)
          omega
      · exact h
    exact ⟨Nat.le_trans hlo hq, by unfold o_new; rw [if_pos hq]⟩
  · rw [va_up_ne ks s0 e, va_up_ne g _ e]
    rcases o4 k' hk' with a | ⟨adk', wk2, a1, a2, a3⟩
    · exact Or.inl a
    · exact Or.inr ⟨adk', wk2, a1, a2, (a3.re he).keep (far (10 + k') (by omega) (by omega))⟩
end OW
def l_pre (D : va_G) (cI cZ cK cL : ClassId) (ad : Nat → Nat) (ou : Nat) (co : Nat → Nat) (lo : Nat) (s0 : aS) (ks : Nat → aS) (f : Nat → Int64) (sz : Nat) (as : List Value) : Array Value → State → Prop :=
  va_Pc as (fun U => U.heap.size = sz ∧ LC D cI cZ cK cL ad ou co lo s0 ks f U.heap ∧ va_K D m_cl (z_ty cI cZ ++ [(cK, .object R_St), (cL, .long)]) U ∧ (∀ x ∈ xw, va_Nw x U) ∧ vx_Zq Bundle.tN "UNASSIGNED_STACK" Bundle.steD (l_A co lo sz) U U.heap ∧ vx_Zq Bundle.tN "SUPPRESSED_SENTINEL" Bundle.listD (l_A co lo sz) U U.heap ∧ va_Nc (exn 1) (exn 0) U ∧ va_Nc (exn 0) (exn 2) U)
theorem l_blind {D : va_G} {cI cZ cK cL : ClassId} {ad : Nat → Nat} {ou : Nat} {co : Nat → Nat} {lo : Nat} {s0 : aS} {ks : Nat → aS} {f : Nat → Int64} {sz : Nat} {as : List Value} : FrameBlind (l_pre D cI cZ cK cL ad ou co lo s0 ks f sz as) := by
  intro a U g mk q
  obtain ⟨q0, q1, qP, qK, qN, qU, qS, n1, n2⟩ := q
  exact ⟨q0, q1, qP, va_K.moved (u := U) (U := U.calling g mk a) (Vm.Alike.refl U.vm) qK, fun x hx => m_isX_same (u := U) (U := U.calling g mk a) (xw_ok x hx) rfl (qN x hx), vx_Zq.moved (u := U) (U := U.calling g mk a) (Vm.Alike.refl U.vm) qU, vx_Zq.moved (u := U) (U := U.calling g mk a) (Vm.Alike.refl U.vm) qS, va_Nc.moved (u := U) (U := U.calling g mk a) (Vm.Alike.refl U.vm) n1, va_Nc.moved (u := U) (U := U.calling g mk a) (Vm.Alike.refl U.vm) n2⟩
def l_post (D : va_G) (cI cZ cK cL : ClassId) (ad : Nat → Nat) (ou : Nat) (co : Nat → Nat) (lo : Nat) (A : Nat → Prop) (cd : Nat) (s1 : aS) (ks1 : Nat → aS) (Z : (Nat → Int64) → Prop) : Array Value → State → Outcome → State → Prop :=
  fun _ st oc t => (∃ co' f' k, oc = .returned (some (.int k)) ∧ k = nI cd ∧ (∀ q : Nat, q < st.heap.size → co' q = co q) ∧ LC D cI cZ cK cL ad ou co' lo s1 ks1 f' t.heap ∧ Z f') ∧ va_F A st t
theorem e_0 {c : Nat} (h : c = 0) : (0 : Int32) = nI c := by subst h; rfl
theorem e_1 {c : Nat} (h : c = 1) : (1 : Int32) = nI c := by subst h; rfl
theorem e_2 {c : Nat} (h : c = 2) : (2 : Int32) = nI c := by subst h; rfl
section OX
variable {p : Program} {l : Launch} {e : Env} {R : Room} {s : State} {m : MethodId} {args : Array Value} {below : List Frame} {meth : Method} {c : Code} {H H0 : Heap} {locs : List Loc} {cells slots pc nL mc ms : Nat} {ls : Array Slot} {Q : State → Prop} {cc : ByteArray} {A0 A1 free : Nat → Prop} {st0 rest : List Value} {Qa : State → Outcome → State → Prop}
theorem o_widen {g : JFrame} {k n : Nat} (h1 : cells ≤ k) (h2 : slots ≤ n) (kk : W p l e R s m args below meth c H locs k n Q g) : W p l e R s m args below meth c H locs cells slots Q g := fun T hT X => kk T hT (stand_widen X h1 h2)
theorem o_goes (hr : va_Run p l e R s m args below meth c H locs cells slots mc ms (F0 m pc ls st0) rest Qa free) (hF : ∀ st o t, Qa st o t → va_F A1 st t) (hS : va_S A0 H0 H locs) (hA : ∀ q, q < H.size → A1 q → A0 q) (hf : ∀ q, free q → A0 q)
    (kk : ∀ (v : Option Value) (st t : State) (H1 : Heap) (locs1 : List Loc), st.heap = H → t.heap = H1 → Qa st (.returned v) t → (∀ q : Nat, q < H.size → ¬ A1 q → H1[q]? = H[q]?) → va_S A0 H0 H1 locs1 → W p l e R s m args below meth c H1 locs1 (cells + mc) (slots + ms) Q (F0 m (pc + 3) ls (v.toList ++ rest))) : W p l e R s m args below meth c H locs cells slots Q (F0 m pc ls st0) := by
  intro T hT X
  obtain ⟨v, st₀, t, T', L, h0, X', hL, e1, e2, hq, st⟩ := hr T hT X
  obtain ⟨k1, k2, k3⟩ := vx_keep h0 e1 hS hA hf hL (hF _ _ _ hq)
  obtain ⟨t2, a1, b1⟩ := kk v st₀ t T'.heap (locs ++ L) h0 e1.symm hq k2 k3 T' rfl X'
  exact ⟨t2, st t2 a1, b1⟩
theorem o_goesX (hr : vx_Run p l e R s m args below meth c H locs cells slots mc ms (F0 m pc ls st0) rest Qa (fun _ _ _ => False) free) (hF : ∀ st o t, Qa st o t → va_F A1 st t) (hS : va_S A0 H0 H locs) (hA : ∀ q, q < H.size → A1 q → A0 q) (hf : ∀ q, free q → A0 q)
    (kk : ∀ (v : Option Value) (st t : State) (H1 : Heap) (locs1 : List Loc), st.heap = H → t.heap = H1 → Qa st (.returned v) t → (∀ q : Nat, q < H.size → ¬ A1 q → H1[q]? = H[q]?) → va_S A0 H0 H1 locs1 → W p l e R s m args below meth c H1 locs1 (cells + mc) (slots + ms) Q (F0 m (pc + 3) ls (v.toList ++ rest))) : W p l e R s m args below meth c H locs cells slots Q (F0 m pc ls st0) := by
  intro T hT X
  rcases hr T hT X with ⟨v, st₀, t, T', L, h0, X', hL, e1, e2, hq, st⟩ | ⟨_, _, _, _, _, _, _, _, _, _, _, _, hF, _⟩
  · obtain ⟨k1, k2, k3⟩ := vx_keep h0 e1 hS hA hf hL (hF _ _ _ hq)
    obtain ⟨t2, a1, b1⟩ := kk v st₀ t T'.heap (locs ++ L) h0 e1.symm hq k2 k3 T' rfl X'
    exact ⟨t2, st t2 a1, b1⟩
  · exact hF.elim
/-- the answer is written down -/
theorem o_last (hexec : p.tables.exec = Jvm.exec) (hb : c.code = cc) {D : va_G} {cI cZ cK cL : ClassId} {ad : Nat → Nat} {ou : Nat} {co : Nat → Nat} {lo : Nat} {s0 : aS} {ks : Nat → aS} {f : Nat → Int64} {tys : List (ClassId × FieldType)} (hK : va_K D m_cl tys s) (t0 : Nat) (ht : tys[t0]? = some (cL, .long)) (hL : LC D cI cZ cK cL ad ou co lo s0 ks f H) (hA : A0 ou) (hS : va_S A0 H0 H locs) {x : Int64} (hdg : decode cc pc = .ok (.lastore, 1))
    (kk : ∀ (H1 : Heap) (locs1 : List Loc) (f1 : Nat → Int64), f1 0 = x → LC D cI cZ cK cL ad ou co lo s0 ks f1 H1 → va_S A0 H0 H1 locs1 → W p l e R s m args below meth c H1 locs1 cells slots Q (F0 m (pc + 1) ls rest)) : W p l e R s m args below meth c H locs cells slots Q (F0 m pc ls (.long x :: .int 0 :: .ref ou :: rest)) := by
  obtain ⟨w, g, hw, o1, o2, o3, o4⟩ := hL
  have h3 : lo ≤ ou ∧ co ou = 3 := o3.2.2 0 (ou, lo_ar cL f) rfl
  refine W.last hexec hb (o3.1 0 _ rfl) ((hK.2 t0 _ ht).1 1 (fun j => .long (f j))) (fun q => by cases q) (by show ¬ ((0 : Int32) < 0 ∨ (arrV _ _ _).slots.size ≤ _); rw [arrV_size]; show ¬ ((0 : Int32) < 0 ∨ 1 ≤ (0 : Int32).toNatClampNeg); decide) rfl rfl hdg fun H1 he z oq => ?_
  have far : ∀ k, k ≠ 3 → ∀ q : Nat, q < H.size → co q = k → H1[q]? = H[q]? := fun k hk q _ hc => oq q (fun e9 => hk (by rw [← hc, e9]; exact h3.2))
  have hP1 : va_P D m_cl [(ou, lo_ar cL (vp_updL f 0 x))] H1 := by
    intro k q hk
    have h1 := (List.getElem?_eq_some_iff.mp hk).1
    simp only [List.length_cons, List.length_nil] at h1
    have h0 : k = 0 := by omega
    subst h0
    cases hk
    show H1[ou]? = some (vp_cell _ _)
    rw [he]
    rw [vp_cell_l, vp_cell_l, arrV_store]
    congr 2
    funext q
    by_cases hq : q = 0
    · subst hq
      simp [updV, vp_updL]
    · simp [updV, vp_updL, hq]
  exact kk H1 _ (vp_updL f 0 x) (by simp [vp_updL]) ⟨w, g, hw, o1.keep (far 1 (by omega)), o2.keep (far 2 (by omega)), ⟨hP1, o_one h3⟩, o4.keep (fun j hj => far j (by omega))⟩ (hS.put z oq hA)
end OX
