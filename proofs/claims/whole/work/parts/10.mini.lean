/-! The small machine: a method's world is a list of cells told by their places; a step of the method is a formula. -/
abbrev mV : Type := Int32 ⊕ Nat
abbrev mC : Type := (Bool × Nat × (Nat → Int32)) ⊕ (Nat × List mV)
abbrev mW : Type := List mC
abbrev mL : Type := List (Option mV)
abbrev mO : Type := Option mV ⊕ Nat
abbrev mCT : Type := List mV → mW → (Option mV → mW → Prop) → Prop
abbrev mI : Type := Nat × Instr × Nat × Nat × Int32 × Nat × List (Int32 × Nat)
abbrev mT : Type := Bool × List (Nat × Nat × Nat) × List (Nat × Nat × Nat) × List (Nat × Int32) × List (Nat × Nat × Nat × mCT) × List (Nat × Nat)
def m_v (ad : Nat → Nat) : mV → Value
  | .inl x => .int x
  | .inr i => .ref (ad i)
theorem m_v_cat (ad : Nat → Nat) (v : mV) : (m_v ad v).category = 1 := by cases v <;> rfl
def m_c (cI cZ : ClassId) (ad : Nat → Nat) : mC → va_E
  | .inl (z, n, f) => .inl (bif z then cZ else cI, n, .inl f)
  | .inr (ci, fs) => .inr (ci, fs.map (m_v ad))
def m_ws (cI cZ : ClassId) (ad : Nat → Nat) : mW → Nat → va_W
  | [], _ => []
  | c :: r, i => (ad i, m_c cI cZ ad c) :: m_ws cI cZ ad r (i + 1)
theorem m_ws_get {cI cZ : ClassId} {ad : Nat → Nat} : ∀ (w : mW) (i0 j : Nat) {c : mC}, w[j]? = some c → (m_ws cI cZ ad w i0)[j]? = some (ad (i0 + j), m_c cI cZ ad c)
  | [], _, _, _, h => by simp at h
  | d :: r, i0, 0, c, h => by
    simp only [List.getElem?_cons_zero, Option.some.injEq] at h
    subst h; rfl
  | d :: r, i0, j + 1, c, h => by
    simp only [List.getElem?_cons_succ] at h
    have := m_ws_get (cI := cI) (cZ := cZ) (ad := ad) r (i0 + 1) j h
    simp only [m_ws, List.getElem?_cons_succ]
    rw [this, Nat.add_right_comm i0 1 j]; rfl
theorem m_ws_set {cI cZ : ClassId} {ad : Nat → Nat} : ∀ (w : mW) (i0 j : Nat) (c : mC), (m_ws cI cZ ad w i0).set j (ad (i0 + j), m_c cI cZ ad c) = m_ws cI cZ ad (w.set j c) i0
  | [], _, _, _ => rfl
  | d :: r, i0, 0, c => rfl
  | d :: r, i0, j + 1, c => by
    have := m_ws_set (cI := cI) (cZ := cZ) (ad := ad) r (i0 + 1) j c
    simp only [m_ws, List.set_cons_succ]
    rw [← this, Nat.add_right_comm i0 1 j]; rfl
theorem m_ws_len {cI cZ : ClassId} {ad : Nat → Nat} : ∀ (w : mW) (i0 : Nat), (m_ws cI cZ ad w i0).length = w.length
  | [], _ => rfl
  | _ :: r, i0 => by simp only [m_ws, List.length_cons, m_ws_len r (i0 + 1)]
/-- the locals that are known -/
def m_lv (ad : Nat → Nat) (lo : mL) : List (Nat × Value) := lo.zipIdx.filterMap (fun q => q.1.map (fun v => (q.2, m_v ad v)))
theorem m_lv_mem {ad : Nat → Nat} {lo : mL} {i : Nat} {v : mV} (h : lo[i]? = some (some v)) : (i, m_v ad v) ∈ m_lv ad lo := by
  unfold m_lv
  rw [List.mem_filterMap]
  exact ⟨(some v, i), List.mem_zipIdx_iff_getElem?.mpr h, rfl⟩
def m_lh (ad : Nat → Nat) (nL : Nat) (lo : mL) (ls : Array Slot) : Prop := lo.length = nL ∧ lv_has ls nL (m_lv ad lo)
theorem m_lh_get {ad : Nat → Nat} {nL : Nat} {lo : mL} {ls : Array Slot} (h : m_lh ad nL lo ls) {i : Nat} {v : mV} (hl : lo[i]? = some (some v)) : ls[i]? = some (.val (m_v ad v)) := h.2.2.2 (i, m_v ad v) (m_lv_mem hl)
theorem m_lh_set {ad : Nat → Nat} {nL : Nat} {lo : mL} {ls ls' : Array Slot} {i : Nat} {v : mV} (h : m_lh ad nL lo ls)
    (h' : lv_has ls' nL ((i, m_v ad v) :: (m_lv ad lo).filter (fun q => !(q.1 == i) && !(q.1 + 1 == i && q.2.category == 2)))) : m_lh ad nL (lo.set i (some v)) ls' := by
  refine ⟨by rw [List.length_set]; exact h.1, h'.1, h'.2.1, fun q hq => ?_⟩
  unfold m_lv at hq
  obtain ⟨⟨o, j⟩, hm, he⟩ := List.mem_filterMap.mp hq
  rw [List.mem_zipIdx_iff_getElem?] at hm
  cases o with
  | none => simp at he
  | some u =>
    simp only [Option.map_some, Option.some.injEq] at he
    subst he
    simp only [List.getElem?_set] at hm
    by_cases hj : i = j
    · rw [if_pos hj] at hm
      by_cases hl : i < lo.length
      · rw [if_pos hl] at hm
        cases hm
        subst hj
        exact h'.2.2 _ List.mem_cons_self
      · rw [if_neg hl] at hm; cases hm
    · rw [if_neg hj] at hm
      refine h'.2.2 _ (List.mem_cons_of_mem _ (List.mem_filter.mpr ⟨m_lv_mem hm, ?_⟩))
      simp [m_v_cat, Ne.symm hj]
-- the formulas' helpers: each takes what it finds to k
def m_nth {α : Type} : List α → Nat → (α → Prop) → Prop
  | [], _, _ => False
  | a :: _, 0, k => k a
  | _ :: r, n + 1, k => m_nth r n k
theorem m_nth_ok {α : Type} : ∀ {l : List α} {i : Nat} {k : α → Prop}, m_nth l i k → ∃ a, l[i]? = some a ∧ k a
  | [], _, _, h => h.elim
  | a :: _, 0, _, h => ⟨a, rfl, h⟩
  | _ :: r, n + 1, k, h => by
    obtain ⟨a, h1, h2⟩ := m_nth_ok (l := r) (i := n) (k := k) h
    exact ⟨a, by rw [List.getElem?_cons_succ]; exact h1, h2⟩
def m_upd {α : Type} : List α → Nat → α → (List α → Prop) → Prop
  | [], _, _, _ => False
  | _ :: r, 0, v, k => k (v :: r)
  | a :: r, n + 1, v, k => m_upd r n v (fun r' => k (a :: r'))
theorem m_upd_ok {α : Type} : ∀ {l : List α} {i : Nat} {v : α} {k : List α → Prop}, m_upd l i v k → i < l.length ∧ k (l.set i v)
  | [], _, _, _, h => h.elim
  | _ :: _, 0, _, _, h => ⟨by simp, h⟩
  | a :: r, n + 1, v, k, h => by
    obtain ⟨h1, h2⟩ := m_upd_ok (l := r) (i := n) (v := v) (k := fun r' => k (a :: r')) h
    exact ⟨by simpa using h1, h2⟩
def m_isI : Option mV → (Int32 → Prop) → Prop
  | some (.inl x), k => k x
  | _, _ => False
theorem m_isI_ok {o : Option mV} {k : Int32 → Prop} (h : m_isI o k) : ∃ x, o = some (.inl x) ∧ k x := by
  rcases o with _ | (x | i)
  · exact h.elim
  · exact ⟨x, rfl, h⟩
  · exact h.elim
def m_isR : Option mV → (Nat → Prop) → Prop
  | some (.inr x), k => k x
  | _, _ => False
theorem m_isR_ok {o : Option mV} {k : Nat → Prop} (h : m_isR o k) : ∃ x, o = some (.inr x) ∧ k x := by
  rcases o with _ | (x | i)
  · exact h.elim
  · exact h.elim
  · exact ⟨i, rfl, h⟩
def m_pI : List mV → (Int32 → List mV → Prop) → Prop
  | .inl x :: r, k => k x r
  | _, _ => False
theorem m_pI_ok {st : List mV} {k : Int32 → List mV → Prop} (h : m_pI st k) : ∃ x r, st = .inl x :: r ∧ k x r := by
  rcases st with _ | ⟨x | i, r⟩
  · exact h.elim
  · exact ⟨x, r, rfl, h⟩
  · exact h.elim
def m_pR : List mV → (Nat → List mV → Prop) → Prop
  | .inr x :: r, k => k x r
  | _, _ => False
theorem m_pR_ok {st : List mV} {k : Nat → List mV → Prop} (h : m_pR st k) : ∃ x r, st = .inr x :: r ∧ k x r := by
  rcases st with _ | ⟨x | i, r⟩
  · exact h.elim
  · exact h.elim
  · exact ⟨i, r, rfl, h⟩
def m_pII : List mV → (Int32 → Int32 → List mV → Prop) → Prop
  | .inl y :: .inl x :: r, k => k x y r
  | _, _ => False
theorem m_pII_ok {st : List mV} {k : Int32 → Int32 → List mV → Prop} (h : m_pII st k) : ∃ x y r, st = .inl y :: .inl x :: r ∧ k x y r := by
  rcases st with _ | ⟨y | i, _ | ⟨x | j, r⟩⟩
  · exact h.elim
  · exact h.elim
  · exact ⟨x, y, r, rfl, h⟩
  · exact h.elim
  · exact h.elim
  · exact h.elim
  · exact h.elim
def m_p1 : List mV → (mV → List mV → Prop) → Prop
  | x :: r, k => k x r
  | _, _ => False
theorem m_p1_ok {st : List mV} {k : mV → List mV → Prop} (h : m_p1 st k) : ∃ x r, st = x :: r ∧ k x r := by
  rcases st with _ | ⟨x, r⟩
  · exact h.elim
  · exact ⟨x, r, rfl, h⟩
def m_ar : Bool → mC → (Nat → (Nat → Int32) → Prop) → Prop
  | false, .inl (false, n, f), k => match Nat.ble n 100000 with
    | true => k n f
    | false => False
  | true, .inl (true, n, f), k => match Nat.ble n 100000 with
    | true => k n f
    | false => False
  | _, _, _ => False
theorem m_ar_ok {z : Bool} {c : mC} {k : Nat → (Nat → Int32) → Prop} (h : m_ar z c k) : ∃ n f, c = .inl (z, n, f) ∧ n < 2 ^ 31 ∧ k n f := by
  rcases c with ⟨y, n, f⟩ | ⟨ci, fs⟩
  · cases z <;> cases y
    · simp only [m_ar] at h
      split at h
      · rename_i hb
        exact ⟨n, f, rfl, by have := Nat.le_of_ble_eq_true hb; omega, h⟩
      · exact h.elim
    · exact h.elim
    · exact h.elim
    · simp only [m_ar] at h
      split at h
      · rename_i hb
        exact ⟨n, f, rfl, by have := Nat.le_of_ble_eq_true hb; omega, h⟩
      · exact h.elim
  · cases z <;> exact h.elim
def m_arl : mC → (Nat → Prop) → Prop
  | .inl (_, n, _), k => k n
  | _, _ => False
theorem m_arl_ok {c : mC} {k : Nat → Prop} (h : m_arl c k) : ∃ z n f, c = .inl (z, n, f) ∧ k n := by
  rcases c with ⟨y, n, f⟩ | ⟨ci, fs⟩
  · exact ⟨y, n, f, rfl, h⟩
  · exact h.elim
def m_ob : Nat → mC → (List mV → Prop) → Prop
  | ci, .inr (cj, fs), k => match Nat.beq ci cj with
    | true => k fs
    | false => False
  | _, _, _ => False
theorem m_ob_ok {ci : Nat} {c : mC} {k : List mV → Prop} (h : m_ob ci c k) : ∃ fs, c = .inr (ci, fs) ∧ k fs := by
  rcases c with ⟨y, n, f⟩ | ⟨cj, fs⟩
  · exact h.elim
  · simp only [m_ob] at h
    split at h
    · rename_i hb
      have := Nat.eq_of_beq_eq_true hb
      subst this
      exact ⟨fs, rfl, h⟩
    · exact h.elim
def m_fl : List (Nat × Nat × Nat) → Nat → (Nat → Nat → Prop) → Prop
  | [], _, _ => False
  | (j, ci, q) :: r, i, k => match Nat.beq j i with
    | true => k ci q
    | false => m_fl r i k
theorem m_fl_ok : ∀ {l : List (Nat × Nat × Nat)} {i : Nat} {k : Nat → Nat → Prop}, m_fl l i k → ∃ ci q, (i, ci, q) ∈ l ∧ k ci q
  | [], _, _, h => h.elim
  | (j, ci, q) :: r, i, k, h => by
    simp only [m_fl] at h
    split at h
    · rename_i hb
      have := Nat.eq_of_beq_eq_true hb
      subst this
      exact ⟨ci, q, List.mem_cons_self, h⟩
    · obtain ⟨a, b, h1, h2⟩ := m_fl_ok h
      exact ⟨a, b, List.mem_cons_of_mem _ h1, h2⟩
def m_cs : List (Nat × Int32) → Nat → (Int32 → Prop) → Prop
  | [], _, _ => False
  | (j, v) :: r, i, k => match Nat.beq j i with
    | true => k v
    | false => m_cs r i k
theorem m_cs_ok : ∀ {l : List (Nat × Int32)} {i : Nat} {k : Int32 → Prop}, m_cs l i k → ∃ v, (i, v) ∈ l ∧ k v
  | [], _, _, h => h.elim
  | (j, v) :: r, i, k, h => by
    simp only [m_cs] at h
    split at h
    · rename_i hb
      have := Nat.eq_of_beq_eq_true hb
      subst this
      exact ⟨v, List.mem_cons_self, h⟩
    · obtain ⟨a, h1, h2⟩ := m_cs_ok h
      exact ⟨a, List.mem_cons_of_mem _ h1, h2⟩
def m_th : List (Nat × Nat) → Nat → (Nat → Prop) → Prop
  | [], _, _ => False
  | (j, v) :: r, i, k => match Nat.beq j i with
    | true => k v
    | false => m_th r i k
theorem m_th_ok : ∀ {l : List (Nat × Nat)} {i : Nat} {k : Nat → Prop}, m_th l i k → ∃ v, (i, v) ∈ l ∧ k v
  | [], _, _, h => h.elim
  | (j, v) :: r, i, k, h => by
    simp only [m_th] at h
    split at h
    · rename_i hb
      have := Nat.eq_of_beq_eq_true hb
      subst this
      exact ⟨v, List.mem_cons_self, h⟩
    · obtain ⟨a, h1, h2⟩ := m_th_ok h
      exact ⟨a, List.mem_cons_of_mem _ h1, h2⟩
def m_ca : List (Nat × Nat × Nat × mCT) → Nat → Nat → (Nat → mCT → Prop) → Prop
  | [], _, _, _ => False
  | (z, j, n, ct) :: r, y, i, k => match Nat.beq z y && Nat.beq j i with
    | true => k n ct
    | false => m_ca r y i k
theorem m_ca_ok : ∀ {l : List (Nat × Nat × Nat × mCT)} {y i : Nat} {k : Nat → mCT → Prop}, m_ca l y i k → ∃ n ct, (y, i, n, ct) ∈ l ∧ k n ct
  | [], _, _, _, h => h.elim
  | (z, j, n, ct) :: r, y, i, k, h => by
    simp only [m_ca] at h
    split at h
    · rename_i hb
      rw [Bool.and_eq_true] at hb
      have e1 := Nat.eq_of_beq_eq_true hb.1
      have e2 := Nat.eq_of_beq_eq_true hb.2
      subst e1; subst e2
      exact ⟨n, ct, List.mem_cons_self, h⟩
    · obtain ⟨a, b, h1, h2⟩ := m_ca_ok h
      exact ⟨a, b, List.mem_cons_of_mem _ h1, h2⟩
def m_pop : Nat → List mV → List mV → (List mV → List mV → Prop) → Prop
  | 0, st, acc, k => k acc st
  | _ + 1, [], _, _ => False
  | n + 1, v :: st, acc, k => m_pop n st (v :: acc) k
theorem m_pop_ok : ∀ {n : Nat} {st acc : List mV} {k : List mV → List mV → Prop}, m_pop n st acc k → ∃ as r, as.length = n ∧ st = as.reverse ++ r ∧ k (as ++ acc) r
  | 0, st, acc, k, h => ⟨[], st, rfl, rfl, h⟩
  | _ + 1, [], _, _, h => h.elim
  | n + 1, v :: st, acc, k, h => by
    obtain ⟨as, r, h1, h2, h3⟩ := m_pop_ok (n := n) (st := st) (acc := v :: acc) (k := k) h
    exact ⟨as ++ [v], r, by simp [h1], by simp [h2], by simpa using h3⟩
def m_le8 (st : List mV) (P : Prop) : Prop := match Nat.ble st.length 8 with
  | true => P
  | false => False
theorem m_le8_ok {st : List mV} {P : Prop} (h : m_le8 st P) : st.length ≤ 8 ∧ P := by
  unfold m_le8 at h
  split at h
  · rename_i hb
    exact ⟨Nat.le_of_ble_eq_true hb, h⟩
  · exact h.elim
def m_sw (x : Int32) : List (Int32 × Nat) → (Nat → Prop) → Prop → Prop
  | [], _, d => d
  | (v, t) :: r, k, d => (x = v → k t) ∧ (¬ x = v → m_sw x r k d)
theorem m_sw_ok {x : Int32} : ∀ {l : List (Int32 × Nat)} {k : Nat → Prop} {d : Prop}, m_sw x l k d → (∃ (j : Nat) (v : Int32) (t : Nat), l[j]? = some (v, t) ∧ x = v ∧ k t) ∨ ((∀ q ∈ l, ¬ x = q.1) ∧ d)
  | [], _, _, h => .inr ⟨fun _ hq => by simp at hq, h⟩
  | (v, t) :: r, k, d, h => by
    by_cases hx : x = v
    · exact .inl ⟨0, v, t, rfl, hx, h.1 hx⟩
    · rcases m_sw_ok (h.2 hx) with ⟨j, v', t', h1, h2, h3⟩ | ⟨h1, h2⟩
      · exact .inl ⟨j + 1, v', t', by rw [List.getElem?_cons_succ]; exact h1, h2, h3⟩
      · refine .inr ⟨fun q hq => ?_, h2⟩
        rcases List.mem_cons.mp hq with rfl | hq
        · exact hx
        · exact h1 q hq
def m_mut : Bool → Prop → Prop
  | false, P => P
  | true, _ => False
theorem m_mut_ok {b : Bool} {P : Prop} (h : m_mut b P) : b = false ∧ P := by
  cases b
  · exact ⟨rfl, h⟩
  · exact h.elim
theorem m_c0 {P : Prop} (h : P) : True ∧ P := ⟨trivial, h⟩
/-- a step, as a formula: kn goes on behind it, kb at a place -/
def m_step (T : mT) (Rt : mO → mW → Prop) (pc : Nat) (i : Instr) (h : Int32) (t : Nat) (tb : List (Int32 × Nat)) (lo : mL) (st : List mV) (w : mW) (kn : mL → List mV → mW → Prop) (kb : Nat → mL → List mV → mW → Prop) : Prop :=
  match i with
  | .iconst _ => kn lo (.inl h :: st) w
  | .bipush _ => kn lo (.inl h :: st) w
  | .sipush _ => kn lo (.inl h :: st) w
  | .ldc j => m_cs T.2.2.2.1 j (fun v => kn lo (.inl v :: st) w)
  | .iload_n j => m_nth lo j.val (fun o => m_isI o (fun x => kn lo (.inl x :: st) w))
  | .iload j => m_nth lo j (fun o => m_isI o (fun x => kn lo (.inl x :: st) w))
  | .aload_n j => m_nth lo j.val (fun o => m_isR o (fun x => kn lo (.inr x :: st) w))
  | .aload j => m_nth lo j (fun o => m_isR o (fun x => kn lo (.inr x :: st) w))
  | .istore_n j => m_pI st (fun x st => m_upd lo j.val (some (.inl x)) (fun lo => kn lo st w))
  | .istore j => m_pI st (fun x st => m_upd lo j (some (.inl x)) (fun lo => kn lo st w))
  | .astore_n j => m_pR st (fun x st => m_upd lo j.val (some (.inr x)) (fun lo => kn lo st w))
  | .astore j => m_pR st (fun x st => m_upd lo j (some (.inr x)) (fun lo => kn lo st w))
  | .iinc j _ => m_nth lo j (fun o => m_isI o (fun x => m_upd lo j (some (.inl (x + h))) (fun lo => kn lo st w)))
  | .iadd => m_pII st (fun x y st => kn lo (.inl (x + y) :: st) w)
  | .isub => m_pII st (fun x y st => kn lo (.inl (x - y) :: st) w)
  | .imul => m_pII st (fun x y st => kn lo (.inl (x * y) :: st) w)
  | .iand => m_pII st (fun x y st => kn lo (.inl (x &&& y) :: st) w)
  | .ior => m_pII st (fun x y st => kn lo (.inl (x ||| y) :: st) w)
  | .ixor => m_pII st (fun x y st => kn lo (.inl (x ^^^ y) :: st) w)
  | .ishl => m_pII st (fun x y st => kn lo (.inl (x <<< (y &&& 31)) :: st) w)
  | .ishr => m_pII st (fun x y st => kn lo (.inl (x >>> (y &&& 31)) :: st) w)
  | .idiv => m_pII st (fun x y st => ¬ y = 0 ∧ kn lo (.inl (x / y) :: st) w)
  | .irem => m_pII st (fun x y st => ¬ y = 0 ∧ kn lo (.inl (x - x / y * y) :: st) w)
  | .ifCond .eq _ => m_pI st (fun x st => (x = 0 → kb t lo st w) ∧ (¬ x = 0 → kn lo st w))
  | .ifCond .ne _ => m_pI st (fun x st => (¬ x = 0 → kb t lo st w) ∧ (x = 0 → kn lo st w))
  | .ifCond .lt _ => m_pI st (fun x st => (x < 0 → kb t lo st w) ∧ (¬ x < 0 → kn lo st w))
  | .ifCond .ge _ => m_pI st (fun x st => (0 ≤ x → kb t lo st w) ∧ (¬ 0 ≤ x → kn lo st w))
  | .ifCond .gt _ => m_pI st (fun x st => (0 < x → kb t lo st w) ∧ (¬ 0 < x → kn lo st w))
  | .ifCond .le _ => m_pI st (fun x st => (x ≤ 0 → kb t lo st w) ∧ (¬ x ≤ 0 → kn lo st w))
  | .if_icmp .eq _ => m_pII st (fun x y st => (x = y → kb t lo st w) ∧ (¬ x = y → kn lo st w))
  | .if_icmp .ne _ => m_pII st (fun x y st => (¬ x = y → kb t lo st w) ∧ (x = y → kn lo st w))
  | .if_icmp .lt _ => m_pII st (fun x y st => (x < y → kb t lo st w) ∧ (¬ x < y → kn lo st w))
  | .if_icmp .ge _ => m_pII st (fun x y st => (y ≤ x → kb t lo st w) ∧ (¬ y ≤ x → kn lo st w))
  | .if_icmp .gt _ => m_pII st (fun x y st => (y < x → kb t lo st w) ∧ (¬ y < x → kn lo st w))
  | .if_icmp .le _ => m_pII st (fun x y st => (x ≤ y → kb t lo st w) ∧ (¬ x ≤ y → kn lo st w))
  | .goto _ => kb t lo st w
  | .dup => m_p1 st (fun v r => kn lo (v :: v :: r) w)
  | .pop => m_p1 st (fun _ r => kn lo r w)
  | .dup_x1 => m_p1 st (fun v r => m_p1 r (fun u r => kn lo (v :: u :: v :: r) w))
  | .dup_x2 => m_p1 st (fun v r => m_p1 r (fun u r => m_p1 r (fun q r => kn lo (v :: u :: q :: v :: r) w)))
  | .dup2 => m_p1 st (fun v r => m_p1 r (fun u r => kn lo (v :: u :: v :: u :: r) w))
  | .getfield j => m_pR st (fun a st => m_fl T.2.1 j (fun ci q => m_nth w a (fun cel => m_ob ci cel (fun fs => m_nth fs q (fun v => kn lo (v :: st) w)))))
  | .putfield j => m_mut T.1 (m_pI st (fun x st => m_pR st (fun a st => m_fl T.2.2.1 j (fun ci q => m_nth w a (fun cel => m_ob ci cel (fun fs => m_upd fs q (.inl x) (fun fs' => m_upd w a (.inr (ci, fs')) (fun w => kn lo st w))))))))
  | .iaload => m_pI st (fun i st => m_pR st (fun a st => m_nth w a (fun cel => m_ar false cel (fun n f => ∃ j : Nat, i = nI j ∧ j < n ∧ kn lo (.inl (f j) :: st) w))))
  | .baload => m_pI st (fun i st => m_pR st (fun a st => m_nth w a (fun cel => m_ar true cel (fun n f => ∃ j : Nat, i = nI j ∧ j < n ∧ kn lo (.inl (f j) :: st) w))))
  | .iastore => m_mut T.1 (m_pI st (fun x st => m_pI st (fun i st => m_pR st (fun a st => m_nth w a (fun cel => m_ar false cel (fun n f => ∃ j : Nat, i = nI j ∧ j < n ∧ m_upd w a (.inl (false, n, upd f j x)) (fun w => kn lo st w)))))))
  | .bastore => m_mut T.1 (m_pI st (fun x st => m_pI st (fun i st => m_pR st (fun a st => m_nth w a (fun cel => m_ar true cel (fun n f => ∃ j : Nat, i = nI j ∧ j < n ∧ m_upd w a (.inl (true, n, upd f j (vp_nar .boolean x))) (fun w => kn lo st w)))))))
  | .arraylength => m_pR st (fun a st => m_nth w a (fun cel => m_arl cel (fun n => kn lo (.inl (nI n) :: st) w)))
  | .tableswitch _ _ _ _ => m_pI st (fun x st => m_sw x tb (fun t' => kb t' lo st w) (kb t lo st w))
  | .invokevirtual j => m_ca T.2.2.2.2.1 0 j (fun n ct => m_pop n st [] (fun as st => m_le8 st (True ∧ ct as w (fun r w => kn lo (r.toList ++ st) w))))
  | .invokestatic j => m_ca T.2.2.2.2.1 1 j (fun n ct => m_pop n st [] (fun as st => m_le8 st (True ∧ ct as w (fun r w => kn lo (r.toList ++ st) w))))
  | .invokespecial j => m_ca T.2.2.2.2.1 2 j (fun n ct => m_pop n st [] (fun as st => m_le8 st (True ∧ ct as w (fun r w => kn lo (r.toList ++ st) w))))
  | .ireturn => m_pI st (fun x st => match st with
    | [] => Rt (.inl (some (.inl x))) w
    | _ => False)
  | .return_ => match st with
    | [] => Rt (.inl none) w
    | _ => False
  | .new _ => match st with
    | [] => m_th T.2.2.2.2.2 pc (fun kd => Rt (.inr kd) w)
    | _ => False
  | _ => False
