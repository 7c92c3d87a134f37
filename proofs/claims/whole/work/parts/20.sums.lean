/-! Sums of ints, and a list of pairs against a table. -/
def sm (f : Nat → Int32) : Nat → Int32
  | 0 => 0
  | n + 1 => sm f n + f n
theorem sm_congr {f g : Nat → Int32} : ∀ {n : Nat}, (∀ i, i < n → f i = g i) → sm f n = sm g n
  | 0, _ => rfl
  | n + 1, h => by
    show sm f n + f n = sm g n + g n
    rw [sm_congr (fun i hi => h i (by omega)), h n (by omega)]
theorem sm_zero {f : Nat → Int32} : ∀ {n : Nat}, (∀ i, i < n → f i = 0) → sm f n = 0
  | 0, _ => rfl
  | n + 1, h => by
    show sm f n + f n = 0
    rw [sm_zero (fun i hi => h i (by omega)), h n (by omega)]
    rfl
theorem i_add3 (a b c : Int32) : a + b + c = a + c + b := by rw [Int32.add_assoc, Int32.add_comm b c, ← Int32.add_assoc]
theorem sm_add {f g : Nat → Int32} : ∀ {n : Nat}, sm (fun i => f i + g i) n = sm f n + sm g n
  | 0 => rfl
  | n + 1 => by
    show sm (fun i => f i + g i) n + (f n + g n) = sm f n + f n + (sm g n + g n)
    rw [sm_add, ← Int32.add_assoc, ← Int32.add_assoc, i_add3 (sm f n) (sm g n) (f n)]
theorem sm_shift (f : Nat → Int32) : ∀ (n : Nat), sm f (n + 1) = f 0 + sm (fun i => f (i + 1)) n
  | 0 => by
    show (0 : Int32) + f 0 = f 0 + 0
    rw [Int32.add_comm]
  | n + 1 => by
    show sm f (n + 1) + f (n + 1) = f 0 + (sm (fun i => f (i + 1)) n + f (n + 1))
    rw [sm_shift f n, Int32.add_assoc]
theorem sm_app (f : Nat → Int32) (a : Nat) : ∀ (b : Nat), sm f (a + b) = sm f a + sm (fun i => f (a + i)) b
  | 0 => by
    show sm f a = sm f a + 0
    rw [Int32.add_zero]
  | b + 1 => by
    show sm f (a + b) + f (a + b) = sm f a + (sm (fun i => f (a + i)) b + f (a + b))
    rw [sm_app f a b, Int32.add_assoc]
theorem sm_upd {f : Nat → Int32} {k : Nat} {x : Int32} : ∀ {n : Nat}, k < n → sm (upd f k x) n + f k = sm f n + x
  | 0, h => absurd h (Nat.not_lt_zero _)
  | n + 1, h => by
    show sm (upd f k x) n + upd f k x n + f k = sm f n + f n + x
    by_cases hk : k = n
    · subst hk
      have : sm (upd f k x) k = sm f k := sm_congr (fun i hi => by simp [upd, Nat.ne_of_lt hi])
      rw [this]
      simp only [upd, if_true]
      rw [i_add3]
    · have h1 := sm_upd (f := f) (k := k) (x := x) (n := n) (by omega)
      have h2 : upd f k x n = f n := by simp [upd, Ne.symm hk]
      rw [h2, i_add3, h1, i_add3]
/-- rows of k places each, one behind the other -/
theorem sm_flat (f : Nat → Int32) (k : Nat) : ∀ (m : Nat), sm f (k * m) = sm (fun x => sm (fun n => f (k * x + n)) k) m
  | 0 => rfl
  | m + 1 => by
    show sm f (k * (m + 1)) = sm (fun x => sm (fun n => f (k * x + n)) k) m + sm (fun n => f (k * m + n)) k
    rw [Nat.mul_succ, sm_app, sm_flat f k m]
/-- the keys of a list of pairs -/
def ky (L : List (Nat × Nat)) (j : Nat) : Nat × Nat := L.getD j (0, 0)
theorem ky_mem {L : List (Nat × Nat)} {j : Nat} (h : j < L.length) : ky L j ∈ L := by
  unfold ky
  rw [List.getD_eq_getElem?_getD, List.getElem?_eq_getElem h]
  exact List.getElem_mem h
theorem ky_get {L : List (Nat × Nat)} {j : Nat} (h : j < L.length) : L[j]? = some (ky L j) := by
  unfold ky
  rw [List.getD_eq_getElem?_getD, List.getElem?_eq_getElem h]
  rfl
theorem ky_inj {L : List (Nat × Nat)} (hn : L.Nodup) {i j : Nat} (hi : i < L.length) (hj : j < L.length) (h : ky L i = ky L j) : i = j := by
  have h1 := ky_get hi
  have h2 := ky_get hj
  rw [h] at h1
  exact (List.getElem?_inj hi hn).mp (h1.trans h2.symm)
theorem ky_of_mem {L : List (Nat × Nat)} {q : Nat × Nat} (h : q ∈ L) : ∃ j, j < L.length ∧ ky L j = q := by
  obtain ⟨j, hj⟩ := List.getElem?_of_mem h
  have hl : j < L.length := (List.getElem?_eq_some_iff.mp hj).1
  refine ⟨j, hl, ?_⟩
  rw [ky_get hl] at hj
  exact Option.some.inj hj
theorem ky_cons (q : Nat × Nat) (L : List (Nat × Nat)) (j : Nat) : ky (q :: L) (j + 1) = ky L j := by
  unfold ky
  simp
/-- the sum over the list's keys of a second part n, where what isn't in the list has 0: the sum over the table's column -/
theorem sm_col (n : Nat) (M : Nat) : ∀ (L : List (Nat × Nat)) (F : Nat × Nat → Int32), L.Nodup → (∀ q ∈ L, q.1 < M) → (∀ x, x < M → (x, n) ∉ L → F (x, n) = 0) →
    sm (fun j => if (ky L j).2 = n then F (ky L j) else 0) L.length = sm (fun x => F (x, n)) M
  | [], F, _, _, h => (sm_zero (fun x hx => h x hx (by simp))).symm
  | k :: r, F, hn, hb, h => by
    have hk : k ∉ r := (List.nodup_cons.mp hn).1
    have hr : r.Nodup := (List.nodup_cons.mp hn).2
    have ih := sm_col n M r (fun q => if q = k then 0 else F q) hr (fun q hq => hb q (List.mem_cons_of_mem _ hq)) (fun x hx hq => by
      by_cases e : (x, n) = k
      · simp [e]
      · rw [if_neg e]
        exact h x hx (fun hm => by
          rcases List.mem_cons.mp hm with e' | hm
          · exact e e'
          · exact hq hm))
    rw [List.length_cons, sm_shift]
    have e0 : ky (k :: r) 0 = k := rfl
    have e1 : sm (fun i => if (ky (k :: r) (i + 1)).2 = n then F (ky (k :: r) (i + 1)) else 0) r.length = sm (fun x => if (x, n) = k then 0 else F (x, n)) M := by
      rw [← ih]
      refine sm_congr (fun i hi => ?_)
      rw [ky_cons]
      have : ¬ ky r i = k := fun e => hk (e ▸ ky_mem hi)
      simp [this]
    rw [e1, e0]
    by_cases hkn : k.2 = n
    · rw [if_pos hkn]
      have hkk : k = (k.1, n) := by rw [← hkn]
      have e2 : sm (fun x => F (x, n)) M = sm (upd (fun x => if (x, n) = k then 0 else F (x, n)) k.1 (F k)) M := by
        refine sm_congr (fun x hx => ?_)
        by_cases e : x = k.1
        · subst e
          simp only [upd, if_true]
          rw [← hkk]
        · have : ¬ (x, n) = k := fun q => e (by rw [← q])
          simp [upd, e, this]
      have e3 := sm_upd (f := fun x => if (x, n) = k then 0 else F (x, n)) (k := k.1) (x := F k) (n := M) (hb k List.mem_cons_self)
      have e4 : (if (k.1, n) = k then (0 : Int32) else F (k.1, n)) = 0 := by rw [if_pos hkk.symm]
      rw [e4, Int32.add_zero] at e3
      rw [e2, e3, Int32.add_comm]
    · rw [if_neg hkn, Int32.zero_add]
      refine sm_congr (fun x hx => ?_)
      have : ¬ (x, n) = k := fun q => hkn (by rw [← q])
      rw [if_neg this]
/-- the sum over all of the list's keys: over the table's columns -/
theorem sm_cols (M : Nat) (F : Nat × Nat → Int32) (L : List (Nat × Nat)) : ∀ (N : Nat), (∀ q ∈ L, q.2 < N) →
    sm (fun j => F (ky L j)) L.length = sm (fun n => sm (fun j => if (ky L j).2 = n then F (ky L j) else 0) L.length) N := by
  have key : ∀ (N : Nat) (K : Nat), K ≤ L.length → sm (fun n => sm (fun j => if (ky L j).2 = n then F (ky L j) else 0) K) N = sm (fun j => if (ky L j).2 < N then F (ky L j) else 0) K := by
    intro N
    induction N with
    | zero => intro K _; exact (sm_zero (fun i _ => by simp)).symm
    | succ N ih =>
      intro K hK
      show sm (fun n => sm (fun j => if (ky L j).2 = n then F (ky L j) else 0) K) N + sm (fun j => if (ky L j).2 = N then F (ky L j) else 0) K = _
      rw [ih K hK, ← sm_add]
      refine sm_congr (fun i hi => ?_)
      by_cases h1 : (ky L i).2 < N
      · have h2 : ¬ (ky L i).2 = N := by omega
        have h3 : (ky L i).2 < N + 1 := by omega
        simp [h1, h2, h3]
      · by_cases h2 : (ky L i).2 = N
        · have h3 : (ky L i).2 < N + 1 := by omega
          simp [h1, h2, h3]
        · have h3 : ¬ (ky L i).2 < N + 1 := by omega
          simp [h1, h2, h3]
  intro N hb
  rw [key N L.length (Nat.le_refl _)]
  exact sm_congr (fun i hi => by rw [if_pos (hb _ (ky_mem hi))])
theorem sm_swap (f : Nat → Nat → Int32) (n : Nat) : ∀ (m : Nat), sm (fun x => sm (fun y => f x y) n) m = sm (fun y => sm (fun x => f x y) m) n
  | 0 => (sm_zero (fun _ _ => rfl)).symm
  | m + 1 => by
    show sm (fun x => sm (fun y => f x y) n) m + sm (fun y => f m y) n = sm (fun y => sm (fun x => f x y) m + f m y) n
    rw [sm_swap f n m, ← sm_add]
/-- the sum over the list is the sum over the table (of rows of N places each, one behind the other) -/
theorem sm_table {N M : Nat} {L : List (Nat × Nat)} {F : Nat × Nat → Int32} (hn : L.Nodup) (hb : ∀ q ∈ L, q.1 < M ∧ q.2 < N) (h0 : ∀ x n, x < M → n < N → (x, n) ∉ L → F (x, n) = 0) {g : Nat → Int32} (hg : ∀ x n, x < M → n < N → g (N * x + n) = F (x, n)) :
    sm (fun j => F (ky L j)) L.length = sm g (N * M) := by
  rw [sm_cols M F L N (fun q hq => (hb q hq).2), sm_flat g N M, sm_swap (fun x n => g (N * x + n)) N M]
  refine sm_congr (fun n hN => ?_)
  rw [sm_col n M L F hn (fun q hq => (hb q hq).1) (fun x hx hq => h0 x n hx hN hq)]
  exact sm_congr (fun x hx => (hg x n hx hN).symm)
theorem sm_ones : ∀ (n : Nat), sm (fun _ => 1) n = nI n
  | 0 => rfl
  | n + 1 => by
    show sm (fun _ => 1) n + 1 = _
    rw [sm_ones n, nI_1]
