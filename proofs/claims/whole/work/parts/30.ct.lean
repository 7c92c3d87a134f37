/-! What the class's inner methods do to their cells: 0 the state, 1 balances, 2 bonds with 3 owners, 4 nodes, 5 amounts, 6 returns with 7 owners, 8 amounts, 9 dues, 10 proved heights; behind them ex. -/
def bW (c0 c1 : mC) (o nd am : Nat → Int32) (bc : Int32) (ex : mW) : mW := c0 :: c1 :: .inr (1, [.inr 3, .inr 4, .inr 5, .inl bc]) :: .inl (false, 96, o) :: .inl (false, 96, nd) :: .inl (false, 96, am) :: ex
def rW (c0 c1 c2 c3 c4 c5 : mC) (ro ra rd : Nat → Int32) (rc : Int32) (ex : mW) : mW := c0 :: c1 :: c2 :: c3 :: c4 :: c5 :: .inr (2, [.inr 7, .inr 8, .inr 9, .inl rc]) :: .inl (false, 32, ro) :: .inl (false, 32, ra) :: .inl (false, 32, rd) :: ex
def sW (bal o nd am ro ra rd pv : Nat → Int32) (bc rc h j bu : Int32) (ex : mW) : mW := .inr (0, [.inr 1, .inr 2, .inr 6, .inr 10, .inl h, .inl j, .inl bu]) :: .inl (false, 200, bal) :: .inr (1, [.inr 3, .inr 4, .inr 5, .inl bc]) :: .inl (false, 96, o) :: .inl (false, 96, nd) :: .inl (false, 96, am) :: .inr (2, [.inr 7, .inr 8, .inr 9, .inl rc]) :: .inl (false, 32, ro) :: .inl (false, 32, ra) :: .inl (false, 32, rd) :: .inl (false, 16, pv) :: ex
/-- the first place at which the pair stands -/
def fnd (o nd : Nat → Int32) (c : Nat) (a n : Int32) (i : Nat) : Prop := i < c ∧ o i = a ∧ nd i = n ∧ ∀ j, j < i → ¬ (o j = a ∧ nd j = n)
def nfd (o nd : Nat → Int32) (c : Nat) (a n : Int32) : Prop := ∀ j, j < c → ¬ (o j = a ∧ nd j = n)
theorem fnd_or (o nd : Nat → Int32) (a n : Int32) : ∀ (c : Nat), (∃ i, fnd o nd c a n i) ∨ nfd o nd c a n
  | 0 => .inr (fun j h => absurd h (Nat.not_lt_zero j))
  | c + 1 => by
    rcases fnd_or o nd a n c with ⟨i, h1, h2, h3, h4⟩ | h
    · exact .inl ⟨i, by omega, h2, h3, h4⟩
    · by_cases hc : o c = a ∧ nd c = n
      · exact .inl ⟨c, by omega, hc.1, hc.2, h⟩
      · refine .inr (fun j hj => ?_)
        by_cases e : j = c
        · subst e; exact hc
        · exact h j (by omega)
def ct_find : mCT := fun as w K => ∃ c0 c1 o nd am ex c a n, as = [.inr 2, .inl a, .inl n] ∧ w = bW c0 c1 o nd am (nI c) ex ∧ c ≤ 96 ∧ (∀ i, fnd o nd c a n i → K (some (.inl (nI i))) w) ∧ (nfd o nd c a n → K (some (.inl (-1))) w)
def ct_amt : mCT := fun as w K => ∃ c0 c1 o nd am ex c a n, as = [.inr 2, .inl a, .inl n] ∧ w = bW c0 c1 o nd am (nI c) ex ∧ c ≤ 96 ∧ (∀ i, fnd o nd c a n i → K (some (.inl (am i))) w) ∧ (nfd o nd c a n → K (some (.inl 0)) w)
def ct_place : mCT := fun as w K => ∃ c0 c1 o nd am ex c a n, as = [.inr 2, .inl a, .inl n] ∧ w = bW c0 c1 o nd am (nI c) ex ∧ c ≤ 96 ∧ ((c < 96 ∨ ∃ i, fnd o nd c a n i) → K (some (.inl 1)) w) ∧ (¬ c < 96 → nfd o nd c a n → K (some (.inl 0)) w)
def ct_inc : mCT := fun as w K => ∃ c0 c1 o nd am ex c a n v, as = [.inr 2, .inl a, .inl n, .inl v] ∧ w = bW c0 c1 o nd am (nI c) ex ∧ c ≤ 96 ∧ (∀ i, fnd o nd c a n i → K none (bW c0 c1 o nd (upd am i (am i + v)) (nI c) ex)) ∧ (nfd o nd c a n → c < 96 ∧ K none (bW c0 c1 (upd o c a) (upd nd c n) (upd am c v) (nI (c + 1)) ex))
def ct_rem : mCT := fun as w K => ∃ c0 c1 o nd am ex c i, as = [.inr 2, .inl (nI i)] ∧ w = bW c0 c1 o nd am (nI (c + 1)) ex ∧ c < 96 ∧ i ≤ c ∧ K none (bW c0 c1 (upd o i (o c)) (upd nd i (nd c)) (upd am i (am c)) (nI c) ex)
def ct_dec : mCT := fun as w K => ∃ c0 c1 o nd am ex c a n v, as = [.inr 2, .inl a, .inl n, .inl v] ∧ w = bW c0 c1 o nd am (nI (c + 1)) ex ∧ c < 96 ∧ (∀ i, fnd o nd (c + 1) a n i → (am i - v = 0 → K none (bW c0 c1 (upd o i (o c)) (upd nd i (nd c)) (upd (upd am i (am i - v)) i (upd am i (am i - v) c)) (nI c) ex)) ∧ (¬ am i - v = 0 → K none (bW c0 c1 o nd (upd am i (am i - v)) (nI (c + 1)) ex))) ∧ ¬ nfd o nd (c + 1) a n
def ct_with : mCT := fun as w K => ∃ c0 c1 o nd am ex c n, as = [.inr 2, .inl n] ∧ w = bW c0 c1 o nd am (nI c) ex ∧ c ≤ 96 ∧ K (some (.inl (sm (fun j => if nd j = n then am j else 0) c))) w
def ct_cut : mCT := fun as w K => ∃ c0 c1 o nd am ex c n, as = [.inr 2, .inl n] ∧ w = bW c0 c1 o nd am (nI c) ex ∧ c ≤ 96 ∧ ∀ am', (∀ j, am' j = if j < c ∧ nd j = n then am j - am j / 4 else am j) → K (some (.inl (sm (fun j => if nd j = n then am j / 4 else 0) c))) (bW c0 c1 o nd am' (nI c) ex)
def ct_tot : mCT := fun as w K => ∃ c0 c1 o nd am ex c, as = [.inr 2] ∧ w = bW c0 c1 o nd am (nI c) ex ∧ c ≤ 96 ∧ K (some (.inl (sm am c))) w
-- returns
def hd (l : List (Nat × Int32 × Int32)) (ro ra rd : Nat → Int32) : Prop := ∀ i r, l[i]? = some r → ro i = nI r.1 ∧ ra i = r.2.1 ∧ rd i = r.2.2
def ct_full : mCT := fun as w K => ∃ c0 c1 c2 c3 c4 c5 ro ra rd ex c, as = [.inr 6] ∧ w = rW c0 c1 c2 c3 c4 c5 ro ra rd (nI c) ex ∧ c ≤ 32 ∧ (c < 32 → K (some (.inl 0)) w) ∧ (c = 32 → K (some (.inl 1)) w)
def ct_app : mCT := fun as w K => ∃ c0 c1 c2 c3 c4 c5 ro ra rd ex c a v h, as = [.inr 6, .inl a, .inl v, .inl h] ∧ w = rW c0 c1 c2 c3 c4 c5 ro ra rd (nI c) ex ∧ c < 32 ∧ K none (rW c0 c1 c2 c3 c4 c5 (upd ro c a) (upd ra c v) (upd rd c h) (nI (c + 1)) ex)
def ct_rel : mCT := fun as w K => ∃ c0 c2 c3 c4 c5 bal ro ra rd ex l h, as = [.inr 6, .inl h, .inr 1] ∧ w = rW c0 (.inl (false, 200, bal)) c2 c3 c4 c5 ro ra rd (nI l.length) ex ∧ l.length ≤ 32 ∧ hd l ro ra rd ∧ (∀ r ∈ l, r.1 < 200) ∧
  ∀ ro' ra' rd', hd (a_left h l) ro' ra' rd' → K (some (.inl (nI (l.length - (a_left h l).length)))) (rW c0 (.inl (false, 200, a_rel h l bal)) c2 c3 c4 c5 ro' ra' rd' (nI (a_left h l).length) ex)
def ct_ramt : mCT := fun as w K => ∃ c0 c1 c2 c3 c4 c5 ro ra rd ex c a, as = [.inr 6, .inl a] ∧ w = rW c0 c1 c2 c3 c4 c5 ro ra rd (nI c) ex ∧ c ≤ 32 ∧ K (some (.inl (sm (fun j => if ro j = a then ra j else 0) c))) w
def ct_rtot : mCT := fun as w K => ∃ c0 c1 c2 c3 c4 c5 ro ra rd ex c, as = [.inr 6] ∧ w = rW c0 c1 c2 c3 c4 c5 ro ra rd (nI c) ex ∧ c ≤ 32 ∧ K (some (.inl (sm ra c))) w
