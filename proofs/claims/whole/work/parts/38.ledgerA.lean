/-! The ledger's public methods (but keep and back). -/
abbrev rmX : Room := { frames := 6, cells := 1, slots := 6, locals := 180 }
def isR (a n : Int32) : Prop := 0 ≤ a ∧ a < n
def isV (v : Int32) : Prop := 1 ≤ v ∧ v ≤ 1000000
theorem isR_nat {a : Int32} {n : Nat} (hn : n < 2 ^ 31) (h : isR a (nI n)) : ∃ x, x < n ∧ a = nI x := by
  obtain ⟨h1, h2⟩ := h
  obtain ⟨x, hx, rfl⟩ := nI_of (Int32.not_lt.mpr h1)
  exact ⟨x, (nI_ltI hx hn).mp h2, rfl⟩
theorem isR_of {x n : Nat} (hx : x < n) (hn : n < 2 ^ 31) : isR (nI x) (nI n) := ⟨nI_pos' (by omega), nI_lt hx hn⟩
def ct_in (n : Int32) : mCT := fun as w K => ∃ a, as = [.inl a] ∧ (isR a n → K (some (.inl 1)) w) ∧ (¬ isR a n → K (some (.inl 0)) w)
theorem ct_in_i {a n : Int32} {w : mW} {K : Option mV → mW → Prop} (h1 : isR a n → K (some (.inl 1)) w) (h2 : ¬ isR a n → K (some (.inl 0)) w) : ct_in n [.inl a] w K := ⟨a, rfl, h1, h2⟩
def ct_isV : mCT := fun as w K => ∃ a, as = [.inl a] ∧ (isV a → K (some (.inl 1)) w) ∧ (¬ isV a → K (some (.inl 0)) w)
theorem ct_isV_i {a : Int32} {w : mW} {K : Option mV → mW → Prop} (h1 : isV a → K (some (.inl 1)) w) (h2 : ¬ isV a → K (some (.inl 0)) w) : ct_isV [.inl a] w K := ⟨a, rfl, h1, h2⟩
theorem cs_Le {E : mE} {cc : ByteArray} {a0 : Jvm.Cond} {rm : Room} (C : m_Cx E cc R_Le (a0 :: gw) nw rm) : ∀ q ∈ ([(133, 1000000), (170, 65535)] : List (Nat × Int32)), m_CstOk E q.1 q.2 R_Le := by
  obtain ⟨p, l, e, R, s, m, args, below, meth, c, cells, slots, Q, D, A, cI, cZ, ad, nL, N⟩ := E
  obtain ⟨hx, hb, hml, hown, hK, hD, hA, hts, hnw, hR, hc0, hs0⟩ := C
  exact m_one (hts _ (List.mem_cons_of_mem _ (m_ing (by decide +kernel) (by decide +kernel)))) (m_one (hts _ (List.mem_cons_of_mem _ (m_ing (by decide +kernel) (by decide +kernel)))) m_none)
set_option maxHeartbeats 4000000 in
theorem c_isAccount : m_Met true y_Le_isAccount ws_Le_isAccount nw (rmk 0) (ct_in 200) := by
  refine m_Met_of (by decide +kernel) (fun as w K h => by obtain ⟨_, rfl, _⟩ := h; exact Nat.le_of_ble_eq_true rfl) ?_
  intro E as w K C hm hret hct
  obtain ⟨a, rfl, hK1, hK2⟩ := hct
  have hT : m_TOk E c_Le_isAccount R_Le (true, [], [], [], [], []) (m_Rt (some .boolean) K) := ⟨(fun h => nomatch h), m_none, m_none, m_none, m_none, m_none, hret⟩
  refine m_walk C hT wf_Le_isAccount [] 20 ?_
  refine And.intro (fun h => And.intro (Or.inl rfl) (hK2 (fun z => absurd h (Int32.not_lt.mpr z.1)))) (fun h => ?_)
  exact And.intro (fun h2 => And.intro (Or.inl rfl) (hK2 (fun z => absurd z.2 (Int32.not_lt.mpr h2)))) (fun h2 => And.intro (Or.inr rfl) (hK1 ⟨Int32.not_lt.mp h, Int32.not_le.mp h2⟩))
set_option maxHeartbeats 4000000 in
theorem c_isFeeTaker : m_Met true y_Le_isFeeTaker ws_Le_isFeeTaker nw (rmk 0) (ct_in 16) := by
  refine m_Met_of (by decide +kernel) (fun as w K h => by obtain ⟨_, rfl, _⟩ := h; exact Nat.le_of_ble_eq_true rfl) ?_
  intro E as w K C hm hret hct
  obtain ⟨a, rfl, hK1, hK2⟩ := hct
  have hT : m_TOk E c_Le_isFeeTaker R_Le (true, [], [], [], [], []) (m_Rt (some .boolean) K) := ⟨(fun h => nomatch h), m_none, m_none, m_none, m_none, m_none, hret⟩
  refine m_walk C hT wf_Le_isFeeTaker [] 20 ?_
  refine And.intro (fun h => And.intro (Or.inl rfl) (hK2 (fun z => absurd h (Int32.not_lt.mpr z.1)))) (fun h => ?_)
  exact And.intro (fun h2 => And.intro (Or.inl rfl) (hK2 (fun z => absurd z.2 (Int32.not_lt.mpr h2)))) (fun h2 => And.intro (Or.inr rfl) (hK1 ⟨Int32.not_lt.mp h, Int32.not_le.mp h2⟩))
set_option maxHeartbeats 4000000 in
theorem c_isNode : m_Met true y_Le_isNode ws_Le_isNode nw (rmk 0) (ct_in 16) := by
  refine m_Met_of (by decide +kernel) (fun as w K h => by obtain ⟨_, rfl, _⟩ := h; exact Nat.le_of_ble_eq_true rfl) ?_
  intro E as w K C hm hret hct
  obtain ⟨a, rfl, hK1, hK2⟩ := hct
  have hT : m_TOk E c_Le_isNode R_Le (true, [], [], [], [], []) (m_Rt (some .boolean) K) := ⟨(fun h => nomatch h), m_none, m_none, m_none, m_none, m_none, hret⟩
  refine m_walk C hT wf_Le_isNode [] 20 ?_
  refine And.intro (fun h => And.intro (Or.inl rfl) (hK2 (fun z => absurd h (Int32.not_lt.mpr z.1)))) (fun h => ?_)
  exact And.intro (fun h2 => And.intro (Or.inl rfl) (hK2 (fun z => absurd z.2 (Int32.not_lt.mpr h2)))) (fun h2 => And.intro (Or.inr rfl) (hK1 ⟨Int32.not_lt.mp h, Int32.not_le.mp h2⟩))
set_option maxHeartbeats 4000000 in
theorem c_isKeptState : m_Met true y_Le_isKeptState ws_Le_isKeptState nw (rmk 0) (ct_in 8) := by
  refine m_Met_of (by decide +kernel) (fun as w K h => by obtain ⟨_, rfl, _⟩ := h; exact Nat.le_of_ble_eq_true rfl) ?_
  intro E as w K C hm hret hct
  obtain ⟨a, rfl, hK1, hK2⟩ := hct
  have hT : m_TOk E c_Le_isKeptState R_Le (true, [], [], [], [], []) (m_Rt (some .boolean) K) := ⟨(fun h => nomatch h), m_none, m_none, m_none, m_none, m_none, hret⟩
  refine m_walk C hT wf_Le_isKeptState [] 20 ?_
  refine And.intro (fun h => And.intro (Or.inl rfl) (hK2 (fun z => absurd h (Int32.not_lt.mpr z.1)))) (fun h => ?_)
  exact And.intro (fun h2 => And.intro (Or.inl rfl) (hK2 (fun z => absurd z.2 (Int32.not_lt.mpr h2)))) (fun h2 => And.intro (Or.inr rfl) (hK1 ⟨Int32.not_lt.mp h, Int32.not_le.mp h2⟩))
set_option maxHeartbeats 4000000 in
theorem c_isAmount : m_Met true y_Le_isAmount ws_Le_isAmount nw (rmk 0) ct_isV := by
  refine m_Met_of (by decide +kernel) (fun as w K h => by obtain ⟨_, rfl, _⟩ := h; exact Nat.le_of_ble_eq_true rfl) ?_
  intro E as w K C hm hret hct
  obtain ⟨a, rfl, hK1, hK2⟩ := hct
  have hT : m_TOk E c_Le_isAmount R_Le (true, [], [], [(133, 1000000), (170, 65535)], [], []) (m_Rt (some .boolean) K) := ⟨(fun h => nomatch h), m_none, m_none, cs_Le C, m_none, m_none, hret⟩
  refine m_walk C hT wf_Le_isAmount [] 20 ?_
  refine And.intro (fun h => And.intro (Or.inl rfl) (hK2 (fun z => absurd h (Int32.not_lt.mpr z.1)))) (fun h => ?_)
  exact And.intro (fun h2 => And.intro (Or.inl rfl) (hK2 (fun z => absurd h2 (Int32.not_lt.mpr z.2)))) (fun h2 => And.intro (Or.inr rfl) (hK1 ⟨Int32.not_lt.mp h, Int32.not_lt.mp h2⟩))
theorem ct_amt_i {c0 c1 : mC} {o nd am : Nat → Int32} {ex : mW} {c : Nat} {a n : Int32} {K : Option mV → mW → Prop} (hc : c ≤ 96) (h1 : ∀ i, fnd o nd c a n i → K (some (.inl (am i))) (bW c0 c1 o nd am (nI c) ex)) (h2 : nfd o nd c a n → K (some (.inl 0)) (bW c0 c1 o nd am (nI c) ex)) : ct_amt [.inr 2, .inl a, .inl n] (bW c0 c1 o nd am (nI c) ex) K := ⟨c0, c1, o, nd, am, ex, c, a, n, rfl, rfl, hc, h1, h2⟩
theorem ct_place_i {c0 c1 : mC} {o nd am : Nat → Int32} {ex : mW} {c : Nat} {a n : Int32} {K : Option mV → mW → Prop} (hc : c ≤ 96) (h1 : (c < 96 ∨ ∃ i, fnd o nd c a n i) → K (some (.inl 1)) (bW c0 c1 o nd am (nI c) ex)) (h2 : ¬ c < 96 → nfd o nd c a n → K (some (.inl 0)) (bW c0 c1 o nd am (nI c) ex)) : ct_place [.inr 2, .inl a, .inl n] (bW c0 c1 o nd am (nI c) ex) K := ⟨c0, c1, o, nd, am, ex, c, a, n, rfl, rfl, hc, h1, h2⟩
theorem ct_inc_i {c0 c1 : mC} {o nd am : Nat → Int32} {ex : mW} {c : Nat} {a n v : Int32} {K : Option mV → mW → Prop} (hc : c ≤ 96) (h1 : ∀ i, fnd o nd c a n i → K none (bW c0 c1 o nd (upd am i (am i + v)) (nI c) ex)) (h2 : nfd o nd c a n → c < 96 ∧ K none (bW c0 c1 (upd o c a) (upd nd c n) (upd am c v) (nI (c + 1)) ex)) : ct_inc [.inr 2, .inl a, .inl n, .inl v] (bW c0 c1 o nd am (nI c) ex) K := ⟨c0, c1, o, nd, am, ex, c, a, n, v, rfl, rfl, hc, h1, h2⟩
theorem ct_dec_i {c0 c1 : mC} {o nd am : Nat → Int32} {ex : mW} {c : Nat} {a n v : Int32} {K : Option mV → mW → Prop} (hc : c < 96) (h1 : ∀ i, fnd o nd (c + 1) a n i → (am i - v = 0 → K none (bW c0 c1 (upd o i (o c)) (upd nd i (nd c)) (upd (upd am i (am i - v)) i (upd am i (am i - v) c)) (nI c) ex)) ∧ (¬ am i - v = 0 → K none (bW c0 c1 o nd (upd am i (am i - v)) (nI (c + 1)) ex))) (h2 : ¬ nfd o nd (c + 1) a n) : ct_dec [.inr 2, .inl a, .inl n, .inl v] (bW c0 c1 o nd am (nI (c + 1)) ex) K := ⟨c0, c1, o, nd, am, ex, c, a, n, v, rfl, rfl, hc, h1, h2⟩
theorem ct_cut_i {c0 c1 : mC} {o nd am : Nat → Int32} {ex : mW} {c : Nat} {n : Int32} {K : Option mV → mW → Prop} (hc : c ≤ 96) (h : ∀ am', (∀ j, am' j = if j < c ∧ nd j = n then am j - am j / 4 else am j) → K (some (.inl (sm (fun j => if nd j = n then am j / 4 else 0) c))) (bW c0 c1 o nd am' (nI c) ex)) : ct_cut [.inr 2, .inl n] (bW c0 c1 o nd am (nI c) ex) K := ⟨c0, c1, o, nd, am, ex, c, n, rfl, rfl, hc, h⟩
theorem ct_app_i {c0 c1 c2 c3 c4 c5 : mC} {ro ra rd : Nat → Int32} {ex : mW} {c : Nat} {a v h : Int32} {K : Option mV → mW → Prop} (hc : c < 32) (h1 : K none (rW c0 c1 c2 c3 c4 c5 (upd ro c a) (upd ra c v) (upd rd c h) (nI (c + 1)) ex)) : ct_app [.inr 6, .inl a, .inl v, .inl h] (rW c0 c1 c2 c3 c4 c5 ro ra rd (nI c) ex) K := ⟨c0, c1, c2, c3, c4, c5, ro, ra, rd, ex, c, a, v, h, rfl, rfl, hc, h1⟩
theorem ct_ramt_i {c0 c1 c2 c3 c4 c5 : mC} {ro ra rd : Nat → Int32} {ex : mW} {c : Nat} {a : Int32} {K : Option mV → mW → Prop} (hc : c ≤ 32) (h1 : K (some (.inl (sm (fun j => if ro j = a then ra j else 0) c))) (rW c0 c1 c2 c3 c4 c5 ro ra rd (nI c) ex)) : ct_ramt [.inr 6, .inl a] (rW c0 c1 c2 c3 c4 c5 ro ra rd (nI c) ex) K := ⟨c0, c1, c2, c3, c4, c5, ro, ra, rd, ex, c, a, rfl, rfl, hc, h1⟩
theorem ct_rel_i {c0 c2 c3 c4 c5 : mC} {bal ro ra rd : Nat → Int32} {ex : mW} {l : List (Nat × Int32 × Int32)} {h : Int32} {K : Option mV → mW → Prop} (h1 : l.length ≤ 32) (h2 : hd l ro ra rd) (h3 : ∀ r ∈ l, r.1 < 200) (h4 : ∀ ro' ra' rd', hd (a_left h l) ro' ra' rd' → K (some (.inl (nI (l.length - (a_left h l).length)))) (rW c0 (.inl (false, 200, a_rel h l bal)) c2 c3 c4 c5 ro' ra' rd' (nI (a_left h l).length) ex)) : ct_rel [.inr 6, .inl h, .inr 1] (rW c0 (.inl (false, 200, bal)) c2 c3 c4 c5 ro ra rd (nI l.length) ex) K := ⟨c0, c2, c3, c4, c5, bal, ro, ra, rd, ex, l, h, rfl, rfl, h1, h2, h3, h4⟩
theorem ct_amt_r : ∀ as w K, ct_amt as w K → ∃ a r fs, as = .inr a :: r ∧ w[a]? = some (.inr (1, fs)) := by
  intro as w K h
  obtain ⟨_, _, _, _, _, _, _, _, _, rfl, rfl, _⟩ := h
  exact ⟨2, _, _, rfl, rfl⟩
theorem ct_place_r : ∀ as w K, ct_place as w K → ∃ a r fs, as = .inr a :: r ∧ w[a]? = some (.inr (1, fs)) := by
  intro as w K h
  obtain ⟨_, _, _, _, _, _, _, _, _, rfl, rfl, _⟩ := h
  exact ⟨2, _, _, rfl, rfl⟩
theorem ct_inc_r : ∀ as w K, ct_inc as w K → ∃ a r fs, as = .inr a :: r ∧ w[a]? = some (.inr (1, fs)) := by
  intro as w K h
  obtain ⟨_, _, _, _, _, _, _, _, _, _, rfl, rfl, _⟩ := h
  exact ⟨2, _, _, rfl, rfl⟩
theorem ct_dec_r : ∀ as w K, ct_dec as w K → ∃ a r fs, as = .inr a :: r ∧ w[a]? = some (.inr (1, fs)) := by
  intro as w K h
  obtain ⟨_, _, _, _, _, _, _, _, _, _, rfl, rfl, _⟩ := h
  exact ⟨2, _, _, rfl, rfl⟩
theorem ct_cut_r : ∀ as w K, ct_cut as w K → ∃ a r fs, as = .inr a :: r ∧ w[a]? = some (.inr (1, fs)) := by
  intro as w K h
  obtain ⟨_, _, _, _, _, _, _, _, rfl, rfl, _⟩ := h
  exact ⟨2, _, _, rfl, rfl⟩
theorem ct_app_r : ∀ as w K, ct_app as w K → ∃ a r fs, as = .inr a :: r ∧ w[a]? = some (.inr (2, fs)) := by
  intro as w K h
  obtain ⟨_, _, _, _, _, _, _, _, _, _, _, _, _, _, rfl, rfl, _⟩ := h
  exact ⟨6, _, _, rfl, rfl⟩
theorem ct_ramt_r : ∀ as w K, ct_ramt as w K → ∃ a r fs, as = .inr a :: r ∧ w[a]? = some (.inr (2, fs)) := by
  intro as w K h
  obtain ⟨_, _, _, _, _, _, _, _, _, _, _, _, rfl, rfl, _⟩ := h
  exact ⟨6, _, _, rfl, rfl⟩
theorem ct_rel_r : ∀ as w K, ct_rel as w K → ∃ a r fs, as = .inr a :: r ∧ w[a]? = some (.inr (2, fs)) := by
  intro as w K h
  obtain ⟨_, _, _, _, _, _, _, _, _, _, _, _, rfl, rfl, _⟩ := h
  exact ⟨6, _, _, rfl, rfl⟩
theorem fnd_uniq {o nd : Nat → Int32} {c : Nat} {a n : Int32} {i j : Nat} (h1 : fnd o nd c a n i) (h2 : fnd o nd c a n j) : i = j := by
  obtain ⟨a1, a2, a3, a4⟩ := h1
  obtain ⟨b1, b2, b3, b4⟩ := h2
  rcases Nat.lt_trichotomy i j with h | h | h
  · exact absurd ⟨a2, a3⟩ (b4 i h)
  · exact h
  · exact absurd ⟨b2, b3⟩ (a4 j h)
theorem fnd_nfd {o nd : Nat → Int32} {c : Nat} {a n : Int32} {i : Nat} (h1 : fnd o nd c a n i) (h2 : nfd o nd c a n) : False := h2 i h1.1 ⟨h1.2.1, h1.2.2.1⟩
theorem fnd_new {o nd : Nat → Int32} {c : Nat} {a n : Int32} (h : nfd o nd c a n) : fnd (upd o c a) (upd nd c n) (c + 1) a n c := ⟨by omega, by simp [upd], by simp [upd], fun j hj => by simpa [upd, Nat.ne_of_lt hj] using h j hj⟩
def lW (bal o nd am ro ra rd pv : Nat → Int32) (bc rc h j bu : Int32) (ex : mW) : mW := sW bal o nd am ro ra rd pv bc rc h j bu (.inr (3, [.inr 0, .inr 12]) :: ex)
theorem sx_32 : Jvm.Cond.stringRef R_Le 32 "no such account or amount" ∈ xw := m_inx (by decide +kernel) (by decide +kernel)
theorem sx_43 : Jvm.Cond.stringRef R_Le 43 "the balance is not enough" ∈ xw := m_inx (by decide +kernel) (by decide +kernel)
theorem sx_57 : Jvm.Cond.stringRef R_Le 57 "no such account, node or amount" ∈ xw := m_inx (by decide +kernel) (by decide +kernel)
theorem sx_69 : Jvm.Cond.stringRef R_Le 69 "there are too many bonds" ∈ xw := m_inx (by decide +kernel) (by decide +kernel)
theorem sx_79 : Jvm.Cond.stringRef R_Le 79 "there is no fee" ∈ xw := m_inx (by decide +kernel) (by decide +kernel)
theorem sx_81 : Jvm.Cond.stringRef R_Le 81 "the bond is not enough" ∈ xw := m_inx (by decide +kernel) (by decide +kernel)
theorem sx_93 : Jvm.Cond.stringRef R_Le 93 "there are too many returns" ∈ xw := m_inx (by decide +kernel) (by decide +kernel)
theorem sx_108 : Jvm.Cond.stringRef R_Le 108 "no such account or node" ∈ xw := m_inx (by decide +kernel) (by decide +kernel)
theorem sx_113 : Jvm.Cond.stringRef R_Le 113 "the node is not jailed" ∈ xw := m_inx (by decide +kernel) (by decide +kernel)
theorem sx_125 : Jvm.Cond.stringRef R_Le 125 "the height is too high, or not above the proved one" ∈ xw := m_inx (by decide +kernel) (by decide +kernel)
theorem sx_134 : Jvm.Cond.stringRef R_Le 134 "the height is the last one" ∈ xw := m_inx (by decide +kernel) (by decide +kernel)
theorem sx_145 : Jvm.Cond.stringRef R_Le 145 "no such kept state" ∈ xw := m_inx (by decide +kernel) (by decide +kernel)
theorem sx_155 : Jvm.Cond.stringRef R_Le 155 "no such account" ∈ xw := m_inx (by decide +kernel) (by decide +kernel)
theorem sx_157 : Jvm.Cond.stringRef R_Le 157 "an account has no such thing" ∈ xw := m_inx (by decide +kernel) (by decide +kernel)
theorem sx_166 : Jvm.Cond.stringRef R_Le 166 "there is no such sum" ∈ xw := m_inx (by decide +kernel) (by decide +kernel)
theorem sx_168 : Jvm.Cond.stringRef R_Le 168 "no such height or round" ∈ xw := m_inx (by decide +kernel) (by decide +kernel)
def cx_pay : mCX := fun as w K X => ∃ bal o nd am ro ra rd pv bc rc h j bu ex a b v p, as = [.inr 11, .inl a, .inl b, .inl v, .inl p] ∧ w = lW bal o nd am ro ra rd pv bc rc h j bu ex ∧ (¬ (isR a 200 ∧ isR b 200 ∧ isV v ∧ isR p 16) → X 0 w) ∧
  (∀ x y q : Nat, x < 200 → y < 200 → q < 16 → isV v → a = nI x → b = nI y → p = nI q → (¬ affR bal x v p → X 1 w) ∧ (affR bal x v p → K (some (.inl (a_pay (a_fee bal x q) x y v x))) (lW (a_pay (a_fee bal x q) x y v) o nd am ro ra rd pv bc rc h j bu ex)))
theorem dx_pay_29 : m_dec5 c_Le_pay 29 30 32 34 := ⟨by decide +kernel, by decide +kernel, by decide +kernel, by decide +kernel, by decide +kernel⟩
theorem dx_pay_53 : m_dec5 c_Le_pay 53 41 43 45 := ⟨by decide +kernel, by decide +kernel, by decide +kernel, by decide +kernel, by decide +kernel⟩
set_option maxHeartbeats 8000000 in
theorem x_pay : m_MetX y_Le_pay ws_Le_pay rmX cx_pay := by
  refine m_MetX_of (by decide +kernel) (fun as w K X h => by obtain ⟨_, _, _, _, _, _, _, _, _, _, _, _, _, _, _, _, _, _, rfl, _⟩ := h; exact Nat.le_of_ble_eq_true rfl) ⟨rfl, rfl, by decide, by decide⟩ ?_
  intro E as w K X C hm hret hx hct
  obtain ⟨bal, o, nd, am, ro, ra, rd, pv, bc, rc, h, j, bu, ex, a, b, v, p, rfl, rfl, hX0, hK⟩ := hct
  have hT : m_TOk E c_Le_pay R_Le (false, fl_Le, fp_Le, [(133, 1000000), (170, 65535)], [(1, 20, 1, ct_in 200), (1, 24, 1, ct_isV), (1, 27, 1, ct_in 16), (0, 37, 4, ct_aff), (0, 46, 3, ct_fee)], [(29, 0), (53, 1)]) (m_RtX (some .int) K X) := ⟨(fun _ => hm), get_Le C, put_Le C, cs_Le C, (m_one (ca_Le_20 (pb := true) C (fun h => nomatch h) c_isAccount rfl rfl ⟨by decide, by decide⟩) (m_one (ca_Le_24 (pb := true) C (fun h => nomatch h) c_isAmount rfl rfl ⟨by decide, by decide⟩) (m_one (ca_Le_27 (pb := true) C (fun h => nomatch h) c_isFeeTaker rfl rfl ⟨by decide, by decide⟩) (m_one (ca_Le_37 (pb := true) C (fun h => nomatch h) c_aff rfl rfl ct_aff_r ⟨by decide, by decide⟩) (m_one (ca_Le_46 (pb := false) C (fun _ => hm) c_fee rfl rfl ct_fee_r ⟨by decide, by decide⟩) m_none))))), (m_one (hx 29 0 30 32 34 _ xk_0 sx_32 dx_pay_29) (m_one (hx 53 1 41 43 45 _ xk_1 sx_43 dx_pay_53) m_none)), hret⟩
  refine m_walk C hT wf_Le_pay [] 80 ?_
  refine m_c0 <| ct_in_i (fun h1 => ?_) (fun h1 => And.intro (fun _ => hX0 (fun z => h1 z.1)) (fun z => absurd rfl z))
  refine And.intro (fun z => absurd z (by decide)) (fun _ => ?_)
  refine m_c0 <| ct_in_i (fun h2 => ?_) (fun h2 => And.intro (fun _ => hX0 (fun z => h2 z.2.1)) (fun z => absurd rfl z))
  refine And.intro (fun z => absurd z (by decide)) (fun _ => ?_)
  refine m_c0 <| ct_isV_i (fun h3 => ?_) (fun h3 => And.intro (fun _ => hX0 (fun z => h3 z.2.2.1)) (fun z => absurd rfl z))
  refine And.intro (fun z => absurd z (by decide)) (fun _ => ?_)
  refine m_c0 <| ct_in_i (fun h4 => ?_) (fun h4 => And.intro (fun z => absurd rfl z) (fun _ => hX0 (fun z => h4 z.2.2.2)))
  refine And.intro (fun _ => ?_) (fun z => absurd z (by decide))
  obtain ⟨x, hx0, rfl⟩ := isR_nat (n := 200) (by decide) h1
  obtain ⟨y, hy0, rfl⟩ := isR_nat (n := 200) (by decide) h2
  obtain ⟨q, hq0, rfl⟩ := isR_nat (n := 16) (by decide) h4
  obtain ⟨hX1, hK1⟩ := hK x y q hx0 hy0 hq0 h3 rfl rfl rfl
  refine m_c0 <| ct_aff_i hx0 (fun h5 => ?_) (fun h5 => And.intro (fun z => absurd rfl z) (fun _ => hX1 h5))
  refine And.intro (fun _ => ?_) (fun z => absurd z (by decide))
  refine m_c0 <| ct_fee_i hx0 (by omega) ?_
  exact m_ix hx0 (m_ix hx0 (m_ix hy0 (m_ix hy0 (m_ix hx0 (hK1 h5)))))
def cx_bond : mCX := fun as w K X => ∃ bal o nd am ro ra rd pv c rc h j bu ex a b v p, as = [.inr 11, .inl a, .inl b, .inl v, .inl p] ∧ w = lW bal o nd am ro ra rd pv (nI c) rc h j bu ex ∧ c ≤ 96 ∧ (¬ (isR a 200 ∧ isR b 16 ∧ isV v ∧ isR p 16) → X 0 w) ∧
  (∀ x y q : Nat, x < 200 → y < 16 → q < 16 → isV v → a = nI x → b = nI y → p = nI q → ((¬ affR bal x v p ∨ (¬ c < 96 ∧ nfd o nd c a b)) → X 1 w) ∧ (affR bal x v p →
    (∀ i, fnd o nd c a b i → K (some (.inl (am i + v))) (lW (upd (a_fee bal x q) x (a_fee bal x q x - v)) o nd (upd am i (am i + v)) ro ra rd pv (nI c) rc h j bu ex)) ∧
    (nfd o nd c a b → c < 96 → K (some (.inl v)) (lW (upd (a_fee bal x q) x (a_fee bal x q x - v)) (upd o c a) (upd nd c b) (upd am c v) ro ra rd pv (nI (c + 1)) rc h j bu ex))))
theorem dx_bond_29 : m_dec5 c_Le_bond 29 30 57 34 := ⟨by decide +kernel, by decide +kernel, by decide +kernel, by decide +kernel, by decide +kernel⟩
theorem dx_bond_53 : m_dec5 c_Le_bond 53 41 43 45 := ⟨by decide +kernel, by decide +kernel, by decide +kernel, by decide +kernel, by decide +kernel⟩
theorem dx_bond_78 : m_dec5 c_Le_bond 78 41 69 45 := ⟨by decide +kernel, by decide +kernel, by decide +kernel, by decide +kernel, by decide +kernel⟩
set_option maxHeartbeats 8000000 in
theorem x_bond : m_MetX y_Le_bond ws_Le_bond rmX cx_bond := by
  refine m_MetX_of (by decide +kernel) (fun as w K X h => by obtain ⟨_, _, _, _, _, _, _, _, _, _, _, _, _, _, _, _, _, _, rfl, _⟩ := h; exact Nat.le_of_ble_eq_true rfl) ⟨rfl, rfl, by decide, by decide⟩ ?_
  intro E as w K X C hm hret hx hct
  obtain ⟨bal, o, nd, am, ro, ra, rd, pv, c, rc, h, j, bu, ex, a, b, v, p, rfl, rfl, hc, hX0, hK⟩ := hct
  have hT : m_TOk E c_Le_bond R_Le (false, fl_Le, fp_Le, [(133, 1000000), (170, 65535)], [(1, 20, 1, ct_in 200), (1, 54, 1, ct_in 16), (1, 24, 1, ct_isV), (1, 27, 1, ct_in 16), (0, 37, 4, ct_aff), (0, 63, 3, ct_place), (0, 46, 3, ct_fee), (0, 71, 4, ct_inc), (0, 75, 3, ct_amt)], [(29, 0), (53, 1), (78, 1)]) (m_RtX (some .int) K X) := ⟨(fun _ => hm), get_Le C, put_Le C, cs_Le C, (m_one (ca_Le_20 (pb := true) C (fun h => nomatch h) c_isAccount rfl rfl ⟨by decide, by decide⟩) (m_one (ca_Le_54 (pb := true) C (fun h => nomatch h) c_isNode rfl rfl ⟨by decide, by decide⟩) (m_one (ca_Le_24 (pb := true) C (fun h => nomatch h) c_isAmount rfl rfl ⟨by decide, by decide⟩) (m_one (ca_Le_27 (pb := true) C (fun h => nomatch h) c_isFeeTaker rfl rfl ⟨by decide, by decide⟩) (m_one (ca_Le_37 (pb := true) C (fun h => nomatch h) c_aff rfl rfl ct_aff_r ⟨by decide, by decide⟩) (m_one (ca_Le_63 (pb := true) C (fun h => nomatch h) c_place rfl rfl ct_place_r ⟨by decide, by decide⟩) (m_one (ca_Le_46 (pb := false) C (fun _ => hm) c_fee rfl rfl ct_fee_r ⟨by decide, by decide⟩) (m_one (ca_Le_71 (pb := false) C (fun _ => hm) c_inc rfl rfl ct_inc_r ⟨by decide, by decide⟩) (m_one (ca_Le_75 (pb := true) C (fun h => nomatch h) c_amt rfl rfl ct_amt_r ⟨by decide, by decide⟩) m_none))))))))), (m_one (hx 29 0 30 57 34 _ xk_0 sx_57 dx_bond_29) (m_one (hx 53 1 41 43 45 _ xk_1 sx_43 dx_bond_53) (m_one (hx 78 1 41 69 45 _ xk_1 sx_69 dx_bond_78) m_none))), hret⟩
  refine m_walk C hT wf_Le_bond [] 80 ?_
  refine m_c0 <| ct_in_i (fun h1 => ?_) (fun h1 => And.intro (fun _ => hX0 (fun z => h1 z.1)) (fun z => absurd rfl z))
  refine And.intro (fun z => absurd z (by decide)) (fun _ => ?_)
  refine m_c0 <| ct_in_i (fun h2 => ?_) (fun h2 => And.intro (fun _ => hX0 (fun z => h2 z.2.1)) (fun z => absurd rfl z))
  refine And.intro (fun z => absurd z (by decide)) (fun _ => ?_)
  refine m_c0 <| ct_isV_i (fun h3 => ?_) (fun h3 => And.intro (fun _ => hX0 (fun z => h3 z.2.2.1)) (fun z => absurd rfl z))
  refine And.intro (fun z => absurd z (by decide)) (fun _ => ?_)
  refine m_c0 <| ct_in_i (fun h4 => ?_) (fun h4 => And.intro (fun z => absurd rfl z) (fun _ => hX0 (fun z => h4 z.2.2.2)))
  refine And.intro (fun _ => ?_) (fun z => absurd z (by decide))
  obtain ⟨x, hx0, rfl⟩ := isR_nat (n := 200) (by decide) h1
  obtain ⟨y, hy0, rfl⟩ := isR_nat (n := 16) (by decide) h2
  obtain ⟨q, hq0, rfl⟩ := isR_nat (n := 16) (by decide) h4
  obtain ⟨hX1, hK1⟩ := hK x y q hx0 hy0 hq0 h3 rfl rfl rfl
  refine m_c0 <| ct_aff_i hx0 (fun h5 => ?_) (fun h5 => And.intro (fun z => absurd rfl z) (fun _ => hX1 (.inl h5)))
  refine And.intro (fun _ => ?_) (fun z => absurd z (by decide))
  obtain ⟨hK2, hK3⟩ := hK1 h5
  refine m_c0 <| ct_place_i hc (fun h6 => ?_) (fun h6 h7 => And.intro (fun z => absurd rfl z) (fun _ => hX1 (.inr ⟨h6, h7⟩)))
  refine And.intro (fun _ => ?_) (fun z => absurd z (by decide))
  refine m_c0 <| ct_fee_i hx0 (by omega) ?_
  refine m_ix hx0 (m_ix hx0 ?_)
  refine m_c0 <| ct_inc_i hc (fun i hi => ?_) (fun hn => ?_)
  · refine m_c0 <| ct_amt_i hc (fun i' hi' => ?_) (fun hn => (fnd_nfd hi hn).elim)
    have := fnd_uniq hi hi'
    subst this
    have e : upd am i (am i + v) i = am i + v := by simp [upd]
    have h9 := hK2 i hi
    rw [show (some (Sum.inl (am i + v)) : Option mV) = some (.inl (upd am i (am i + v) i)) by rw [e]] at h9
    exact h9
  · have hlt : c < 96 := by
      rcases h6 with h6 | ⟨i, hi⟩
      · exact h6
      · exact (fnd_nfd hi hn).elim
    refine ⟨hlt, ?_⟩
    refine m_c0 <| ct_amt_i (by omega) (fun i' hi' => ?_) (fun hn' => (fnd_nfd (fnd_new hn) hn').elim)
    have := fnd_uniq (fnd_new hn) hi'
    subst this
    have e : upd am c v c = v := by simp [upd]
    have h9 := hK3 hn hlt
    rw [show (some (Sum.inl v) : Option mV) = some (.inl (upd am c v c)) by rw [e]] at h9
    exact h9
