/-! The model's inner methods: cells 0 the model, 1 to 6 the log (kind, a, b, v, p, before), 7 kept, 8 balances, 9 bonds, 10 proved, 11 to 13 returns, 14 path, 15 jailed. -/
def mM (kd ka kb kv kp bf kt bal bd pv ra rm rd pt jl : Nat → Int32) (en nw wk rc bu h gn th : Int32) : mW := [.inr (4, [.inr 1, .inr 2, .inr 3, .inr 4, .inr 5, .inr 6, .inl en, .inl nw, .inr 7, .inl wk, .inr 8, .inr 9, .inr 10, .inr 11, .inr 12, .inr 13, .inr 14, .inr 15, .inl rc, .inl bu, .inl h, .inl gn, .inl th]),
  .inl (false, 4200, kd), .inl (false, 4200, ka), .inl (false, 4200, kb), .inl (false, 4200, kv), .inl (false, 4200, kp), .inl (false, 4200, bf), .inl (false, 8, kt), .inl (false, 200, bal), .inl (false, 3200, bd), .inl (false, 16, pv), .inl (false, 32, ra), .inl (false, 32, rm), .inl (false, 32, rd), .inl (false, 4200, pt), .inl (true, 16, jl)]
def eqn (n : Nat) (f g : Nat → Int32) : Prop := ∀ i, i < n → f i = g i
theorem eqn_upd {n k : Nat} {f g : Nat → Int32} {x y : Int32} (h : eqn n f g) (e : x = y) : eqn n (upd f k x) (upd g k y) := by
  intro i hi
  by_cases z : i = k
  · simp [upd, z, e]
  · simp only [upd, z, if_false]
    exact h i hi
def jlI (b : Bool) : Int32 := if b then 1 else 0
/-- what the model has worked out is the state s -/
def RM (s : aS) (bal bd pv jl ra rm rd : Nat → Int32) (rc bu h : Int32) : Prop :=
  eqn 200 bal s.1 ∧ eqn 3200 bd s.2.1 ∧ hd s.2.2.1 ra rm rd ∧ rc = nI s.2.2.1.length ∧ eqn 16 pv s.2.2.2.1 ∧ (∀ n, n < 16 → jl n = jlI (s.2.2.2.2.1 n)) ∧ bu = s.2.2.2.2.2.1 ∧ h = s.2.2.2.2.2.2
/-- returns are few, and of accounts -/
def aI (s : aS) : Prop := s.2.2.1.length ≤ 32 ∧ ∀ r ∈ s.2.2.1, r.1 < 200
theorem ix16 (x y : Nat) : (16 : Int32) * nI x + nI y = nI (16 * x + y) := by
  show nI 16 * nI x + nI y = _
  rw [pk_mul, nI_add]
def ct_in3 : mCT := fun as w K => ∃ a b c, as = [.inl a, .inl b, .inl c] ∧ ((b ≤ a ∧ a ≤ c) → K (some (.inl 1)) w) ∧ (¬ (b ≤ a ∧ a ≤ c) → K (some (.inl 0)) w)
theorem ct_in3_i {a b c : Int32} {w : mW} {K : Option mV → mW → Prop} (h1 : (b ≤ a ∧ a ≤ c) → K (some (.inl 1)) w) (h2 : ¬ (b ≤ a ∧ a ≤ c) → K (some (.inl 0)) w) : ct_in3 [.inl a, .inl b, .inl c] w K := ⟨a, b, c, rfl, h1, h2⟩
set_option maxHeartbeats 4000000 in
theorem c_min : m_Met true y_Mo_in ws_Mo_in nw (rmk 0) ct_in3 := by
  refine m_Met_of (by decide +kernel) (fun as w K h => by obtain ⟨_, _, _, rfl, _⟩ := h; exact Nat.le_of_ble_eq_true rfl) ?_
  intro E as w K C hm hret hct
  obtain ⟨a, b, c, rfl, hK1, hK2⟩ := hct
  have hT : m_TOk E c_Mo_in R_Mo (true, [], [], [], [], []) (m_Rt (some .boolean) K) := ⟨(fun h => nomatch h), m_none, m_none, m_none, m_none, m_none, hret⟩
  refine m_walk C hT wf_Mo_in [] 20 ?_
  refine And.intro (fun h => And.intro (Or.inl rfl) (hK2 (fun z => absurd h (Int32.not_lt.mpr z.1)))) (fun h => ?_)
  exact And.intro (fun h2 => And.intro (Or.inl rfl) (hK2 (fun z => absurd h2 (Int32.not_lt.mpr z.2)))) (fun h2 => And.intro (Or.inr rfl) (hK1 ⟨Int32.not_lt.mp h, Int32.not_lt.mp h2⟩))
/-- the first state worked out -/
def ct_first : mCT := fun as w K => ∃ kd ka kb kv kp bf kt bal bd pv ra rm rd pt jl en nw wk rc bu h gn th, as = [.inr 0] ∧ w = mM kd ka kb kv kp bf kt bal bd pv ra rm rd pt jl en nw wk rc bu h gn th ∧ ∀ bal' bd' pv' jl', RM a_0 bal' bd' pv' jl' ra rm rd 0 0 0 → K none (mM kd ka kb kv kp bf kt bal' bd' pv' ra rm rd pt jl' en nw 0 0 0 0 gn th)
theorem ct_first_i {kd ka kb kv kp bf kt bal bd pv ra rm rd pt jl : Nat → Int32} {en nw wk rc bu h gn th : Int32} {K : Option mV → mW → Prop} (hk : ∀ bal' bd' pv' jl', RM a_0 bal' bd' pv' jl' ra rm rd 0 0 0 → K none (mM kd ka kb kv kp bf kt bal' bd' pv' ra rm rd pt jl' en nw 0 0 0 0 gn th)) : ct_first [.inr 0] (mM kd ka kb kv kp bf kt bal bd pv ra rm rd pt jl en nw wk rc bu h gn th) K := ⟨kd, ka, kb, kv, kp, bf, kt, bal, bd, pv, ra, rm, rd, pt, jl, en, nw, wk, rc, bu, h, gn, th, rfl, rfl, hk⟩
theorem ct_first_r : ∀ as w K, ct_first as w K → ∃ a r fs, as = .inr a :: r ∧ w[a]? = some (.inr (4, fs)) := by
  intro as w K h
  obtain ⟨_, _, _, _, _, _, _, _, _, _, _, _, _, _, _, _, _, _, _, _, _, _, _, rfl, rfl, _⟩ := h
  exact ⟨0, _, _, rfl, rfl⟩
set_option maxHeartbeats 8000000 in
theorem c_first : m_Met false y_Mo_first ws_Mo_first nw (rmk 0) ct_first := by
  refine m_Met_of (by decide +kernel) (fun as w K h => by obtain ⟨_, _, _, _, _, _, _, _, _, _, _, _, _, _, _, _, _, _, _, _, _, _, _, rfl, _⟩ := h; exact Nat.le_of_ble_eq_true rfl) ?_
  intro E as w K C hm hret hct
  obtain ⟨kd, ka, kb, kv, kp, bf, kt, bal, bd, pv, ra, rm, rd, pt, jl, en, nw, wk, rc, bu, h, gn, th, rfl, rfl, hK⟩ := hct
  have hT : m_TOk E c_Mo_first R_Mo (false, fl_Mo, fp_Mo, [], [], []) (m_Rt none K) := ⟨hm, get_Mo C, put_Mo C, m_none, m_none, m_none, hret⟩
  have loop3 : ∀ n lo st w, (∃ j bal' bd' pv' jl', n = 16 - j ∧ j ≤ 16 ∧ lo = [some (.inr 0), some (.inl (nI j))] ∧ st = [] ∧ w = mM kd ka kb kv kp bf kt bal' bd' pv' ra rm rd pt jl' en nw wk rc bu h gn th ∧ (∀ k, k < 200 → bal' k = 1000) ∧ (∀ k, k < 3200 → bd' k = if k / 16 = k % 16 ∧ k / 16 < j then 100 else 0) ∧ (∀ k, k < j → pv' k = 0) ∧ (∀ k, k < j → jl' k = 0)) → m_W E 48 lo st w := by
    refine m_loop (fun n lo st w hI ih => ?_)
    obtain ⟨j, bal', bd', pv', jl', rfl, hj, rfl, rfl, rfl, g1, g2, g3, g4⟩ := hI
    refine m_walk C hT wf_Mo_first [2, 26, 48] 60 ?_
    refine And.intro (fun h1 => ?_) (fun h1 => ?_)
    · have : j = 16 := nI_lit (n := 16) (by omega) hj h1
      subst this
      refine hK bal' bd' pv' jl' ⟨fun i hi => g1 i hi, fun k hk => ?_, fun q r hq => by simp [a_0] at hq, rfl, fun i hi => g3 i hi, fun i hi => g4 i hi, rfl, rfl⟩
      rw [g2 k hk]
      show _ = if k / 16 = k % 16 then (100 : Int32) else 0
      have : (k / 16 = k % 16 ∧ k / 16 < 16) ↔ k / 16 = k % 16 := ⟨fun z => z.1, fun z => ⟨z, by omega⟩⟩
      simp only [this]
    · have hlt : j < 16 := nI_lt_of (b := 16) (by omega) (by omega) h1
      refine m_ixe (ix16 j j) (by omega) (m_ix hlt (m_ix hlt ?_))
      refine ih (16 - (j + 1)) _ _ _ (by omega) ⟨j + 1, bal', upd bd' (16 * j + j) 100, upd pv' j 0, upd jl' j (vp_nar .boolean 0), rfl, hlt, by rw [nI_succ j], rfl, rfl, g1, fun k hk => ?_, fun k hk => ?_, fun k hk => ?_⟩
      · by_cases e : k = 16 * j + j
        · subst e
          show (if 16 * j + j = 16 * j + j then (100 : Int32) else _) = _
          rw [if_pos rfl, if_pos ⟨by omega, by omega⟩]
        · simp only [upd, e, if_false]
          rw [g2 k hk]
          have : (k / 16 = k % 16 ∧ k / 16 < j + 1) ↔ (k / 16 = k % 16 ∧ k / 16 < j) := by
            constructor
            · exact fun z => ⟨z.1, by omega⟩
            · exact fun z => ⟨z.1, by omega⟩
          simp only [this]
      · by_cases e : k = j
        · simp [upd, e]
        · simp only [upd, e, if_false]
          exact g3 k (by omega)
      · by_cases e : k = j
        · simp only [upd, e, if_true]
          decide
        · simp only [upd, e, if_false]
          exact g4 k (by omega)
  have loop2 : ∀ n lo st w, (∃ j bal' bd', n = 3200 - j ∧ j ≤ 3200 ∧ lo = [some (.inr 0), some (.inl (nI j))] ∧ st = [] ∧ w = mM kd ka kb kv kp bf kt bal' bd' pv ra rm rd pt jl en nw wk rc bu h gn th ∧ (∀ k, k < 200 → bal' k = 1000) ∧ (∀ k, k < j → bd' k = 0)) → m_W E 26 lo st w := by
    refine m_loop (fun n lo st w hI ih => ?_)
    obtain ⟨j, bal', bd', rfl, hj, rfl, rfl, rfl, g1, g2⟩ := hI
    refine m_walk C hT wf_Mo_first [2, 26, 48] 60 ?_
    refine And.intro (fun h1 => ?_) (fun h1 => ?_)
    · have : j = 3200 := nI_lit (n := 3200) (by omega) hj h1
      subst this
      exact loop3 16 _ _ _ ⟨0, bal', bd', pv, jl, rfl, Nat.zero_le _, rfl, rfl, rfl, g1, fun k hk => by rw [g2 k hk, if_neg (fun z => absurd z.2 (Nat.not_lt_zero _))], fun k hk => absurd hk (Nat.not_lt_zero k), fun k hk => absurd hk (Nat.not_lt_zero k)⟩
    · have hlt : j < 3200 := nI_lt_of (b := 3200) (by omega) (by omega) h1
      refine m_ix hlt ?_
      refine ih (3200 - (j + 1)) _ _ _ (by omega) ⟨j + 1, bal', upd bd' j 0, rfl, hlt, by rw [nI_succ j], rfl, rfl, g1, fun k hk => ?_⟩
      by_cases e : k = j
      · simp [upd, e]
      · simp only [upd, e, if_false]
        exact g2 k (by omega)
  have loop1 : ∀ n lo st w, (∃ j bal', n = 200 - j ∧ j ≤ 200 ∧ lo = [some (.inr 0), some (.inl (nI j))] ∧ st = [] ∧ w = mM kd ka kb kv kp bf kt bal' bd pv ra rm rd pt jl en nw wk rc bu h gn th ∧ (∀ k, k < j → bal' k = 1000)) → m_W E 2 lo st w := by
    refine m_loop (fun n lo st w hI ih => ?_)
    obtain ⟨j, bal', rfl, hj, rfl, rfl, rfl, g1⟩ := hI
    refine m_walk C hT wf_Mo_first [2, 26, 48] 60 ?_
    refine And.intro (fun h1 => ?_) (fun h1 => ?_)
    · have : j = 200 := nI_lit (n := 200) (by omega) hj h1
      subst this
      exact loop2 3200 _ _ _ ⟨0, bal', bd, rfl, Nat.zero_le _, rfl, rfl, rfl, g1, fun k hk => absurd hk (Nat.not_lt_zero k)⟩
    · have hlt : j < 200 := nI_lt_of (b := 200) (by omega) (by omega) h1
      refine m_ix hlt ?_
      refine ih (200 - (j + 1)) _ _ _ (by omega) ⟨j + 1, upd bal' j 1000, rfl, hlt, by rw [nI_succ j], rfl, rfl, fun k hk => ?_⟩
      by_cases e : k = j
      · simp [upd, e]
      · simp only [upd, e, if_false]
        exact g1 k (by omega)
  refine m_walk C hT wf_Mo_first [2, 26, 48] 60 ?_
  exact loop1 200 _ _ _ ⟨0, bal, rfl, Nat.zero_le _, rfl, rfl, rfl, fun k hk => absurd hk (Nat.not_lt_zero k)⟩
/-- a new height -/
def ct_next2 : mCT := fun as w K => ∃ l kd ka kb kv kp bf kt bal bd pv ra rm rd pt jl en nw wk bu h gn th, as = [.inr 0] ∧ w = mM kd ka kb kv kp bf kt bal bd pv ra rm rd pt jl en nw wk (nI (List.length l)) bu h gn th ∧ l.length ≤ 32 ∧ hd l ra rm rd ∧ (∀ r ∈ l, r.1 < 200) ∧ ∀ ra' rm' rd', hd (a_left (h + 1) l) ra' rm' rd' → K none (mM kd ka kb kv kp bf kt (a_rel (h + 1) l bal) bd pv ra' rm' rd' pt jl en nw wk (nI (a_left (h + 1) l).length) bu (h + 1) (nI (l.length - (a_left (h + 1) l).length)) th)
theorem ct_next2_i {l : List (Nat × Int32 × Int32)} {kd ka kb kv kp bf kt bal bd pv ra rm rd pt jl : Nat → Int32} {en nw wk rc bu h gn th : Int32} {K : Option mV → mW → Prop} (h0 : rc = nI l.length) (h1 : l.length ≤ 32) (h2 : hd l ra rm rd) (h3 : ∀ r ∈ l, r.1 < 200) (h4 : ∀ ra' rm' rd', hd (a_left (h + 1) l) ra' rm' rd' → K none (mM kd ka kb kv kp bf kt (a_rel (h + 1) l bal) bd pv ra' rm' rd' pt jl en nw wk (nI (a_left (h + 1) l).length) bu (h + 1) (nI (l.length - (a_left (h + 1) l).length)) th)) : ct_next2 [.inr 0] (mM kd ka kb kv kp bf kt bal bd pv ra rm rd pt jl en nw wk rc bu h gn th) K := by
  subst h0
  exact ⟨l, kd, ka, kb, kv, kp, bf, kt, bal, bd, pv, ra, rm, rd, pt, jl, en, nw, wk, bu, h, gn, th, rfl, rfl, h1, h2, h3, h4⟩
theorem ct_next2_r : ∀ as w K, ct_next2 as w K → ∃ a r fs, as = .inr a :: r ∧ w[a]? = some (.inr (4, fs)) := by
  intro as w K h
  obtain ⟨_, _, _, _, _, _, _, _, _, _, _, _, _, _, _, _, _, _, _, _, _, _, _, rfl, rfl, _⟩ := h
  exact ⟨0, _, _, rfl, rfl⟩
set_option maxHeartbeats 8000000 in
theorem c_next2 : m_Met false y_Mo_next2 ws_Mo_next2 nw (rmk 0) ct_next2 := by
  refine m_Met_of (by decide +kernel) (fun as w K h => by obtain ⟨_, _, _, _, _, _, _, _, _, _, _, _, _, _, _, _, _, _, _, _, _, _, _, rfl, _⟩ := h; exact Nat.le_of_ble_eq_true rfl) ?_
  intro E as w K C hm hret hct
  obtain ⟨l, kd, ka, kb, kv, kp, bf, kt, bal, bd, pv, ra, rm, rd, pt, jl, en, nw, wk, bu, h, gn, th, rfl, rfl, hc, hl, ha, hK⟩ := hct
  have hT : m_TOk E c_Mo_next2 R_Mo (false, fl_Mo, fp_Mo, [], [], []) (m_Rt none K) := ⟨hm, get_Mo C, put_Mo C, m_none, m_none, m_none, hret⟩
  have loop : ∀ n lo st w, (∃ i ra' rm' rd', n = l.length - i ∧ i ≤ l.length ∧ lo = [some (.inr 0), some (.inl (nI (a_left (h + 1) (l.take i)).length)), some (.inl (nI i))] ∧ st = [] ∧ w = mM kd ka kb kv kp bf kt (a_rel (h + 1) (l.take i) bal) bd pv ra' rm' rd' pt jl en nw wk (nI (List.length l)) bu (h + 1) (nI (i - (a_left (h + 1) (l.take i)).length)) th ∧ hd (a_left (h + 1) (l.take i)) ra' rm' rd' ∧ ∀ q r, i ≤ q → l[q]? = some r → ra' q = nI r.1 ∧ rm' q = r.2.1 ∧ rd' q = r.2.2) → m_W E 19 lo st w := by
    refine m_loop (fun n lo st w hI ih => ?_)
    obtain ⟨i, ra', rm', rd', rfl, hi, rfl, rfl, rfl, hh, hrest⟩ := hI
    have hk : (a_left (h + 1) (l.take i)).length ≤ i := by
      have := a_left_len (h + 1) (l.take i)
      rw [List.length_take] at this
      omega
    refine m_walk C hT wf_Mo_next2 [19] 60 ?_
    refine And.intro (fun h1 => ?_) (fun h1 => ?_)
    · have : i = l.length := by have := nI_ge_of (by omega) (by omega) h1; omega
      subst this
      rw [List.take_length] at hh ⊢
      exact hK ra' rm' rd' hh
    · have hlt := nI_lt_of (by omega) (by omega) h1
      have hg : l[i]? = some l[i] := List.getElem?_eq_getElem hlt
      obtain ⟨e1, e2, e3⟩ := hrest i _ (Nat.le_refl i) hg
      have hr : (l[i]).1 < 200 := ha _ (List.getElem_mem hlt)
      have htk := take_succ hg
      refine m_ix (by omega) (And.intro (fun h2 => ?_) (fun h2 => ?_))
      · have hd2 : ¬ (l[i]).2.2 ≤ h + 1 := by
          rw [← e3]
          exact Int32.not_le.mpr h2
        have hlen : (a_left (h + 1) (l.take (i + 1))).length = (a_left (h + 1) (l.take i)).length + 1 := by
          rw [htk, a_left_app, if_neg hd2, List.length_append]
          rfl
        refine m_ix (by omega) (m_ix (by omega) (m_ix (by omega) (m_ix (by omega) (m_ix (by omega) (m_ix (by omega) ?_)))))
        refine ih (l.length - (i + 1)) _ _ _ (by omega) ⟨i + 1, upd ra' (a_left (h + 1) (l.take i)).length (ra' i), upd rm' (a_left (h + 1) (l.take i)).length (rm' i), upd rd' (a_left (h + 1) (l.take i)).length (rd' i), rfl, hlt, ?_, rfl, ?_, ?_, ?_⟩
        · rw [hlen, nI_succ i, nI_succ (a_left (h + 1) (l.take i)).length]
        · rw [show i + 1 - (a_left (h + 1) (l.take (i + 1))).length = i - (a_left (h + 1) (l.take i)).length by omega, htk, a_rel_app, if_neg hd2]
          rfl
        · rw [htk, a_left_app, if_neg hd2]
          intro q r hq
          by_cases hqk : q < (a_left (h + 1) (l.take i)).length
          · rw [List.getElem?_append_left hqk] at hq
            have := hh q r hq
            simpa [upd, Nat.ne_of_lt hqk] using this
          · rw [List.getElem?_append_right (by omega)] at hq
            have hq0 : q - (a_left (h + 1) (l.take i)).length = 0 := by
              have := (List.getElem?_eq_some_iff.mp hq).1
              simp at this
              omega
            rw [hq0] at hq
            simp only [List.getElem?_cons_zero, Option.some.injEq] at hq
            have hqe : q = (a_left (h + 1) (l.take i)).length := by omega
            subst hqe
            subst hq
            simp [upd, e1, e2, e3]
        · intro q r hq hqr
          have hne : ¬ q = (a_left (h + 1) (l.take i)).length := by omega
          simpa [upd, hne] using hrest q r (by omega) hqr
      · have hd2 : (l[i]).2.2 ≤ h + 1 := by
          rw [← e3]
          exact Int32.not_lt.mp h2
        have hlen : (a_left (h + 1) (l.take (i + 1))).length = (a_left (h + 1) (l.take i)).length := by
          rw [htk, a_left_app, if_pos hd2, List.append_nil]
        refine m_ix (by omega) (m_ixe e1 hr (m_ix (by omega) (m_ixe e1 hr ?_)))
        refine ih (l.length - (i + 1)) _ _ _ (by omega) ⟨i + 1, ra', rm', rd', rfl, hlt, ?_, rfl, ?_, ?_, ?_⟩
        · rw [hlen, nI_succ i]
        · rw [show i + 1 - (a_left (h + 1) (l.take (i + 1))).length = i - (a_left (h + 1) (l.take i)).length + 1 by omega, nI_succ (i - (a_left (h + 1) (l.take i)).length), htk, a_rel_app, if_pos hd2, ← e2]
          rfl
        · rw [htk, a_left_app, if_pos hd2, List.append_nil]
          exact hh
        · exact fun q r hq hqr => hrest q r (by omega) hqr
  refine m_walk C hT wf_Mo_next2 [19] 60 ?_
  exact loop l.length _ _ _ ⟨0, ra, rm, rd, rfl, Nat.zero_le _, rfl, rfl, rfl, fun q r hq => by simp [a_left] at hq, fun q r _ hq => hl q r hq⟩
