/-! The bonds' methods. -/
abbrev rmk (k : Nat) : Room := { frames := k, cells := 0, slots := 0, locals := 30 * k }
theorem nI_lt_of {a b : Nat} (ha : a < 2 ^ 31) (hb : b < 2 ^ 31) (h : ¬ nI b ≤ nI a) : a < b := by
  rw [nI_leI hb ha] at h
  omega
theorem nI_ge_of {a b : Nat} (ha : a < 2 ^ 31) (hb : b < 2 ^ 31) (h : nI b ≤ nI a) : b ≤ a := (nI_leI hb ha).mp h
theorem m_none {α : Type} {P : α → Prop} : ∀ q ∈ ([] : List α), P q := fun _ h => absurd h List.not_mem_nil
set_option maxHeartbeats 4000000 in
theorem c_find : m_Met true y_Bo_find ws_Bo_find nw (rmk 0) ct_find := by
  refine m_Met_of (by decide +kernel) (fun as w K h => by obtain ⟨_, _, _, _, _, _, _, _, _, rfl, _⟩ := h; exact Nat.le_of_ble_eq_true rfl) ?_
  intro E as w K C hm hret hct
  obtain ⟨c0, c1, o, nd, am, ex, c, a, n, rfl, rfl, hc, hK1, hK2⟩ := hct
  have hT : m_TOk E c_Bo_find R_Bo (true, fl_Bo, [], [], [], []) (m_Rt (some .int) K) := ⟨(fun h => nomatch h), get_Bo C, m_none, m_none, m_none, m_none, hret⟩
  have loop : ∀ i lo st w, (∃ j, i = c - j ∧ j ≤ c ∧ lo = [some (.inr 2), some (.inl a), some (.inl n), some (.inl (nI j))] ∧ st = [] ∧ w = bW c0 c1 o nd am (nI c) ex ∧ ∀ q, q < j → ¬ (o q = a ∧ nd q = n)) → m_W E 2 lo st w := by
    refine m_loop (fun i lo st w hI ih => ?_)
    obtain ⟨j, rfl, hj, rfl, rfl, rfl, hn⟩ := hI
    refine m_walk C hT wf_Bo_find [2] 30 ?_
    refine And.intro (fun h => ?_) (fun h => ?_)
    · have : j = c := by have := nI_ge_of (by omega) (by omega) h; omega
      subst this
      exact hK2 hn
    · have hlt := nI_lt_of (by omega) (by omega) h
      refine m_ix (by omega) (And.intro (fun h1 => ?_) (fun h1 => ?_))
      · exact ih (c - (j + 1)) _ _ _ (by omega) ⟨j + 1, rfl, hlt, by rw [nI_1], rfl, rfl, fun q hq => by
          by_cases e : q = j
          · subst e; exact fun z => h1 z.1
          · exact hn q (by omega)⟩
      · refine m_ix (by omega) (And.intro (fun h2 => ?_) (fun h2 => ?_))
        · exact ih (c - (j + 1)) _ _ _ (by omega) ⟨j + 1, rfl, hlt, by rw [nI_1], rfl, rfl, fun q hq => by
            by_cases e : q = j
            · subst e; exact fun z => h2 z.2
            · exact hn q (by omega)⟩
        · exact hK1 j ⟨hlt, h1, h2, hn⟩
  refine m_walk C hT wf_Bo_find [2] 30 ?_
  exact loop c _ _ _ ⟨0, rfl, Nat.zero_le _, rfl, rfl, rfl, fun q hq => absurd hq (Nat.not_lt_zero q)⟩
theorem ct_find_i {c0 c1 : mC} {o nd am : Nat → Int32} {ex : mW} {c : Nat} {a n : Int32} {K : Option mV → mW → Prop} (hc : c ≤ 96) (h1 : ∀ i, fnd o nd c a n i → K (some (.inl (nI i))) (bW c0 c1 o nd am (nI c) ex)) (h2 : nfd o nd c a n → K (some (.inl (-1))) (bW c0 c1 o nd am (nI c) ex)) : ct_find [.inr 2, .inl a, .inl n] (bW c0 c1 o nd am (nI c) ex) K := ⟨c0, c1, o, nd, am, ex, c, a, n, rfl, rfl, hc, h1, h2⟩
theorem ct_find_r : ∀ as w K, ct_find as w K → ∃ a r fs, as = .inr a :: r ∧ w[a]? = some (.inr (1, fs)) := by
  intro as w K h
  obtain ⟨c0, c1, o, nd, am, ex, c, a, n, rfl, rfl, _⟩ := h
  exact ⟨2, _, _, rfl, rfl⟩
theorem m_one {α : Type} {P : α → Prop} {a : α} {l : List α} (h : P a) (h2 : ∀ q ∈ l, P q) : ∀ q ∈ a :: l, P q := fun q hq => (List.mem_cons.mp hq).elim (fun e => e ▸ h) (h2 q)
set_option maxHeartbeats 4000000 in
theorem c_amt : m_Met true y_Bo_amountOf ws_Bo_amountOf nw (rmk 1) ct_amt := by
  refine m_Met_of (by decide +kernel) (fun as w K h => by obtain ⟨_, _, _, _, _, _, _, _, _, rfl, _⟩ := h; exact Nat.le_of_ble_eq_true rfl) ?_
  intro E as w K C hm hret hct
  obtain ⟨c0, c1, o, nd, am, ex, c, a, n, rfl, rfl, hc, hK1, hK2⟩ := hct
  have hT : m_TOk E c_Bo_amountOf R_Bo (true, fl_Bo, [], [], [(0, 31, 3, ct_find)], []) (m_Rt (some .int) K) := ⟨(fun h => nomatch h), get_Bo C, m_none, m_none, m_one (ca_Bo_31 (pb := true) C (fun h => nomatch h) c_find rfl rfl ct_find_r ⟨by decide, by decide⟩) m_none, m_none, hret⟩
  refine m_walk C hT wf_Bo_amountOf [] 30 ?_
  refine m_c0 <| ct_find_i hc (fun i hi => ?_) (fun hn => ?_)
  · refine And.intro (fun h => ?_) (fun h => absurd (nI_pos' (by have := hi.1; omega)) h)
    exact m_ix (by have := hi.1; omega) (hK1 i hi)
  · exact And.intro (fun h => absurd h (by decide)) (fun h => hK2 hn)
set_option maxHeartbeats 4000000 in
theorem c_place : m_Met true y_Bo_hasPlaceFor ws_Bo_hasPlaceFor nw (rmk 1) ct_place := by
  refine m_Met_of (by decide +kernel) (fun as w K h => by obtain ⟨_, _, _, _, _, _, _, _, _, rfl, _⟩ := h; exact Nat.le_of_ble_eq_true rfl) ?_
  intro E as w K C hm hret hct
  obtain ⟨c0, c1, o, nd, am, ex, c, a, n, rfl, rfl, hc, hK1, hK2⟩ := hct
  have hT : m_TOk E c_Bo_hasPlaceFor R_Bo (true, fl_Bo, [], [], [(0, 31, 3, ct_find)], []) (m_Rt (some .boolean) K) := ⟨(fun h => nomatch h), get_Bo C, m_none, m_none, m_one (ca_Bo_31 (pb := true) C (fun h => nomatch h) c_find rfl rfl ct_find_r ⟨by decide, by decide⟩) m_none, m_none, hret⟩
  refine m_walk C hT wf_Bo_hasPlaceFor [] 30 ?_
  refine And.intro (fun h => ?_) (fun h => ?_)
  · exact And.intro (Or.inr rfl) (hK1 (.inl ((nI_ltI (by omega) (by omega)).mp (show nI c < nI 96 from h))))
  · have h96 : ¬ c < 96 := fun z => h ((nI_ltI (by omega) (by omega)).mpr z : nI c < nI 96)
    refine m_c0 <| ct_find_i hc (fun i hi => ?_) (fun hn => ?_)
    · exact And.intro (fun h => absurd h (nI_pos (by have := hi.1; omega))) (fun h => And.intro (Or.inr rfl) (hK1 (.inr ⟨i, hi⟩)))
    · exact And.intro (fun h => And.intro (Or.inl rfl) (hK2 h96 hn)) (fun h => absurd (by decide) h)
set_option maxHeartbeats 4000000 in
theorem c_inc : m_Met false y_Bo_increase ws_Bo_increase nw (rmk 1) ct_inc := by
  refine m_Met_of (by decide +kernel) (fun as w K h => by obtain ⟨_, _, _, _, _, _, _, _, _, _, rfl, _⟩ := h; exact Nat.le_of_ble_eq_true rfl) ?_
  intro E as w K C hm hret hct
  obtain ⟨c0, c1, o, nd, am, ex, c, a, n, v, rfl, rfl, hc, hK1, hK2⟩ := hct
  have hT : m_TOk E c_Bo_increase R_Bo (false, fl_Bo, fp_Bo, [], [(0, 31, 3, ct_find)], []) (m_Rt none K) := ⟨hm, get_Bo C, put_Bo C, m_none, m_one (ca_Bo_31 (pb := true) C (fun h => nomatch h) c_find rfl rfl ct_find_r ⟨by decide, by decide⟩) m_none, m_none, hret⟩
  refine m_walk C hT wf_Bo_increase [] 60 ?_
  refine m_c0 <| ct_find_i hc (fun i hi => ?_) (fun hn => ?_)
  · refine And.intro (fun h => absurd h (nI_pos (by have := hi.1; omega))) (fun h => ?_)
    exact m_ix (by have := hi.1; omega) (m_ix (by have := hi.1; omega) (hK1 i hi))
  · obtain ⟨hlt, hk⟩ := hK2 hn
    refine And.intro (fun h => ?_) (fun h => absurd (by decide) h)
    refine And.intro (fun h => absurd h (nI_ge (b := 96) hlt (by omega))) (fun h => ?_)
    refine m_ix hlt (m_ix hlt (m_ix hlt ?_))
    rw [nI_succ] at hk
    exact hk
set_option maxHeartbeats 4000000 in
theorem c_rem : m_Met false y_Bo_remove ws_Bo_remove nw (rmk 0) ct_rem := by
  refine m_Met_of (by decide +kernel) (fun as w K h => by obtain ⟨_, _, _, _, _, _, _, _, rfl, _⟩ := h; exact Nat.le_of_ble_eq_true rfl) ?_
  intro E as w K C hm hret hct
  obtain ⟨c0, c1, o, nd, am, ex, c, i, rfl, rfl, hc, hi, hK⟩ := hct
  have hT : m_TOk E c_Bo_remove R_Bo (false, fl_Bo, fp_Bo, [], [], []) (m_Rt none K) := ⟨hm, get_Bo C, put_Bo C, m_none, m_none, m_none, hret⟩
  refine m_walk C hT wf_Bo_remove [] 60 ?_
  refine m_ixe (nI_pred c) hc (m_ix (by omega) (m_ixe (nI_pred c) hc (m_ix (by omega) (m_ixe (nI_pred c) hc (m_ix (by omega) ?_)))))
  rw [← nI_pred c] at hK
  exact hK
theorem ct_rem_r : ∀ as w K, ct_rem as w K → ∃ a r fs, as = .inr a :: r ∧ w[a]? = some (.inr (1, fs)) := by
  intro as w K h
  obtain ⟨c0, c1, o, nd, am, ex, c, i, rfl, rfl, _⟩ := h
  exact ⟨2, _, _, rfl, rfl⟩
theorem ct_rem_i {c0 c1 : mC} {o nd am : Nat → Int32} {ex : mW} {c i : Nat} {K : Option mV → mW → Prop} (hc : c < 96) (hi : i ≤ c) (h : K none (bW c0 c1 (upd o i (o c)) (upd nd i (nd c)) (upd am i (am c)) (nI c) ex)) : ct_rem [.inr 2, .inl (nI i)] (bW c0 c1 o nd am (nI (c + 1)) ex) K := ⟨c0, c1, o, nd, am, ex, c, i, rfl, rfl, hc, hi, h⟩
set_option maxHeartbeats 4000000 in
theorem c_dec : m_Met false y_Bo_decrease ws_Bo_decrease nw (rmk 1) ct_dec := by
  refine m_Met_of (by decide +kernel) (fun as w K h => by obtain ⟨_, _, _, _, _, _, _, _, _, _, rfl, _⟩ := h; exact Nat.le_of_ble_eq_true rfl) ?_
  intro E as w K C hm hret hct
  obtain ⟨c0, c1, o, nd, am, ex, c, a, n, v, rfl, rfl, hc, hK1, hK2⟩ := hct
  have hT : m_TOk E c_Bo_decrease R_Bo (false, fl_Bo, fp_Bo, [], [(0, 31, 3, ct_find), (0, 35, 2, ct_rem)], []) (m_Rt none K) := ⟨hm, get_Bo C, put_Bo C, m_none, m_one (ca_Bo_31 (pb := true) C (fun h => nomatch h) c_find rfl rfl ct_find_r ⟨by decide, by decide⟩) (m_one (ca_Bo_35 (pb := false) C hm c_rem rfl rfl ct_rem_r ⟨by decide, by decide⟩) m_none), m_none, hret⟩
  refine m_walk C hT wf_Bo_decrease [] 60 ?_
  refine m_c0 <| ct_find_i (by omega) (fun i hi => ?_) (fun hn => absurd hn hK2)
  have hi9 : i < 96 := by have := hi.1; omega
  refine And.intro (fun h => ?_) (fun h => absurd (nI_pos' (by omega)) h)
  refine m_ix hi9 (m_ix hi9 (m_ix hi9 ?_))
  have e : upd am i (am i - v) i = am i - v := by simp [upd]
  refine And.intro (fun h => ?_) (fun h => ?_)
  · exact (hK1 i hi).2 (by rw [← e]; exact h)
  · exact m_c0 <| ct_rem_i hc (by have := hi.1; omega) ((hK1 i hi).1 (by rw [← e]; exact h))
set_option maxHeartbeats 4000000 in
theorem c_with : m_Met true y_Bo_amountWith ws_Bo_amountWith nw (rmk 0) ct_with := by
  refine m_Met_of (by decide +kernel) (fun as w K h => by obtain ⟨_, _, _, _, _, _, _, _, rfl, _⟩ := h; exact Nat.le_of_ble_eq_true rfl) ?_
  intro E as w K C hm hret hct
  obtain ⟨c0, c1, o, nd, am, ex, c, n, rfl, rfl, hc, hK⟩ := hct
  have hT : m_TOk E c_Bo_amountWith R_Bo (true, fl_Bo, [], [], [], []) (m_Rt (some .int) K) := ⟨(fun h => nomatch h), get_Bo C, m_none, m_none, m_none, m_none, hret⟩
  have loop : ∀ i lo st w, (∃ j, i = c - j ∧ j ≤ c ∧ lo = [some (.inr 2), some (.inl n), some (.inl (sm (fun j => if nd j = n then am j else 0) j)), some (.inl (nI j))] ∧ st = [] ∧ w = bW c0 c1 o nd am (nI c) ex) → m_W E 4 lo st w := by
    refine m_loop (fun i lo st w hI ih => ?_)
    obtain ⟨j, rfl, hj, rfl, rfl, rfl⟩ := hI
    refine m_walk C hT wf_Bo_amountWith [4] 30 ?_
    refine And.intro (fun h => ?_) (fun h => ?_)
    · have : j = c := by have := nI_ge_of (by omega) (by omega) h; omega
      subst this
      exact hK
    · have hlt := nI_lt_of (by omega) (by omega) h
      refine m_ix (by omega) (And.intro (fun h1 => ?_) (fun h1 => ?_))
      · refine ih (c - (j + 1)) _ _ _ (by omega) ⟨j + 1, rfl, hlt, ?_, rfl, rfl⟩
        rw [nI_succ, show sm (fun j => if nd j = n then am j else 0) (j + 1) = sm (fun j => if nd j = n then am j else 0) j + (if nd j = n then am j else 0) from rfl, if_neg h1, Int32.add_zero]
      · refine m_ix (by omega) ?_
        refine ih (c - (j + 1)) _ _ _ (by omega) ⟨j + 1, rfl, hlt, ?_, rfl, rfl⟩
        rw [nI_succ, show sm (fun j => if nd j = n then am j else 0) (j + 1) = sm (fun j => if nd j = n then am j else 0) j + (if nd j = n then am j else 0) from rfl, if_pos h1]
  refine m_walk C hT wf_Bo_amountWith [4] 30 ?_
  exact loop c _ _ _ ⟨0, rfl, Nat.zero_le _, rfl, rfl, rfl⟩
set_option maxHeartbeats 4000000 in
theorem c_tot : m_Met true y_Bo_total ws_Bo_total nw (rmk 0) ct_tot := by
  refine m_Met_of (by decide +kernel) (fun as w K h => by obtain ⟨_, _, _, _, _, _, _, rfl, _⟩ := h; exact Nat.le_of_ble_eq_true rfl) ?_
  intro E as w K C hm hret hct
  obtain ⟨c0, c1, o, nd, am, ex, c, rfl, rfl, hc, hK⟩ := hct
  have hT : m_TOk E c_Bo_total R_Bo (true, fl_Bo, [], [], [], []) (m_Rt (some .int) K) := ⟨(fun h => nomatch h), get_Bo C, m_none, m_none, m_none, m_none, hret⟩
  have loop : ∀ i lo st w, (∃ j, i = c - j ∧ j ≤ c ∧ lo = [some (.inr 2), some (.inl (sm am j)), some (.inl (nI j))] ∧ st = [] ∧ w = bW c0 c1 o nd am (nI c) ex) → m_W E 4 lo st w := by
    refine m_loop (fun i lo st w hI ih => ?_)
    obtain ⟨j, rfl, hj, rfl, rfl, rfl⟩ := hI
    refine m_walk C hT wf_Bo_total [4] 30 ?_
    refine And.intro (fun h => ?_) (fun h => ?_)
    · have : j = c := by have := nI_ge_of (by omega) (by omega) h; omega
      subst this
      exact hK
    · have hlt := nI_lt_of (by omega) (by omega) h
      refine m_ix (by omega) ?_
      exact ih (c - (j + 1)) _ _ _ (by omega) ⟨j + 1, rfl, hlt, by rw [nI_succ]; rfl, rfl, rfl⟩
  refine m_walk C hT wf_Bo_total [4] 30 ?_
  exact loop c _ _ _ ⟨0, rfl, Nat.zero_le _, rfl, rfl, rfl⟩
set_option maxHeartbeats 4000000 in
theorem c_cut : m_Met false y_Bo_cutQuarters ws_Bo_cutQuarters nw (rmk 0) ct_cut := by
  refine m_Met_of (by decide +kernel) (fun as w K h => by obtain ⟨_, _, _, _, _, _, _, _, rfl, _⟩ := h; exact Nat.le_of_ble_eq_true rfl) ?_
  intro E as w K C hm hret hct
  obtain ⟨c0, c1, o, nd, am, ex, c, n, rfl, rfl, hc, hK⟩ := hct
  have hT : m_TOk E c_Bo_cutQuarters R_Bo (false, fl_Bo, fp_Bo, [], [], []) (m_Rt (some .int) K) := ⟨hm, get_Bo C, put_Bo C, m_none, m_none, m_none, hret⟩
  have loop : ∀ i lo st w, (∃ j am' q, i = c - j ∧ j ≤ c ∧ lo = [some (.inr 2), some (.inl n), some (.inl (sm (fun j => if nd j = n then am j / 4 else 0) j)), some (.inl (nI j)), q] ∧ st = [] ∧ w = bW c0 c1 o nd am' (nI c) ex ∧ ∀ k, am' k = if k < j ∧ nd k = n then am k - am k / 4 else am k) → m_W E 4 lo st w := by
    refine m_loop (fun i lo st w hI ih => ?_)
    obtain ⟨j, am', q, rfl, hj, rfl, rfl, rfl, ha⟩ := hI
    refine m_walk C hT wf_Bo_cutQuarters [4] 40 ?_
    refine And.intro (fun h => ?_) (fun h => ?_)
    · have : j = c := by have := nI_ge_of (by omega) (by omega) h; omega
      subst this
      exact hK am' ha
    · have hlt := nI_lt_of (by omega) (by omega) h
      have e0 : am' j = am j := by rw [ha j, if_neg (fun z => absurd z.1 (Nat.lt_irrefl j))]
      refine m_ix (by omega) (And.intro (fun h1 => ?_) (fun h1 => ?_))
      · refine ih (c - (j + 1)) _ _ _ (by omega) ⟨j + 1, am', q, rfl, hlt, ?_, rfl, rfl, fun k => ?_⟩
        · rw [nI_succ, show sm (fun j => if nd j = n then am j / 4 else 0) (j + 1) = sm (fun j => if nd j = n then am j / 4 else 0) j + (if nd j = n then am j / 4 else 0) from rfl, if_neg h1, Int32.add_zero]
        · rw [ha k]
          by_cases e : k = j
          · subst e; simp [h1]
          · have : (k < j + 1 ∧ nd k = n) ↔ (k < j ∧ nd k = n) := by
              constructor
              · exact fun z => ⟨by omega, z.2⟩
              · exact fun z => ⟨by omega, z.2⟩
            simp only [this]
      · refine m_ix (by omega) (And.intro (by decide) (m_ix (by omega) (m_ix (by omega) ?_)))
        refine ih (c - (j + 1)) _ _ _ (by omega) ⟨j + 1, upd am' j (am' j - am' j / 4), some (.inl (am' j / 4)), rfl, hlt, ?_, rfl, rfl, fun k => ?_⟩
        · rw [nI_succ, show sm (fun j => if nd j = n then am j / 4 else 0) (j + 1) = sm (fun j => if nd j = n then am j / 4 else 0) j + (if nd j = n then am j / 4 else 0) from rfl, if_pos h1, e0]
        · by_cases e : k = j
          · subst e; simp [upd, h1, e0]
          · have : (k < j + 1 ∧ nd k = n) ↔ (k < j ∧ nd k = n) := by
              constructor
              · exact fun z => ⟨by omega, z.2⟩
              · exact fun z => ⟨by omega, z.2⟩
            simp only [this, upd, e, if_false]
            exact ha k
  refine m_walk C hT wf_Bo_cutQuarters [4] 40 ?_
  exact loop c _ _ _ ⟨0, am, none, rfl, Nat.zero_le _, rfl, rfl, rfl, fun k => by rw [if_neg (fun z => absurd z.1 (Nat.not_lt_zero k))]⟩
