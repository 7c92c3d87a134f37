/-! The returns' methods. -/
theorem ct_full_r : ∀ as w K, ct_full as w K → ∃ a r fs, as = .inr a :: r ∧ w[a]? = some (.inr (2, fs)) := by
  intro as w K h
  obtain ⟨c0, c1, c2, c3, c4, c5, ro, ra, rd, ex, c, rfl, rfl, _⟩ := h
  exact ⟨6, _, _, rfl, rfl⟩
theorem ct_full_i {c0 c1 c2 c3 c4 c5 : mC} {ro ra rd : Nat → Int32} {ex : mW} {c : Nat} {K : Option mV → mW → Prop} (hc : c ≤ 32) (h1 : c < 32 → K (some (.inl 0)) (rW c0 c1 c2 c3 c4 c5 ro ra rd (nI c) ex)) (h2 : c = 32 → K (some (.inl 1)) (rW c0 c1 c2 c3 c4 c5 ro ra rd (nI c) ex)) : ct_full [.inr 6] (rW c0 c1 c2 c3 c4 c5 ro ra rd (nI c) ex) K := ⟨c0, c1, c2, c3, c4, c5, ro, ra, rd, ex, c, rfl, rfl, hc, h1, h2⟩
set_option maxHeartbeats 4000000 in
theorem c_full : m_Met true y_Re_isFull ws_Re_isFull nw (rmk 0) ct_full := by
  refine m_Met_of (by decide +kernel) (fun as w K h => by obtain ⟨_, _, _, _, _, _, _, _, _, _, _, rfl, _⟩ := h; exact Nat.le_of_ble_eq_true rfl) ?_
  intro E as w K C hm hret hct
  obtain ⟨c0, c1, c2, c3, c4, c5, ro, ra, rd, ex, c, rfl, rfl, hc, hK1, hK2⟩ := hct
  have hT : m_TOk E c_Re_isFull R_Re (true, fl_Re, [], [], [], []) (m_Rt (some .boolean) K) := ⟨(fun h => nomatch h), get_Re C, m_none, m_none, m_none, m_none, hret⟩
  refine m_walk C hT wf_Re_isFull [] 30 ?_
  refine And.intro (fun h => ?_) (fun h => ?_)
  · exact And.intro (Or.inl rfl) (hK1 ((nI_ltI (by omega) (by omega)).mp (show nI c < nI 32 from h)))
  · have h32 : ¬ c < 32 := fun z => h ((nI_ltI (by omega) (by omega)).mpr z : nI c < nI 32)
    exact And.intro (Or.inr rfl) (hK2 (by omega))
set_option maxHeartbeats 4000000 in
theorem c_app : m_Met false y_Re_append ws_Re_append nw (rmk 1) ct_app := by
  refine m_Met_of (by decide +kernel) (fun as w K h => by obtain ⟨_, _, _, _, _, _, _, _, _, _, _, _, _, _, rfl, _⟩ := h; exact Nat.le_of_ble_eq_true rfl) ?_
  intro E as w K C hm hret hct
  obtain ⟨c0, c1, c2, c3, c4, c5, ro, ra, rd, ex, c, a, v, h, rfl, rfl, hc, hK⟩ := hct
  have hT : m_TOk E c_Re_append R_Re (false, fl_Re, fp_Re, [], [(0, 31, 1, ct_full)], []) (m_Rt none K) := ⟨hm, get_Re C, put_Re C, m_none, m_one (ca_Re_31 (pb := true) C (fun h => nomatch h) c_full rfl rfl ct_full_r ⟨by decide, by decide⟩) m_none, m_none, hret⟩
  refine m_walk C hT wf_Re_append [] 60 ?_
  refine m_c0 <| ct_full_i (by omega) (fun _ => ?_) (fun h => absurd h (by omega))
  refine And.intro (fun h => ?_) (fun h => absurd rfl h)
  refine m_ix hc (m_ix hc (m_ix hc ?_))
  rw [nI_succ] at hK
  exact hK
set_option maxHeartbeats 4000000 in
theorem c_ramt : m_Met true y_Re_amountOf ws_Re_amountOf nw (rmk 0) ct_ramt := by
  refine m_Met_of (by decide +kernel) (fun as w K h => by obtain ⟨_, _, _, _, _, _, _, _, _, _, _, _, rfl, _⟩ := h; exact Nat.le_of_ble_eq_true rfl) ?_
  intro E as w K C hm hret hct
  obtain ⟨c0, c1, c2, c3, c4, c5, o, am, rd, ex, c, n, rfl, rfl, hc, hK⟩ := hct
  have hT : m_TOk E c_Re_amountOf R_Re (true, fl_Re, [], [], [], []) (m_Rt (some .int) K) := ⟨(fun h => nomatch h), get_Re C, m_none, m_none, m_none, m_none, hret⟩
  have loop : ∀ i lo st w, (∃ j, i = c - j ∧ j ≤ c ∧ lo = [some (.inr 6), some (.inl n), some (.inl (sm (fun j => if o j = n then am j else 0) j)), some (.inl (nI j))] ∧ st = [] ∧ w = rW c0 c1 c2 c3 c4 c5 o am rd (nI c) ex) → m_W E 4 lo st w := by
    refine m_loop (fun i lo st w hI ih => ?_)
    obtain ⟨j, rfl, hj, rfl, rfl, rfl⟩ := hI
    refine m_walk C hT wf_Re_amountOf [4] 30 ?_
    refine And.intro (fun h => ?_) (fun h => ?_)
    · have : j = c := by have := nI_ge_of (by omega) (by omega) h; omega
      subst this
      exact hK
    · have hlt := nI_lt_of (by omega) (by omega) h
      refine m_ix (by omega) (And.intro (fun h1 => ?_) (fun h1 => ?_))
      · refine ih (c - (j + 1)) _ _ _ (by omega) ⟨j + 1, rfl, hlt, ?_, rfl, rfl⟩
        rw [nI_succ, show sm (fun j => if o j = n then am j else 0) (j + 1) = sm (fun j => if o j = n then am j else 0) j + (if o j = n then am j else 0) from rfl, if_neg h1, Int32.add_zero]
      · refine m_ix (by omega) ?_
        refine ih (c - (j + 1)) _ _ _ (by omega) ⟨j + 1, rfl, hlt, ?_, rfl, rfl⟩
        rw [nI_succ, show sm (fun j => if o j = n then am j else 0) (j + 1) = sm (fun j => if o j = n then am j else 0) j + (if o j = n then am j else 0) from rfl, if_pos h1]
  refine m_walk C hT wf_Re_amountOf [4] 30 ?_
  exact loop c _ _ _ ⟨0, rfl, Nat.zero_le _, rfl, rfl, rfl⟩
set_option maxHeartbeats 4000000 in
theorem c_rtot : m_Met true y_Re_total ws_Re_total nw (rmk 0) ct_rtot := by
  refine m_Met_of (by decide +kernel) (fun as w K h => by obtain ⟨_, _, _, _, _, _, _, _, _, _, _, rfl, _⟩ := h; exact Nat.le_of_ble_eq_true rfl) ?_
  intro E as w K C hm hret hct
  obtain ⟨c0, c1, c2, c3, c4, c5, o, am, rd, ex, c, rfl, rfl, hc, hK⟩ := hct
  have hT : m_TOk E c_Re_total R_Re (true, fl_Re, [], [], [], []) (m_Rt (some .int) K) := ⟨(fun h => nomatch h), get_Re C, m_none, m_none, m_none, m_none, hret⟩
  have loop : ∀ i lo st w, (∃ j, i = c - j ∧ j ≤ c ∧ lo = [some (.inr 6), some (.inl (sm am j)), some (.inl (nI j))] ∧ st = [] ∧ w = rW c0 c1 c2 c3 c4 c5 o am rd (nI c) ex) → m_W E 4 lo st w := by
    refine m_loop (fun i lo st w hI ih => ?_)
    obtain ⟨j, rfl, hj, rfl, rfl, rfl⟩ := hI
    refine m_walk C hT wf_Re_total [4] 30 ?_
    refine And.intro (fun h => ?_) (fun h => ?_)
    · have : j = c := by have := nI_ge_of (by omega) (by omega) h; omega
      subst this
      exact hK
    · have hlt := nI_lt_of (by omega) (by omega) h
      refine m_ix (by omega) ?_
      exact ih (c - (j + 1)) _ _ _ (by omega) ⟨j + 1, rfl, hlt, by rw [nI_succ]; rfl, rfl, rfl⟩
  refine m_walk C hT wf_Re_total [4] 30 ?_
  exact loop c _ _ _ ⟨0, rfl, Nat.zero_le _, rfl, rfl, rfl⟩
theorem a_rel_app (h : Int32) (r : Nat × Int32 × Int32) : ∀ (l : List (Nat × Int32 × Int32)) (b : Nat → Int32), a_rel h (l ++ [r]) b = if r.2.2 ≤ h then upd (a_rel h l b) r.1 (a_rel h l b r.1 + r.2.1) else a_rel h l b
  | [], b => rfl
  | q :: l, b => by
    show a_rel h (l ++ [r]) _ = _
    rw [a_rel_app h r l]
    rfl
theorem a_left_app (h : Int32) (r : Nat × Int32 × Int32) (l : List (Nat × Int32 × Int32)) : a_left h (l ++ [r]) = a_left h l ++ (if r.2.2 ≤ h then [] else [r]) := by
  unfold a_left
  rw [List.filter_append]
  by_cases hr : r.2.2 ≤ h
  · simp [hr]
  · simp [hr]
theorem a_left_len (h : Int32) (l : List (Nat × Int32 × Int32)) : (a_left h l).length ≤ l.length := List.length_filter_le _ _
theorem take_succ {α : Type} {l : List α} {i : Nat} {r : α} (h : l[i]? = some r) : l.take (i + 1) = l.take i ++ [r] := by
  rw [List.take_add_one, h]
  rfl
set_option maxHeartbeats 4000000 in
theorem c_rel : m_Met false y_Re_release ws_Re_release nw (rmk 0) ct_rel := by
  refine m_Met_of (by decide +kernel) (fun as w K h => by obtain ⟨_, _, _, _, _, _, _, _, _, _, _, _, rfl, _⟩ := h; exact Nat.le_of_ble_eq_true rfl) ?_
  intro E as w K C hm hret hct
  obtain ⟨c0, c2, c3, c4, c5, bal, ro, ra, rd, ex, l, h, rfl, rfl, hc, hl, ha, hK⟩ := hct
  have hT : m_TOk E c_Re_release R_Re (false, fl_Re, fp_Re, [], [], []) (m_Rt (some .int) K) := ⟨hm, get_Re C, put_Re C, m_none, m_none, m_none, hret⟩
  have loop : ∀ n lo st w, (∃ i ro' ra' rd', n = l.length - i ∧ i ≤ l.length ∧ lo = [some (.inr 6), some (.inl h), some (.inr 1), some (.inl (nI (a_left h (l.take i)).length)), some (.inl (nI i))] ∧ st = [] ∧ w = rW c0 (.inl (false, 200, a_rel h (l.take i) bal)) c2 c3 c4 c5 ro' ra' rd' (nI l.length) ex ∧ hd (a_left h (l.take i)) ro' ra' rd' ∧ ∀ q r, i ≤ q → l[q]? = some r → ro' q = nI r.1 ∧ ra' q = r.2.1 ∧ rd' q = r.2.2) → m_W E 5 lo st w := by
    refine m_loop (fun n lo st w hI ih => ?_)
    obtain ⟨i, ro', ra', rd', rfl, hi, rfl, rfl, rfl, hh, hrest⟩ := hI
    have hk : (a_left h (l.take i)).length ≤ i := by
      have := a_left_len h (l.take i)
      rw [List.length_take] at this
      omega
    refine m_walk C hT wf_Re_release [5] 60 ?_
    refine And.intro (fun h1 => ?_) (fun h1 => ?_)
    · have : i = l.length := by have := nI_ge_of (by omega) (by omega) h1; omega
      subst this
      rw [List.take_length] at hh hk ⊢
      have e := pk_sub (a := l.length) (b := (a_left h l).length) hk
      have := hK ro' ra' rd' hh
      rw [← e] at this
      exact this
    · have hlt := nI_lt_of (by omega) (by omega) h1
      have hg : l[i]? = some l[i] := List.getElem?_eq_getElem hlt
      obtain ⟨e1, e2, e3⟩ := hrest i _ (Nat.le_refl i) hg
      have hr : (l[i]).1 < 200 := ha _ (List.getElem_mem hlt)
      have htk := take_succ hg
      refine m_ix (by omega) (And.intro (fun h2 => ?_) (fun h2 => ?_))
      · have hd2 : ¬ (l[i]).2.2 ≤ h := by
          rw [← e3]
          exact Int32.not_le.mpr h2
        refine m_ix (by omega) (m_ix (by omega) (m_ix (by omega) (m_ix (by omega) (m_ix (by omega) (m_ix (by omega) ?_)))))
        refine ih (l.length - (i + 1)) _ _ _ (by omega) ⟨i + 1, upd ro' (a_left h (l.take i)).length (ro' i), upd ra' (a_left h (l.take i)).length (ra' i), upd rd' (a_left h (l.take i)).length (rd' i), rfl, hlt, ?_, rfl, ?_, ?_, ?_⟩
        · rw [htk, a_left_app, if_neg hd2, List.length_append, nI_succ i]
          show _ = [_, _, _, some (Sum.inl (nI ((a_left h (l.take i)).length + 1))), _]
          rw [nI_succ]
        · rw [htk, a_rel_app, if_neg hd2]
          rfl
        · rw [htk, a_left_app, if_neg hd2]
          intro q r hq
          by_cases hqk : q < (a_left h (l.take i)).length
          · rw [List.getElem?_append_left hqk] at hq
            have := hh q r hq
            simpa [upd, Nat.ne_of_lt hqk] using this
          · rw [List.getElem?_append_right (by omega)] at hq
            have hq0 : q - (a_left h (l.take i)).length = 0 := by
              have := (List.getElem?_eq_some_iff.mp hq).1
              simp at this
              omega
            rw [hq0] at hq
            simp only [List.getElem?_cons_zero, Option.some.injEq] at hq
            have hqe : q = (a_left h (l.take i)).length := by omega
            subst hqe
            subst hq
            simp [upd, e1, e2, e3]
        · intro q r hq hqr
          have hne : ¬ q = (a_left h (l.take i)).length := by omega
          simpa [upd, hne] using hrest q r (by omega) hqr
      · have hd2 : (l[i]).2.2 ≤ h := by
          rw [← e3]
          exact Int32.not_lt.mp h2
        refine m_ix (by omega) (m_ixe e1 hr (m_ix (by omega) (m_ixe e1 hr ?_)))
        refine ih (l.length - (i + 1)) _ _ _ (by omega) ⟨i + 1, ro', ra', rd', rfl, hlt, ?_, rfl, ?_, ?_, ?_⟩
        · rw [htk, a_left_app, if_pos hd2, List.append_nil, nI_succ i]
        · rw [htk, a_rel_app, if_pos hd2, ← e2]
          rfl
        · rw [htk, a_left_app, if_pos hd2, List.append_nil]
          exact hh
        · exact fun q r hq hqr => hrest q r (by omega) hqr
  refine m_walk C hT wf_Re_release [5] 60 ?_
  exact loop l.length _ _ _ ⟨0, ro, ra, rd, rfl, Nat.zero_le _, rfl, rfl, rfl, fun q r hq => by simp [a_left] at hq, fun q r _ hq => hl q r hq⟩
