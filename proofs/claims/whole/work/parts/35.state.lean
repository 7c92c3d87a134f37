/-! The state's own methods. -/
def pwR (nd am : Nat → Int32) (c : Nat) (j n : Int32) : Int32 := if (j >>> (n &&& 31)) &&& 1 = 1 then 0 else sm (fun i => if nd i = n then am i else 0) c
def pwsR (nd am : Nat → Int32) (c : Nat) (j m : Int32) : Nat → Int32 := sm (fun n => if (m >>> (nI n &&& 31)) &&& 1 = 1 then pwR nd am c j (nI n) else 0)
def affR (bal : Nat → Int32) (a : Nat) (v p : Int32) : Prop := 1 ≤ bal a ∧ v ≤ (if p = nI a then bal a else bal a - 1)
def ct_aff : mCT := fun as w K => ∃ bal o nd am ro ra rd pv bc rc h j bu ex a v p, as = [.inr 0, .inl (nI a), .inl v, .inl p] ∧ w = sW bal o nd am ro ra rd pv bc rc h j bu ex ∧ a < 200 ∧ (affR bal a v p → K (some (.inl 1)) w) ∧ (¬ affR bal a v p → K (some (.inl 0)) w)
theorem ct_aff_r : ∀ as w K, ct_aff as w K → ∃ a r fs, as = .inr a :: r ∧ w[a]? = some (.inr (0, fs)) := by
  intro as w K h
  obtain ⟨bal, o, nd, am, ro, ra, rd, pv, bc, rc, h, j, bu, ex, a, v, p, rfl, rfl, _⟩ := h
  exact ⟨0, _, _, rfl, rfl⟩
theorem ct_aff_i {bal o nd am ro ra rd pv : Nat → Int32} {bc rc h j bu : Int32} {ex : mW} {a : Nat} {v p : Int32} {K : Option mV → mW → Prop} (ha : a < 200) (h1 : affR bal a v p → K (some (.inl 1)) (sW bal o nd am ro ra rd pv bc rc h j bu ex)) (h2 : ¬ affR bal a v p → K (some (.inl 0)) (sW bal o nd am ro ra rd pv bc rc h j bu ex)) : ct_aff [.inr 0, .inl (nI a), .inl v, .inl p] (sW bal o nd am ro ra rd pv bc rc h j bu ex) K := ⟨bal, o, nd, am, ro, ra, rd, pv, bc, rc, h, j, bu, ex, a, v, p, rfl, rfl, ha, h1, h2⟩
set_option maxHeartbeats 4000000 in
theorem c_aff : m_Met true y_St_affords ws_St_affords nw (rmk 0) ct_aff := by
  refine m_Met_of (by decide +kernel) (fun as w K h => by obtain ⟨_, _, _, _, _, _, _, _, _, _, _, _, _, _, _, _, _, rfl, _⟩ := h; exact Nat.le_of_ble_eq_true rfl) ?_
  intro E as w K C hm hret hct
  obtain ⟨bal, o, nd, am, ro, ra, rd, pv, bc, rc, h, j, bu, ex, a, v, p, rfl, rfl, ha, hK1, hK2⟩ := hct
  have hT : m_TOk E c_St_affords R_St (true, fl_St, [], [], [], []) (m_Rt (some .boolean) K) := ⟨(fun h => nomatch h), get_St C, m_none, m_none, m_none, m_none, hret⟩
  refine m_walk C hT wf_St_affords [] 40 ?_
  refine m_ix ha (And.intro (fun h1 => ?_) (fun h1 => And.intro (Or.inl rfl) (hK2 (fun z => h1 z.1))))
  refine And.intro (fun h2 => ?_) (fun h2 => ?_)
  · refine m_ix ha (And.intro (fun h3 => ?_) (fun h3 => ?_))
    · exact And.intro (Or.inl rfl) (hK2 (fun z => absurd z.2 (by rw [if_neg h2]; exact Int32.not_le.mpr h3)))
    · exact And.intro (Or.inr rfl) (hK1 ⟨h1, by rw [if_neg h2]; exact Int32.not_lt.mp h3⟩)
  · refine m_ix ha (And.intro (fun h3 => ?_) (fun h3 => ?_))
    · exact And.intro (Or.inl rfl) (hK2 (fun z => absurd z.2 (by rw [if_pos h2]; exact Int32.not_le.mpr h3)))
    · exact And.intro (Or.inr rfl) (hK1 ⟨h1, by rw [if_pos h2]; exact Int32.not_lt.mp h3⟩)
def ct_fee : mCT := fun as w K => ∃ bal o nd am ro ra rd pv bc rc h j bu ex a p, as = [.inr 0, .inl (nI a), .inl (nI p)] ∧ w = sW bal o nd am ro ra rd pv bc rc h j bu ex ∧ a < 200 ∧ p < 200 ∧ K none (sW (a_fee bal a p) o nd am ro ra rd pv bc rc h j bu ex)
theorem ct_fee_r : ∀ as w K, ct_fee as w K → ∃ a r fs, as = .inr a :: r ∧ w[a]? = some (.inr (0, fs)) := by
  intro as w K h
  obtain ⟨bal, o, nd, am, ro, ra, rd, pv, bc, rc, h, j, bu, ex, a, p, rfl, rfl, _⟩ := h
  exact ⟨0, _, _, rfl, rfl⟩
theorem ct_fee_i {bal o nd am ro ra rd pv : Nat → Int32} {bc rc h j bu : Int32} {ex : mW} {a p : Nat} {K : Option mV → mW → Prop} (ha : a < 200) (hp : p < 200) (h1 : K none (sW (a_fee bal a p) o nd am ro ra rd pv bc rc h j bu ex)) : ct_fee [.inr 0, .inl (nI a), .inl (nI p)] (sW bal o nd am ro ra rd pv bc rc h j bu ex) K := ⟨bal, o, nd, am, ro, ra, rd, pv, bc, rc, h, j, bu, ex, a, p, rfl, rfl, ha, hp, h1⟩
set_option maxHeartbeats 4000000 in
theorem c_fee : m_Met false y_St_takeFee ws_St_takeFee nw (rmk 0) ct_fee := by
  refine m_Met_of (by decide +kernel) (fun as w K h => by obtain ⟨_, _, _, _, _, _, _, _, _, _, _, _, _, _, _, _, rfl, _⟩ := h; exact Nat.le_of_ble_eq_true rfl) ?_
  intro E as w K C hm hret hct
  obtain ⟨bal, o, nd, am, ro, ra, rd, pv, bc, rc, h, j, bu, ex, a, p, rfl, rfl, ha, hp, hK⟩ := hct
  have hT : m_TOk E c_St_takeFee R_St (false, fl_St, fp_St, [], [], []) (m_Rt none K) := ⟨hm, get_St C, put_St C, m_none, m_none, m_none, hret⟩
  refine m_walk C hT wf_St_takeFee [] 40 ?_
  exact m_ix ha (m_ix ha (m_ix hp (m_ix hp hK)))
def ct_isj : mCT := fun as w K => ∃ bal o nd am ro ra rd pv bc rc h j bu ex n, as = [.inr 0, .inl n] ∧ w = sW bal o nd am ro ra rd pv bc rc h j bu ex ∧ ((j >>> (n &&& 31)) &&& 1 = 1 → K (some (.inl 1)) w) ∧ (¬ (j >>> (n &&& 31)) &&& 1 = 1 → K (some (.inl 0)) w)
theorem ct_isj_r : ∀ as w K, ct_isj as w K → ∃ a r fs, as = .inr a :: r ∧ w[a]? = some (.inr (0, fs)) := by
  intro as w K h
  obtain ⟨bal, o, nd, am, ro, ra, rd, pv, bc, rc, h, j, bu, ex, n, rfl, rfl, _⟩ := h
  exact ⟨0, _, _, rfl, rfl⟩
theorem ct_isj_i {bal o nd am ro ra rd pv : Nat → Int32} {bc rc h j bu : Int32} {ex : mW} {n : Int32} {K : Option mV → mW → Prop} (h1 : (j >>> (n &&& 31)) &&& 1 = 1 → K (some (.inl 1)) (sW bal o nd am ro ra rd pv bc rc h j bu ex)) (h2 : ¬ (j >>> (n &&& 31)) &&& 1 = 1 → K (some (.inl 0)) (sW bal o nd am ro ra rd pv bc rc h j bu ex)) : ct_isj [.inr 0, .inl n] (sW bal o nd am ro ra rd pv bc rc h j bu ex) K := ⟨bal, o, nd, am, ro, ra, rd, pv, bc, rc, h, j, bu, ex, n, rfl, rfl, h1, h2⟩
set_option maxHeartbeats 4000000 in
theorem c_isj : m_Met true y_St_isJailed ws_St_isJailed nw (rmk 0) ct_isj := by
  refine m_Met_of (by decide +kernel) (fun as w K h => by obtain ⟨_, _, _, _, _, _, _, _, _, _, _, _, _, _, _, rfl, _⟩ := h; exact Nat.le_of_ble_eq_true rfl) ?_
  intro E as w K C hm hret hct
  obtain ⟨bal, o, nd, am, ro, ra, rd, pv, bc, rc, h, j, bu, ex, n, rfl, rfl, hK1, hK2⟩ := hct
  have hT : m_TOk E c_St_isJailed R_St (true, fl_St, [], [], [], []) (m_Rt (some .boolean) K) := ⟨(fun h => nomatch h), get_St C, m_none, m_none, m_none, m_none, hret⟩
  refine m_walk C hT wf_St_isJailed [] 40 ?_
  exact And.intro (fun h => And.intro (Or.inl rfl) (hK2 h)) (fun h => And.intro (Or.inr rfl) (hK1 h))
theorem ct_with_i {c0 c1 : mC} {o nd am : Nat → Int32} {ex : mW} {c : Nat} {n : Int32} {K : Option mV → mW → Prop} (hc : c ≤ 96) (h : K (some (.inl (sm (fun j => if nd j = n then am j else 0) c))) (bW c0 c1 o nd am (nI c) ex)) : ct_with [.inr 2, .inl n] (bW c0 c1 o nd am (nI c) ex) K := ⟨c0, c1, o, nd, am, ex, c, n, rfl, rfl, hc, h⟩
theorem ct_with_r : ∀ as w K, ct_with as w K → ∃ a r fs, as = .inr a :: r ∧ w[a]? = some (.inr (1, fs)) := by
  intro as w K h
  obtain ⟨c0, c1, o, nd, am, ex, c, n, rfl, rfl, _⟩ := h
  exact ⟨2, _, _, rfl, rfl⟩
theorem ct_tot_i {c0 c1 : mC} {o nd am : Nat → Int32} {ex : mW} {c : Nat} {K : Option mV → mW → Prop} (hc : c ≤ 96) (h : K (some (.inl (sm am c))) (bW c0 c1 o nd am (nI c) ex)) : ct_tot [.inr 2] (bW c0 c1 o nd am (nI c) ex) K := ⟨c0, c1, o, nd, am, ex, c, rfl, rfl, hc, h⟩
theorem ct_tot_r : ∀ as w K, ct_tot as w K → ∃ a r fs, as = .inr a :: r ∧ w[a]? = some (.inr (1, fs)) := by
  intro as w K h
  obtain ⟨c0, c1, o, nd, am, ex, c, rfl, rfl, _⟩ := h
  exact ⟨2, _, _, rfl, rfl⟩
theorem ct_rtot_i {c0 c1 c2 c3 c4 c5 : mC} {ro ra rd : Nat → Int32} {ex : mW} {c : Nat} {K : Option mV → mW → Prop} (hc : c ≤ 32) (h : K (some (.inl (sm ra c))) (rW c0 c1 c2 c3 c4 c5 ro ra rd (nI c) ex)) : ct_rtot [.inr 6] (rW c0 c1 c2 c3 c4 c5 ro ra rd (nI c) ex) K := ⟨c0, c1, c2, c3, c4, c5, ro, ra, rd, ex, c, rfl, rfl, hc, h⟩
theorem ct_rtot_r : ∀ as w K, ct_rtot as w K → ∃ a r fs, as = .inr a :: r ∧ w[a]? = some (.inr (2, fs)) := by
  intro as w K h
  obtain ⟨c0, c1, c2, c3, c4, c5, ro, ra, rd, ex, c, rfl, rfl, _⟩ := h
  exact ⟨6, _, _, rfl, rfl⟩
def ct_pow : mCT := fun as w K => ∃ bal o nd am ro ra rd pv c rc h j bu ex n, as = [.inr 0, .inl n] ∧ w = sW bal o nd am ro ra rd pv (nI c) rc h j bu ex ∧ c ≤ 96 ∧ K (some (.inl (pwR nd am c j n))) w
theorem ct_pow_r : ∀ as w K, ct_pow as w K → ∃ a r fs, as = .inr a :: r ∧ w[a]? = some (.inr (0, fs)) := by
  intro as w K h
  obtain ⟨bal, o, nd, am, ro, ra, rd, pv, c, rc, h, j, bu, ex, n, rfl, rfl, _⟩ := h
  exact ⟨0, _, _, rfl, rfl⟩
theorem ct_pow_i {bal o nd am ro ra rd pv : Nat → Int32} {c : Nat} {rc h j bu : Int32} {ex : mW} {n : Int32} {K : Option mV → mW → Prop} (hc : c ≤ 96) (h1 : K (some (.inl (pwR nd am c j n))) (sW bal o nd am ro ra rd pv (nI c) rc h j bu ex)) : ct_pow [.inr 0, .inl n] (sW bal o nd am ro ra rd pv (nI c) rc h j bu ex) K := ⟨bal, o, nd, am, ro, ra, rd, pv, c, rc, h, j, bu, ex, n, rfl, rfl, hc, h1⟩
set_option maxHeartbeats 4000000 in
theorem c_pow : m_Met true y_St_power ws_St_power nw (rmk 1) ct_pow := by
  refine m_Met_of (by decide +kernel) (fun as w K h => by obtain ⟨_, _, _, _, _, _, _, _, _, _, _, _, _, _, _, rfl, _⟩ := h; exact Nat.le_of_ble_eq_true rfl) ?_
  intro E as w K C hm hret hct
  obtain ⟨bal, o, nd, am, ro, ra, rd, pv, c, rc, h, j, bu, ex, n, rfl, rfl, hc, hK⟩ := hct
  have hT : m_TOk E c_St_power R_St (true, fl_St, [], [], [(0, 68, 2, ct_isj), (0, 72, 2, ct_with)], []) (m_Rt (some .int) K) := ⟨(fun h => nomatch h), get_St C, m_none, m_none, m_one (ca_St_68 (pb := true) C (fun h => nomatch h) c_isj rfl rfl ct_isj_r ⟨by decide, by decide⟩) (m_one (ca_St_72 (pb := true) C (fun h => nomatch h) c_with rfl rfl ct_with_r ⟨by decide, by decide⟩) m_none), m_none, hret⟩
  unfold pwR at hK
  refine m_walk C hT wf_St_power [] 40 ?_
  refine m_c0 <| ct_isj_i (fun h1 => ?_) (fun h1 => ?_)
  · rw [if_pos h1] at hK
    exact And.intro (fun h2 => absurd h2 (by decide)) (fun h2 => hK)
  · rw [if_neg h1] at hK
    refine And.intro (fun h2 => ?_) (fun h2 => absurd rfl h2)
    exact m_c0 <| ct_with_i hc hK
def ct_pows : mCT := fun as w K => ∃ bal o nd am ro ra rd pv c rc h j bu ex m, as = [.inr 0, .inl m] ∧ w = sW bal o nd am ro ra rd pv (nI c) rc h j bu ex ∧ c ≤ 96 ∧ K (some (.inl (pwsR nd am c j m 16))) w
theorem ct_pows_r : ∀ as w K, ct_pows as w K → ∃ a r fs, as = .inr a :: r ∧ w[a]? = some (.inr (0, fs)) := by
  intro as w K h
  obtain ⟨bal, o, nd, am, ro, ra, rd, pv, c, rc, h, j, bu, ex, m, rfl, rfl, _⟩ := h
  exact ⟨0, _, _, rfl, rfl⟩
theorem ct_pows_i {bal o nd am ro ra rd pv : Nat → Int32} {c : Nat} {rc h j bu : Int32} {ex : mW} {m : Int32} {K : Option mV → mW → Prop} (hc : c ≤ 96) (h1 : K (some (.inl (pwsR nd am c j m 16))) (sW bal o nd am ro ra rd pv (nI c) rc h j bu ex)) : ct_pows [.inr 0, .inl m] (sW bal o nd am ro ra rd pv (nI c) rc h j bu ex) K := ⟨bal, o, nd, am, ro, ra, rd, pv, c, rc, h, j, bu, ex, m, rfl, rfl, hc, h1⟩
set_option maxHeartbeats 4000000 in
theorem c_pows : m_Met true y_St_powerOf ws_St_powerOf nw (rmk 2) ct_pows := by
  refine m_Met_of (by decide +kernel) (fun as w K h => by obtain ⟨_, _, _, _, _, _, _, _, _, _, _, _, _, _, _, rfl, _⟩ := h; exact Nat.le_of_ble_eq_true rfl) ?_
  intro E as w K C hm hret hct
  obtain ⟨bal, o, nd, am, ro, ra, rd, pv, c, rc, h, j, bu, ex, m, rfl, rfl, hc, hK⟩ := hct
  have hT : m_TOk E c_St_powerOf R_St (true, fl_St, [], [], [(0, 76, 2, ct_pow)], []) (m_Rt (some .int) K) := ⟨(fun h => nomatch h), get_St C, m_none, m_none, m_one (ca_St_76 (pb := true) C (fun h => nomatch h) c_pow rfl rfl ct_pow_r ⟨by decide, by decide⟩) m_none, m_none, hret⟩
  have loop : ∀ n lo st w, (∃ i, n = 16 - i ∧ i ≤ 16 ∧ lo = [some (.inr 0), some (.inl m), some (.inl (pwsR nd am c j m i)), some (.inl (nI i))] ∧ st = [] ∧ w = sW bal o nd am ro ra rd pv (nI c) rc h j bu ex) → m_W E 4 lo st w := by
    refine m_loop (fun n lo st w hI ih => ?_)
    obtain ⟨i, rfl, hi, rfl, rfl, rfl⟩ := hI
    refine m_walk C hT wf_St_powerOf [4] 40 ?_
    refine And.intro (fun h1 => ?_) (fun h1 => ?_)
    · have : i = 16 := nI_lit (n := 16) (by omega) hi h1
      subst this
      exact hK
    · have hlt : i < 16 := nI_lt_of (b := 16) (by omega) (by omega) h1
      have e : pwsR nd am c j m (i + 1) = pwsR nd am c j m i + (if (m >>> (nI i &&& 31)) &&& 1 = 1 then pwR nd am c j (nI i) else 0) := rfl
      refine And.intro (fun h2 => ?_) (fun h2 => ?_)
      · exact ih (16 - (i + 1)) _ _ _ (by omega) ⟨i + 1, rfl, hlt, by rw [nI_succ i, e, if_neg h2, Int32.add_zero], rfl, rfl⟩
      · refine m_c0 <| ct_pow_i hc ?_
        exact ih (16 - (i + 1)) _ _ _ (by omega) ⟨i + 1, rfl, hlt, by rw [nI_succ i, e, if_pos h2], rfl, rfl⟩
  refine m_walk C hT wf_St_powerOf [4] 40 ?_
  exact loop 16 _ _ _ ⟨0, rfl, Nat.zero_le _, rfl, rfl, rfl⟩
def ct_evr : mCT := fun as w K => ∃ bal o nd am ro ra rd pv c d h j bu ex, as = [.inr 0] ∧ w = sW bal o nd am ro ra rd pv (nI c) (nI d) h j bu ex ∧ c ≤ 96 ∧ d ≤ 32 ∧ K (some (.inl (bu + sm am c + sm ra d + sm bal 200))) w
theorem ct_evr_r : ∀ as w K, ct_evr as w K → ∃ a r fs, as = .inr a :: r ∧ w[a]? = some (.inr (0, fs)) := by
  intro as w K h
  obtain ⟨bal, o, nd, am, ro, ra, rd, pv, c, d, h, j, bu, ex, rfl, rfl, _⟩ := h
  exact ⟨0, _, _, rfl, rfl⟩
theorem ct_evr_i {bal o nd am ro ra rd pv : Nat → Int32} {c d : Nat} {h j bu : Int32} {ex : mW} {K : Option mV → mW → Prop} (hc : c ≤ 96) (hd : d ≤ 32) (h1 : K (some (.inl (bu + sm am c + sm ra d + sm bal 200))) (sW bal o nd am ro ra rd pv (nI c) (nI d) h j bu ex)) : ct_evr [.inr 0] (sW bal o nd am ro ra rd pv (nI c) (nI d) h j bu ex) K := ⟨bal, o, nd, am, ro, ra, rd, pv, c, d, h, j, bu, ex, rfl, rfl, hc, hd, h1⟩
set_option maxHeartbeats 4000000 in
theorem c_evr : m_Met true y_St_everything ws_St_everything nw (rmk 1) ct_evr := by
  refine m_Met_of (by decide +kernel) (fun as w K h => by obtain ⟨_, _, _, _, _, _, _, _, _, _, _, _, _, _, rfl, _⟩ := h; exact Nat.le_of_ble_eq_true rfl) ?_
  intro E as w K C hm hret hct
  obtain ⟨bal, o, nd, am, ro, ra, rd, pv, c, d, h, j, bu, ex, rfl, rfl, hc, hd, hK⟩ := hct
  have hT : m_TOk E c_St_everything R_St (true, fl_St, [], [], [(0, 79, 1, ct_tot), (0, 83, 1, ct_rtot)], []) (m_Rt (some .int) K) := ⟨(fun h => nomatch h), get_St C, m_none, m_none, m_one (ca_St_79 (pb := true) C (fun h => nomatch h) c_tot rfl rfl ct_tot_r ⟨by decide, by decide⟩) (m_one (ca_St_83 (pb := true) C (fun h => nomatch h) c_rtot rfl rfl ct_rtot_r ⟨by decide, by decide⟩) m_none), m_none, hret⟩
  have loop : ∀ n lo st w, (∃ i, n = 200 - i ∧ i ≤ 200 ∧ lo = [some (.inr 0), some (.inl (bu + sm am c + sm ra d + sm bal i)), some (.inl (nI i))] ∧ st = [] ∧ w = sW bal o nd am ro ra rd pv (nI c) (nI d) h j bu ex) → m_W E 23 lo st w := by
    refine m_loop (fun n lo st w hI ih => ?_)
    obtain ⟨i, rfl, hi, rfl, rfl, rfl⟩ := hI
    refine m_walk C hT wf_St_everything [23] 40 ?_
    refine And.intro (fun h1 => ?_) (fun h1 => ?_)
    · have : i = 200 := nI_lit (n := 200) (by omega) hi h1
      subst this
      exact hK
    · have hlt : i < 200 := nI_lt_of (b := 200) (by omega) (by omega) h1
      refine m_ix hlt ?_
      exact ih (200 - (i + 1)) _ _ _ (by omega) ⟨i + 1, rfl, hlt, by rw [nI_succ i, show sm bal (i + 1) = sm bal i + bal i from rfl, ← Int32.add_assoc], rfl, rfl⟩
  refine m_walk C hT wf_St_everything [23] 40 ?_
  refine m_c0 <| ct_tot_i hc ?_
  refine m_c0 <| ct_rtot_i hd ?_
  exact loop 200 _ _ _ ⟨0, rfl, Nat.zero_le _, by rw [show sm bal 0 = 0 from rfl, Int32.add_zero]; rfl, rfl, rfl⟩
