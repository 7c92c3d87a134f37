/-! The model's methods, further. -/
def ct_mbonds : mCT := fun as w K => ∃ kd ka kb kv kp bf kt bal bd pv ra rm rd pt jl en nw wk rc bu h gn th, as = [.inr 0] ∧ w = mM kd ka kb kv kp bf kt bal bd pv ra rm rd pt jl en nw wk rc bu h gn th ∧ K (some (.inl (sm (fun k => if bd k ≤ 0 then 0 else 1) 3200))) w
theorem ct_mbonds_i {kd ka kb kv kp bf kt bal bd pv ra rm rd pt jl : Nat → Int32} {en nw wk rc bu h gn th : Int32} {K : Option mV → mW → Prop} (hk : K (some (.inl (sm (fun k => if bd k ≤ 0 then 0 else 1) 3200))) (mM kd ka kb kv kp bf kt bal bd pv ra rm rd pt jl en nw wk rc bu h gn th)) : ct_mbonds [.inr 0] (mM kd ka kb kv kp bf kt bal bd pv ra rm rd pt jl en nw wk rc bu h gn th) K := ⟨kd, ka, kb, kv, kp, bf, kt, bal, bd, pv, ra, rm, rd, pt, jl, en, nw, wk, rc, bu, h, gn, th, rfl, rfl, hk⟩
theorem ct_mbonds_r : ∀ as w K, ct_mbonds as w K → ∃ a r fs, as = .inr a :: r ∧ w[a]? = some (.inr (4, fs)) := by
  intro as w K h
  obtain ⟨_, _, _, _, _, _, _, _, _, _, _, _, _, _, _, _, _, _, _, _, _, _, _, rfl, rfl, _⟩ := h
  exact ⟨0, _, _, rfl, rfl⟩
set_option maxHeartbeats 16000000 in
set_option maxRecDepth 20000 in
theorem c_mbonds : m_Met true y_Mo_bonds ws_Mo_bonds nw (rmk 0) ct_mbonds := by
  refine m_Met_of (by decide +kernel) (fun as w K h => by obtain ⟨_, _, _, _, _, _, _, _, _, _, _, _, _, _, _, _, _, _, _, _, _, _, _, rfl, _⟩ := h; exact Nat.le_of_ble_eq_true rfl) ?_
  intro E as w K C hm hret hct
  obtain ⟨kd, ka, kb, kv, kp, bf, kt, bal, bd, pv, ra, rm, rd, pt, jl, en, nw, wk, rc, bu, h, gn, th, rfl, rfl, hK⟩ := hct
  have hT : m_TOk E c_Mo_bonds R_Mo (true, fl_Mo, [], [], [], []) (m_Rt (some .int) K) := ⟨(fun h => nomatch h), get_Mo C, m_none, m_none, m_none, m_none, hret⟩
  have loop : ∀ n lo st w, (∃ i, n = 3200 - i ∧ i ≤ 3200 ∧ lo = [some (.inr 0), some (.inl (sm (fun k => if bd k ≤ 0 then 0 else 1) i)), some (.inl (nI i))] ∧ st = [] ∧ w = mM kd ka kb kv kp bf kt bal bd pv ra rm rd pt jl en nw wk rc bu h gn th) → m_W E 4 lo st w := by
    refine m_loop (fun n lo st w hI ih => ?_)
    obtain ⟨i, rfl, hi, rfl, rfl, rfl⟩ := hI
    have e : sm (fun k => if bd k ≤ 0 then 0 else 1) (i + 1) = sm (fun k => if bd k ≤ 0 then 0 else 1) i + (if bd i ≤ 0 then 0 else 1) := rfl
    refine m_walk C hT wf_Mo_bonds [4] 40 ?_
    refine And.intro (fun h1 => ?_) (fun h1 => ?_)
    · have : i = 3200 := nI_lit (n := 3200) (by omega) hi h1
      subst this
      exact hK
    · have hlt : i < 3200 := nI_lt_of (b := 3200) (by omega) (by omega) h1
      refine m_ix hlt (And.intro (fun h2 => ?_) (fun h2 => ?_))
      · exact ih (3200 - (i + 1)) _ _ _ (by omega) ⟨i + 1, rfl, hlt, by rw [nI_succ i, e, if_pos h2, Int32.add_zero], rfl, rfl⟩
      · exact ih (3200 - (i + 1)) _ _ _ (by omega) ⟨i + 1, rfl, hlt, by rw [nI_succ i, e, if_neg h2], rfl, rfl⟩
  refine m_walk C hT wf_Mo_bonds [4] 40 ?_
  exact loop 3200 _ _ _ ⟨0, rfl, Nat.zero_le _, rfl, rfl, rfl⟩
def ct_mpow : mCT := fun as w K => ∃ kd ka kb kv kp bf kt bal bd pv ra rm rd pt jl en nw wk rc bu h gn th n, as = [.inr 0, .inl (nI n)] ∧ w = mM kd ka kb kv kp bf kt bal bd pv ra rm rd pt jl en nw wk rc bu h gn th ∧ n < 16 ∧ K (some (.inl (if jl n = 0 then sm (fun x => bd (16 * x + n)) 200 else 0))) w
theorem ct_mpow_i {kd ka kb kv kp bf kt bal bd pv ra rm rd pt jl : Nat → Int32} {en nw wk rc bu h gn th : Int32} {n : Nat} {K : Option mV → mW → Prop} (hn : n < 16) (hk : K (some (.inl (if jl n = 0 then sm (fun x => bd (16 * x + n)) 200 else 0))) (mM kd ka kb kv kp bf kt bal bd pv ra rm rd pt jl en nw wk rc bu h gn th)) : ct_mpow [.inr 0, .inl (nI n)] (mM kd ka kb kv kp bf kt bal bd pv ra rm rd pt jl en nw wk rc bu h gn th) K := ⟨kd, ka, kb, kv, kp, bf, kt, bal, bd, pv, ra, rm, rd, pt, jl, en, nw, wk, rc, bu, h, gn, th, n, rfl, rfl, hn, hk⟩
theorem ct_mpow_r : ∀ as w K, ct_mpow as w K → ∃ a r fs, as = .inr a :: r ∧ w[a]? = some (.inr (4, fs)) := by
  intro as w K h
  obtain ⟨_, _, _, _, _, _, _, _, _, _, _, _, _, _, _, _, _, _, _, _, _, _, _, _, rfl, rfl, _⟩ := h
  exact ⟨0, _, _, rfl, rfl⟩
set_option maxHeartbeats 16000000 in
set_option maxRecDepth 20000 in
theorem c_mpow : m_Met true y_Mo_power ws_Mo_power nw (rmk 0) ct_mpow := by
  refine m_Met_of (by decide +kernel) (fun as w K h => by obtain ⟨_, _, _, _, _, _, _, _, _, _, _, _, _, _, _, _, _, _, _, _, _, _, _, _, rfl, _⟩ := h; exact Nat.le_of_ble_eq_true rfl) ?_
  intro E as w K C hm hret hct
  obtain ⟨kd, ka, kb, kv, kp, bf, kt, bal, bd, pv, ra, rm, rd, pt, jl, en, nw, wk, rc, bu, h, gn, th, n, rfl, rfl, hn, hK⟩ := hct
  have hT : m_TOk E c_Mo_power R_Mo (true, fl_Mo, [], [], [], []) (m_Rt (some .int) K) := ⟨(fun h => nomatch h), get_Mo C, m_none, m_none, m_none, m_none, hret⟩
  have loop : ∀ z lo st w, (∃ i, z = 200 - i ∧ i ≤ 200 ∧ (0 < i → jl n = 0) ∧ lo = [some (.inr 0), some (.inl (nI n)), some (.inl (sm (fun x => bd (16 * x + n)) i)), some (.inl (nI (16 * i + n)))] ∧ st = [] ∧ w = mM kd ka kb kv kp bf kt bal bd pv ra rm rd pt jl en nw wk rc bu h gn th) → m_W E 4 lo st w := by
    refine m_loop (fun z lo st w hI ih => ?_)
    obtain ⟨i, rfl, hi, hj, rfl, rfl, rfl⟩ := hI
    refine m_walk C hT wf_Mo_power [4] 40 ?_
    refine And.intro (fun h1 => ?_) (fun h1 => ?_)
    · have h1' := nI_ge_of (a := 16 * i + n) (b := 3200) (by omega) (by omega) h1
      have : i = 200 := by omega
      subst this
      rw [if_pos (hj (by omega))] at hK
      exact hK
    · have hlt : 16 * i + n < 3200 := nI_lt_of (b := 3200) (by omega) (by omega) h1
      refine m_ix hn (And.intro (fun h2 => ?_) (fun h2 => ?_))
      · have : i = 0 := by
          rcases Nat.eq_zero_or_pos i with h | h
          · exact h
          · exact absurd (hj h) h2
        subst this
        rw [if_neg h2] at hK
        exact hK
      · refine m_ix hlt ?_
        exact ih (200 - (i + 1)) _ _ _ (by omega) ⟨i + 1, rfl, by omega, fun _ => h2, by rw [show 16 * (i + 1) + n = 16 * i + n + 16 by omega, ← nI_add (16 * i + n) 16]; rfl, rfl, rfl⟩
  refine m_walk C hT wf_Mo_power [4] 40 ?_
  exact loop 200 _ _ _ ⟨0, rfl, Nat.zero_le _, fun h => absurd h (Nat.lt_irrefl 0), by rw [Nat.mul_zero, Nat.zero_add]; rfl, rfl, rfl⟩
def ct_paid : mCT := fun as w K => ∃ kd ka kb kv kp bf kt bal bd pv ra rm rd pt jl en nw wk rc bu h gn th x v q, as = [.inr 0, .inl (nI x), .inl v, .inl q] ∧ w = mM kd ka kb kv kp bf kt bal bd pv ra rm rd pt jl en nw wk rc bu h gn th ∧ x < 200 ∧ (affR bal x v q → K (some (.inl 1)) w) ∧ (¬ affR bal x v q → K (some (.inl 0)) w)
theorem ct_paid_i {kd ka kb kv kp bf kt bal bd pv ra rm rd pt jl : Nat → Int32} {en nw wk rc bu h gn th : Int32} {x : Nat} {v q : Int32} {K : Option mV → mW → Prop} (hx : x < 200) (h1 : affR bal x v q → K (some (.inl 1)) (mM kd ka kb kv kp bf kt bal bd pv ra rm rd pt jl en nw wk rc bu h gn th)) (h2 : ¬ affR bal x v q → K (some (.inl 0)) (mM kd ka kb kv kp bf kt bal bd pv ra rm rd pt jl en nw wk rc bu h gn th)) : ct_paid [.inr 0, .inl (nI x), .inl v, .inl q] (mM kd ka kb kv kp bf kt bal bd pv ra rm rd pt jl en nw wk rc bu h gn th) K := ⟨kd, ka, kb, kv, kp, bf, kt, bal, bd, pv, ra, rm, rd, pt, jl, en, nw, wk, rc, bu, h, gn, th, x, v, q, rfl, rfl, hx, h1, h2⟩
theorem ct_paid_r : ∀ as w K, ct_paid as w K → ∃ a r fs, as = .inr a :: r ∧ w[a]? = some (.inr (4, fs)) := by
  intro as w K h
  obtain ⟨_, _, _, _, _, _, _, _, _, _, _, _, _, _, _, _, _, _, _, _, _, _, _, _, _, _, rfl, rfl, _⟩ := h
  exact ⟨0, _, _, rfl, rfl⟩
set_option maxHeartbeats 16000000 in
set_option maxRecDepth 20000 in
theorem c_paid : m_Met true y_Mo_isPaid ws_Mo_isPaid nw (rmk 0) ct_paid := by
  refine m_Met_of (by decide +kernel) (fun as w K h => by obtain ⟨_, _, _, _, _, _, _, _, _, _, _, _, _, _, _, _, _, _, _, _, _, _, _, _, _, _, rfl, _⟩ := h; exact Nat.le_of_ble_eq_true rfl) ?_
  intro E as w K C hm hret hct
  obtain ⟨kd, ka, kb, kv, kp, bf, kt, bal, bd, pv, ra, rm, rd, pt, jl, en, nw, wk, rc, bu, h, gn, th, x, v, q, rfl, rfl, hx, hK1, hK2⟩ := hct
  have hT : m_TOk E c_Mo_isPaid R_Mo (true, fl_Mo, [], [], [], []) (m_Rt (some .boolean) K) := ⟨(fun h => nomatch h), get_Mo C, m_none, m_none, m_none, m_none, hret⟩
  refine m_walk C hT wf_Mo_isPaid [] 40 ?_
  refine m_ix hx (And.intro (fun h1 => And.intro (Or.inl rfl) (hK2 (fun z => absurd h1 (Int32.not_lt.mpr z.1)))) (fun h1 => ?_))
  refine m_ix hx (And.intro (fun h2 => ?_) (fun h2 => ?_))
  · refine And.intro (fun h3 => ?_) (fun h3 => ?_)
    · exact And.intro (Or.inl rfl) (hK2 (fun z => absurd z.2 (by rw [if_neg (fun e => h2 e.symm)]; exact Int32.not_le.mpr h3)))
    · exact And.intro (Or.inr rfl) (hK1 ⟨Int32.not_lt.mp h1, by rw [if_neg (fun e => h2 e.symm)]; exact Int32.not_lt.mp h3⟩)
  · refine And.intro (fun h3 => ?_) (fun h3 => ?_)
    · exact And.intro (Or.inl rfl) (hK2 (fun z => absurd z.2 (by rw [if_pos h2.symm]; rw [Int32.sub_zero] at h3; exact Int32.not_le.mpr h3)))
    · exact And.intro (Or.inr rfl) (hK1 ⟨Int32.not_lt.mp h1, by rw [if_pos h2.symm]; rw [Int32.sub_zero] at h3; exact Int32.not_lt.mp h3⟩)
def lgAt (kd ka kb kv kp : Nat → Int32) (e : Nat) (q : aO) : Prop := kd e = nI q.1 ∧ ka e = nI q.2.1 ∧ kb e = nI q.2.2.1 ∧ kv e = q.2.2.2.1 ∧ kp e = nI q.2.2.2.2
def a_ok (q : aO) (s : aS) : Prop := q.1 ≤ 5 ∧ (q.1 < 5 → q.2.1 < 200 ∧ q.2.2.2.2 < 16) ∧ (q.1 = 0 → q.2.2.1 < 200) ∧ (1 ≤ q.1 → q.1 ≤ 4 → q.2.2.1 < 16) ∧ (q.1 = 2 → s.2.2.1.length < 32)
theorem eqn_fee {b b' : Nat → Int32} {a p : Nat} (h : eqn 200 b b') (ha : a < 200) (hp : p < 200) : eqn 200 (a_fee b a p) (a_fee b' a p) := by
  unfold a_fee
  have h1 : eqn 200 (upd b a (b a - 1)) (upd b' a (b' a - 1)) := eqn_upd h (by rw [h a ha])
  exact eqn_upd h1 (by rw [h1 p hp])
theorem eqn_pay {b b' : Nat → Int32} {a p : Nat} {v : Int32} (h : eqn 200 b b') (ha : a < 200) (hp : p < 200) : eqn 200 (a_pay b a p v) (a_pay b' a p v) := by
  unfold a_pay
  have h1 : eqn 200 (upd b a (b a - v)) (upd b' a (b' a - v)) := eqn_upd h (by rw [h a ha])
  exact eqn_upd h1 (by rw [h1 p hp])
theorem eqn_rel {h : Int32} : ∀ {l : List (Nat × Int32 × Int32)} {b b' : Nat → Int32}, (∀ r ∈ l, r.1 < 200) → eqn 200 b b' → eqn 200 (a_rel h l b) (a_rel h l b')
  | [], b, b', _, hb => hb
  | r :: l, b, b', hl, hb => by
    have hr := hl r List.mem_cons_self
    refine eqn_rel (l := l) (fun q hq => hl q (List.mem_cons_of_mem _ hq)) ?_
    by_cases hd : r.2.2 ≤ h
    · simp only [hd, if_true]
      exact eqn_upd hb (by rw [hb r.1 hr])
    · simp only [hd, if_false]
      exact hb
theorem nar1 : vp_nar .boolean 1 = 1 := by decide
theorem nar0 : vp_nar .boolean 0 = 0 := by decide
def ct_done : mCT := fun as w K => ∃ kd ka kb kv kp bf kt bal bd pv ra rm rd pt jl en nw wk rc bu h gn th e o s, as = [.inr 0, .inl (nI e)] ∧ w = mM kd ka kb kv kp bf kt bal bd pv ra rm rd pt jl en nw wk rc bu h gn th ∧ e < 4200 ∧ lgAt kd ka kb kv kp e o ∧ a_ok o s ∧ aI s ∧ RM s bal bd pv jl ra rm rd rc bu h ∧ ∀ bal' bd' pv' jl' ra' rm' rd' rc' bu' h' gn', RM (a_step o s) bal' bd' pv' jl' ra' rm' rd' rc' bu' h' → ((o.1 = 4 ∨ o.1 = 5) → gn' = a_gone o s) → K none (mM kd ka kb kv kp bf kt bal' bd' pv' ra' rm' rd' pt jl' en nw wk rc' bu' h' gn' th)
theorem ct_done_i {kd ka kb kv kp bf kt bal bd pv ra rm rd pt jl : Nat → Int32} {en nw wk rc bu h gn th : Int32} {e : Nat} {o : aO} {s : aS} {K : Option mV → mW → Prop} (h1 : e < 4200) (h2 : lgAt kd ka kb kv kp e o) (h3 : a_ok o s) (h4 : aI s) (h5 : RM s bal bd pv jl ra rm rd rc bu h) (h6 : ∀ bal' bd' pv' jl' ra' rm' rd' rc' bu' h' gn', RM (a_step o s) bal' bd' pv' jl' ra' rm' rd' rc' bu' h' → ((o.1 = 4 ∨ o.1 = 5) → gn' = a_gone o s) → K none (mM kd ka kb kv kp bf kt bal' bd' pv' ra' rm' rd' pt jl' en nw wk rc' bu' h' gn' th)) : ct_done [.inr 0, .inl (nI e)] (mM kd ka kb kv kp bf kt bal bd pv ra rm rd pt jl en nw wk rc bu h gn th) K := ⟨kd, ka, kb, kv, kp, bf, kt, bal, bd, pv, ra, rm, rd, pt, jl, en, nw, wk, rc, bu, h, gn, th, e, o, s, rfl, rfl, h1, h2, h3, h4, h5, h6⟩
theorem ct_done_r : ∀ as w K, ct_done as w K → ∃ a r fs, as = .inr a :: r ∧ w[a]? = some (.inr (4, fs)) := by
  intro as w K h
  obtain ⟨_, _, _, _, _, _, _, _, _, _, _, _, _, _, _, _, _, _, _, _, _, _, _, _, _, _, rfl, rfl, _⟩ := h
  exact ⟨0, _, _, rfl, rfl⟩
set_option maxHeartbeats 16000000 in
set_option maxRecDepth 20000 in
theorem c_done : m_Met false y_Mo_done ws_Mo_done nw (rmk 1) ct_done := by
  refine m_Met_of (by decide +kernel) (fun as w K h => by obtain ⟨_, _, _, _, _, _, _, _, _, _, _, _, _, _, _, _, _, _, _, _, _, _, _, _, _, _, rfl, _⟩ := h; exact Nat.le_of_ble_eq_true rfl) ?_
  intro E as w K C hm hret hct
  obtain ⟨kd, ka, kb, kv, kp, bf, kt, bal, bd, pv, ra, rm, rd, pt, jl, en, nw, wk, rc, bu, h, gn, th, e, ⟨k, x, y, v, q⟩, ⟨b0, d0, l0, p0, j0, u0, t0⟩, rfl, rfl, he, ⟨hk, hkx, hky, hkv, hkq⟩, ⟨ok1, ok2, ok3, ok4, ok5⟩, ⟨hi1, hi2⟩, ⟨m1, m2, m3, m4, m5, m6, m7, m8⟩, hK⟩ := hct
  have hT : m_TOk E c_Mo_done R_Mo (false, fl_Mo, fp_Mo, [], [(0, 85, 1, ct_next2)], []) (m_Rt none K) := ⟨hm, get_Mo C, put_Mo C, m_none, m_one (ca_Mo_85 (pb := false) C hm c_next2 rfl rfl ct_next2_r ⟨by decide, by decide⟩) m_none, m_none, hret⟩
  simp only at hk hkx hky hkv hkq ok1 ok2 ok3 ok4 ok5 hi1 hi2 m1 m2 m3 m4 m5 m6 m7 m8 hK
  have hne : ∀ {a b : Nat}, a < 10 → b < 10 → a ≠ b → ¬ nI a = nI b := fun ha hb z h => z ((nI_eq (by omega) (by omega)).mp h)
  rcases (show k = 0 ∨ k = 1 ∨ k = 2 ∨ k = 3 ∨ k = 4 ∨ k = 5 by omega) with rfl | rfl | rfl | rfl | rfl | rfl
  · have ok2 := ok2 (by omega)
    have ok3 := ok3 rfl
    refine m_walk C hT wf_Mo_done [245] 120 ?_
    refine m_ix he (m_ix he (m_ix he (m_ix he (And.intro (fun _ => ?_) (fun z => absurd (hk.symm.trans z) (by decide))))))
    refine m_ixe hkx ok2.1 (m_ixe hkx ok2.1 (m_ix he (m_ixe hkq (by omega) (m_ixe hkq (by omega) (m_ix he ?_)))))
    refine And.intro (fun _ => ?_) (fun z => absurd hk z)
    refine m_ixe hkx ok2.1 (m_ixe hkx ok2.1 (m_ixe hky ok3 (m_ixe hky ok3 ?_)))
    refine hK _ _ _ _ _ _ _ _ _ _ _ ⟨?_, m2, m3, m4, m5, m6, m7, m8⟩ (fun z => absurd z (by omega))
    rw [hkv]
    exact eqn_pay (eqn_fee m1 ok2.1 (by omega)) ok2.1 ok3
  · have ok2 := ok2 (by omega)
    have ok4 := ok4 (by omega) (by omega)
    have e16 : 16 * ka e + kb e = nI (16 * x + y) := by rw [hkx, hky, ix16]
    refine m_walk C hT wf_Mo_done [245] 120 ?_
    refine m_ix he (m_ix he (m_ix he (m_ix he (And.intro (fun _ => ?_) (fun z => absurd (hk.symm.trans z) (by decide))))))
    refine m_ixe hkx ok2.1 (m_ixe hkx ok2.1 (m_ix he (m_ixe hkq (by omega) (m_ixe hkq (by omega) (m_ix he ?_)))))
    refine And.intro (fun z => absurd (hk.symm.trans z) (by decide)) (fun _ => ?_)
    refine And.intro (fun _ => ?_) (fun z => absurd hk z)
    refine m_ixe hkx ok2.1 (m_ixe hkx ok2.1 (m_ixe e16 (by omega) (m_ixe e16 (by omega) ?_)))
    refine hK _ _ _ _ _ _ _ _ _ _ _ ⟨?_, ?_, m3, m4, m5, m6, m7, m8⟩ (fun z => absurd z (by omega))
    · rw [hkv]
      have h1 := eqn_fee m1 ok2.1 (show q < 200 by omega)
      exact eqn_upd h1 (by rw [← h1 x ok2.1]; rfl)
    · rw [hkv]
      exact eqn_upd m2 (by rw [m2 _ (by omega)])
  · have ok2 := ok2 (by omega)
    have ok4 := ok4 (by omega) (by omega)
    have ok5 := ok5 rfl
    have e16 : 16 * ka e + kb e = nI (16 * x + y) := by rw [hkx, hky, ix16]
    refine m_walk C hT wf_Mo_done [245] 120 ?_
    refine m_ix he (m_ix he (m_ix he (m_ix he (And.intro (fun _ => ?_) (fun z => absurd (hk.symm.trans z) (by decide))))))
    refine m_ixe hkx ok2.1 (m_ixe hkx ok2.1 (m_ix he (m_ixe hkq (by omega) (m_ixe hkq (by omega) (m_ix he ?_)))))
    refine And.intro (fun z => absurd (hk.symm.trans z) (by decide)) (fun _ => ?_)
    refine And.intro (fun z => absurd (hk.symm.trans z) (by decide)) (fun _ => ?_)
    refine And.intro (fun _ => ?_) (fun z => absurd hk z)
    refine m_ixe e16 (by omega) (m_ixe e16 (by omega) (m_ixe m4 ok5 (m_ixe m4 ok5 (m_ixe m4 ok5 ?_))))
    refine hK _ _ _ _ _ _ _ _ _ _ _ ⟨eqn_fee m1 ok2.1 (by omega), ?_, ?_, ?_, m5, m6, m7, m8⟩ (fun z => absurd z (by omega))
    · rw [hkv]
      exact eqn_upd m2 (by rw [m2 _ (by omega)])
    · intro i r hi
      by_cases hlt : i < l0.length
      · have hi' : l0[i]? = some r := by rw [← hi]; exact (List.getElem?_append_left hlt).symm
        have := m3 i r hi'
        simpa [upd, Nat.ne_of_lt hlt] using this
      · have hi' : ([(x, v, t0 + 4)] : List (Nat × Int32 × Int32))[i - l0.length]? = some r := by rw [← hi]; exact (List.getElem?_append_right (by omega)).symm
        have h0 : i - l0.length = 0 := by
          have := (List.getElem?_eq_some_iff.mp hi').1
          simp at this
          omega
        rw [h0] at hi'
        simp only [List.getElem?_cons_zero, Option.some.injEq] at hi'
        have hie : i = l0.length := by omega
        subst hie
        subst hi'
        simp [upd, hkx, hkv, m8]
    · show rc + 1 = nI (l0 ++ [(x, v, t0 + 4)]).length
      rw [List.length_append, m4]
      exact (nI_succ _).symm
  · have ok2 := ok2 (by omega)
    have ok4 := ok4 (by omega) (by omega)
    refine m_walk C hT wf_Mo_done [245] 120 ?_
    refine m_ix he (m_ix he (m_ix he (m_ix he (And.intro (fun _ => ?_) (fun z => absurd (hk.symm.trans z) (by decide))))))
    refine m_ixe hkx ok2.1 (m_ixe hkx ok2.1 (m_ix he (m_ixe hkq (by omega) (m_ixe hkq (by omega) (m_ix he ?_)))))
    refine And.intro (fun z => absurd (hk.symm.trans z) (by decide)) (fun _ => ?_)
    refine And.intro (fun z => absurd (hk.symm.trans z) (by decide)) (fun _ => ?_)
    refine And.intro (fun z => absurd (hk.symm.trans z) (by decide)) (fun _ => ?_)
    refine And.intro (fun _ => ?_) (fun z => absurd hk z)
    refine m_ixe hky ok4 ?_
    refine hK _ _ _ _ _ _ _ _ _ _ _ ⟨eqn_fee m1 ok2.1 (by omega), m2, m3, m4, m5, ?_, m7, m8⟩ (fun z => absurd z (by omega))
    intro n hn
    show upd jl y (vp_nar .boolean 0) n = jlI (a_jl j0 y false n)
    by_cases z : n = y
    · simp [upd, a_jl, z, jlI, nar0]
    · simp only [upd, a_jl, z, if_false]
      exact m6 n hn
  · have ok2 := ok2 (by omega)
    have ok4 := ok4 (by omega) (by omega)
    have loop : ∀ n lo st w, (∃ i bd', n = 200 - i ∧ i ≤ 200 ∧ lo = [some (.inr 0), some (.inl (nI e)), some (.inl (ka e)), some (.inl (kb e)), some (.inl (kv e)), some (.inl (nI (16 * i + y)))] ∧ st = [] ∧ w = mM kd ka kb kv kp bf kt (a_fee bal x q) bd' (upd pv y (kv e)) ra rm rd pt (upd jl y (vp_nar .boolean 1)) en nw wk rc bu h (sm (fun z => bd (16 * z + y) / 4) i) th ∧ ∀ k, k < 3200 → bd' k = if k % 16 = y ∧ k / 16 < i then bd k - bd k / 4 else bd k) → m_W E 245 lo st w := by
      refine m_loop (fun n lo st w hI ih => ?_)
      obtain ⟨i, bd', rfl, hi, rfl, rfl, rfl, hb⟩ := hI
      refine m_walk C hT wf_Mo_done [245] 120 ?_
      refine And.intro (fun h1 => ?_) (fun h1 => ?_)
      · have h1' := nI_ge_of (a := 16 * i + y) (b := 3200) (by omega) (by omega) h1
        have h200 : i = 200 := by omega
        have hl : sm (fun z => bd (16 * z + y) / 4) i = a_lost d0 y := by
          rw [h200]
          exact sm_congr (fun z hz => by rw [m2 _ (by omega)])
        have hg : sm (fun z => bd (16 * z + y) / 4) i = a_gone (4, x, y, v, q) (b0, d0, l0, p0, j0, u0, t0) := hl
        have hRM : RM (a_step (4, x, y, v, q) (b0, d0, l0, p0, j0, u0, t0)) (a_fee bal x q) bd' (upd pv y (kv e)) (upd jl y (vp_nar .boolean 1)) ra rm rd rc (bu + sm (fun z => bd (16 * z + y) / 4) i) h := by
         refine ⟨eqn_fee m1 ok2.1 (by omega), ?_, m3, m4, ?_, ?_, ?_, m8⟩
         · intro z hz
           rw [hb z hz, m2 z hz]
           show _ = if z % 16 = y then d0 z - d0 z / 4 else d0 z
           have : (z % 16 = y ∧ z / 16 < i) ↔ z % 16 = y := ⟨fun g => g.1, fun g => ⟨g, by omega⟩⟩
           simp only [this]
         · rw [hkv]
           exact eqn_upd m5 rfl
         · intro z hz
           show upd jl y (vp_nar .boolean 1) z = jlI (a_jl j0 y true z)
           by_cases g : z = y
           · simp [upd, a_jl, g, jlI, nar1]
           · simp only [upd, a_jl, g, if_false]
             exact m6 z hz
         · rw [hl, m7]
           rfl
        generalize hG : sm (fun z => bd (16 * z + y) / 4) i = G at hRM hg ⊢
        exact hK _ _ _ _ _ _ _ _ _ _ G hRM (fun _ => hg)
      · have hlt : 16 * i + y < 3200 := nI_lt_of (b := 3200) (by omega) (by omega) h1
        have e0 : bd' (16 * i + y) = bd (16 * i + y) := by
          rw [hb _ hlt, if_neg]
          intro g
          have := g.2
          omega
        refine m_ix hlt (And.intro (by decide) (m_ix hlt (m_ix hlt (And.intro (by decide) (m_ix hlt ?_)))))
        refine ih (200 - (i + 1)) _ _ _ (by omega) ⟨i + 1, upd bd' (16 * i + y) (bd' (16 * i + y) - bd' (16 * i + y) / 4), rfl, by omega, ?_, rfl, ?_, fun z hz => ?_⟩
        · rw [show 16 * (i + 1) + y = 16 * i + y + 16 by omega, ← nI_add (16 * i + y) 16]
          rfl
        · rw [e0]
          rfl
        · by_cases g : z = 16 * i + y
          · subst g
            show (if 16 * i + y = 16 * i + y then bd' (16 * i + y) - bd' (16 * i + y) / 4 else _) = _
            rw [if_pos rfl, e0, if_pos ⟨by omega, by omega⟩]
          · simp only [upd, g, if_false]
            rw [hb z hz]
            have : (z % 16 = y ∧ z / 16 < i + 1) ↔ (z % 16 = y ∧ z / 16 < i) := by
              constructor
              · exact fun g' => ⟨g'.1, by have := g'.1; omega⟩
              · exact fun g' => ⟨g'.1, by omega⟩
            simp only [this]
    refine m_walk C hT wf_Mo_done [245] 120 ?_
    refine m_ix he (m_ix he (m_ix he (m_ix he (And.intro (fun _ => ?_) (fun z => absurd (hk.symm.trans z) (by decide))))))
    refine m_ixe hkx ok2.1 (m_ixe hkx ok2.1 (m_ix he (m_ixe hkq (by omega) (m_ixe hkq (by omega) (m_ix he ?_)))))
    refine And.intro (fun z => absurd (hk.symm.trans z) (by decide)) (fun _ => ?_)
    refine And.intro (fun z => absurd (hk.symm.trans z) (by decide)) (fun _ => ?_)
    refine And.intro (fun z => absurd (hk.symm.trans z) (by decide)) (fun _ => ?_)
    refine And.intro (fun z => absurd (hk.symm.trans z) (by decide)) (fun _ => ?_)
    refine m_ixe hky ok4 (m_ixe hky ok4 ?_)
    refine loop 200 _ _ _ ⟨0, bd, rfl, Nat.zero_le _, ?_, rfl, rfl, fun z hz => by rw [if_neg (fun g => absurd g.2 (Nat.not_lt_zero _))]⟩
    rw [Nat.mul_zero, Nat.zero_add, hky]
    rfl
  · refine m_walk C hT wf_Mo_done [245] 120 ?_
    refine m_ix he (m_ix he (m_ix he (m_ix he (And.intro (fun z => absurd hk z) (fun _ => ?_)))))
    refine m_c0 <| ct_next2_i m4 hi1 m3 hi2 (fun ra' rm' rd' hh => ?_)
    subst m8
    refine hK _ _ _ _ _ _ _ _ _ _ _ ⟨eqn_rel hi2 m1, m2, hh, rfl, m5, m6, m7, rfl⟩ (fun _ => rfl)
