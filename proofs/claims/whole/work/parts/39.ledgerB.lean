/-! The ledger's public methods, further. -/
def cx_unbond : mCX := fun as w K X => ∃ bal o nd am ro ra rd pv c d h j bu ex a b v p, as = [.inr 11, .inl a, .inl b, .inl v, .inl p] ∧ w = lW bal o nd am ro ra rd pv (nI c) (nI d) h j bu ex ∧ c ≤ 96 ∧ d ≤ 32 ∧ (¬ (isR a 200 ∧ isR b 16 ∧ isV v ∧ isR p 16) → X 0 w) ∧
  (∀ x y q : Nat, x < 200 → y < 16 → q < 16 → isV v → a = nI x → b = nI y → p = nI q → ((¬ affR bal x 0 p ∨ nfd o nd c a b ∨ (∃ i, fnd o nd c a b i ∧ ¬ v ≤ am i) ∨ d = 32) → X 1 w) ∧ (affR bal x 0 p → d < 32 → ∀ i, fnd o nd c a b i → v ≤ am i →
    (am i - v = 0 → K (some (.inl (nI (d + 1)))) (lW (a_fee bal x q) (upd o i (o (c - 1))) (upd nd i (nd (c - 1))) (upd (upd am i (am i - v)) i (upd am i (am i - v) (c - 1))) (upd ro d a) (upd ra d v) (upd rd d (h + 4)) pv (nI (c - 1)) (nI (d + 1)) h j bu ex)) ∧
    (¬ am i - v = 0 → K (some (.inl (nI (d + 1)))) (lW (a_fee bal x q) o nd (upd am i (am i - v)) (upd ro d a) (upd ra d v) (upd rd d (h + 4)) pv (nI c) (nI (d + 1)) h j bu ex))))
theorem dx_unbond_29 : m_dec5 c_Le_unbond 29 30 57 34 := ⟨by decide +kernel, by decide +kernel, by decide +kernel, by decide +kernel, by decide +kernel⟩
theorem dx_unbond_53 : m_dec5 c_Le_unbond 53 41 79 45 := ⟨by decide +kernel, by decide +kernel, by decide +kernel, by decide +kernel, by decide +kernel⟩
theorem dx_unbond_79 : m_dec5 c_Le_unbond 79 41 81 45 := ⟨by decide +kernel, by decide +kernel, by decide +kernel, by decide +kernel, by decide +kernel⟩
theorem dx_unbond_102 : m_dec5 c_Le_unbond 102 41 93 45 := ⟨by decide +kernel, by decide +kernel, by decide +kernel, by decide +kernel, by decide +kernel⟩
set_option maxHeartbeats 8000000 in
theorem x_unbond : m_MetX y_Le_unbond ws_Le_unbond rmX cx_unbond := by
  refine m_MetX_of (by decide +kernel) (fun as w K X h => by obtain ⟨_, _, _, _, _, _, _, _, _, _, _, _, _, _, _, _, _, _, rfl, _⟩ := h; exact Nat.le_of_ble_eq_true rfl) ⟨rfl, rfl, by decide, by decide⟩ ?_
  intro E as w K X C hm hret hx hct
  obtain ⟨bal, o, nd, am, ro, ra, rd, pv, c, d, h, j, bu, ex, a, b, v, p, rfl, rfl, hc, hd, hX0, hK⟩ := hct
  have hT : m_TOk E c_Le_unbond R_Le (false, fl_Le, fp_Le, [(133, 1000000), (170, 65535)], [(1, 20, 1, ct_in 200), (1, 54, 1, ct_in 16), (1, 24, 1, ct_isV), (1, 27, 1, ct_in 16), (0, 37, 4, ct_aff), (0, 75, 3, ct_amt), (0, 87, 1, ct_full), (0, 46, 3, ct_fee), (0, 95, 4, ct_dec), (0, 102, 4, ct_app)], [(29, 0), (53, 1), (79, 1), (102, 1)]) (m_RtX (some .int) K X) := ⟨(fun _ => hm), get_Le C, put_Le C, cs_Le C, (m_one (ca_Le_20 (pb := true) C (fun h => nomatch h) c_isAccount rfl rfl ⟨by decide, by decide⟩) (m_one (ca_Le_54 (pb := true) C (fun h => nomatch h) c_isNode rfl rfl ⟨by decide, by decide⟩) (m_one (ca_Le_24 (pb := true) C (fun h => nomatch h) c_isAmount rfl rfl ⟨by decide, by decide⟩) (m_one (ca_Le_27 (pb := true) C (fun h => nomatch h) c_isFeeTaker rfl rfl ⟨by decide, by decide⟩) (m_one (ca_Le_37 (pb := true) C (fun h => nomatch h) c_aff rfl rfl ct_aff_r ⟨by decide, by decide⟩) (m_one (ca_Le_75 (pb := true) C (fun h => nomatch h) c_amt rfl rfl ct_amt_r ⟨by decide, by decide⟩) (m_one (ca_Le_87 (pb := true) C (fun h => nomatch h) c_full rfl rfl ct_full_r ⟨by decide, by decide⟩) (m_one (ca_Le_46 (pb := false) C (fun _ => hm) c_fee rfl rfl ct_fee_r ⟨by decide, by decide⟩) (m_one (ca_Le_95 (pb := false) C (fun _ => hm) c_dec rfl rfl ct_dec_r ⟨by decide, by decide⟩) (m_one (ca_Le_102 (pb := false) C (fun _ => hm) c_app rfl rfl ct_app_r ⟨by decide, by decide⟩) m_none)))))))))), (m_one (hx 29 0 30 57 34 _ xk_0 sx_57 dx_unbond_29) (m_one (hx 53 1 41 79 45 _ xk_1 sx_79 dx_unbond_53) (m_one (hx 79 1 41 81 45 _ xk_1 sx_81 dx_unbond_79) (m_one (hx 102 1 41 93 45 _ xk_1 sx_93 dx_unbond_102) m_none)))), hret⟩
  refine m_walk C hT wf_Le_unbond [] 90 ?_
  refine m_c0 <| ct_in_i (fun h1 => ?_) (fun h1 => And.intro (fun _ => hX0 (fun z => h1 z.1)) (fun z => absurd rfl z))
  refine And.intro (fun z => absurd z (by decide)) (fun _ => ?_)
  refine m_c0 <| ct_in_i (fun h2 => ?_) (fun h2 => And.intro (fun _ => hX0 (fun z => h2 z.2.1)) (fun z => absurd rfl z))
  refine And.intro (fun z => absurd z (by decide)) (fun _ => ?_)
  refine m_c0 <| ct_isV_i (fun h3 => ?_) (fun h3 => And.intro (fun _ => hX0 (fun z => h3 z.2.2.1)) (fun z => absurd rfl z))
  refine And.intro (fun z => absurd z (by decide)) (fun _ => ?_)
  refine m_c0 <| ct_in_i (fun h4 => ?_) (fun h4 => And.intro (fun z => absurd rfl z) (fun _ => hX0 (fun z => h4 z.2.2.2)))
  refine And.intro (fun _ => ?_) (fun z => absurd z (by decide))
  obtain ⟨x, hx0, rfl⟩ := isR_nat (n := 200) (by decide) h1
  obtain ⟨y, hy0, rfl⟩ := isR_nat (n := 16) (by decide) h2
  obtain ⟨q, hq0, rfl⟩ := isR_nat (n := 16) (by decide) h4
  obtain ⟨hX1, hK1⟩ := hK x y q hx0 hy0 hq0 h3 rfl rfl rfl
  refine m_c0 <| ct_aff_i hx0 (fun h5 => ?_) (fun h5 => And.intro (fun z => absurd rfl z) (fun _ => hX1 (.inl h5)))
  refine And.intro (fun _ => ?_) (fun z => absurd z (by decide))
  refine m_c0 <| ct_amt_i hc (fun i hi => ?_) (fun hn => ?_)
  · refine And.intro (fun h6 => ?_) (fun h6 => hX1 (.inr (.inr (.inl ⟨i, hi, h6⟩))))
    refine m_c0 <| ct_full_i hd (fun h7 => ?_) (fun h7 => And.intro (fun z => absurd z (by decide)) (fun _ => hX1 (.inr (.inr (.inr h7)))))
    refine And.intro (fun _ => ?_) (fun z => absurd rfl z)
    obtain ⟨hK2, hK3⟩ := hK1 h5 h7 i hi h6
    obtain ⟨c', rfl⟩ : ∃ c', c = c' + 1 := ⟨c - 1, by have := hi.1; omega⟩
    rw [Nat.add_sub_cancel] at hK2
    refine m_c0 <| ct_fee_i hx0 (by omega) ?_
    refine m_c0 <| ct_dec_i (by omega) (fun i' hi' => ?_) (fun hn => fnd_nfd hi hn)
    have := fnd_uniq hi hi'
    subst this
    refine ⟨fun h8 => ?_, fun h8 => ?_⟩
    · exact m_c0 <| ct_app_i h7 (hK2 h8)
    · exact m_c0 <| ct_app_i h7 (hK3 h8)
  · refine And.intro (fun h6 => ?_) (fun h6 => hX1 (.inr (.inl hn)))
    exact absurd h6 (Int32.not_le.mpr (Int32.lt_of_lt_of_le (by decide) h3.1))
def cx_free : mCX := fun as w K X => ∃ bal o nd am ro ra rd pv c rc h j bu ex a b p, as = [.inr 11, .inl a, .inl b, .inl p] ∧ w = lW bal o nd am ro ra rd pv (nI c) rc h j bu ex ∧ c ≤ 96 ∧ (¬ (isR a 200 ∧ isR b 16 ∧ isR p 16) → X 0 w) ∧
  (∀ x y q : Nat, x < 200 → y < 16 → q < 16 → a = nI x → b = nI y → p = nI q → ((¬ affR bal x 0 p ∨ ¬ (j >>> (b &&& 31)) &&& 1 = 1) → X 1 w) ∧ (affR bal x 0 p → (j >>> (b &&& 31)) &&& 1 = 1 →
    K (some (.inl (pwR nd am c (j &&& ((1 <<< (b &&& 31)) ^^^ (-1))) b))) (lW (a_fee bal x q) o nd am ro ra rd pv (nI c) rc h (j &&& ((1 <<< (b &&& 31)) ^^^ (-1))) bu ex)))
theorem dx_free_21 : m_dec5 c_Le_free 21 30 108 34 := ⟨by decide +kernel, by decide +kernel, by decide +kernel, by decide +kernel, by decide +kernel⟩
theorem dx_free_44 : m_dec5 c_Le_free 44 41 79 45 := ⟨by decide +kernel, by decide +kernel, by decide +kernel, by decide +kernel, by decide +kernel⟩
theorem dx_free_65 : m_dec5 c_Le_free 65 41 113 45 := ⟨by decide +kernel, by decide +kernel, by decide +kernel, by decide +kernel, by decide +kernel⟩
set_option maxHeartbeats 8000000 in
theorem x_free : m_MetX y_Le_free ws_Le_free rmX cx_free := by
  refine m_MetX_of (by decide +kernel) (fun as w K X h => by obtain ⟨_, _, _, _, _, _, _, _, _, _, _, _, _, _, _, _, _, rfl, _⟩ := h; exact Nat.le_of_ble_eq_true rfl) ⟨rfl, rfl, by decide, by decide⟩ ?_
  intro E as w K X C hm hret hx hct
  obtain ⟨bal, o, nd, am, ro, ra, rd, pv, c, rc, h, j, bu, ex, a, b, p, rfl, rfl, hc, hX0, hK⟩ := hct
  have hT : m_TOk E c_Le_free R_Le (false, fl_Le, fp_Le, [(133, 1000000), (170, 65535)], [(1, 20, 1, ct_in 200), (1, 54, 1, ct_in 16), (1, 27, 1, ct_in 16), (0, 37, 4, ct_aff), (0, 110, 2, ct_isj), (0, 46, 3, ct_fee), (0, 118, 2, ct_pow)], [(21, 0), (44, 1), (65, 1)]) (m_RtX (some .int) K X) := ⟨(fun _ => hm), get_Le C, put_Le C, cs_Le C, (m_one (ca_Le_20 (pb := true) C (fun h => nomatch h) c_isAccount rfl rfl ⟨by decide, by decide⟩) (m_one (ca_Le_54 (pb := true) C (fun h => nomatch h) c_isNode rfl rfl ⟨by decide, by decide⟩) (m_one (ca_Le_27 (pb := true) C (fun h => nomatch h) c_isFeeTaker rfl rfl ⟨by decide, by decide⟩) (m_one (ca_Le_37 (pb := true) C (fun h => nomatch h) c_aff rfl rfl ct_aff_r ⟨by decide, by decide⟩) (m_one (ca_Le_110 (pb := true) C (fun h => nomatch h) c_isj rfl rfl ct_isj_r ⟨by decide, by decide⟩) (m_one (ca_Le_46 (pb := false) C (fun _ => hm) c_fee rfl rfl ct_fee_r ⟨by decide, by decide⟩) (m_one (ca_Le_118 (pb := true) C (fun h => nomatch h) c_pow rfl rfl ct_pow_r ⟨by decide, by decide⟩) m_none))))))), (m_one (hx 21 0 30 108 34 _ xk_0 sx_108 dx_free_21) (m_one (hx 44 1 41 79 45 _ xk_1 sx_79 dx_free_44) (m_one (hx 65 1 41 113 45 _ xk_1 sx_113 dx_free_65) m_none))), hret⟩
  refine m_walk C hT wf_Le_free [] 90 ?_
  refine m_c0 <| ct_in_i (fun h1 => ?_) (fun h1 => And.intro (fun _ => hX0 (fun z => h1 z.1)) (fun z => absurd rfl z))
  refine And.intro (fun z => absurd z (by decide)) (fun _ => ?_)
  refine m_c0 <| ct_in_i (fun h2 => ?_) (fun h2 => And.intro (fun _ => hX0 (fun z => h2 z.2.1)) (fun z => absurd rfl z))
  refine And.intro (fun z => absurd z (by decide)) (fun _ => ?_)
  refine m_c0 <| ct_in_i (fun h4 => ?_) (fun h4 => And.intro (fun z => absurd rfl z) (fun _ => hX0 (fun z => h4 z.2.2)))
  refine And.intro (fun _ => ?_) (fun z => absurd z (by decide))
  obtain ⟨x, hx0, rfl⟩ := isR_nat (n := 200) (by decide) h1
  obtain ⟨y, hy0, rfl⟩ := isR_nat (n := 16) (by decide) h2
  obtain ⟨q, hq0, rfl⟩ := isR_nat (n := 16) (by decide) h4
  obtain ⟨hX1, hK1⟩ := hK x y q hx0 hy0 hq0 rfl rfl rfl
  refine m_c0 <| ct_aff_i hx0 (fun h5 => ?_) (fun h5 => And.intro (fun z => absurd rfl z) (fun _ => hX1 (.inl h5)))
  refine And.intro (fun _ => ?_) (fun z => absurd z (by decide))
  refine m_c0 <| ct_isj_i (fun h6 => ?_) (fun h6 => And.intro (fun z => absurd rfl z) (fun _ => hX1 (.inr h6)))
  refine And.intro (fun _ => ?_) (fun z => absurd z (by decide))
  refine m_c0 <| ct_fee_i hx0 (by omega) ?_
  exact m_c0 <| ct_pow_i hc (hK1 h5 h6)
def cx_prove : mCX := fun as w K X => ∃ bal o nd am ro ra rd pv c rc h j bu ex a b g p, as = [.inr 11, .inl a, .inl b, .inl g, .inl p] ∧ w = lW bal o nd am ro ra rd pv (nI c) rc h j bu ex ∧ c ≤ 96 ∧ (¬ (isR a 200 ∧ isR b 16 ∧ isR p 16) → X 0 w) ∧
  (∀ x y q : Nat, x < 200 → y < 16 → q < 16 → a = nI x → b = nI y → p = nI q → ((¬ affR bal x 0 p ∨ h < g ∨ ¬ pv y < g) → X 1 w) ∧ (affR bal x 0 p → ¬ h < g → pv y < g →
    ∀ am', (∀ k, am' k = if k < c ∧ nd k = b then am k - am k / 4 else am k) → K (some (.inl (sm (fun k => if nd k = b then am k / 4 else 0) c))) (lW (a_fee bal x q) o nd am' ro ra rd (upd pv y g) (nI c) rc h (j ||| (1 <<< (b &&& 31))) (bu + sm (fun k => if nd k = b then am k / 4 else 0) c) ex)))
theorem dx_prove_22 : m_dec5 c_Le_prove 22 30 108 34 := ⟨by decide +kernel, by decide +kernel, by decide +kernel, by decide +kernel, by decide +kernel⟩
theorem dx_prove_46 : m_dec5 c_Le_prove 46 41 79 45 := ⟨by decide +kernel, by decide +kernel, by decide +kernel, by decide +kernel, by decide +kernel⟩
theorem dx_prove_80 : m_dec5 c_Le_prove 80 41 125 45 := ⟨by decide +kernel, by decide +kernel, by decide +kernel, by decide +kernel, by decide +kernel⟩
set_option maxHeartbeats 8000000 in
theorem x_prove : m_MetX y_Le_prove ws_Le_prove rmX cx_prove := by
  refine m_MetX_of (by decide +kernel) (fun as w K X h => by obtain ⟨_, _, _, _, _, _, _, _, _, _, _, _, _, _, _, _, _, _, rfl, _⟩ := h; exact Nat.le_of_ble_eq_true rfl) ⟨rfl, rfl, by decide, by decide⟩ ?_
  intro E as w K X C hm hret hx hct
  obtain ⟨bal, o, nd, am, ro, ra, rd, pv, c, rc, h, j, bu, ex, a, b, g, p, rfl, rfl, hc, hX0, hK⟩ := hct
  have hT : m_TOk E c_Le_prove R_Le (false, fl_Le, fp_Le, [(133, 1000000), (170, 65535)], [(1, 20, 1, ct_in 200), (1, 54, 1, ct_in 16), (1, 27, 1, ct_in 16), (0, 37, 4, ct_aff), (0, 46, 3, ct_fee), (0, 127, 2, ct_cut)], [(22, 0), (46, 1), (80, 1)]) (m_RtX (some .int) K X) := ⟨(fun _ => hm), get_Le C, put_Le C, cs_Le C, (m_one (ca_Le_20 (pb := true) C (fun h => nomatch h) c_isAccount rfl rfl ⟨by decide, by decide⟩) (m_one (ca_Le_54 (pb := true) C (fun h => nomatch h) c_isNode rfl rfl ⟨by decide, by decide⟩) (m_one (ca_Le_27 (pb := true) C (fun h => nomatch h) c_isFeeTaker rfl rfl ⟨by decide, by decide⟩) (m_one (ca_Le_37 (pb := true) C (fun h => nomatch h) c_aff rfl rfl ct_aff_r ⟨by decide, by decide⟩) (m_one (ca_Le_46 (pb := false) C (fun _ => hm) c_fee rfl rfl ct_fee_r ⟨by decide, by decide⟩) (m_one (ca_Le_127 (pb := false) C (fun _ => hm) c_cut rfl rfl ct_cut_r ⟨by decide, by decide⟩) m_none)))))), (m_one (hx 22 0 30 108 34 _ xk_0 sx_108 dx_prove_22) (m_one (hx 46 1 41 79 45 _ xk_1 sx_79 dx_prove_46) (m_one (hx 80 1 41 125 45 _ xk_1 sx_125 dx_prove_80) m_none))), hret⟩
  refine m_walk C hT wf_Le_prove [] 90 ?_
  refine m_c0 <| ct_in_i (fun h1 => ?_) (fun h1 => And.intro (fun _ => hX0 (fun z => h1 z.1)) (fun z => absurd rfl z))
  refine And.intro (fun z => absurd z (by decide)) (fun _ => ?_)
  refine m_c0 <| ct_in_i (fun h2 => ?_) (fun h2 => And.intro (fun _ => hX0 (fun z => h2 z.2.1)) (fun z => absurd rfl z))
  refine And.intro (fun z => absurd z (by decide)) (fun _ => ?_)
  refine m_c0 <| ct_in_i (fun h4 => ?_) (fun h4 => And.intro (fun z => absurd rfl z) (fun _ => hX0 (fun z => h4 z.2.2)))
  refine And.intro (fun _ => ?_) (fun z => absurd z (by decide))
  obtain ⟨x, hx0, rfl⟩ := isR_nat (n := 200) (by decide) h1
  obtain ⟨y, hy0, rfl⟩ := isR_nat (n := 16) (by decide) h2
  obtain ⟨q, hq0, rfl⟩ := isR_nat (n := 16) (by decide) h4
  obtain ⟨hX1, hK1⟩ := hK x y q hx0 hy0 hq0 rfl rfl rfl
  refine m_c0 <| ct_aff_i hx0 (fun h5 => ?_) (fun h5 => And.intro (fun z => absurd rfl z) (fun _ => hX1 (.inl h5)))
  refine And.intro (fun _ => ?_) (fun z => absurd z (by decide))
  refine And.intro (fun h6 => hX1 (.inr (.inl h6))) (fun h6 => ?_)
  refine m_ix hy0 (And.intro (fun h7 => ?_) (fun h7 => hX1 (.inr (.inr h7))))
  refine m_c0 <| ct_fee_i hx0 (by omega) ?_
  refine m_ix hy0 ?_
  exact m_c0 <| ct_cut_i hc (fun am' ha => hK1 h5 h6 h7 am' ha)
def cx_next : mCX := fun as w K X => ∃ bal o nd am ro ra rd pv bc l h j bu ex, as = [.inr 11] ∧ w = lW bal o nd am ro ra rd pv bc (nI l.length) h j bu ex ∧ l.length ≤ 32 ∧ hd l ro ra rd ∧ (∀ r ∈ l, r.1 < 200) ∧ (¬ h < 1000000 → X 1 w) ∧ (h < 1000000 → ∀ ro' ra' rd', hd (a_left (h + 1) l) ro' ra' rd' → K (some (.inl (nI (l.length - (a_left (h + 1) l).length)))) (lW (a_rel (h + 1) l bal) o nd am ro' ra' rd' pv bc (nI (a_left (h + 1) l).length) (h + 1) j bu ex))
theorem dx_next_12 : m_dec5 c_Le_next 12 41 134 45 := ⟨by decide +kernel, by decide +kernel, by decide +kernel, by decide +kernel, by decide +kernel⟩
set_option maxHeartbeats 8000000 in
theorem x_next : m_MetX y_Le_next ws_Le_next rmX cx_next := by
  refine m_MetX_of (by decide +kernel) (fun as w K X h => by obtain ⟨_, _, _, _, _, _, _, _, _, _, _, _, _, _, rfl, _⟩ := h; exact Nat.le_of_ble_eq_true rfl) ⟨rfl, rfl, by decide, by decide⟩ ?_
  intro E as w K X C hm hret hx hct
  obtain ⟨bal, o, nd, am, ro, ra, rd, pv, bc, l, h, j, bu, ex, rfl, rfl, hl, hh, ha, hX1, hK⟩ := hct
  have hT : m_TOk E c_Le_next R_Le (false, fl_Le, fp_Le, [(133, 1000000), (170, 65535)], [(0, 136, 3, ct_rel)], [(12, 1)]) (m_RtX (some .int) K X) := ⟨(fun _ => hm), get_Le C, put_Le C, cs_Le C, (m_one (ca_Le_136 (pb := false) C (fun _ => hm) c_rel rfl rfl ct_rel_r ⟨by decide, by decide⟩) m_none), (m_one (hx 12 1 41 134 45 _ xk_1 sx_134 dx_next_12) m_none), hret⟩
  refine m_walk C hT wf_Le_next [] 60 ?_
  refine And.intro (fun h1 => ?_) (fun h1 => hX1 h1)
  exact m_c0 <| ct_rel_i hl hh ha (fun ro' ra' rd' h2 => hK h1 ro' ra' rd' h2)
def cx_account : mCX := fun as w K X => ∃ bal o nd am ro ra rd pv c d h j bu ex a b, as = [.inr 11, .inl a, .inl b] ∧ w = lW bal o nd am ro ra rd pv (nI c) (nI d) h j bu ex ∧ c ≤ 96 ∧ d ≤ 32 ∧ (¬ isR a 200 → X 2 w) ∧ (∀ x : Nat, x < 200 → a = nI x →
  (¬ (0 ≤ b ∧ b ≤ 17) → X 0 w) ∧ (b = 0 → K (some (.inl (bal x))) w) ∧ (b = 17 → K (some (.inl (sm (fun k => if ro k = a then ra k else 0) d))) w) ∧
  (0 ≤ b → b ≤ 17 → ¬ b = 0 → ¬ b = 17 → (∀ i, fnd o nd c a (b - 1) i → K (some (.inl (am i))) w) ∧ (nfd o nd c a (b - 1) → K (some (.inl 0)) w)))
theorem dx_account_7 : m_dec5 c_Le_account 7 143 155 147 := ⟨by decide +kernel, by decide +kernel, by decide +kernel, by decide +kernel, by decide +kernel⟩
theorem dx_account_27 : m_dec5 c_Le_account 27 30 157 34 := ⟨by decide +kernel, by decide +kernel, by decide +kernel, by decide +kernel, by decide +kernel⟩
set_option maxHeartbeats 8000000 in
theorem x_account : m_MetX y_Le_account ws_Le_account rmX cx_account := by
  refine m_MetX_of (by decide +kernel) (fun as w K X h => by obtain ⟨_, _, _, _, _, _, _, _, _, _, _, _, _, _, _, _, rfl, _⟩ := h; exact Nat.le_of_ble_eq_true rfl) ⟨rfl, rfl, by decide, by decide⟩ ?_
  intro E as w K X C hm hret hx hct
  obtain ⟨bal, o, nd, am, ro, ra, rd, pv, c, d, h, j, bu, ex, a, b, rfl, rfl, hc, hd, hX2, hK⟩ := hct
  have hT : m_TOk E c_Le_account R_Le (false, fl_Le, fp_Le, [(133, 1000000), (170, 65535)], [(1, 20, 1, ct_in 200), (0, 159, 2, ct_ramt), (0, 75, 3, ct_amt)], [(7, 2), (27, 0)]) (m_RtX (some .int) K X) := ⟨(fun _ => hm), get_Le C, put_Le C, cs_Le C, (m_one (ca_Le_20 (pb := true) C (fun h => nomatch h) c_isAccount rfl rfl ⟨by decide, by decide⟩) (m_one (ca_Le_159 (pb := true) C (fun h => nomatch h) c_ramt rfl rfl ct_ramt_r ⟨by decide, by decide⟩) (m_one (ca_Le_75 (pb := true) C (fun h => nomatch h) c_amt rfl rfl ct_amt_r ⟨by decide, by decide⟩) m_none))), (m_one (hx 7 2 143 155 147 _ xk_2 sx_155 dx_account_7) (m_one (hx 27 0 30 157 34 _ xk_0 sx_157 dx_account_27) m_none)), hret⟩
  refine m_walk C hT wf_Le_account [] 60 ?_
  refine m_c0 <| ct_in_i (fun h1 => ?_) (fun h1 => And.intro (fun z => absurd rfl z) (fun _ => hX2 h1))
  refine And.intro (fun _ => ?_) (fun z => absurd z (by decide))
  obtain ⟨x, hx0, rfl⟩ := isR_nat (n := 200) (by decide) h1
  obtain ⟨hX0, hK0, hK17, hKb⟩ := hK x hx0 rfl
  refine And.intro (fun h2 => hX0 (fun z => absurd h2 (Int32.not_lt.mpr z.1))) (fun h2 => ?_)
  refine And.intro (fun h3 => ?_) (fun h3 => hX0 (fun z => h3 z.2))
  refine And.intro (fun h4 => ?_) (fun h4 => m_ix hx0 (hK0 h4))
  refine And.intro (fun h5 => ?_) (fun h5 => m_c0 <| ct_ramt_i hd (hK17 h5))
  obtain ⟨k1, k2⟩ := hKb (Int32.not_lt.mp h2) h3 h4 h5
  exact m_c0 <| ct_amt_i hc k1 k2
def cx_sum : mCX := fun as w K X => ∃ bal o nd am ro ra rd pv c d h j bu ex b, as = [.inr 11, .inl b] ∧ w = lW bal o nd am ro ra rd pv (nI c) (nI d) h j bu ex ∧ c ≤ 96 ∧ d ≤ 32 ∧ (isR b 16 → K (some (.inl (pwR nd am c j b))) w) ∧ (b = 16 → K (some (.inl j)) w) ∧ (b = 17 → K (some (.inl bu)) w) ∧ (b = 18 → K (some (.inl (nI d))) w) ∧ (b = 19 → K (some (.inl (nI c))) w) ∧ (b = 20 → K (some (.inl (bu + sm am c + sm ra d + sm bal 200))) w) ∧ (b = 21 → K (some (.inl h)) w) ∧
  (¬ isR b 16 → ¬ b = 16 → ¬ b = 17 → ¬ b = 18 → ¬ b = 19 → ¬ b = 20 → ¬ b = 21 → X 0 w)
theorem dx_sum_110 : m_dec5 c_Le_sum 110 30 166 34 := ⟨by decide +kernel, by decide +kernel, by decide +kernel, by decide +kernel, by decide +kernel⟩
set_option maxHeartbeats 8000000 in
theorem x_sum : m_MetX y_Le_sum ws_Le_sum rmX cx_sum := by
  refine m_MetX_of (by decide +kernel) (fun as w K X h => by obtain ⟨_, _, _, _, _, _, _, _, _, _, _, _, _, _, _, rfl, _⟩ := h; exact Nat.le_of_ble_eq_true rfl) ⟨rfl, rfl, by decide, by decide⟩ ?_
  intro E as w K X C hm hret hx hct
  obtain ⟨bal, o, nd, am, ro, ra, rd, pv, c, d, h, j, bu, ex, b, rfl, rfl, hc, hd, k1, k2, k3, k4, k5, k6, k7, k8⟩ := hct
  have hT : m_TOk E c_Le_sum R_Le (false, fl_Le, fp_Le, [(133, 1000000), (170, 65535)], [(1, 54, 1, ct_in 16), (0, 118, 2, ct_pow), (0, 162, 1, ct_evr)], [(110, 0)]) (m_RtX (some .int) K X) := ⟨(fun _ => hm), get_Le C, put_Le C, cs_Le C, (m_one (ca_Le_54 (pb := true) C (fun h => nomatch h) c_isNode rfl rfl ⟨by decide, by decide⟩) (m_one (ca_Le_118 (pb := true) C (fun h => nomatch h) c_pow rfl rfl ct_pow_r ⟨by decide, by decide⟩) (m_one (ca_Le_162 (pb := true) C (fun h => nomatch h) c_evr rfl rfl ct_evr_r ⟨by decide, by decide⟩) m_none))), (m_one (hx 110 0 30 166 34 _ xk_0 sx_166 dx_sum_110) m_none), hret⟩
  refine m_walk C hT wf_Le_sum [] 60 ?_
  refine m_c0 <| ct_in_i (fun h1 => ?_) (fun h1 => ?_)
  · refine And.intro (fun z => absurd z (by decide)) (fun _ => ?_)
    exact m_c0 <| ct_pow_i hc (k1 h1)
  · refine And.intro (fun _ => ?_) (fun z => absurd rfl z)
    refine And.intro (fun z => k2 z) (fun z2 => ?_)
    refine And.intro (fun z => k3 z) (fun z3 => ?_)
    refine And.intro (fun z => k4 z) (fun z4 => ?_)
    refine And.intro (fun z => k5 z) (fun z5 => ?_)
    refine And.intro (fun z => m_c0 <| ct_evr_i hc hd (k6 z)) (fun z6 => ?_)
    exact And.intro (fun z => k7 z) (fun z7 => k8 h1 z2 z3 z4 z5 z6 z7)
def cx_proposer : mCX := fun as w K X => ∃ bal o nd am ro ra rd pv c rc h j bu ex a b, as = [.inr 11, .inl a, .inl b] ∧ w = lW bal o nd am ro ra rd pv (nI c) rc h j bu ex ∧ c ≤ 96 ∧ (¬ (0 ≤ a ∧ a ≤ 1000000 ∧ 0 ≤ b ∧ b ≤ 1000000) → X 0 w) ∧ (0 ≤ a → a ≤ 1000000 → 0 ≤ b → b ≤ 1000000 →
  (¬ 0 < pwsR nd am c j 65535 16 → K (some (.inl (-1))) w) ∧ (0 < pwsR nd am c j 65535 16 → (∀ n, n < 16 → (131 * a + 307 * b) - (131 * a + 307 * b) / pwsR nd am c j 65535 16 * pwsR nd am c j 65535 16 < sm (fun k => pwR nd am c j (nI k)) (n + 1) → (∀ k, k < n → ¬ (131 * a + 307 * b) - (131 * a + 307 * b) / pwsR nd am c j 65535 16 * pwsR nd am c j 65535 16 < sm (fun k => pwR nd am c j (nI k)) (k + 1)) → K (some (.inl (nI n))) w) ∧ ((∀ k, k < 16 → ¬ (131 * a + 307 * b) - (131 * a + 307 * b) / pwsR nd am c j 65535 16 * pwsR nd am c j 65535 16 < sm (fun k => pwR nd am c j (nI k)) (k + 1)) → K (some (.inl (-1))) w)))
theorem dx_proposer_20 : m_dec5 c_Le_proposer 20 30 168 34 := ⟨by decide +kernel, by decide +kernel, by decide +kernel, by decide +kernel, by decide +kernel⟩
set_option maxHeartbeats 8000000 in
theorem x_proposer : m_MetX y_Le_proposer ws_Le_proposer rmX cx_proposer := by
  refine m_MetX_of (by decide +kernel) (fun as w K X h => by obtain ⟨_, _, _, _, _, _, _, _, _, _, _, _, _, _, _, _, rfl, _⟩ := h; exact Nat.le_of_ble_eq_true rfl) ⟨rfl, rfl, by decide, by decide⟩ ?_
  intro E as w K X C hm hret hx hct
  obtain ⟨bal, o, nd, am, ro, ra, rd, pv, c, rc, h, j, bu, ex, a, b, rfl, rfl, hc, hX0, hK⟩ := hct
  have hT : m_TOk E c_Le_proposer R_Le (false, fl_Le, fp_Le, [(133, 1000000), (170, 65535)], [(0, 171, 2, ct_pows), (0, 118, 2, ct_pow)], [(20, 0)]) (m_RtX (some .int) K X) := ⟨(fun _ => hm), get_Le C, put_Le C, cs_Le C, (m_one (ca_Le_171 (pb := true) C (fun h => nomatch h) c_pows rfl rfl ct_pows_r ⟨by decide, by decide⟩) (m_one (ca_Le_118 (pb := true) C (fun h => nomatch h) c_pow rfl rfl ct_pow_r ⟨by decide, by decide⟩) m_none)), (m_one (hx 20 0 30 168 34 _ xk_0 sx_168 dx_proposer_20) m_none), hret⟩
  have main : 0 ≤ a → a ≤ 1000000 → 0 ≤ b → b ≤ 1000000 → 0 < pwsR nd am c j 65535 16 → ∀ n lo st w, (∃ i, n = 16 - i ∧ i ≤ 16 ∧ lo = [some (.inr 11), some (.inl a), some (.inl b), some (.inl (pwsR nd am c j 65535 16)), some (.inl ((131 * a + 307 * b) - (131 * a + 307 * b) / pwsR nd am c j 65535 16 * pwsR nd am c j 65535 16)), some (.inl (sm (fun k => pwR nd am c j (nI k)) i)), some (.inl (nI i))] ∧ st = [] ∧ w = lW bal o nd am ro ra rd pv (nI c) rc h j bu ex ∧ ∀ k, k < i → ¬ (131 * a + 307 * b) - (131 * a + 307 * b) / pwsR nd am c j 65535 16 * pwsR nd am c j 65535 16 < sm (fun k => pwR nd am c j (nI k)) (k + 1)) → m_W E 67 lo st w := by
    intro g1 g2 g3 g4 g5
    obtain ⟨q1, q2⟩ := (hK g1 g2 g3 g4).2 g5
    refine m_loop (fun n lo st w hI ih => ?_)
    obtain ⟨i, rfl, hi, rfl, rfl, rfl, hn⟩ := hI
    refine m_walk C hT wf_Le_proposer [67] 60 ?_
    refine And.intro (fun h1 => ?_) (fun h1 => ?_)
    · have : i = 16 := nI_lit (n := 16) (by omega) hi h1
      subst this
      exact q2 hn
    · have hlt : i < 16 := nI_lt_of (b := 16) (by omega) (by omega) h1
      refine m_c0 <| ct_pow_i hc ?_
      refine And.intro (fun h2 => ?_) (fun h2 => ?_)
      · refine ih (16 - (i + 1)) _ _ _ (by omega) ⟨i + 1, rfl, hlt, by rw [nI_succ i]; rfl, rfl, rfl, fun k hk => ?_⟩
        by_cases e : k = i
        · subst e
          exact Int32.not_lt.mpr h2
        · exact hn k (by omega)
      · exact q1 i hlt (Int32.not_le.mp h2) hn
  refine m_walk C hT wf_Le_proposer [67] 60 ?_
  refine And.intro (fun h1 => hX0 (fun z => absurd h1 (Int32.not_lt.mpr z.1))) (fun h1 => ?_)
  refine And.intro (fun h2 => hX0 (fun z => absurd h2 (Int32.not_lt.mpr z.2.1))) (fun h2 => ?_)
  refine And.intro (fun h3 => hX0 (fun z => absurd h3 (Int32.not_lt.mpr z.2.2.1))) (fun h3 => ?_)
  refine And.intro (fun h4 => ?_) (fun h4 => hX0 (fun z => h4 z.2.2.2))
  refine m_c0 <| ct_pows_i hc ?_
  refine And.intro (fun h5 => ?_) (fun h5 => ((hK (Int32.not_lt.mp h1) (Int32.not_lt.mp h2) (Int32.not_lt.mp h3) h4).1 h5))
  refine And.intro (fun z => absurd (z ▸ h5) (by decide)) ?_
  exact main (Int32.not_lt.mp h1) (Int32.not_lt.mp h2) (Int32.not_lt.mp h3) h4 h5 16 _ _ _ ⟨0, rfl, Nat.zero_le _, rfl, rfl, rfl, fun k hk => absurd hk (Nat.not_lt_zero k)⟩
def cx_share : mCX := fun as w K X => ∃ bal o nd am ro ra rd pv c rc h j bu ex b, as = [.inr 11, .inl b] ∧ w = lW bal o nd am ro ra rd pv (nI c) rc h j bu ex ∧ c ≤ 96 ∧ K (some (.inl (if 2 * pwsR nd am c j 65535 16 < 3 * pwsR nd am c j b 16 then 2 else if pwsR nd am c j 65535 16 < 3 * pwsR nd am c j b 16 then 1 else 0))) w
set_option maxHeartbeats 8000000 in
theorem x_share : m_MetX y_Le_share ws_Le_share rmX cx_share := by
  refine m_MetX_of (by decide +kernel) (fun as w K X h => by obtain ⟨_, _, _, _, _, _, _, _, _, _, _, _, _, _, _, rfl, _⟩ := h; exact Nat.le_of_ble_eq_true rfl) ⟨rfl, rfl, by decide, by decide⟩ ?_
  intro E as w K X C hm hret hx hct
  obtain ⟨bal, o, nd, am, ro, ra, rd, pv, c, rc, h, j, bu, ex, b, rfl, rfl, hc, hK⟩ := hct
  have hT : m_TOk E c_Le_share R_Le (false, fl_Le, fp_Le, [(133, 1000000), (170, 65535)], [(0, 171, 2, ct_pows)], []) (m_RtX (some .int) K X) := ⟨(fun _ => hm), get_Le C, put_Le C, cs_Le C, (m_one (ca_Le_171 (pb := true) C (fun h => nomatch h) c_pows rfl rfl ct_pows_r ⟨by decide, by decide⟩) m_none), m_none, hret⟩
  refine m_walk C hT wf_Le_share [] 60 ?_
  refine m_c0 <| ct_pows_i hc ?_
  refine m_c0 <| ct_pows_i hc ?_
  refine And.intro (fun h1 => ?_) (fun h1 => ?_)
  · rw [if_neg (Int32.not_lt.mpr h1)] at hK
    refine And.intro (fun h2 => ?_) (fun h2 => ?_)
    · rw [if_neg (Int32.not_lt.mpr h2)] at hK
      exact hK
    · rw [if_pos (Int32.not_le.mp h2)] at hK
      exact hK
  · rw [if_pos (Int32.not_le.mp h1)] at hK
    exact hK
