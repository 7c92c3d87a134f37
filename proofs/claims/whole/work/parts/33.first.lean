/-! Filling and copying arrays; the first state; one state taken over by another. -/
def ct_fill : mCT := fun as w K => (∃ c0 f ex v, as = [.inr 1, .inl v] ∧ w = c0 :: .inl (false, 200, f) :: ex ∧ ∀ f' : Nat → Int32, (∀ k, k < 200 → f' k = v) → K none (c0 :: .inl (false, 200, f') :: ex)) ∨
  (∃ c0 c1 c2 c3 c4 c5 c6 c7 c8 c9 f ex v, as = [.inr 10, .inl v] ∧ w = c0 :: c1 :: c2 :: c3 :: c4 :: c5 :: c6 :: c7 :: c8 :: c9 :: .inl (false, 16, f) :: ex ∧ ∀ f' : Nat → Int32, (∀ k, k < 16 → f' k = v) → K none (c0 :: c1 :: c2 :: c3 :: c4 :: c5 :: c6 :: c7 :: c8 :: c9 :: .inl (false, 16, f') :: ex))
theorem nI_lit {n : Nat} (h : n < 2 ^ 31) {j : Nat} (hj : j ≤ n) (h1 : nI n ≤ nI j) : j = n := by have := nI_ge_of (by omega) (by omega) h1; omega
set_option maxHeartbeats 4000000 in
theorem c_fill : m_Met false y_Ar_fill ws_Ar_fill nw (rmk 0) ct_fill := by
  refine m_Met_of (by decide +kernel) (fun as w K h => by
    rcases h with ⟨_, _, _, _, rfl, _⟩ | ⟨_, _, _, _, _, _, _, _, _, _, _, _, _, rfl, _⟩ <;> exact Nat.le_of_ble_eq_true rfl) ?_
  intro E as w K C hm hret hct
  have hT : m_TOk E c_Ar_fill R_Ar (false, [], [], [], [], []) (m_Rt none K) := ⟨hm, m_none, m_none, m_none, m_none, m_none, hret⟩
  rcases hct with ⟨c0, f, ex, v, rfl, rfl, hK⟩ | ⟨c0, c1, c2, c3, c4, c5, c6, c7, c8, c9, f, ex, v, rfl, rfl, hK⟩
  · have loop : ∀ n lo st w, (∃ j f', n = 200 - j ∧ j ≤ 200 ∧ lo = [some (.inr 1), some (.inl v), some (.inl (nI j)), some (.inl (nI 200))] ∧ st = [] ∧ w = c0 :: .inl (false, 200, f') :: ex ∧ ∀ k, k < j → f' k = v) → m_W E 5 lo st w := by
      refine m_loop (fun n lo st w hI ih => ?_)
      obtain ⟨j, f', rfl, hj, rfl, rfl, rfl, hf⟩ := hI
      refine m_walk C hT wf_Ar_fill [5] 30 ?_
      refine And.intro (fun h => ?_) (fun h => ?_)
      · have : j = 200 := nI_lit (by omega) hj h
        subst this
        exact hK f' hf
      · have hlt := nI_lt_of (by omega) (by omega) h
        refine m_ix hlt ?_
        refine ih (200 - (j + 1)) _ _ _ (by omega) ⟨j + 1, upd f' j v, rfl, hlt, by rw [nI_succ j], rfl, rfl, fun k hk => ?_⟩
        by_cases e : k = j
        · simp [upd, e]
        · simp only [upd, e, if_false]
          exact hf k (by omega)
    refine m_walk C hT wf_Ar_fill [5] 30 ?_
    exact loop 200 _ _ _ ⟨0, f, rfl, Nat.zero_le _, rfl, rfl, rfl, fun k hk => absurd hk (Nat.not_lt_zero k)⟩
  · have loop : ∀ n lo st w, (∃ j f', n = 16 - j ∧ j ≤ 16 ∧ lo = [some (.inr 10), some (.inl v), some (.inl (nI j)), some (.inl (nI 16))] ∧ st = [] ∧ w = c0 :: c1 :: c2 :: c3 :: c4 :: c5 :: c6 :: c7 :: c8 :: c9 :: .inl (false, 16, f') :: ex ∧ ∀ k, k < j → f' k = v) → m_W E 5 lo st w := by
      refine m_loop (fun n lo st w hI ih => ?_)
      obtain ⟨j, f', rfl, hj, rfl, rfl, rfl, hf⟩ := hI
      refine m_walk C hT wf_Ar_fill [5] 30 ?_
      refine And.intro (fun h => ?_) (fun h => ?_)
      · have : j = 16 := nI_lit (by omega) hj h
        subst this
        exact hK f' hf
      · have hlt := nI_lt_of (by omega) (by omega) h
        refine m_ix hlt ?_
        refine ih (16 - (j + 1)) _ _ _ (by omega) ⟨j + 1, upd f' j v, rfl, hlt, by rw [nI_succ j], rfl, rfl, fun k hk => ?_⟩
        by_cases e : k = j
        · simp [upd, e]
        · simp only [upd, e, if_false]
          exact hf k (by omega)
    refine m_walk C hT wf_Ar_fill [5] 30 ?_
    exact loop 16 _ _ _ ⟨0, f, rfl, Nat.zero_le _, rfl, rfl, rfl, fun k hk => absurd hk (Nat.not_lt_zero k)⟩
theorem ct_fill_1 {c0 : mC} {f : Nat → Int32} {ex : mW} {v : Int32} {K : Option mV → mW → Prop} (h : ∀ f' : Nat → Int32, (∀ k, k < 200 → f' k = v) → K none (c0 :: .inl (false, 200, f') :: ex)) : ct_fill [.inr 1, .inl v] (c0 :: .inl (false, 200, f) :: ex) K := .inl ⟨c0, f, ex, v, rfl, rfl, h⟩
theorem ct_fill_10 {c0 c1 c2 c3 c4 c5 c6 c7 c8 c9 : mC} {f : Nat → Int32} {ex : mW} {v : Int32} {K : Option mV → mW → Prop} (h : ∀ f' : Nat → Int32, (∀ k, k < 16 → f' k = v) → K none (c0 :: c1 :: c2 :: c3 :: c4 :: c5 :: c6 :: c7 :: c8 :: c9 :: .inl (false, 16, f') :: ex)) : ct_fill [.inr 10, .inl v] (c0 :: c1 :: c2 :: c3 :: c4 :: c5 :: c6 :: c7 :: c8 :: c9 :: .inl (false, 16, f) :: ex) K := .inr ⟨c0, c1, c2, c3, c4, c5, c6, c7, c8, c9, f, ex, v, rfl, rfl, h⟩
/-- System.arraycopy of whole arrays of ints -/
def ct_cp : mCT := fun as w K => ∃ (i j n n0 n1 : Nat) (f g : Nat → Int32), as = [.inr i, .inl 0, .inr j, .inl 0, .inl (nI n)] ∧ w[i]? = some (.inl (false, n0, f)) ∧ w[j]? = some (.inl (false, n1, g)) ∧ n ≤ n0 ∧ n ≤ n1 ∧ n < 2 ^ 31 ∧ ∀ g' : Nat → Int32, (∀ k, k < n → g' k = f k) → K none (w.set j (.inl (false, n1, g')))
theorem ct_cp_i {i j n n0 n1 : Nat} {f g : Nat → Int32} {w : mW} {K : Option mV → mW → Prop} (h1 : w[i]? = some (.inl (false, n0, f))) (h2 : w[j]? = some (.inl (false, n1, g))) (h3 : n ≤ n0) (h4 : n ≤ n1) (h5 : n < 2 ^ 31) (h : ∀ g' : Nat → Int32, (∀ k, k < n → g' k = f k) → K none (w.set j (.inl (false, n1, g')))) : ct_cp [.inr i, .inl 0, .inr j, .inl 0, .inl (nI n)] w K := ⟨i, j, n, n0, n1, f, g, rfl, h1, h2, h3, h4, h5, h⟩
set_option maxHeartbeats 4000000 in
theorem m_calCp {E : mE} {cc : ByteArray} {own : String} {a0 : Jvm.Cond} {rm : Room} (C : m_Cx E cc own (a0 :: gw) nw rm) (hmut : m_Mut E) {q : Nat} (hlink : Jvm.Cond.methodLink own q arraycopyName ∈ gw) (hnat : Jvm.Cond.native arraycopyName ∈ gw) (hst : Jvm.Cond.static arraycopyName ∈ gw) (hini : Jvm.Cond.initialized "java/lang/System" ∈ gw) (hf : 1 ≤ rm.frames) (hl : 30 ≤ rm.locals) : m_CalOk E cc 1 q 5 ct_cp := by
  obtain ⟨p, l, e, R, s, m, args, below, meth, c, cells, slots, Q, D, A, cI, cZ, ad, nL, N⟩ := E
  obtain ⟨hx, hb, hml, hown, hK, hD, hA, hts, hnw, hR, hc0, hs0⟩ := C
  intro pc lo as st w K hd hn h8 hct hk ls H locs hlh hN hP hS
  obtain ⟨i, j, n, n0, n1, f, g, rfl, h1, h2, h3, h4, h5, hKK⟩ := hct
  subst hR
  have g1 := m_ws_get (cI := cI) (cZ := cZ) (ad := ad) w 0 i h1
  have g2 := m_ws_get (cI := cI) (cZ := cZ) (ad := ad) w 0 j h2
  rw [Nat.zero_add] at g1 g2
  have hw : ∀ x ∈ gw, x.before args s = true := fun x h => hts x (List.mem_cons_of_mem _ h)
  have z0 : (0 : Int32).toNatClampNeg = 0 := rfl
  have hcl := nI_clamp h5
  refine va_copyi (ty := .int) hx hb (hml.trans hlh.2.1.symm) hown (hw _ hlink) (hw _ hnat) (hw _ hst) (hw _ hini) hK hP (m_DA (hD w hN) hN hmut) hS i j 0 0 g1 g2 rfl rfl rfl (by decide) (by decide) (nI_pos h5) (by rw [z0, hcl]; omega) (by rw [z0, hcl]; omega) (fun _ _ => rfl) hf (by rw [m_cat_sum]; exact Nat.le_trans (Nat.add_le_add_right h8 _) (Nat.le_trans (by decide) hl)) hd (fun H1 locs1 hP1 _ hS1 => ?_)
  rw [z0, hcl] at hP1
  have h6 := m_ws_set (cI := cI) (cZ := cZ) (ad := ad) w 0 j (.inl (false, n1, va_cpy f g 0 0 n))
  rw [Nat.zero_add] at h6
  refine hk none _ (hKK (va_cpy f g 0 0 n) (fun k hk' => ?_)) ls H1 locs1 hlh (by rw [List.length_set]; exact hN) ?_ hS1
  · unfold va_cpy
    rw [if_pos ⟨Nat.zero_le _, by omega⟩]
    simp
  · rw [← h6]
    exact hP1
/-- the first bonds -/
def ct_bf : mCT := fun as w K => ∃ c0 c1 o nd am bc ex, as = [.inr 2] ∧ w = bW c0 c1 o nd am bc ex ∧ ∀ o' nd' am' : Nat → Int32, (∀ k, k < 16 → o' k = nI k ∧ nd' k = nI k ∧ am' k = 100) → K none (bW c0 c1 o' nd' am' 16 ex)
theorem ct_bf_i {c0 c1 : mC} {o nd am : Nat → Int32} {bc : Int32} {ex : mW} {K : Option mV → mW → Prop} (h : ∀ o' nd' am' : Nat → Int32, (∀ k, k < 16 → o' k = nI k ∧ nd' k = nI k ∧ am' k = 100) → K none (bW c0 c1 o' nd' am' 16 ex)) : ct_bf [.inr 2] (bW c0 c1 o nd am bc ex) K := ⟨c0, c1, o, nd, am, bc, ex, rfl, rfl, h⟩
theorem ct_bf_r : ∀ as w K, ct_bf as w K → ∃ a r fs, as = .inr a :: r ∧ w[a]? = some (.inr (1, fs)) := by
  intro as w K h
  obtain ⟨c0, c1, o, nd, am, bc, ex, rfl, rfl, _⟩ := h
  exact ⟨2, _, _, rfl, rfl⟩
set_option maxHeartbeats 4000000 in
theorem c_bf : m_Met false y_Bo_becomeFirst ws_Bo_becomeFirst nw (rmk 0) ct_bf := by
  refine m_Met_of (by decide +kernel) (fun as w K h => by obtain ⟨_, _, _, _, _, _, _, rfl, _⟩ := h; exact Nat.le_of_ble_eq_true rfl) ?_
  intro E as w K C hm hret hct
  obtain ⟨c0, c1, o, nd, am, bc, ex, rfl, rfl, hK⟩ := hct
  have hT : m_TOk E c_Bo_becomeFirst R_Bo (false, fl_Bo, fp_Bo, [], [], []) (m_Rt none K) := ⟨hm, get_Bo C, put_Bo C, m_none, m_none, m_none, hret⟩
  have loop : ∀ n lo st w, (∃ j o' nd' am', n = 16 - j ∧ j ≤ 16 ∧ lo = [some (.inr 2), some (.inl (nI j))] ∧ st = [] ∧ w = bW c0 c1 o' nd' am' bc ex ∧ ∀ k, k < j → o' k = nI k ∧ nd' k = nI k ∧ am' k = 100) → m_W E 2 lo st w := by
    refine m_loop (fun n lo st w hI ih => ?_)
    obtain ⟨j, o', nd', am', rfl, hj, rfl, rfl, rfl, hf⟩ := hI
    refine m_walk C hT wf_Bo_becomeFirst [2] 40 ?_
    refine And.intro (fun h => ?_) (fun h => ?_)
    · have : j = 16 := nI_lit (n := 16) (by omega) hj h
      subst this
      exact hK o' nd' am' hf
    · have hlt : j < 16 := nI_lt_of (b := 16) (by omega) (by omega) h
      refine m_ix (by omega) (m_ix (by omega) (m_ix (by omega) ?_))
      refine ih (16 - (j + 1)) _ _ _ (by omega) ⟨j + 1, upd o' j (nI j), upd nd' j (nI j), upd am' j 100, rfl, hlt, by rw [nI_succ j], rfl, rfl, fun k hk => ?_⟩
      by_cases e : k = j
      · simp [upd, e]
      · simp only [upd, e, if_false]
        exact hf k (by omega)
  refine m_walk C hT wf_Bo_becomeFirst [2] 40 ?_
  exact loop 16 _ _ _ ⟨0, o, nd, am, rfl, Nat.zero_le _, rfl, rfl, rfl, fun k hk => absurd hk (Nat.not_lt_zero k)⟩
def SW : mC := .inr (0, [])
def ct_sf : mCT := fun as w K => ∃ bal o nd am ro ra rd pv bc rc h j bu ex, as = [.inr 0] ∧ w = sW bal o nd am ro ra rd pv bc rc h j bu ex ∧ ∀ bal' o' nd' am' pv' : Nat → Int32, (∀ k, k < 200 → bal' k = 1000) → (∀ k, k < 16 → o' k = nI k ∧ nd' k = nI k ∧ am' k = 100) → (∀ k, k < 16 → pv' k = 0) → K none (sW bal' o' nd' am' ro ra rd pv' 16 0 0 0 0 ex)
set_option maxHeartbeats 4000000 in
theorem c_sf : m_Met false y_St_becomeFirst ws_St_becomeFirst nw (rmk 1) ct_sf := by
  refine m_Met_of (by decide +kernel) (fun as w K h => by obtain ⟨_, _, _, _, _, _, _, _, _, _, _, _, _, _, rfl, _⟩ := h; exact Nat.le_of_ble_eq_true rfl) ?_
  intro E as w K C hm hret hct
  obtain ⟨bal, o, nd, am, ro, ra, rd, pv, bc, rc, h, j, bu, ex, rfl, rfl, hK⟩ := hct
  have hT : m_TOk E c_St_becomeFirst R_St (false, fl_St, fp_St, [], [(1, 35, 2, ct_fill), (0, 41, 1, ct_bf)], []) (m_Rt none K) := ⟨hm, get_St C, put_St C, m_none, m_one (ca_St_35 (pb := false) C hm c_fill rfl rfl ⟨by decide, by decide⟩) (m_one (ca_St_41 (pb := false) C hm c_bf rfl rfl ct_bf_r ⟨by decide, by decide⟩) m_none), m_none, hret⟩
  refine m_walk C hT wf_St_becomeFirst [] 60 ?_
  refine m_c0 <| ct_fill_1 (fun bal' hb => ?_)
  refine m_c0 <| ct_bf_i (fun o' nd' am' ho => ?_)
  refine m_c0 <| ct_fill_10 (fun pv' hp => ?_)
  exact hK bal' o' nd' am' pv' hb ho hp
