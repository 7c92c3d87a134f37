/-! keep and back: no such place. -/
def cx_bad : mCX := fun as w K X => ∃ bal o nd am ro ra rd pv bc rc h j bu ex a, as = [.inr 11, .inl a] ∧ w = lW bal o nd am ro ra rd pv bc rc h j bu ex ∧ ¬ isR a 8 ∧ X 2 w
theorem cy_bad {s : aS} {ex w : mW} {a : Int32} {K : Option mV → mW → Prop} {X : Nat → mW → Prop} (hR : RCw s ex w) (ha : ¬ isR a 8) (hx : X 2 w) : cx_bad [.inr 11, .inl a] w K X := by
  obtain ⟨bal, o, nd, am, ro, ra, rd, pv, bc, rc, h, j, bu, rfl, _⟩ := hR
  exact ⟨bal, o, nd, am, ro, ra, rd, pv, bc, rc, h, j, bu, ex, a, rfl, rfl, ha, hx⟩
def p_Le_keep0 : List mI := [(0, .iload_n 1, 1, 1, 0, 0, []), (1, .invokestatic 140, 3, 4, 0, 0, []), (4, .ifCond .ne 13, 3, 7, 0, 17, []), (7, .new 143, 3, 10, 0, 0, [])]
theorem wf_Le_keep0 : m_wf c_Le_keep p_Le_keep0 = true := by decide +kernel
theorem wf_Le_back0 : m_wf c_Le_back p_Le_keep0 = true := by decide +kernel
theorem dx_keep_7 : m_dec5 c_Le_keep 7 143 145 147 := ⟨by decide +kernel, by decide +kernel, by decide +kernel, by decide +kernel, by decide +kernel⟩
theorem dx_back_7 : m_dec5 c_Le_back 7 143 145 147 := ⟨by decide +kernel, by decide +kernel, by decide +kernel, by decide +kernel, by decide +kernel⟩
set_option maxHeartbeats 8000000 in
theorem x_keep0 : m_MetX y_Le_keep ws_Le_keep rmX cx_bad := by
  refine m_MetX_of (by decide +kernel) (fun as w K X h => by obtain ⟨_, _, _, _, _, _, _, _, _, _, _, _, _, _, _, rfl, _⟩ := h; exact Nat.le_of_ble_eq_true rfl) ⟨rfl, rfl, by decide, by decide⟩ ?_
  intro E as w K X C hm hret hx hct
  obtain ⟨bal, o, nd, am, ro, ra, rd, pv, bc, rc, h, j, bu, ex, a, rfl, rfl, ha, hX⟩ := hct
  have hT : m_TOk E c_Le_keep R_Le (false, fl_Le, fp_Le, [], [(1, 140, 1, ct_in 8)], [(7, 2)]) (m_RtX none K X) := ⟨(fun _ => hm), get_Le C, put_Le C, m_none, (m_one (ca_Le_140 (pb := true) C (fun h => nomatch h) c_isKeptState rfl rfl ⟨by decide, by decide⟩) m_none), (m_one (hx 7 2 143 145 147 _ xk_2 sx_145 dx_keep_7) m_none), hret⟩
  refine m_walk C hT wf_Le_keep0 [17] 60 ?_
  exact m_c0 <| ct_in_i (fun h1 => absurd h1 ha) (fun h1 => And.intro (fun z => absurd rfl z) (fun _ => hX))
set_option maxHeartbeats 8000000 in
theorem x_back0 : m_MetX y_Le_back ws_Le_back rmX cx_bad := by
  refine m_MetX_of (by decide +kernel) (fun as w K X h => by obtain ⟨_, _, _, _, _, _, _, _, _, _, _, _, _, _, _, rfl, _⟩ := h; exact Nat.le_of_ble_eq_true rfl) ⟨rfl, rfl, by decide, by decide⟩ ?_
  intro E as w K X C hm hret hx hct
  obtain ⟨bal, o, nd, am, ro, ra, rd, pv, bc, rc, h, j, bu, ex, a, rfl, rfl, ha, hX⟩ := hct
  have hT : m_TOk E c_Le_back R_Le (false, fl_Le, fp_Le, [], [(1, 140, 1, ct_in 8)], [(7, 2)]) (m_RtX (some .int) K X) := ⟨(fun _ => hm), get_Le C, put_Le C, m_none, (m_one (ca_Le_140 (pb := true) C (fun h => nomatch h) c_isKeptState rfl rfl ⟨by decide, by decide⟩) m_none), (m_one (hx 7 2 143 145 147 _ xk_2 sx_145 dx_back_7) m_none), hret⟩
  refine m_walk C hT wf_Le_back0 [17] 60 ?_
  exact m_c0 <| ct_in_i (fun h1 => absurd h1 ha) (fun h1 => And.intro (fun z => absurd rfl z) (fun _ => hX))
