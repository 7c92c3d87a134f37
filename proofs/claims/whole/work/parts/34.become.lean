/-! One state taken over by another: this one at 0 to 10, the other at 11 to 21. -/
def bbW (c0 c1 : mC) (o nd am : Nat → Int32) (bc : Int32) (c6 c7 c8 c9 c10 c11 c12 : mC) (o2 nd2 am2 : Nat → Int32) (bc2 : Int32) (ex : mW) : mW := c0 :: c1 :: .inr (1, [.inr 3, .inr 4, .inr 5, .inl bc]) :: .inl (false, 96, o) :: .inl (false, 96, nd) :: .inl (false, 96, am) :: c6 :: c7 :: c8 :: c9 :: c10 :: c11 :: c12 :: .inr (1, [.inr 14, .inr 15, .inr 16, .inl bc2]) :: .inl (false, 96, o2) :: .inl (false, 96, nd2) :: .inl (false, 96, am2) :: ex
def rrW (c0 c1 c2 c3 c4 c5 : mC) (o nd am : Nat → Int32) (bc : Int32) (c10 c11 c12 c13 c14 c15 c16 : mC) (o2 nd2 am2 : Nat → Int32) (bc2 : Int32) (ex : mW) : mW := c0 :: c1 :: c2 :: c3 :: c4 :: c5 :: .inr (2, [.inr 7, .inr 8, .inr 9, .inl bc]) :: .inl (false, 32, o) :: .inl (false, 32, nd) :: .inl (false, 32, am) :: c10 :: c11 :: c12 :: c13 :: c14 :: c15 :: c16 :: .inr (2, [.inr 18, .inr 19, .inr 20, .inl bc2]) :: .inl (false, 32, o2) :: .inl (false, 32, nd2) :: .inl (false, 32, am2) :: ex
def oW (bal o nd am ro ra rd pv : Nat → Int32) (bc rc h j bu : Int32) (ex : mW) : mW := .inr (0, [.inr 12, .inr 13, .inr 17, .inr 21, .inl h, .inl j, .inl bu]) :: .inl (false, 200, bal) :: .inr (1, [.inr 14, .inr 15, .inr 16, .inl bc]) :: .inl (false, 96, o) :: .inl (false, 96, nd) :: .inl (false, 96, am) :: .inr (2, [.inr 18, .inr 19, .inr 20, .inl rc]) :: .inl (false, 32, ro) :: .inl (false, 32, ra) :: .inl (false, 32, rd) :: .inl (false, 16, pv) :: ex
theorem cp_nat : Jvm.Cond.native arraycopyName ∈ gw := m_ing (by decide +kernel) (by decide +kernel)
theorem cp_st : Jvm.Cond.static arraycopyName ∈ gw := m_ing (by decide +kernel) (by decide +kernel)
theorem cp_ini : Jvm.Cond.initialized "java/lang/System" ∈ gw := m_ing (by decide +kernel) (by decide +kernel)
theorem cp_Bo : Jvm.Cond.methodLink R_Bo 25 arraycopyName ∈ gw := m_ing (by decide +kernel) (by decide +kernel)
theorem cp_Re : Jvm.Cond.methodLink R_Re 21 arraycopyName ∈ gw := m_ing (by decide +kernel) (by decide +kernel)
theorem cp_St : Jvm.Cond.methodLink R_St 55 arraycopyName ∈ gw := m_ing (by decide +kernel) (by decide +kernel)
def ct_bb : mCT := fun as w K => ∃ c0 c1 o nd am bc c6 c7 c8 c9 c10 c11 c12 o2 nd2 am2 bc2 ex, as = [.inr 2, .inr 13] ∧ w = bbW c0 c1 o nd am bc c6 c7 c8 c9 c10 c11 c12 o2 nd2 am2 bc2 ex ∧ ∀ o' nd' am' : Nat → Int32, (∀ k, k < 96 → o' k = o2 k) → (∀ k, k < 96 → nd' k = nd2 k) → (∀ k, k < 96 → am' k = am2 k) → K none (bbW c0 c1 o' nd' am' bc2 c6 c7 c8 c9 c10 c11 c12 o2 nd2 am2 bc2 ex)
theorem ct_bb_i {c0 c1 c6 c7 c8 c9 c10 c11 c12 : mC} {o nd am o2 nd2 am2 : Nat → Int32} {bc bc2 : Int32} {ex : mW} {K : Option mV → mW → Prop} (h : ∀ o' nd' am' : Nat → Int32, (∀ k, k < 96 → o' k = o2 k) → (∀ k, k < 96 → nd' k = nd2 k) → (∀ k, k < 96 → am' k = am2 k) → K none (bbW c0 c1 o' nd' am' bc2 c6 c7 c8 c9 c10 c11 c12 o2 nd2 am2 bc2 ex)) : ct_bb [.inr 2, .inr 13] (bbW c0 c1 o nd am bc c6 c7 c8 c9 c10 c11 c12 o2 nd2 am2 bc2 ex) K := ⟨c0, c1, o, nd, am, bc, c6, c7, c8, c9, c10, c11, c12, o2, nd2, am2, bc2, ex, rfl, rfl, h⟩
theorem ct_bb_r : ∀ as w K, ct_bb as w K → ∃ a r fs, as = .inr a :: r ∧ w[a]? = some (.inr (1, fs)) := by
  intro as w K h
  obtain ⟨c0, c1, o, nd, am, bc, c6, c7, c8, c9, c10, c11, c12, o2, nd2, am2, bc2, ex, rfl, rfl, _⟩ := h
  exact ⟨2, _, _, rfl, rfl⟩
set_option maxHeartbeats 4000000 in
theorem c_bb : m_Met false y_Bo_become ws_Bo_become nw (rmk 1) ct_bb := by
  refine m_Met_of (by decide +kernel) (fun as w K h => by obtain ⟨_, _, _, _, _, _, _, _, _, _, _, _, _, _, _, _, _, _, rfl, _⟩ := h; exact Nat.le_of_ble_eq_true rfl) ?_
  intro E as w K C hm hret hct
  obtain ⟨c0, c1, o, nd, am, bc, c6, c7, c8, c9, c10, c11, c12, o2, nd2, am2, bc2, ex, rfl, rfl, hK⟩ := hct
  have hT : m_TOk E c_Bo_become R_Bo (false, fl_Bo, fp_Bo, [], [(1, 25, 5, ct_cp)], []) (m_Rt none K) := ⟨hm, get_Bo C, put_Bo C, m_none, m_one (m_calCp C (hm rfl) cp_Bo cp_nat cp_st cp_ini (by decide) (by decide)) m_none, m_none, hret⟩
  refine m_walk C hT wf_Bo_become [] 60 ?_
  refine m_c0 <| ct_cp_i (i := 14) (j := 3) (n := 96) rfl rfl (by decide) (by decide) (by decide) (fun o' ho => ?_)
  refine m_c0 <| ct_cp_i (i := 15) (j := 4) (n := 96) rfl rfl (by decide) (by decide) (by decide) (fun nd' hn => ?_)
  refine m_c0 <| ct_cp_i (i := 16) (j := 5) (n := 96) rfl rfl (by decide) (by decide) (by decide) (fun am' ha => ?_)
  exact hK o' nd' am' ho hn ha
def ct_rr : mCT := fun as w K => ∃ c0 c1 c2 c3 c4 c5 o nd am bc c10 c11 c12 c13 c14 c15 c16 o2 nd2 am2 bc2 ex, as = [.inr 6, .inr 17] ∧ w = rrW c0 c1 c2 c3 c4 c5 o nd am bc c10 c11 c12 c13 c14 c15 c16 o2 nd2 am2 bc2 ex ∧ ∀ o' nd' am' : Nat → Int32, (∀ k, k < 32 → o' k = o2 k) → (∀ k, k < 32 → nd' k = nd2 k) → (∀ k, k < 32 → am' k = am2 k) → K none (rrW c0 c1 c2 c3 c4 c5 o' nd' am' bc2 c10 c11 c12 c13 c14 c15 c16 o2 nd2 am2 bc2 ex)
theorem ct_rr_i {c0 c1 c2 c3 c4 c5 c10 c11 c12 c13 c14 c15 c16 : mC} {o nd am o2 nd2 am2 : Nat → Int32} {bc bc2 : Int32} {ex : mW} {K : Option mV → mW → Prop} (h : ∀ o' nd' am' : Nat → Int32, (∀ k, k < 32 → o' k = o2 k) → (∀ k, k < 32 → nd' k = nd2 k) → (∀ k, k < 32 → am' k = am2 k) → K none (rrW c0 c1 c2 c3 c4 c5 o' nd' am' bc2 c10 c11 c12 c13 c14 c15 c16 o2 nd2 am2 bc2 ex)) : ct_rr [.inr 6, .inr 17] (rrW c0 c1 c2 c3 c4 c5 o nd am bc c10 c11 c12 c13 c14 c15 c16 o2 nd2 am2 bc2 ex) K := ⟨c0, c1, c2, c3, c4, c5, o, nd, am, bc, c10, c11, c12, c13, c14, c15, c16, o2, nd2, am2, bc2, ex, rfl, rfl, h⟩
theorem ct_rr_r : ∀ as w K, ct_rr as w K → ∃ a r fs, as = .inr a :: r ∧ w[a]? = some (.inr (2, fs)) := by
  intro as w K h
  obtain ⟨c0, c1, c2, c3, c4, c5, o, nd, am, bc, c10, c11, c12, c13, c14, c15, c16, o2, nd2, am2, bc2, ex, rfl, rfl, _⟩ := h
  exact ⟨6, _, _, rfl, rfl⟩
set_option maxHeartbeats 4000000 in
theorem c_rr : m_Met false y_Re_become ws_Re_become nw (rmk 1) ct_rr := by
  refine m_Met_of (by decide +kernel) (fun as w K h => by obtain ⟨_, _, _, _, _, _, _, _, _, _, _, _, _, _, _, _, _, _, _, _, _, _, rfl, _⟩ := h; exact Nat.le_of_ble_eq_true rfl) ?_
  intro E as w K C hm hret hct
  obtain ⟨c0, c1, c2, c3, c4, c5, o, nd, am, bc, c10, c11, c12, c13, c14, c15, c16, o2, nd2, am2, bc2, ex, rfl, rfl, hK⟩ := hct
  have hT : m_TOk E c_Re_become R_Re (false, fl_Re, fp_Re, [], [(1, 21, 5, ct_cp)], []) (m_Rt none K) := ⟨hm, get_Re C, put_Re C, m_none, m_one (m_calCp C (hm rfl) cp_Re cp_nat cp_st cp_ini (by decide) (by decide)) m_none, m_none, hret⟩
  refine m_walk C hT wf_Re_become [] 60 ?_
  refine m_c0 <| ct_cp_i (i := 18) (j := 7) (n := 32) rfl rfl (by decide) (by decide) (by decide) (fun o' ho => ?_)
  refine m_c0 <| ct_cp_i (i := 19) (j := 8) (n := 32) rfl rfl (by decide) (by decide) (by decide) (fun nd' hn => ?_)
  refine m_c0 <| ct_cp_i (i := 20) (j := 9) (n := 32) rfl rfl (by decide) (by decide) (by decide) (fun am' ha => ?_)
  exact hK o' nd' am' ho hn ha
def ct_sb : mCT := fun as w K => ∃ bal o nd am ro ra rd pv bc rc h j bu bal2 o2 nd2 am2 ro2 ra2 rd2 pv2 bc2 rc2 h2 j2 bu2 ex, as = [.inr 0, .inr 11] ∧ w = sW bal o nd am ro ra rd pv bc rc h j bu (oW bal2 o2 nd2 am2 ro2 ra2 rd2 pv2 bc2 rc2 h2 j2 bu2 ex) ∧ ∀ bal' o' nd' am' ro' ra' rd' pv' : Nat → Int32, (∀ k, k < 200 → bal' k = bal2 k) → (∀ k, k < 96 → o' k = o2 k) → (∀ k, k < 96 → nd' k = nd2 k) → (∀ k, k < 96 → am' k = am2 k) → (∀ k, k < 32 → ro' k = ro2 k) → (∀ k, k < 32 → ra' k = ra2 k) → (∀ k, k < 32 → rd' k = rd2 k) → (∀ k, k < 16 → pv' k = pv2 k) → K none (sW bal' o' nd' am' ro' ra' rd' pv' bc2 rc2 h2 j2 bu2 (oW bal2 o2 nd2 am2 ro2 ra2 rd2 pv2 bc2 rc2 h2 j2 bu2 ex))
set_option maxHeartbeats 4000000 in
theorem c_sb : m_Met false y_St_become ws_St_become nw (rmk 2) ct_sb := by
  refine m_Met_of (by decide +kernel) (fun as w K h => by obtain ⟨_, _, _, _, _, _, _, _, _, _, _, _, _, _, _, _, _, _, _, _, _, _, _, _, _, _, _, rfl, _⟩ := h; exact Nat.le_of_ble_eq_true rfl) ?_
  intro E as w K C hm hret hct
  obtain ⟨bal, o, nd, am, ro, ra, rd, pv, bc, rc, h, j, bu, bal2, o2, nd2, am2, ro2, ra2, rd2, pv2, bc2, rc2, h2, j2, bu2, ex, rfl, rfl, hK⟩ := hct
  have hT : m_TOk E c_St_become R_St (false, fl_St, fp_St, [], [(1, 55, 5, ct_cp), (0, 61, 2, ct_bb), (0, 65, 2, ct_rr)], []) (m_Rt none K) := ⟨hm, get_St C, put_St C, m_none, m_one (m_calCp C (hm rfl) cp_St cp_nat cp_st cp_ini (by decide) (by decide)) (m_one (ca_St_61 (pb := false) C hm c_bb rfl rfl ct_bb_r ⟨by decide, by decide⟩) (m_one (ca_St_65 (pb := false) C hm c_rr rfl rfl ct_rr_r ⟨by decide, by decide⟩) m_none)), m_none, hret⟩
  refine m_walk C hT wf_St_become [] 60 ?_
  refine m_c0 <| ct_cp_i (i := 12) (j := 1) (n := 200) rfl rfl (by decide) (by decide) (by decide) (fun bal' hb => ?_)
  refine m_c0 <| ct_bb_i (fun o' nd' am' ho hn ha => ?_)
  refine m_c0 <| ct_rr_i (fun ro' ra' rd' h1 h2 h3 => ?_)
  refine m_c0 <| ct_cp_i (i := 21) (j := 10) (n := 16) rfl rfl (by decide) (by decide) (by decide) (fun pv' hp => ?_)
  exact hK bal' o' nd' am' ro' ra' rd' pv' hb ho hn ha h1 h2 h3 hp
