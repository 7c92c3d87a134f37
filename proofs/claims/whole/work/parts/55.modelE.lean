/-! More of the model's public methods. -/
theorem ct_work_j {kd ka kb kv kp bf kt bal bd pv ra rm rd pt jl : Nat → Int32} {en wk rc bu h gn th : Int32} {N t : Nat} {S : Nat → aS} {ops : Nat → aO} {pr : Nat → Nat} {K : Option mV → mW → Prop} {x : Int32} (hx : x = nI t) (h1 : N ≤ 4200) (h2 : t < N) (h3 : LI N S ops pr kd ka kb kv kp bf) (h4 : WK N S wk bal bd pv jl ra rm rd rc bu h) (h5 : ∀ pt' (bal' bd' pv' jl' ra' rm' rd' : Nat → Int32) (rc' bu' h' : Int32) gn', RM (S t) bal' bd' pv' jl' ra' rm' rd' rc' bu' h' → K none (mM kd ka kb kv kp bf kt bal' bd' pv' ra' rm' rd' pt' jl' en ((nI t)) ((nI t)) rc' bu' h' gn' th)) : ct_work [.inr 0] (mM kd ka kb kv kp bf kt bal bd pv ra rm rd pt jl en x wk rc bu h gn th) K := by
  subst hx
  exact ct_work_i h1 h2 h3 h4 (fun pt' bal' bd' pv' jl' ra' rm' rd' rc' bu' h' gn' h6 _ => h5 pt' bal' bd' pv' jl' ra' rm' rd' rc' bu' h' gn' h6)
def cn_unbond : mCT := fun as w K => ∃ N t S kt th0 a b v p, as = [.inr 0, .inl a, .inl b, .inl v, .inl p] ∧ MS N t S kt th0 w ∧ N < 4200 ∧ ∀ w', MR N t S kt (q_unbond (S t) a b v p) w' → K (some (.inl (q_unbond (S t) a b v p).2.1)) w'
set_option maxHeartbeats 16000000 in
set_option maxRecDepth 20000 in
theorem x_Munbond : m_Met false y_Mo_unbond ws_Mo_unbond nw (rmk 4) cn_unbond := by
  refine m_Met_of (by decide +kernel) (fun as w K h => by obtain ⟨_, _, _, _, _, _, _, _, _, rfl, _⟩ := h; exact Nat.le_of_ble_eq_true rfl) ?_
  intro E as w K C hm hret hct
  obtain ⟨N, t, S, kt, th0, a, b, v, p, rfl, ⟨kd, ka, kb, kv, kp, bf, kt0, bal, bd, pv, ra, rm, rd, pt, jl, wk, rc, bu, h, gn, ops, pr, rfl, hN1, ht, hL, hW, hkt⟩, hN, hK⟩ := hct
  have hT : m_TOk E c_Mo_unbond R_Mo (false, fl_Mo, fp_Mo, [(98, 1000000)], [(1, 94, 3, ct_in3), (0, 91, 1, ct_work), (0, 102, 6, ct_change)], []) (m_Rt (some .int) K) := ⟨hm, get_Mo C, put_Mo C, cs_Mo C, (m_one (ca_Mo_94 (pb := true) C (fun h => nomatch h) c_min rfl rfl ⟨by decide, by decide⟩) (m_one (ca_Mo_91 (pb := false) C hm c_work rfl rfl ct_work_r ⟨by decide, by decide⟩) (m_one (ca_Mo_102 (pb := false) C hm c_change rfl rfl ct_change_r ⟨by decide, by decide⟩) m_none))), m_none, hret⟩
  have bad : ¬ (isR a 200 ∧ isR b 16 ∧ isR p 16 ∧ isV v) → m_W E 48 [some (.inr 0), some (.inl a), some (.inl b), some (.inl v), some (.inl p)] [.inl 1, .inr 0] (mM kd ka kb kv kp bf kt0 bal bd pv ra rm rd pt jl ((nI N)) ((nI t)) wk rc bu h gn th0) := by
    intro hb
    simp only [q_unbond, q_of_0 hb] at hK
    refine m_walk C hT wf_Mo_unbond [] 60 ?_
    refine m_c0 <| ct_work_i (by omega) ht hL hW (fun pt' bal' bd' pv' jl' ra' rm' rd' rc' bu' h' gn' hR _ => ?_)
    refine And.intro (fun _ => ?_) (fun z => absurd z (by decide))
    refine And.intro (fun z => absurd z (by decide)) (fun _ => ?_)
    exact hK _ (MS_of hN1 ht hL (.inl ⟨t, ht, rfl, hR⟩) hkt)
  refine m_walk C hT wf_Mo_unbond [48] 60 ?_
  refine m_c0 <| ct_in3_i (fun h0 => ?_) (fun h0 => And.intro (fun _ => bad (fun z => h0 ((inR a 199 (by decide)).mpr z.1))) (fun z => absurd rfl z))
  refine And.intro (fun z => absurd z (by decide)) (fun _ => ?_)
  refine m_c0 <| ct_in3_i (fun h1 => ?_) (fun h1 => And.intro (fun _ => bad (fun z => h1 ((inR b 15 (by decide)).mpr z.2.1))) (fun z => absurd rfl z))
  refine And.intro (fun z => absurd z (by decide)) (fun _ => ?_)
  refine m_c0 <| ct_in3_i (fun h2 => ?_) (fun h2 => And.intro (fun _ => bad (fun z => h2 ((inR p 15 (by decide)).mpr z.2.2.1))) (fun z => absurd rfl z))
  refine And.intro (fun z => absurd z (by decide)) (fun _ => ?_)
  refine m_c0 <| ct_in3_i (fun h3 => ?_) (fun h3 => And.intro (fun z => absurd rfl z) (fun _ => bad (fun z => h3 z.2.2.2)))
  refine And.intro (fun _ => ?_) (fun z => absurd z (by decide))
  have g0 := (inR a 199 (by decide)).mp h0
  have g1 := (inR b 15 (by decide)).mp h1
  have g2 := (inR p 15 (by decide)).mp h2
  have g3 : isV v := h3
  have hc1 : isR a 200 ∧ isR b 16 ∧ isR p 16 ∧ isV v := ⟨g0, g1, g2, g3⟩
  obtain ⟨x, hx, rfl⟩ := isR_nat (n := 200) (by decide) g0
  obtain ⟨y, hy, rfl⟩ := isR_nat (n := 16) (by decide) g1
  obtain ⟨q, hq, rfl⟩ := isR_nat (n := 16) (by decide) g2
  simp only [q_unbond, iN_nI (show x < 2 ^ 31 by omega), iN_nI (show y < 2 ^ 31 by omega), iN_nI (show q < 2 ^ 31 by omega)] at hK
  refine m_walk C hT wf_Mo_unbond [] 90 ?_
  refine m_c0 <| ct_work_i (by omega) ht hL hW (fun pt' bal' bd' pv' jl' ra' rm' rd' rc' bu' h' gn' hR _ => ?_)
  refine And.intro (fun z => absurd rfl z) (fun _ => ?_)
  have hX : bal' x = (S t).1 x := hR.1 x hx
  have hB : bd' (16 * x + y) = (S t).2.1 (16 * x + y) := hR.2.1 _ (by omega)
  have hC : rc' = nI (S t).2.2.1.length := hR.2.2.2.1
  have hI := (hL.2.1 t ht).1
  refine m_ix hx (And.intro (fun h5 => ?_) (fun h5 => ?_))
  · rw [q_of_1 hc1 (fun z => absurd h5 (Int32.not_lt.mpr (hX ▸ z.1)))] at hK
    exact And.intro (fun z => absurd z (by decide)) (fun _ => hK _ (MS_of hN1 ht hL (.inl ⟨t, ht, rfl, hR⟩) hkt))
  refine m_ixe (ix16 x y) (by omega) (And.intro (fun h6 => ?_) (fun h6 => ?_))
  · rw [q_of_1 hc1 (fun z => absurd h6 (Int32.not_lt.mpr (hB ▸ z.2.1)))] at hK
    exact And.intro (fun z => absurd z (by decide)) (fun _ => hK _ (MS_of hN1 ht hL (.inl ⟨t, ht, rfl, hR⟩) hkt))
  refine And.intro (fun h7 => ?_) (fun h7 => ?_)
  · have hl : ¬ (S t).2.2.1.length = 32 := fun z => h7 (by rw [hC, z]; rfl)
    have hlen : (S t).2.2.1.length < 32 := by omega
    rw [q_of_2 hc1 ⟨hX ▸ Int32.not_lt.mp h5, hB ▸ Int32.not_lt.mp h6, hl⟩] at hK
    refine And.intro (fun _ => ?_) (fun z => absurd (by decide) z)
    have hok : a_ok (2, x, y, v, q) (S t) := ⟨by show 2 ≤ 5; omega, fun _ => ⟨hx, hq⟩, fun z => absurd z (by show ¬ 2 = 0; omega), fun _ _ => hy, fun _ => hlen⟩
    refine m_c0 <| ct_change_i (2, x, y, v, q) rfl hN ht hL hR hok (aI_step (hL.2.1 t ht) hok) (fun kd1 ka1 kb1 kv1 kp1 bf1 pt1 bal1 bd1 pv1 jl1 ra1 rm1 rd1 rc1 bu1 h1 gn1 ops1 pr1 hL1 hR1 hg => ?_)
    have e2 : updS S N (a_step (2, x, y, v, q) (S t)) N = a_step (2, x, y, v, q) (S t) := by unfold updS; rw [if_pos rfl]
    have hms := MS_of (kt := kt) (th := 0) (gn := gn1) (pt := pt1) (kt0 := kt0) (show 1 ≤ N + 1 by omega) (Nat.lt_succ_self N) hL1 (.inl ⟨N, Nat.lt_succ_self N, rfl, by rw [e2]; exact hR1⟩) (fun k hk => ⟨(hkt k hk).1, by have := (hkt k hk).2; omega⟩)
    have h9 := hK _ hms
    rw [← hR1.2.2.2.1] at h9
    exact h9
  · rw [q_of_1 hc1 (fun z => z.2.2 ((nI_eq (by omega) (by omega)).mp (hC.symm.trans h7)))] at hK
    exact And.intro (fun z => absurd z (by decide)) (fun _ => hK _ (MS_of hN1 ht hL (.inl ⟨t, ht, rfl, hR⟩) hkt))
def cn_free : mCT := fun as w K => ∃ N t S kt th0 a b p, as = [.inr 0, .inl a, .inl b, .inl p] ∧ MS N t S kt th0 w ∧ N < 4200 ∧ ∀ w', MR N t S kt (q_free (S t) a b p) w' → K (some (.inl (q_free (S t) a b p).2.1)) w'
set_option maxHeartbeats 16000000 in
set_option maxRecDepth 20000 in
theorem x_Mfree : m_Met false y_Mo_free ws_Mo_free nw (rmk 4) cn_free := by
  refine m_Met_of (by decide +kernel) (fun as w K h => by obtain ⟨_, _, _, _, _, _, _, _, rfl, _⟩ := h; exact Nat.le_of_ble_eq_true rfl) ?_
  intro E as w K C hm hret hct
  obtain ⟨N, t, S, kt, th0, a, b, p, rfl, ⟨kd, ka, kb, kv, kp, bf, kt0, bal, bd, pv, ra, rm, rd, pt, jl, wk, rc, bu, h, gn, ops, pr, rfl, hN1, ht, hL, hW, hkt⟩, hN, hK⟩ := hct
  have hT : m_TOk E c_Mo_free R_Mo (false, fl_Mo, fp_Mo, [(98, 1000000)], [(1, 94, 3, ct_in3), (0, 91, 1, ct_work), (0, 102, 6, ct_change), (0, 110, 2, ct_mpow)], []) (m_Rt (some .int) K) := ⟨hm, get_Mo C, put_Mo C, cs_Mo C, (m_one (ca_Mo_94 (pb := true) C (fun h => nomatch h) c_min rfl rfl ⟨by decide, by decide⟩) (m_one (ca_Mo_91 (pb := false) C hm c_work rfl rfl ct_work_r ⟨by decide, by decide⟩) (m_one (ca_Mo_102 (pb := false) C hm c_change rfl rfl ct_change_r ⟨by decide, by decide⟩) (m_one (ca_Mo_110 (pb := true) C (fun h => nomatch h) c_mpow rfl rfl ct_mpow_r ⟨by decide, by decide⟩) m_none)))), m_none, hret⟩
  have bad : ¬ (isR a 200 ∧ isR b 16 ∧ isR p 16) → m_W E 37 [some (.inr 0), some (.inl a), some (.inl b), some (.inl p)] [.inl 1, .inr 0] (mM kd ka kb kv kp bf kt0 bal bd pv ra rm rd pt jl ((nI N)) ((nI t)) wk rc bu h gn th0) := by
    intro hb
    simp only [q_free, q_of_0 hb] at hK
    refine m_walk C hT wf_Mo_free [] 60 ?_
    refine m_c0 <| ct_work_i (by omega) ht hL hW (fun pt' bal' bd' pv' jl' ra' rm' rd' rc' bu' h' gn' hR _ => ?_)
    refine And.intro (fun _ => ?_) (fun z => absurd z (by decide))
    refine And.intro (fun z => absurd z (by decide)) (fun _ => ?_)
    exact hK _ (MS_of hN1 ht hL (.inl ⟨t, ht, rfl, hR⟩) hkt)
  refine m_walk C hT wf_Mo_free [37] 60 ?_
  refine m_c0 <| ct_in3_i (fun h0 => ?_) (fun h0 => And.intro (fun _ => bad (fun z => h0 ((inR a 199 (by decide)).mpr z.1))) (fun z => absurd rfl z))
  refine And.intro (fun z => absurd z (by decide)) (fun _ => ?_)
  refine m_c0 <| ct_in3_i (fun h1 => ?_) (fun h1 => And.intro (fun _ => bad (fun z => h1 ((inR b 15 (by decide)).mpr z.2.1))) (fun z => absurd rfl z))
  refine And.intro (fun z => absurd z (by decide)) (fun _ => ?_)
  refine m_c0 <| ct_in3_i (fun h2 => ?_) (fun h2 => And.intro (fun z => absurd rfl z) (fun _ => bad (fun z => h2 ((inR p 15 (by decide)).mpr z.2.2))))
  refine And.intro (fun _ => ?_) (fun z => absurd z (by decide))
  have g0 := (inR a 199 (by decide)).mp h0
  have g1 := (inR b 15 (by decide)).mp h1
  have g2 := (inR p 15 (by decide)).mp h2
  have hc1 : isR a 200 ∧ isR b 16 ∧ isR p 16 := ⟨g0, g1, g2⟩
  obtain ⟨x, hx, rfl⟩ := isR_nat (n := 200) (by decide) g0
  obtain ⟨y, hy, rfl⟩ := isR_nat (n := 16) (by decide) g1
  obtain ⟨q, hq, rfl⟩ := isR_nat (n := 16) (by decide) g2
  simp only [q_free, iN_nI (show x < 2 ^ 31 by omega), iN_nI (show y < 2 ^ 31 by omega), iN_nI (show q < 2 ^ 31 by omega)] at hK
  refine m_walk C hT wf_Mo_free [] 90 ?_
  refine m_c0 <| ct_work_i (by omega) ht hL hW (fun pt' bal' bd' pv' jl' ra' rm' rd' rc' bu' h' gn' hR _ => ?_)
  refine And.intro (fun z => absurd rfl z) (fun _ => ?_)
  have hX : bal' x = (S t).1 x := hR.1 x hx
  have hJ : jl' y = jlI ((S t).2.2.2.2.1 y) := hR.2.2.2.2.2.1 y hy
  refine m_ix hx (And.intro (fun h5 => ?_) (fun h5 => ?_))
  · rw [q_of_1 hc1 (fun z => absurd h5 (Int32.not_lt.mpr (hX ▸ z.1)))] at hK
    exact And.intro (fun z => absurd z (by decide)) (fun _ => hK _ (MS_of hN1 ht hL (.inl ⟨t, ht, rfl, hR⟩) hkt))
  refine m_ix hy (And.intro (fun h6 => ?_) (fun h6 => ?_))
  · have hj : (S t).2.2.2.2.1 y = true := by
      cases e : (S t).2.2.2.2.1 y
      · rw [e] at hJ
        exact absurd hJ h6
      · rfl
    rw [q_of_2 hc1 ⟨hX ▸ Int32.not_lt.mp h5, hj⟩] at hK
    refine And.intro (fun _ => ?_) (fun z => absurd (by decide) z)
    have hok : a_ok (3, x, y, 0, q) (S t) := ⟨by show 3 ≤ 5; omega, fun _ => ⟨hx, hq⟩, fun z => absurd z (by show ¬ 3 = 0; omega), fun _ _ => hy, fun z => absurd z (by show ¬ 3 = 2; omega)⟩
    refine m_c0 <| ct_change_i (3, x, y, 0, q) rfl hN ht hL hR hok (aI_step (hL.2.1 t ht) hok) (fun kd1 ka1 kb1 kv1 kp1 bf1 pt1 bal1 bd1 pv1 jl1 ra1 rm1 rd1 rc1 bu1 h1 gn1 ops1 pr1 hL1 hR1 hg => ?_)
    have e2 : updS S N (a_step (3, x, y, 0, q) (S t)) N = a_step (3, x, y, 0, q) (S t) := by unfold updS; rw [if_pos rfl]
    have hms := MS_of (kt := kt) (th := 0) (gn := gn1) (pt := pt1) (kt0 := kt0) (show 1 ≤ N + 1 by omega) (Nat.lt_succ_self N) hL1 (.inl ⟨N, Nat.lt_succ_self N, rfl, by rw [e2]; exact hR1⟩) (fun k hk => ⟨(hkt k hk).1, by have := (hkt k hk).2; omega⟩)
    refine m_c0 <| ct_mpow_i hy ?_
    rw [RM_pw hR1 hy]
    exact hK _ hms
  · rw [q_of_1 hc1 (fun z => by rw [z.2] at hJ; rw [hJ] at h6; exact absurd h6 (by decide))] at hK
    exact And.intro (fun z => absurd z (by decide)) (fun _ => hK _ (MS_of hN1 ht hL (.inl ⟨t, ht, rfl, hR⟩) hkt))
def cn_prove : mCT := fun as w K => ∃ N t S kt th0 a b g p, as = [.inr 0, .inl a, .inl b, .inl g, .inl p] ∧ MS N t S kt th0 w ∧ N < 4200 ∧ ∀ w', MR N t S kt (q_prove (S t) a b g p) w' → K (some (.inl (q_prove (S t) a b g p).2.1)) w'
set_option maxHeartbeats 16000000 in
set_option maxRecDepth 20000 in
theorem x_Mprove : m_Met false y_Mo_prove ws_Mo_prove nw (rmk 4) cn_prove := by
  refine m_Met_of (by decide +kernel) (fun as w K h => by obtain ⟨_, _, _, _, _, _, _, _, _, rfl, _⟩ := h; exact Nat.le_of_ble_eq_true rfl) ?_
  intro E as w K C hm hret hct
  obtain ⟨N, t, S, kt, th0, a, b, g, p, rfl, ⟨kd, ka, kb, kv, kp, bf, kt0, bal, bd, pv, ra, rm, rd, pt, jl, wk, rc, bu, h, gn, ops, pr, rfl, hN1, ht, hL, hW, hkt⟩, hN, hK⟩ := hct
  have hT : m_TOk E c_Mo_prove R_Mo (false, fl_Mo, fp_Mo, [(98, 1000000)], [(1, 94, 3, ct_in3), (0, 91, 1, ct_work), (0, 102, 6, ct_change)], []) (m_Rt (some .int) K) := ⟨hm, get_Mo C, put_Mo C, cs_Mo C, (m_one (ca_Mo_94 (pb := true) C (fun h => nomatch h) c_min rfl rfl ⟨by decide, by decide⟩) (m_one (ca_Mo_91 (pb := false) C hm c_work rfl rfl ct_work_r ⟨by decide, by decide⟩) (m_one (ca_Mo_102 (pb := false) C hm c_change rfl rfl ct_change_r ⟨by decide, by decide⟩) m_none))), m_none, hret⟩
  have bad : ¬ (isR a 200 ∧ isR b 16 ∧ isR p 16) → m_W E 38 [some (.inr 0), some (.inl a), some (.inl b), some (.inl g), some (.inl p)] [.inl 1, .inr 0] (mM kd ka kb kv kp bf kt0 bal bd pv ra rm rd pt jl ((nI N)) ((nI t)) wk rc bu h gn th0) := by
    intro hb
    simp only [q_prove, q_of_0 hb] at hK
    refine m_walk C hT wf_Mo_prove [] 60 ?_
    refine m_c0 <| ct_work_i (by omega) ht hL hW (fun pt' bal' bd' pv' jl' ra' rm' rd' rc' bu' h' gn' hR _ => ?_)
    refine And.intro (fun _ => ?_) (fun z => absurd z (by decide))
    refine And.intro (fun z => absurd z (by decide)) (fun _ => ?_)
    exact hK _ (MS_of hN1 ht hL (.inl ⟨t, ht, rfl, hR⟩) hkt)
  refine m_walk C hT wf_Mo_prove [38] 60 ?_
  refine m_c0 <| ct_in3_i (fun h0 => ?_) (fun h0 => And.intro (fun _ => bad (fun z => h0 ((inR a 199 (by decide)).mpr z.1))) (fun z => absurd rfl z))
  refine And.intro (fun z => absurd z (by decide)) (fun _ => ?_)
  refine m_c0 <| ct_in3_i (fun h1 => ?_) (fun h1 => And.intro (fun _ => bad (fun z => h1 ((inR b 15 (by decide)).mpr z.2.1))) (fun z => absurd rfl z))
  refine And.intro (fun z => absurd z (by decide)) (fun _ => ?_)
  refine m_c0 <| ct_in3_i (fun h2 => ?_) (fun h2 => And.intro (fun z => absurd rfl z) (fun _ => bad (fun z => h2 ((inR p 15 (by decide)).mpr z.2.2))))
  refine And.intro (fun _ => ?_) (fun z => absurd z (by decide))
  have g0 := (inR a 199 (by decide)).mp h0
  have g1 := (inR b 15 (by decide)).mp h1
  have g2 := (inR p 15 (by decide)).mp h2
  have hc1 : isR a 200 ∧ isR b 16 ∧ isR p 16 := ⟨g0, g1, g2⟩
  obtain ⟨x, hx, rfl⟩ := isR_nat (n := 200) (by decide) g0
  obtain ⟨y, hy, rfl⟩ := isR_nat (n := 16) (by decide) g1
  obtain ⟨q, hq, rfl⟩ := isR_nat (n := 16) (by decide) g2
  simp only [q_prove, iN_nI (show x < 2 ^ 31 by omega), iN_nI (show y < 2 ^ 31 by omega), iN_nI (show q < 2 ^ 31 by omega)] at hK
  refine m_walk C hT wf_Mo_prove [] 90 ?_
  refine m_c0 <| ct_work_i (by omega) ht hL hW (fun pt' bal' bd' pv' jl' ra' rm' rd' rc' bu' h' gn' hR _ => ?_)
  refine And.intro (fun z => absurd rfl z) (fun _ => ?_)
  have hX : bal' x = (S t).1 x := hR.1 x hx
  have hH : h' = (S t).2.2.2.2.2.2 := hR.2.2.2.2.2.2.2
  have hV : pv' y = (S t).2.2.2.1 y := hR.2.2.2.2.1 y hy
  refine m_ix hx (And.intro (fun h5 => ?_) (fun h5 => ?_))
  · rw [q_of_1 hc1 (fun z => absurd h5 (Int32.not_lt.mpr (hX ▸ z.1)))] at hK
    exact And.intro (fun z => absurd z (by decide)) (fun _ => hK _ (MS_of hN1 ht hL (.inl ⟨t, ht, rfl, hR⟩) hkt))
  refine And.intro (fun h6 => ?_) (fun h6 => ?_)
  · rw [q_of_1 hc1 (fun z => absurd h6 (Int32.not_lt.mpr (hH ▸ z.2.1)))] at hK
    exact And.intro (fun z => absurd z (by decide)) (fun _ => hK _ (MS_of hN1 ht hL (.inl ⟨t, ht, rfl, hR⟩) hkt))
  refine m_ix hy (And.intro (fun h7 => ?_) (fun h7 => ?_))
  · rw [q_of_2 hc1 ⟨hX ▸ Int32.not_lt.mp h5, hH ▸ Int32.not_lt.mp h6, hV ▸ h7⟩] at hK
    refine And.intro (fun _ => ?_) (fun z => absurd (by decide) z)
    have hok : a_ok (4, x, y, g, q) (S t) := ⟨by show 4 ≤ 5; omega, fun _ => ⟨hx, hq⟩, fun z => absurd z (by show ¬ 4 = 0; omega), fun _ _ => hy, fun z => absurd z (by show ¬ 4 = 2; omega)⟩
    refine m_c0 <| ct_change_i (4, x, y, g, q) rfl hN ht hL hR hok (aI_step (hL.2.1 t ht) hok) (fun kd1 ka1 kb1 kv1 kp1 bf1 pt1 bal1 bd1 pv1 jl1 ra1 rm1 rd1 rc1 bu1 h1 gn1 ops1 pr1 hL1 hR1 hg => ?_)
    have e2 : updS S N (a_step (4, x, y, g, q) (S t)) N = a_step (4, x, y, g, q) (S t) := by unfold updS; rw [if_pos rfl]
    have hms := MS_of (kt := kt) (th := 0) (gn := gn1) (pt := pt1) (kt0 := kt0) (show 1 ≤ N + 1 by omega) (Nat.lt_succ_self N) hL1 (.inl ⟨N, Nat.lt_succ_self N, rfl, by rw [e2]; exact hR1⟩) (fun k hk => ⟨(hkt k hk).1, by have := (hkt k hk).2; omega⟩)
    have h9 := hK _ hms
    rw [← hg (.inl rfl)] at h9
    exact h9
  · rw [q_of_1 hc1 (fun z => absurd (hV ▸ z.2.2) h7)] at hK
    exact And.intro (fun z => absurd z (by decide)) (fun _ => hK _ (MS_of hN1 ht hL (.inl ⟨t, ht, rfl, hR⟩) hkt))
def cn_next : mCT := fun as w K => ∃ N t S kt th0, as = [.inr 0] ∧ MS N t S kt th0 w ∧ N < 4200 ∧ ∀ w', MR N t S kt (q_next (S t)) w' → K (some (.inl (q_next (S t)).2.1)) w'
set_option maxHeartbeats 16000000 in
set_option maxRecDepth 20000 in
theorem x_Mnext : m_Met false y_Mo_next ws_Mo_next nw (rmk 4) cn_next := by
  refine m_Met_of (by decide +kernel) (fun as w K h => by obtain ⟨_, _, _, _, _, rfl, _⟩ := h; exact Nat.le_of_ble_eq_true rfl) ?_
  intro E as w K C hm hret hct
  obtain ⟨N, t, S, kt, th0, rfl, ⟨kd, ka, kb, kv, kp, bf, kt0, bal, bd, pv, ra, rm, rd, pt, jl, wk, rc, bu, h, gn, ops, pr, rfl, hN1, ht, hL, hW, hkt⟩, hN, hK⟩ := hct
  have hT : m_TOk E c_Mo_next R_Mo (false, fl_Mo, fp_Mo, [(98, 1000000)], [(0, 91, 1, ct_work), (0, 102, 6, ct_change)], []) (m_Rt (some .int) K) := ⟨hm, get_Mo C, put_Mo C, cs_Mo C, (m_one (ca_Mo_91 (pb := false) C hm c_work rfl rfl ct_work_r ⟨by decide, by decide⟩) (m_one (ca_Mo_102 (pb := false) C hm c_change rfl rfl ct_change_r ⟨by decide, by decide⟩) m_none)), m_none, hret⟩
  refine m_walk C hT wf_Mo_next [] 60 ?_
  refine m_c0 <| ct_work_i (by omega) ht hL hW (fun pt' bal' bd' pv' jl' ra' rm' rd' rc' bu' h' gn' hR _ => ?_)
  have hH : h' = (S t).2.2.2.2.2.2 := hR.2.2.2.2.2.2.2
  refine And.intro (fun h5 => ?_) (fun h5 => ?_)
  · simp only [q_next, if_neg (fun z => h5 (hH.trans z))] at hK
    refine And.intro (fun _ => ?_) (fun z => absurd (by decide) z)
    have hok : a_ok (5, 0, 0, 0, 0) (S t) := ⟨by show 5 ≤ 5; omega, fun z => absurd z (by show ¬ 5 < 5; omega), fun z => absurd z (by show ¬ 5 = 0; omega), fun _ z => absurd z (by show ¬ 5 ≤ 4; omega), fun z => absurd z (by show ¬ 5 = 2; omega)⟩
    refine m_c0 <| ct_change_i (5, 0, 0, 0, 0) rfl hN ht hL hR hok (aI_step (hL.2.1 t ht) hok) (fun kd1 ka1 kb1 kv1 kp1 bf1 pt1 bal1 bd1 pv1 jl1 ra1 rm1 rd1 rc1 bu1 h1 gn1 ops1 pr1 hL1 hR1 hg => ?_)
    have e2 : updS S N (a_step (5, 0, 0, 0, 0) (S t)) N = a_step (5, 0, 0, 0, 0) (S t) := by unfold updS; rw [if_pos rfl]
    have hms := MS_of (kt := kt) (th := 0) (gn := gn1) (pt := pt1) (kt0 := kt0) (show 1 ≤ N + 1 by omega) (Nat.lt_succ_self N) hL1 (.inl ⟨N, Nat.lt_succ_self N, rfl, by rw [e2]; exact hR1⟩) (fun k hk => ⟨(hkt k hk).1, by have := (hkt k hk).2; omega⟩)
    have h9 := hK _ hms
    rw [← hg (.inr rfl)] at h9
    exact h9
  · simp only [q_next, if_pos (hH.symm.trans h5)] at hK
    exact And.intro (fun z => absurd z (by decide)) (fun _ => hK _ (MS_of hN1 ht hL (.inl ⟨t, ht, rfl, hR⟩) hkt))
def cn_thrown : mCT := fun as w K => ∃ N t S kt th0, as = [.inr 0] ∧ MS N t S kt th0 w ∧ K (some (.inl th0)) w
set_option maxHeartbeats 16000000 in
set_option maxRecDepth 20000 in
theorem x_Mthrown : m_Met false y_Mo_thrown ws_Mo_thrown nw (rmk 4) cn_thrown := by
  refine m_Met_of (by decide +kernel) (fun as w K h => by obtain ⟨_, _, _, _, _, rfl, _⟩ := h; exact Nat.le_of_ble_eq_true rfl) ?_
  intro E as w K C hm hret hct
  obtain ⟨N, t, S, kt, th0, rfl, ⟨kd, ka, kb, kv, kp, bf, kt0, bal, bd, pv, ra, rm, rd, pt, jl, wk, rc, bu, h, gn, ops, pr, rfl, hN1, ht, hL, hW, hkt⟩, hK⟩ := hct
  have hT : m_TOk E c_Mo_thrown R_Mo (false, fl_Mo, fp_Mo, [(98, 1000000)], [], []) (m_Rt (some .int) K) := ⟨hm, get_Mo C, put_Mo C, cs_Mo C, m_none, m_none, hret⟩
  refine m_walk C hT wf_Mo_thrown [] 60 ?_
  exact hK
def cn_keep : mCT := fun as w K => ∃ N t S kt th0 a, as = [.inr 0, .inl a] ∧ MS N t S kt th0 w ∧ (¬ isR a 8 → ∀ w', MS N t S kt 1 w' → K none w') ∧ ∀ k : Nat, k < 8 → a = nI k → ∀ w', MS N t S (fun i => if i = k then t else kt i) 0 w' → K none w'
set_option maxHeartbeats 16000000 in
set_option maxRecDepth 20000 in
theorem x_Mkeep : m_Met false y_Mo_keep ws_Mo_keep nw (rmk 4) cn_keep := by
  refine m_Met_of (by decide +kernel) (fun as w K h => by obtain ⟨_, _, _, _, _, _, rfl, _⟩ := h; exact Nat.le_of_ble_eq_true rfl) ?_
  intro E as w K C hm hret hct
  obtain ⟨N, t, S, kt, th0, a, rfl, ⟨kd, ka, kb, kv, kp, bf, kt0, bal, bd, pv, ra, rm, rd, pt, jl, wk, rc, bu, h, gn, ops, pr, rfl, hN1, ht, hL, hW, hkt⟩, hX, hK⟩ := hct
  have hT : m_TOk E c_Mo_keep R_Mo (false, fl_Mo, fp_Mo, [(98, 1000000)], [(1, 94, 3, ct_in3)], []) (m_Rt none K) := ⟨hm, get_Mo C, put_Mo C, cs_Mo C, (m_one (ca_Mo_94 (pb := true) C (fun h => nomatch h) c_min rfl rfl ⟨by decide, by decide⟩) m_none), m_none, hret⟩
  refine m_walk C hT wf_Mo_keep [] 60 ?_
  refine m_c0 <| ct_in3_i (fun h1 => ?_) (fun h1 => ?_)
  · refine And.intro (fun z => absurd z (by decide)) (fun _ => ?_)
    refine And.intro (fun z => absurd rfl z) (fun _ => ?_)
    obtain ⟨k, hk, rfl⟩ := isR_nat (n := 8) (by decide) ((inR a 7 (by decide)).mp h1)
    refine m_ix hk ?_
    refine hK k hk rfl _ (MS_of hN1 ht hL hW (fun i hi => ?_))
    by_cases e : i = k
    · simp only [upd, e, if_true]
      exact ⟨trivial, ht⟩
    · simp only [upd, e, if_false]
      exact hkt i hi
  · refine And.intro (fun _ => ?_) (fun z => absurd rfl z)
    refine And.intro (fun _ => ?_) (fun z => absurd z (by decide))
    exact hX (fun z => h1 ((inR a 7 (by decide)).mpr z)) _ (MS_of hN1 ht hL hW hkt)
def cn_back : mCT := fun as w K => ∃ N t S kt th0 a, as = [.inr 0, .inl a] ∧ MS N t S kt th0 w ∧ N ≤ 4200 ∧ (¬ isR a 8 → ∀ w', MS N t S kt 1 w' → K (some (.inl 0)) w') ∧ ∀ k : Nat, k < 8 → a = nI k → ∀ w', MS N (kt k) S kt 0 w' → K (some (.inl (S (kt k)).2.2.2.2.2.2)) w'
set_option maxHeartbeats 16000000 in
set_option maxRecDepth 20000 in
theorem x_Mback : m_Met false y_Mo_back ws_Mo_back nw (rmk 4) cn_back := by
  refine m_Met_of (by decide +kernel) (fun as w K h => by obtain ⟨_, _, _, _, _, _, rfl, _⟩ := h; exact Nat.le_of_ble_eq_true rfl) ?_
  intro E as w K C hm hret hct
  obtain ⟨N, t, S, kt, th0, a, rfl, ⟨kd, ka, kb, kv, kp, bf, kt0, bal, bd, pv, ra, rm, rd, pt, jl, wk, rc, bu, h, gn, ops, pr, rfl, hN1, ht, hL, hW, hkt⟩, hN, hX, hK⟩ := hct
  have hT : m_TOk E c_Mo_back R_Mo (false, fl_Mo, fp_Mo, [(98, 1000000)], [(1, 94, 3, ct_in3), (0, 91, 1, ct_work)], []) (m_Rt (some .int) K) := ⟨hm, get_Mo C, put_Mo C, cs_Mo C, (m_one (ca_Mo_94 (pb := true) C (fun h => nomatch h) c_min rfl rfl ⟨by decide, by decide⟩) (m_one (ca_Mo_91 (pb := false) C hm c_work rfl rfl ct_work_r ⟨by decide, by decide⟩) m_none)), m_none, hret⟩
  refine m_walk C hT wf_Mo_back [] 60 ?_
  refine m_c0 <| ct_in3_i (fun h1 => ?_) (fun h1 => ?_)
  · refine And.intro (fun z => absurd z (by decide)) (fun _ => ?_)
    refine And.intro (fun _ => ?_) (fun z => absurd (by decide) z)
    obtain ⟨k, hk, rfl⟩ := isR_nat (n := 8) (by decide) ((inR a 7 (by decide)).mp h1)
    refine m_ix hk ?_
    refine m_c0 <| ct_work_j (hkt k hk).1 hN (hkt k hk).2 hL hW (fun pt' bal' bd' pv' jl' ra' rm' rd' rc' bu' h' gn' hR => ?_)
    have h9 := hK k hk rfl _ (MS_of (kt := kt) (kt0 := kt0) (th := 0) (pt := pt') (gn := gn') hN1 (hkt k hk).2 hL (.inl ⟨kt k, (hkt k hk).2, rfl, hR⟩) hkt)
    rw [← hR.2.2.2.2.2.2.2] at h9
    exact h9
  · refine And.intro (fun _ => ?_) (fun z => absurd rfl z)
    refine And.intro (fun z => absurd z (by decide)) (fun _ => ?_)
    exact hX (fun z => h1 ((inR a 7 (by decide)).mpr z)) _ (MS_of hN1 ht hL hW hkt)
