/-! The model's sums. -/
def cn_sum : mCT := fun as w K => ∃ N t S kt th0 b, as = [.inr 0, .inl b] ∧ MS N t S kt th0 w ∧ N ≤ 4200 ∧ ∀ w', MR N t S kt (q_sum (S t) b) w' → K (some (.inl (q_sum (S t) b).2.1)) w'
set_option maxHeartbeats 16000000 in
set_option maxRecDepth 20000 in
theorem x_Msum : m_Met false y_Mo_sum ws_Mo_sum nw (rmk 4) cn_sum := by
  refine m_Met_of (by decide +kernel) (fun as w K h => by obtain ⟨_, _, _, _, _, _, rfl, _⟩ := h; exact Nat.le_of_ble_eq_true rfl) ?_
  intro E as w K C hm hret hct
  obtain ⟨N, t, S, kt, th0, b, rfl, ⟨kd, ka, kb, kv, kp, bf, kt0, bal, bd, pv, ra, rm, rd, pt, jl, wk, rc, bu, h, gn, ops, pr, rfl, hN1, ht, hL, hW, hkt⟩, hN, hK⟩ := hct
  have hT : m_TOk E c_Mo_sum R_Mo (false, fl_Mo, fp_Mo, [(98, 1000000)], [(1, 94, 3, ct_in3), (0, 91, 1, ct_work), (0, 110, 2, ct_mpow), (0, 106, 1, ct_mbonds)], []) (m_Rt (some .int) K) := ⟨hm, get_Mo C, put_Mo C, cs_Mo C, (m_one (ca_Mo_94 (pb := true) C (fun h => nomatch h) c_min rfl rfl ⟨by decide, by decide⟩) (m_one (ca_Mo_91 (pb := false) C hm c_work rfl rfl ct_work_r ⟨by decide, by decide⟩) (m_one (ca_Mo_110 (pb := true) C (fun h => nomatch h) c_mpow rfl rfl ct_mpow_r ⟨by decide, by decide⟩) (m_one (ca_Mo_106 (pb := true) C (fun h => nomatch h) c_mbonds rfl rfl ct_mbonds_r ⟨by decide, by decide⟩) m_none)))), m_none, hret⟩
  refine m_walk C hT wf_Mo_sum [60, 138] 60 ?_
  refine m_c0 <| ct_in3_i (fun h1 => ?_) (fun h1 => ?_)
  rotate_left
  · refine And.intro (fun _ => ?_) (fun z => absurd rfl z)
    refine And.intro (fun z => absurd z (by decide)) (fun _ => ?_)
    simp only [q_sum, q_c_f (show ¬ isR b 22 from fun z => h1 ((inR b 21 (by decide)).mpr z))] at hK
    exact hK _ (MS_of hN1 ht hL hW hkt)
  refine And.intro (fun z => absurd z (by decide)) (fun _ => ?_)
  refine And.intro (fun _ => ?_) (fun z => absurd (by decide) z)
  have g2 := (inR b 21 (by decide)).mp h1
  obtain ⟨y, hy, hye⟩ := isR_nat (n := 22) (by decide) g2
  have eb : iN b = y := by rw [hye]; exact iN_nI (by omega)
  simp only [q_sum, q_c_t (show isR b 22 from g2), eb] at hK
  refine m_c0 <| ct_work_i hN ht hL hW (fun pt' bal' bd' pv' jl' ra' rm' rd' rc' bu' h' gn' hR _ => ?_)
  have h9 := hK _ (MS_of (kt := kt) (kt0 := kt0) (th := 0) (pt := pt') (gn := gn') hN1 ht hL (.inl ⟨t, ht, rfl, hR⟩) hkt)
  have h9' : K (some (.inl (a_sum (S t) y))) (mM kd ka kb kv kp bf kt0 bal' bd' pv' ra' rm' rd' pt' jl' ((nI N)) ((nI t)) ((nI t)) rc' bu' h' gn' 0) := h9
  have hC : rc' = nI (S t).2.2.1.length := hR.2.2.2.1
  have hU : bu' = (S t).2.2.2.2.2.1 := hR.2.2.2.2.2.2.1
  have hH : h' = (S t).2.2.2.2.2.2 := hR.2.2.2.2.2.2.2
  obtain ⟨hI1, hI2⟩ := hL.2.1 t ht
  have ne : ∀ v : Nat, v < 2 ^ 31 → ¬ b = nI v → ¬ y = v := fun v _ h z => h (hye.trans (by rw [z]))
  have eq : ∀ v : Nat, v < 2 ^ 31 → b = nI v → y = v := fun v hv h => (nI_eq (by omega) hv).mp (hye.symm.trans h)
  have go : ∀ x, a_sum (S t) y = x → K (some (.inl x)) (mM kd ka kb kv kp bf kt0 bal' bd' pv' ra' rm' rd' pt' jl' ((nI N)) ((nI t)) ((nI t)) rc' bu' h' gn' 0) := fun x hx => hx ▸ h9'
  have lpb : y = 16 → ∀ n lo st w, (∃ i, n = 16 - i ∧ i ≤ 16 ∧ lo = [some (.inr 0), some (.inl b), some (.inl bu'), some (.inl (bI (S t).2.2.2.2.1 i)), some (.inl (nI i))] ∧ st = [] ∧ w = mM kd ka kb kv kp bf kt0 bal' bd' pv' ra' rm' rd' pt' jl' ((nI N)) ((nI t)) ((nI t)) rc' bu' h' gn' 0) → m_W E 60 lo st w := by
    intro hy16
    refine m_loop (fun n lo st w hI ih => ?_)
    obtain ⟨i, rfl, hi, rfl, rfl, rfl⟩ := hI
    refine m_walk C hT wf_Mo_sum [60, 138, 162, 186] 60 ?_
    refine And.intro (fun h1 => ?_) (fun h1 => ?_)
    · have : i = 16 := nI_lit (n := 16) (by omega) hi h1
      subst this
      exact go _ (by unfold a_sum; rw [if_neg (by omega), if_pos hy16])
    · have hlt : i < 16 := nI_lt_of (b := 16) (by omega) (by omega) h1
      have hJ : jl' i = jlI ((S t).2.2.2.2.1 i) := hR.2.2.2.2.2.1 i hlt
      refine m_ix hlt (And.intro (fun h2 => ?_) (fun h2 => ?_))
      · refine ih (16 - (i + 1)) _ _ _ (by omega) ⟨i + 1, rfl, hlt, ?_, rfl, rfl⟩
        have e : bI (S t).2.2.2.2.1 (i + 1) = bI (S t).2.2.2.2.1 i := by
          show (if (S t).2.2.2.2.1 i then _ else _) = _
          cases e : (S t).2.2.2.2.1 i
          · rfl
          · rw [hJ, e] at h2
            exact absurd h2 (by decide)
        rw [e, nI_succ i]
      · refine ih (16 - (i + 1)) _ _ _ (by omega) ⟨i + 1, rfl, hlt, ?_, rfl, rfl⟩
        have e : bI (S t).2.2.2.2.1 (i + 1) = bI (S t).2.2.2.2.1 i ||| ((1 : Int32) <<< (nI i &&& 31)) := by
          show (if (S t).2.2.2.2.1 i then _ else _) = _
          cases e : (S t).2.2.2.2.1 i
          · rw [hJ, e] at h2
            exact absurd rfl h2
          · rfl
        rw [e, nI_succ i]
  have z0 : ∀ (A : Int32) (f : Nat → Int32), A = A + sm f 0 := fun A f => (Int32.add_zero A).symm
  have lp3 : y = 20 → ∀ A, A = bu' + sm bal' 200 + sm bd' 3200 → ∀ n lo st w, (∃ i, n = (S t).2.2.1.length - i ∧ i ≤ (S t).2.2.1.length ∧ lo = [some (.inr 0), some (.inl b), some (.inl (A + sm rm' i)), some (.inl (nI i)), none] ∧ st = [] ∧ w = mM kd ka kb kv kp bf kt0 bal' bd' pv' ra' rm' rd' pt' jl' ((nI N)) ((nI t)) ((nI t)) rc' bu' h' gn' 0) → m_W E 186 lo st w := by
    intro hy20 A hA
    refine m_loop (fun n lo st w hI ih => ?_)
    obtain ⟨i, rfl, hi, rfl, rfl, rfl⟩ := hI
    refine m_walk C hT wf_Mo_sum [60, 138, 162, 186] 60 ?_
    refine And.intro (fun h1 => ?_) (fun h1 => ?_)
    · have : i = (S t).2.2.1.length := by
        rw [hC] at h1
        have := nI_ge_of (by omega) (by omega) h1
        omega
      subst this
      refine go _ ?_
      unfold a_sum
      rw [if_neg (by omega), if_neg (by omega), if_neg (by omega), if_neg (by omega), if_neg (by omega), if_neg (by omega), hd_tot hR.2.2.1, hA, sm_congr (n := 200) (fun k hk => hR.1 k hk), sm_congr (n := 3200) (fun k hk => hR.2.1 k hk), hU]
    · have hlt : i < (S t).2.2.1.length := by
        rw [hC] at h1
        exact nI_lt_of (by omega) (by omega) h1
      refine m_ix (by omega) ?_
      refine ih ((S t).2.2.1.length - (i + 1)) _ _ _ (by omega) ⟨i + 1, rfl, hlt, ?_, rfl, rfl⟩
      have e : sm rm' (i + 1) = sm rm' i + rm' i := rfl
      rw [e, nI_succ i, ← Int32.add_assoc]
  have lp2 : y = 20 → ∀ A, A = bu' + sm bal' 200 → ∀ n lo st w, (∃ i j : Nat, j = 3200 ∧ n = j - i ∧ i ≤ j ∧ lo = [some (.inr 0), some (.inl b), some (.inl (A + sm bd' i)), some (.inl (nI i)), none] ∧ st = [] ∧ w = mM kd ka kb kv kp bf kt0 bal' bd' pv' ra' rm' rd' pt' jl' ((nI N)) ((nI t)) ((nI t)) rc' bu' h' gn' 0) → m_W E 162 lo st w := by
    intro hy20 A hA
    refine m_loop (fun n lo st w hI ih => ?_)
    obtain ⟨i, j, hj, rfl, hi, rfl, rfl, rfl⟩ := hI
    refine m_walk C hT wf_Mo_sum [60, 138, 162, 186] 60 ?_
    refine And.intro (fun h1 => ?_) (fun h1 => ?_)
    · have e : i = 3200 := nI_lit (n := 3200) (by omega) (by omega) h1
      exact lp3 hy20 (A + sm bd' i) (by rw [hA, e]) _ _ _ _ ⟨0, rfl, Nat.zero_le _, by rw [← z0 (A + sm bd' i) rm']; first | done | rfl, rfl, rfl⟩
    · have hlt : i < 3200 := nI_lt_of (b := 3200) (by omega) (by omega) h1
      refine m_ix hlt ?_
      refine ih (j - (i + 1)) _ _ _ (by omega) ⟨i + 1, j, hj, rfl, by omega, ?_, rfl, rfl⟩
      have e : sm bd' (i + 1) = sm bd' i + bd' i := rfl
      rw [e, nI_succ i, ← Int32.add_assoc]
  have lp1 : y = 20 → ∀ n lo st w, (∃ i j : Nat, j = 200 ∧ n = j - i ∧ i ≤ j ∧ lo = [some (.inr 0), some (.inl b), some (.inl (bu' + sm bal' i)), some (.inl (nI i)), none] ∧ st = [] ∧ w = mM kd ka kb kv kp bf kt0 bal' bd' pv' ra' rm' rd' pt' jl' ((nI N)) ((nI t)) ((nI t)) rc' bu' h' gn' 0) → m_W E 138 lo st w := by
    intro hy20
    refine m_loop (fun n lo st w hI ih => ?_)
    obtain ⟨i, j, hj, rfl, hi, rfl, rfl, rfl⟩ := hI
    refine m_walk C hT wf_Mo_sum [60, 138, 162, 186] 60 ?_
    refine And.intro (fun h1 => ?_) (fun h1 => ?_)
    · have e : i = 200 := nI_lit (n := 200) (by omega) (by omega) h1
      exact lp2 hy20 (bu' + sm bal' i) (by rw [e]) _ _ _ _ ⟨0, 3200, rfl, rfl, by omega, by rw [← z0 (bu' + sm bal' i) bd']; first | done | rfl, rfl, rfl⟩
    · have hlt : i < 200 := nI_lt_of (b := 200) (by omega) (by omega) h1
      refine m_ix hlt ?_
      refine ih (j - (i + 1)) _ _ _ (by omega) ⟨i + 1, j, hj, rfl, by omega, ?_, rfl, rfl⟩
      have e : sm bal' (i + 1) = sm bal' i + bal' i := rfl
      rw [e, nI_succ i, ← Int32.add_assoc]
  refine And.intro (fun h3 => ?_) (fun h3 => ?_)
  · have hy16 : 16 ≤ y := by
      rw [hye] at h3
      exact nI_ge_of (b := 16) (by omega) (by omega) h3
    refine And.intro (fun h4 => ?_) (fun h4 => ?_)
    · have n16 := ne 16 (by omega) h4
      refine And.intro (fun h5 => ?_) (fun h5 => ?_)
      · have n17 := ne 17 (by omega) h5
        refine And.intro (fun h6 => ?_) (fun h6 => ?_)
        · have n18 := ne 18 (by omega) h6
          refine And.intro (fun h7 => ?_) (fun h7 => ?_)
          · have n19 := ne 19 (by omega) h7
            refine And.intro (fun h8 => ?_) (fun h8 => ?_)
            · have n21 := ne 21 (by omega) h8
              exact lp1 (by omega) _ _ _ _ ⟨0, 200, rfl, rfl, by omega, by rw [← z0 bu' bal']; first | done | rfl, rfl, rfl⟩
            · have e := eq 21 (by omega) h8
              exact go _ (by unfold a_sum; rw [if_neg (by omega), if_neg (by omega), if_neg (by omega), if_neg (by omega), if_neg (by omega), if_pos e, hH])
          · have e := eq 19 (by omega) h7
            refine m_c0 <| ct_mbonds_i ?_
            rw [RM_cnt hR]
            exact go _ (by unfold a_sum; rw [if_neg (by omega), if_neg (by omega), if_neg (by omega), if_neg (by omega), if_pos e])
        · have e := eq 18 (by omega) h6
          exact go _ (by unfold a_sum; rw [if_neg (by omega), if_neg (by omega), if_neg (by omega), if_pos e, hC])
      · have e := eq 17 (by omega) h5
        exact go _ (by unfold a_sum; rw [if_neg (by omega), if_neg (by omega), if_pos e, hU])
    · have e := eq 16 (by omega) h4
      exact lpb e 16 _ _ _ ⟨0, rfl, Nat.zero_le _, rfl, rfl, rfl⟩
  · have hlt : y < 16 := by
      rw [hye] at h3
      exact nI_lt_of (b := 16) (by omega) (by omega) h3
    refine m_c0 <| ct_mpow_j hye hlt ?_
    rw [RM_pw hR hlt]
    exact go _ (by unfold a_sum; rw [if_pos hlt])
