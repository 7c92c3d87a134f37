/-! Each public method of the class, against the ledger as numbers. -/
set_option maxHeartbeats 2000000 in
theorem cy_pay {s : aS} {ex w : mW} {T : Nat} {a b v p : Int32} {K : Option mV → mW → Prop} {X : Nat → mW → Prop} (hR : RCw s ex w) (hI : IV T s) (hT : T ≤ 1000) (h1 : (q_pay s a b v p).1 = 1 → X 0 w) (h2 : (q_pay s a b v p).1 = 2 → X 1 w) (h0 : (q_pay s a b v p).1 = 0 → ∀ w', RCw (rs s (q_pay s a b v p)) ex w' → K (some (.inl (q_pay s a b v p).2.1)) w') : cx_pay [.inr 11, .inl a, .inl b, .inl v, .inl p] w K X := by
  obtain ⟨sb, sd, sr, sp, sj, su, sh⟩ := s
  obtain ⟨bal, o, nd, am, ro, ra, rd, pv, bc, rc, h, j, bu, rfl, L, c, rfl, eB, e3, e4, rfl, e6, eJ, rfl, rfl⟩ := hR
  obtain ⟨iJ, iH, iL, iA⟩ := hI
  refine ⟨bal, o, nd, am, ro, ra, rd, pv, _, _, _, j, _, ex, a, b, v, p, rfl, rfl, fun hb => h1 ?_, fun x y q hx hy hq hv ha hb hp => ?_⟩
  · unfold q_pay
    rw [q_of_0 (fun z => hb ⟨z.1, z.2.1, z.2.2.2, z.2.2.1⟩)]
  · subst ha; subst hb; subst hp
    have hc : isR (nI x) 200 ∧ isR (nI y) 200 ∧ isR (nI q) 16 ∧ isV v := ⟨isR_of hx (by decide), isR_of hy (by decide), isR_of hq (by decide), hv⟩
    have hA : affR bal x v (nI q) ↔ affR sb x v (nI q) := by unfold affR; rw [e3 x hx]
    simp only [q_pay, iN_nI (show x < 2 ^ 31 by omega), iN_nI (show y < 2 ^ 31 by omega), iN_nI (show q < 2 ^ 31 by omega)] at h2 h0
    refine ⟨fun hn => h2 (by rw [q_of_1 hc (fun z => hn (hA.mpr z))]), fun hn => ?_⟩
    rw [q_of_2 hc (hA.mp hn)] at h0
    have en : eqn 200 (a_pay (a_fee bal x q) x y v) (a_pay (a_fee sb x q) x y v) := eqn_pay (eqn_fee e3 hx (by omega)) hx hy
    have h9 := h0 rfl _ ⟨_, o, nd, am, ro, ra, rd, pv, _, _, _, j, _, rfl, L, c, rfl, eB, en, e4, rfl, e6, eJ, rfl, rfl⟩
    rw [en x hx]
    exact h9
set_option maxHeartbeats 2000000 in
theorem cy_next {s : aS} {ex w : mW} {T : Nat}  {K : Option mV → mW → Prop} {X : Nat → mW → Prop} (hR : RCw s ex w) (hI : IV T s) (hT : T ≤ 1000) (h1 : (q_next s).1 = 1 → X 1 w) (h0 : (q_next s).1 = 0 → ∀ w', RCw (rs s (q_next s)) ex w' → K (some (.inl (q_next s).2.1)) w') : cx_next [.inr 11] w K X := by
  obtain ⟨sb, sd, sr, sp, sj, su, sh⟩ := s
  obtain ⟨bal, o, nd, am, ro, ra, rd, pv, bc, rc, h, j, bu, rfl, L, c, rfl, eB, e3, e4, rfl, e6, eJ, rfl, rfl⟩ := hR
  obtain ⟨iJ, iH, iL, iA⟩ := hI
  refine ⟨bal, o, nd, am, ro, ra, rd, pv, _, sr, _, j, _, ex, rfl, rfl, iL, e4, iA, fun hn => h1 ?_, fun hn ro' ra' rd' hh => ?_⟩
  · have : h = 1000000 := Int32.le_antisymm iH (Int32.not_lt.mp hn)
    unfold q_next
    rw [if_pos this]
  · have hne : ¬ h = 1000000 := fun z => absurd hn (by rw [show h = 1000000 from z]; decide)
    simp only [q_next, if_neg hne] at h0
    have en : eqn 200 (a_rel (h + 1) sr bal) (a_rel (h + 1) sr sb) := eqn_rel iA e3
    exact h0 trivial _ ⟨_, o, nd, am, ro', ra', rd', pv, _, _, _, j, _, rfl, L, c, rfl, eB, en, hh, rfl, e6, eJ, rfl, rfl⟩
set_option maxHeartbeats 2000000 in
theorem cy_share {s : aS} {ex w : mW} {T : Nat} {b : Int32} {K : Option mV → mW → Prop} {X : Nat → mW → Prop} (hR : RCw s ex w) (hI : IV T s) (hT : T ≤ 1000) (h0 : (q_share s b).1 = 0 → ∀ w', RCw (rs s (q_share s b)) ex w' → K (some (.inl (q_share s b).2.1)) w') : cx_share [.inr 11, .inl b] w K X := by
  obtain ⟨sb, sd, sr, sp, sj, su, sh⟩ := s
  obtain ⟨bal, o, nd, am, ro, ra, rd, pv, bc, rc, h, j, bu, rfl, L, c, rfl, eB, e3, e4, rfl, e6, eJ, rfl, rfl⟩ := hR
  obtain ⟨iJ, iH, iL, iA⟩ := hI
  refine ⟨bal, o, nd, am, ro, ra, rd, pv, c, _, _, j, _, ex, b, rfl, rfl, eB.2.1, ?_⟩
  have h9 := h0 rfl _ ⟨_, o, nd, am, ro, ra, rd, pv, _, _, _, j, _, rfl, L, c, rfl, eB, e3, e4, rfl, e6, eJ, rfl, rfl⟩
  rw [RC_all (s := (sb, sd, sr, sp, sj, bu, h)) eB eJ, RC_pws (s := (sb, sd, sr, sp, sj, bu, h)) eB eJ]
  exact h9
set_option maxHeartbeats 2000000 in
theorem cy_account {s : aS} {ex w : mW} {T : Nat} {a b : Int32} {K : Option mV → mW → Prop} {X : Nat → mW → Prop} (hR : RCw s ex w) (hI : IV T s) (hT : T ≤ 1000) (h1 : (q_account s a b).1 = 1 → X 2 w) (h2 : (q_account s a b).1 = 2 → X 0 w) (h0 : (q_account s a b).1 = 0 → ∀ w', RCw (rs s (q_account s a b)) ex w' → K (some (.inl (q_account s a b).2.1)) w') : cx_account [.inr 11, .inl a, .inl b] w K X := by
  obtain ⟨sb, sd, sr, sp, sj, su, sh⟩ := s
  obtain ⟨bal, o, nd, am, ro, ra, rd, pv, bc, rc, h, j, bu, rfl, L, c, rfl, eB, e3, e4, rfl, e6, eJ, rfl, rfl⟩ := hR
  obtain ⟨iJ, iH, iL, iA⟩ := hI
  have hw : RCw (sb, sd, sr, sp, sj, bu, h) ex (lW bal o nd am ro ra rd pv (nI c) (nI sr.length) h j bu ex) := ⟨_, o, nd, am, ro, ra, rd, pv, _, _, _, j, _, rfl, L, c, rfl, eB, e3, e4, rfl, e6, eJ, rfl, rfl⟩
  refine ⟨bal, o, nd, am, ro, ra, rd, pv, c, sr.length, _, j, _, ex, a, b, rfl, rfl, eB.2.1, iL, fun hb => h1 ?_, fun x hx ha => ?_⟩
  · unfold q_account
    rw [q_c_f hb]
  · subst ha
    have g1 : isR (nI x) 200 := isR_of hx (by decide)
    refine ⟨fun hb => h2 ?_, ?_⟩
    · unfold q_account
      rw [q_c_t g1, q_c_f (show ¬ isR b 18 from fun z => hb ((inR b 17 (by decide)).mpr z))]
    · have go : ∀ y, y < 18 → b = nI y → K (some (.inl (a_acc (sb, sd, sr, sp, sj, bu, h) x y))) (lW bal o nd am ro ra rd pv (nI c) (nI sr.length) h j bu ex) := fun y hy hb => by
        subst hb
        have g2 : isR (nI y) 18 := isR_of hy (by decide)
        simp only [q_account, q_c_t g1, q_c_t g2, iN_nI (show x < 2 ^ 31 by omega), iN_nI (show y < 2 ^ 31 by omega)] at h0
        exact h0 trivial _ hw
      refine ⟨fun hb => ?_, fun hb => ?_, fun b1 b2 b3 b4 => ?_⟩
      · have h9 := go 0 (by omega) hb
        rw [e3 x hx]
        exact h9
      · have h9 := go 17 (by omega) hb
        rw [hd_due e4 iA hx]
        exact h9
      · obtain ⟨y, hy, rfl⟩ := isR_nat (n := 18) (by decide) ((inR b 17 (by decide)).mp ⟨b1, b2⟩)
        have hy0 : ¬ y = 0 := fun z => b3 (by rw [z]; rfl)
        have hy17 : ¬ y = 17 := fun z => b4 (by rw [z]; rfl)
        have h9 := go y hy rfl
        obtain ⟨z, rfl⟩ : ∃ z, y = z + 1 := ⟨y - 1, by omega⟩
        have ev : a_acc (sb, sd, sr, sp, sj, bu, h) x (z + 1) = sd (16 * x + z) := by
          unfold a_acc
          rw [if_neg hy0, if_pos (by omega)]
          rfl
        rw [ev] at h9
        rw [nI_pred]
        refine ⟨fun i hf => ?_, fun hf => ?_⟩
        · rw [(BC_fnd eB hx (by omega) hf).2.2.1]
          exact h9
        · rw [show sd (16 * x + z) = 0 from (BC_nfd eB hx (by omega) hf).2] at h9
          exact h9
set_option maxHeartbeats 2000000 in
theorem cy_sum {s : aS} {ex w : mW} {T : Nat} {b : Int32} {K : Option mV → mW → Prop} {X : Nat → mW → Prop} (hR : RCw s ex w) (hI : IV T s) (hT : T ≤ 1000) (h1 : (q_sum s b).1 = 1 → X 0 w) (h0 : (q_sum s b).1 = 0 → ∀ w', RCw (rs s (q_sum s b)) ex w' → K (some (.inl (q_sum s b).2.1)) w') : cx_sum [.inr 11, .inl b] w K X := by
  obtain ⟨sb, sd, sr, sp, sj, su, sh⟩ := s
  obtain ⟨bal, o, nd, am, ro, ra, rd, pv, bc, rc, h, j, bu, rfl, L, c, rfl, eB, e3, e4, rfl, e6, eJ, rfl, rfl⟩ := hR
  obtain ⟨iJ, iH, iL, iA⟩ := hI
  have hw : RCw (sb, sd, sr, sp, sj, bu, h) ex (lW bal o nd am ro ra rd pv (nI c) (nI sr.length) h j bu ex) := ⟨_, o, nd, am, ro, ra, rd, pv, _, _, _, j, _, rfl, L, c, rfl, eB, e3, e4, rfl, e6, eJ, rfl, rfl⟩
  have go : ∀ y v, y < 22 → b = nI y → a_sum (sb, sd, sr, sp, sj, bu, h) y = v → K (some (.inl v)) (lW bal o nd am ro ra rd pv (nI c) (nI sr.length) h j bu ex) := fun y v hy hb hv => by
    subst hb; subst hv
    have g2 : isR (nI y) 22 := isR_of hy (by decide)
    simp only [q_sum, q_c_t g2, iN_nI (show y < 2 ^ 31 by omega)] at h0
    exact h0 trivial _ hw
  refine ⟨bal, o, nd, am, ro, ra, rd, pv, c, sr.length, _, j, _, ex, b, rfl, rfl, eB.2.1, iL, fun hb => ?_, fun hb => go 16 _ (by omega) hb (JC_eq eJ).symm, fun hb => go 17 _ (by omega) hb rfl, fun hb => go 18 _ (by omega) hb rfl, fun hb => go 19 _ (by omega) hb (BC_cnt eB iJ.1).symm, fun hb => ?_, fun hb => go 21 _ (by omega) hb rfl, fun b1 b2 b3 b4 b5 b6 b7 => h1 ?_⟩
  · obtain ⟨y, hy, rfl⟩ := isR_nat (n := 16) (by decide) hb
    refine go y _ (by omega) rfl ?_
    rw [RC_pw (s := (sb, sd, sr, sp, sj, bu, h)) eB eJ hy]
    unfold a_sum
    rw [if_pos hy]
  · refine go 20 _ (by omega) hb ?_
    rw [BC_tot eB (fun v => v) rfl, hd_tot e4, sm_congr (n := 200) (fun k hk => e3 k hk)]
    show bu + sm sb 200 + sm sd 3200 + a_tot sr = _
    rw [i_add3 (bu + sm sb 200), i_add3 bu, Int32.add_assoc (bu + a_tot sr), Int32.add_assoc, Int32.add_comm (sm sb 200), ← Int32.add_assoc, ← Int32.add_assoc, i_add3 bu]
  · unfold q_sum
    rw [q_c_f]
    intro hb
    obtain ⟨y, hy, rfl⟩ := isR_nat (n := 22) (by decide) hb
    have ne : ∀ v : Nat, ¬ nI y = nI v → ¬ y = v := fun v h z => h (by rw [z])
    have n16 := ne 16 b2
    have n17 := ne 17 b3
    have n18 := ne 18 b4
    have n19 := ne 19 b5
    have n20 := ne 20 b6
    have n21 := ne 21 b7
    exact b1 (isR_of (show y < 16 by omega) (by decide))
theorem pf_found {s : aS} {m : Int32} {n : Nat} (h1 : m < sm (a_pw s) (n + 1)) (h2 : ∀ k, k < n → ¬ m < sm (a_pw s) (k + 1)) : ∀ (d f i : Nat), i + d = n → d < f → pf s m f i = nI n
  | 0, 0, _, _, h => absurd h (Nat.lt_irrefl 0)
  | 0, f + 1, i, e, _ => by
    have : i = n := by omega
    subst this
    show (if m < sm (a_pw s) (i + 1) then nI i else _) = _
    rw [if_pos h1]
  | d + 1, 0, _, _, h => absurd h (Nat.not_lt_zero _)
  | d + 1, f + 1, i, e, h => by
    show (if m < sm (a_pw s) (i + 1) then nI i else pf s m f (i + 1)) = _
    rw [if_neg (h2 i (by omega))]
    exact pf_found h1 h2 d f (i + 1) (by omega) (by omega)
theorem pf_none {s : aS} {m : Int32} {n : Nat} (h2 : ∀ k, k < n → ¬ m < sm (a_pw s) (k + 1)) : ∀ (f i : Nat), i + f = n → pf s m f i = -1
  | 0, _, _ => rfl
  | f + 1, i, e => by
    show (if m < sm (a_pw s) (i + 1) then nI i else pf s m f (i + 1)) = _
    rw [if_neg (h2 i (by omega))]
    exact pf_none h2 f (i + 1) (by omega)
set_option maxHeartbeats 2000000 in
theorem cy_proposer {s : aS} {ex w : mW} {T : Nat} {a b : Int32} {K : Option mV → mW → Prop} {X : Nat → mW → Prop} (hR : RCw s ex w) (hI : IV T s) (hT : T ≤ 1000) (h1 : (q_proposer s a b).1 = 1 → X 0 w) (h0 : (q_proposer s a b).1 = 0 → ∀ w', RCw (rs s (q_proposer s a b)) ex w' → K (some (.inl (q_proposer s a b).2.1)) w') : cx_proposer [.inr 11, .inl a, .inl b] w K X := by
  obtain ⟨sb, sd, sr, sp, sj, su, sh⟩ := s
  obtain ⟨bal, o, nd, am, ro, ra, rd, pv, bc, rc, h, j, bu, rfl, L, c, rfl, eB, e3, e4, rfl, e6, eJ, rfl, rfl⟩ := hR
  obtain ⟨iJ, iH, iL, iA⟩ := hI
  have hw : RCw (sb, sd, sr, sp, sj, bu, h) ex (lW bal o nd am ro ra rd pv (nI c) (nI sr.length) h j bu ex) := ⟨_, o, nd, am, ro, ra, rd, pv, _, _, _, j, _, rfl, L, c, rfl, eB, e3, e4, rfl, e6, eJ, rfl, rfl⟩
  have hnn := a_all_nn (s := (sb, sd, sr, sp, sj, bu, h)) ⟨iJ, iH, iL, iA⟩ hT
  refine ⟨bal, o, nd, am, ro, ra, rd, pv, c, _, _, j, _, ex, a, b, rfl, rfl, eB.2.1, fun hb => h1 ?_, fun a1 a2 b1 b2 => ?_⟩
  · unfold q_proposer
    rw [q_c_f (fun z => hb ⟨z.1.1, z.1.2, z.2.1, z.2.2⟩)]
  · have go : ∀ v, a_prop (sb, sd, sr, sp, sj, bu, h) a b = v → K (some (.inl v)) (lW bal o nd am ro ra rd pv (nI c) (nI sr.length) h j bu ex) := fun v hv => by
      subst hv
      simp only [q_proposer, q_c_t (show (0 ≤ a ∧ a ≤ 1000000) ∧ (0 ≤ b ∧ b ≤ 1000000) from ⟨⟨a1, a2⟩, b1, b2⟩)] at h0
      exact h0 trivial _ hw
    have hs : ∀ n, n ≤ 16 → sm (fun k => pwR nd am c j (nI k)) n = sm (a_pw (sb, sd, sr, sp, sj, bu, h)) n := fun n hn => sm_congr (fun k hk => RC_pw (s := (sb, sd, sr, sp, sj, bu, h)) eB eJ (by omega))
    rw [RC_all (s := (sb, sd, sr, sp, sj, bu, h)) eB eJ]
    generalize hall : sm (a_pw (sb, sd, sr, sp, sj, bu, h)) 16 = all at hnn ⊢
    have hz : ¬ 0 < all → all = 0 := fun hn => by
      have this : ¬ (0 : Int32).toInt < all.toInt := fun z => hn (Int32.lt_iff_toInt_lt.mpr z)
      have z0 : (0 : Int32).toInt = 0 := rfl
      rw [z0] at this
      exact Int32.toInt_inj.mp (by rw [z0]; omega)
    refine ⟨fun hn => go _ ?_, fun hp => ⟨fun n hn h3 h4 => go _ ?_, fun h4 => go _ ?_⟩⟩
    · unfold a_prop
      rw [hall, if_pos (hz hn)]
    · unfold a_prop
      rw [hall, if_neg (fun z => absurd hp (by rw [z]; decide))]
      rw [hs (n + 1) (by omega)] at h3
      exact pf_found h3 (fun k hk => by have := h4 k hk; rw [hs (k + 1) (by omega)] at this; exact this) n 16 0 (by omega) hn
    · unfold a_prop
      rw [hall, if_neg (fun z => absurd hp (by rw [z]; decide))]
      exact pf_none (n := 16) (fun k hk => by have := h4 k hk; rw [hs (k + 1) (by omega)] at this; exact this) 16 0 rfl
