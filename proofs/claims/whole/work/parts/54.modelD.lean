/-! The model's public methods: what each answers, and what it does to the log. -/
def MS (N t : Nat) (S : Nat → aS) (kt : Nat → Nat) (th : Int32) (w : mW) : Prop := ∃ kd ka kb kv kp bf kt0 bal bd pv ra rm rd pt jl wk rc bu h gn ops pr, w = mM kd ka kb kv kp bf kt0 bal bd pv ra rm rd pt jl ((nI N)) ((nI t)) wk rc bu h gn th ∧ 1 ≤ N ∧ t < N ∧ LI N S ops pr kd ka kb kv kp bf ∧ WK N S wk bal bd pv jl ra rm rd rc bu h ∧ ∀ k, k < 8 → kt0 k = nI (kt k) ∧ kt k < N
theorem MS_of {kd ka kb kv kp bf kt0 bal bd pv ra rm rd pt jl : Nat → Int32} {wk rc bu h gn th : Int32} {N t : Nat} {S : Nat → aS} {kt : Nat → Nat} {ops : Nat → aO} {pr : Nat → Nat} (h1 : 1 ≤ N) (h2 : t < N) (h3 : LI N S ops pr kd ka kb kv kp bf) (h4 : WK N S wk bal bd pv jl ra rm rd rc bu h) (h5 : ∀ k, k < 8 → kt0 k = nI (kt k) ∧ kt k < N) : MS N t S kt th (mM kd ka kb kv kp bf kt0 bal bd pv ra rm rd pt jl ((nI N)) ((nI t)) wk rc bu h gn th) := ⟨kd, ka, kb, kv, kp, bf, kt0, bal, bd, pv, ra, rm, rd, pt, jl, wk, rc, bu, h, gn, ops, pr, rfl, h1, h2, h3, h4, h5⟩
theorem aI_step {o : aO} {s : aS} (h : aI s) (hok : a_ok o s) : aI (a_step o s) := by
  obtain ⟨k, x, y, v, q⟩ := o
  obtain ⟨bal, bd, rt, pv, jl, bu, hh⟩ := s
  obtain ⟨h1, h2⟩ := h
  obtain ⟨o1, o2, o3, o4, o5⟩ := hok
  match k, o1, o2, o5 with
  | 0, _, _, _ => exact ⟨h1, h2⟩
  | 1, _, _, _ => exact ⟨h1, h2⟩
  | 2, _, o2, o5 =>
    refine ⟨?_, fun r hr => ?_⟩
    · have := o5 rfl
      show (rt ++ [(x, v, hh + 4)]).length ≤ 32
      rw [List.length_append]
      exact this
    · have hr' : r ∈ rt ++ [(x, v, hh + 4)] := hr
      rcases List.mem_append.mp hr' with hr | hr
      · exact h2 r hr
      · rw [List.mem_singleton] at hr
        subst hr
        exact (o2 (by show 2 < 5; omega)).1
  | 3, _, _, _ => exact ⟨h1, h2⟩
  | 4, _, _, _ => exact ⟨h1, h2⟩
  | 5, _, _, _ => exact ⟨Nat.le_trans (List.length_filter_le _ _) h1, fun r hr => h2 r (List.mem_filter.mp hr).1⟩
theorem inR (a : Int32) (n : Nat) (hn : n + 1 < 2 ^ 31) : (0 ≤ a ∧ a ≤ nI n) ↔ isR a (nI (n + 1)) := by
  constructor
  · intro ⟨h1, h2⟩
    obtain ⟨x, hx, rfl⟩ := nI_of (Int32.not_lt.mpr h1)
    have := (nI_leI hx (by omega)).mp h2
    exact isR_of (by omega) hn
  · intro h
    obtain ⟨x, hx, rfl⟩ := isR_nat hn h
    exact ⟨h.1, (nI_leI (by omega) (by omega)).mpr (by omega)⟩
def iN (a : Int32) : Nat := a.toNatClampNeg
theorem iN_nI {x : Nat} (h : x < 2 ^ 31) : iN (nI x) = x := nI_clamp h
/-- what is thrown, what is answered, what is done -/
abbrev qR : Type := Nat × Int32 × Option aO
def MR (N t : Nat) (S : Nat → aS) (kt : Nat → Nat) (r : qR) (w : mW) : Prop := match r.2.2 with
  | none => MS N t S kt (nI r.1) w
  | some o => MS (N + 1) N (updS S N (a_step o (S t))) kt (nI r.1) w
def a_cnt (s : aS) : Int32 := sm (fun k => if s.2.1 k ≤ 0 then 0 else 1) 3200
noncomputable def q_of (c1 c2 : Prop) (o : aO) (x : Int32) : qR := @ite _ c1 (Classical.propDecidable c1) (@ite _ c2 (Classical.propDecidable c2) (0, x, some o) (2, 0, none)) (1, 0, none)
theorem q_of_0 {c1 c2 : Prop} {o : aO} {x : Int32} (h : ¬ c1) : q_of c1 c2 o x = (1, 0, none) := by unfold q_of; rw [if_neg h]
theorem q_of_1 {c1 c2 : Prop} {o : aO} {x : Int32} (h : c1) (h2 : ¬ c2) : q_of c1 c2 o x = (2, 0, none) := by unfold q_of; rw [if_pos h, if_neg h2]
theorem q_of_2 {c1 c2 : Prop} {o : aO} {x : Int32} (h : c1) (h2 : c2) : q_of c1 c2 o x = (0, x, some o) := by unfold q_of; rw [if_pos h, if_pos h2]
noncomputable def q_pay (s : aS) (a b v p : Int32) : qR := q_of (isR a 200 ∧ isR b 200 ∧ isR p 16 ∧ isV v) (affR s.1 (iN a) v p) (0, iN a, iN b, v, iN p) ((a_step (0, iN a, iN b, v, iN p) s).1 (iN a))
noncomputable def q_bond (s : aS) (a b v p : Int32) : qR := q_of (isR a 200 ∧ isR b 16 ∧ isR p 16 ∧ isV v) (affR s.1 (iN a) v p ∧ ¬ (s.2.1 (16 * iN a + iN b) = 0 ∧ a_cnt s = 96)) (1, iN a, iN b, v, iN p) ((a_step (1, iN a, iN b, v, iN p) s).2.1 (16 * iN a + iN b))
noncomputable def q_unbond (s : aS) (a b v p : Int32) : qR := q_of (isR a 200 ∧ isR b 16 ∧ isR p 16 ∧ isV v) (1 ≤ s.1 (iN a) ∧ v ≤ s.2.1 (16 * iN a + iN b) ∧ ¬ s.2.2.1.length = 32) (2, iN a, iN b, v, iN p) (nI ((a_step (2, iN a, iN b, v, iN p) s).2.2.1.length))
noncomputable def q_free (s : aS) (a b p : Int32) : qR := q_of (isR a 200 ∧ isR b 16 ∧ isR p 16) (1 ≤ s.1 (iN a) ∧ s.2.2.2.2.1 (iN b) = true) (3, iN a, iN b, 0, iN p) (a_pw (a_step (3, iN a, iN b, 0, iN p) s) (iN b))
noncomputable def q_prove (s : aS) (a b g p : Int32) : qR := q_of (isR a 200 ∧ isR b 16 ∧ isR p 16) (1 ≤ s.1 (iN a) ∧ g ≤ s.2.2.2.2.2.2 ∧ s.2.2.2.1 (iN b) < g) (4, iN a, iN b, g, iN p) (a_gone (4, iN a, iN b, g, iN p) s)
def q_next (s : aS) : qR := if s.2.2.2.2.2.2 = 1000000 then (1, 0, none) else (0, a_gone (5, 0, 0, 0, 0) s, some (5, 0, 0, 0, 0))
theorem cs_Mo {E : mE} {cc : ByteArray} {a0 : Jvm.Cond} {rm : Room} (C : m_Cx E cc R_Mo (a0 :: gw) nw rm) : ∀ q ∈ ([(98, 1000000)] : List (Nat × Int32)), m_CstOk E q.1 q.2 R_Mo := by
  obtain ⟨p, l, e, R, s, m, args, below, meth, c, cells, slots, Q, D, A, cI, cZ, ad, nL, N⟩ := E
  obtain ⟨hx, hb, hml, hown, hK, hD, hA, hts, hnw, hR, hc0, hs0⟩ := C
  exact m_one (hts _ (List.mem_cons_of_mem _ (m_ing (by decide +kernel) (by decide +kernel)))) m_none
theorem RM_pw {s : aS} {bal bd pv jl ra rm rd : Nat → Int32} {rc bu h : Int32} (hR : RM s bal bd pv jl ra rm rd rc bu h) {n : Nat} (hn : n < 16) : (if jl n = 0 then sm (fun x => bd (16 * x + n)) 200 else 0) = a_pw s n := by
  obtain ⟨r1, r2, r3, r4, r5, r6, r7, r8⟩ := hR
  unfold a_pw
  rw [r6 n hn, sm_congr (fun x hx => r2 (16 * x + n) (by omega))]
  cases s.2.2.2.2.1 n <;> rfl
theorem RM_cnt {s : aS} {bal bd pv jl ra rm rd : Nat → Int32} {rc bu h : Int32} (hR : RM s bal bd pv jl ra rm rd rc bu h) : sm (fun k => if bd k ≤ 0 then 0 else 1) 3200 = a_cnt s := by
  unfold a_cnt
  exact sm_congr (fun k hk => by rw [hR.2.1 k hk])
def cn_pay : mCT := fun as w K => ∃ N t S kt th0 a b v p, as = [.inr 0, .inl a, .inl b, .inl v, .inl p] ∧ MS N t S kt th0 w ∧ N < 4200 ∧ ∀ w', MR N t S kt (q_pay (S t) a b v p) w' → K (some (.inl (q_pay (S t) a b v p).2.1)) w'
set_option maxHeartbeats 16000000 in
set_option maxRecDepth 20000 in
theorem x_Mpay : m_Met false y_Mo_pay ws_Mo_pay nw (rmk 4) cn_pay := by
  refine m_Met_of (by decide +kernel) (fun as w K h => by obtain ⟨_, _, _, _, _, _, _, _, _, rfl, _⟩ := h; exact Nat.le_of_ble_eq_true rfl) ?_
  intro E as w K C hm hret hct
  obtain ⟨N, t, S, kt, th0, a, b, v, p, rfl, ⟨kd, ka, kb, kv, kp, bf, kt0, bal, bd, pv, ra, rm, rd, pt, jl, wk, rc, bu, h, gn, ops, pr, rfl, hN1, ht, hL, hW, hkt⟩, hN, hK⟩ := hct
  have hT : m_TOk E c_Mo_pay R_Mo (false, fl_Mo, fp_Mo, [(98, 1000000)], [(1, 94, 3, ct_in3), (0, 91, 1, ct_work), (0, 99, 4, ct_paid), (0, 102, 6, ct_change)], []) (m_Rt (some .int) K) := ⟨hm, get_Mo C, put_Mo C, cs_Mo C, (m_one (ca_Mo_94 (pb := true) C (fun h => nomatch h) c_min rfl rfl ⟨by decide, by decide⟩) (m_one (ca_Mo_91 (pb := false) C hm c_work rfl rfl ct_work_r ⟨by decide, by decide⟩) (m_one (ca_Mo_99 (pb := true) C (fun h => nomatch h) c_paid rfl rfl ct_paid_r ⟨by decide, by decide⟩) (m_one (ca_Mo_102 (pb := false) C hm c_change rfl rfl ct_change_r ⟨by decide, by decide⟩) m_none)))), m_none, hret⟩
  have bad : ¬ (isR a 200 ∧ isR b 200 ∧ isR p 16 ∧ isV v) → m_W E 49 [some (.inr 0), some (.inl a), some (.inl b), some (.inl v), some (.inl p)] [.inl 1, .inr 0] (mM kd ka kb kv kp bf kt0 bal bd pv ra rm rd pt jl ((nI N)) ((nI t)) wk rc bu h gn th0) := by
    intro hb
    simp only [q_pay, q_of_0 hb] at hK
    refine m_walk C hT wf_Mo_pay [] 60 ?_
    refine m_c0 <| ct_work_i (by omega) ht hL hW (fun pt' bal' bd' pv' jl' ra' rm' rd' rc' bu' h' gn' hR _ => ?_)
    refine And.intro (fun _ => ?_) (fun z => absurd z (by decide))
    refine And.intro (fun z => absurd z (by decide)) (fun _ => ?_)
    exact hK _ (MS_of hN1 ht hL (.inl ⟨t, ht, rfl, hR⟩) hkt)
  refine m_walk C hT wf_Mo_pay [49] 60 ?_
  refine m_c0 <| ct_in3_i (fun h0 => ?_) (fun h0 => And.intro (fun _ => bad (fun z => h0 ((inR a 199 (by decide)).mpr z.1))) (fun z => absurd rfl z))
  refine And.intro (fun z => absurd z (by decide)) (fun _ => ?_)
  refine m_c0 <| ct_in3_i (fun h1 => ?_) (fun h1 => And.intro (fun _ => bad (fun z => h1 ((inR b 199 (by decide)).mpr z.2.1))) (fun z => absurd rfl z))
  refine And.intro (fun z => absurd z (by decide)) (fun _ => ?_)
  refine m_c0 <| ct_in3_i (fun h2 => ?_) (fun h2 => And.intro (fun _ => bad (fun z => h2 ((inR p 15 (by decide)).mpr z.2.2.1))) (fun z => absurd rfl z))
  refine And.intro (fun z => absurd z (by decide)) (fun _ => ?_)
  refine m_c0 <| ct_in3_i (fun h3 => ?_) (fun h3 => And.intro (fun z => absurd rfl z) (fun _ => bad (fun z => h3 z.2.2.2)))
  refine And.intro (fun _ => ?_) (fun z => absurd z (by decide))
  have g0 := (inR a 199 (by decide)).mp h0
  have g1 := (inR b 199 (by decide)).mp h1
  have g2 := (inR p 15 (by decide)).mp h2
  have g3 : isV v := h3
  have hc1 : isR a 200 ∧ isR b 200 ∧ isR p 16 ∧ isV v := ⟨g0, g1, g2, g3⟩
  obtain ⟨x, hx, rfl⟩ := isR_nat (n := 200) (by decide) g0
  obtain ⟨y, hy, rfl⟩ := isR_nat (n := 200) (by decide) g1
  obtain ⟨q, hq, rfl⟩ := isR_nat (n := 16) (by decide) g2
  simp only [q_pay, iN_nI (show x < 2 ^ 31 by omega), iN_nI (show y < 2 ^ 31 by omega), iN_nI (show q < 2 ^ 31 by omega)] at hK
  refine m_walk C hT wf_Mo_pay [] 90 ?_
  refine m_c0 <| ct_work_i (by omega) ht hL hW (fun pt' bal' bd' pv' jl' ra' rm' rd' rc' bu' h' gn' hR _ => ?_)
  refine And.intro (fun z => absurd rfl z) (fun _ => ?_)
  have hA : ∀ u r, affR bal' x u r ↔ affR (S t).1 x u r := fun u r => by unfold affR; rw [hR.1 x hx]
  refine m_c0 <| ct_paid_i hx (fun hp => ?_) (fun hp => ?_)
  · rw [q_of_2 hc1 ((hA _ _).mp hp)] at hK
    refine And.intro (fun _ => ?_) (fun z => absurd z (by decide))
    refine And.intro (fun _ => ?_) (fun z => absurd (by decide) z)
    have hok : a_ok (0, x, y, v, q) (S t) := ⟨by show 0 ≤ 5; omega, fun _ => ⟨hx, hq⟩, fun _ => hy, fun z => absurd z (by show ¬ 1 ≤ 0; omega), fun z => absurd z (by show ¬ 0 = 2; omega)⟩
    refine m_c0 <| ct_change_i (0, x, y, v, q) rfl hN ht hL hR hok (aI_step (hL.2.1 t ht) hok) (fun kd1 ka1 kb1 kv1 kp1 bf1 pt1 bal1 bd1 pv1 jl1 ra1 rm1 rd1 rc1 bu1 h1 gn1 ops1 pr1 hL1 hR1 hg => ?_)
    have e2 : updS S N (a_step (0, x, y, v, q) (S t)) N = a_step (0, x, y, v, q) (S t) := by unfold updS; rw [if_pos rfl]
    have hms := MS_of (kt := kt) (th := 0) (gn := gn1) (pt := pt1) (kt0 := kt0) (show 1 ≤ N + 1 by omega) (Nat.lt_succ_self N) hL1 (.inl ⟨N, Nat.lt_succ_self N, rfl, by rw [e2]; exact hR1⟩) (fun k hk => ⟨(hkt k hk).1, by have := (hkt k hk).2; omega⟩)
    refine m_ix hx ?_
    rw [hR1.1 x hx]
    exact hK _ hms
  · rw [q_of_1 hc1 (fun z => hp ((hA _ _).mpr z))] at hK
    refine And.intro (fun z => absurd rfl z) (fun _ => ?_)
    exact And.intro (fun z => absurd z (by decide)) (fun _ => hK _ (MS_of hN1 ht hL (.inl ⟨t, ht, rfl, hR⟩) hkt))
def cn_bond : mCT := fun as w K => ∃ N t S kt th0 a b v p, as = [.inr 0, .inl a, .inl b, .inl v, .inl p] ∧ MS N t S kt th0 w ∧ N < 4200 ∧ ∀ w', MR N t S kt (q_bond (S t) a b v p) w' → K (some (.inl (q_bond (S t) a b v p).2.1)) w'
set_option maxHeartbeats 16000000 in
set_option maxRecDepth 20000 in
theorem x_Mbond : m_Met false y_Mo_bond ws_Mo_bond nw (rmk 4) cn_bond := by
  refine m_Met_of (by decide +kernel) (fun as w K h => by obtain ⟨_, _, _, _, _, _, _, _, _, rfl, _⟩ := h; exact Nat.le_of_ble_eq_true rfl) ?_
  intro E as w K C hm hret hct
  obtain ⟨N, t, S, kt, th0, a, b, v, p, rfl, ⟨kd, ka, kb, kv, kp, bf, kt0, bal, bd, pv, ra, rm, rd, pt, jl, wk, rc, bu, h, gn, ops, pr, rfl, hN1, ht, hL, hW, hkt⟩, hN, hK⟩ := hct
  have hT : m_TOk E c_Mo_bond R_Mo (false, fl_Mo, fp_Mo, [(98, 1000000)], [(1, 94, 3, ct_in3), (0, 91, 1, ct_work), (0, 99, 4, ct_paid), (0, 106, 1, ct_mbonds), (0, 102, 6, ct_change)], []) (m_Rt (some .int) K) := ⟨hm, get_Mo C, put_Mo C, cs_Mo C, (m_one (ca_Mo_94 (pb := true) C (fun h => nomatch h) c_min rfl rfl ⟨by decide, by decide⟩) (m_one (ca_Mo_91 (pb := false) C hm c_work rfl rfl ct_work_r ⟨by decide, by decide⟩) (m_one (ca_Mo_99 (pb := true) C (fun h => nomatch h) c_paid rfl rfl ct_paid_r ⟨by decide, by decide⟩) (m_one (ca_Mo_106 (pb := true) C (fun h => nomatch h) c_mbonds rfl rfl ct_mbonds_r ⟨by decide, by decide⟩) (m_one (ca_Mo_102 (pb := false) C hm c_change rfl rfl ct_change_r ⟨by decide, by decide⟩) m_none))))), m_none, hret⟩
  have bad : ¬ (isR a 200 ∧ isR b 16 ∧ isR p 16 ∧ isV v) → m_W E 48 [some (.inr 0), some (.inl a), some (.inl b), some (.inl v), some (.inl p)] [.inl 1, .inr 0] (mM kd ka kb kv kp bf kt0 bal bd pv ra rm rd pt jl ((nI N)) ((nI t)) wk rc bu h gn th0) := by
    intro hb
    simp only [q_bond, q_of_0 hb] at hK
    refine m_walk C hT wf_Mo_bond [] 60 ?_
    refine m_c0 <| ct_work_i (by omega) ht hL hW (fun pt' bal' bd' pv' jl' ra' rm' rd' rc' bu' h' gn' hR _ => ?_)
    refine And.intro (fun _ => ?_) (fun z => absurd z (by decide))
    refine And.intro (fun z => absurd z (by decide)) (fun _ => ?_)
    exact hK _ (MS_of hN1 ht hL (.inl ⟨t, ht, rfl, hR⟩) hkt)
  refine m_walk C hT wf_Mo_bond [48] 60 ?_
  refine m_c0 <| ct_in3_i (fun h0 => ?_) (fun h0 => And.intro (fun _ => bad (fun z => h0 ((inR a 199 (by decide)).mpr z.1))) (fun z => absurd rfl z))
  refine And.intro (fun z => absurd z (by decide)) (fun _ => ?_)
  refine m_c0 <| ct_in3_i (fun h1 => ?_) (fun h1 => And.intro (fun _ => bad (fun z => h1 ((inR b 15 (by decide)).mpr z.2.1))) (fun z => absurd rfl z))
  refine And.intro (fun z => absurd z (by decide)) (fun _ => ?_)
  refine m_c0 <| ct_in3_i (fun h2 => ?_) (fun h2 => And.intro (fun _ => bad (fun z => h2 ((inR p 15 (by decide)).mpr z.2.2.1))) (fun z => absurd rfl z))
  refine And.intro (fun z => absurd z (by decide)) (fun _ => ?_)
  refine m_c0 <| ct_in3_i (fun h3 => ?_) (fun h3 => And.intro (fun z => absurd rfl z) (fun _ => bad (fun z => h3 z.2.2.2)))
  refine And.intro (fun _ => ?_) (fun z => absurd z (by decide))
  have g0 := (inR a 199 (by decide)).mp h0
  have g1 := (inR b 15 (by decide)).mp h1
  have g2 := (inR p 15 (by decide)).mp h2
  have g3 : isV v := h3
  have hc1 : isR a 200 ∧ isR b 16 ∧ isR p 16 ∧ isV v := ⟨g0, g1, g2, g3⟩
  obtain ⟨x, hx, rfl⟩ := isR_nat (n := 200) (by decide) g0
  obtain ⟨y, hy, rfl⟩ := isR_nat (n := 16) (by decide) g1
  obtain ⟨q, hq, rfl⟩ := isR_nat (n := 16) (by decide) g2
  simp only [q_bond, iN_nI (show x < 2 ^ 31 by omega), iN_nI (show y < 2 ^ 31 by omega), iN_nI (show q < 2 ^ 31 by omega)] at hK
  refine m_walk C hT wf_Mo_bond [110] 90 ?_
  refine m_c0 <| ct_work_i (by omega) ht hL hW (fun pt' bal' bd' pv' jl' ra' rm' rd' rc' bu' h' gn' hR _ => ?_)
  refine And.intro (fun z => absurd rfl z) (fun _ => ?_)
  have hA : ∀ u r, affR bal' x u r ↔ affR (S t).1 x u r := fun u r => by unfold affR; rw [hR.1 x hx]
  have hB : bd' (16 * x + y) = (S t).2.1 (16 * x + y) := hR.2.1 _ (by omega)
  have good : affR (S t).1 x v (nI q) ∧ ¬ ((S t).2.1 (16 * x + y) = 0 ∧ a_cnt (S t) = 96) → m_W E 110 [some (.inr 0), some (.inl (nI x)), some (.inl (nI y)), some (.inl v), some (.inl (nI q))] [] (mM kd ka kb kv kp bf kt0 bal' bd' pv' ra' rm' rd' pt' jl' ((nI N)) ((nI t)) ((nI t)) rc' bu' h' gn' 0) := by
    intro hc
    rw [q_of_2 hc1 hc] at hK
    refine m_walk C hT wf_Mo_bond [] 90 ?_
    have hok : a_ok (1, x, y, v, q) (S t) := ⟨by show 1 ≤ 5; omega, fun _ => ⟨hx, hq⟩, fun z => absurd z (by show ¬ 1 = 0; omega), fun _ _ => hy, fun z => absurd z (by show ¬ 1 = 2; omega)⟩
    refine m_c0 <| ct_change_i (1, x, y, v, q) rfl hN ht hL hR hok (aI_step (hL.2.1 t ht) hok) (fun kd1 ka1 kb1 kv1 kp1 bf1 pt1 bal1 bd1 pv1 jl1 ra1 rm1 rd1 rc1 bu1 h1 gn1 ops1 pr1 hL1 hR1 hg => ?_)
    have e2 : updS S N (a_step (1, x, y, v, q) (S t)) N = a_step (1, x, y, v, q) (S t) := by unfold updS; rw [if_pos rfl]
    have hms := MS_of (kt := kt) (th := 0) (gn := gn1) (pt := pt1) (kt0 := kt0) (show 1 ≤ N + 1 by omega) (Nat.lt_succ_self N) hL1 (.inl ⟨N, Nat.lt_succ_self N, rfl, by rw [e2]; exact hR1⟩) (fun k hk => ⟨(hkt k hk).1, by have := (hkt k hk).2; omega⟩)
    refine m_ixe (ix16 x y) (by omega) ?_
    rw [hR1.2.1 _ (show 16 * x + y < 3200 by omega)]
    exact hK _ hms
  refine m_c0 <| ct_paid_i hx (fun hp => ?_) (fun hp => ?_)
  · refine And.intro (fun z => absurd z (by decide)) (fun _ => ?_)
    refine m_ixe (ix16 x y) (by omega) (And.intro (fun h5 => ?_) (fun h5 => ?_))
    · refine And.intro (fun _ => ?_) (fun z => absurd (by decide) z)
      exact good (⟨(hA _ _).mp hp, fun z => h5 (hB.trans z.1)⟩)
    · refine m_c0 <| ct_mbonds_i ?_
      rw [RM_cnt hR]
      refine And.intro (fun h6 => ?_) (fun h6 => ?_)
      · refine And.intro (fun _ => ?_) (fun z => absurd (by decide) z)
        exact good (⟨(hA _ _).mp hp, fun z => h6 z.2⟩)
      · rw [q_of_1 hc1 (fun z => z.2 ⟨hB.symm.trans h5, h6⟩)] at hK
        exact And.intro (fun z => absurd z (by decide)) (fun _ => hK _ (MS_of hN1 ht hL (.inl ⟨t, ht, rfl, hR⟩) hkt))
  · rw [q_of_1 hc1 (fun z => hp ((hA _ _).mpr z.1))] at hK
    refine And.intro (fun _ => ?_) (fun z => absurd rfl z)
    exact And.intro (fun z => absurd z (by decide)) (fun _ => hK _ (MS_of hN1 ht hL (.inl ⟨t, ht, rfl, hR⟩) hkt))
