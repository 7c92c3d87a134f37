/-! What the model answers to questions: an account, a sum, a proposer, a share. -/
theorem ct_mpow_j {kd ka kb kv kp bf kt bal bd pv ra rm rd pt jl : Nat → Int32} {en nw wk rc bu h gn th : Int32} {n : Nat} {x : Int32} {K : Option mV → mW → Prop} (hx : x = nI n) (hn : n < 16) (hk : K (some (.inl (if jl n = 0 then sm (fun x => bd (16 * x + n)) 200 else 0))) (mM kd ka kb kv kp bf kt bal bd pv ra rm rd pt jl en nw wk rc bu h gn th)) : ct_mpow [.inr 0, .inl x] (mM kd ka kb kv kp bf kt bal bd pv ra rm rd pt jl en nw wk rc bu h gn th) K := by
  subst hx
  exact ct_mpow_i hn hk
noncomputable def q_c (c : Prop) (a b : qR) : qR := @ite _ c (Classical.propDecidable c) a b
theorem q_c_t {c : Prop} {a b : qR} (h : c) : q_c c a b = a := by unfold q_c; rw [if_pos h]
theorem q_c_f {c : Prop} {a b : qR} (h : ¬ c) : q_c c a b = b := by unfold q_c; rw [if_neg h]
def lg (l : List (Nat × Int32 × Int32)) (k : Nat) : Nat × Int32 × Int32 := l.getD k (0, 0, 0)
theorem lg_get {l : List (Nat × Int32 × Int32)} {k : Nat} (h : k < l.length) : l[k]? = some (lg l k) := by
  unfold lg
  rw [List.getD_eq_getElem?_getD, List.getElem?_eq_getElem h]
  rfl
def a_due (l : List (Nat × Int32 × Int32)) (x : Nat) : Int32 := sm (fun k => if (lg l k).1 = x then (lg l k).2.1 else 0) l.length
def a_tot (l : List (Nat × Int32 × Int32)) : Int32 := sm (fun k => (lg l k).2.1) l.length
theorem hd_due {l : List (Nat × Int32 × Int32)} {ra rm rd : Nat → Int32} (h : hd l ra rm rd) (hl : ∀ r ∈ l, r.1 < 200) {x : Nat} (hx : x < 200) : sm (fun k => if ra k = nI x then rm k else 0) l.length = a_due l x := by
  refine sm_congr (fun k hk => ?_)
  have hg := lg_get hk
  obtain ⟨e1, e2, e3⟩ := h k _ hg
  have hm : (lg l k).1 < 200 := hl _ (List.mem_of_getElem? hg)
  rw [e1, e2]
  by_cases e : (lg l k).1 = x
  · rw [if_pos (by rw [e]), if_pos e]
  · rw [if_neg (fun z => e ((nI_eq (by omega) (by omega)).mp z)), if_neg e]
theorem hd_tot {l : List (Nat × Int32 × Int32)} {ra rm rd : Nat → Int32} (h : hd l ra rm rd) : sm rm l.length = a_tot l := sm_congr (fun k hk => (h k _ (lg_get hk)).2.1)
def a_acc (s : aS) (x b : Nat) : Int32 := if b = 0 then s.1 x else if b < 17 then s.2.1 (16 * x + b - 1) else a_due s.2.2.1 x
noncomputable def q_account (s : aS) (a b : Int32) : qR := q_c (isR a 200) (q_c (isR b 18) (0, a_acc s (iN a) (iN b), none) (2, 0, none)) (1, 0, none)
def bI (jl : Nat → Bool) : Nat → Int32
  | 0 => 0
  | n + 1 => if jl n then bI jl n ||| ((1 : Int32) <<< (nI n &&& 31)) else bI jl n
def a_sum (s : aS) (b : Nat) : Int32 := if b < 16 then a_pw s b else if b = 16 then bI s.2.2.2.2.1 16 else if b = 17 then s.2.2.2.2.2.1 else if b = 18 then nI s.2.2.1.length else if b = 19 then a_cnt s else if b = 21 then s.2.2.2.2.2.2 else s.2.2.2.2.2.1 + sm s.1 200 + sm s.2.1 3200 + a_tot s.2.2.1
noncomputable def q_sum (s : aS) (b : Int32) : qR := q_c (isR b 22) (0, a_sum s (iN b), none) (1, 0, none)
def pf (s : aS) (m : Int32) : Nat → Nat → Int32
  | 0, _ => -1
  | k + 1, i => if m < sm (a_pw s) (i + 1) then nI i else pf s m k (i + 1)
def a_prop (s : aS) (a b : Int32) : Int32 := if sm (a_pw s) 16 = 0 then -1 else pf s ((131 * a + 307 * b) - (131 * a + 307 * b) / sm (a_pw s) 16 * sm (a_pw s) 16) 16 0
noncomputable def q_proposer (s : aS) (a b : Int32) : qR := q_c ((0 ≤ a ∧ a ≤ 1000000) ∧ (0 ≤ b ∧ b ≤ 1000000)) (0, a_prop s a b, none) (1, 0, none)
def a_pwm (s : aS) (m : Int32) : Nat → Int32 := sm (fun n => if (m >>> (nI n &&& 31)) &&& 1 = 1 then a_pw s n else 0)
def q_share (s : aS) (m : Int32) : qR := (0, if 2 * sm (a_pw s) 16 < 3 * a_pwm s m 16 then 2 else if sm (a_pw s) 16 < 3 * a_pwm s m 16 then 1 else 0, none)
def cn_account : mCT := fun as w K => ∃ N t S kt th0 a b, as = [.inr 0, .inl a, .inl b] ∧ MS N t S kt th0 w ∧ N ≤ 4200 ∧ ∀ w', MR N t S kt (q_account (S t) a b) w' → K (some (.inl (q_account (S t) a b).2.1)) w'
set_option maxHeartbeats 16000000 in
set_option maxRecDepth 20000 in
theorem x_Maccount : m_Met false y_Mo_account ws_Mo_account nw (rmk 4) cn_account := by
  refine m_Met_of (by decide +kernel) (fun as w K h => by obtain ⟨_, _, _, _, _, _, _, rfl, _⟩ := h; exact Nat.le_of_ble_eq_true rfl) ?_
  intro E as w K C hm hret hct
  obtain ⟨N, t, S, kt, th0, a, b, rfl, ⟨kd, ka, kb, kv, kp, bf, kt0, bal, bd, pv, ra, rm, rd, pt, jl, wk, rc, bu, h, gn, ops, pr, rfl, hN1, ht, hL, hW, hkt⟩, hN, hK⟩ := hct
  have hT : m_TOk E c_Mo_account R_Mo (false, fl_Mo, fp_Mo, [(98, 1000000)], [(1, 94, 3, ct_in3), (0, 91, 1, ct_work)], []) (m_Rt (some .int) K) := ⟨hm, get_Mo C, put_Mo C, cs_Mo C, (m_one (ca_Mo_94 (pb := true) C (fun h => nomatch h) c_min rfl rfl ⟨by decide, by decide⟩) (m_one (ca_Mo_91 (pb := false) C hm c_work rfl rfl ct_work_r ⟨by decide, by decide⟩) m_none)), m_none, hret⟩
  have main : ∀ x y : Nat, x < 200 → y < 18 → ∀ pt' bal' bd' pv' jl' ra' rm' rd' rc' bu' h' gn', RM (S t) bal' bd' pv' jl' ra' rm' rd' rc' bu' h' → a = nI x → b = nI y → (∀ w', MS N t S kt 0 w' → K (some (.inl (a_acc (S t) x y))) w') → y = 17 → ∀ n lo st w, (∃ i, n = (S t).2.2.1.length - i ∧ i ≤ (S t).2.2.1.length ∧ lo = [some (.inr 0), some (.inl a), some (.inl b), some (.inl (sm (fun k => if ra' k = nI x then rm' k else 0) i)), some (.inl (nI i))] ∧ st = [] ∧ w = mM kd ka kb kv kp bf kt0 bal' bd' pv' ra' rm' rd' pt' jl' ((nI N)) ((nI t)) ((nI t)) rc' bu' h' gn' 0) → m_W E 83 lo st w := by
    intro x y hx hy pt' bal' bd' pv' jl' ra' rm' rd' rc' bu' h' gn' hR ha hb hK' hy17
    obtain ⟨hI1, hI2⟩ := hL.2.1 t ht
    have hC : rc' = nI (S t).2.2.1.length := hR.2.2.2.1
    refine m_loop (fun n lo st w hI ih => ?_)
    obtain ⟨i, rfl, hi, rfl, rfl, rfl⟩ := hI
    refine m_walk C hT wf_Mo_account [83] 60 ?_
    refine And.intro (fun h1 => ?_) (fun h1 => ?_)
    · have : i = (S t).2.2.1.length := by
        rw [hC] at h1
        have := nI_ge_of (by omega) (by omega) h1
        omega
      subst this
      have h9 := hK' _ (MS_of (kt := kt) (kt0 := kt0) (th := 0) (pt := pt') (gn := gn') hN1 ht hL (.inl ⟨t, ht, rfl, hR⟩) hkt)
      have e : a_acc (S t) x y = sm (fun k => if ra' k = nI x then rm' k else 0) (S t).2.2.1.length := by
        rw [hd_due hR.2.2.1 hI2 hx]
        unfold a_acc
        rw [if_neg (by omega), if_neg (by omega)]
      rw [e] at h9
      exact h9
    · have hlt : i < (S t).2.2.1.length := by
        rw [hC] at h1
        exact nI_lt_of (by omega) (by omega) h1
      refine m_ix (by omega) (And.intro (fun h2 => ?_) (fun h2 => ?_))
      · refine ih ((S t).2.2.1.length - (i + 1)) _ _ _ (by omega) ⟨i + 1, rfl, hlt, ?_, rfl, rfl⟩
        have e : sm (fun k => if ra' k = nI x then rm' k else 0) (i + 1) = sm (fun k => if ra' k = nI x then rm' k else 0) i := by
          show _ + (if ra' i = nI x then rm' i else 0) = _
          rw [if_neg (ha ▸ h2), Int32.add_zero]
        rw [e, nI_succ i]
      · refine m_ix (by omega) ?_
        refine ih ((S t).2.2.1.length - (i + 1)) _ _ _ (by omega) ⟨i + 1, rfl, hlt, ?_, rfl, rfl⟩
        have e : sm (fun k => if ra' k = nI x then rm' k else 0) (i + 1) = sm (fun k => if ra' k = nI x then rm' k else 0) i + rm' i := by
          show _ + (if ra' i = nI x then rm' i else 0) = _
          rw [if_pos (ha ▸ h2)]
        rw [e, nI_succ i]
  refine m_walk C hT wf_Mo_account [83] 60 ?_
  refine m_c0 <| ct_in3_i (fun h1 => ?_) (fun h1 => ?_)
  · refine And.intro (fun _ => ?_) (fun z => absurd z (by decide))
    have g1 := (inR a 199 (by decide)).mp h1
    refine m_c0 <| ct_in3_i (fun h2 => ?_) (fun h2 => ?_)
    · refine And.intro (fun _ => ?_) (fun z => absurd z (by decide))
      have g2 := (inR b 17 (by decide)).mp h2
      refine And.intro (fun _ => ?_) (fun z => absurd (by decide) z)
      obtain ⟨x, hx, hxe⟩ := isR_nat (n := 200) (by decide) g1
      obtain ⟨y, hy, hye⟩ := isR_nat (n := 18) (by decide) g2
      have hK' : ∀ w', MS N t S kt 0 w' → K (some (.inl (a_acc (S t) x y))) w' := fun w' hw' => by
        have h9 := hK w'
        have ea : iN a = x := by rw [hxe]; exact iN_nI (by omega)
        have eb : iN b = y := by rw [hye]; exact iN_nI (by omega)
        simp only [q_account, q_c_t (show isR a 200 from g1), q_c_t (show isR b 18 from g2), ea, eb] at h9
        exact h9 hw'
      refine m_c0 <| ct_work_i hN ht hL hW (fun pt' bal' bd' pv' jl' ra' rm' rd' rc' bu' h' gn' hR _ => ?_)
      refine And.intro (fun h3 => ?_) (fun h3 => ?_)
      · have hy0 : ¬ y = 0 := fun z => h3 (by rw [hye, z]; rfl)
        refine And.intro (fun h4 => ?_) (fun h4 => ?_)
        · have hy17 : y = 17 := by
            rw [hye] at h4
            have := nI_ge_of (b := 17) (by omega) (by omega) h4
            omega
          exact main x y hx hy pt' bal' bd' pv' jl' ra' rm' rd' rc' bu' h' gn' hR hxe hye hK' hy17 _ _ _ _ ⟨0, rfl, Nat.zero_le _, rfl, rfl, rfl⟩
        · have hlt : y < 17 := by
            rw [hye] at h4
            exact nI_lt_of (b := 17) (by omega) (by omega) h4
          have e : (16 : Int32) * a + b - 1 = nI (16 * x + y - 1) := by
            rw [hxe, hye, ix16]
            obtain ⟨z, rfl⟩ : ∃ z, y = z + 1 := ⟨y - 1, by omega⟩
            rw [show 16 * x + (z + 1) - 1 = 16 * x + z by omega, ← Nat.add_assoc, nI_pred]
          refine m_ixe e (by omega) ?_
          have h9 := hK' _ (MS_of (kt := kt) (kt0 := kt0) (th := 0) (pt := pt') (gn := gn') hN1 ht hL (.inl ⟨t, ht, rfl, hR⟩) hkt)
          have e2 : a_acc (S t) x y = bd' (16 * x + y - 1) := by
            rw [hR.2.1 _ (show 16 * x + y - 1 < 3200 by omega)]
            unfold a_acc
            rw [if_neg hy0, if_pos hlt]
          rw [e2] at h9
          exact h9
      · have hy0 : y = 0 := (nI_eq (by omega) (by omega)).mp (hye.symm.trans h3)
        refine m_ixe hxe hx ?_
        have h9 := hK' _ (MS_of (kt := kt) (kt0 := kt0) (th := 0) (pt := pt') (gn := gn') hN1 ht hL (.inl ⟨t, ht, rfl, hR⟩) hkt)
        have e2 : a_acc (S t) x y = bal' x := by
          rw [hR.1 x hx]
          unfold a_acc
          rw [if_pos hy0]
        rw [e2] at h9
        exact h9
    · refine And.intro (fun z => absurd rfl z) (fun _ => ?_)
      refine And.intro (fun z => absurd z (by decide)) (fun _ => ?_)
      simp only [q_account, q_c_t (show isR a 200 from g1), q_c_f (show ¬ isR b 18 from fun z => h2 ((inR b 17 (by decide)).mpr z))] at hK
      exact hK _ (MS_of hN1 ht hL hW hkt)
  · refine And.intro (fun z => absurd rfl z) (fun _ => ?_)
    refine And.intro (fun z => absurd z (by decide)) (fun _ => ?_)
    simp only [q_account, q_c_f (show ¬ isR a 200 from fun z => h1 ((inR a 199 (by decide)).mpr z))] at hK
    exact hK _ (MS_of hN1 ht hL hW hkt)
def cn_share : mCT := fun as w K => ∃ N t S kt th0 m, as = [.inr 0, .inl m] ∧ MS N t S kt th0 w ∧ N ≤ 4200 ∧ ∀ w', MR N t S kt (q_share (S t) m) w' → K (some (.inl (q_share (S t) m).2.1)) w'
set_option maxHeartbeats 16000000 in
set_option maxRecDepth 20000 in
theorem x_Mshare : m_Met false y_Mo_share ws_Mo_share nw (rmk 4) cn_share := by
  refine m_Met_of (by decide +kernel) (fun as w K h => by obtain ⟨_, _, _, _, _, _, rfl, _⟩ := h; exact Nat.le_of_ble_eq_true rfl) ?_
  intro E as w K C hm hret hct
  obtain ⟨N, t, S, kt, th0, m, rfl, ⟨kd, ka, kb, kv, kp, bf, kt0, bal, bd, pv, ra, rm, rd, pt, jl, wk, rc, bu, h, gn, ops, pr, rfl, hN1, ht, hL, hW, hkt⟩, hN, hK⟩ := hct
  have hT : m_TOk E c_Mo_share R_Mo (false, fl_Mo, fp_Mo, [(98, 1000000)], [(0, 91, 1, ct_work), (0, 110, 2, ct_mpow)], []) (m_Rt (some .int) K) := ⟨hm, get_Mo C, put_Mo C, cs_Mo C, (m_one (ca_Mo_91 (pb := false) C hm c_work rfl rfl ct_work_r ⟨by decide, by decide⟩) (m_one (ca_Mo_110 (pb := true) C (fun h => nomatch h) c_mpow rfl rfl ct_mpow_r ⟨by decide, by decide⟩) m_none)), m_none, hret⟩
  refine m_walk C hT wf_Mo_share [16] 60 ?_
  refine m_c0 <| ct_work_i hN ht hL hW (fun pt' bal' bd' pv' jl' ra' rm' rd' rc' bu' h' gn' hR _ => ?_)
  have main : ∀ n lo st w, (∃ i, n = 16 - i ∧ i ≤ 16 ∧ lo = [some (.inr 0), some (.inl m), some (.inl (sm (a_pw (S t)) i)), some (.inl (a_pwm (S t) m i)), some (.inl (nI i))] ∧ st = [] ∧ w = mM kd ka kb kv kp bf kt0 bal' bd' pv' ra' rm' rd' pt' jl' ((nI N)) ((nI t)) ((nI t)) rc' bu' h' gn' 0) → m_W E 16 lo st w := by
    refine m_loop (fun n lo st w hI ih => ?_)
    obtain ⟨i, rfl, hi, rfl, rfl, rfl⟩ := hI
    refine m_walk C hT wf_Mo_share [16] 60 ?_
    refine And.intro (fun h1 => ?_) (fun h1 => ?_)
    · have : i = 16 := nI_lit (n := 16) (by omega) hi h1
      subst this
      have h9 := hK _ (MS_of (kt := kt) (kt0 := kt0) (th := 0) (pt := pt') (gn := gn') hN1 ht hL (.inl ⟨t, ht, rfl, hR⟩) hkt)
      simp only [q_share] at h9
      refine And.intro (fun h2 => ?_) (fun h2 => ?_)
      · rw [if_neg (Int32.not_lt.mpr h2)] at h9
        refine And.intro (fun h3 => ?_) (fun h3 => ?_)
        · rw [if_neg (Int32.not_lt.mpr h3)] at h9
          exact h9
        · rw [if_pos (Int32.not_le.mp h3)] at h9
          exact h9
      · rw [if_pos (Int32.not_le.mp h2)] at h9
        exact h9
    · have hlt : i < 16 := nI_lt_of (b := 16) (by omega) (by omega) h1
      refine m_c0 <| ct_mpow_i hlt ?_
      rw [RM_pw hR hlt]
      refine And.intro (fun h2 => ?_) (fun h2 => ?_)
      · refine ih (16 - (i + 1)) _ _ _ (by omega) ⟨i + 1, rfl, hlt, ?_, rfl, rfl⟩
        have e : a_pwm (S t) m (i + 1) = a_pwm (S t) m i := by
          show a_pwm (S t) m i + (if (m >>> (nI i &&& 31)) &&& 1 = 1 then a_pw (S t) i else 0) = _
          rw [if_neg h2, Int32.add_zero]
        rw [e, nI_succ i]
        rfl
      · refine m_c0 <| ct_mpow_i hlt ?_
        rw [RM_pw hR hlt]
        refine ih (16 - (i + 1)) _ _ _ (by omega) ⟨i + 1, rfl, hlt, ?_, rfl, rfl⟩
        have e : a_pwm (S t) m (i + 1) = a_pwm (S t) m i + a_pw (S t) i := by
          show a_pwm (S t) m i + (if (m >>> (nI i &&& 31)) &&& 1 = 1 then a_pw (S t) i else 0) = _
          rw [if_pos h2]
        rw [e, nI_succ i]
        rfl
  exact main 16 _ _ _ ⟨0, rfl, Nat.zero_le _, rfl, rfl, rfl⟩
def cn_proposer : mCT := fun as w K => ∃ N t S kt th0 a b, as = [.inr 0, .inl a, .inl b] ∧ MS N t S kt th0 w ∧ N ≤ 4200 ∧ ∀ w', MR N t S kt (q_proposer (S t) a b) w' → K (some (.inl (q_proposer (S t) a b).2.1)) w'
set_option maxHeartbeats 16000000 in
set_option maxRecDepth 20000 in
theorem x_Mproposer : m_Met false y_Mo_proposer ws_Mo_proposer nw (rmk 4) cn_proposer := by
  refine m_Met_of (by decide +kernel) (fun as w K h => by obtain ⟨_, _, _, _, _, _, _, rfl, _⟩ := h; exact Nat.le_of_ble_eq_true rfl) ?_
  intro E as w K C hm hret hct
  obtain ⟨N, t, S, kt, th0, a, b, rfl, ⟨kd, ka, kb, kv, kp, bf, kt0, bal, bd, pv, ra, rm, rd, pt, jl, wk, rc, bu, h, gn, ops, pr, rfl, hN1, ht, hL, hW, hkt⟩, hN, hK⟩ := hct
  have hT : m_TOk E c_Mo_proposer R_Mo (false, fl_Mo, fp_Mo, [(98, 1000000)], [(1, 94, 3, ct_in3), (0, 91, 1, ct_work), (0, 110, 2, ct_mpow)], []) (m_Rt (some .int) K) := ⟨hm, get_Mo C, put_Mo C, cs_Mo C, (m_one (ca_Mo_94 (pb := true) C (fun h => nomatch h) c_min rfl rfl ⟨by decide, by decide⟩) (m_one (ca_Mo_91 (pb := false) C hm c_work rfl rfl ct_work_r ⟨by decide, by decide⟩) (m_one (ca_Mo_110 (pb := true) C (fun h => nomatch h) c_mpow rfl rfl ct_mpow_r ⟨by decide, by decide⟩) m_none))), m_none, hret⟩
  have bad : ¬ ((0 ≤ a ∧ a ≤ 1000000) ∧ (0 ≤ b ∧ b ≤ 1000000)) → ∀ w', MS N t S kt 1 w' → K (some (.inl 0)) w' := by
    intro hb
    simp only [q_proposer, q_c_f hb] at hK
    exact hK
  have main : ((0 ≤ a ∧ a ≤ 1000000) ∧ (0 ≤ b ∧ b ≤ 1000000)) → ∀ pt' bal' bd' pv' jl' ra' rm' rd' rc' bu' h' gn', RM (S t) bal' bd' pv' jl' ra' rm' rd' rc' bu' h' → ∀ n lo st w, (∃ i, n = 16 - i ∧ i ≤ 16 ∧ lo = [some (.inr 0), some (.inl a), some (.inl b), some (.inl (sm (a_pw (S t)) i)), some (.inl 0), some (.inl (nI i)), none] ∧ st = [] ∧ w = mM kd ka kb kv kp bf kt0 bal' bd' pv' ra' rm' rd' pt' jl' ((nI N)) ((nI t)) ((nI t)) rc' bu' h' gn' 0) → m_W E 50 lo st w := by
    intro hb pt' bal' bd' pv' jl' ra' rm' rd' rc' bu' h' gn' hR
    simp only [q_proposer, q_c_t hb] at hK
    have h9 := hK _ (MS_of (kt := kt) (kt0 := kt0) (th := 0) (pt := pt') (gn := gn') hN1 ht hL (.inl ⟨t, ht, rfl, hR⟩) hkt)
    have lp2 : ¬ sm (a_pw (S t)) 16 = 0 → ∀ n lo st w, (∃ i, n = 16 - i ∧ i ≤ 16 ∧ lo = [some (.inr 0), some (.inl a), some (.inl b), some (.inl (sm (a_pw (S t)) 16)), some (.inl (sm (a_pw (S t)) i)), some (.inl ((131 * a + 307 * b) - (131 * a + 307 * b) / sm (a_pw (S t)) 16 * sm (a_pw (S t)) 16)), some (.inl (nI i))] ∧ st = [] ∧ w = mM kd ka kb kv kp bf kt0 bal' bd' pv' ra' rm' rd' pt' jl' ((nI N)) ((nI t)) ((nI t)) rc' bu' h' gn' 0 ∧ pf (S t) ((131 * a + 307 * b) - (131 * a + 307 * b) / sm (a_pw (S t)) 16 * sm (a_pw (S t)) 16) (16 - i) i = a_prop (S t) a b) → m_W E 96 lo st w := by
      intro hne
      refine m_loop (fun n lo st w hI ih => ?_)
      obtain ⟨i, rfl, hi, rfl, rfl, rfl, hp⟩ := hI
      refine m_walk C hT wf_Mo_proposer [50, 96] 60 ?_
      refine And.intro (fun h1 => ?_) (fun h1 => ?_)
      · have : i = 16 := nI_lit (n := 16) (by omega) hi h1
        subst this
        have e : a_prop (S t) a b = -1 := hp.symm
        rw [e] at h9
        exact h9
      · have hlt : i < 16 := nI_lt_of (b := 16) (by omega) (by omega) h1
        refine m_c0 <| ct_mpow_i hlt ?_
        rw [RM_pw hR hlt]
        have hs : 16 - i = (16 - (i + 1)) + 1 := by omega
        rw [hs] at hp
        refine And.intro (fun h2 => ?_) (fun h2 => ?_)
        · refine ih (16 - (i + 1)) _ _ _ (by omega) ⟨i + 1, rfl, hlt, ?_, rfl, rfl, ?_⟩
          · rw [nI_succ i]
            rfl
          · rw [← hp]
            show _ = if ((131 * a + 307 * b) - (131 * a + 307 * b) / sm (a_pw (S t)) 16 * sm (a_pw (S t)) 16) < sm (a_pw (S t)) (i + 1) then nI i else pf (S t) ((131 * a + 307 * b) - (131 * a + 307 * b) / sm (a_pw (S t)) 16 * sm (a_pw (S t)) 16) (16 - (i + 1)) (i + 1)
            rw [if_neg (show ¬ ((131 * a + 307 * b) - (131 * a + 307 * b) / sm (a_pw (S t)) 16 * sm (a_pw (S t)) 16) < sm (a_pw (S t)) (i + 1) from Int32.not_lt.mpr h2)]
        · have e : a_prop (S t) a b = nI i := by
            rw [← hp]
            show (if ((131 * a + 307 * b) - (131 * a + 307 * b) / sm (a_pw (S t)) 16 * sm (a_pw (S t)) 16) < sm (a_pw (S t)) (i + 1) then nI i else pf (S t) ((131 * a + 307 * b) - (131 * a + 307 * b) / sm (a_pw (S t)) 16 * sm (a_pw (S t)) 16) (16 - (i + 1)) (i + 1)) = _
            rw [if_pos (show ((131 * a + 307 * b) - (131 * a + 307 * b) / sm (a_pw (S t)) 16 * sm (a_pw (S t)) 16) < sm (a_pw (S t)) (i + 1) from Int32.not_le.mp h2)]
          rw [e] at h9
          exact h9
    refine m_loop (fun n lo st w hI ih => ?_)
    obtain ⟨i, rfl, hi, rfl, rfl, rfl⟩ := hI
    refine m_walk C hT wf_Mo_proposer [50, 96] 60 ?_
    refine And.intro (fun h1 => ?_) (fun h1 => ?_)
    · have : i = 16 := nI_lit (n := 16) (by omega) hi h1
      subst this
      refine And.intro (fun h2 => ?_) (fun h2 => ?_)
      · refine And.intro h2 ?_
        refine lp2 h2 16 _ _ _ ⟨0, rfl, Nat.zero_le _, rfl, rfl, rfl, ?_⟩
        unfold a_prop
        rw [if_neg h2]
      · have e : a_prop (S t) a b = -1 := by
          unfold a_prop
          rw [if_pos h2]
        rw [e] at h9
        exact h9
    · have hlt : i < 16 := nI_lt_of (b := 16) (by omega) (by omega) h1
      refine m_c0 <| ct_mpow_i hlt ?_
      rw [RM_pw hR hlt]
      refine ih (16 - (i + 1)) _ _ _ (by omega) ⟨i + 1, rfl, hlt, ?_, rfl, rfl⟩
      rw [nI_succ i]
      rfl
  refine m_walk C hT wf_Mo_proposer [50] 60 ?_
  refine m_c0 <| ct_in3_i (fun h1 => ?_) (fun h1 => ?_)
  · refine And.intro (fun z => absurd z (by decide)) (fun _ => ?_)
    refine m_c0 <| ct_in3_i (fun h2 => ?_) (fun h2 => ?_)
    · refine And.intro (fun z => absurd z (by decide)) (fun _ => ?_)
      refine And.intro (fun _ => ?_) (fun z => absurd (by decide) z)
      refine m_c0 <| ct_work_i hN ht hL hW (fun pt' bal' bd' pv' jl' ra' rm' rd' rc' bu' h' gn' hR _ => ?_)
      exact main ⟨h1, h2⟩ pt' bal' bd' pv' jl' ra' rm' rd' rc' bu' h' gn' hR 16 _ _ _ ⟨0, rfl, Nat.zero_le _, rfl, rfl, rfl⟩
    · refine And.intro (fun _ => ?_) (fun z => absurd rfl z)
      refine And.intro (fun z => absurd z (by decide)) (fun _ => ?_)
      exact bad (fun z => h2 z.2) _ (MS_of hN1 ht hL hW hkt)
  · refine And.intro (fun _ => ?_) (fun z => absurd rfl z)
    refine And.intro (fun z => absurd z (by decide)) (fun _ => ?_)
    exact bad (fun z => h1 z.1) _ (MS_of hN1 ht hL hW hkt)
