/-! The model's log: working out a state, and a change. -/
def LI (N : Nat) (S : Nat → aS) (ops : Nat → aO) (pr : Nat → Nat) (kd ka kb kv kp bf : Nat → Int32) : Prop :=
  S 0 = a_0 ∧ (∀ e, e < N → aI (S e)) ∧ ∀ e, 1 ≤ e → e < N → lgAt kd ka kb kv kp e (ops e) ∧ bf e = nI (pr e) ∧ pr e < e ∧ a_ok (ops e) (S (pr e)) ∧ S e = a_step (ops e) (S (pr e))
def WK (N : Nat) (S : Nat → aS) (wk : Int32) (bal bd pv jl ra rm rd : Nat → Int32) (rc bu h : Int32) : Prop := (∃ u, u < N ∧ wk = nI u ∧ RM (S u) bal bd pv jl ra rm rd rc bu h) ∨ wk = -1
def Pc (pr : Nat → Nat) (t : Nat) : Nat → Nat
  | 0 => t
  | i + 1 => pr (Pc pr t i)
def updS (S : Nat → aS) (n : Nat) (s : aS) : Nat → aS := fun i => if i = n then s else S i
theorem ct_done_j {kd ka kb kv kp bf kt bal bd pv ra rm rd pt jl : Nat → Int32} {en nw wk rc bu h gn th : Int32} {x : Int32} {e : Nat} {o : aO} {s : aS} {K : Option mV → mW → Prop} (hx : x = nI e) (h1 : e < 4200) (h2 : lgAt kd ka kb kv kp e o) (h3 : a_ok o s) (h4 : aI s) (h5 : RM s bal bd pv jl ra rm rd rc bu h) (h6 : ∀ bal' bd' pv' jl' ra' rm' rd' rc' bu' h' gn', RM (a_step o s) bal' bd' pv' jl' ra' rm' rd' rc' bu' h' → ((o.1 = 4 ∨ o.1 = 5) → gn' = a_gone o s) → K none (mM kd ka kb kv kp bf kt bal' bd' pv' ra' rm' rd' pt jl' en nw wk rc' bu' h' gn' th)) : ct_done [.inr 0, .inl x] (mM kd ka kb kv kp bf kt bal bd pv ra rm rd pt jl en nw wk rc bu h gn th) K := by
  subst hx
  exact ct_done_i h1 h2 h3 h4 h5 h6
def ct_work : mCT := fun as w K => ∃ kd ka kb kv kp bf kt bal bd pv ra rm rd pt jl en wk rc bu h gn th N t S ops pr, as = [.inr 0] ∧ w = mM kd ka kb kv kp bf kt bal bd pv ra rm rd pt jl en (nI t) wk rc bu h gn th ∧ N ≤ 4200 ∧ t < N ∧ LI N S ops pr kd ka kb kv kp bf ∧ WK N S wk bal bd pv jl ra rm rd rc bu h ∧ ∀ pt' (bal' bd' pv' jl' ra' rm' rd' : Nat → Int32) (rc' bu' h' : Int32) gn', RM (S t) bal' bd' pv' jl' ra' rm' rd' rc' bu' h' → (1 ≤ t → ¬ wk = nI t → ((ops t).1 = 4 ∨ (ops t).1 = 5) → gn' = a_gone (ops t) (S (pr t))) → K none (mM kd ka kb kv kp bf kt bal' bd' pv' ra' rm' rd' pt' jl' en (nI t) (nI t) rc' bu' h' gn' th)
theorem ct_work_i {kd ka kb kv kp bf kt bal bd pv ra rm rd pt jl : Nat → Int32} {en wk rc bu h gn th : Int32} {N t : Nat} {S : Nat → aS} {ops : Nat → aO} {pr : Nat → Nat} {K : Option mV → mW → Prop} (h1 : N ≤ 4200) (h2 : t < N) (h3 : LI N S ops pr kd ka kb kv kp bf) (h4 : WK N S wk bal bd pv jl ra rm rd rc bu h) (h5 : ∀ pt' (bal' bd' pv' jl' ra' rm' rd' : Nat → Int32) (rc' bu' h' : Int32) gn', RM (S t) bal' bd' pv' jl' ra' rm' rd' rc' bu' h' → (1 ≤ t → ¬ wk = nI t → ((ops t).1 = 4 ∨ (ops t).1 = 5) → gn' = a_gone (ops t) (S (pr t))) → K none (mM kd ka kb kv kp bf kt bal' bd' pv' ra' rm' rd' pt' jl' en (nI t) (nI t) rc' bu' h' gn' th)) : ct_work [.inr 0] (mM kd ka kb kv kp bf kt bal bd pv ra rm rd pt jl en (nI t) wk rc bu h gn th) K := ⟨kd, ka, kb, kv, kp, bf, kt, bal, bd, pv, ra, rm, rd, pt, jl, en, wk, rc, bu, h, gn, th, N, t, S, ops, pr, rfl, rfl, h1, h2, h3, h4, h5⟩
theorem ct_work_r : ∀ as w K, ct_work as w K → ∃ a r fs, as = .inr a :: r ∧ w[a]? = some (.inr (4, fs)) := by
  intro as w K h
  obtain ⟨_, _, _, _, _, _, _, _, _, _, _, _, _, _, _, _, _, _, _, _, _, _, _, _, _, _, _, rfl, rfl, _⟩ := h
  exact ⟨0, _, _, rfl, rfl⟩
set_option maxHeartbeats 16000000 in
set_option maxRecDepth 20000 in
theorem c_work : m_Met false y_Mo_work ws_Mo_work nw (rmk 2) ct_work := by
  refine m_Met_of (by decide +kernel) (fun as w K h => by obtain ⟨_, _, _, _, _, _, _, _, _, _, _, _, _, _, _, _, _, _, _, _, _, _, _, _, _, _, _, rfl, _⟩ := h; exact Nat.le_of_ble_eq_true rfl) ?_
  intro E as w K C hm hret hct
  obtain ⟨kd, ka, kb, kv, kp, bf, kt, bal, bd, pv, ra, rm, rd, pt, jl, en, wk, rc, bu, h, gn, th, N, t, S, ops, pr, rfl, rfl, hN, ht, ⟨hS0, haI, hL⟩, hW, hK⟩ := hct
  have hT : m_TOk E c_Mo_work R_Mo (false, fl_Mo, fp_Mo, [], [(0, 78, 1, ct_first), (0, 81, 2, ct_done)], []) (m_Rt none K) := ⟨hm, get_Mo C, put_Mo C, m_none, m_one (ca_Mo_78 (pb := false) C hm c_first rfl rfl ct_first_r ⟨by decide, by decide⟩) (m_one (ca_Mo_81 (pb := false) C hm c_done rfl rfl ct_done_r ⟨by decide, by decide⟩) m_none), m_none, hret⟩
  have loop2 : ∀ n pt', (∀ i, i < n → pt' i = nI (Pc pr t i) ∧ 1 ≤ Pc pr t i ∧ Pc pr t i < N) → n < 4200 → (n = 0 → t = 0 ∨ wk = nI t) → ∀ z lo st w, (∃ bal' bd' pv' jl' ra' rm' rd' rc' bu' h' gn' wk', z ≤ n ∧ lo = [some (.inr 0), some (.inl (nI n)), some (.inl (nI (Pc pr t n))), some (.inl (nI z - 1))] ∧ st = [] ∧ w = mM kd ka kb kv kp bf kt bal' bd' pv' ra' rm' rd' pt' jl' en (nI t) wk' rc' bu' h' gn' th ∧ RM (S (Pc pr t z)) bal' bd' pv' jl' ra' rm' rd' rc' bu' h' ∧ (z < n → ((ops (Pc pr t z)).1 = 4 ∨ (ops (Pc pr t z)).1 = 5) → gn' = a_gone (ops (Pc pr t z)) (S (pr (Pc pr t z))))) → m_W E 55 lo st w := by
    intro n pt' hpt hn42 hn0
    refine m_loop (fun z lo st w hI ih => ?_)
    obtain ⟨bal', bd', pv', jl', ra', rm', rd', rc', bu', h', gn', wk', hz, rfl, rfl, rfl, hRM, hg⟩ := hI
    refine m_walk C hT wf_Mo_work [7, 39, 51, 55] 60 ?_
    refine And.intro (fun h1 => ?_) (fun h1 => ?_)
    · have hz0 : z = 0 := by
        rcases Nat.eq_zero_or_pos z with h | h
        · exact h
        · obtain ⟨i, rfl⟩ : ∃ i, z = i + 1 := ⟨z - 1, by omega⟩
          rw [nI_pred] at h1
          exact absurd h1 (nI_pos (by omega))
      subst hz0
      refine hK pt' bal' bd' pv' jl' ra' rm' rd' rc' bu' h' gn' hRM (fun h2 h3 h4 => hg ?_ h4)
      rcases Nat.eq_zero_or_pos n with h | h
      · rcases hn0 h with h5 | h5
        · omega
        · exact absurd h5 h3
      · exact h
    · obtain ⟨i, rfl⟩ : ∃ i, z = i + 1 := by
        rcases Nat.eq_zero_or_pos z with h | h
        · subst h
          exact absurd (by decide) h1
        · exact ⟨z - 1, by omega⟩
      obtain ⟨p1, p2, p3⟩ := hpt i (by omega)
      obtain ⟨q1, q2, q3, q4, q5⟩ := hL _ p2 p3
      refine m_ixe (nI_pred i) (by omega) ?_
      refine m_c0 <| ct_done_j p1 (by omega) q1 q4 (haI _ (by omega)) hRM (fun bal2 bd2 pv2 jl2 ra2 rm2 rd2 rc2 bu2 h2 gn2 hR2 hg2 => ?_)
      refine ih i _ _ _ (by omega) ⟨bal2, bd2, pv2, jl2, ra2, rm2, rd2, rc2, bu2, h2, gn2, wk', by omega, ?_, rfl, rfl, ?_, fun _ h4 => hg2 h4⟩
      · rw [nI_pred, Int32.sub_eq_add_neg]
      · rw [q5]
        exact hR2
  have at51 : ∀ n pt', (∀ i, i < n → pt' i = nI (Pc pr t i) ∧ 1 ≤ Pc pr t i ∧ Pc pr t i < N) → n < 4200 → (n = 0 → t = 0 ∨ wk = nI t) → ∀ (bal' bd' pv' jl' ra' rm' rd' : Nat → Int32) (rc' bu' h' : Int32) gn' wk', RM (S (Pc pr t n)) bal' bd' pv' jl' ra' rm' rd' rc' bu' h' → m_W E 51 [some (.inr 0), some (.inl (nI n)), some (.inl (nI (Pc pr t n))), none] [] (mM kd ka kb kv kp bf kt bal' bd' pv' ra' rm' rd' pt' jl' en (nI t) wk' rc' bu' h' gn' th) := by
    intro n pt' hpt hn42 hn0 bal' bd' pv' jl' ra' rm' rd' rc' bu' h' gn' wk' hRM
    refine m_walk C hT wf_Mo_work [7, 39, 51, 55] 60 ?_
    exact loop2 n pt' hpt hn42 hn0 n _ _ _ ⟨bal', bd', pv', jl', ra', rm', rd', rc', bu', h', gn', wk', Nat.le_refl n, rfl, rfl, rfl, hRM, fun h => absurd h (Nat.lt_irrefl n)⟩
  have at39 : ∀ n pt', (∀ i, i < n → pt' i = nI (Pc pr t i) ∧ 1 ≤ Pc pr t i ∧ Pc pr t i < N) → n < 4200 → Pc pr t n < N → (nI (Pc pr t n) = wk ∨ Pc pr t n = 0) → m_W E 39 [some (.inr 0), some (.inl (nI n)), some (.inl (nI (Pc pr t n))), none] [] (mM kd ka kb kv kp bf kt bal bd pv ra rm rd pt' jl en (nI t) wk rc bu h gn th) := by
    intro n pt' hpt hn42 hPN hend
    have hn0 : n = 0 → t = 0 ∨ wk = nI t := by
      intro h
      subst h
      rcases hend with h | h
      · exact .inr h.symm
      · exact .inl h
    refine m_walk C hT wf_Mo_work [7, 39, 51, 55] 60 ?_
    refine And.intro (fun h1 => ?_) (fun h1 => ?_)
    · rcases hW with ⟨u, hu, hwk, hRM⟩ | hwk
      · have : u = Pc pr t n := by
          rw [hwk] at h1
          exact ((nI_eq (by omega) (by omega)).mp h1).symm
        subst this
        exact at51 n pt' hpt hn42 hn0 _ _ _ _ _ _ _ _ _ _ _ _ hRM
      · rw [hwk] at h1
        exact absurd (nI_pos' (show Pc pr t n < 2 ^ 31 by omega)) (by rw [h1]; decide)
    · have h0 : Pc pr t n = 0 := by
        rcases hend with h | h
        · exact absurd h h1
        · exact h
      refine m_c0 <| ct_first_i (fun bal' bd' pv' jl' hRM => ?_)
      refine at51 n pt' hpt hn42 hn0 _ _ _ _ _ _ _ _ _ _ _ _ ?_
      rw [h0, hS0]
      exact hRM
  have loop1 : ∀ z lo st w, (∃ n pt', z = Pc pr t n ∧ Pc pr t n + n ≤ t ∧ lo = [some (.inr 0), some (.inl (nI n)), some (.inl (nI (Pc pr t n))), none] ∧ st = [] ∧ w = mM kd ka kb kv kp bf kt bal bd pv ra rm rd pt' jl en (nI t) wk rc bu h gn th ∧ ∀ i, i < n → pt' i = nI (Pc pr t i) ∧ 1 ≤ Pc pr t i ∧ Pc pr t i < N) → m_W E 7 lo st w := by
    refine m_loop (fun z lo st w hI ih => ?_)
    obtain ⟨n, pt', rfl, hle, rfl, rfl, rfl, hpt⟩ := hI
    refine m_walk C hT wf_Mo_work [7, 39, 51, 55] 60 ?_
    refine And.intro (fun h1 => ?_) (fun h1 => ?_)
    · exact at39 n pt' hpt (by omega) (by omega) (.inl h1)
    · refine And.intro (fun h2 => ?_) (fun h2 => ?_)
      · have h0 : Pc pr t n = 0 := by
          have := (nI_leI (a := Pc pr t n) (b := 0) (by omega) (by omega)).mp h2
          omega
        exact at39 n pt' hpt (by omega) (by omega) (.inr h0)
      · have h0 : 1 ≤ Pc pr t n := by
          rcases Nat.eq_zero_or_pos (Pc pr t n) with h | h
          · rw [h] at h2
            exact absurd (by decide) h2
          · exact h
        obtain ⟨q1, q2, q3, q4, q5⟩ := hL _ h0 (by omega)
        refine m_ix (by omega) (m_ix (by omega) ?_)
        have hp1 : Pc pr t (n + 1) = pr (Pc pr t n) := rfl
        refine ih (Pc pr t (n + 1)) _ _ _ (by omega) ⟨n + 1, upd pt' n (nI (Pc pr t n)), rfl, by omega, ?_, rfl, rfl, fun i hi => ?_⟩
        · rw [nI_succ n, hp1, ← q2]
        · by_cases e : i = n
          · subst e
            exact ⟨by simp [upd], h0, by omega⟩
          · simp only [upd, e, if_false]
            exact hpt i (by omega)
  refine m_walk C hT wf_Mo_work [7, 39, 51, 55] 60 ?_
  exact loop1 t _ _ _ ⟨0, pt, rfl, Nat.le_refl _, rfl, rfl, rfl, fun i hi => absurd hi (Nat.not_lt_zero i)⟩
theorem LI_add {N t : Nat} {S : Nat → aS} {ops : Nat → aO} {pr : Nat → Nat} {kd ka kb kv kp bf : Nat → Int32} {q : aO} (h : LI N S ops pr kd ka kb kv kp bf) (h1 : 1 ≤ N) (ht : t < N) (hok : a_ok q (S t)) (hI : aI (a_step q (S t))) :
    LI (N + 1) (updS S N (a_step q (S t))) (fun i => if i = N then q else ops i) (fun i => if i = N then t else pr i) (upd kd N (nI q.1)) (upd ka N (nI q.2.1)) (upd kb N (nI q.2.2.1)) (upd kv N q.2.2.2.1) (upd kp N (nI q.2.2.2.2)) (upd bf N (nI t)) := by
  obtain ⟨g0, g1, g2⟩ := h
  refine ⟨?_, fun e he => ?_, fun e he1 he2 => ?_⟩
  · unfold updS
    rw [if_neg (by omega)]
    exact g0
  · unfold updS
    by_cases z : e = N
    · rw [if_pos z]; exact hI
    · rw [if_neg z]; exact g1 e (by omega)
  · by_cases z : e = N
    · subst z
      have e1 : updS S e (a_step q (S t)) t = S t := by unfold updS; rw [if_neg (by omega)]
      have e2 : updS S e (a_step q (S t)) e = a_step q (S t) := by unfold updS; rw [if_pos rfl]
      simp only [if_true, e1, e2]
      exact ⟨⟨by simp [upd], by simp [upd], by simp [upd], by simp [upd], by simp [upd]⟩, by simp [upd], ht, hok, trivial⟩
    · obtain ⟨a1, a2, a3, a4, a5⟩ := g2 e he1 (by omega)
      have e1 : updS S N (a_step q (S t)) (pr e) = S (pr e) := by unfold updS; rw [if_neg (by omega)]
      have e2 : updS S N (a_step q (S t)) e = S e := by unfold updS; rw [if_neg z]
      simp only [z, if_false, e1, e2]
      unfold lgAt
      simp only [upd, z, if_false]
      exact ⟨a1, a2, a3, a4, a5⟩
def ct_change : mCT := fun as w K => ∃ kd ka kb kv kp bf kt bal bd pv ra rm rd pt jl rc bu h gn th N t S ops pr o, as = [.inr 0, .inl (nI o.1), .inl (nI o.2.1), .inl (nI o.2.2.1), .inl o.2.2.2.1, .inl (nI o.2.2.2.2)] ∧ w = mM kd ka kb kv kp bf kt bal bd pv ra rm rd pt jl (nI N) (nI t) (nI t) rc bu h gn th ∧ N < 4200 ∧ t < N ∧ LI N S ops pr kd ka kb kv kp bf ∧ RM (S t) bal bd pv jl ra rm rd rc bu h ∧ a_ok o (S t) ∧ aI (a_step o (S t)) ∧ ∀ kd' ka' kb' kv' kp' bf' pt' (bal' bd' pv' jl' ra' rm' rd' : Nat → Int32) (rc' bu' h' : Int32) gn' ops' pr', LI (N + 1) (updS S N (a_step o (S t))) ops' pr' kd' ka' kb' kv' kp' bf' → RM (a_step o (S t)) bal' bd' pv' jl' ra' rm' rd' rc' bu' h' → ((o.1 = 4 ∨ o.1 = 5) → gn' = a_gone o (S t)) → K none (mM kd' ka' kb' kv' kp' bf' kt bal' bd' pv' ra' rm' rd' pt' jl' (nI (N + 1)) (nI N) (nI N) rc' bu' h' gn' th)
theorem ct_change_i {kd ka kb kv kp bf kt bal bd pv ra rm rd pt jl : Nat → Int32} {rc bu h gn th : Int32} {N t : Nat} {S : Nat → aS} {ops : Nat → aO} {pr : Nat → Nat} {K : Option mV → mW → Prop} (o : aO) {as : List mV} (h0 : as = [.inr 0, .inl (nI o.1), .inl (nI o.2.1), .inl (nI o.2.2.1), .inl o.2.2.2.1, .inl (nI o.2.2.2.2)]) (h1 : N < 4200) (h2 : t < N) (h3 : LI N S ops pr kd ka kb kv kp bf) (h4 : RM (S t) bal bd pv jl ra rm rd rc bu h) (h5 : a_ok o (S t)) (h6 : aI (a_step o (S t))) (h7 : ∀ kd' ka' kb' kv' kp' bf' pt' (bal' bd' pv' jl' ra' rm' rd' : Nat → Int32) (rc' bu' h' : Int32) gn' ops' pr', LI (N + 1) (updS S N (a_step o (S t))) ops' pr' kd' ka' kb' kv' kp' bf' → RM (a_step o (S t)) bal' bd' pv' jl' ra' rm' rd' rc' bu' h' → ((o.1 = 4 ∨ o.1 = 5) → gn' = a_gone o (S t)) → K none (mM kd' ka' kb' kv' kp' bf' kt bal' bd' pv' ra' rm' rd' pt' jl' (nI (N + 1)) (nI N) (nI N) rc' bu' h' gn' th)) : ct_change as (mM kd ka kb kv kp bf kt bal bd pv ra rm rd pt jl (nI N) (nI t) (nI t) rc bu h gn th) K := ⟨kd, ka, kb, kv, kp, bf, kt, bal, bd, pv, ra, rm, rd, pt, jl, rc, bu, h, gn, th, N, t, S, ops, pr, o, h0, rfl, h1, h2, h3, h4, h5, h6, h7⟩
theorem ct_change_r : ∀ as w K, ct_change as w K → ∃ a r fs, as = .inr a :: r ∧ w[a]? = some (.inr (4, fs)) := by
  intro as w K h
  obtain ⟨_, _, _, _, _, _, _, _, _, _, _, _, _, _, _, _, _, _, _, _, _, _, _, _, _, _, rfl, rfl, _⟩ := h
  exact ⟨0, _, _, rfl, rfl⟩
set_option maxHeartbeats 16000000 in
set_option maxRecDepth 20000 in
theorem c_change : m_Met false y_Mo_change ws_Mo_change nw (rmk 3) ct_change := by
  refine m_Met_of (by decide +kernel) (fun as w K h => by obtain ⟨_, _, _, _, _, _, _, _, _, _, _, _, _, _, _, _, _, _, _, _, _, _, _, _, _, _, rfl, _⟩ := h; exact Nat.le_of_ble_eq_true rfl) ?_
  intro E as w K C hm hret hct
  obtain ⟨kd, ka, kb, kv, kp, bf, kt, bal, bd, pv, ra, rm, rd, pt, jl, rc, bu, h, gn, th, N, t, S, ops, pr, o, rfl, rfl, hN, ht, hL, hR, hok, hI, hK⟩ := hct
  have hT : m_TOk E c_Mo_change R_Mo (false, fl_Mo, fp_Mo, [], [(0, 91, 1, ct_work)], []) (m_Rt none K) := ⟨hm, get_Mo C, put_Mo C, m_none, m_one (ca_Mo_91 (pb := false) C hm c_work rfl rfl ct_work_r ⟨by decide, by decide⟩) m_none, m_none, hret⟩
  have hL' := LI_add hL (by omega) ht hok hI
  have e1 : updS S N (a_step o (S t)) t = S t := by unfold updS; rw [if_neg (by omega)]
  have e2 : updS S N (a_step o (S t)) N = a_step o (S t) := by unfold updS; rw [if_pos rfl]
  refine m_walk C hT wf_Mo_change [] 60 ?_
  refine m_ix hN (m_ix hN (m_ix hN (m_ix hN (m_ix hN (m_ix hN ?_)))))
  refine m_c0 <| ct_work_i (N := N + 1) (t := N) (by omega) (by omega) hL' (.inl ⟨t, by omega, rfl, by rw [e1]; exact hR⟩) (fun pt' bal' bd' pv' jl' ra' rm' rd' rc' bu' h' gn' h1 h2 => ?_)
  have h3 := hK _ _ _ _ _ _ pt' bal' bd' pv' jl' ra' rm' rd' rc' bu' h' gn' _ _ hL' (by rw [e2] at h1; exact h1) (fun h4 => by
    have h5 := h2 (by omega) (fun z => absurd ((nI_eq (by omega) (by omega)).mp z) (by omega)) (by simpa using h4)
    simp only [if_true] at h5
    rw [h5, e1])
  rw [nI_succ N] at h3
  exact h3
