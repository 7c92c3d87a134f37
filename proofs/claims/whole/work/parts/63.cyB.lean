/-! Bonds, returns, jail: the class against the ledger as numbers; and what stays small. -/
theorem hd_app {l : List (Nat × Int32 × Int32)} {ro ra rd : Nat → Int32} (h : hd l ro ra rd) (x : Nat) (v g : Int32) : hd (l ++ [(x, v, g)]) (upd ro l.length (nI x)) (upd ra l.length v) (upd rd l.length g) := by
  intro i r hi
  by_cases e : i = l.length
  · subst e
    rw [List.getElem?_append_right (Nat.le_refl _), Nat.sub_self] at hi
    simp only [List.getElem?_cons_zero, Option.some.injEq] at hi
    subst hi
    simp [upd]
  · by_cases z : i < l.length
    · rw [List.getElem?_append_left z] at hi
      simp only [upd, e, if_false]
      exact h i r hi
    · rw [List.getElem?_append_right (by omega)] at hi
      have := (List.getElem?_eq_some_iff.mp hi).1
      simp at this
      omega
theorem isV_int {v : Int32} (h : isV v) : 1 ≤ v.toInt ∧ v.toInt ≤ 1000000 := by
  have h1 := Int32.le_iff_toInt_le.mp h.1
  have h2 := Int32.le_iff_toInt_le.mp h.2
  exact ⟨h1, h2⟩
theorem ne_int {v : Int32} (h : ¬ v.toInt = 0) : ¬ v = 0 := fun z => h (by rw [z]; rfl)
set_option maxHeartbeats 2000000 in
theorem cy_bond {s : aS} {ex w : mW} {T : Nat} {a b v p : Int32} {K : Option mV → mW → Prop} {X : Nat → mW → Prop} (hR : RCw s ex w) (hI : IV T s) (hT : T ≤ 1000) (h1 : (q_bond s a b v p).1 = 1 → X 0 w) (h2 : (q_bond s a b v p).1 = 2 → X 1 w) (h0 : (q_bond s a b v p).1 = 0 → ∀ w', RCw (rs s (q_bond s a b v p)) ex w' → K (some (.inl (q_bond s a b v p).2.1)) w') : cx_bond [.inr 11, .inl a, .inl b, .inl v, .inl p] w K X := by
  obtain ⟨sb, sd, sr, sp, sj, su, sh⟩ := s
  obtain ⟨bal, o, nd, am, ro, ra, rd, pv, bc, rc, h, j, bu, rfl, L, c, rfl, eB, e3, e4, rfl, e6, eJ, rfl, rfl⟩ := hR
  obtain ⟨iJ, iH, iL, iA⟩ := hI
  refine ⟨bal, o, nd, am, ro, ra, rd, pv, c, _, _, j, _, ex, a, b, v, p, rfl, rfl, eB.2.1, fun hb => h1 ?_, fun x y q hx hy hq hv ha hb hp => ?_⟩
  · unfold q_bond
    rw [q_of_0 (fun z => hb ⟨z.1, z.2.1, z.2.2.2, z.2.2.1⟩)]
  · subst ha; subst hb; subst hp
    have hc : isR (nI x) 200 ∧ isR (nI y) 16 ∧ isR (nI q) 16 ∧ isV v := ⟨isR_of hx (by decide), isR_of hy (by decide), isR_of hq (by decide), hv⟩
    simp only [q_bond, iN_nI (show x < 2 ^ 31 by omega), iN_nI (show y < 2 ^ 31 by omega), iN_nI (show q < 2 ^ 31 by omega)] at h2 h0
    have ef : eqn 200 (a_fee bal x q) (a_fee sb x q) := eqn_fee e3 hx (by omega)
    have hA : affR bal x v (nI q) ↔ affR sb x v (nI q) := by unfold affR; rw [e3 x hx]
    have hcnt : a_cnt (sb, sd, sr, sp, sj, bu, h) = nI c := (BC_cnt eB iJ.1).symm
    have h96 := eB.2.1
    have hv' := isV_int hv
    have eb : eqn 200 (upd (a_fee bal x q) x (a_fee bal x q x - v)) (upd (a_fee sb x q) x (a_fee sb x q x - v)) := eqn_upd ef (by rw [ef x hx])
    have hle := a_J_le iJ (show 16 * x + y < 3200 by omega)
    have hge := iJ.1 _ (show 16 * x + y < 3200 by omega)
    have hne : ¬ sd (16 * x + y) + v = 0 := ne_int (by
      have : (sd (16 * x + y) + v).toInt = (sd (16 * x + y)).toInt + v.toInt := i_add hge (by omega) (by show (sd (16 * x + y)).toInt + v.toInt < 2 ^ 31; have : (sd (16 * x + y)).toInt ≤ 1600 + 1000000 * (T : Int) := hle; omega)
      have h5 : 0 ≤ (sd (16 * x + y)).toInt := hge
      omega)
    refine ⟨fun hn => h2 (by
      rw [q_of_1 hc]
      rintro ⟨z1, z2⟩
      rcases hn with hn | ⟨hn, hf⟩
      · exact hn (hA.mpr z1)
      · exact z2 ⟨(BC_nfd eB hx hy hf).2, by rw [hcnt, show c = 96 by omega]; rfl⟩), fun hn => ⟨fun i hf => ?_, fun hf hlt => ?_⟩⟩
    · obtain ⟨f1, f2, f3, f4⟩ := BC_fnd eB hx hy hf
      have hb0 := (eB.2.2.2.2.2 x y hx hy).mp f4
      rw [q_of_2 hc ⟨hA.mp hn, fun z => hb0 z.1⟩] at h0
      have f3' : am i = sd (16 * x + y) := f3
      have h9 := h0 rfl _ ⟨_, o, nd, _, ro, ra, rd, pv, _, _, _, j, _, rfl, L, c, rfl, BC_set eB hx hy hf hne, eb, e4, rfl, e6, eJ, rfl, rfl⟩
      have ev : upd sd (16 * x + y) (sd (16 * x + y) + v) (16 * x + y) = sd (16 * x + y) + v := by simp [upd]
      have h9' : K (some (.inl (upd sd (16 * x + y) (sd (16 * x + y) + v) (16 * x + y)))) _ := h9
      rw [ev] at h9'
      rw [f3']
      exact h9'
    · have hb0 : sd (16 * x + y) = 0 := (BC_nfd eB hx hy hf).2
      rw [q_of_2 hc ⟨hA.mp hn, fun z => absurd ((nI_eq (b := 96) (by omega) (by omega)).mp (hcnt.symm.trans z.2)) (by omega)⟩] at h0
      have ez : sd (16 * x + y) + v = v := by rw [hb0, Int32.zero_add]
      rw [ez] at hne
      have hBN := BC_new eB hx hy hf hlt hne
      have h9 := h0 rfl (lW (upd (a_fee bal x q) x (a_fee bal x q x - v)) (upd o c (nI x)) (upd nd c (nI y)) (upd am c v) ro ra rd pv (nI (c + 1)) (nI sr.length) h j bu ex) ⟨_, _, _, _, ro, ra, rd, pv, _, _, _, j, _, rfl, _, c + 1, rfl, by
        show BC (upd sd (16 * x + y) (sd (16 * x + y) + v)) _ _ _ _ _
        rw [ez]
        exact hBN, eb, e4, rfl, e6, eJ, rfl, rfl⟩
      have ev : upd sd (16 * x + y) (sd (16 * x + y) + v) (16 * x + y) = v := by simp only [upd, if_true]; exact ez
      have h9' : K (some (.inl (upd sd (16 * x + y) (sd (16 * x + y) + v) (16 * x + y)))) _ := h9
      rw [ev] at h9'
      exact h9'
set_option maxHeartbeats 2000000 in
theorem cy_unbond {s : aS} {ex w : mW} {T : Nat} {a b v p : Int32} {K : Option mV → mW → Prop} {X : Nat → mW → Prop} (hR : RCw s ex w) (hI : IV T s) (hT : T ≤ 1000) (h1 : (q_unbond s a b v p).1 = 1 → X 0 w) (h2 : (q_unbond s a b v p).1 = 2 → X 1 w) (h0 : (q_unbond s a b v p).1 = 0 → ∀ w', RCw (rs s (q_unbond s a b v p)) ex w' → K (some (.inl (q_unbond s a b v p).2.1)) w') : cx_unbond [.inr 11, .inl a, .inl b, .inl v, .inl p] w K X := by
  obtain ⟨sb, sd, sr, sp, sj, su, sh⟩ := s
  obtain ⟨bal, o, nd, am, ro, ra, rd, pv, bc, rc, h, j, bu, rfl, L, c, rfl, eB, e3, e4, rfl, e6, eJ, rfl, rfl⟩ := hR
  obtain ⟨iJ, iH, iL, iA⟩ := hI
  refine ⟨bal, o, nd, am, ro, ra, rd, pv, c, sr.length, _, j, _, ex, a, b, v, p, rfl, rfl, eB.2.1, iL, fun hb => h1 ?_, fun x y q hx hy hq hv ha hb hp => ?_⟩
  · unfold q_unbond
    rw [q_of_0 (fun z => hb ⟨z.1, z.2.1, z.2.2.2, z.2.2.1⟩)]
  · subst ha; subst hb; subst hp
    have hc : isR (nI x) 200 ∧ isR (nI y) 16 ∧ isR (nI q) 16 ∧ isV v := ⟨isR_of hx (by decide), isR_of hy (by decide), isR_of hq (by decide), hv⟩
    simp only [q_unbond, iN_nI (show x < 2 ^ 31 by omega), iN_nI (show y < 2 ^ 31 by omega), iN_nI (show q < 2 ^ 31 by omega)] at h2 h0
    have ef : eqn 200 (a_fee bal x q) (a_fee sb x q) := eqn_fee e3 hx (by omega)
    have hX : bal x = sb x := e3 x hx
    have hv' := isV_int hv
    have iL' : sr.length ≤ 32 := iL
    refine ⟨fun hn => h2 (by
      rw [q_of_1 hc]
      rintro ⟨z1, z2, z3⟩
      rcases hn with hn | hn | ⟨i, hf, hn⟩ | hn
      · exact hn ((aff0 _ _ _).mpr (hX ▸ z1))
      · have hb0 : sd (16 * x + y) = 0 := (BC_nfd eB hx hy hn).2
        have z2' : v ≤ sd (16 * x + y) := z2
        rw [hb0] at z2'
        have := Int32.le_iff_toInt_le.mp z2'
        have z0 : (0 : Int32).toInt = 0 := rfl
        omega
      · exact hn (by rw [(BC_fnd eB hx hy hf).2.2.1]; exact z2)
      · exact z3 hn), fun hn hd' i hf hvi => ?_⟩
    obtain ⟨f1, f2, f3, f4⟩ := BC_fnd eB hx hy hf
    have f3' : am i = sd (16 * x + y) := f3
    have hd32 : sr.length < 32 := hd'
    rw [q_of_2 hc ⟨hX ▸ (aff0 _ _ _).mp hn, f3' ▸ hvi, by show ¬ sr.length = 32; omega⟩] at h0
    have ev : (sr ++ [(x, v, h + 4)]).length = sr.length + 1 := by rw [List.length_append]; rfl
    have go : ∀ w', RCw (a_fee sb x q, upd sd (16 * x + y) (sd (16 * x + y) - v), sr ++ [(x, v, h + 4)], sp, sj, bu, h) ex w' → K (some (.inl (nI (sr.length + 1)))) w' := fun w' hw => by
      have h9 : K (some (.inl (nI (sr ++ [(x, v, h + 4)]).length))) w' := h0 rfl w' hw
      rw [ev] at h9
      exact h9
    refine ⟨fun hz => go _ ⟨_, _, _, _, _, _, _, pv, _, _, _, j, _, rfl, dl L i, c - 1, rfl, ?_, ef, hd_app e4 x v (h + 4), by rw [ev], e6, eJ, rfl, rfl⟩, fun hz => go _ ⟨_, _, _, _, _, _, _, pv, _, _, _, j, _, rfl, L, c, rfl, ?_, ef, hd_app e4 x v (h + 4), by rw [ev], e6, eJ, rfl, rfl⟩⟩
    · have := BC_del eB (am i - v) hx hy hf hz
      show BC (upd sd (16 * x + y) (sd (16 * x + y) - v)) _ _ _ _ _
      rw [← f3']
      exact this
    · have := BC_set eB hx hy hf hz
      show BC (upd sd (16 * x + y) (sd (16 * x + y) - v)) _ _ _ _ _
      rw [← f3']
      exact this
set_option maxHeartbeats 2000000 in
theorem cy_free {s : aS} {ex w : mW} {T : Nat} {a b p : Int32} {K : Option mV → mW → Prop} {X : Nat → mW → Prop} (hR : RCw s ex w) (hI : IV T s) (hT : T ≤ 1000) (h1 : (q_free s a b p).1 = 1 → X 0 w) (h2 : (q_free s a b p).1 = 2 → X 1 w) (h0 : (q_free s a b p).1 = 0 → ∀ w', RCw (rs s (q_free s a b p)) ex w' → K (some (.inl (q_free s a b p).2.1)) w') : cx_free [.inr 11, .inl a, .inl b, .inl p] w K X := by
  obtain ⟨sb, sd, sr, sp, sj, su, sh⟩ := s
  obtain ⟨bal, o, nd, am, ro, ra, rd, pv, bc, rc, h, j, bu, rfl, L, c, rfl, eB, e3, e4, rfl, e6, eJ, rfl, rfl⟩ := hR
  obtain ⟨iJ, iH, iL, iA⟩ := hI
  refine ⟨bal, o, nd, am, ro, ra, rd, pv, c, _, _, j, _, ex, a, b, p, rfl, rfl, eB.2.1, fun hb => h1 ?_, fun x y q hx hy hq ha hb hp => ?_⟩
  · unfold q_free
    rw [q_of_0 (fun z => hb z)]
  · subst ha; subst hb; subst hp
    have hc : isR (nI x) 200 ∧ isR (nI y) 16 ∧ isR (nI q) 16 := ⟨isR_of hx (by decide), isR_of hy (by decide), isR_of hq (by decide)⟩
    simp only [q_free, iN_nI (show x < 2 ^ 31 by omega), iN_nI (show y < 2 ^ 31 by omega), iN_nI (show q < 2 ^ 31 by omega)] at h2 h0
    have ef : eqn 200 (a_fee bal x q) (a_fee sb x q) := eqn_fee e3 hx (by omega)
    have hX : bal x = sb x := e3 x hx
    refine ⟨fun hn => h2 (by
      rw [q_of_1 hc]
      rintro ⟨z1, z2⟩
      rcases hn with hn | hn
      · exact hn ((aff0 _ _ _).mpr (hX ▸ z1))
      · exact hn ((JC_bit eJ hy).mpr z2)), fun hn hj => ?_⟩
    rw [q_of_2 hc ⟨hX ▸ (aff0 _ _ _).mp hn, (JC_bit eJ hy).mp hj⟩] at h0
    have eJ' := JC_off eJ hy
    have h9 := h0 rfl _ ⟨_, o, nd, am, ro, ra, rd, pv, _, _, _, _, _, rfl, L, c, rfl, eB, ef, e4, rfl, e6, eJ', rfl, rfl⟩
    rw [RC_pw (s := (a_fee sb x q, sd, sr, sp, a_jl sj y false, bu, h)) eB eJ' hy]
    exact h9
set_option maxHeartbeats 2000000 in
theorem cy_prove {s : aS} {ex w : mW} {T : Nat} {a b g p : Int32} {K : Option mV → mW → Prop} {X : Nat → mW → Prop} (hR : RCw s ex w) (hI : IV T s) (hT : T ≤ 1000) (h1 : (q_prove s a b g p).1 = 1 → X 0 w) (h2 : (q_prove s a b g p).1 = 2 → X 1 w) (h0 : (q_prove s a b g p).1 = 0 → ∀ w', RCw (rs s (q_prove s a b g p)) ex w' → K (some (.inl (q_prove s a b g p).2.1)) w') : cx_prove [.inr 11, .inl a, .inl b, .inl g, .inl p] w K X := by
  obtain ⟨sb, sd, sr, sp, sj, su, sh⟩ := s
  obtain ⟨bal, o, nd, am, ro, ra, rd, pv, bc, rc, h, j, bu, rfl, L, c, rfl, eB, e3, e4, rfl, e6, eJ, rfl, rfl⟩ := hR
  obtain ⟨iJ, iH, iL, iA⟩ := hI
  refine ⟨bal, o, nd, am, ro, ra, rd, pv, c, _, _, j, _, ex, a, b, g, p, rfl, rfl, eB.2.1, fun hb => h1 ?_, fun x y q hx hy hq ha hb hp => ?_⟩
  · unfold q_prove
    rw [q_of_0 (fun z => hb z)]
  · subst ha; subst hb; subst hp
    have hc : isR (nI x) 200 ∧ isR (nI y) 16 ∧ isR (nI q) 16 := ⟨isR_of hx (by decide), isR_of hy (by decide), isR_of hq (by decide)⟩
    simp only [q_prove, iN_nI (show x < 2 ^ 31 by omega), iN_nI (show y < 2 ^ 31 by omega), iN_nI (show q < 2 ^ 31 by omega)] at h2 h0
    have ef : eqn 200 (a_fee bal x q) (a_fee sb x q) := eqn_fee e3 hx (by omega)
    have hX : bal x = sb x := e3 x hx
    have hV : pv y = sp y := e6 y hy
    refine ⟨fun hn => h2 (by
      rw [q_of_1 hc]
      rintro ⟨z1, z2, z3⟩
      rcases hn with hn | hn | hn
      · exact hn ((aff0 _ _ _).mpr (hX ▸ z1))
      · exact absurd hn (Int32.not_lt.mpr z2)
      · exact hn (by rw [hV]; exact z3)), fun hn hg hp am' ha => ?_⟩
    rw [q_of_2 hc ⟨hX ▸ (aff0 _ _ _).mp hn, Int32.not_lt.mp hg, hV ▸ hp⟩] at h0
    have el : sm (fun k => if nd k = nI y then am k / 4 else 0) c = a_lost sd y := BC_col eB (fun v => v / 4) (by decide) hy
    have h9 := h0 rfl (lW (a_fee bal x q) o nd am' ro ra rd (upd pv y g) (nI c) (nI sr.length) h (j ||| (1 <<< (nI y &&& 31))) (bu + a_lost sd y) ex) ⟨_, o, nd, am', ro, ra, rd, _, _, _, _, _, _, rfl, L, c, rfl, BC_cut eB iJ.1 hy ha, ef, e4, rfl, eqn_upd e6 rfl, JC_on eJ hy, rfl, rfl⟩
    rw [el]
    exact h9
theorem iv_of {T : Nat} {s : aS} {c1 c2 : Prop} {o : aO} {x : Int32} (h : IV T s) (hs : c1 → c2 → IV (T + 1) (a_step o s)) : IV (T + 1) (rs s (q_of c1 c2 o x)) := by
  by_cases h1 : c1
  · by_cases h2 : c2
    · rw [q_of_2 h1 h2]
      exact hs h1 h2
    · rw [q_of_1 h1 h2]
      exact IV_up h (by omega)
  · rw [q_of_0 h1]
    exact IV_up h (by omega)
theorem iv_pay {T : Nat} {s : aS} (h : IV T s) (hT : T ≤ 1000) (a b v p : Int32) : IV (T + 1) (rs s (q_pay s a b v p)) := by
  unfold q_pay
  refine iv_of h (fun h1 h2 => ?_)
  obtain ⟨x, hx, rfl⟩ := isR_nat (n := 200) (by decide) h1.1
  obtain ⟨y, hy, rfl⟩ := isR_nat (n := 200) (by decide) h1.2.1
  obtain ⟨q, hq, rfl⟩ := isR_nat (n := 16) (by decide) h1.2.2.1
  simp only [iN_nI (show x < 2 ^ 31 by omega), iN_nI (show y < 2 ^ 31 by omega), iN_nI (show q < 2 ^ 31 by omega)] at h2 ⊢
  obtain ⟨sb, sd, sr, sp, sj, su, sh⟩ := s
  obtain ⟨iJ, iH, iI⟩ := h
  exact ⟨a_J_up iJ (by omega), iH, aI_step iI ⟨by show 0 ≤ 5; omega, fun _ => ⟨hx, hq⟩, fun _ => hy, fun z => absurd z (by show ¬ 1 ≤ 0; omega), fun z => absurd z (by show ¬ 0 = 2; omega)⟩⟩
theorem iv_bond {T : Nat} {s : aS} (h : IV T s) (hT : T ≤ 1000) (a b v p : Int32) : IV (T + 1) (rs s (q_bond s a b v p)) := by
  unfold q_bond
  refine iv_of h (fun h1 h2 => ?_)
  obtain ⟨x, hx, rfl⟩ := isR_nat (n := 200) (by decide) h1.1
  obtain ⟨y, hy, rfl⟩ := isR_nat (n := 16) (by decide) h1.2.1
  obtain ⟨q, hq, rfl⟩ := isR_nat (n := 16) (by decide) h1.2.2.1
  simp only [iN_nI (show x < 2 ^ 31 by omega), iN_nI (show y < 2 ^ 31 by omega), iN_nI (show q < 2 ^ 31 by omega)] at h2 ⊢
  obtain ⟨sb, sd, sr, sp, sj, su, sh⟩ := s
  obtain ⟨iJ, iH, iI⟩ := h
  have hv := isV_int h1.2.2.2
  exact ⟨a_J_bond iJ hT (by omega) hv.1 hv.2, iH, aI_step iI ⟨by show 1 ≤ 5; omega, fun _ => ⟨hx, hq⟩, fun z => absurd z (by show ¬ 1 = 0; omega), fun _ _ => hy, fun z => absurd z (by show ¬ 1 = 2; omega)⟩⟩
theorem iv_unbond {T : Nat} {s : aS} (h : IV T s) (hT : T ≤ 1000) (a b v p : Int32) : IV (T + 1) (rs s (q_unbond s a b v p)) := by
  unfold q_unbond
  refine iv_of h (fun h1 h2 => ?_)
  obtain ⟨x, hx, rfl⟩ := isR_nat (n := 200) (by decide) h1.1
  obtain ⟨y, hy, rfl⟩ := isR_nat (n := 16) (by decide) h1.2.1
  obtain ⟨q, hq, rfl⟩ := isR_nat (n := 16) (by decide) h1.2.2.1
  simp only [iN_nI (show x < 2 ^ 31 by omega), iN_nI (show y < 2 ^ 31 by omega), iN_nI (show q < 2 ^ 31 by omega)] at h2 ⊢
  obtain ⟨sb, sd, sr, sp, sj, su, sh⟩ := s
  obtain ⟨iJ, iH, iI⟩ := h
  have hv := isV_int h1.2.2.2
  have hl : sr.length ≤ 32 := iI.1
  have hn : ¬ sr.length = 32 := h2.2.2
  refine ⟨a_J_up (a_J_unbond iJ (by omega) (Int32.le_iff_toInt_le.mp h2.2.1)) (by omega), iH, aI_step iI ⟨by show 2 ≤ 5; omega, fun _ => ⟨hx, hq⟩, fun z => absurd z (by show ¬ 2 = 0; omega), fun _ _ => hy, fun _ => by show sr.length < 32; omega⟩⟩
theorem iv_free {T : Nat} {s : aS} (h : IV T s) (hT : T ≤ 1000) (a b p : Int32) : IV (T + 1) (rs s (q_free s a b p)) := by
  unfold q_free
  refine iv_of h (fun h1 h2 => ?_)
  obtain ⟨x, hx, rfl⟩ := isR_nat (n := 200) (by decide) h1.1
  obtain ⟨y, hy, rfl⟩ := isR_nat (n := 16) (by decide) h1.2.1
  obtain ⟨q, hq, rfl⟩ := isR_nat (n := 16) (by decide) h1.2.2
  simp only [iN_nI (show x < 2 ^ 31 by omega), iN_nI (show y < 2 ^ 31 by omega), iN_nI (show q < 2 ^ 31 by omega)] at h2 ⊢
  obtain ⟨sb, sd, sr, sp, sj, su, sh⟩ := s
  obtain ⟨iJ, iH, iI⟩ := h
  exact ⟨a_J_up iJ (by omega), iH, aI_step iI ⟨by show 3 ≤ 5; omega, fun _ => ⟨hx, hq⟩, fun z => absurd z (by show ¬ 3 = 0; omega), fun _ _ => hy, fun z => absurd z (by show ¬ 3 = 2; omega)⟩⟩
theorem iv_prove {T : Nat} {s : aS} (h : IV T s) (hT : T ≤ 1000) (a b g p : Int32) : IV (T + 1) (rs s (q_prove s a b g p)) := by
  unfold q_prove
  refine iv_of h (fun h1 h2 => ?_)
  obtain ⟨x, hx, rfl⟩ := isR_nat (n := 200) (by decide) h1.1
  obtain ⟨y, hy, rfl⟩ := isR_nat (n := 16) (by decide) h1.2.1
  obtain ⟨q, hq, rfl⟩ := isR_nat (n := 16) (by decide) h1.2.2
  simp only [iN_nI (show x < 2 ^ 31 by omega), iN_nI (show y < 2 ^ 31 by omega), iN_nI (show q < 2 ^ 31 by omega)] at h2 ⊢
  obtain ⟨sb, sd, sr, sp, sj, su, sh⟩ := s
  obtain ⟨iJ, iH, iI⟩ := h
  exact ⟨a_J_up (a_J_cut iJ) (by omega), iH, aI_step iI ⟨by show 4 ≤ 5; omega, fun _ => ⟨hx, hq⟩, fun z => absurd z (by show ¬ 4 = 0; omega), fun _ _ => hy, fun z => absurd z (by show ¬ 4 = 2; omega)⟩⟩
theorem iv_next {T : Nat} {s : aS} (h : IV T s) : IV (T + 1) (rs s (q_next s)) := by
  obtain ⟨sb, sd, sr, sp, sj, su, sh⟩ := s
  unfold q_next
  by_cases e : sh = 1000000
  · rw [if_pos e]
    exact IV_up h (by omega)
  · rw [if_neg e]
    obtain ⟨iJ, iH, iI⟩ := h
    refine ⟨a_J_up iJ (by omega), ?_, aI_step iI ⟨by show 5 ≤ 5; omega, fun z => absurd z (by show ¬ 5 < 5; omega), fun z => absurd z (by show ¬ 5 = 0; omega), fun _ z => absurd z (by show ¬ 5 ≤ 4; omega), fun z => absurd z (by show ¬ 5 = 2; omega)⟩⟩
    show sh + 1 ≤ 1000000
    have h1 : sh.toInt ≤ (1000000 : Int32).toInt := Int32.le_iff_toInt_le.mp iH
    have h2 : ¬ sh.toInt = (1000000 : Int32).toInt := fun z => e (Int32.toInt_inj.mp z)
    have e6 : (1000000 : Int32).toInt = 1000000 := by decide
    have e1 : (1 : Int32).toInt = 1 := rfl
    have hl := sh.le_toInt
    refine Int32.le_iff_toInt_le.mpr ?_
    rw [e6] at h1 h2 ⊢
    rw [Int32.toInt_add, e1, Int.bmod_eq_of_le (by omega) (by omega)]
    omega
theorem IV_0 : IV 0 a_0 := by
  refine ⟨⟨fun k _ => ?_, ?_⟩, by decide, by decide, fun r hr => by simp [a_0] at hr⟩
  · show 0 ≤ (if k / 16 = k % 16 then (100 : Int32) else 0).toInt
    split <;> decide
  · have : ∀ n, smI (fun k => (a_0.2.1 k).toInt) n = smI (fun k => if k / 16 = k % 16 then 100 else 0) n := fun n => smI_congr (fun k _ => by
      show (if k / 16 = k % 16 then (100 : Int32) else 0).toInt = _
      by_cases e : k / 16 = k % 16
      · rw [if_pos e, if_pos e]; rfl
      · rw [if_neg e, if_neg e]; rfl)
    rw [this 3200]
    decide +kernel
