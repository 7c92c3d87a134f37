/-! The class's state against the ledger as numbers. -/
def BC (bd : Nat → Int32) (L : List (Nat × Nat)) (o nd am : Nat → Int32) (c : Nat) : Prop :=
  c = L.length ∧ c ≤ 96 ∧ L.Nodup ∧ (∀ q ∈ L, q.1 < 200 ∧ q.2 < 16) ∧ (∀ i, i < c → o i = nI (ky L i).1 ∧ nd i = nI (ky L i).2 ∧ am i = bd (16 * (ky L i).1 + (ky L i).2)) ∧ (∀ x n, x < 200 → n < 16 → ((x, n) ∈ L ↔ ¬ bd (16 * x + n) = 0))
theorem BC_at {bd : Nat → Int32} {L : List (Nat × Nat)} {o nd am : Nat → Int32} {c : Nat} (h : BC bd L o nd am c) {x n i : Nat} (hx : x < 200) (hn : n < 16) (hi : i < c) : (o i = nI x ∧ nd i = nI n) ↔ ky L i = (x, n) := by
  obtain ⟨h1, h2, h3, h4, h5, h6⟩ := h
  obtain ⟨e1, e2, e3⟩ := h5 i hi
  have hk := h4 _ (ky_mem (h1 ▸ hi))
  rw [e1, e2]
  constructor
  · intro ⟨a, b⟩
    have ea := (nI_eq (by omega) (by omega)).mp a
    have eb := (nI_eq (by omega) (by omega)).mp b
    rw [← ea, ← eb]
  · intro e
    rw [e]
    exact ⟨rfl, rfl⟩
theorem BC_fnd {bd : Nat → Int32} {L : List (Nat × Nat)} {o nd am : Nat → Int32} {c : Nat} (h : BC bd L o nd am c) {x n i : Nat} (hx : x < 200) (hn : n < 16) (hf : fnd o nd c (nI x) (nI n) i) : i < c ∧ ky L i = (x, n) ∧ am i = bd (16 * x + n) ∧ (x, n) ∈ L := by
  obtain ⟨f1, f2, f3, _⟩ := hf
  have e := (BC_at h hx hn f1).mp ⟨f2, f3⟩
  refine ⟨f1, e, ?_, ?_⟩
  · rw [(h.2.2.2.2.1 i f1).2.2, e]
  · rw [← e]
    exact ky_mem (h.1 ▸ f1)
theorem BC_nfd {bd : Nat → Int32} {L : List (Nat × Nat)} {o nd am : Nat → Int32} {c : Nat} (h : BC bd L o nd am c) {x n : Nat} (hx : x < 200) (hn : n < 16) (hf : nfd o nd c (nI x) (nI n)) : (x, n) ∉ L ∧ bd (16 * x + n) = 0 := by
  have hm : (x, n) ∉ L := fun hm => by
    obtain ⟨j, hj, e⟩ := ky_of_mem hm
    rw [← h.1] at hj
    exact hf j hj ((BC_at h hx hn hj).mpr e)
  refine ⟨hm, ?_⟩
  by_cases e : bd (16 * x + n) = 0
  · exact e
  · exact absurd ((h.2.2.2.2.2 x n hx hn).mpr e) hm
theorem BC_mem {bd : Nat → Int32} {L : List (Nat × Nat)} {o nd am : Nat → Int32} {c : Nat} (h : BC bd L o nd am c) {x n : Nat} (hx : x < 200) (hn : n < 16) (hm : (x, n) ∈ L) : ∃ i, fnd o nd c (nI x) (nI n) i := by
  obtain ⟨j, hj, e⟩ := ky_of_mem hm
  have hjc : j < c := by rw [h.1]; exact hj
  have h2 := (BC_at h hx hn hjc).mpr e
  refine ⟨j, hjc, h2.1, h2.2, fun k hk z => ?_⟩
  have e2 := (BC_at h hx hn (show k < c by omega)).mp z
  have := ky_inj h.2.2.1 (show k < L.length by omega) hj (e2.trans e.symm)
  omega
theorem BC_out {bd : Nat → Int32} {L : List (Nat × Nat)} {o nd am : Nat → Int32} {c : Nat} (h : BC bd L o nd am c) {x n : Nat} (hx : x < 200) (hn : n < 16) (hm : (x, n) ∉ L) : bd (16 * x + n) = 0 := by
  by_cases e : bd (16 * x + n) = 0
  · exact e
  · exact absurd ((h.2.2.2.2.2 x n hx hn).mpr e) hm
theorem BC_col {bd : Nat → Int32} {L : List (Nat × Nat)} {o nd am : Nat → Int32} {c : Nat} (h : BC bd L o nd am c) (G : Int32 → Int32) (hG : G 0 = 0) {n : Nat} (hn : n < 16) : sm (fun i => if nd i = nI n then G (am i) else 0) c = sm (fun x => G (bd (16 * x + n))) 200 := by
  have e := sm_col n 200 L (fun q => G (bd (16 * q.1 + q.2))) h.2.2.1 (fun q hq => (h.2.2.2.1 q hq).1) (fun x hx hm => by
    show G (bd (16 * x + n)) = 0
    rw [BC_out h hx hn hm, hG])
  rw [← e, ← h.1]
  refine sm_congr (fun i hi => ?_)
  obtain ⟨e1, e2, e3⟩ := h.2.2.2.2.1 i hi
  have hk := h.2.2.2.1 _ (ky_mem (h.1 ▸ hi))
  rw [e2, e3]
  by_cases z : (ky L i).2 = n
  · rw [if_pos (by rw [z]), if_pos z]
  · rw [if_neg (fun y => z ((nI_eq (by omega) (by omega)).mp y)), if_neg z]
theorem BC_tot {bd : Nat → Int32} {L : List (Nat × Nat)} {o nd am : Nat → Int32} {c : Nat} (h : BC bd L o nd am c) (G : Int32 → Int32) (hG : G 0 = 0) : sm (fun i => G (am i)) c = sm (fun k => G (bd k)) 3200 := by
  have e := sm_table (N := 16) (M := 200) (L := L) (F := fun q => G (bd (16 * q.1 + q.2))) h.2.2.1 h.2.2.2.1 (fun x n hx hn hm => by
    show G (bd (16 * x + n)) = 0
    rw [BC_out h hx hn hm, hG]) (g := fun k => G (bd k)) (fun x n _ _ => rfl)
  have e' : sm (fun k => G (bd k)) (16 * 200) = sm (fun k => G (bd k)) 3200 := congrArg _ (by decide)
  rw [← e', ← e, ← h.1]
  exact sm_congr (fun i hi => by rw [(h.2.2.2.2.1 i hi).2.2])
theorem BC_cnt {bd : Nat → Int32} {L : List (Nat × Nat)} {o nd am : Nat → Int32} {c : Nat} (h : BC bd L o nd am c) (hp : ∀ k, k < 3200 → 0 ≤ (bd k).toInt) : nI c = sm (fun k => if bd k ≤ 0 then 0 else 1) 3200 := by
  rw [← BC_tot h (fun v => if v ≤ 0 then 0 else 1) rfl, ← sm_ones c]
  refine sm_congr (fun i hi => ?_)
  obtain ⟨e1, e2, e3⟩ := h.2.2.2.2.1 i hi
  have hm := ky_mem (h.1 ▸ hi : i < L.length)
  have hk := h.2.2.2.1 _ hm
  have hne : ¬ am i = 0 := by
    rw [e3]
    exact (h.2.2.2.2.2 _ _ hk.1 hk.2).mp hm
  have hnn : 0 ≤ (am i).toInt := by
    rw [e3]
    exact hp _ (by omega)
  rw [if_neg]
  intro hle
  have h1 := Int32.le_iff_toInt_le.mp hle
  have h2 : (0 : Int32).toInt = 0 := rfl
  exact hne (Int32.toInt_inj.mp (by rw [h2] at h1 ⊢; omega))
theorem b_1 : ∀ i, i < 32 → bt 1 i = decide (i = 0) := by decide +kernel
theorem bit1 (j : Int32) {n : Nat} (hn : n < 32) : ((j >>> (nI n &&& 31)) &&& 1 = 1) ↔ bt j n = true := by
  have h0 : bt (j >>> (nI n &&& 31)) 0 = bt j n := by
    rw [b_sshr n hn j (by omega), if_pos (by omega)]
    rfl
  constructor
  · intro h
    have e := congrArg (fun z => bt z 0) h
    simp only [b_and, h0, b_1 0 (by omega)] at e
    simpa using e
  · intro h
    refine b_ext (fun i hi => ?_)
    rw [b_and, b_1 i hi]
    by_cases e : i = 0
    · subst e
      rw [h0, h]
      rfl
    · simp [e]
theorem b_one {n : Nat} (hn : n < 32) {i : Nat} (hi : i < 32) : bt ((1 : Int32) <<< (nI n &&& 31)) i = decide (i = n) := by
  rw [b_shl n hn 1 hi, b_1 (i - n) (by omega)]
  by_cases e : i = n
  · subst e; simp
  · by_cases h : n ≤ i
    · have : ¬ i - n = 0 := by omega
      simp [e, this]
    · simp [e, h]
/-- the bits of the jailed -/
def JC (jl : Nat → Bool) (j : Int32) : Prop := ∀ i, i < 32 → bt j i = (decide (i < 16) && jl i)
theorem JC_bI (jl : Nat → Bool) : ∀ (n : Nat), n ≤ 32 → ∀ i, i < 32 → bt (bI jl n) i = (decide (i < n) && jl i)
  | 0, _, i, _ => by simp [bI, b_0]
  | n + 1, hn, i, hi => by
    have ih := JC_bI jl n (by omega) i hi
    show bt (if jl n then bI jl n ||| ((1 : Int32) <<< (nI n &&& 31)) else bI jl n) i = _
    by_cases e : i = n
    · subst e
      cases hj : jl i
      · simp [ih]
      · rw [if_pos rfl, b_or, b_one hn hi]
        simp
    · have h1 : decide (i < n + 1) = decide (i < n) := by
        by_cases h : i < n
        · have : i < n + 1 := by omega
          simp [h, this]
        · have : ¬ i < n + 1 := by omega
          simp [h, this]
      rw [h1]
      cases hj : jl n
      · exact ih
      · rw [if_pos rfl, b_or, b_one hn hi, ih]
        simp [e]
theorem JC_eq {jl : Nat → Bool} {j : Int32} (h : JC jl j) : j = bI jl 16 := b_ext (fun i hi => by rw [h i hi, JC_bI jl 16 (by omega) i hi])
theorem JC_bit {jl : Nat → Bool} {j : Int32} (h : JC jl j) {n : Nat} (hn : n < 16) : ((j >>> (nI n &&& 31)) &&& 1 = 1) ↔ jl n = true := by
  rw [bit1 j (by omega), h n (by omega)]
  simp [hn]
theorem JC_off {jl : Nat → Bool} {j : Int32} (h : JC jl j) {n : Nat} (hn : n < 16) : JC (a_jl jl n false) (j &&& ((1 <<< (nI n &&& 31)) ^^^ (-1))) := by
  intro i hi
  rw [b_and, b_xor, b_one (show n < 32 by omega) hi, b_m1 i hi, h i hi]
  unfold a_jl
  by_cases e : i = n
  · simp [e]
  · simp [e]
theorem JC_on {jl : Nat → Bool} {j : Int32} (h : JC jl j) {n : Nat} (hn : n < 16) : JC (a_jl jl n true) (j ||| (1 <<< (nI n &&& 31))) := by
  intro i hi
  rw [b_or, b_one (show n < 32 by omega) hi, h i hi]
  unfold a_jl
  by_cases e : i = n
  · subst e
    simp [hn]
  · simp [e]
def RC (s : aS) (bal o nd am ro ra rd pv : Nat → Int32) (bc rc h j bu : Int32) : Prop :=
  ∃ L c, bc = nI c ∧ BC s.2.1 L o nd am c ∧ eqn 200 bal s.1 ∧ hd s.2.2.1 ro ra rd ∧ rc = nI s.2.2.1.length ∧ eqn 16 pv s.2.2.2.1 ∧ JC s.2.2.2.2.1 j ∧ bu = s.2.2.2.2.2.1 ∧ h = s.2.2.2.2.2.2
def RCw (s : aS) (ex w : mW) : Prop := ∃ bal o nd am ro ra rd pv bc rc h j bu, w = lW bal o nd am ro ra rd pv bc rc h j bu ex ∧ RC s bal o nd am ro ra rd pv bc rc h j bu
/-- bonds small, the height no higher than the last, returns few -/
def IV (T : Nat) (s : aS) : Prop := a_J T s.2.1 ∧ s.2.2.2.2.2.2 ≤ 1000000 ∧ aI s
theorem IV_up {T U : Nat} {s : aS} (h : IV T s) (hU : T ≤ U) : IV U s := ⟨a_J_up h.1 hU, h.2⟩
theorem RC_pw {s : aS} {L : List (Nat × Nat)} {o nd am : Nat → Int32} {c : Nat} {j : Int32} (hB : BC s.2.1 L o nd am c) (hJ : JC s.2.2.2.2.1 j) {n : Nat} (hn : n < 16) : pwR nd am c j (nI n) = a_pw s n := by
  unfold pwR a_pw
  rw [BC_col hB (fun v => v) rfl hn]
  cases e : s.2.2.2.2.1 n
  · rw [if_neg (fun z => by rw [(JC_bit hJ hn).mp z] at e; exact Bool.noConfusion e)]
    rfl
  · rw [if_pos ((JC_bit hJ hn).mpr e)]
    rfl
theorem RC_pws {s : aS} {L : List (Nat × Nat)} {o nd am : Nat → Int32} {c : Nat} {j : Int32} (hB : BC s.2.1 L o nd am c) (hJ : JC s.2.2.2.2.1 j) (m : Int32) : pwsR nd am c j m 16 = a_pwm s m 16 := by
  unfold pwsR a_pwm
  exact sm_congr (fun n hn => by rw [RC_pw hB hJ hn])
theorem a_pwm_all (s : aS) : a_pwm s 65535 16 = sm (a_pw s) 16 := by
  unfold a_pwm
  refine sm_congr (fun n hn => ?_)
  rw [if_pos ((bit1 65535 (by omega)).mpr (by rw [b_65535]; simp [hn]))]
theorem RC_all {s : aS} {L : List (Nat × Nat)} {o nd am : Nat → Int32} {c : Nat} {j : Int32} (hB : BC s.2.1 L o nd am c) (hJ : JC s.2.2.2.2.1 j) : pwsR nd am c j 65535 16 = sm (a_pw s) 16 := by rw [RC_pws hB hJ, a_pwm_all]
theorem a_all_nn {T : Nat} {s : aS} (h : IV T s) (hT : T ≤ 1000) : 0 ≤ (sm (a_pw s) 16).toInt := by
  have e : sm (a_pw s) 16 = a_pws s 65535 := by
    unfold a_pws
    exact sm_congr (fun n hn => by rw [if_pos (by rw [b_65535]; simp [hn])])
  rw [e]
  exact a_pws_nn h.1 hT 65535
theorem aff0 (b : Nat → Int32) (x : Nat) (p : Int32) : affR b x 0 p ↔ 1 ≤ b x := by
  unfold affR
  refine ⟨fun h => h.1, fun h => ⟨h, ?_⟩⟩
  have h1 := Int32.le_iff_toInt_le.mp h
  have e1 : (1 : Int32).toInt = 1 := rfl
  have e0 : (0 : Int32).toInt = 0 := rfl
  rw [e1] at h1
  by_cases e : p = nI x
  · rw [if_pos e]
    exact Int32.le_iff_toInt_le.mpr (by rw [e0]; omega)
  · rw [if_neg e]
    exact Int32.le_iff_toInt_le.mpr (by rw [e0, i_sub (by omega) (by rw [e1]; omega), e1]; omega)
def rs (s : aS) (r : qR) : aS := match r.2.2 with
  | none => s
  | some o => a_step o s
