/-! The list of bonds, changed. -/
theorem k16 {a b x n : Nat} (hb : b < 16) (hn : n < 16) (h : 16 * a + b = 16 * x + n) : (a, b) = (x, n) := by
  have h1 : a = x := by omega
  have h2 : b = n := by omega
  rw [h1, h2]
theorem BC_set {bd : Nat → Int32} {L : List (Nat × Nat)} {o nd am : Nat → Int32} {c : Nat} (h : BC bd L o nd am c) {x n i : Nat} {z : Int32} (hx : x < 200) (hn : n < 16) (hf : fnd o nd c (nI x) (nI n) i) (hz : ¬ z = 0) : BC (upd bd (16 * x + n) z) L o nd (upd am i z) c := by
  obtain ⟨f1, f2, f3, f4⟩ := BC_fnd h hx hn hf
  obtain ⟨h1, h2, h3, h4, h5, h6⟩ := h
  refine ⟨h1, h2, h3, h4, fun k hk => ?_, fun a b ha hb => ?_⟩
  · obtain ⟨e1, e2, e3⟩ := h5 k hk
    refine ⟨e1, e2, ?_⟩
    by_cases e : k = i
    · subst e
      simp [upd, f2]
    · have hk2 := h4 _ (ky_mem (show k < L.length by omega))
      have : ¬ 16 * (ky L k).1 + (ky L k).2 = 16 * x + n := fun z => by
        have e9 := k16 hk2.2 hn z
        exact e (ky_inj h3 (by omega) (by omega) (e9.trans f2.symm))
      simp only [upd, e, this, if_false]
      exact e3
  · by_cases e : 16 * a + b = 16 * x + n
    · have e9 := k16 hb hn e
      simp only [upd, e, if_true]
      rw [e9]
      exact ⟨fun _ => hz, fun _ => f4⟩
    · simp only [upd, e, if_false]
      exact h6 a b ha hb
theorem ky_app_lt {L : List (Nat × Nat)} {q : Nat × Nat} {i : Nat} (h : i < L.length) : ky (L ++ [q]) i = ky L i := by
  unfold ky
  rw [List.getD_eq_getElem?_getD, List.getD_eq_getElem?_getD, List.getElem?_append_left h]
theorem ky_app_at {L : List (Nat × Nat)} {q : Nat × Nat} : ky (L ++ [q]) L.length = q := by
  unfold ky
  rw [List.getD_eq_getElem?_getD, List.getElem?_append_right (Nat.le_refl _), Nat.sub_self]
  rfl
theorem BC_new {bd : Nat → Int32} {L : List (Nat × Nat)} {o nd am : Nat → Int32} {c : Nat} (h : BC bd L o nd am c) {x n : Nat} {z : Int32} (hx : x < 200) (hn : n < 16) (hf : nfd o nd c (nI x) (nI n)) (hc : c < 96) (hz : ¬ z = 0) : BC (upd bd (16 * x + n) z) (L ++ [(x, n)]) (upd o c (nI x)) (upd nd c (nI n)) (upd am c z) (c + 1) := by
  have hm := (BC_nfd h hx hn hf).1
  obtain ⟨h1, h2, h3, h4, h5, h6⟩ := h
  refine ⟨by rw [List.length_append, h1]; rfl, hc, ?_, fun q hq => ?_, fun k hk => ?_, fun a b ha hb => ?_⟩
  · rw [List.nodup_append]
    refine ⟨h3, List.nodup_cons.mpr ⟨by simp, List.nodup_nil⟩, fun a ha b hb e => ?_⟩
    rw [List.mem_singleton] at hb
    subst hb
    subst e
    exact hm ha
  · rcases List.mem_append.mp hq with hq | hq
    · exact h4 q hq
    · rw [List.mem_singleton] at hq
      subst hq
      exact ⟨hx, hn⟩
  · by_cases e : k = c
    · subst e
      rw [h1, ky_app_at]
      simp [upd]
    · have hkl : k < L.length := by omega
      obtain ⟨e1, e2, e3⟩ := h5 k (by omega)
      have hmk := ky_mem hkl
      have hk2 := h4 _ hmk
      rw [ky_app_lt hkl]
      have : ¬ 16 * (ky L k).1 + (ky L k).2 = 16 * x + n := fun z => by
        have e9 : ky L k = (x, n) := k16 hk2.2 hn z
        rw [e9] at hmk
        exact hm hmk
      simp only [upd, e, this, if_false]
      exact ⟨e1, e2, e3⟩
  · by_cases e : 16 * a + b = 16 * x + n
    · have e9 := k16 hb hn e
      simp only [upd, e, if_true]
      rw [e9]
      exact ⟨fun _ => hz, fun _ => List.mem_append.mpr (.inr (List.mem_singleton.mpr rfl))⟩
    · simp only [upd, e, if_false]
      rw [← h6 a b ha hb]
      constructor
      · intro hq
        rcases List.mem_append.mp hq with hq | hq
        · exact hq
        · rw [List.mem_singleton] at hq
          cases hq
          exact absurd rfl e
      · exact fun hq => List.mem_append.mpr (.inl hq)
/-- the list with its last in the place i -/
def dl (L : List (Nat × Nat)) (i : Nat) : List (Nat × Nat) := (List.range (L.length - 1)).map (fun k => if k = i then ky L (L.length - 1) else ky L k)
theorem dl_len (L : List (Nat × Nat)) (i : Nat) : (dl L i).length = L.length - 1 := by unfold dl; rw [List.length_map, List.length_range]
theorem dl_ky {L : List (Nat × Nat)} {i k : Nat} (h : k < L.length - 1) : ky (dl L i) k = if k = i then ky L (L.length - 1) else ky L k := by
  have : (dl L i)[k]? = some (if k = i then ky L (L.length - 1) else ky L k) := by
    unfold dl
    rw [List.getElem?_map, List.getElem?_range h]
    rfl
  have h2 := ky_get (L := dl L i) (j := k) (by rw [dl_len]; exact h)
  rw [this] at h2
  exact (Option.some.inj h2).symm
theorem dl_mem {L : List (Nat × Nat)} (hn : L.Nodup) {i : Nat} (hi : i < L.length) (q : Nat × Nat) : q ∈ dl L i ↔ (q ∈ L ∧ ¬ q = ky L i) := by
  constructor
  · intro hq
    obtain ⟨k, hk, e⟩ := ky_of_mem hq
    rw [dl_len] at hk
    rw [dl_ky hk] at e
    by_cases z : k = i
    · rw [if_pos z] at e
      rw [← e]
      refine ⟨ky_mem (by omega), fun y => ?_⟩
      have := ky_inj hn (by omega) hi y
      omega
    · rw [if_neg z] at e
      rw [← e]
      exact ⟨ky_mem (by omega), fun y => z (ky_inj hn (by omega) hi y)⟩
  · intro ⟨hq, hne⟩
    obtain ⟨k, hk, e⟩ := ky_of_mem hq
    have hki : ¬ k = i := fun z => hne (by rw [← e, z])
    by_cases z : k = L.length - 1
    · have hil : i < L.length - 1 := by omega
      have e2 := dl_ky (i := i) hil
      rw [if_pos rfl, ← z, e] at e2
      rw [← e2]
      exact ky_mem (by rw [dl_len]; exact hil)
    · have e2 := dl_ky (L := L) (i := i) (show k < L.length - 1 by omega)
      rw [if_neg hki, e] at e2
      rw [← e2]
      exact ky_mem (by rw [dl_len]; omega)
theorem dl_nodup {L : List (Nat × Nat)} (hn : L.Nodup) {i : Nat} (hi : i < L.length) : (dl L i).Nodup := by
  unfold dl
  show List.Pairwise _ _
  rw [List.pairwise_map]
  have hr : (List.range (L.length - 1)).Pairwise (fun a b => a ≠ b) := List.nodup_range
  refine hr.imp_of_mem (fun {a b} ha hb hab => ?_)
  rw [List.mem_range] at ha hb
  intro e
  by_cases z1 : a = i
  · by_cases z2 : b = i
    · exact hab (z1.trans z2.symm)
    · rw [if_pos z1, if_neg z2] at e
      have := ky_inj hn (by omega) (by omega) e
      omega
  · by_cases z2 : b = i
    · rw [if_neg z1, if_pos z2] at e
      have := ky_inj hn (by omega) (by omega) e
      omega
    · rw [if_neg z1, if_neg z2] at e
      exact hab (ky_inj hn (by omega) (by omega) e)
theorem BC_del {bd : Nat → Int32} {L : List (Nat × Nat)} {o nd am : Nat → Int32} {c : Nat} (h : BC bd L o nd am c) {x n i : Nat} (z : Int32) (hx : x < 200) (hn : n < 16) (hf : fnd o nd c (nI x) (nI n) i) (hz : z = 0) : BC (upd bd (16 * x + n) z) (dl L i) (upd o i (o (c - 1))) (upd nd i (nd (c - 1))) (upd (upd am i z) i (upd am i z (c - 1))) (c - 1) := by
  obtain ⟨f1, f2, f3, f4⟩ := BC_fnd h hx hn hf
  obtain ⟨h1, h2, h3, h4, h5, h6⟩ := h
  have hil : i < L.length := by omega
  have off : ∀ k, k < L.length → ¬ k = i → ¬ 16 * (ky L k).1 + (ky L k).2 = 16 * x + n := fun k hk e z => by
    have e9 := k16 (h4 _ (ky_mem hk)).2 hn z
    exact e (ky_inj h3 hk hil (e9.trans f2.symm))
  refine ⟨by rw [dl_len, h1], by omega, dl_nodup h3 hil, fun q hq => h4 q ((dl_mem h3 hil q).mp hq).1, fun k hk => ?_, fun a b ha hb => ?_⟩
  · rw [dl_ky (show k < L.length - 1 by omega)]
    by_cases e : k = i
    · have hci : ¬ c - 1 = i := by omega
      have hlc : L.length - 1 = c - 1 := by omega
      obtain ⟨e1, e2, e3⟩ := h5 (c - 1) (by omega)
      have := off (c - 1) (by omega) hci
      rw [if_pos e, hlc]
      simp only [upd, e, if_true, hci, this, if_false]
      exact ⟨e1, e2, e3⟩
    · obtain ⟨e1, e2, e3⟩ := h5 k (by omega)
      have := off k (by omega) e
      rw [if_neg e]
      simp only [upd, e, this, if_false]
      exact ⟨e1, e2, e3⟩
  · rw [dl_mem h3 hil, f2]
    by_cases e : 16 * a + b = 16 * x + n
    · have e9 := k16 hb hn e
      simp only [upd, e, if_true]
      exact ⟨fun q => absurd e9 q.2, fun q => absurd hz q⟩
    · simp only [upd, e, if_false]
      rw [h6 a b ha hb]
      exact ⟨fun q => q.1, fun q => ⟨q, fun w => by cases w; exact e rfl⟩⟩
theorem cut0 {v : Int32} (h : 0 ≤ v.toInt) : v - v / 4 = 0 ↔ v = 0 := by
  constructor
  · intro e
    have e1 := congrArg Int32.toInt e
    rw [i_sub h (by rw [i_div4 h]; omega), i_div4 h] at e1
    have z0 : (0 : Int32).toInt = 0 := rfl
    exact Int32.toInt_inj.mp (by rw [z0] at e1 ⊢; omega)
  · intro e
    subst e
    decide
theorem BC_cut {bd : Nat → Int32} {L : List (Nat × Nat)} {o nd am am' : Nat → Int32} {c n : Nat} (h : BC bd L o nd am c) (hp : ∀ k, k < 3200 → 0 ≤ (bd k).toInt) (hn : n < 16) (ha : ∀ k, am' k = if k < c ∧ nd k = nI n then am k - am k / 4 else am k) : BC (a_cut bd n) L o nd am' c := by
  obtain ⟨h1, h2, h3, h4, h5, h6⟩ := h
  refine ⟨h1, h2, h3, h4, fun k hk => ?_, fun a b hx hb => ?_⟩
  · obtain ⟨e1, e2, e3⟩ := h5 k hk
    have hk2 := h4 _ (ky_mem (show k < L.length by omega))
    refine ⟨e1, e2, ?_⟩
    rw [ha k]
    unfold a_cut
    have hmod : (16 * (ky L k).1 + (ky L k).2) % 16 = (ky L k).2 := by omega
    rw [hmod]
    by_cases e : (ky L k).2 = n
    · rw [if_pos ⟨hk, by rw [e2, e]⟩, if_pos e, e3]
    · rw [if_neg (fun z => e ((nI_eq (by omega) (by omega)).mp (e2.symm.trans z.2))), if_neg e, e3]
  · rw [h6 a b hx hb]
    unfold a_cut
    by_cases e : (16 * a + b) % 16 = n
    · rw [if_pos e, cut0 (hp _ (by omega))]
    · rw [if_neg e]
