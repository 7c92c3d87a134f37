/-! The bonds' methods. -/
def rm1 : Room := { frames := 0, cells := 0, slots := 0, locals := 0 }
theorem nI_lt_of {a b : Nat} (ha : a < 2 ^ 31) (hb : b < 2 ^ 31) (h : ¬ nI b ≤ nI a) : a < b := by
  rw [nI_leI hb ha] at h
  omega
theorem nI_ge_of {a b : Nat} (ha : a < 2 ^ 31) (hb : b < 2 ^ 31) (h : nI b ≤ nI a) : b ≤ a := (nI_leI hb ha).mp h
theorem m_none {α : Type} {P : α → Prop} : ∀ q ∈ ([] : List α), P q := fun _ h => absurd h List.not_mem_nil
set_option maxHeartbeats 4000000 in
theorem c_find : m_Met true y_Bo_find ws_Bo_find nw rm1 ct_find := by
  refine m_Met_of (by decide +kernel) (fun as w K h => by obtain ⟨_, _, _, _, _, _, _, _, _, rfl, _⟩ := h; exact Nat.le_of_ble_eq_true rfl) ?_
  intro E as w K C hm hret hct
  obtain ⟨c0, c1, o, nd, am, ex, c, a, n, rfl, rfl, hc, hK1, hK2⟩ := hct
  have hT : m_TOk E c_Bo_find R_Bo (true, fl_Bo, [], [], [], []) (m_Rt (some .int) K) := ⟨(fun h => nomatch h), get_Bo C, m_none, m_none, m_none, m_none, hret⟩
  have loop : ∀ i lo st w, (∃ j, i = c - j ∧ j ≤ c ∧ lo = [some (.inr 2), some (.inl a), some (.inl n), some (.inl (nI j))] ∧ st = [] ∧ w = bW c0 c1 o nd am (nI c) ex ∧ ∀ q, q < j → ¬ (o q = a ∧ nd q = n)) → m_W E 2 lo st w := by
    refine m_loop (fun i lo st w hI ih => ?_)
    obtain ⟨j, rfl, hj, rfl, rfl, rfl, hn⟩ := hI
    refine m_walk C hT wf_Bo_find [2] 30 ?_
    refine And.intro (fun h => ?_) (fun h => ?_)
    · have : j = c := by have := nI_ge_of (by omega) (by omega) h; omega
      subst this
      exact hK2 hn
    · have hlt := nI_lt_of (by omega) (by omega) h
      refine m_ix (by omega) (And.intro (fun h1 => ?_) (fun h1 => ?_))
      · exact ih (c - (j + 1)) _ _ _ (by omega) ⟨j + 1, rfl, hlt, by rw [nI_1], rfl, rfl, fun q hq => by
          by_cases e : q = j
          · subst e; exact fun z => h1 z.1
          · exact hn q (by omega)⟩
      · refine m_ix (by omega) (And.intro (fun h2 => ?_) (fun h2 => ?_))
        · exact ih (c - (j + 1)) _ _ _ (by omega) ⟨j + 1, rfl, hlt, by rw [nI_1], rfl, rfl, fun q hq => by
            by_cases e : q = j
            · subst e; exact fun z => h2 z.2
            · exact hn q (by omega)⟩
        · exact hK1 j ⟨hlt, h1, h2, hn⟩
  refine m_walk C hT wf_Bo_find [2] 30 ?_
  exact loop c _ _ _ ⟨0, rfl, Nat.zero_le _, rfl, rfl, rfl, fun q hq => absurd hq (Nat.not_lt_zero q)⟩
