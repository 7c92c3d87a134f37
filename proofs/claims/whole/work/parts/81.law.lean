/-! The law's wrappers. -/
abbrev lo_ar (cL : ClassId) (f : Nat → Int64) : va_E := .inl (cL, 1, .inr (.inl f))
def l_pre (D : va_G) (cI cZ cL : ClassId) (ad : Nat → Nat) (ou : Nat) (f : Nat → Int64) (w : mW) (sz : Nat) (as : List Value) : Array Value → State → Prop :=
  va_Pc as (fun U => U.heap.size = sz ∧ va_P D m_cl (m_ws cI cZ ad w 0 ++ [(ou, lo_ar cL f)]) U.heap ∧ va_K D m_cl (z_ty cI cZ ++ [(cL, .long)]) U ∧ va_D (fun _ => True) (m_ws cI cZ ad w 0 ++ [(ou, lo_ar cL f)]) ∧ (∀ x ∈ xw, va_Nw x U) ∧ vx_Zq Bundle.tN "UNASSIGNED_STACK" Bundle.steD (va_A (m_ws cI cZ ad w 0 ++ [(ou, lo_ar cL f)]) sz) U U.heap ∧ vx_Zq Bundle.tN "SUPPRESSED_SENTINEL" Bundle.listD (va_A (m_ws cI cZ ad w 0 ++ [(ou, lo_ar cL f)]) sz) U U.heap ∧ va_Nc (exn 1) (exn 0) U ∧ va_Nc (exn 0) (exn 2) U)
def l_post (D : va_G) (cI cZ cL : ClassId) (ad : Nat → Nat) (ou : Nat) (A : Nat → Prop) (s0 : aS) (r : qR) : Array Value → State → Outcome → State → Prop :=
  fun _ st oc t => (∃ w f, oc = .returned (some (.int (nI r.1))) ∧ RCw (rs s0 r) [] w ∧ (r.1 = 0 → f 0 = r.2.1.toInt64) ∧ va_P D m_cl (m_ws cI cZ ad w 0 ++ [(ou, lo_ar cL f)]) t.heap) ∧ va_F A st t
abbrev hh_pay : List (Nat × Nat × Nat × Nat) := [(0, 14, 17, 13), (0, 14, 21, 15)]
theorem cd_La_pay : Jvm.Cond.codeWith y_La_pay method_3_code 7 (some .int) hh_pay ∈ gw := m_ing (by decide +kernel) (by decide +kernel)
theorem lk_pay : Jvm.Cond.methodLink R_La 7 y_Le_pay ∈ gw := m_ing (by decide +kernel) (by decide +kernel)
theorem lk_13 : Jvm.Cond.classLink R_La 13 (exn 0) ∈ gw := m_ing (by decide +kernel) (by decide +kernel)
theorem lk_15 : Jvm.Cond.classLink R_La 15 (exn 1) ∈ gw := m_ing (by decide +kernel) (by decide +kernel)
theorem ks_0 : Jvm.Cond.castable (exn 0) (exn 0) ∈ xw := m_inx (by decide +kernel) (by decide +kernel)
theorem ks_1 : Jvm.Cond.castable (exn 1) (exn 1) ∈ xw := m_inx (by decide +kernel) (by decide +kernel)
theorem ks_2 : Jvm.Cond.castable (exn 2) (exn 2) ∈ xw := m_inx (by decide +kernel) (by decide +kernel)
theorem se_pay : Jvm.Cond.selects R_Le y_Le_pay y_Le_pay ∈ gw := m_ing (by decide +kernel) (by decide +kernel)
theorem im_pay : Jvm.Cond.instanceMethod y_Le_pay ∈ gw := m_ing (by decide +kernel) (by decide +kernel)
theorem in_Le0 : Jvm.Cond.initialized R_Le ∈ gw := m_ing (by decide +kernel) (by decide +kernel)
