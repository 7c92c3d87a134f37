/-! Fields and calls of each class, by its own constant pool. Written by wip/whole/gen_names.py. -/
theorem cd_Le_init : Jvm.Cond.code y_Le_init c_Le_init 1 none ∈ gw := m_ing (by decide +kernel) (by decide +kernel)
abbrev ws_Le_init : List Jvm.Cond := .code y_Le_init c_Le_init 1 none :: gw
theorem cd_St_init : Jvm.Cond.code y_St_init c_St_init 1 none ∈ gw := m_ing (by decide +kernel) (by decide +kernel)
abbrev ws_St_init : List Jvm.Cond := .code y_St_init c_St_init 1 none :: gw
theorem cd_Bo_init : Jvm.Cond.code y_Bo_init c_Bo_init 1 none ∈ gw := m_ing (by decide +kernel) (by decide +kernel)
abbrev ws_Bo_init : List Jvm.Cond := .code y_Bo_init c_Bo_init 1 none :: gw
theorem cd_Re_init : Jvm.Cond.code y_Re_init c_Re_init 1 none ∈ gw := m_ing (by decide +kernel) (by decide +kernel)
abbrev ws_Re_init : List Jvm.Cond := .code y_Re_init c_Re_init 1 none :: gw
theorem cd_St_becomeFirst : Jvm.Cond.code y_St_becomeFirst c_St_becomeFirst 1 none ∈ gw := m_ing (by decide +kernel) (by decide +kernel)
abbrev ws_St_becomeFirst : List Jvm.Cond := .code y_St_becomeFirst c_St_becomeFirst 1 none :: gw
theorem cd_Ar_fill : Jvm.Cond.code y_Ar_fill c_Ar_fill 4 none ∈ gw := m_ing (by decide +kernel) (by decide +kernel)
abbrev ws_Ar_fill : List Jvm.Cond := .code y_Ar_fill c_Ar_fill 4 none :: gw
theorem cd_Bo_becomeFirst : Jvm.Cond.code y_Bo_becomeFirst c_Bo_becomeFirst 2 none ∈ gw := m_ing (by decide +kernel) (by decide +kernel)
abbrev ws_Bo_becomeFirst : List Jvm.Cond := .code y_Bo_becomeFirst c_Bo_becomeFirst 2 none :: gw
theorem cd_Le_share : Jvm.Cond.code y_Le_share c_Le_share 4 (some .int) ∈ gw := m_ing (by decide +kernel) (by decide +kernel)
abbrev ws_Le_share : List Jvm.Cond := .code y_Le_share c_Le_share 4 (some .int) :: gw
theorem cd_St_powerOf : Jvm.Cond.code y_St_powerOf c_St_powerOf 4 (some .int) ∈ gw := m_ing (by decide +kernel) (by decide +kernel)
abbrev ws_St_powerOf : List Jvm.Cond := .code y_St_powerOf c_St_powerOf 4 (some .int) :: gw
theorem cd_St_power : Jvm.Cond.code y_St_power c_St_power 2 (some .int) ∈ gw := m_ing (by decide +kernel) (by decide +kernel)
abbrev ws_St_power : List Jvm.Cond := .code y_St_power c_St_power 2 (some .int) :: gw
theorem cd_St_isJailed : Jvm.Cond.code y_St_isJailed c_St_isJailed 2 (some .boolean) ∈ gw := m_ing (by decide +kernel) (by decide +kernel)
abbrev ws_St_isJailed : List Jvm.Cond := .code y_St_isJailed c_St_isJailed 2 (some .boolean) :: gw
theorem cd_Bo_amountWith : Jvm.Cond.code y_Bo_amountWith c_Bo_amountWith 4 (some .int) ∈ gw := m_ing (by decide +kernel) (by decide +kernel)
abbrev ws_Bo_amountWith : List Jvm.Cond := .code y_Bo_amountWith c_Bo_amountWith 4 (some .int) :: gw
theorem cd_Le_pay : Jvm.Cond.code y_Le_pay c_Le_pay 5 (some .int) ∈ gw := m_ing (by decide +kernel) (by decide +kernel)
abbrev ws_Le_pay : List Jvm.Cond := .code y_Le_pay c_Le_pay 5 (some .int) :: gw
theorem cd_Le_isAccount : Jvm.Cond.code y_Le_isAccount c_Le_isAccount 1 (some .boolean) ∈ gw := m_ing (by decide +kernel) (by decide +kernel)
abbrev ws_Le_isAccount : List Jvm.Cond := .code y_Le_isAccount c_Le_isAccount 1 (some .boolean) :: gw
theorem cd_Le_isAmount : Jvm.Cond.code y_Le_isAmount c_Le_isAmount 1 (some .boolean) ∈ gw := m_ing (by decide +kernel) (by decide +kernel)
abbrev ws_Le_isAmount : List Jvm.Cond := .code y_Le_isAmount c_Le_isAmount 1 (some .boolean) :: gw
theorem cd_Le_isFeeTaker : Jvm.Cond.code y_Le_isFeeTaker c_Le_isFeeTaker 1 (some .boolean) ∈ gw := m_ing (by decide +kernel) (by decide +kernel)
abbrev ws_Le_isFeeTaker : List Jvm.Cond := .code y_Le_isFeeTaker c_Le_isFeeTaker 1 (some .boolean) :: gw
theorem cd_St_affords : Jvm.Cond.code y_St_affords c_St_affords 5 (some .boolean) ∈ gw := m_ing (by decide +kernel) (by decide +kernel)
abbrev ws_St_affords : List Jvm.Cond := .code y_St_affords c_St_affords 5 (some .boolean) :: gw
theorem cd_St_takeFee : Jvm.Cond.code y_St_takeFee c_St_takeFee 3 none ∈ gw := m_ing (by decide +kernel) (by decide +kernel)
abbrev ws_St_takeFee : List Jvm.Cond := .code y_St_takeFee c_St_takeFee 3 none :: gw
theorem cd_Le_bond : Jvm.Cond.code y_Le_bond c_Le_bond 5 (some .int) ∈ gw := m_ing (by decide +kernel) (by decide +kernel)
abbrev ws_Le_bond : List Jvm.Cond := .code y_Le_bond c_Le_bond 5 (some .int) :: gw
theorem cd_Le_isNode : Jvm.Cond.code y_Le_isNode c_Le_isNode 1 (some .boolean) ∈ gw := m_ing (by decide +kernel) (by decide +kernel)
abbrev ws_Le_isNode : List Jvm.Cond := .code y_Le_isNode c_Le_isNode 1 (some .boolean) :: gw
theorem cd_Bo_hasPlaceFor : Jvm.Cond.code y_Bo_hasPlaceFor c_Bo_hasPlaceFor 3 (some .boolean) ∈ gw := m_ing (by decide +kernel) (by decide +kernel)
abbrev ws_Bo_hasPlaceFor : List Jvm.Cond := .code y_Bo_hasPlaceFor c_Bo_hasPlaceFor 3 (some .boolean) :: gw
theorem cd_Bo_find : Jvm.Cond.code y_Bo_find c_Bo_find 4 (some .int) ∈ gw := m_ing (by decide +kernel) (by decide +kernel)
abbrev ws_Bo_find : List Jvm.Cond := .code y_Bo_find c_Bo_find 4 (some .int) :: gw
theorem cd_Bo_increase : Jvm.Cond.code y_Bo_increase c_Bo_increase 5 none ∈ gw := m_ing (by decide +kernel) (by decide +kernel)
abbrev ws_Bo_increase : List Jvm.Cond := .code y_Bo_increase c_Bo_increase 5 none :: gw
theorem cd_Bo_amountOf : Jvm.Cond.code y_Bo_amountOf c_Bo_amountOf 4 (some .int) ∈ gw := m_ing (by decide +kernel) (by decide +kernel)
abbrev ws_Bo_amountOf : List Jvm.Cond := .code y_Bo_amountOf c_Bo_amountOf 4 (some .int) :: gw
theorem cd_Le_unbond : Jvm.Cond.code y_Le_unbond c_Le_unbond 5 (some .int) ∈ gw := m_ing (by decide +kernel) (by decide +kernel)
abbrev ws_Le_unbond : List Jvm.Cond := .code y_Le_unbond c_Le_unbond 5 (some .int) :: gw
theorem cd_Re_isFull : Jvm.Cond.code y_Re_isFull c_Re_isFull 1 (some .boolean) ∈ gw := m_ing (by decide +kernel) (by decide +kernel)
abbrev ws_Re_isFull : List Jvm.Cond := .code y_Re_isFull c_Re_isFull 1 (some .boolean) :: gw
theorem cd_Bo_decrease : Jvm.Cond.code y_Bo_decrease c_Bo_decrease 5 none ∈ gw := m_ing (by decide +kernel) (by decide +kernel)
abbrev ws_Bo_decrease : List Jvm.Cond := .code y_Bo_decrease c_Bo_decrease 5 none :: gw
theorem cd_Bo_remove : Jvm.Cond.code y_Bo_remove c_Bo_remove 2 none ∈ gw := m_ing (by decide +kernel) (by decide +kernel)
abbrev ws_Bo_remove : List Jvm.Cond := .code y_Bo_remove c_Bo_remove 2 none :: gw
theorem cd_Re_append : Jvm.Cond.code y_Re_append c_Re_append 4 none ∈ gw := m_ing (by decide +kernel) (by decide +kernel)
abbrev ws_Re_append : List Jvm.Cond := .code y_Re_append c_Re_append 4 none :: gw
theorem cd_Le_free : Jvm.Cond.code y_Le_free c_Le_free 4 (some .int) ∈ gw := m_ing (by decide +kernel) (by decide +kernel)
abbrev ws_Le_free : List Jvm.Cond := .code y_Le_free c_Le_free 4 (some .int) :: gw
theorem cd_Le_prove : Jvm.Cond.code y_Le_prove c_Le_prove 6 (some .int) ∈ gw := m_ing (by decide +kernel) (by decide +kernel)
abbrev ws_Le_prove : List Jvm.Cond := .code y_Le_prove c_Le_prove 6 (some .int) :: gw
theorem cd_Bo_cutQuarters : Jvm.Cond.code y_Bo_cutQuarters c_Bo_cutQuarters 5 (some .int) ∈ gw := m_ing (by decide +kernel) (by decide +kernel)
abbrev ws_Bo_cutQuarters : List Jvm.Cond := .code y_Bo_cutQuarters c_Bo_cutQuarters 5 (some .int) :: gw
theorem cd_Le_next : Jvm.Cond.code y_Le_next c_Le_next 1 (some .int) ∈ gw := m_ing (by decide +kernel) (by decide +kernel)
abbrev ws_Le_next : List Jvm.Cond := .code y_Le_next c_Le_next 1 (some .int) :: gw
theorem cd_Re_release : Jvm.Cond.code y_Re_release c_Re_release 5 (some .int) ∈ gw := m_ing (by decide +kernel) (by decide +kernel)
abbrev ws_Re_release : List Jvm.Cond := .code y_Re_release c_Re_release 5 (some .int) :: gw
theorem cd_Le_keep : Jvm.Cond.code y_Le_keep c_Le_keep 2 none ∈ gw := m_ing (by decide +kernel) (by decide +kernel)
abbrev ws_Le_keep : List Jvm.Cond := .code y_Le_keep c_Le_keep 2 none :: gw
theorem cd_Le_isKeptState : Jvm.Cond.code y_Le_isKeptState c_Le_isKeptState 1 (some .boolean) ∈ gw := m_ing (by decide +kernel) (by decide +kernel)
abbrev ws_Le_isKeptState : List Jvm.Cond := .code y_Le_isKeptState c_Le_isKeptState 1 (some .boolean) :: gw
theorem cd_St_become : Jvm.Cond.code y_St_become c_St_become 2 none ∈ gw := m_ing (by decide +kernel) (by decide +kernel)
abbrev ws_St_become : List Jvm.Cond := .code y_St_become c_St_become 2 none :: gw
theorem cd_Bo_become : Jvm.Cond.code y_Bo_become c_Bo_become 2 none ∈ gw := m_ing (by decide +kernel) (by decide +kernel)
abbrev ws_Bo_become : List Jvm.Cond := .code y_Bo_become c_Bo_become 2 none :: gw
theorem cd_Re_become : Jvm.Cond.code y_Re_become c_Re_become 2 none ∈ gw := m_ing (by decide +kernel) (by decide +kernel)
abbrev ws_Re_become : List Jvm.Cond := .code y_Re_become c_Re_become 2 none :: gw
theorem cd_Le_back : Jvm.Cond.code y_Le_back c_Le_back 2 (some .int) ∈ gw := m_ing (by decide +kernel) (by decide +kernel)
abbrev ws_Le_back : List Jvm.Cond := .code y_Le_back c_Le_back 2 (some .int) :: gw
theorem cd_Le_account : Jvm.Cond.code y_Le_account c_Le_account 3 (some .int) ∈ gw := m_ing (by decide +kernel) (by decide +kernel)
abbrev ws_Le_account : List Jvm.Cond := .code y_Le_account c_Le_account 3 (some .int) :: gw
theorem cd_Re_amountOf : Jvm.Cond.code y_Re_amountOf c_Re_amountOf 4 (some .int) ∈ gw := m_ing (by decide +kernel) (by decide +kernel)
abbrev ws_Re_amountOf : List Jvm.Cond := .code y_Re_amountOf c_Re_amountOf 4 (some .int) :: gw
theorem cd_Le_sum : Jvm.Cond.code y_Le_sum c_Le_sum 2 (some .int) ∈ gw := m_ing (by decide +kernel) (by decide +kernel)
abbrev ws_Le_sum : List Jvm.Cond := .code y_Le_sum c_Le_sum 2 (some .int) :: gw
theorem cd_St_everything : Jvm.Cond.code y_St_everything c_St_everything 3 (some .int) ∈ gw := m_ing (by decide +kernel) (by decide +kernel)
abbrev ws_St_everything : List Jvm.Cond := .code y_St_everything c_St_everything 3 (some .int) :: gw
theorem cd_Bo_total : Jvm.Cond.code y_Bo_total c_Bo_total 3 (some .int) ∈ gw := m_ing (by decide +kernel) (by decide +kernel)
abbrev ws_Bo_total : List Jvm.Cond := .code y_Bo_total c_Bo_total 3 (some .int) :: gw
theorem cd_Re_total : Jvm.Cond.code y_Re_total c_Re_total 3 (some .int) ∈ gw := m_ing (by decide +kernel) (by decide +kernel)
abbrev ws_Re_total : List Jvm.Cond := .code y_Re_total c_Re_total 3 (some .int) :: gw
theorem cd_Le_proposer : Jvm.Cond.code y_Le_proposer c_Le_proposer 7 (some .int) ∈ gw := m_ing (by decide +kernel) (by decide +kernel)
abbrev ws_Le_proposer : List Jvm.Cond := .code y_Le_proposer c_Le_proposer 7 (some .int) :: gw
theorem cd_Mo_init : Jvm.Cond.code y_Mo_init c_Mo_init 1 none ∈ gw := m_ing (by decide +kernel) (by decide +kernel)
abbrev ws_Mo_init : List Jvm.Cond := .code y_Mo_init c_Mo_init 1 none :: gw
theorem cd_Mo_thrown : Jvm.Cond.code y_Mo_thrown c_Mo_thrown 1 (some .int) ∈ gw := m_ing (by decide +kernel) (by decide +kernel)
abbrev ws_Mo_thrown : List Jvm.Cond := .code y_Mo_thrown c_Mo_thrown 1 (some .int) :: gw
theorem cd_Mo_pay : Jvm.Cond.code y_Mo_pay c_Mo_pay 5 (some .int) ∈ gw := m_ing (by decide +kernel) (by decide +kernel)
abbrev ws_Mo_pay : List Jvm.Cond := .code y_Mo_pay c_Mo_pay 5 (some .int) :: gw
theorem cd_Mo_in : Jvm.Cond.code y_Mo_in c_Mo_in 3 (some .boolean) ∈ gw := m_ing (by decide +kernel) (by decide +kernel)
abbrev ws_Mo_in : List Jvm.Cond := .code y_Mo_in c_Mo_in 3 (some .boolean) :: gw
theorem cd_Mo_work : Jvm.Cond.code y_Mo_work c_Mo_work 4 none ∈ gw := m_ing (by decide +kernel) (by decide +kernel)
abbrev ws_Mo_work : List Jvm.Cond := .code y_Mo_work c_Mo_work 4 none :: gw
theorem cd_Mo_first : Jvm.Cond.code y_Mo_first c_Mo_first 2 none ∈ gw := m_ing (by decide +kernel) (by decide +kernel)
abbrev ws_Mo_first : List Jvm.Cond := .code y_Mo_first c_Mo_first 2 none :: gw
theorem cd_Mo_done : Jvm.Cond.code y_Mo_done c_Mo_done 6 none ∈ gw := m_ing (by decide +kernel) (by decide +kernel)
abbrev ws_Mo_done : List Jvm.Cond := .code y_Mo_done c_Mo_done 6 none :: gw
theorem cd_Mo_next2 : Jvm.Cond.code y_Mo_next2 c_Mo_next2 3 none ∈ gw := m_ing (by decide +kernel) (by decide +kernel)
abbrev ws_Mo_next2 : List Jvm.Cond := .code y_Mo_next2 c_Mo_next2 3 none :: gw
theorem cd_Mo_isPaid : Jvm.Cond.code y_Mo_isPaid c_Mo_isPaid 4 (some .boolean) ∈ gw := m_ing (by decide +kernel) (by decide +kernel)
abbrev ws_Mo_isPaid : List Jvm.Cond := .code y_Mo_isPaid c_Mo_isPaid 4 (some .boolean) :: gw
theorem cd_Mo_change : Jvm.Cond.code y_Mo_change c_Mo_change 7 none ∈ gw := m_ing (by decide +kernel) (by decide +kernel)
abbrev ws_Mo_change : List Jvm.Cond := .code y_Mo_change c_Mo_change 7 none :: gw
theorem cd_Mo_bond : Jvm.Cond.code y_Mo_bond c_Mo_bond 5 (some .int) ∈ gw := m_ing (by decide +kernel) (by decide +kernel)
abbrev ws_Mo_bond : List Jvm.Cond := .code y_Mo_bond c_Mo_bond 5 (some .int) :: gw
theorem cd_Mo_bonds : Jvm.Cond.code y_Mo_bonds c_Mo_bonds 3 (some .int) ∈ gw := m_ing (by decide +kernel) (by decide +kernel)
abbrev ws_Mo_bonds : List Jvm.Cond := .code y_Mo_bonds c_Mo_bonds 3 (some .int) :: gw
theorem cd_Mo_unbond : Jvm.Cond.code y_Mo_unbond c_Mo_unbond 5 (some .int) ∈ gw := m_ing (by decide +kernel) (by decide +kernel)
abbrev ws_Mo_unbond : List Jvm.Cond := .code y_Mo_unbond c_Mo_unbond 5 (some .int) :: gw
theorem cd_Mo_free : Jvm.Cond.code y_Mo_free c_Mo_free 4 (some .int) ∈ gw := m_ing (by decide +kernel) (by decide +kernel)
abbrev ws_Mo_free : List Jvm.Cond := .code y_Mo_free c_Mo_free 4 (some .int) :: gw
theorem cd_Mo_power : Jvm.Cond.code y_Mo_power c_Mo_power 4 (some .int) ∈ gw := m_ing (by decide +kernel) (by decide +kernel)
abbrev ws_Mo_power : List Jvm.Cond := .code y_Mo_power c_Mo_power 4 (some .int) :: gw
theorem cd_Mo_prove : Jvm.Cond.code y_Mo_prove c_Mo_prove 5 (some .int) ∈ gw := m_ing (by decide +kernel) (by decide +kernel)
abbrev ws_Mo_prove : List Jvm.Cond := .code y_Mo_prove c_Mo_prove 5 (some .int) :: gw
theorem cd_Mo_next : Jvm.Cond.code y_Mo_next c_Mo_next 1 (some .int) ∈ gw := m_ing (by decide +kernel) (by decide +kernel)
abbrev ws_Mo_next : List Jvm.Cond := .code y_Mo_next c_Mo_next 1 (some .int) :: gw
theorem cd_Mo_keep : Jvm.Cond.code y_Mo_keep c_Mo_keep 2 none ∈ gw := m_ing (by decide +kernel) (by decide +kernel)
abbrev ws_Mo_keep : List Jvm.Cond := .code y_Mo_keep c_Mo_keep 2 none :: gw
theorem cd_Mo_back : Jvm.Cond.code y_Mo_back c_Mo_back 2 (some .int) ∈ gw := m_ing (by decide +kernel) (by decide +kernel)
abbrev ws_Mo_back : List Jvm.Cond := .code y_Mo_back c_Mo_back 2 (some .int) :: gw
theorem cd_Mo_account : Jvm.Cond.code y_Mo_account c_Mo_account 5 (some .int) ∈ gw := m_ing (by decide +kernel) (by decide +kernel)
abbrev ws_Mo_account : List Jvm.Cond := .code y_Mo_account c_Mo_account 5 (some .int) :: gw
theorem cd_Mo_sum : Jvm.Cond.code y_Mo_sum c_Mo_sum 5 (some .int) ∈ gw := m_ing (by decide +kernel) (by decide +kernel)
abbrev ws_Mo_sum : List Jvm.Cond := .code y_Mo_sum c_Mo_sum 5 (some .int) :: gw
theorem cd_Mo_proposer : Jvm.Cond.code y_Mo_proposer c_Mo_proposer 7 (some .int) ∈ gw := m_ing (by decide +kernel) (by decide +kernel)
abbrev ws_Mo_proposer : List Jvm.Cond := .code y_Mo_proposer c_Mo_proposer 7 (some .int) :: gw
theorem cd_Mo_share : Jvm.Cond.code y_Mo_share c_Mo_share 5 (some .int) ∈ gw := m_ing (by decide +kernel) (by decide +kernel)
abbrev ws_Mo_share : List Jvm.Cond := .code y_Mo_share c_Mo_share 5 (some .int) :: gw
abbrev fl_St : List (Nat × Nat × Nat) := [(42, 2, 3), (9, 0, 0), (18, 0, 1), (25, 0, 2), (29, 0, 3), (46, 0, 4), (49, 0, 5), (52, 0, 6)]
abbrev fp_St : List (Nat × Nat × Nat) := [(42, 2, 3), (46, 0, 4), (49, 0, 5), (52, 0, 6)]
theorem get_St_42 {E : mE} {cc : ByteArray} {a0 : Jvm.Cond} {rm : Room} (C : m_Cx E cc R_St (a0 :: gw) nw rm) : m_GetOk E cc 42 2 3 := m_getN (Cn := R_Re) (Tn := F_Re) (Nn := 4) (host := "StakeLedger") C nw_ok rfl ig_Re (by decide) rfl (m_inn (by decide +kernel) (by decide +kernel))
theorem get_St_9 {E : mE} {cc : ByteArray} {a0 : Jvm.Cond} {rm : Room} (C : m_Cx E cc R_St (a0 :: gw) nw rm) : m_GetOk E cc 9 0 0 := m_getP (Cn := R_St) (Tn := F_St) (Nn := 7) C rfl ig_St (by decide) rfl (m_ing (by decide +kernel) (by decide +kernel))
theorem get_St_18 {E : mE} {cc : ByteArray} {a0 : Jvm.Cond} {rm : Room} (C : m_Cx E cc R_St (a0 :: gw) nw rm) : m_GetOk E cc 18 0 1 := m_getP (Cn := R_St) (Tn := F_St) (Nn := 7) C rfl ig_St (by decide) rfl (m_ing (by decide +kernel) (by decide +kernel))
theorem get_St_25 {E : mE} {cc : ByteArray} {a0 : Jvm.Cond} {rm : Room} (C : m_Cx E cc R_St (a0 :: gw) nw rm) : m_GetOk E cc 25 0 2 := m_getP (Cn := R_St) (Tn := F_St) (Nn := 7) C rfl ig_St (by decide) rfl (m_ing (by decide +kernel) (by decide +kernel))
theorem get_St_29 {E : mE} {cc : ByteArray} {a0 : Jvm.Cond} {rm : Room} (C : m_Cx E cc R_St (a0 :: gw) nw rm) : m_GetOk E cc 29 0 3 := m_getP (Cn := R_St) (Tn := F_St) (Nn := 7) C rfl ig_St (by decide) rfl (m_ing (by decide +kernel) (by decide +kernel))
theorem get_St_46 {E : mE} {cc : ByteArray} {a0 : Jvm.Cond} {rm : Room} (C : m_Cx E cc R_St (a0 :: gw) nw rm) : m_GetOk E cc 46 0 4 := m_getP (Cn := R_St) (Tn := F_St) (Nn := 7) C rfl ig_St (by decide) rfl (m_ing (by decide +kernel) (by decide +kernel))
theorem get_St_49 {E : mE} {cc : ByteArray} {a0 : Jvm.Cond} {rm : Room} (C : m_Cx E cc R_St (a0 :: gw) nw rm) : m_GetOk E cc 49 0 5 := m_getP (Cn := R_St) (Tn := F_St) (Nn := 7) C rfl ig_St (by decide) rfl (m_ing (by decide +kernel) (by decide +kernel))
theorem get_St_52 {E : mE} {cc : ByteArray} {a0 : Jvm.Cond} {rm : Room} (C : m_Cx E cc R_St (a0 :: gw) nw rm) : m_GetOk E cc 52 0 6 := m_getP (Cn := R_St) (Tn := F_St) (Nn := 7) C rfl ig_St (by decide) rfl (m_ing (by decide +kernel) (by decide +kernel))
theorem get_St {E : mE} {cc : ByteArray} {a0 : Jvm.Cond} {rm : Room} (C : m_Cx E cc R_St (a0 :: gw) nw rm) : ∀ q ∈ fl_St, m_GetOk E cc q.1 q.2.1 q.2.2 := by
  intro q hq
  simp only [List.mem_cons, List.not_mem_nil, or_false] at hq
  rcases hq with rfl | rfl | rfl | rfl | rfl | rfl | rfl | rfl
  · exact get_St_42 C
  · exact get_St_9 C
  · exact get_St_18 C
  · exact get_St_25 C
  · exact get_St_29 C
  · exact get_St_46 C
  · exact get_St_49 C
  · exact get_St_52 C
theorem put_St_42 {E : mE} {cc : ByteArray} {a0 : Jvm.Cond} {rm : Room} (C : m_Cx E cc R_St (a0 :: gw) nw rm) : m_PutOk E cc 42 2 3 := m_putN (Cn := R_Re) (Tn := F_Re) (Nn := 4) (ty0 := t_Re) (host := "StakeLedger") C nw_ok rfl ig_Re k_Re n_Re (by decide) rfl rfl rfl (m_inn (by decide +kernel) (by decide +kernel))
theorem put_St_46 {E : mE} {cc : ByteArray} {a0 : Jvm.Cond} {rm : Room} (C : m_Cx E cc R_St (a0 :: gw) nw rm) : m_PutOk E cc 46 0 4 := m_putP (Cn := R_St) (Tn := F_St) (Nn := 7) (ty0 := t_St) C rfl ig_St k_St n_St (by decide) rfl rfl rfl (m_ing (by decide +kernel) (by decide +kernel))
theorem put_St_49 {E : mE} {cc : ByteArray} {a0 : Jvm.Cond} {rm : Room} (C : m_Cx E cc R_St (a0 :: gw) nw rm) : m_PutOk E cc 49 0 5 := m_putP (Cn := R_St) (Tn := F_St) (Nn := 7) (ty0 := t_St) C rfl ig_St k_St n_St (by decide) rfl rfl rfl (m_ing (by decide +kernel) (by decide +kernel))
theorem put_St_52 {E : mE} {cc : ByteArray} {a0 : Jvm.Cond} {rm : Room} (C : m_Cx E cc R_St (a0 :: gw) nw rm) : m_PutOk E cc 52 0 6 := m_putP (Cn := R_St) (Tn := F_St) (Nn := 7) (ty0 := t_St) C rfl ig_St k_St n_St (by decide) rfl rfl rfl (m_ing (by decide +kernel) (by decide +kernel))
theorem put_St {E : mE} {cc : ByteArray} {a0 : Jvm.Cond} {rm : Room} (C : m_Cx E cc R_St (a0 :: gw) nw rm) : ∀ q ∈ fp_St, m_PutOk E cc q.1 q.2.1 q.2.2 := by
  intro q hq
  simp only [List.mem_cons, List.not_mem_nil, or_false] at hq
  rcases hq with rfl | rfl | rfl | rfl
  · exact put_St_42 C
  · exact put_St_46 C
  · exact put_St_49 C
  · exact put_St_52 C
abbrev fl_Bo : List (Nat × Nat × Nat) := [(9, 1, 0), (15, 1, 1), (18, 1, 2), (21, 1, 3)]
abbrev fp_Bo : List (Nat × Nat × Nat) := [(21, 1, 3)]
theorem get_Bo_9 {E : mE} {cc : ByteArray} {a0 : Jvm.Cond} {rm : Room} (C : m_Cx E cc R_Bo (a0 :: gw) nw rm) : m_GetOk E cc 9 1 0 := m_getP (Cn := R_Bo) (Tn := F_Bo) (Nn := 4) C rfl ig_Bo (by decide) rfl (m_ing (by decide +kernel) (by decide +kernel))
theorem get_Bo_15 {E : mE} {cc : ByteArray} {a0 : Jvm.Cond} {rm : Room} (C : m_Cx E cc R_Bo (a0 :: gw) nw rm) : m_GetOk E cc 15 1 1 := m_getP (Cn := R_Bo) (Tn := F_Bo) (Nn := 4) C rfl ig_Bo (by decide) rfl (m_ing (by decide +kernel) (by decide +kernel))
theorem get_Bo_18 {E : mE} {cc : ByteArray} {a0 : Jvm.Cond} {rm : Room} (C : m_Cx E cc R_Bo (a0 :: gw) nw rm) : m_GetOk E cc 18 1 2 := m_getP (Cn := R_Bo) (Tn := F_Bo) (Nn := 4) C rfl ig_Bo (by decide) rfl (m_ing (by decide +kernel) (by decide +kernel))
theorem get_Bo_21 {E : mE} {cc : ByteArray} {a0 : Jvm.Cond} {rm : Room} (C : m_Cx E cc R_Bo (a0 :: gw) nw rm) : m_GetOk E cc 21 1 3 := m_getP (Cn := R_Bo) (Tn := F_Bo) (Nn := 4) C rfl ig_Bo (by decide) rfl (m_ing (by decide +kernel) (by decide +kernel))
theorem get_Bo {E : mE} {cc : ByteArray} {a0 : Jvm.Cond} {rm : Room} (C : m_Cx E cc R_Bo (a0 :: gw) nw rm) : ∀ q ∈ fl_Bo, m_GetOk E cc q.1 q.2.1 q.2.2 := by
  intro q hq
  simp only [List.mem_cons, List.not_mem_nil, or_false] at hq
  rcases hq with rfl | rfl | rfl | rfl
  · exact get_Bo_9 C
  · exact get_Bo_15 C
  · exact get_Bo_18 C
  · exact get_Bo_21 C
theorem put_Bo_21 {E : mE} {cc : ByteArray} {a0 : Jvm.Cond} {rm : Room} (C : m_Cx E cc R_Bo (a0 :: gw) nw rm) : m_PutOk E cc 21 1 3 := m_putP (Cn := R_Bo) (Tn := F_Bo) (Nn := 4) (ty0 := t_Bo) C rfl ig_Bo k_Bo n_Bo (by decide) rfl rfl rfl (m_ing (by decide +kernel) (by decide +kernel))
theorem put_Bo {E : mE} {cc : ByteArray} {a0 : Jvm.Cond} {rm : Room} (C : m_Cx E cc R_Bo (a0 :: gw) nw rm) : ∀ q ∈ fp_Bo, m_PutOk E cc q.1 q.2.1 q.2.2 := by
  intro q hq
  simp only [List.mem_cons, List.not_mem_nil, or_false] at hq
  rcases hq with rfl
  · exact put_Bo_21 C
abbrev fl_Re : List (Nat × Nat × Nat) := [(9, 2, 0), (15, 2, 1), (18, 2, 2), (27, 2, 3)]
abbrev fp_Re : List (Nat × Nat × Nat) := [(27, 2, 3)]
theorem get_Re_9 {E : mE} {cc : ByteArray} {a0 : Jvm.Cond} {rm : Room} (C : m_Cx E cc R_Re (a0 :: gw) nw rm) : m_GetOk E cc 9 2 0 := m_getP (Cn := R_Re) (Tn := F_Re) (Nn := 4) C rfl ig_Re (by decide) rfl (m_ing (by decide +kernel) (by decide +kernel))
theorem get_Re_15 {E : mE} {cc : ByteArray} {a0 : Jvm.Cond} {rm : Room} (C : m_Cx E cc R_Re (a0 :: gw) nw rm) : m_GetOk E cc 15 2 1 := m_getP (Cn := R_Re) (Tn := F_Re) (Nn := 4) C rfl ig_Re (by decide) rfl (m_ing (by decide +kernel) (by decide +kernel))
theorem get_Re_18 {E : mE} {cc : ByteArray} {a0 : Jvm.Cond} {rm : Room} (C : m_Cx E cc R_Re (a0 :: gw) nw rm) : m_GetOk E cc 18 2 2 := m_getP (Cn := R_Re) (Tn := F_Re) (Nn := 4) C rfl ig_Re (by decide) rfl (m_ing (by decide +kernel) (by decide +kernel))
theorem get_Re_27 {E : mE} {cc : ByteArray} {a0 : Jvm.Cond} {rm : Room} (C : m_Cx E cc R_Re (a0 :: gw) nw rm) : m_GetOk E cc 27 2 3 := m_getP (Cn := R_Re) (Tn := F_Re) (Nn := 4) C rfl ig_Re (by decide) rfl (m_ing (by decide +kernel) (by decide +kernel))
theorem get_Re {E : mE} {cc : ByteArray} {a0 : Jvm.Cond} {rm : Room} (C : m_Cx E cc R_Re (a0 :: gw) nw rm) : ∀ q ∈ fl_Re, m_GetOk E cc q.1 q.2.1 q.2.2 := by
  intro q hq
  simp only [List.mem_cons, List.not_mem_nil, or_false] at hq
  rcases hq with rfl | rfl | rfl | rfl
  · exact get_Re_9 C
  · exact get_Re_15 C
  · exact get_Re_18 C
  · exact get_Re_27 C
theorem put_Re_27 {E : mE} {cc : ByteArray} {a0 : Jvm.Cond} {rm : Room} (C : m_Cx E cc R_Re (a0 :: gw) nw rm) : m_PutOk E cc 27 2 3 := m_putP (Cn := R_Re) (Tn := F_Re) (Nn := 4) (ty0 := t_Re) C rfl ig_Re k_Re n_Re (by decide) rfl rfl rfl (m_ing (by decide +kernel) (by decide +kernel))
theorem put_Re {E : mE} {cc : ByteArray} {a0 : Jvm.Cond} {rm : Room} (C : m_Cx E cc R_Re (a0 :: gw) nw rm) : ∀ q ∈ fp_Re, m_PutOk E cc q.1 q.2.1 q.2.2 := by
  intro q hq
  simp only [List.mem_cons, List.not_mem_nil, or_false] at hq
  rcases hq with rfl
  · exact put_Re_27 C
abbrev fl_Le : List (Nat × Nat × Nat) := [(161, 1, 3), (105, 2, 3), (50, 0, 0), (59, 0, 1), (83, 0, 2), (122, 0, 3), (98, 0, 4), (115, 0, 5), (130, 0, 6), (12, 3, 0), (16, 3, 1)]
abbrev fp_Le : List (Nat × Nat × Nat) := [(161, 1, 3), (105, 2, 3), (98, 0, 4), (115, 0, 5), (130, 0, 6)]
theorem get_Le_161 {E : mE} {cc : ByteArray} {a0 : Jvm.Cond} {rm : Room} (C : m_Cx E cc R_Le (a0 :: gw) nw rm) : m_GetOk E cc 161 1 3 := m_getN (Cn := R_Bo) (Tn := F_Bo) (Nn := 4) (host := "StakeLedger") C nw_ok rfl ig_Bo (by decide) rfl (m_inn (by decide +kernel) (by decide +kernel))
theorem get_Le_105 {E : mE} {cc : ByteArray} {a0 : Jvm.Cond} {rm : Room} (C : m_Cx E cc R_Le (a0 :: gw) nw rm) : m_GetOk E cc 105 2 3 := m_getN (Cn := R_Re) (Tn := F_Re) (Nn := 4) (host := "StakeLedger") C nw_ok rfl ig_Re (by decide) rfl (m_inn (by decide +kernel) (by decide +kernel))
theorem get_Le_50 {E : mE} {cc : ByteArray} {a0 : Jvm.Cond} {rm : Room} (C : m_Cx E cc R_Le (a0 :: gw) nw rm) : m_GetOk E cc 50 0 0 := m_getN (Cn := R_St) (Tn := F_St) (Nn := 7) (host := "StakeLedger") C nw_ok rfl ig_St (by decide) rfl (m_inn (by decide +kernel) (by decide +kernel))
theorem get_Le_59 {E : mE} {cc : ByteArray} {a0 : Jvm.Cond} {rm : Room} (C : m_Cx E cc R_Le (a0 :: gw) nw rm) : m_GetOk E cc 59 0 1 := m_getN (Cn := R_St) (Tn := F_St) (Nn := 7) (host := "StakeLedger") C nw_ok rfl ig_St (by decide) rfl (m_inn (by decide +kernel) (by decide +kernel))
theorem get_Le_83 {E : mE} {cc : ByteArray} {a0 : Jvm.Cond} {rm : Room} (C : m_Cx E cc R_Le (a0 :: gw) nw rm) : m_GetOk E cc 83 0 2 := m_getN (Cn := R_St) (Tn := F_St) (Nn := 7) (host := "StakeLedger") C nw_ok rfl ig_St (by decide) rfl (m_inn (by decide +kernel) (by decide +kernel))
theorem get_Le_122 {E : mE} {cc : ByteArray} {a0 : Jvm.Cond} {rm : Room} (C : m_Cx E cc R_Le (a0 :: gw) nw rm) : m_GetOk E cc 122 0 3 := m_getN (Cn := R_St) (Tn := F_St) (Nn := 7) (host := "StakeLedger") C nw_ok rfl ig_St (by decide) rfl (m_inn (by decide +kernel) (by decide +kernel))
theorem get_Le_98 {E : mE} {cc : ByteArray} {a0 : Jvm.Cond} {rm : Room} (C : m_Cx E cc R_Le (a0 :: gw) nw rm) : m_GetOk E cc 98 0 4 := m_getN (Cn := R_St) (Tn := F_St) (Nn := 7) (host := "StakeLedger") C nw_ok rfl ig_St (by decide) rfl (m_inn (by decide +kernel) (by decide +kernel))
theorem get_Le_115 {E : mE} {cc : ByteArray} {a0 : Jvm.Cond} {rm : Room} (C : m_Cx E cc R_Le (a0 :: gw) nw rm) : m_GetOk E cc 115 0 5 := m_getN (Cn := R_St) (Tn := F_St) (Nn := 7) (host := "StakeLedger") C nw_ok rfl ig_St (by decide) rfl (m_inn (by decide +kernel) (by decide +kernel))
theorem get_Le_130 {E : mE} {cc : ByteArray} {a0 : Jvm.Cond} {rm : Room} (C : m_Cx E cc R_Le (a0 :: gw) nw rm) : m_GetOk E cc 130 0 6 := m_getN (Cn := R_St) (Tn := F_St) (Nn := 7) (host := "StakeLedger") C nw_ok rfl ig_St (by decide) rfl (m_inn (by decide +kernel) (by decide +kernel))
theorem get_Le_12 {E : mE} {cc : ByteArray} {a0 : Jvm.Cond} {rm : Room} (C : m_Cx E cc R_Le (a0 :: gw) nw rm) : m_GetOk E cc 12 3 0 := m_getP (Cn := R_Le) (Tn := F_Le) (Nn := 2) C rfl ig_Le (by decide) rfl (m_ing (by decide +kernel) (by decide +kernel))
theorem get_Le_16 {E : mE} {cc : ByteArray} {a0 : Jvm.Cond} {rm : Room} (C : m_Cx E cc R_Le (a0 :: gw) nw rm) : m_GetOk E cc 16 3 1 := m_getP (Cn := R_Le) (Tn := F_Le) (Nn := 2) C rfl ig_Le (by decide) rfl (m_ing (by decide +kernel) (by decide +kernel))
theorem get_Le {E : mE} {cc : ByteArray} {a0 : Jvm.Cond} {rm : Room} (C : m_Cx E cc R_Le (a0 :: gw) nw rm) : ∀ q ∈ fl_Le, m_GetOk E cc q.1 q.2.1 q.2.2 := by
  intro q hq
  simp only [List.mem_cons, List.not_mem_nil, or_false] at hq
  rcases hq with rfl | rfl | rfl | rfl | rfl | rfl | rfl | rfl | rfl | rfl | rfl
  · exact get_Le_161 C
  · exact get_Le_105 C
  · exact get_Le_50 C
  · exact get_Le_59 C
  · exact get_Le_83 C
  · exact get_Le_122 C
  · exact get_Le_98 C
  · exact get_Le_115 C
  · exact get_Le_130 C
  · exact get_Le_12 C
  · exact get_Le_16 C
theorem put_Le_161 {E : mE} {cc : ByteArray} {a0 : Jvm.Cond} {rm : Room} (C : m_Cx E cc R_Le (a0 :: gw) nw rm) : m_PutOk E cc 161 1 3 := m_putN (Cn := R_Bo) (Tn := F_Bo) (Nn := 4) (ty0 := t_Bo) (host := "StakeLedger") C nw_ok rfl ig_Bo k_Bo n_Bo (by decide) rfl rfl rfl (m_inn (by decide +kernel) (by decide +kernel))
theorem put_Le_105 {E : mE} {cc : ByteArray} {a0 : Jvm.Cond} {rm : Room} (C : m_Cx E cc R_Le (a0 :: gw) nw rm) : m_PutOk E cc 105 2 3 := m_putN (Cn := R_Re) (Tn := F_Re) (Nn := 4) (ty0 := t_Re) (host := "StakeLedger") C nw_ok rfl ig_Re k_Re n_Re (by decide) rfl rfl rfl (m_inn (by decide +kernel) (by decide +kernel))
theorem put_Le_98 {E : mE} {cc : ByteArray} {a0 : Jvm.Cond} {rm : Room} (C : m_Cx E cc R_Le (a0 :: gw) nw rm) : m_PutOk E cc 98 0 4 := m_putN (Cn := R_St) (Tn := F_St) (Nn := 7) (ty0 := t_St) (host := "StakeLedger") C nw_ok rfl ig_St k_St n_St (by decide) rfl rfl rfl (m_inn (by decide +kernel) (by decide +kernel))
theorem put_Le_115 {E : mE} {cc : ByteArray} {a0 : Jvm.Cond} {rm : Room} (C : m_Cx E cc R_Le (a0 :: gw) nw rm) : m_PutOk E cc 115 0 5 := m_putN (Cn := R_St) (Tn := F_St) (Nn := 7) (ty0 := t_St) (host := "StakeLedger") C nw_ok rfl ig_St k_St n_St (by decide) rfl rfl rfl (m_inn (by decide +kernel) (by decide +kernel))
theorem put_Le_130 {E : mE} {cc : ByteArray} {a0 : Jvm.Cond} {rm : Room} (C : m_Cx E cc R_Le (a0 :: gw) nw rm) : m_PutOk E cc 130 0 6 := m_putN (Cn := R_St) (Tn := F_St) (Nn := 7) (ty0 := t_St) (host := "StakeLedger") C nw_ok rfl ig_St k_St n_St (by decide) rfl rfl rfl (m_inn (by decide +kernel) (by decide +kernel))
theorem put_Le {E : mE} {cc : ByteArray} {a0 : Jvm.Cond} {rm : Room} (C : m_Cx E cc R_Le (a0 :: gw) nw rm) : ∀ q ∈ fp_Le, m_PutOk E cc q.1 q.2.1 q.2.2 := by
  intro q hq
  simp only [List.mem_cons, List.not_mem_nil, or_false] at hq
  rcases hq with rfl | rfl | rfl | rfl | rfl
  · exact put_Le_161 C
  · exact put_Le_105 C
  · exact put_Le_98 C
  · exact put_Le_115 C
  · exact put_Le_130 C
abbrev fl_Mo : List (Nat × Nat × Nat) := [(9, 4, 0), (13, 4, 1), (16, 4, 2), (19, 4, 3), (22, 4, 4), (25, 4, 5), (28, 4, 6), (75, 4, 7), (32, 4, 8), (35, 4, 9), (38, 4, 10), (41, 4, 11), (44, 4, 12), (47, 4, 13), (50, 4, 14), (53, 4, 15), (56, 4, 16), (59, 4, 17), (66, 4, 18), (69, 4, 19), (72, 4, 20), (88, 4, 21), (63, 4, 22)]
abbrev fp_Mo : List (Nat × Nat × Nat) := [(28, 4, 6), (75, 4, 7), (35, 4, 9), (66, 4, 18), (69, 4, 19), (72, 4, 20), (88, 4, 21), (63, 4, 22)]
theorem get_Mo_9 {E : mE} {cc : ByteArray} {a0 : Jvm.Cond} {rm : Room} (C : m_Cx E cc R_Mo (a0 :: gw) nw rm) : m_GetOk E cc 9 4 0 := m_getP (Cn := R_Mo) (Tn := F_Mo) (Nn := 23) C rfl ig_Mo (by decide) rfl (m_ing (by decide +kernel) (by decide +kernel))
theorem get_Mo_13 {E : mE} {cc : ByteArray} {a0 : Jvm.Cond} {rm : Room} (C : m_Cx E cc R_Mo (a0 :: gw) nw rm) : m_GetOk E cc 13 4 1 := m_getP (Cn := R_Mo) (Tn := F_Mo) (Nn := 23) C rfl ig_Mo (by decide) rfl (m_ing (by decide +kernel) (by decide +kernel))
theorem get_Mo_16 {E : mE} {cc : ByteArray} {a0 : Jvm.Cond} {rm : Room} (C : m_Cx E cc R_Mo (a0 :: gw) nw rm) : m_GetOk E cc 16 4 2 := m_getP (Cn := R_Mo) (Tn := F_Mo) (Nn := 23) C rfl ig_Mo (by decide) rfl (m_ing (by decide +kernel) (by decide +kernel))
theorem get_Mo_19 {E : mE} {cc : ByteArray} {a0 : Jvm.Cond} {rm : Room} (C : m_Cx E cc R_Mo (a0 :: gw) nw rm) : m_GetOk E cc 19 4 3 := m_getP (Cn := R_Mo) (Tn := F_Mo) (Nn := 23) C rfl ig_Mo (by decide) rfl (m_ing (by decide +kernel) (by decide +kernel))
theorem get_Mo_22 {E : mE} {cc : ByteArray} {a0 : Jvm.Cond} {rm : Room} (C : m_Cx E cc R_Mo (a0 :: gw) nw rm) : m_GetOk E cc 22 4 4 := m_getP (Cn := R_Mo) (Tn := F_Mo) (Nn := 23) C rfl ig_Mo (by decide) rfl (m_ing (by decide +kernel) (by decide +kernel))
theorem get_Mo_25 {E : mE} {cc : ByteArray} {a0 : Jvm.Cond} {rm : Room} (C : m_Cx E cc R_Mo (a0 :: gw) nw rm) : m_GetOk E cc 25 4 5 := m_getP (Cn := R_Mo) (Tn := F_Mo) (Nn := 23) C rfl ig_Mo (by decide) rfl (m_ing (by decide +kernel) (by decide +kernel))
theorem get_Mo_28 {E : mE} {cc : ByteArray} {a0 : Jvm.Cond} {rm : Room} (C : m_Cx E cc R_Mo (a0 :: gw) nw rm) : m_GetOk E cc 28 4 6 := m_getP (Cn := R_Mo) (Tn := F_Mo) (Nn := 23) C rfl ig_Mo (by decide) rfl (m_ing (by decide +kernel) (by decide +kernel))
theorem get_Mo_75 {E : mE} {cc : ByteArray} {a0 : Jvm.Cond} {rm : Room} (C : m_Cx E cc R_Mo (a0 :: gw) nw rm) : m_GetOk E cc 75 4 7 := m_getP (Cn := R_Mo) (Tn := F_Mo) (Nn := 23) C rfl ig_Mo (by decide) rfl (m_ing (by decide +kernel) (by decide +kernel))
theorem get_Mo_32 {E : mE} {cc : ByteArray} {a0 : Jvm.Cond} {rm : Room} (C : m_Cx E cc R_Mo (a0 :: gw) nw rm) : m_GetOk E cc 32 4 8 := m_getP (Cn := R_Mo) (Tn := F_Mo) (Nn := 23) C rfl ig_Mo (by decide) rfl (m_ing (by decide +kernel) (by decide +kernel))
theorem get_Mo_35 {E : mE} {cc : ByteArray} {a0 : Jvm.Cond} {rm : Room} (C : m_Cx E cc R_Mo (a0 :: gw) nw rm) : m_GetOk E cc 35 4 9 := m_getP (Cn := R_Mo) (Tn := F_Mo) (Nn := 23) C rfl ig_Mo (by decide) rfl (m_ing (by decide +kernel) (by decide +kernel))
theorem get_Mo_38 {E : mE} {cc : ByteArray} {a0 : Jvm.Cond} {rm : Room} (C : m_Cx E cc R_Mo (a0 :: gw) nw rm) : m_GetOk E cc 38 4 10 := m_getP (Cn := R_Mo) (Tn := F_Mo) (Nn := 23) C rfl ig_Mo (by decide) rfl (m_ing (by decide +kernel) (by decide +kernel))
theorem get_Mo_41 {E : mE} {cc : ByteArray} {a0 : Jvm.Cond} {rm : Room} (C : m_Cx E cc R_Mo (a0 :: gw) nw rm) : m_GetOk E cc 41 4 11 := m_getP (Cn := R_Mo) (Tn := F_Mo) (Nn := 23) C rfl ig_Mo (by decide) rfl (m_ing (by decide +kernel) (by decide +kernel))
theorem get_Mo_44 {E : mE} {cc : ByteArray} {a0 : Jvm.Cond} {rm : Room} (C : m_Cx E cc R_Mo (a0 :: gw) nw rm) : m_GetOk E cc 44 4 12 := m_getP (Cn := R_Mo) (Tn := F_Mo) (Nn := 23) C rfl ig_Mo (by decide) rfl (m_ing (by decide +kernel) (by decide +kernel))
theorem get_Mo_47 {E : mE} {cc : ByteArray} {a0 : Jvm.Cond} {rm : Room} (C : m_Cx E cc R_Mo (a0 :: gw) nw rm) : m_GetOk E cc 47 4 13 := m_getP (Cn := R_Mo) (Tn := F_Mo) (Nn := 23) C rfl ig_Mo (by decide) rfl (m_ing (by decide +kernel) (by decide +kernel))
theorem get_Mo_50 {E : mE} {cc : ByteArray} {a0 : Jvm.Cond} {rm : Room} (C : m_Cx E cc R_Mo (a0 :: gw) nw rm) : m_GetOk E cc 50 4 14 := m_getP (Cn := R_Mo) (Tn := F_Mo) (Nn := 23) C rfl ig_Mo (by decide) rfl (m_ing (by decide +kernel) (by decide +kernel))
theorem get_Mo_53 {E : mE} {cc : ByteArray} {a0 : Jvm.Cond} {rm : Room} (C : m_Cx E cc R_Mo (a0 :: gw) nw rm) : m_GetOk E cc 53 4 15 := m_getP (Cn := R_Mo) (Tn := F_Mo) (Nn := 23) C rfl ig_Mo (by decide) rfl (m_ing (by decide +kernel) (by decide +kernel))
theorem get_Mo_56 {E : mE} {cc : ByteArray} {a0 : Jvm.Cond} {rm : Room} (C : m_Cx E cc R_Mo (a0 :: gw) nw rm) : m_GetOk E cc 56 4 16 := m_getP (Cn := R_Mo) (Tn := F_Mo) (Nn := 23) C rfl ig_Mo (by decide) rfl (m_ing (by decide +kernel) (by decide +kernel))
theorem get_Mo_59 {E : mE} {cc : ByteArray} {a0 : Jvm.Cond} {rm : Room} (C : m_Cx E cc R_Mo (a0 :: gw) nw rm) : m_GetOk E cc 59 4 17 := m_getP (Cn := R_Mo) (Tn := F_Mo) (Nn := 23) C rfl ig_Mo (by decide) rfl (m_ing (by decide +kernel) (by decide +kernel))
theorem get_Mo_66 {E : mE} {cc : ByteArray} {a0 : Jvm.Cond} {rm : Room} (C : m_Cx E cc R_Mo (a0 :: gw) nw rm) : m_GetOk E cc 66 4 18 := m_getP (Cn := R_Mo) (Tn := F_Mo) (Nn := 23) C rfl ig_Mo (by decide) rfl (m_ing (by decide +kernel) (by decide +kernel))
theorem get_Mo_69 {E : mE} {cc : ByteArray} {a0 : Jvm.Cond} {rm : Room} (C : m_Cx E cc R_Mo (a0 :: gw) nw rm) : m_GetOk E cc 69 4 19 := m_getP (Cn := R_Mo) (Tn := F_Mo) (Nn := 23) C rfl ig_Mo (by decide) rfl (m_ing (by decide +kernel) (by decide +kernel))
theorem get_Mo_72 {E : mE} {cc : ByteArray} {a0 : Jvm.Cond} {rm : Room} (C : m_Cx E cc R_Mo (a0 :: gw) nw rm) : m_GetOk E cc 72 4 20 := m_getP (Cn := R_Mo) (Tn := F_Mo) (Nn := 23) C rfl ig_Mo (by decide) rfl (m_ing (by decide +kernel) (by decide +kernel))
theorem get_Mo_88 {E : mE} {cc : ByteArray} {a0 : Jvm.Cond} {rm : Room} (C : m_Cx E cc R_Mo (a0 :: gw) nw rm) : m_GetOk E cc 88 4 21 := m_getP (Cn := R_Mo) (Tn := F_Mo) (Nn := 23) C rfl ig_Mo (by decide) rfl (m_ing (by decide +kernel) (by decide +kernel))
theorem get_Mo_63 {E : mE} {cc : ByteArray} {a0 : Jvm.Cond} {rm : Room} (C : m_Cx E cc R_Mo (a0 :: gw) nw rm) : m_GetOk E cc 63 4 22 := m_getP (Cn := R_Mo) (Tn := F_Mo) (Nn := 23) C rfl ig_Mo (by decide) rfl (m_ing (by decide +kernel) (by decide +kernel))
theorem get_Mo {E : mE} {cc : ByteArray} {a0 : Jvm.Cond} {rm : Room} (C : m_Cx E cc R_Mo (a0 :: gw) nw rm) : ∀ q ∈ fl_Mo, m_GetOk E cc q.1 q.2.1 q.2.2 := by
  intro q hq
  simp only [List.mem_cons, List.not_mem_nil, or_false] at hq
  rcases hq with rfl | rfl | rfl | rfl | rfl | rfl | rfl | rfl | rfl | rfl | rfl | rfl | rfl | rfl | rfl | rfl | rfl | rfl | rfl | rfl | rfl | rfl | rfl
  · exact get_Mo_9 C
  · exact get_Mo_13 C
  · exact get_Mo_16 C
  · exact get_Mo_19 C
  · exact get_Mo_22 C
  · exact get_Mo_25 C
  · exact get_Mo_28 C
  · exact get_Mo_75 C
  · exact get_Mo_32 C
  · exact get_Mo_35 C
  · exact get_Mo_38 C
  · exact get_Mo_41 C
  · exact get_Mo_44 C
  · exact get_Mo_47 C
  · exact get_Mo_50 C
  · exact get_Mo_53 C
  · exact get_Mo_56 C
  · exact get_Mo_59 C
  · exact get_Mo_66 C
  · exact get_Mo_69 C
  · exact get_Mo_72 C
  · exact get_Mo_88 C
  · exact get_Mo_63 C
theorem put_Mo_28 {E : mE} {cc : ByteArray} {a0 : Jvm.Cond} {rm : Room} (C : m_Cx E cc R_Mo (a0 :: gw) nw rm) : m_PutOk E cc 28 4 6 := m_putP (Cn := R_Mo) (Tn := F_Mo) (Nn := 23) (ty0 := t_Mo) C rfl ig_Mo k_Mo n_Mo (by decide) rfl rfl rfl (m_ing (by decide +kernel) (by decide +kernel))
theorem put_Mo_75 {E : mE} {cc : ByteArray} {a0 : Jvm.Cond} {rm : Room} (C : m_Cx E cc R_Mo (a0 :: gw) nw rm) : m_PutOk E cc 75 4 7 := m_putP (Cn := R_Mo) (Tn := F_Mo) (Nn := 23) (ty0 := t_Mo) C rfl ig_Mo k_Mo n_Mo (by decide) rfl rfl rfl (m_ing (by decide +kernel) (by decide +kernel))
theorem put_Mo_35 {E : mE} {cc : ByteArray} {a0 : Jvm.Cond} {rm : Room} (C : m_Cx E cc R_Mo (a0 :: gw) nw rm) : m_PutOk E cc 35 4 9 := m_putP (Cn := R_Mo) (Tn := F_Mo) (Nn := 23) (ty0 := t_Mo) C rfl ig_Mo k_Mo n_Mo (by decide) rfl rfl rfl (m_ing (by decide +kernel) (by decide +kernel))
theorem put_Mo_66 {E : mE} {cc : ByteArray} {a0 : Jvm.Cond} {rm : Room} (C : m_Cx E cc R_Mo (a0 :: gw) nw rm) : m_PutOk E cc 66 4 18 := m_putP (Cn := R_Mo) (Tn := F_Mo) (Nn := 23) (ty0 := t_Mo) C rfl ig_Mo k_Mo n_Mo (by decide) rfl rfl rfl (m_ing (by decide +kernel) (by decide +kernel))
theorem put_Mo_69 {E : mE} {cc : ByteArray} {a0 : Jvm.Cond} {rm : Room} (C : m_Cx E cc R_Mo (a0 :: gw) nw rm) : m_PutOk E cc 69 4 19 := m_putP (Cn := R_Mo) (Tn := F_Mo) (Nn := 23) (ty0 := t_Mo) C rfl ig_Mo k_Mo n_Mo (by decide) rfl rfl rfl (m_ing (by decide +kernel) (by decide +kernel))
theorem put_Mo_72 {E : mE} {cc : ByteArray} {a0 : Jvm.Cond} {rm : Room} (C : m_Cx E cc R_Mo (a0 :: gw) nw rm) : m_PutOk E cc 72 4 20 := m_putP (Cn := R_Mo) (Tn := F_Mo) (Nn := 23) (ty0 := t_Mo) C rfl ig_Mo k_Mo n_Mo (by decide) rfl rfl rfl (m_ing (by decide +kernel) (by decide +kernel))
theorem put_Mo_88 {E : mE} {cc : ByteArray} {a0 : Jvm.Cond} {rm : Room} (C : m_Cx E cc R_Mo (a0 :: gw) nw rm) : m_PutOk E cc 88 4 21 := m_putP (Cn := R_Mo) (Tn := F_Mo) (Nn := 23) (ty0 := t_Mo) C rfl ig_Mo k_Mo n_Mo (by decide) rfl rfl rfl (m_ing (by decide +kernel) (by decide +kernel))
theorem put_Mo_63 {E : mE} {cc : ByteArray} {a0 : Jvm.Cond} {rm : Room} (C : m_Cx E cc R_Mo (a0 :: gw) nw rm) : m_PutOk E cc 63 4 22 := m_putP (Cn := R_Mo) (Tn := F_Mo) (Nn := 23) (ty0 := t_Mo) C rfl ig_Mo k_Mo n_Mo (by decide) rfl rfl rfl (m_ing (by decide +kernel) (by decide +kernel))
theorem put_Mo {E : mE} {cc : ByteArray} {a0 : Jvm.Cond} {rm : Room} (C : m_Cx E cc R_Mo (a0 :: gw) nw rm) : ∀ q ∈ fp_Mo, m_PutOk E cc q.1 q.2.1 q.2.2 := by
  intro q hq
  simp only [List.mem_cons, List.not_mem_nil, or_false] at hq
  rcases hq with rfl | rfl | rfl | rfl | rfl | rfl | rfl | rfl
  · exact put_Mo_28 C
  · exact put_Mo_75 C
  · exact put_Mo_35 C
  · exact put_Mo_66 C
  · exact put_Mo_69 C
  · exact put_Mo_72 C
  · exact put_Mo_88 C
  · exact put_Mo_63 C
theorem ca_St_32 {pb : Bool} {E : mE} {cc : ByteArray} {a0 : Jvm.Cond} {rm rmY : Room} {ct : mCT} (C : m_Cx E cc R_St (a0 :: gw) nw rm) (hmut : pb = false → m_Mut E) (hM : m_Met pb y_St_becomeFirst ws_St_becomeFirst nw rmY ct) (hrc : rmY.cells = 0) (hrs : rmY.slots = 0) (hct : ∀ as w K, ct as w K → ∃ a r fs, as = .inr a :: r ∧ w[a]? = some (.inr (0, fs))) (hR : rmY.frames + 1 ≤ rm.frames ∧ 8 + (1 + 11) + rmY.locals ≤ rm.locals) : m_CalOk E cc 0 32 1 ct := m_calV (Cn := R_St) (Tn := F_St) (Nn := 7) C nw_ok gw_ok hmut hM cd_St_becomeFirst (m_ing (by decide +kernel) (by decide +kernel)) (m_ing (by decide +kernel) (by decide +kernel)) (m_ing (by decide +kernel) (by decide +kernel)) (m_ing (by decide +kernel) (by decide +kernel)) hrc hrs rfl hct ⟨by decide +kernel, by decide +kernel, by decide +kernel⟩ hR
theorem ca_St_35 {pb : Bool} {E : mE} {cc : ByteArray} {a0 : Jvm.Cond} {rm rmY : Room} {ct : mCT} (C : m_Cx E cc R_St (a0 :: gw) nw rm) (hmut : pb = false → m_Mut E) (hM : m_Met pb y_Ar_fill ws_Ar_fill nw rmY ct) (hrc : rmY.cells = 0) (hrs : rmY.slots = 0) (hR : rmY.frames + 1 ≤ rm.frames ∧ 8 + (4 + 11) + rmY.locals ≤ rm.locals) : m_CalOk E cc 1 35 2 ct := m_calS C nw_ok gw_ok hmut hM cd_Ar_fill (m_ing (by decide +kernel) (by decide +kernel)) (m_ing (by decide +kernel) (by decide +kernel)) (m_ing (by decide +kernel) (by decide +kernel)) hrc hrs ⟨by decide +kernel, by decide +kernel, by decide +kernel⟩ hR
theorem ca_St_41 {pb : Bool} {E : mE} {cc : ByteArray} {a0 : Jvm.Cond} {rm rmY : Room} {ct : mCT} (C : m_Cx E cc R_St (a0 :: gw) nw rm) (hmut : pb = false → m_Mut E) (hM : m_Met pb y_Bo_becomeFirst ws_Bo_becomeFirst nw rmY ct) (hrc : rmY.cells = 0) (hrs : rmY.slots = 0) (hct : ∀ as w K, ct as w K → ∃ a r fs, as = .inr a :: r ∧ w[a]? = some (.inr (1, fs))) (hR : rmY.frames + 1 ≤ rm.frames ∧ 8 + (2 + 11) + rmY.locals ≤ rm.locals) : m_CalOk E cc 0 41 1 ct := m_calVN (host := "StakeLedger") (Cn := R_Bo) (Tn := F_Bo) (Nn := 4) C nw_ok gw_ok hmut hM cd_Bo_becomeFirst (m_inn (by decide +kernel) (by decide +kernel)) (m_ing (by decide +kernel) (by decide +kernel)) (m_ing (by decide +kernel) (by decide +kernel)) (m_ing (by decide +kernel) (by decide +kernel)) hrc hrs rfl hct ⟨by decide +kernel, by decide +kernel, by decide +kernel⟩ hR
theorem ca_Le_171 {pb : Bool} {E : mE} {cc : ByteArray} {a0 : Jvm.Cond} {rm rmY : Room} {ct : mCT} (C : m_Cx E cc R_Le (a0 :: gw) nw rm) (hmut : pb = false → m_Mut E) (hM : m_Met pb y_St_powerOf ws_St_powerOf nw rmY ct) (hrc : rmY.cells = 0) (hrs : rmY.slots = 0) (hct : ∀ as w K, ct as w K → ∃ a r fs, as = .inr a :: r ∧ w[a]? = some (.inr (0, fs))) (hR : rmY.frames + 1 ≤ rm.frames ∧ 8 + (4 + 11) + rmY.locals ≤ rm.locals) : m_CalOk E cc 0 171 2 ct := m_calVN (host := "StakeLedger") (Cn := R_St) (Tn := F_St) (Nn := 7) C nw_ok gw_ok hmut hM cd_St_powerOf (m_inn (by decide +kernel) (by decide +kernel)) (m_ing (by decide +kernel) (by decide +kernel)) (m_ing (by decide +kernel) (by decide +kernel)) (m_ing (by decide +kernel) (by decide +kernel)) hrc hrs rfl hct ⟨by decide +kernel, by decide +kernel, by decide +kernel⟩ hR
theorem ca_St_76 {pb : Bool} {E : mE} {cc : ByteArray} {a0 : Jvm.Cond} {rm rmY : Room} {ct : mCT} (C : m_Cx E cc R_St (a0 :: gw) nw rm) (hmut : pb = false → m_Mut E) (hM : m_Met pb y_St_power ws_St_power nw rmY ct) (hrc : rmY.cells = 0) (hrs : rmY.slots = 0) (hct : ∀ as w K, ct as w K → ∃ a r fs, as = .inr a :: r ∧ w[a]? = some (.inr (0, fs))) (hR : rmY.frames + 1 ≤ rm.frames ∧ 8 + (2 + 11) + rmY.locals ≤ rm.locals) : m_CalOk E cc 0 76 2 ct := m_calV (Cn := R_St) (Tn := F_St) (Nn := 7) C nw_ok gw_ok hmut hM cd_St_power (m_ing (by decide +kernel) (by decide +kernel)) (m_ing (by decide +kernel) (by decide +kernel)) (m_ing (by decide +kernel) (by decide +kernel)) (m_ing (by decide +kernel) (by decide +kernel)) hrc hrs rfl hct ⟨by decide +kernel, by decide +kernel, by decide +kernel⟩ hR
theorem ca_St_68 {pb : Bool} {E : mE} {cc : ByteArray} {a0 : Jvm.Cond} {rm rmY : Room} {ct : mCT} (C : m_Cx E cc R_St (a0 :: gw) nw rm) (hmut : pb = false → m_Mut E) (hM : m_Met pb y_St_isJailed ws_St_isJailed nw rmY ct) (hrc : rmY.cells = 0) (hrs : rmY.slots = 0) (hct : ∀ as w K, ct as w K → ∃ a r fs, as = .inr a :: r ∧ w[a]? = some (.inr (0, fs))) (hR : rmY.frames + 1 ≤ rm.frames ∧ 8 + (2 + 11) + rmY.locals ≤ rm.locals) : m_CalOk E cc 0 68 2 ct := m_calV (Cn := R_St) (Tn := F_St) (Nn := 7) C nw_ok gw_ok hmut hM cd_St_isJailed (m_ing (by decide +kernel) (by decide +kernel)) (m_ing (by decide +kernel) (by decide +kernel)) (m_ing (by decide +kernel) (by decide +kernel)) (m_ing (by decide +kernel) (by decide +kernel)) hrc hrs rfl hct ⟨by decide +kernel, by decide +kernel, by decide +kernel⟩ hR
theorem ca_St_72 {pb : Bool} {E : mE} {cc : ByteArray} {a0 : Jvm.Cond} {rm rmY : Room} {ct : mCT} (C : m_Cx E cc R_St (a0 :: gw) nw rm) (hmut : pb = false → m_Mut E) (hM : m_Met pb y_Bo_amountWith ws_Bo_amountWith nw rmY ct) (hrc : rmY.cells = 0) (hrs : rmY.slots = 0) (hct : ∀ as w K, ct as w K → ∃ a r fs, as = .inr a :: r ∧ w[a]? = some (.inr (1, fs))) (hR : rmY.frames + 1 ≤ rm.frames ∧ 8 + (4 + 11) + rmY.locals ≤ rm.locals) : m_CalOk E cc 0 72 2 ct := m_calVN (host := "StakeLedger") (Cn := R_Bo) (Tn := F_Bo) (Nn := 4) C nw_ok gw_ok hmut hM cd_Bo_amountWith (m_inn (by decide +kernel) (by decide +kernel)) (m_ing (by decide +kernel) (by decide +kernel)) (m_ing (by decide +kernel) (by decide +kernel)) (m_ing (by decide +kernel) (by decide +kernel)) hrc hrs rfl hct ⟨by decide +kernel, by decide +kernel, by decide +kernel⟩ hR
theorem ca_Le_20 {pb : Bool} {E : mE} {cc : ByteArray} {a0 : Jvm.Cond} {rm rmY : Room} {ct : mCT} (C : m_Cx E cc R_Le (a0 :: gw) nw rm) (hmut : pb = false → m_Mut E) (hM : m_Met pb y_Le_isAccount ws_Le_isAccount nw rmY ct) (hrc : rmY.cells = 0) (hrs : rmY.slots = 0) (hR : rmY.frames + 1 ≤ rm.frames ∧ 8 + (1 + 11) + rmY.locals ≤ rm.locals) : m_CalOk E cc 1 20 1 ct := m_calS C nw_ok gw_ok hmut hM cd_Le_isAccount (m_ing (by decide +kernel) (by decide +kernel)) (m_ing (by decide +kernel) (by decide +kernel)) (m_ing (by decide +kernel) (by decide +kernel)) hrc hrs ⟨by decide +kernel, by decide +kernel, by decide +kernel⟩ hR
theorem ca_Le_24 {pb : Bool} {E : mE} {cc : ByteArray} {a0 : Jvm.Cond} {rm rmY : Room} {ct : mCT} (C : m_Cx E cc R_Le (a0 :: gw) nw rm) (hmut : pb = false → m_Mut E) (hM : m_Met pb y_Le_isAmount ws_Le_isAmount nw rmY ct) (hrc : rmY.cells = 0) (hrs : rmY.slots = 0) (hR : rmY.frames + 1 ≤ rm.frames ∧ 8 + (1 + 11) + rmY.locals ≤ rm.locals) : m_CalOk E cc 1 24 1 ct := m_calS C nw_ok gw_ok hmut hM cd_Le_isAmount (m_ing (by decide +kernel) (by decide +kernel)) (m_ing (by decide +kernel) (by decide +kernel)) (m_ing (by decide +kernel) (by decide +kernel)) hrc hrs ⟨by decide +kernel, by decide +kernel, by decide +kernel⟩ hR
theorem ca_Le_27 {pb : Bool} {E : mE} {cc : ByteArray} {a0 : Jvm.Cond} {rm rmY : Room} {ct : mCT} (C : m_Cx E cc R_Le (a0 :: gw) nw rm) (hmut : pb = false → m_Mut E) (hM : m_Met pb y_Le_isFeeTaker ws_Le_isFeeTaker nw rmY ct) (hrc : rmY.cells = 0) (hrs : rmY.slots = 0) (hR : rmY.frames + 1 ≤ rm.frames ∧ 8 + (1 + 11) + rmY.locals ≤ rm.locals) : m_CalOk E cc 1 27 1 ct := m_calS C nw_ok gw_ok hmut hM cd_Le_isFeeTaker (m_ing (by decide +kernel) (by decide +kernel)) (m_ing (by decide +kernel) (by decide +kernel)) (m_ing (by decide +kernel) (by decide +kernel)) hrc hrs ⟨by decide +kernel, by decide +kernel, by decide +kernel⟩ hR
theorem ca_Le_37 {pb : Bool} {E : mE} {cc : ByteArray} {a0 : Jvm.Cond} {rm rmY : Room} {ct : mCT} (C : m_Cx E cc R_Le (a0 :: gw) nw rm) (hmut : pb = false → m_Mut E) (hM : m_Met pb y_St_affords ws_St_affords nw rmY ct) (hrc : rmY.cells = 0) (hrs : rmY.slots = 0) (hct : ∀ as w K, ct as w K → ∃ a r fs, as = .inr a :: r ∧ w[a]? = some (.inr (0, fs))) (hR : rmY.frames + 1 ≤ rm.frames ∧ 8 + (5 + 11) + rmY.locals ≤ rm.locals) : m_CalOk E cc 0 37 4 ct := m_calVN (host := "StakeLedger") (Cn := R_St) (Tn := F_St) (Nn := 7) C nw_ok gw_ok hmut hM cd_St_affords (m_inn (by decide +kernel) (by decide +kernel)) (m_ing (by decide +kernel) (by decide +kernel)) (m_ing (by decide +kernel) (by decide +kernel)) (m_ing (by decide +kernel) (by decide +kernel)) hrc hrs rfl hct ⟨by decide +kernel, by decide +kernel, by decide +kernel⟩ hR
theorem ca_Le_46 {pb : Bool} {E : mE} {cc : ByteArray} {a0 : Jvm.Cond} {rm rmY : Room} {ct : mCT} (C : m_Cx E cc R_Le (a0 :: gw) nw rm) (hmut : pb = false → m_Mut E) (hM : m_Met pb y_St_takeFee ws_St_takeFee nw rmY ct) (hrc : rmY.cells = 0) (hrs : rmY.slots = 0) (hct : ∀ as w K, ct as w K → ∃ a r fs, as = .inr a :: r ∧ w[a]? = some (.inr (0, fs))) (hR : rmY.frames + 1 ≤ rm.frames ∧ 8 + (3 + 11) + rmY.locals ≤ rm.locals) : m_CalOk E cc 0 46 3 ct := m_calVN (host := "StakeLedger") (Cn := R_St) (Tn := F_St) (Nn := 7) C nw_ok gw_ok hmut hM cd_St_takeFee (m_inn (by decide +kernel) (by decide +kernel)) (m_ing (by decide +kernel) (by decide +kernel)) (m_ing (by decide +kernel) (by decide +kernel)) (m_ing (by decide +kernel) (by decide +kernel)) hrc hrs rfl hct ⟨by decide +kernel, by decide +kernel, by decide +kernel⟩ hR
theorem ca_Le_54 {pb : Bool} {E : mE} {cc : ByteArray} {a0 : Jvm.Cond} {rm rmY : Room} {ct : mCT} (C : m_Cx E cc R_Le (a0 :: gw) nw rm) (hmut : pb = false → m_Mut E) (hM : m_Met pb y_Le_isNode ws_Le_isNode nw rmY ct) (hrc : rmY.cells = 0) (hrs : rmY.slots = 0) (hR : rmY.frames + 1 ≤ rm.frames ∧ 8 + (1 + 11) + rmY.locals ≤ rm.locals) : m_CalOk E cc 1 54 1 ct := m_calS C nw_ok gw_ok hmut hM cd_Le_isNode (m_ing (by decide +kernel) (by decide +kernel)) (m_ing (by decide +kernel) (by decide +kernel)) (m_ing (by decide +kernel) (by decide +kernel)) hrc hrs ⟨by decide +kernel, by decide +kernel, by decide +kernel⟩ hR
theorem ca_Le_63 {pb : Bool} {E : mE} {cc : ByteArray} {a0 : Jvm.Cond} {rm rmY : Room} {ct : mCT} (C : m_Cx E cc R_Le (a0 :: gw) nw rm) (hmut : pb = false → m_Mut E) (hM : m_Met pb y_Bo_hasPlaceFor ws_Bo_hasPlaceFor nw rmY ct) (hrc : rmY.cells = 0) (hrs : rmY.slots = 0) (hct : ∀ as w K, ct as w K → ∃ a r fs, as = .inr a :: r ∧ w[a]? = some (.inr (1, fs))) (hR : rmY.frames + 1 ≤ rm.frames ∧ 8 + (3 + 11) + rmY.locals ≤ rm.locals) : m_CalOk E cc 0 63 3 ct := m_calVN (host := "StakeLedger") (Cn := R_Bo) (Tn := F_Bo) (Nn := 4) C nw_ok gw_ok hmut hM cd_Bo_hasPlaceFor (m_inn (by decide +kernel) (by decide +kernel)) (m_ing (by decide +kernel) (by decide +kernel)) (m_ing (by decide +kernel) (by decide +kernel)) (m_ing (by decide +kernel) (by decide +kernel)) hrc hrs rfl hct ⟨by decide +kernel, by decide +kernel, by decide +kernel⟩ hR
theorem ca_Bo_31 {pb : Bool} {E : mE} {cc : ByteArray} {a0 : Jvm.Cond} {rm rmY : Room} {ct : mCT} (C : m_Cx E cc R_Bo (a0 :: gw) nw rm) (hmut : pb = false → m_Mut E) (hM : m_Met pb y_Bo_find ws_Bo_find nw rmY ct) (hrc : rmY.cells = 0) (hrs : rmY.slots = 0) (hct : ∀ as w K, ct as w K → ∃ a r fs, as = .inr a :: r ∧ w[a]? = some (.inr (1, fs))) (hR : rmY.frames + 1 ≤ rm.frames ∧ 8 + (4 + 11) + rmY.locals ≤ rm.locals) : m_CalOk E cc 0 31 3 ct := m_calV (Cn := R_Bo) (Tn := F_Bo) (Nn := 4) C nw_ok gw_ok hmut hM cd_Bo_find (m_ing (by decide +kernel) (by decide +kernel)) (m_ing (by decide +kernel) (by decide +kernel)) (m_ing (by decide +kernel) (by decide +kernel)) (m_ing (by decide +kernel) (by decide +kernel)) hrc hrs rfl hct ⟨by decide +kernel, by decide +kernel, by decide +kernel⟩ hR
theorem ca_Le_71 {pb : Bool} {E : mE} {cc : ByteArray} {a0 : Jvm.Cond} {rm rmY : Room} {ct : mCT} (C : m_Cx E cc R_Le (a0 :: gw) nw rm) (hmut : pb = false → m_Mut E) (hM : m_Met pb y_Bo_increase ws_Bo_increase nw rmY ct) (hrc : rmY.cells = 0) (hrs : rmY.slots = 0) (hct : ∀ as w K, ct as w K → ∃ a r fs, as = .inr a :: r ∧ w[a]? = some (.inr (1, fs))) (hR : rmY.frames + 1 ≤ rm.frames ∧ 8 + (5 + 11) + rmY.locals ≤ rm.locals) : m_CalOk E cc 0 71 4 ct := m_calVN (host := "StakeLedger") (Cn := R_Bo) (Tn := F_Bo) (Nn := 4) C nw_ok gw_ok hmut hM cd_Bo_increase (m_inn (by decide +kernel) (by decide +kernel)) (m_ing (by decide +kernel) (by decide +kernel)) (m_ing (by decide +kernel) (by decide +kernel)) (m_ing (by decide +kernel) (by decide +kernel)) hrc hrs rfl hct ⟨by decide +kernel, by decide +kernel, by decide +kernel⟩ hR
theorem ca_Le_75 {pb : Bool} {E : mE} {cc : ByteArray} {a0 : Jvm.Cond} {rm rmY : Room} {ct : mCT} (C : m_Cx E cc R_Le (a0 :: gw) nw rm) (hmut : pb = false → m_Mut E) (hM : m_Met pb y_Bo_amountOf ws_Bo_amountOf nw rmY ct) (hrc : rmY.cells = 0) (hrs : rmY.slots = 0) (hct : ∀ as w K, ct as w K → ∃ a r fs, as = .inr a :: r ∧ w[a]? = some (.inr (1, fs))) (hR : rmY.frames + 1 ≤ rm.frames ∧ 8 + (4 + 11) + rmY.locals ≤ rm.locals) : m_CalOk E cc 0 75 3 ct := m_calVN (host := "StakeLedger") (Cn := R_Bo) (Tn := F_Bo) (Nn := 4) C nw_ok gw_ok hmut hM cd_Bo_amountOf (m_inn (by decide +kernel) (by decide +kernel)) (m_ing (by decide +kernel) (by decide +kernel)) (m_ing (by decide +kernel) (by decide +kernel)) (m_ing (by decide +kernel) (by decide +kernel)) hrc hrs rfl hct ⟨by decide +kernel, by decide +kernel, by decide +kernel⟩ hR
theorem ca_Le_87 {pb : Bool} {E : mE} {cc : ByteArray} {a0 : Jvm.Cond} {rm rmY : Room} {ct : mCT} (C : m_Cx E cc R_Le (a0 :: gw) nw rm) (hmut : pb = false → m_Mut E) (hM : m_Met pb y_Re_isFull ws_Re_isFull nw rmY ct) (hrc : rmY.cells = 0) (hrs : rmY.slots = 0) (hct : ∀ as w K, ct as w K → ∃ a r fs, as = .inr a :: r ∧ w[a]? = some (.inr (2, fs))) (hR : rmY.frames + 1 ≤ rm.frames ∧ 8 + (1 + 11) + rmY.locals ≤ rm.locals) : m_CalOk E cc 0 87 1 ct := m_calVN (host := "StakeLedger") (Cn := R_Re) (Tn := F_Re) (Nn := 4) C nw_ok gw_ok hmut hM cd_Re_isFull (m_inn (by decide +kernel) (by decide +kernel)) (m_ing (by decide +kernel) (by decide +kernel)) (m_ing (by decide +kernel) (by decide +kernel)) (m_ing (by decide +kernel) (by decide +kernel)) hrc hrs rfl hct ⟨by decide +kernel, by decide +kernel, by decide +kernel⟩ hR
theorem ca_Le_95 {pb : Bool} {E : mE} {cc : ByteArray} {a0 : Jvm.Cond} {rm rmY : Room} {ct : mCT} (C : m_Cx E cc R_Le (a0 :: gw) nw rm) (hmut : pb = false → m_Mut E) (hM : m_Met pb y_Bo_decrease ws_Bo_decrease nw rmY ct) (hrc : rmY.cells = 0) (hrs : rmY.slots = 0) (hct : ∀ as w K, ct as w K → ∃ a r fs, as = .inr a :: r ∧ w[a]? = some (.inr (1, fs))) (hR : rmY.frames + 1 ≤ rm.frames ∧ 8 + (5 + 11) + rmY.locals ≤ rm.locals) : m_CalOk E cc 0 95 4 ct := m_calVN (host := "StakeLedger") (Cn := R_Bo) (Tn := F_Bo) (Nn := 4) C nw_ok gw_ok hmut hM cd_Bo_decrease (m_inn (by decide +kernel) (by decide +kernel)) (m_ing (by decide +kernel) (by decide +kernel)) (m_ing (by decide +kernel) (by decide +kernel)) (m_ing (by decide +kernel) (by decide +kernel)) hrc hrs rfl hct ⟨by decide +kernel, by decide +kernel, by decide +kernel⟩ hR
theorem ca_Bo_35 {pb : Bool} {E : mE} {cc : ByteArray} {a0 : Jvm.Cond} {rm rmY : Room} {ct : mCT} (C : m_Cx E cc R_Bo (a0 :: gw) nw rm) (hmut : pb = false → m_Mut E) (hM : m_Met pb y_Bo_remove ws_Bo_remove nw rmY ct) (hrc : rmY.cells = 0) (hrs : rmY.slots = 0) (hct : ∀ as w K, ct as w K → ∃ a r fs, as = .inr a :: r ∧ w[a]? = some (.inr (1, fs))) (hR : rmY.frames + 1 ≤ rm.frames ∧ 8 + (2 + 11) + rmY.locals ≤ rm.locals) : m_CalOk E cc 0 35 2 ct := m_calV (Cn := R_Bo) (Tn := F_Bo) (Nn := 4) C nw_ok gw_ok hmut hM cd_Bo_remove (m_ing (by decide +kernel) (by decide +kernel)) (m_ing (by decide +kernel) (by decide +kernel)) (m_ing (by decide +kernel) (by decide +kernel)) (m_ing (by decide +kernel) (by decide +kernel)) hrc hrs rfl hct ⟨by decide +kernel, by decide +kernel, by decide +kernel⟩ hR
theorem ca_Le_102 {pb : Bool} {E : mE} {cc : ByteArray} {a0 : Jvm.Cond} {rm rmY : Room} {ct : mCT} (C : m_Cx E cc R_Le (a0 :: gw) nw rm) (hmut : pb = false → m_Mut E) (hM : m_Met pb y_Re_append ws_Re_append nw rmY ct) (hrc : rmY.cells = 0) (hrs : rmY.slots = 0) (hct : ∀ as w K, ct as w K → ∃ a r fs, as = .inr a :: r ∧ w[a]? = some (.inr (2, fs))) (hR : rmY.frames + 1 ≤ rm.frames ∧ 8 + (4 + 11) + rmY.locals ≤ rm.locals) : m_CalOk E cc 0 102 4 ct := m_calVN (host := "StakeLedger") (Cn := R_Re) (Tn := F_Re) (Nn := 4) C nw_ok gw_ok hmut hM cd_Re_append (m_inn (by decide +kernel) (by decide +kernel)) (m_ing (by decide +kernel) (by decide +kernel)) (m_ing (by decide +kernel) (by decide +kernel)) (m_ing (by decide +kernel) (by decide +kernel)) hrc hrs rfl hct ⟨by decide +kernel, by decide +kernel, by decide +kernel⟩ hR
theorem ca_Re_31 {pb : Bool} {E : mE} {cc : ByteArray} {a0 : Jvm.Cond} {rm rmY : Room} {ct : mCT} (C : m_Cx E cc R_Re (a0 :: gw) nw rm) (hmut : pb = false → m_Mut E) (hM : m_Met pb y_Re_isFull ws_Re_isFull nw rmY ct) (hrc : rmY.cells = 0) (hrs : rmY.slots = 0) (hct : ∀ as w K, ct as w K → ∃ a r fs, as = .inr a :: r ∧ w[a]? = some (.inr (2, fs))) (hR : rmY.frames + 1 ≤ rm.frames ∧ 8 + (1 + 11) + rmY.locals ≤ rm.locals) : m_CalOk E cc 0 31 1 ct := m_calV (Cn := R_Re) (Tn := F_Re) (Nn := 4) C nw_ok gw_ok hmut hM cd_Re_isFull (m_ing (by decide +kernel) (by decide +kernel)) (m_ing (by decide +kernel) (by decide +kernel)) (m_ing (by decide +kernel) (by decide +kernel)) (m_ing (by decide +kernel) (by decide +kernel)) hrc hrs rfl hct ⟨by decide +kernel, by decide +kernel, by decide +kernel⟩ hR
theorem ca_Le_110 {pb : Bool} {E : mE} {cc : ByteArray} {a0 : Jvm.Cond} {rm rmY : Room} {ct : mCT} (C : m_Cx E cc R_Le (a0 :: gw) nw rm) (hmut : pb = false → m_Mut E) (hM : m_Met pb y_St_isJailed ws_St_isJailed nw rmY ct) (hrc : rmY.cells = 0) (hrs : rmY.slots = 0) (hct : ∀ as w K, ct as w K → ∃ a r fs, as = .inr a :: r ∧ w[a]? = some (.inr (0, fs))) (hR : rmY.frames + 1 ≤ rm.frames ∧ 8 + (2 + 11) + rmY.locals ≤ rm.locals) : m_CalOk E cc 0 110 2 ct := m_calVN (host := "StakeLedger") (Cn := R_St) (Tn := F_St) (Nn := 7) C nw_ok gw_ok hmut hM cd_St_isJailed (m_inn (by decide +kernel) (by decide +kernel)) (m_ing (by decide +kernel) (by decide +kernel)) (m_ing (by decide +kernel) (by decide +kernel)) (m_ing (by decide +kernel) (by decide +kernel)) hrc hrs rfl hct ⟨by decide +kernel, by decide +kernel, by decide +kernel⟩ hR
theorem ca_Le_118 {pb : Bool} {E : mE} {cc : ByteArray} {a0 : Jvm.Cond} {rm rmY : Room} {ct : mCT} (C : m_Cx E cc R_Le (a0 :: gw) nw rm) (hmut : pb = false → m_Mut E) (hM : m_Met pb y_St_power ws_St_power nw rmY ct) (hrc : rmY.cells = 0) (hrs : rmY.slots = 0) (hct : ∀ as w K, ct as w K → ∃ a r fs, as = .inr a :: r ∧ w[a]? = some (.inr (0, fs))) (hR : rmY.frames + 1 ≤ rm.frames ∧ 8 + (2 + 11) + rmY.locals ≤ rm.locals) : m_CalOk E cc 0 118 2 ct := m_calVN (host := "StakeLedger") (Cn := R_St) (Tn := F_St) (Nn := 7) C nw_ok gw_ok hmut hM cd_St_power (m_inn (by decide +kernel) (by decide +kernel)) (m_ing (by decide +kernel) (by decide +kernel)) (m_ing (by decide +kernel) (by decide +kernel)) (m_ing (by decide +kernel) (by decide +kernel)) hrc hrs rfl hct ⟨by decide +kernel, by decide +kernel, by decide +kernel⟩ hR
theorem ca_Le_127 {pb : Bool} {E : mE} {cc : ByteArray} {a0 : Jvm.Cond} {rm rmY : Room} {ct : mCT} (C : m_Cx E cc R_Le (a0 :: gw) nw rm) (hmut : pb = false → m_Mut E) (hM : m_Met pb y_Bo_cutQuarters ws_Bo_cutQuarters nw rmY ct) (hrc : rmY.cells = 0) (hrs : rmY.slots = 0) (hct : ∀ as w K, ct as w K → ∃ a r fs, as = .inr a :: r ∧ w[a]? = some (.inr (1, fs))) (hR : rmY.frames + 1 ≤ rm.frames ∧ 8 + (5 + 11) + rmY.locals ≤ rm.locals) : m_CalOk E cc 0 127 2 ct := m_calVN (host := "StakeLedger") (Cn := R_Bo) (Tn := F_Bo) (Nn := 4) C nw_ok gw_ok hmut hM cd_Bo_cutQuarters (m_inn (by decide +kernel) (by decide +kernel)) (m_ing (by decide +kernel) (by decide +kernel)) (m_ing (by decide +kernel) (by decide +kernel)) (m_ing (by decide +kernel) (by decide +kernel)) hrc hrs rfl hct ⟨by decide +kernel, by decide +kernel, by decide +kernel⟩ hR
theorem ca_Le_136 {pb : Bool} {E : mE} {cc : ByteArray} {a0 : Jvm.Cond} {rm rmY : Room} {ct : mCT} (C : m_Cx E cc R_Le (a0 :: gw) nw rm) (hmut : pb = false → m_Mut E) (hM : m_Met pb y_Re_release ws_Re_release nw rmY ct) (hrc : rmY.cells = 0) (hrs : rmY.slots = 0) (hct : ∀ as w K, ct as w K → ∃ a r fs, as = .inr a :: r ∧ w[a]? = some (.inr (2, fs))) (hR : rmY.frames + 1 ≤ rm.frames ∧ 8 + (5 + 11) + rmY.locals ≤ rm.locals) : m_CalOk E cc 0 136 3 ct := m_calVN (host := "StakeLedger") (Cn := R_Re) (Tn := F_Re) (Nn := 4) C nw_ok gw_ok hmut hM cd_Re_release (m_inn (by decide +kernel) (by decide +kernel)) (m_ing (by decide +kernel) (by decide +kernel)) (m_ing (by decide +kernel) (by decide +kernel)) (m_ing (by decide +kernel) (by decide +kernel)) hrc hrs rfl hct ⟨by decide +kernel, by decide +kernel, by decide +kernel⟩ hR
theorem ca_Le_140 {pb : Bool} {E : mE} {cc : ByteArray} {a0 : Jvm.Cond} {rm rmY : Room} {ct : mCT} (C : m_Cx E cc R_Le (a0 :: gw) nw rm) (hmut : pb = false → m_Mut E) (hM : m_Met pb y_Le_isKeptState ws_Le_isKeptState nw rmY ct) (hrc : rmY.cells = 0) (hrs : rmY.slots = 0) (hR : rmY.frames + 1 ≤ rm.frames ∧ 8 + (1 + 11) + rmY.locals ≤ rm.locals) : m_CalOk E cc 1 140 1 ct := m_calS C nw_ok gw_ok hmut hM cd_Le_isKeptState (m_ing (by decide +kernel) (by decide +kernel)) (m_ing (by decide +kernel) (by decide +kernel)) (m_ing (by decide +kernel) (by decide +kernel)) hrc hrs ⟨by decide +kernel, by decide +kernel, by decide +kernel⟩ hR
theorem ca_Le_148 {pb : Bool} {E : mE} {cc : ByteArray} {a0 : Jvm.Cond} {rm rmY : Room} {ct : mCT} (C : m_Cx E cc R_Le (a0 :: gw) nw rm) (hmut : pb = false → m_Mut E) (hM : m_Met pb y_St_become ws_St_become nw rmY ct) (hrc : rmY.cells = 0) (hrs : rmY.slots = 0) (hct : ∀ as w K, ct as w K → ∃ a r fs, as = .inr a :: r ∧ w[a]? = some (.inr (0, fs))) (hR : rmY.frames + 1 ≤ rm.frames ∧ 8 + (2 + 11) + rmY.locals ≤ rm.locals) : m_CalOk E cc 0 148 2 ct := m_calVN (host := "StakeLedger") (Cn := R_St) (Tn := F_St) (Nn := 7) C nw_ok gw_ok hmut hM cd_St_become (m_inn (by decide +kernel) (by decide +kernel)) (m_ing (by decide +kernel) (by decide +kernel)) (m_ing (by decide +kernel) (by decide +kernel)) (m_ing (by decide +kernel) (by decide +kernel)) hrc hrs rfl hct ⟨by decide +kernel, by decide +kernel, by decide +kernel⟩ hR
theorem ca_St_61 {pb : Bool} {E : mE} {cc : ByteArray} {a0 : Jvm.Cond} {rm rmY : Room} {ct : mCT} (C : m_Cx E cc R_St (a0 :: gw) nw rm) (hmut : pb = false → m_Mut E) (hM : m_Met pb y_Bo_become ws_Bo_become nw rmY ct) (hrc : rmY.cells = 0) (hrs : rmY.slots = 0) (hct : ∀ as w K, ct as w K → ∃ a r fs, as = .inr a :: r ∧ w[a]? = some (.inr (1, fs))) (hR : rmY.frames + 1 ≤ rm.frames ∧ 8 + (2 + 11) + rmY.locals ≤ rm.locals) : m_CalOk E cc 0 61 2 ct := m_calVN (host := "StakeLedger") (Cn := R_Bo) (Tn := F_Bo) (Nn := 4) C nw_ok gw_ok hmut hM cd_Bo_become (m_inn (by decide +kernel) (by decide +kernel)) (m_ing (by decide +kernel) (by decide +kernel)) (m_ing (by decide +kernel) (by decide +kernel)) (m_ing (by decide +kernel) (by decide +kernel)) hrc hrs rfl hct ⟨by decide +kernel, by decide +kernel, by decide +kernel⟩ hR
theorem ca_St_65 {pb : Bool} {E : mE} {cc : ByteArray} {a0 : Jvm.Cond} {rm rmY : Room} {ct : mCT} (C : m_Cx E cc R_St (a0 :: gw) nw rm) (hmut : pb = false → m_Mut E) (hM : m_Met pb y_Re_become ws_Re_become nw rmY ct) (hrc : rmY.cells = 0) (hrs : rmY.slots = 0) (hct : ∀ as w K, ct as w K → ∃ a r fs, as = .inr a :: r ∧ w[a]? = some (.inr (2, fs))) (hR : rmY.frames + 1 ≤ rm.frames ∧ 8 + (2 + 11) + rmY.locals ≤ rm.locals) : m_CalOk E cc 0 65 2 ct := m_calVN (host := "StakeLedger") (Cn := R_Re) (Tn := F_Re) (Nn := 4) C nw_ok gw_ok hmut hM cd_Re_become (m_inn (by decide +kernel) (by decide +kernel)) (m_ing (by decide +kernel) (by decide +kernel)) (m_ing (by decide +kernel) (by decide +kernel)) (m_ing (by decide +kernel) (by decide +kernel)) hrc hrs rfl hct ⟨by decide +kernel, by decide +kernel, by decide +kernel⟩ hR
theorem ca_Le_152 {pb : Bool} {E : mE} {cc : ByteArray} {a0 : Jvm.Cond} {rm rmY : Room} {ct : mCT} (C : m_Cx E cc R_Le (a0 :: gw) nw rm) (hmut : pb = false → m_Mut E) (hM : m_Met pb y_St_becomeFirst ws_St_becomeFirst nw rmY ct) (hrc : rmY.cells = 0) (hrs : rmY.slots = 0) (hct : ∀ as w K, ct as w K → ∃ a r fs, as = .inr a :: r ∧ w[a]? = some (.inr (0, fs))) (hR : rmY.frames + 1 ≤ rm.frames ∧ 8 + (1 + 11) + rmY.locals ≤ rm.locals) : m_CalOk E cc 0 152 1 ct := m_calVN (host := "StakeLedger") (Cn := R_St) (Tn := F_St) (Nn := 7) C nw_ok gw_ok hmut hM cd_St_becomeFirst (m_inn (by decide +kernel) (by decide +kernel)) (m_ing (by decide +kernel) (by decide +kernel)) (m_ing (by decide +kernel) (by decide +kernel)) (m_ing (by decide +kernel) (by decide +kernel)) hrc hrs rfl hct ⟨by decide +kernel, by decide +kernel, by decide +kernel⟩ hR
theorem ca_Le_159 {pb : Bool} {E : mE} {cc : ByteArray} {a0 : Jvm.Cond} {rm rmY : Room} {ct : mCT} (C : m_Cx E cc R_Le (a0 :: gw) nw rm) (hmut : pb = false → m_Mut E) (hM : m_Met pb y_Re_amountOf ws_Re_amountOf nw rmY ct) (hrc : rmY.cells = 0) (hrs : rmY.slots = 0) (hct : ∀ as w K, ct as w K → ∃ a r fs, as = .inr a :: r ∧ w[a]? = some (.inr (2, fs))) (hR : rmY.frames + 1 ≤ rm.frames ∧ 8 + (4 + 11) + rmY.locals ≤ rm.locals) : m_CalOk E cc 0 159 2 ct := m_calVN (host := "StakeLedger") (Cn := R_Re) (Tn := F_Re) (Nn := 4) C nw_ok gw_ok hmut hM cd_Re_amountOf (m_inn (by decide +kernel) (by decide +kernel)) (m_ing (by decide +kernel) (by decide +kernel)) (m_ing (by decide +kernel) (by decide +kernel)) (m_ing (by decide +kernel) (by decide +kernel)) hrc hrs rfl hct ⟨by decide +kernel, by decide +kernel, by decide +kernel⟩ hR
theorem ca_Le_162 {pb : Bool} {E : mE} {cc : ByteArray} {a0 : Jvm.Cond} {rm rmY : Room} {ct : mCT} (C : m_Cx E cc R_Le (a0 :: gw) nw rm) (hmut : pb = false → m_Mut E) (hM : m_Met pb y_St_everything ws_St_everything nw rmY ct) (hrc : rmY.cells = 0) (hrs : rmY.slots = 0) (hct : ∀ as w K, ct as w K → ∃ a r fs, as = .inr a :: r ∧ w[a]? = some (.inr (0, fs))) (hR : rmY.frames + 1 ≤ rm.frames ∧ 8 + (3 + 11) + rmY.locals ≤ rm.locals) : m_CalOk E cc 0 162 1 ct := m_calVN (host := "StakeLedger") (Cn := R_St) (Tn := F_St) (Nn := 7) C nw_ok gw_ok hmut hM cd_St_everything (m_inn (by decide +kernel) (by decide +kernel)) (m_ing (by decide +kernel) (by decide +kernel)) (m_ing (by decide +kernel) (by decide +kernel)) (m_ing (by decide +kernel) (by decide +kernel)) hrc hrs rfl hct ⟨by decide +kernel, by decide +kernel, by decide +kernel⟩ hR
theorem ca_St_79 {pb : Bool} {E : mE} {cc : ByteArray} {a0 : Jvm.Cond} {rm rmY : Room} {ct : mCT} (C : m_Cx E cc R_St (a0 :: gw) nw rm) (hmut : pb = false → m_Mut E) (hM : m_Met pb y_Bo_total ws_Bo_total nw rmY ct) (hrc : rmY.cells = 0) (hrs : rmY.slots = 0) (hct : ∀ as w K, ct as w K → ∃ a r fs, as = .inr a :: r ∧ w[a]? = some (.inr (1, fs))) (hR : rmY.frames + 1 ≤ rm.frames ∧ 8 + (3 + 11) + rmY.locals ≤ rm.locals) : m_CalOk E cc 0 79 1 ct := m_calVN (host := "StakeLedger") (Cn := R_Bo) (Tn := F_Bo) (Nn := 4) C nw_ok gw_ok hmut hM cd_Bo_total (m_inn (by decide +kernel) (by decide +kernel)) (m_ing (by decide +kernel) (by decide +kernel)) (m_ing (by decide +kernel) (by decide +kernel)) (m_ing (by decide +kernel) (by decide +kernel)) hrc hrs rfl hct ⟨by decide +kernel, by decide +kernel, by decide +kernel⟩ hR
theorem ca_St_83 {pb : Bool} {E : mE} {cc : ByteArray} {a0 : Jvm.Cond} {rm rmY : Room} {ct : mCT} (C : m_Cx E cc R_St (a0 :: gw) nw rm) (hmut : pb = false → m_Mut E) (hM : m_Met pb y_Re_total ws_Re_total nw rmY ct) (hrc : rmY.cells = 0) (hrs : rmY.slots = 0) (hct : ∀ as w K, ct as w K → ∃ a r fs, as = .inr a :: r ∧ w[a]? = some (.inr (2, fs))) (hR : rmY.frames + 1 ≤ rm.frames ∧ 8 + (3 + 11) + rmY.locals ≤ rm.locals) : m_CalOk E cc 0 83 1 ct := m_calVN (host := "StakeLedger") (Cn := R_Re) (Tn := F_Re) (Nn := 4) C nw_ok gw_ok hmut hM cd_Re_total (m_inn (by decide +kernel) (by decide +kernel)) (m_ing (by decide +kernel) (by decide +kernel)) (m_ing (by decide +kernel) (by decide +kernel)) (m_ing (by decide +kernel) (by decide +kernel)) hrc hrs rfl hct ⟨by decide +kernel, by decide +kernel, by decide +kernel⟩ hR
theorem ca_Mo_94 {pb : Bool} {E : mE} {cc : ByteArray} {a0 : Jvm.Cond} {rm rmY : Room} {ct : mCT} (C : m_Cx E cc R_Mo (a0 :: gw) nw rm) (hmut : pb = false → m_Mut E) (hM : m_Met pb y_Mo_in ws_Mo_in nw rmY ct) (hrc : rmY.cells = 0) (hrs : rmY.slots = 0) (hR : rmY.frames + 1 ≤ rm.frames ∧ 8 + (3 + 11) + rmY.locals ≤ rm.locals) : m_CalOk E cc 1 94 3 ct := m_calS C nw_ok gw_ok hmut hM cd_Mo_in (m_ing (by decide +kernel) (by decide +kernel)) (m_ing (by decide +kernel) (by decide +kernel)) (m_ing (by decide +kernel) (by decide +kernel)) hrc hrs ⟨by decide +kernel, by decide +kernel, by decide +kernel⟩ hR
theorem ca_Mo_91 {pb : Bool} {E : mE} {cc : ByteArray} {a0 : Jvm.Cond} {rm rmY : Room} {ct : mCT} (C : m_Cx E cc R_Mo (a0 :: gw) nw rm) (hmut : pb = false → m_Mut E) (hM : m_Met pb y_Mo_work ws_Mo_work nw rmY ct) (hrc : rmY.cells = 0) (hrs : rmY.slots = 0) (hct : ∀ as w K, ct as w K → ∃ a r fs, as = .inr a :: r ∧ w[a]? = some (.inr (4, fs))) (hR : rmY.frames + 1 ≤ rm.frames ∧ 8 + (4 + 11) + rmY.locals ≤ rm.locals) : m_CalOk E cc 0 91 1 ct := m_calV (Cn := R_Mo) (Tn := F_Mo) (Nn := 23) C nw_ok gw_ok hmut hM cd_Mo_work (m_ing (by decide +kernel) (by decide +kernel)) (m_ing (by decide +kernel) (by decide +kernel)) (m_ing (by decide +kernel) (by decide +kernel)) (m_ing (by decide +kernel) (by decide +kernel)) hrc hrs rfl hct ⟨by decide +kernel, by decide +kernel, by decide +kernel⟩ hR
theorem ca_Mo_78 {pb : Bool} {E : mE} {cc : ByteArray} {a0 : Jvm.Cond} {rm rmY : Room} {ct : mCT} (C : m_Cx E cc R_Mo (a0 :: gw) nw rm) (hmut : pb = false → m_Mut E) (hM : m_Met pb y_Mo_first ws_Mo_first nw rmY ct) (hrc : rmY.cells = 0) (hrs : rmY.slots = 0) (hct : ∀ as w K, ct as w K → ∃ a r fs, as = .inr a :: r ∧ w[a]? = some (.inr (4, fs))) (hR : rmY.frames + 1 ≤ rm.frames ∧ 8 + (2 + 11) + rmY.locals ≤ rm.locals) : m_CalOk E cc 0 78 1 ct := m_calV (Cn := R_Mo) (Tn := F_Mo) (Nn := 23) C nw_ok gw_ok hmut hM cd_Mo_first (m_ing (by decide +kernel) (by decide +kernel)) (m_ing (by decide +kernel) (by decide +kernel)) (m_ing (by decide +kernel) (by decide +kernel)) (m_ing (by decide +kernel) (by decide +kernel)) hrc hrs rfl hct ⟨by decide +kernel, by decide +kernel, by decide +kernel⟩ hR
theorem ca_Mo_81 {pb : Bool} {E : mE} {cc : ByteArray} {a0 : Jvm.Cond} {rm rmY : Room} {ct : mCT} (C : m_Cx E cc R_Mo (a0 :: gw) nw rm) (hmut : pb = false → m_Mut E) (hM : m_Met pb y_Mo_done ws_Mo_done nw rmY ct) (hrc : rmY.cells = 0) (hrs : rmY.slots = 0) (hct : ∀ as w K, ct as w K → ∃ a r fs, as = .inr a :: r ∧ w[a]? = some (.inr (4, fs))) (hR : rmY.frames + 1 ≤ rm.frames ∧ 8 + (6 + 11) + rmY.locals ≤ rm.locals) : m_CalOk E cc 0 81 2 ct := m_calV (Cn := R_Mo) (Tn := F_Mo) (Nn := 23) C nw_ok gw_ok hmut hM cd_Mo_done (m_ing (by decide +kernel) (by decide +kernel)) (m_ing (by decide +kernel) (by decide +kernel)) (m_ing (by decide +kernel) (by decide +kernel)) (m_ing (by decide +kernel) (by decide +kernel)) hrc hrs rfl hct ⟨by decide +kernel, by decide +kernel, by decide +kernel⟩ hR
theorem ca_Mo_85 {pb : Bool} {E : mE} {cc : ByteArray} {a0 : Jvm.Cond} {rm rmY : Room} {ct : mCT} (C : m_Cx E cc R_Mo (a0 :: gw) nw rm) (hmut : pb = false → m_Mut E) (hM : m_Met pb y_Mo_next2 ws_Mo_next2 nw rmY ct) (hrc : rmY.cells = 0) (hrs : rmY.slots = 0) (hct : ∀ as w K, ct as w K → ∃ a r fs, as = .inr a :: r ∧ w[a]? = some (.inr (4, fs))) (hR : rmY.frames + 1 ≤ rm.frames ∧ 8 + (3 + 11) + rmY.locals ≤ rm.locals) : m_CalOk E cc 0 85 1 ct := m_calV (Cn := R_Mo) (Tn := F_Mo) (Nn := 23) C nw_ok gw_ok hmut hM cd_Mo_next2 (m_ing (by decide +kernel) (by decide +kernel)) (m_ing (by decide +kernel) (by decide +kernel)) (m_ing (by decide +kernel) (by decide +kernel)) (m_ing (by decide +kernel) (by decide +kernel)) hrc hrs rfl hct ⟨by decide +kernel, by decide +kernel, by decide +kernel⟩ hR
theorem ca_Mo_99 {pb : Bool} {E : mE} {cc : ByteArray} {a0 : Jvm.Cond} {rm rmY : Room} {ct : mCT} (C : m_Cx E cc R_Mo (a0 :: gw) nw rm) (hmut : pb = false → m_Mut E) (hM : m_Met pb y_Mo_isPaid ws_Mo_isPaid nw rmY ct) (hrc : rmY.cells = 0) (hrs : rmY.slots = 0) (hct : ∀ as w K, ct as w K → ∃ a r fs, as = .inr a :: r ∧ w[a]? = some (.inr (4, fs))) (hR : rmY.frames + 1 ≤ rm.frames ∧ 8 + (4 + 11) + rmY.locals ≤ rm.locals) : m_CalOk E cc 0 99 4 ct := m_calV (Cn := R_Mo) (Tn := F_Mo) (Nn := 23) C nw_ok gw_ok hmut hM cd_Mo_isPaid (m_ing (by decide +kernel) (by decide +kernel)) (m_ing (by decide +kernel) (by decide +kernel)) (m_ing (by decide +kernel) (by decide +kernel)) (m_ing (by decide +kernel) (by decide +kernel)) hrc hrs rfl hct ⟨by decide +kernel, by decide +kernel, by decide +kernel⟩ hR
theorem ca_Mo_102 {pb : Bool} {E : mE} {cc : ByteArray} {a0 : Jvm.Cond} {rm rmY : Room} {ct : mCT} (C : m_Cx E cc R_Mo (a0 :: gw) nw rm) (hmut : pb = false → m_Mut E) (hM : m_Met pb y_Mo_change ws_Mo_change nw rmY ct) (hrc : rmY.cells = 0) (hrs : rmY.slots = 0) (hct : ∀ as w K, ct as w K → ∃ a r fs, as = .inr a :: r ∧ w[a]? = some (.inr (4, fs))) (hR : rmY.frames + 1 ≤ rm.frames ∧ 8 + (7 + 11) + rmY.locals ≤ rm.locals) : m_CalOk E cc 0 102 6 ct := m_calV (Cn := R_Mo) (Tn := F_Mo) (Nn := 23) C nw_ok gw_ok hmut hM cd_Mo_change (m_ing (by decide +kernel) (by decide +kernel)) (m_ing (by decide +kernel) (by decide +kernel)) (m_ing (by decide +kernel) (by decide +kernel)) (m_ing (by decide +kernel) (by decide +kernel)) hrc hrs rfl hct ⟨by decide +kernel, by decide +kernel, by decide +kernel⟩ hR
theorem ca_Mo_106 {pb : Bool} {E : mE} {cc : ByteArray} {a0 : Jvm.Cond} {rm rmY : Room} {ct : mCT} (C : m_Cx E cc R_Mo (a0 :: gw) nw rm) (hmut : pb = false → m_Mut E) (hM : m_Met pb y_Mo_bonds ws_Mo_bonds nw rmY ct) (hrc : rmY.cells = 0) (hrs : rmY.slots = 0) (hct : ∀ as w K, ct as w K → ∃ a r fs, as = .inr a :: r ∧ w[a]? = some (.inr (4, fs))) (hR : rmY.frames + 1 ≤ rm.frames ∧ 8 + (3 + 11) + rmY.locals ≤ rm.locals) : m_CalOk E cc 0 106 1 ct := m_calV (Cn := R_Mo) (Tn := F_Mo) (Nn := 23) C nw_ok gw_ok hmut hM cd_Mo_bonds (m_ing (by decide +kernel) (by decide +kernel)) (m_ing (by decide +kernel) (by decide +kernel)) (m_ing (by decide +kernel) (by decide +kernel)) (m_ing (by decide +kernel) (by decide +kernel)) hrc hrs rfl hct ⟨by decide +kernel, by decide +kernel, by decide +kernel⟩ hR
theorem ca_Mo_110 {pb : Bool} {E : mE} {cc : ByteArray} {a0 : Jvm.Cond} {rm rmY : Room} {ct : mCT} (C : m_Cx E cc R_Mo (a0 :: gw) nw rm) (hmut : pb = false → m_Mut E) (hM : m_Met pb y_Mo_power ws_Mo_power nw rmY ct) (hrc : rmY.cells = 0) (hrs : rmY.slots = 0) (hct : ∀ as w K, ct as w K → ∃ a r fs, as = .inr a :: r ∧ w[a]? = some (.inr (4, fs))) (hR : rmY.frames + 1 ≤ rm.frames ∧ 8 + (4 + 11) + rmY.locals ≤ rm.locals) : m_CalOk E cc 0 110 2 ct := m_calV (Cn := R_Mo) (Tn := F_Mo) (Nn := 23) C nw_ok gw_ok hmut hM cd_Mo_power (m_ing (by decide +kernel) (by decide +kernel)) (m_ing (by decide +kernel) (by decide +kernel)) (m_ing (by decide +kernel) (by decide +kernel)) (m_ing (by decide +kernel) (by decide +kernel)) hrc hrs rfl hct ⟨by decide +kernel, by decide +kernel, by decide +kernel⟩ hR
