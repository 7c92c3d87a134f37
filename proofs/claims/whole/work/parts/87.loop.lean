/-! The law's end and its loop. -/
def R_law : String := "StakeLedgerLaw"
def lw_P (b : Addr) (xs : List Int32) (args : Array Value) (s : State) : Prop := args = #[.ref b] ∧ s.IntsAt b xs ∧ xs.length ≤ 2560 ∧ (Jvm.Cond.and given_1 narrow_1).before args s = true
def lw_Q (_ : Array Value) (s : State) (o : Outcome) (t : State) : Prop := o = .returned (some (.int 1)) ∧ Framed s o t [] 601024 7293034
def lw_Z (below : List Frame) (a : Array Value) (s : State) : State → Prop := fun t => ∃ o, t.status = .running ∧ Ended t below o ∧ lw_Q a s o t
/-- the law's own end, with 1 on the stack, nothing written that was there before, its room as the claim has it -/
theorem lw_ret {p : Program} {l : Launch} {e : Env} {s : State} {m : MethodId} {below : List Frame} {meth : Method} {c : Code} {b : Nat} (hx : p.tables.exec = Jvm.exec) (hb : c.code = code) (hr : meth.sig.returnType = ret) (hlocks : meth.locks = false) {pc : Nat} {H : Heap} {ls : Array Slot} (hdg : decode code pc = .ok (.ireturn, 1)) : W p l e room_1 s m #[Value.ref b] below meth c H [] 601024 7293034 (lw_Z below #[Value.ref b] s) (F0 m pc ls [.int 1]) := by
  intro T hT X
  obtain ⟨fs, hret, hrun, hended, hW, hframe⟩ := X.leave (v := some (.int 1)) (hlocks := hlocks) (fun h => by rw [hr] at h; cases h)
  have hmeth' : T.vm.method? m = some meth := X.method'
  refine ⟨T.setFrames fs, ?_, .returned (some (.int 1)), hrun, hended, rfl, ⟨_, rfl⟩, hW, hframe⟩
  jvm_step X.here [X.here.top, hx, hb, hdg, hmeth', hr, ret, narrow_b1]
  (try refine ⟨rfl, ?_⟩); (try refine ⟨rfl, ?_⟩)
  first | (intro acts; rw [hret _ acts rfl rfl rfl]) | rw [hret _ _ rfl rfl rfl]
  exact Steps.refl _
/-- what holds at the law's entry: the machine, the code, the tables' words (any of lw_tbl by 'hts w (by decide +kernel)'), the script of L ints xs at the cell b, what the Statement gives of the start (any of its parts by flat_of_before) -/
def lw_At (p : Program) (s : State) (m : MethodId) (meth : Method) (c : Code) (b L : Nat) (xs : Nat → Int32) : Prop :=
  p.tables.exec = Jvm.exec ∧ c.code = code ∧ meth.sig.returnType = ret ∧ c.maxLocals = 7 ∧ s.vm.findClass R_law = some m.cls ∧ (∀ w ∈ lw_tbl, w.before #[Value.ref b] s = true) ∧ va_X b L xs s s.heap ∧ b < s.heap.size ∧ meth.locks = false ∧ (Jvm.Cond.and given_1 narrow_1).before #[Value.ref b] s = true
theorem and15 (x : Int32) : ∃ k : Nat, k < 16 ∧ x &&& 15 = nI k := by
  refine ⟨(x &&& 15).toBitVec.toNat, ?_, ?_⟩
  · rw [Int32.toBitVec_and, BitVec.toNat_and]
    exact Nat.lt_of_le_of_lt Nat.and_le_right (by decide)
  · apply Int32.toBitVec_inj.mp
    show (x &&& 15).toBitVec = BitVec.ofNat 32 (x &&& 15).toBitVec.toNat
    rw [BitVec.ofNat_toNat, BitVec.setWidth_eq]
theorem lw_neg : ∀ L : Nat, L < 5 → Int32.ofNat L - 5 < 0 := by decide +kernel
theorem lw_cmp {L i : Nat} (hL : L ≤ 2560) (hi : i ≤ 512) (h : ¬ Int32.ofNat L - 5 < nI (5 * i)) : 5 * i + 5 ≤ L := by
  apply Classical.byContradiction
  intro h9
  apply h
  by_cases h5 : 5 ≤ L
  · obtain ⟨n, rfl⟩ : ∃ n, L = n + 5 := ⟨L - 5, by omega⟩
    have e1 : Int32.ofNat (n + 5) - 5 = nI n := by
      show nI (n + 5) - 5 = nI n
      rw [← nI_ad n 5]
      show nI n + 5 - 5 = nI n
      exact Int32.add_sub_cancel _ _
    rw [e1]
    exact nI_lt (by omega) (by omega)
  · exact Int32.lt_of_lt_of_le (lw_neg L (by omega)) (nI_pos' (by omega))
section LOOP
variable {p : Program} {l : Launch} {e : Env} {s : State} {m : MethodId} {below : List Frame} {meth : Method} {c : Code} {b L : Nat} {xs : Nat → Int32} {D : va_G} {cI cZ cK cL : ClassId} {ad am : Nat → Nat} {ou : Nat}
set_option maxHeartbeats 16000000 in
set_option maxRecDepth 20000 in
theorem lw_loop (C : lw_K l p s m c b L xs D cI cZ cK cL) (hr : meth.sig.returnType = ret) (hlocks : meth.locks = false) : ∀ (dd i : Nat), i + dd = 513 → i ≤ 512 → ∀ (ls : Array Slot) (H : Heap) (locs : List Loc), lw_I D cI cZ cK cL ad am ou s.heap.size i H → lv_has ls 7 (lw_L b (ad 11) (am 0) ou i) → va_S (fun q => s.heap.size ≤ q) s.heap H locs → W p l e room_1 s m #[Value.ref b] below meth c H locs (60 + 13 * i) (40000 + 700 * i) (lw_Z below #[Value.ref b] s) (F0 m 23 ls []) := by
  have hx := C.1.1.1
  have hb := C.1.1.2.1
  have hX := C.2.2.2.2.2.1
  have hbl := C.2.2.2.2.2.2.1
  have hL9 := C.2.2.2.2.2.2.2
  have hr1 : room_1.cells = 601024 := rfl
  have hr2 : room_1.slots = 7293034 := rfl
  intro dd
  induction dd with
  | zero =>
    intro i h1 h2
    omega
  | succ dd ih =>
    intro i h1 h2 ls H locs hI hl hS
    refine lv_iload hx hb (show decode code 23 = .ok (.iload 4, 2) by decide +kernel) (lv_at hl 4 rfl) ?_
    refine lv_aload_n hx hb (show decode code 25 = .ok (.aload_n 0, 1) by decide +kernel) rfl (lv_at hl 0 rfl) ?_
    refine va_slen hx hb hX hbl (Nat.not_le.mpr hbl) hS (show decode code 26 = .ok (.arraylength, 1) by decide +kernel) ?_
    refine lv_iconst (v := 5) hx hb (show decode code 27 = .ok (.iconst 5, 1) by decide +kernel) rfl ?_
    refine lv_isub hx hb (show decode code 28 = .ok (.isub, 1) by decide +kernel) ?_
    refine lv_icmp_gt hx hb (tgt := 907) (show decode code 29 = .ok (.if_icmp .gt 878, 3) by decide +kernel) rfl (fun _ => ?_) (fun hle => ?_)
    · refine lv_iconst (v := 1) hx hb (show decode code 907 = .ok (.iconst 1, 1) by decide +kernel) rfl ?_
      refine va_forget (fun q hq => hS.2.2 q hq) ?_
      exact o_widen (by omega) (by omega) (lw_ret hx hb hr hlocks (show decode code 908 = .ok (.ireturn, 1) by decide +kernel))
    · have h := lw_cmp hL9 h2 hle
      have at901 : ∀ (H1 : Heap) (locs1 : List Loc) (ls1 : Array Slot), lw_I D cI cZ cK cL ad am ou s.heap.size (i + 1) H1 → lv_has ls1 7 (lw_L b (ad 11) (am 0) ou i) → va_S (fun q => s.heap.size ≤ q) s.heap H1 locs1 → W p l e room_1 s m #[Value.ref b] below meth c H1 locs1 (60 + 13 * i + 13) (40000 + 700 * i + 700) (lw_Z below #[Value.ref b] s) (F0 m 901 ls1 []) := by
        intro H1 locs1 ls1 hI1 hl1 hS1
        refine lv_iinc (k := 4) (v := nI (5 * (i + 1))) hx hb (show decode code 901 = .ok (.iinc 4 5, 3) by decide +kernel) hl1 rfl (by rw [show Int32.ofInt 5 = nI 5 from rfl, nI_ad, show 5 * (i + 1) = 5 * i + 5 by omega]) (by decide) (lv' := [(4, .int (nI (5 * (i + 1)))), (0, .ref b), (1, .ref (ad 11)), (2, .ref (am 0)), (3, .ref ou)]) rfl (fun ls2 hl2 => ?_)
        refine lv_goto hx hb (tgt := 23) (show decode code 904 = .ok (.goto (-881), 3) by decide +kernel) rfl ?_
        have h9 := ih (i + 1) (by omega) (by omega) ls2 H1 locs1 hI1 (lv_sub hl2 [1, 2, 3, 4, 0] rfl) hS1
        rw [show 60 + 13 * (i + 1) = 60 + 13 * i + 13 by omega, show 40000 + 700 * (i + 1) = 40000 + 700 * i + 700 by omega] at h9
        exact h9
      have hf : 60 + 13 * i + 13 ≤ room_1.cells ∧ 40000 + 700 * i + 700 ≤ room_1.slots := ⟨by rw [hr1]; omega, by rw [hr2]; omega⟩
      refine lv_aload_n hx hb (show decode code 32 = .ok (.aload_n 0, 1) by decide +kernel) rfl (lv_at hl 0 rfl) ?_
      refine lv_iload hx hb (show decode code 33 = .ok (.iload 4, 2) by decide +kernel) (lv_at hl 4 rfl) ?_
      refine va_sld hx hb hX hbl (Nat.not_le.mpr hbl) hS (nI_in (show 5 * i < L by omega) (by omega)) (show decode code 35 = .ok (.iaload, 1) by decide +kernel) ?_
      refine lv_bipush (v := 15) hx hb (show decode code 36 = .ok (.bipush 15, 2) by decide +kernel) (by decide) ?_
      refine lv_iand hx hb (show decode code 38 = .ok (.iand, 1) by decide +kernel) ?_
      obtain ⟨k, hk, ek⟩ := and15 (xs (nI (5 * i)).toNatClampNeg)
      rw [ek]
      rcases (show k = 0 ∨ k = 1 ∨ k = 2 ∨ k = 3 ∨ k = 4 ∨ k = 5 ∨ k = 6 ∨ k = 7 ∨ k = 8 ∨ k = 9 ∨ k = 10 ∨ k = 11 ∨ 12 ≤ k by omega) with rfl | rfl | rfl | rfl | rfl | rfl | rfl | rfl | rfl | rfl | rfl | rfl | hk12
      · exact lv_tableIn hx hb (show decode code 39 = .ok (.tableswitch 862 0 11 #[61, 153, 245, 337, 417, 509, 553, 589, 645, 713, 769, 837], 61) by decide +kernel) (by decide) (by decide) (off := 61) rfl (tgt := 100) rfl (lw_c0 C h hI hl hf hS at901)
      · exact lv_tableIn hx hb (show decode code 39 = .ok (.tableswitch 862 0 11 #[61, 153, 245, 337, 417, 509, 553, 589, 645, 713, 769, 837], 61) by decide +kernel) (by decide) (by decide) (off := 153) rfl (tgt := 192) rfl (lw_c1 C h hI hl hf hS at901)
      · exact lv_tableIn hx hb (show decode code 39 = .ok (.tableswitch 862 0 11 #[61, 153, 245, 337, 417, 509, 553, 589, 645, 713, 769, 837], 61) by decide +kernel) (by decide) (by decide) (off := 245) rfl (tgt := 284) rfl (lw_c2 C h hI hl hf hS at901)
      · exact lv_tableIn hx hb (show decode code 39 = .ok (.tableswitch 862 0 11 #[61, 153, 245, 337, 417, 509, 553, 589, 645, 713, 769, 837], 61) by decide +kernel) (by decide) (by decide) (off := 337) rfl (tgt := 376) rfl (lw_c3 C h hI hl hf hS at901)
      · exact lv_tableIn hx hb (show decode code 39 = .ok (.tableswitch 862 0 11 #[61, 153, 245, 337, 417, 509, 553, 589, 645, 713, 769, 837], 61) by decide +kernel) (by decide) (by decide) (off := 417) rfl (tgt := 456) rfl (lw_c4 C h hI hl hf hS at901)
      · exact lv_tableIn hx hb (show decode code 39 = .ok (.tableswitch 862 0 11 #[61, 153, 245, 337, 417, 509, 553, 589, 645, 713, 769, 837], 61) by decide +kernel) (by decide) (by decide) (off := 509) rfl (tgt := 548) rfl (lw_c5 C h hI hl hf hS at901)
      · exact lv_tableIn hx hb (show decode code 39 = .ok (.tableswitch 862 0 11 #[61, 153, 245, 337, 417, 509, 553, 589, 645, 713, 769, 837], 61) by decide +kernel) (by decide) (by decide) (off := 553) rfl (tgt := 592) rfl (lw_c6 C h hI hl hf hS at901)
      · exact lv_tableIn hx hb (show decode code 39 = .ok (.tableswitch 862 0 11 #[61, 153, 245, 337, 417, 509, 553, 589, 645, 713, 769, 837], 61) by decide +kernel) (by decide) (by decide) (off := 589) rfl (tgt := 628) rfl (lw_c7 C h hI hl hf hS at901)
      · exact lv_tableIn hx hb (show decode code 39 = .ok (.tableswitch 862 0 11 #[61, 153, 245, 337, 417, 509, 553, 589, 645, 713, 769, 837], 61) by decide +kernel) (by decide) (by decide) (off := 645) rfl (tgt := 684) rfl (lw_c8 C h hI hl hf hS at901)
      · exact lv_tableIn hx hb (show decode code 39 = .ok (.tableswitch 862 0 11 #[61, 153, 245, 337, 417, 509, 553, 589, 645, 713, 769, 837], 61) by decide +kernel) (by decide) (by decide) (off := 713) rfl (tgt := 752) rfl (lw_c9 C h hI hl hf hS at901)
      · exact lv_tableIn hx hb (show decode code 39 = .ok (.tableswitch 862 0 11 #[61, 153, 245, 337, 417, 509, 553, 589, 645, 713, 769, 837], 61) by decide +kernel) (by decide) (by decide) (off := 769) rfl (tgt := 808) rfl (lw_c10 C h hI hl hf hS at901)
      · exact lv_tableIn hx hb (show decode code 39 = .ok (.tableswitch 862 0 11 #[61, 153, 245, 337, 417, 509, 553, 589, 645, 713, 769, 837], 61) by decide +kernel) (by decide) (by decide) (off := 837) rfl (tgt := 876) rfl (lw_c11 C h hI hl hf hS at901)
      · refine lv_tableOut hx hb (show decode code 39 = .ok (.tableswitch 862 0 11 #[61, 153, 245, 337, 417, 509, 553, 589, 645, 713, 769, 837], 61) by decide +kernel) (Or.inr (by rw [nI_toInt (by omega)]; omega)) (tgt := 901) rfl ?_
        exact o_widen (by omega) (by omega) (at901 H locs ls (lw_up hI) hl hS)
end LOOP
