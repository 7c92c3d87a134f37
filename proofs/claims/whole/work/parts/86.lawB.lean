/-! The law's cases. -/
theorem q_of_b {c1 c2 : Prop} {o : aO} {x : Int32} : (q_of c1 c2 o x).1 ≤ 2 := by
  by_cases h1 : c1
  · by_cases h2 : c2
    · rw [q_of_2 h1 h2]; exact Nat.le_of_ble_eq_true rfl
    · rw [q_of_1 h1 h2]; exact Nat.le_of_ble_eq_true rfl
  · rw [q_of_0 h1]; exact Nat.le_of_ble_eq_true rfl
theorem q_c_b {c : Prop} {a b : qR} (ha : a.1 ≤ 2) (hb : b.1 ≤ 2) : (q_c c a b).1 ≤ 2 := by
  by_cases h : c
  · rw [q_c_t h]; exact ha
  · rw [q_c_f h]; exact hb
theorem nI_z {c : Nat} (hc : c ≤ 2) (h : nI c = 0) : c = 0 := by
  rcases (show c = 0 ∨ c = 1 ∨ c = 2 by omega) with rfl | rfl | rfl
  · rfl
  · exact absurd h (by decide)
  · exact absurd h (by decide)
theorem qb_next {s : aS} : (q_next s).1 ≤ 2 := by
  unfold q_next
  split
  · exact Nat.le_of_ble_eq_true rfl
  · exact Nat.le_of_ble_eq_true rfl
theorem qb_pay {s : aS} {a b v p : Int32} : (q_pay s a b v p).1 ≤ 2 := q_of_b
theorem qb_bond {s : aS} {a b v p : Int32} : (q_bond s a b v p).1 ≤ 2 := q_of_b
theorem qb_unbond {s : aS} {a b v p : Int32} : (q_unbond s a b v p).1 ≤ 2 := q_of_b
theorem qb_free {s : aS} {a b p : Int32} : (q_free s a b p).1 ≤ 2 := q_of_b
theorem qb_prove {s : aS} {a b v p : Int32} : (q_prove s a b v p).1 ≤ 2 := q_of_b
theorem qb_account {s : aS} {a b : Int32} : (q_account s a b).1 ≤ 2 := q_c_b (q_c_b (Nat.zero_le _) (Nat.le_refl _)) (Nat.le_of_ble_eq_true rfl)
theorem qb_sum {s : aS} {b : Int32} : (q_sum s b).1 ≤ 2 := q_c_b (Nat.zero_le _) (Nat.le_of_ble_eq_true rfl)
theorem qb_proposer {s : aS} {a b : Int32} : (q_proposer s a b).1 ≤ 2 := q_c_b (Nat.zero_le _) (Nat.le_of_ble_eq_true rfl)
theorem lw_up {D : va_G} {cI cZ cK cL : ClassId} {ad am : Nat → Nat} {ou lo i : Nat} {H : Heap} (h : lw_I D cI cZ cK cL ad am ou lo i H) : lw_I D cI cZ cK cL ad am ou lo (i + 1) H := by
  obtain ⟨co, N, t, S, kt, th, wm, f, hL, hm, hMS, hN, hIv, hIk⟩ := h
  exact ⟨co, N, t, S, kt, th, wm, f, hL, hm, hMS, by omega, IV_up hIv (by omega), fun k hk => IV_up (hIk k hk) (by omega)⟩
set_option maxHeartbeats 16000000 in
set_option maxRecDepth 20000 in
theorem lw_c0 {p : Program} {l : Launch} {e : Env} {s : State} {m : MethodId} {below : List Frame} {meth : Method} {c : Code} {H : Heap} {locs : List Loc} {cells slots b L : Nat} {xs : Nat → Int32} {ls : Array Slot} {Q : State → Prop} {D : va_G} {cI cZ cK cL : ClassId} {ad am : Nat → Nat} {ou i : Nat} (C : lw_K l p s m c b L xs D cI cZ cK cL) (hi : 5 * i + 5 ≤ L) (hI : lw_I D cI cZ cK cL ad am ou s.heap.size i H) (hl : lv_has ls 7 (lw_L b (ad 11) (am 0) ou i)) (hf : cells + 13 ≤ room_1.cells ∧ slots + 700 ≤ room_1.slots) (hS : va_S (fun q => s.heap.size ≤ q) s.heap H locs)
    (kk : ∀ (H1 : Heap) (locs1 : List Loc) (ls1 : Array Slot), lw_I D cI cZ cK cL ad am ou s.heap.size (i + 1) H1 → lv_has ls1 7 (lw_L b (ad 11) (am 0) ou i) → va_S (fun q => s.heap.size ≤ q) s.heap H1 locs1 → W p l e room_1 s m #[Value.ref b] below meth c H1 locs1 (cells + 13) (slots + 700) Q (F0 m 901 ls1 [])) : W p l e room_1 s m #[Value.ref b] below meth c H locs cells slots Q (F0 m 100 ls []) := by
  have hx := C.1.1.1
  have hb := C.1.1.2.1
  have hst := C.2.1.1
  have hL9 := C.2.2.2.2.2.2.2
  obtain ⟨hf1, hf2⟩ := hf
  obtain ⟨co, N, t, S, kt, th, wm, f, hL, hm, hMS, hN, hIv, hIk⟩ := hI
  refine lv_aload_n hx hb (show decode code 100 = .ok (.aload_n 1, 1) by decide +kernel) rfl (lv_at hl 1 rfl) ?_
  refine o_rd (i := i) (jj := 1) C hS 1 0 4 hl rfl rfl (by omega) (by decide) (show o_dec 101 1 from ⟨by decide +kernel, by decide +kernel, by decide +kernel, by decide +kernel, by decide +kernel⟩) ?_
  refine o_rd (i := i) (jj := 2) C hS 2 0 4 hl rfl rfl (by omega) (by decide) (show o_dec 107 2 from ⟨by decide +kernel, by decide +kernel, by decide +kernel, by decide +kernel, by decide +kernel⟩) ?_
  refine o_rd (i := i) (jj := 3) C hS 3 0 4 hl rfl rfl (by omega) (by decide) (show o_dec 113 3 from ⟨by decide +kernel, by decide +kernel, by decide +kernel, by decide +kernel, by decide +kernel⟩) ?_
  refine o_rd (i := i) (jj := 4) C hS 4 0 4 hl rfl rfl (by omega) (by decide) (show o_dec 119 4 from ⟨by decide +kernel, by decide +kernel, by decide +kernel, by decide +kernel, by decide +kernel⟩) ?_
  refine lv_aload_n hx hb (show decode code 125 = .ok (.aload_n 3, 1) by decide +kernel) rfl (lv_at hl 3 rfl) ?_
  refine o_call (as := [.ref (ad 11), .int (xs (5 * i + 1)), .int (xs (5 * i + 2)), .int (xs (5 * i + 3)), .int (xs (5 * i + 4)), .ref ou]) (rest := []) C 6 (lx_pay l hst D cI cZ cK cL ad ou co s.heap.size (S t) (fun k => S (kt k)) f H.size (xs (5 * i + 1)) (xs (5 * i + 2)) (xs (5 * i + 3)) (xs (5 * i + 4)) hIv (by omega)) cd_La_pay ll_pay ls_pay in_La0 rfl rfl ⟨by decide, by decide, by decide +kernel⟩ ⟨by decide, by decide⟩ rfl hl.1 (Nat.le_of_ble_eq_true rfl) (show decode code 126 = .ok (.invokestatic 58, 3) by decide +kernel) ⟨by omega, by omega⟩ hL hm hS (fun co1 f1 H1 locs1 hL1 hZ hm1 hS1 => ?_)
  refine lv_istore hx hb (show decode code 129 = .ok (.istore 5, 2) by decide +kernel) hl (by decide) (lv' := (5, .int (nI (q_pay (S t) (xs (5 * i + 1)) (xs (5 * i + 2)) (xs (5 * i + 3)) (xs (5 * i + 4))).1)) :: (lw_L b (ad 11) (am 0) ou i)) rfl (fun ls1 hl1 => ?_)
  refine lv_aload_n hx hb (show decode code 131 = .ok (.aload_n 2, 1) by decide +kernel) rfl (lv_at hl1 3 rfl) ?_
  refine o_rd (i := i) (jj := 1) C hS1 1 1 5 hl1 rfl rfl (by omega) (by decide) (show o_dec 132 1 from ⟨by decide +kernel, by decide +kernel, by decide +kernel, by decide +kernel, by decide +kernel⟩) ?_
  refine o_rd (i := i) (jj := 2) C hS1 2 1 5 hl1 rfl rfl (by omega) (by decide) (show o_dec 138 2 from ⟨by decide +kernel, by decide +kernel, by decide +kernel, by decide +kernel, by decide +kernel⟩) ?_
  refine o_rd (i := i) (jj := 3) C hS1 3 1 5 hl1 rfl rfl (by omega) (by decide) (show o_dec 144 3 from ⟨by decide +kernel, by decide +kernel, by decide +kernel, by decide +kernel, by decide +kernel⟩) ?_
  refine o_rd (i := i) (jj := 4) C hS1 4 1 5 hl1 rfl rfl (by omega) (by decide) (show o_dec 150 4 from ⟨by decide +kernel, by decide +kernel, by decide +kernel, by decide +kernel, by decide +kernel⟩) ?_
  refine o_mod (as := [.inl (xs (5 * i + 1)), .inl (xs (5 * i + 2)), .inl (xs (5 * i + 3)), .inl (xs (5 * i + 4))]) (rest := []) (K := fun r w9 => r = some (.inl (q_pay (S t) (xs (5 * i + 1)) (xs (5 * i + 2)) (xs (5 * i + 3)) (xs (5 * i + 4))).2.1) ∧ MR N t S kt (q_pay (S t) (xs (5 * i + 1)) (xs (5 * i + 2)) (xs (5 * i + 3)) (xs (5 * i + 4))) w9) C 4 x_Mpay cd_Mo_pay lm_pay no_pay so_pay in_Mo0 ⟨by decide, by decide, by decide +kernel⟩ ⟨by decide, by decide⟩ rfl hl1.1 (Nat.le_of_ble_eq_true rfl) (show decode code 156 = .ok (.invokevirtual 63, 3) by decide +kernel) ⟨by omega, by omega⟩ hMS ⟨N, t, S, kt, th, (xs (5 * i + 1)), (xs (5 * i + 2)), (xs (5 * i + 3)), (xs (5 * i + 4)), rfl, hMS, by omega, fun w9 h9 => ⟨rfl, h9⟩⟩ hL1 hm1 hS1 (fun r w2 H2 locs2 hK2 hL2 hm2 hS2 => ?_)
  obtain ⟨rfl, hMR⟩ := hK2
  obtain ⟨N', t', S', hMS', hN', ht', hk'⟩ := MR_to hMS hMR
  refine W.eq (g2 := F0 m 159 ls1 [.int (q_pay (S t) (xs (5 * i + 1)) (xs (5 * i + 2)) (xs (5 * i + 3)) (xs (5 * i + 4))).2.1]) rfl ?_
  refine lv_istore hx hb (show decode code 159 = .ok (.istore 6, 2) by decide +kernel) hl1 (by decide) (lv' := (6, .int (q_pay (S t) (xs (5 * i + 1)) (xs (5 * i + 2)) (xs (5 * i + 3)) (xs (5 * i + 4))).2.1) :: (5, .int (nI (q_pay (S t) (xs (5 * i + 1)) (xs (5 * i + 2)) (xs (5 * i + 3)) (xs (5 * i + 4))).1)) :: (lw_L b (ad 11) (am 0) ou i)) rfl (fun ls2 hl2 => ?_)
  refine o_tail C hl2 (show o_dt 161 from ⟨by decide +kernel, by decide +kernel, by decide +kernel, by decide +kernel, by decide +kernel, by decide +kernel, by decide +kernel, by decide +kernel, by decide +kernel, by decide +kernel, by decide +kernel, by decide +kernel, by decide +kernel, by decide +kernel⟩) ⟨by omega, by omega⟩ (fun h0 => hZ (nI_z qb_pay h0)) hMS' hL2 hm2 hS2 (fun H3 locs3 hL3 hm3 hS3 => ?_)
  refine o_widen (k := cells + 13) (n := slots + 700) (by omega) (by omega) ?_
  exact kk H3 locs3 ls2 ⟨co1, N', t', S', kt, _, _, f1, LC_ks hL3 ht' (fun k hk8 => hk' k hk8), hm3, hMS', by omega, by rw [ht']; exact iv_pay hIv (by omega) (xs (5 * i + 1)) (xs (5 * i + 2)) (xs (5 * i + 3)) (xs (5 * i + 4)), fun k hk8 => by rw [hk' k hk8]; exact IV_up (hIk k hk8) (by omega)⟩ (lv_sub hl2 [2, 3, 4, 5, 6] rfl) hS3
set_option maxHeartbeats 16000000 in
set_option maxRecDepth 20000 in
theorem lw_c1 {p : Program} {l : Launch} {e : Env} {s : State} {m : MethodId} {below : List Frame} {meth : Method} {c : Code} {H : Heap} {locs : List Loc} {cells slots b L : Nat} {xs : Nat → Int32} {ls : Array Slot} {Q : State → Prop} {D : va_G} {cI cZ cK cL : ClassId} {ad am : Nat → Nat} {ou i : Nat} (C : lw_K l p s m c b L xs D cI cZ cK cL) (hi : 5 * i + 5 ≤ L) (hI : lw_I D cI cZ cK cL ad am ou s.heap.size i H) (hl : lv_has ls 7 (lw_L b (ad 11) (am 0) ou i)) (hf : cells + 13 ≤ room_1.cells ∧ slots + 700 ≤ room_1.slots) (hS : va_S (fun q => s.heap.size ≤ q) s.heap H locs)
    (kk : ∀ (H1 : Heap) (locs1 : List Loc) (ls1 : Array Slot), lw_I D cI cZ cK cL ad am ou s.heap.size (i + 1) H1 → lv_has ls1 7 (lw_L b (ad 11) (am 0) ou i) → va_S (fun q => s.heap.size ≤ q) s.heap H1 locs1 → W p l e room_1 s m #[Value.ref b] below meth c H1 locs1 (cells + 13) (slots + 700) Q (F0 m 901 ls1 [])) : W p l e room_1 s m #[Value.ref b] below meth c H locs cells slots Q (F0 m 192 ls []) := by
  have hx := C.1.1.1
  have hb := C.1.1.2.1
  have hst := C.2.1.1
  have hL9 := C.2.2.2.2.2.2.2
  obtain ⟨hf1, hf2⟩ := hf
  obtain ⟨co, N, t, S, kt, th, wm, f, hL, hm, hMS, hN, hIv, hIk⟩ := hI
  refine lv_aload_n hx hb (show decode code 192 = .ok (.aload_n 1, 1) by decide +kernel) rfl (lv_at hl 1 rfl) ?_
  refine o_rd (i := i) (jj := 1) C hS 1 0 4 hl rfl rfl (by omega) (by decide) (show o_dec 193 1 from ⟨by decide +kernel, by decide +kernel, by decide +kernel, by decide +kernel, by decide +kernel⟩) ?_
  refine o_rd (i := i) (jj := 2) C hS 2 0 4 hl rfl rfl (by omega) (by decide) (show o_dec 199 2 from ⟨by decide +kernel, by decide +kernel, by decide +kernel, by decide +kernel, by decide +kernel⟩) ?_
  refine o_rd (i := i) (jj := 3) C hS 3 0 4 hl rfl rfl (by omega) (by decide) (show o_dec 205 3 from ⟨by decide +kernel, by decide +kernel, by decide +kernel, by decide +kernel, by decide +kernel⟩) ?_
  refine o_rd (i := i) (jj := 4) C hS 4 0 4 hl rfl rfl (by omega) (by decide) (show o_dec 211 4 from ⟨by decide +kernel, by decide +kernel, by decide +kernel, by decide +kernel, by decide +kernel⟩) ?_
  refine lv_aload_n hx hb (show decode code 217 = .ok (.aload_n 3, 1) by decide +kernel) rfl (lv_at hl 3 rfl) ?_
  refine o_call (as := [.ref (ad 11), .int (xs (5 * i + 1)), .int (xs (5 * i + 2)), .int (xs (5 * i + 3)), .int (xs (5 * i + 4)), .ref ou]) (rest := []) C 6 (lx_bond l hst D cI cZ cK cL ad ou co s.heap.size (S t) (fun k => S (kt k)) f H.size (xs (5 * i + 1)) (xs (5 * i + 2)) (xs (5 * i + 3)) (xs (5 * i + 4)) hIv (by omega)) cd_La_bond ll_bond ls_bond in_La0 rfl rfl ⟨by decide, by decide, by decide +kernel⟩ ⟨by decide, by decide⟩ rfl hl.1 (Nat.le_of_ble_eq_true rfl) (show decode code 218 = .ok (.invokestatic 67, 3) by decide +kernel) ⟨by omega, by omega⟩ hL hm hS (fun co1 f1 H1 locs1 hL1 hZ hm1 hS1 => ?_)
  refine lv_istore hx hb (show decode code 221 = .ok (.istore 5, 2) by decide +kernel) hl (by decide) (lv' := (5, .int (nI (q_bond (S t) (xs (5 * i + 1)) (xs (5 * i + 2)) (xs (5 * i + 3)) (xs (5 * i + 4))).1)) :: (lw_L b (ad 11) (am 0) ou i)) rfl (fun ls1 hl1 => ?_)
  refine lv_aload_n hx hb (show decode code 223 = .ok (.aload_n 2, 1) by decide +kernel) rfl (lv_at hl1 3 rfl) ?_
  refine o_rd (i := i) (jj := 1) C hS1 1 1 5 hl1 rfl rfl (by omega) (by decide) (show o_dec 224 1 from ⟨by decide +kernel, by decide +kernel, by decide +kernel, by decide +kernel, by decide +kernel⟩) ?_
  refine o_rd (i := i) (jj := 2) C hS1 2 1 5 hl1 rfl rfl (by omega) (by decide) (show o_dec 230 2 from ⟨by decide +kernel, by decide +kernel, by decide +kernel, by decide +kernel, by decide +kernel⟩) ?_
  refine o_rd (i := i) (jj := 3) C hS1 3 1 5 hl1 rfl rfl (by omega) (by decide) (show o_dec 236 3 from ⟨by decide +kernel, by decide +kernel, by decide +kernel, by decide +kernel, by decide +kernel⟩) ?_
  refine o_rd (i := i) (jj := 4) C hS1 4 1 5 hl1 rfl rfl (by omega) (by decide) (show o_dec 242 4 from ⟨by decide +kernel, by decide +kernel, by decide +kernel, by decide +kernel, by decide +kernel⟩) ?_
  refine o_mod (as := [.inl (xs (5 * i + 1)), .inl (xs (5 * i + 2)), .inl (xs (5 * i + 3)), .inl (xs (5 * i + 4))]) (rest := []) (K := fun r w9 => r = some (.inl (q_bond (S t) (xs (5 * i + 1)) (xs (5 * i + 2)) (xs (5 * i + 3)) (xs (5 * i + 4))).2.1) ∧ MR N t S kt (q_bond (S t) (xs (5 * i + 1)) (xs (5 * i + 2)) (xs (5 * i + 3)) (xs (5 * i + 4))) w9) C 4 x_Mbond cd_Mo_bond lm_bond no_bond so_bond in_Mo0 ⟨by decide, by decide, by decide +kernel⟩ ⟨by decide, by decide⟩ rfl hl1.1 (Nat.le_of_ble_eq_true rfl) (show decode code 248 = .ok (.invokevirtual 69, 3) by decide +kernel) ⟨by omega, by omega⟩ hMS ⟨N, t, S, kt, th, (xs (5 * i + 1)), (xs (5 * i + 2)), (xs (5 * i + 3)), (xs (5 * i + 4)), rfl, hMS, by omega, fun w9 h9 => ⟨rfl, h9⟩⟩ hL1 hm1 hS1 (fun r w2 H2 locs2 hK2 hL2 hm2 hS2 => ?_)
  obtain ⟨rfl, hMR⟩ := hK2
  obtain ⟨N', t', S', hMS', hN', ht', hk'⟩ := MR_to hMS hMR
  refine W.eq (g2 := F0 m 251 ls1 [.int (q_bond (S t) (xs (5 * i + 1)) (xs (5 * i + 2)) (xs (5 * i + 3)) (xs (5 * i + 4))).2.1]) rfl ?_
  refine lv_istore hx hb (show decode code 251 = .ok (.istore 6, 2) by decide +kernel) hl1 (by decide) (lv' := (6, .int (q_bond (S t) (xs (5 * i + 1)) (xs (5 * i + 2)) (xs (5 * i + 3)) (xs (5 * i + 4))).2.1) :: (5, .int (nI (q_bond (S t) (xs (5 * i + 1)) (xs (5 * i + 2)) (xs (5 * i + 3)) (xs (5 * i + 4))).1)) :: (lw_L b (ad 11) (am 0) ou i)) rfl (fun ls2 hl2 => ?_)
  refine o_tail C hl2 (show o_dt 253 from ⟨by decide +kernel, by decide +kernel, by decide +kernel, by decide +kernel, by decide +kernel, by decide +kernel, by decide +kernel, by decide +kernel, by decide +kernel, by decide +kernel, by decide +kernel, by decide +kernel, by decide +kernel, by decide +kernel⟩) ⟨by omega, by omega⟩ (fun h0 => hZ (nI_z qb_bond h0)) hMS' hL2 hm2 hS2 (fun H3 locs3 hL3 hm3 hS3 => ?_)
  refine o_widen (k := cells + 13) (n := slots + 700) (by omega) (by omega) ?_
  exact kk H3 locs3 ls2 ⟨co1, N', t', S', kt, _, _, f1, LC_ks hL3 ht' (fun k hk8 => hk' k hk8), hm3, hMS', by omega, by rw [ht']; exact iv_bond hIv (by omega) (xs (5 * i + 1)) (xs (5 * i + 2)) (xs (5 * i + 3)) (xs (5 * i + 4)), fun k hk8 => by rw [hk' k hk8]; exact IV_up (hIk k hk8) (by omega)⟩ (lv_sub hl2 [2, 3, 4, 5, 6] rfl) hS3
set_option maxHeartbeats 16000000 in
set_option maxRecDepth 20000 in
theorem lw_c2 {p : Program} {l : Launch} {e : Env} {s : State} {m : MethodId} {below : List Frame} {meth : Method} {c : Code} {H : Heap} {locs : List Loc} {cells slots b L : Nat} {xs : Nat → Int32} {ls : Array Slot} {Q : State → Prop} {D : va_G} {cI cZ cK cL : ClassId} {ad am : Nat → Nat} {ou i : Nat} (C : lw_K l p s m c b L xs D cI cZ cK cL) (hi : 5 * i + 5 ≤ L) (hI : lw_I D cI cZ cK cL ad am ou s.heap.size i H) (hl : lv_has ls 7 (lw_L b (ad 11) (am 0) ou i)) (hf : cells + 13 ≤ room_1.cells ∧ slots + 700 ≤ room_1.slots) (hS : va_S (fun q => s.heap.size ≤ q) s.heap H locs)
    (kk : ∀ (H1 : Heap) (locs1 : List Loc) (ls1 : Array Slot), lw_I D cI cZ cK cL ad am ou s.heap.size (i + 1) H1 → lv_has ls1 7 (lw_L b (ad 11) (am 0) ou i) → va_S (fun q => s.heap.size ≤ q) s.heap H1 locs1 → W p l e room_1 s m #[Value.ref b] below meth c H1 locs1 (cells + 13) (slots + 700) Q (F0 m 901 ls1 [])) : W p l e room_1 s m #[Value.ref b] below meth c H locs cells slots Q (F0 m 284 ls []) := by
  have hx := C.1.1.1
  have hb := C.1.1.2.1
  have hst := C.2.1.1
  have hL9 := C.2.2.2.2.2.2.2
  obtain ⟨hf1, hf2⟩ := hf
  obtain ⟨co, N, t, S, kt, th, wm, f, hL, hm, hMS, hN, hIv, hIk⟩ := hI
  refine lv_aload_n hx hb (show decode code 284 = .ok (.aload_n 1, 1) by decide +kernel) rfl (lv_at hl 1 rfl) ?_
  refine o_rd (i := i) (jj := 1) C hS 1 0 4 hl rfl rfl (by omega) (by decide) (show o_dec 285 1 from ⟨by decide +kernel, by decide +kernel, by decide +kernel, by decide +kernel, by decide +kernel⟩) ?_
  refine o_rd (i := i) (jj := 2) C hS 2 0 4 hl rfl rfl (by omega) (by decide) (show o_dec 291 2 from ⟨by decide +kernel, by decide +kernel, by decide +kernel, by decide +kernel, by decide +kernel⟩) ?_
  refine o_rd (i := i) (jj := 3) C hS 3 0 4 hl rfl rfl (by omega) (by decide) (show o_dec 297 3 from ⟨by decide +kernel, by decide +kernel, by decide +kernel, by decide +kernel, by decide +kernel⟩) ?_
  refine o_rd (i := i) (jj := 4) C hS 4 0 4 hl rfl rfl (by omega) (by decide) (show o_dec 303 4 from ⟨by decide +kernel, by decide +kernel, by decide +kernel, by decide +kernel, by decide +kernel⟩) ?_
  refine lv_aload_n hx hb (show decode code 309 = .ok (.aload_n 3, 1) by decide +kernel) rfl (lv_at hl 3 rfl) ?_
  refine o_call (as := [.ref (ad 11), .int (xs (5 * i + 1)), .int (xs (5 * i + 2)), .int (xs (5 * i + 3)), .int (xs (5 * i + 4)), .ref ou]) (rest := []) C 6 (lx_unbond l hst D cI cZ cK cL ad ou co s.heap.size (S t) (fun k => S (kt k)) f H.size (xs (5 * i + 1)) (xs (5 * i + 2)) (xs (5 * i + 3)) (xs (5 * i + 4)) hIv (by omega)) cd_La_unbond ll_unbond ls_unbond in_La0 rfl rfl ⟨by decide, by decide, by decide +kernel⟩ ⟨by decide, by decide⟩ rfl hl.1 (Nat.le_of_ble_eq_true rfl) (show decode code 310 = .ok (.invokestatic 70, 3) by decide +kernel) ⟨by omega, by omega⟩ hL hm hS (fun co1 f1 H1 locs1 hL1 hZ hm1 hS1 => ?_)
  refine lv_istore hx hb (show decode code 313 = .ok (.istore 5, 2) by decide +kernel) hl (by decide) (lv' := (5, .int (nI (q_unbond (S t) (xs (5 * i + 1)) (xs (5 * i + 2)) (xs (5 * i + 3)) (xs (5 * i + 4))).1)) :: (lw_L b (ad 11) (am 0) ou i)) rfl (fun ls1 hl1 => ?_)
  refine lv_aload_n hx hb (show decode code 315 = .ok (.aload_n 2, 1) by decide +kernel) rfl (lv_at hl1 3 rfl) ?_
  refine o_rd (i := i) (jj := 1) C hS1 1 1 5 hl1 rfl rfl (by omega) (by decide) (show o_dec 316 1 from ⟨by decide +kernel, by decide +kernel, by decide +kernel, by decide +kernel, by decide +kernel⟩) ?_
  refine o_rd (i := i) (jj := 2) C hS1 2 1 5 hl1 rfl rfl (by omega) (by decide) (show o_dec 322 2 from ⟨by decide +kernel, by decide +kernel, by decide +kernel, by decide +kernel, by decide +kernel⟩) ?_
  refine o_rd (i := i) (jj := 3) C hS1 3 1 5 hl1 rfl rfl (by omega) (by decide) (show o_dec 328 3 from ⟨by decide +kernel, by decide +kernel, by decide +kernel, by decide +kernel, by decide +kernel⟩) ?_
  refine o_rd (i := i) (jj := 4) C hS1 4 1 5 hl1 rfl rfl (by omega) (by decide) (show o_dec 334 4 from ⟨by decide +kernel, by decide +kernel, by decide +kernel, by decide +kernel, by decide +kernel⟩) ?_
  refine o_mod (as := [.inl (xs (5 * i + 1)), .inl (xs (5 * i + 2)), .inl (xs (5 * i + 3)), .inl (xs (5 * i + 4))]) (rest := []) (K := fun r w9 => r = some (.inl (q_unbond (S t) (xs (5 * i + 1)) (xs (5 * i + 2)) (xs (5 * i + 3)) (xs (5 * i + 4))).2.1) ∧ MR N t S kt (q_unbond (S t) (xs (5 * i + 1)) (xs (5 * i + 2)) (xs (5 * i + 3)) (xs (5 * i + 4))) w9) C 4 x_Munbond cd_Mo_unbond lm_unbond no_unbond so_unbond in_Mo0 ⟨by decide, by decide, by decide +kernel⟩ ⟨by decide, by decide⟩ rfl hl1.1 (Nat.le_of_ble_eq_true rfl) (show decode code 340 = .ok (.invokevirtual 72, 3) by decide +kernel) ⟨by omega, by omega⟩ hMS ⟨N, t, S, kt, th, (xs (5 * i + 1)), (xs (5 * i + 2)), (xs (5 * i + 3)), (xs (5 * i + 4)), rfl, hMS, by omega, fun w9 h9 => ⟨rfl, h9⟩⟩ hL1 hm1 hS1 (fun r w2 H2 locs2 hK2 hL2 hm2 hS2 => ?_)
  obtain ⟨rfl, hMR⟩ := hK2
  obtain ⟨N', t', S', hMS', hN', ht', hk'⟩ := MR_to hMS hMR
  refine W.eq (g2 := F0 m 343 ls1 [.int (q_unbond (S t) (xs (5 * i + 1)) (xs (5 * i + 2)) (xs (5 * i + 3)) (xs (5 * i + 4))).2.1]) rfl ?_
  refine lv_istore hx hb (show decode code 343 = .ok (.istore 6, 2) by decide +kernel) hl1 (by decide) (lv' := (6, .int (q_unbond (S t) (xs (5 * i + 1)) (xs (5 * i + 2)) (xs (5 * i + 3)) (xs (5 * i + 4))).2.1) :: (5, .int (nI (q_unbond (S t) (xs (5 * i + 1)) (xs (5 * i + 2)) (xs (5 * i + 3)) (xs (5 * i + 4))).1)) :: (lw_L b (ad 11) (am 0) ou i)) rfl (fun ls2 hl2 => ?_)
  refine o_tail C hl2 (show o_dt 345 from ⟨by decide +kernel, by decide +kernel, by decide +kernel, by decide +kernel, by decide +kernel, by decide +kernel, by decide +kernel, by decide +kernel, by decide +kernel, by decide +kernel, by decide +kernel, by decide +kernel, by decide +kernel, by decide +kernel⟩) ⟨by omega, by omega⟩ (fun h0 => hZ (nI_z qb_unbond h0)) hMS' hL2 hm2 hS2 (fun H3 locs3 hL3 hm3 hS3 => ?_)
  refine o_widen (k := cells + 13) (n := slots + 700) (by omega) (by omega) ?_
  exact kk H3 locs3 ls2 ⟨co1, N', t', S', kt, _, _, f1, LC_ks hL3 ht' (fun k hk8 => hk' k hk8), hm3, hMS', by omega, by rw [ht']; exact iv_unbond hIv (by omega) (xs (5 * i + 1)) (xs (5 * i + 2)) (xs (5 * i + 3)) (xs (5 * i + 4)), fun k hk8 => by rw [hk' k hk8]; exact IV_up (hIk k hk8) (by omega)⟩ (lv_sub hl2 [2, 3, 4, 5, 6] rfl) hS3
set_option maxHeartbeats 16000000 in
set_option maxRecDepth 20000 in
theorem lw_c3 {p : Program} {l : Launch} {e : Env} {s : State} {m : MethodId} {below : List Frame} {meth : Method} {c : Code} {H : Heap} {locs : List Loc} {cells slots b L : Nat} {xs : Nat → Int32} {ls : Array Slot} {Q : State → Prop} {D : va_G} {cI cZ cK cL : ClassId} {ad am : Nat → Nat} {ou i : Nat} (C : lw_K l p s m c b L xs D cI cZ cK cL) (hi : 5 * i + 5 ≤ L) (hI : lw_I D cI cZ cK cL ad am ou s.heap.size i H) (hl : lv_has ls 7 (lw_L b (ad 11) (am 0) ou i)) (hf : cells + 13 ≤ room_1.cells ∧ slots + 700 ≤ room_1.slots) (hS : va_S (fun q => s.heap.size ≤ q) s.heap H locs)
    (kk : ∀ (H1 : Heap) (locs1 : List Loc) (ls1 : Array Slot), lw_I D cI cZ cK cL ad am ou s.heap.size (i + 1) H1 → lv_has ls1 7 (lw_L b (ad 11) (am 0) ou i) → va_S (fun q => s.heap.size ≤ q) s.heap H1 locs1 → W p l e room_1 s m #[Value.ref b] below meth c H1 locs1 (cells + 13) (slots + 700) Q (F0 m 901 ls1 [])) : W p l e room_1 s m #[Value.ref b] below meth c H locs cells slots Q (F0 m 376 ls []) := by
  have hx := C.1.1.1
  have hb := C.1.1.2.1
  have hst := C.2.1.1
  have hL9 := C.2.2.2.2.2.2.2
  obtain ⟨hf1, hf2⟩ := hf
  obtain ⟨co, N, t, S, kt, th, wm, f, hL, hm, hMS, hN, hIv, hIk⟩ := hI
  refine lv_aload_n hx hb (show decode code 376 = .ok (.aload_n 1, 1) by decide +kernel) rfl (lv_at hl 1 rfl) ?_
  refine o_rd (i := i) (jj := 1) C hS 1 0 4 hl rfl rfl (by omega) (by decide) (show o_dec 377 1 from ⟨by decide +kernel, by decide +kernel, by decide +kernel, by decide +kernel, by decide +kernel⟩) ?_
  refine o_rd (i := i) (jj := 2) C hS 2 0 4 hl rfl rfl (by omega) (by decide) (show o_dec 383 2 from ⟨by decide +kernel, by decide +kernel, by decide +kernel, by decide +kernel, by decide +kernel⟩) ?_
  refine o_rd (i := i) (jj := 3) C hS 3 0 4 hl rfl rfl (by omega) (by decide) (show o_dec 389 3 from ⟨by decide +kernel, by decide +kernel, by decide +kernel, by decide +kernel, by decide +kernel⟩) ?_
  refine lv_aload_n hx hb (show decode code 395 = .ok (.aload_n 3, 1) by decide +kernel) rfl (lv_at hl 3 rfl) ?_
  refine o_call (as := [.ref (ad 11), .int (xs (5 * i + 1)), .int (xs (5 * i + 2)), .int (xs (5 * i + 3)), .ref ou]) (rest := []) C 5 (lx_free l hst D cI cZ cK cL ad ou co s.heap.size (S t) (fun k => S (kt k)) f H.size (xs (5 * i + 1)) (xs (5 * i + 2)) (xs (5 * i + 3)) hIv (by omega)) cd_La_free ll_free ls_free in_La0 rfl rfl ⟨by decide, by decide, by decide +kernel⟩ ⟨by decide, by decide⟩ rfl hl.1 (Nat.le_of_ble_eq_true rfl) (show decode code 396 = .ok (.invokestatic 73, 3) by decide +kernel) ⟨by omega, by omega⟩ hL hm hS (fun co1 f1 H1 locs1 hL1 hZ hm1 hS1 => ?_)
  refine lv_istore hx hb (show decode code 399 = .ok (.istore 5, 2) by decide +kernel) hl (by decide) (lv' := (5, .int (nI (q_free (S t) (xs (5 * i + 1)) (xs (5 * i + 2)) (xs (5 * i + 3))).1)) :: (lw_L b (ad 11) (am 0) ou i)) rfl (fun ls1 hl1 => ?_)
  refine lv_aload_n hx hb (show decode code 401 = .ok (.aload_n 2, 1) by decide +kernel) rfl (lv_at hl1 3 rfl) ?_
  refine o_rd (i := i) (jj := 1) C hS1 1 1 5 hl1 rfl rfl (by omega) (by decide) (show o_dec 402 1 from ⟨by decide +kernel, by decide +kernel, by decide +kernel, by decide +kernel, by decide +kernel⟩) ?_
  refine o_rd (i := i) (jj := 2) C hS1 2 1 5 hl1 rfl rfl (by omega) (by decide) (show o_dec 408 2 from ⟨by decide +kernel, by decide +kernel, by decide +kernel, by decide +kernel, by decide +kernel⟩) ?_
  refine o_rd (i := i) (jj := 3) C hS1 3 1 5 hl1 rfl rfl (by omega) (by decide) (show o_dec 414 3 from ⟨by decide +kernel, by decide +kernel, by decide +kernel, by decide +kernel, by decide +kernel⟩) ?_
  refine o_mod (as := [.inl (xs (5 * i + 1)), .inl (xs (5 * i + 2)), .inl (xs (5 * i + 3))]) (rest := []) (K := fun r w9 => r = some (.inl (q_free (S t) (xs (5 * i + 1)) (xs (5 * i + 2)) (xs (5 * i + 3))).2.1) ∧ MR N t S kt (q_free (S t) (xs (5 * i + 1)) (xs (5 * i + 2)) (xs (5 * i + 3))) w9) C 3 x_Mfree cd_Mo_free lm_free no_free so_free in_Mo0 ⟨by decide, by decide, by decide +kernel⟩ ⟨by decide, by decide⟩ rfl hl1.1 (Nat.le_of_ble_eq_true rfl) (show decode code 420 = .ok (.invokevirtual 76, 3) by decide +kernel) ⟨by omega, by omega⟩ hMS ⟨N, t, S, kt, th, (xs (5 * i + 1)), (xs (5 * i + 2)), (xs (5 * i + 3)), rfl, hMS, by omega, fun w9 h9 => ⟨rfl, h9⟩⟩ hL1 hm1 hS1 (fun r w2 H2 locs2 hK2 hL2 hm2 hS2 => ?_)
  obtain ⟨rfl, hMR⟩ := hK2
  obtain ⟨N', t', S', hMS', hN', ht', hk'⟩ := MR_to hMS hMR
  refine W.eq (g2 := F0 m 423 ls1 [.int (q_free (S t) (xs (5 * i + 1)) (xs (5 * i + 2)) (xs (5 * i + 3))).2.1]) rfl ?_
  refine lv_istore hx hb (show decode code 423 = .ok (.istore 6, 2) by decide +kernel) hl1 (by decide) (lv' := (6, .int (q_free (S t) (xs (5 * i + 1)) (xs (5 * i + 2)) (xs (5 * i + 3))).2.1) :: (5, .int (nI (q_free (S t) (xs (5 * i + 1)) (xs (5 * i + 2)) (xs (5 * i + 3))).1)) :: (lw_L b (ad 11) (am 0) ou i)) rfl (fun ls2 hl2 => ?_)
  refine o_tail C hl2 (show o_dt 425 from ⟨by decide +kernel, by decide +kernel, by decide +kernel, by decide +kernel, by decide +kernel, by decide +kernel, by decide +kernel, by decide +kernel, by decide +kernel, by decide +kernel, by decide +kernel, by decide +kernel, by decide +kernel, by decide +kernel⟩) ⟨by omega, by omega⟩ (fun h0 => hZ (nI_z qb_free h0)) hMS' hL2 hm2 hS2 (fun H3 locs3 hL3 hm3 hS3 => ?_)
  refine o_widen (k := cells + 13) (n := slots + 700) (by omega) (by omega) ?_
  exact kk H3 locs3 ls2 ⟨co1, N', t', S', kt, _, _, f1, LC_ks hL3 ht' (fun k hk8 => hk' k hk8), hm3, hMS', by omega, by rw [ht']; exact iv_free hIv (by omega) (xs (5 * i + 1)) (xs (5 * i + 2)) (xs (5 * i + 3)), fun k hk8 => by rw [hk' k hk8]; exact IV_up (hIk k hk8) (by omega)⟩ (lv_sub hl2 [2, 3, 4, 5, 6] rfl) hS3
set_option maxHeartbeats 16000000 in
set_option maxRecDepth 20000 in
theorem lw_c4 {p : Program} {l : Launch} {e : Env} {s : State} {m : MethodId} {below : List Frame} {meth : Method} {c : Code} {H : Heap} {locs : List Loc} {cells slots b L : Nat} {xs : Nat → Int32} {ls : Array Slot} {Q : State → Prop} {D : va_G} {cI cZ cK cL : ClassId} {ad am : Nat → Nat} {ou i : Nat} (C : lw_K l p s m c b L xs D cI cZ cK cL) (hi : 5 * i + 5 ≤ L) (hI : lw_I D cI cZ cK cL ad am ou s.heap.size i H) (hl : lv_has ls 7 (lw_L b (ad 11) (am 0) ou i)) (hf : cells + 13 ≤ room_1.cells ∧ slots + 700 ≤ room_1.slots) (hS : va_S (fun q => s.heap.size ≤ q) s.heap H locs)
    (kk : ∀ (H1 : Heap) (locs1 : List Loc) (ls1 : Array Slot), lw_I D cI cZ cK cL ad am ou s.heap.size (i + 1) H1 → lv_has ls1 7 (lw_L b (ad 11) (am 0) ou i) → va_S (fun q => s.heap.size ≤ q) s.heap H1 locs1 → W p l e room_1 s m #[Value.ref b] below meth c H1 locs1 (cells + 13) (slots + 700) Q (F0 m 901 ls1 [])) : W p l e room_1 s m #[Value.ref b] below meth c H locs cells slots Q (F0 m 456 ls []) := by
  have hx := C.1.1.1
  have hb := C.1.1.2.1
  have hst := C.2.1.1
  have hL9 := C.2.2.2.2.2.2.2
  obtain ⟨hf1, hf2⟩ := hf
  obtain ⟨co, N, t, S, kt, th, wm, f, hL, hm, hMS, hN, hIv, hIk⟩ := hI
  refine lv_aload_n hx hb (show decode code 456 = .ok (.aload_n 1, 1) by decide +kernel) rfl (lv_at hl 1 rfl) ?_
  refine o_rd (i := i) (jj := 1) C hS 1 0 4 hl rfl rfl (by omega) (by decide) (show o_dec 457 1 from ⟨by decide +kernel, by decide +kernel, by decide +kernel, by decide +kernel, by decide +kernel⟩) ?_
  refine o_rd (i := i) (jj := 2) C hS 2 0 4 hl rfl rfl (by omega) (by decide) (show o_dec 463 2 from ⟨by decide +kernel, by decide +kernel, by decide +kernel, by decide +kernel, by decide +kernel⟩) ?_
  refine o_rd (i := i) (jj := 3) C hS 3 0 4 hl rfl rfl (by omega) (by decide) (show o_dec 469 3 from ⟨by decide +kernel, by decide +kernel, by decide +kernel, by decide +kernel, by decide +kernel⟩) ?_
  refine o_rd (i := i) (jj := 4) C hS 4 0 4 hl rfl rfl (by omega) (by decide) (show o_dec 475 4 from ⟨by decide +kernel, by decide +kernel, by decide +kernel, by decide +kernel, by decide +kernel⟩) ?_
  refine lv_aload_n hx hb (show decode code 481 = .ok (.aload_n 3, 1) by decide +kernel) rfl (lv_at hl 3 rfl) ?_
  refine o_call (as := [.ref (ad 11), .int (xs (5 * i + 1)), .int (xs (5 * i + 2)), .int (xs (5 * i + 3)), .int (xs (5 * i + 4)), .ref ou]) (rest := []) C 6 (lx_prove l hst D cI cZ cK cL ad ou co s.heap.size (S t) (fun k => S (kt k)) f H.size (xs (5 * i + 1)) (xs (5 * i + 2)) (xs (5 * i + 3)) (xs (5 * i + 4)) hIv (by omega)) cd_La_prove ll_prove ls_prove in_La0 rfl rfl ⟨by decide, by decide, by decide +kernel⟩ ⟨by decide, by decide⟩ rfl hl.1 (Nat.le_of_ble_eq_true rfl) (show decode code 482 = .ok (.invokestatic 77, 3) by decide +kernel) ⟨by omega, by omega⟩ hL hm hS (fun co1 f1 H1 locs1 hL1 hZ hm1 hS1 => ?_)
  refine lv_istore hx hb (show decode code 485 = .ok (.istore 5, 2) by decide +kernel) hl (by decide) (lv' := (5, .int (nI (q_prove (S t) (xs (5 * i + 1)) (xs (5 * i + 2)) (xs (5 * i + 3)) (xs (5 * i + 4))).1)) :: (lw_L b (ad 11) (am 0) ou i)) rfl (fun ls1 hl1 => ?_)
  refine lv_aload_n hx hb (show decode code 487 = .ok (.aload_n 2, 1) by decide +kernel) rfl (lv_at hl1 3 rfl) ?_
  refine o_rd (i := i) (jj := 1) C hS1 1 1 5 hl1 rfl rfl (by omega) (by decide) (show o_dec 488 1 from ⟨by decide +kernel, by decide +kernel, by decide +kernel, by decide +kernel, by decide +kernel⟩) ?_
  refine o_rd (i := i) (jj := 2) C hS1 2 1 5 hl1 rfl rfl (by omega) (by decide) (show o_dec 494 2 from ⟨by decide +kernel, by decide +kernel, by decide +kernel, by decide +kernel, by decide +kernel⟩) ?_
  refine o_rd (i := i) (jj := 3) C hS1 3 1 5 hl1 rfl rfl (by omega) (by decide) (show o_dec 500 3 from ⟨by decide +kernel, by decide +kernel, by decide +kernel, by decide +kernel, by decide +kernel⟩) ?_
  refine o_rd (i := i) (jj := 4) C hS1 4 1 5 hl1 rfl rfl (by omega) (by decide) (show o_dec 506 4 from ⟨by decide +kernel, by decide +kernel, by decide +kernel, by decide +kernel, by decide +kernel⟩) ?_
  refine o_mod (as := [.inl (xs (5 * i + 1)), .inl (xs (5 * i + 2)), .inl (xs (5 * i + 3)), .inl (xs (5 * i + 4))]) (rest := []) (K := fun r w9 => r = some (.inl (q_prove (S t) (xs (5 * i + 1)) (xs (5 * i + 2)) (xs (5 * i + 3)) (xs (5 * i + 4))).2.1) ∧ MR N t S kt (q_prove (S t) (xs (5 * i + 1)) (xs (5 * i + 2)) (xs (5 * i + 3)) (xs (5 * i + 4))) w9) C 4 x_Mprove cd_Mo_prove lm_prove no_prove so_prove in_Mo0 ⟨by decide, by decide, by decide +kernel⟩ ⟨by decide, by decide⟩ rfl hl1.1 (Nat.le_of_ble_eq_true rfl) (show decode code 512 = .ok (.invokevirtual 79, 3) by decide +kernel) ⟨by omega, by omega⟩ hMS ⟨N, t, S, kt, th, (xs (5 * i + 1)), (xs (5 * i + 2)), (xs (5 * i + 3)), (xs (5 * i + 4)), rfl, hMS, by omega, fun w9 h9 => ⟨rfl, h9⟩⟩ hL1 hm1 hS1 (fun r w2 H2 locs2 hK2 hL2 hm2 hS2 => ?_)
  obtain ⟨rfl, hMR⟩ := hK2
  obtain ⟨N', t', S', hMS', hN', ht', hk'⟩ := MR_to hMS hMR
  refine W.eq (g2 := F0 m 515 ls1 [.int (q_prove (S t) (xs (5 * i + 1)) (xs (5 * i + 2)) (xs (5 * i + 3)) (xs (5 * i + 4))).2.1]) rfl ?_
  refine lv_istore hx hb (show decode code 515 = .ok (.istore 6, 2) by decide +kernel) hl1 (by decide) (lv' := (6, .int (q_prove (S t) (xs (5 * i + 1)) (xs (5 * i + 2)) (xs (5 * i + 3)) (xs (5 * i + 4))).2.1) :: (5, .int (nI (q_prove (S t) (xs (5 * i + 1)) (xs (5 * i + 2)) (xs (5 * i + 3)) (xs (5 * i + 4))).1)) :: (lw_L b (ad 11) (am 0) ou i)) rfl (fun ls2 hl2 => ?_)
  refine o_tail C hl2 (show o_dt 517 from ⟨by decide +kernel, by decide +kernel, by decide +kernel, by decide +kernel, by decide +kernel, by decide +kernel, by decide +kernel, by decide +kernel, by decide +kernel, by decide +kernel, by decide +kernel, by decide +kernel, by decide +kernel, by decide +kernel⟩) ⟨by omega, by omega⟩ (fun h0 => hZ (nI_z qb_prove h0)) hMS' hL2 hm2 hS2 (fun H3 locs3 hL3 hm3 hS3 => ?_)
  refine o_widen (k := cells + 13) (n := slots + 700) (by omega) (by omega) ?_
  exact kk H3 locs3 ls2 ⟨co1, N', t', S', kt, _, _, f1, LC_ks hL3 ht' (fun k hk8 => hk' k hk8), hm3, hMS', by omega, by rw [ht']; exact iv_prove hIv (by omega) (xs (5 * i + 1)) (xs (5 * i + 2)) (xs (5 * i + 3)) (xs (5 * i + 4)), fun k hk8 => by rw [hk' k hk8]; exact IV_up (hIk k hk8) (by omega)⟩ (lv_sub hl2 [2, 3, 4, 5, 6] rfl) hS3
set_option maxHeartbeats 16000000 in
set_option maxRecDepth 20000 in
theorem lw_c5 {p : Program} {l : Launch} {e : Env} {s : State} {m : MethodId} {below : List Frame} {meth : Method} {c : Code} {H : Heap} {locs : List Loc} {cells slots b L : Nat} {xs : Nat → Int32} {ls : Array Slot} {Q : State → Prop} {D : va_G} {cI cZ cK cL : ClassId} {ad am : Nat → Nat} {ou i : Nat} (C : lw_K l p s m c b L xs D cI cZ cK cL) (hi : 5 * i + 5 ≤ L) (hI : lw_I D cI cZ cK cL ad am ou s.heap.size i H) (hl : lv_has ls 7 (lw_L b (ad 11) (am 0) ou i)) (hf : cells + 13 ≤ room_1.cells ∧ slots + 700 ≤ room_1.slots) (hS : va_S (fun q => s.heap.size ≤ q) s.heap H locs)
    (kk : ∀ (H1 : Heap) (locs1 : List Loc) (ls1 : Array Slot), lw_I D cI cZ cK cL ad am ou s.heap.size (i + 1) H1 → lv_has ls1 7 (lw_L b (ad 11) (am 0) ou i) → va_S (fun q => s.heap.size ≤ q) s.heap H1 locs1 → W p l e room_1 s m #[Value.ref b] below meth c H1 locs1 (cells + 13) (slots + 700) Q (F0 m 901 ls1 [])) : W p l e room_1 s m #[Value.ref b] below meth c H locs cells slots Q (F0 m 548 ls []) := by
  have hx := C.1.1.1
  have hb := C.1.1.2.1
  have hst := C.2.1.1
  have hL9 := C.2.2.2.2.2.2.2
  obtain ⟨hf1, hf2⟩ := hf
  obtain ⟨co, N, t, S, kt, th, wm, f, hL, hm, hMS, hN, hIv, hIk⟩ := hI
  refine lv_aload_n hx hb (show decode code 548 = .ok (.aload_n 1, 1) by decide +kernel) rfl (lv_at hl 1 rfl) ?_
  refine lv_aload_n hx hb (show decode code 549 = .ok (.aload_n 3, 1) by decide +kernel) rfl (lv_at hl 3 rfl) ?_
  refine o_call (as := [.ref (ad 11), .ref ou]) (rest := []) C 2 (lx_next l hst D cI cZ cK cL ad ou co s.heap.size (S t) (fun k => S (kt k)) f H.size  hIv (by omega)) cd_La_next ll_next ls_next in_La0 rfl rfl ⟨by decide, by decide, by decide +kernel⟩ ⟨by decide, by decide⟩ rfl hl.1 (Nat.le_of_ble_eq_true rfl) (show decode code 550 = .ok (.invokestatic 80, 3) by decide +kernel) ⟨by omega, by omega⟩ hL hm hS (fun co1 f1 H1 locs1 hL1 hZ hm1 hS1 => ?_)
  refine lv_istore hx hb (show decode code 553 = .ok (.istore 5, 2) by decide +kernel) hl (by decide) (lv' := (5, .int (nI (q_next (S t)).1)) :: (lw_L b (ad 11) (am 0) ou i)) rfl (fun ls1 hl1 => ?_)
  refine lv_aload_n hx hb (show decode code 555 = .ok (.aload_n 2, 1) by decide +kernel) rfl (lv_at hl1 3 rfl) ?_
  refine o_mod (as := []) (rest := []) (K := fun r w9 => r = some (.inl (q_next (S t)).2.1) ∧ MR N t S kt (q_next (S t)) w9) C 0 x_Mnext cd_Mo_next lm_next no_next so_next in_Mo0 ⟨by decide, by decide, by decide +kernel⟩ ⟨by decide, by decide⟩ rfl hl1.1 (Nat.le_of_ble_eq_true rfl) (show decode code 556 = .ok (.invokevirtual 83, 3) by decide +kernel) ⟨by omega, by omega⟩ hMS ⟨N, t, S, kt, th, rfl, hMS, by omega, fun w9 h9 => ⟨rfl, h9⟩⟩ hL1 hm1 hS1 (fun r w2 H2 locs2 hK2 hL2 hm2 hS2 => ?_)
  obtain ⟨rfl, hMR⟩ := hK2
  obtain ⟨N', t', S', hMS', hN', ht', hk'⟩ := MR_to hMS hMR
  refine W.eq (g2 := F0 m 559 ls1 [.int (q_next (S t)).2.1]) rfl ?_
  refine lv_istore hx hb (show decode code 559 = .ok (.istore 6, 2) by decide +kernel) hl1 (by decide) (lv' := (6, .int (q_next (S t)).2.1) :: (5, .int (nI (q_next (S t)).1)) :: (lw_L b (ad 11) (am 0) ou i)) rfl (fun ls2 hl2 => ?_)
  refine o_tail C hl2 (show o_dt 561 from ⟨by decide +kernel, by decide +kernel, by decide +kernel, by decide +kernel, by decide +kernel, by decide +kernel, by decide +kernel, by decide +kernel, by decide +kernel, by decide +kernel, by decide +kernel, by decide +kernel, by decide +kernel, by decide +kernel⟩) ⟨by omega, by omega⟩ (fun h0 => hZ (nI_z qb_next h0)) hMS' hL2 hm2 hS2 (fun H3 locs3 hL3 hm3 hS3 => ?_)
  refine o_widen (k := cells + 13) (n := slots + 700) (by omega) (by omega) ?_
  exact kk H3 locs3 ls2 ⟨co1, N', t', S', kt, _, _, f1, LC_ks hL3 ht' (fun k hk8 => hk' k hk8), hm3, hMS', by omega, by rw [ht']; exact iv_next hIv, fun k hk8 => by rw [hk' k hk8]; exact IV_up (hIk k hk8) (by omega)⟩ (lv_sub hl2 [2, 3, 4, 5, 6] rfl) hS3
set_option maxHeartbeats 16000000 in
set_option maxRecDepth 20000 in
theorem lw_c6 {p : Program} {l : Launch} {e : Env} {s : State} {m : MethodId} {below : List Frame} {meth : Method} {c : Code} {H : Heap} {locs : List Loc} {cells slots b L : Nat} {xs : Nat → Int32} {ls : Array Slot} {Q : State → Prop} {D : va_G} {cI cZ cK cL : ClassId} {ad am : Nat → Nat} {ou i : Nat} (C : lw_K l p s m c b L xs D cI cZ cK cL) (hi : 5 * i + 5 ≤ L) (hI : lw_I D cI cZ cK cL ad am ou s.heap.size i H) (hl : lv_has ls 7 (lw_L b (ad 11) (am 0) ou i)) (hf : cells + 13 ≤ room_1.cells ∧ slots + 700 ≤ room_1.slots) (hS : va_S (fun q => s.heap.size ≤ q) s.heap H locs)
    (kk : ∀ (H1 : Heap) (locs1 : List Loc) (ls1 : Array Slot), lw_I D cI cZ cK cL ad am ou s.heap.size (i + 1) H1 → lv_has ls1 7 (lw_L b (ad 11) (am 0) ou i) → va_S (fun q => s.heap.size ≤ q) s.heap H1 locs1 → W p l e room_1 s m #[Value.ref b] below meth c H1 locs1 (cells + 13) (slots + 700) Q (F0 m 901 ls1 [])) : W p l e room_1 s m #[Value.ref b] below meth c H locs cells slots Q (F0 m 592 ls []) := by
  have hx := C.1.1.1
  have hb := C.1.1.2.1
  have hst := C.2.1.1
  have hL9 := C.2.2.2.2.2.2.2
  obtain ⟨hf1, hf2⟩ := hf
  obtain ⟨co, N, t, S, kt, th, wm, f, hL, hm, hMS, hN, hIv, hIk⟩ := hI
  refine lv_aload_n hx hb (show decode code 592 = .ok (.aload_n 1, 1) by decide +kernel) rfl (lv_at hl 1 rfl) ?_
  refine o_rd (i := i) (jj := 1) C hS 1 0 4 hl rfl rfl (by omega) (by decide) (show o_dec 593 1 from ⟨by decide +kernel, by decide +kernel, by decide +kernel, by decide +kernel, by decide +kernel⟩) ?_
  by_cases ha : isR (xs (5 * i + 1)) 8
  · obtain ⟨k, hk, ek⟩ := isR_nat (n := 8) (by decide) ha
    rw [ek]
    refine o_call (as := [.ref (ad 11), .int (nI k)]) (rest := []) C 2 (lx_keepG l hst D cI cZ cK cL ad ou co s.heap.size (S t) (fun k => S (kt k)) f H.size k hk (hIv.2.2.1)) cd_La_keep ll_keep ls_keep in_La0 rfl rfl ⟨by decide, by decide, by decide +kernel⟩ ⟨by decide, by decide⟩ rfl hl.1 (Nat.le_of_ble_eq_true rfl) (show decode code 599 = .ok (.invokestatic 84, 3) by decide +kernel) ⟨by omega, by omega⟩ hL hm hS (fun co1 f1 H1 locs1 hL1 hZ hm1 hS1 => ?_)
    refine lv_istore hx hb (show decode code 602 = .ok (.istore 5, 2) by decide +kernel) hl (by decide) (lv' := (5, .int (nI 0)) :: (lw_L b (ad 11) (am 0) ou i)) rfl (fun ls1 hl1 => ?_)
    refine lv_aload_n hx hb (show decode code 604 = .ok (.aload_n 2, 1) by decide +kernel) rfl (lv_at hl1 3 rfl) ?_
    refine o_rd (i := i) (jj := 1) C hS1 1 1 5 hl1 rfl rfl (by omega) (by decide) (show o_dec 605 1 from ⟨by decide +kernel, by decide +kernel, by decide +kernel, by decide +kernel, by decide +kernel⟩) ?_
    rw [ek]
    refine o_mod (as := [.inl (nI k)]) (rest := []) (K := fun r w9 => r = none ∧ MS N t S (fun i => if i = k then t else kt i) (nI 0) w9) C 1 x_Mkeep cd_Mo_keep lm_keep no_keep so_keep in_Mo0 ⟨by decide, by decide, by decide +kernel⟩ ⟨by decide, by decide⟩ rfl hl1.1 (Nat.le_of_ble_eq_true rfl) (show decode code 611 = .ok (.invokevirtual 87, 3) by decide +kernel) ⟨by omega, by omega⟩ hMS ⟨N, t, S, kt, th, nI k, rfl, hMS, (fun h9 => (h9 (by rw [← ek]; exact ha)).elim), (fun k2 hk2 e2 w9 h9 => by obtain rfl : k2 = k := nI_inj8 hk2 hk e2.symm; exact ⟨rfl, h9⟩)⟩ hL1 hm1 hS1 (fun r w2 H2 locs2 hK2 hL2 hm2 hS2 => ?_)
    obtain ⟨rfl, hMS'⟩ := hK2
    refine W.eq (g2 := F0 m 614 ls1 []) rfl ?_
    refine lv_aload_n hx hb (show decode code 614 = .ok (.aload_n 2, 1) by decide +kernel) rfl (lv_at hl1 3 rfl) ?_
    refine o_thr C hl1.1 (show decode code 615 = .ok (.invokevirtual 64, 3) by decide +kernel) ⟨by omega, by omega⟩ hMS' hL2 hm2 hS2 (fun H3 locs3 hL3 hm3 hS3 => ?_)
    refine lv_iload hx hb (show decode code 618 = .ok (.iload 5, 2) by decide +kernel) (lv_at hl1 0 rfl) ?_
    refine lv_icmp_eq hx hb (tgt := 625) (show decode code 620 = .ok (.if_icmp .eq 5, 3) by decide +kernel) rfl (fun _ => ?_) (fun h => absurd rfl h)
    refine lv_goto hx hb (tgt := 901) (show decode code 625 = .ok (.goto 276, 3) by decide +kernel) rfl ?_
    refine o_widen (k := cells + 13) (n := slots + 700) (by omega) (by omega) ?_
    refine kk H3 locs3 ls1 ⟨co1, N, t, S, (fun i => if i = k then t else kt i), _, _, f1, LC_ks hL3 rfl (fun j _ => up_kt), hm3, hMS', by omega, IV_up hIv (by omega), fun j hj => ?_⟩ (lv_sub hl1 [1, 2, 3, 4, 5] rfl) hS3
    by_cases e9 : j = k
    · show IV (i + 1) (S (if j = k then t else kt j))
      rw [if_pos e9]; exact IV_up hIv (by omega)
    · show IV (i + 1) (S (if j = k then t else kt j))
      rw [if_neg e9]; exact IV_up (hIk j hj) (by omega)
  · refine o_call (as := [.ref (ad 11), .int (xs (5 * i + 1))]) (rest := []) C 2 (lx_keep0 l hst D cI cZ cK cL ad ou co s.heap.size (S t) (fun k => S (kt k)) f H.size (xs (5 * i + 1)) ha) cd_La_keep ll_keep ls_keep in_La0 rfl rfl ⟨by decide, by decide, by decide +kernel⟩ ⟨by decide, by decide⟩ rfl hl.1 (Nat.le_of_ble_eq_true rfl) (show decode code 599 = .ok (.invokestatic 84, 3) by decide +kernel) ⟨by omega, by omega⟩ hL hm hS (fun co1 f1 H1 locs1 hL1 hZ hm1 hS1 => ?_)
    refine lv_istore hx hb (show decode code 602 = .ok (.istore 5, 2) by decide +kernel) hl (by decide) (lv' := (5, .int (nI 1)) :: (lw_L b (ad 11) (am 0) ou i)) rfl (fun ls1 hl1 => ?_)
    refine lv_aload_n hx hb (show decode code 604 = .ok (.aload_n 2, 1) by decide +kernel) rfl (lv_at hl1 3 rfl) ?_
    refine o_rd (i := i) (jj := 1) C hS1 1 1 5 hl1 rfl rfl (by omega) (by decide) (show o_dec 605 1 from ⟨by decide +kernel, by decide +kernel, by decide +kernel, by decide +kernel, by decide +kernel⟩) ?_
    refine o_mod (as := [.inl (xs (5 * i + 1))]) (rest := []) (K := fun r w9 => r = none ∧ MS N t S kt (nI 1) w9) C 1 x_Mkeep cd_Mo_keep lm_keep no_keep so_keep in_Mo0 ⟨by decide, by decide, by decide +kernel⟩ ⟨by decide, by decide⟩ rfl hl1.1 (Nat.le_of_ble_eq_true rfl) (show decode code 611 = .ok (.invokevirtual 87, 3) by decide +kernel) ⟨by omega, by omega⟩ hMS ⟨N, t, S, kt, th, (xs (5 * i + 1)), rfl, hMS, (fun _ w9 h9 => ⟨rfl, h9⟩), (fun k2 hk2 e2 => (ha (by rw [e2]; exact isR_of (n := 8) hk2 (by decide))).elim)⟩ hL1 hm1 hS1 (fun r w2 H2 locs2 hK2 hL2 hm2 hS2 => ?_)
    obtain ⟨rfl, hMS'⟩ := hK2
    refine W.eq (g2 := F0 m 614 ls1 []) rfl ?_
    refine lv_aload_n hx hb (show decode code 614 = .ok (.aload_n 2, 1) by decide +kernel) rfl (lv_at hl1 3 rfl) ?_
    refine o_thr C hl1.1 (show decode code 615 = .ok (.invokevirtual 64, 3) by decide +kernel) ⟨by omega, by omega⟩ hMS' hL2 hm2 hS2 (fun H3 locs3 hL3 hm3 hS3 => ?_)
    refine lv_iload hx hb (show decode code 618 = .ok (.iload 5, 2) by decide +kernel) (lv_at hl1 0 rfl) ?_
    refine lv_icmp_eq hx hb (tgt := 625) (show decode code 620 = .ok (.if_icmp .eq 5, 3) by decide +kernel) rfl (fun _ => ?_) (fun h => absurd rfl h)
    refine lv_goto hx hb (tgt := 901) (show decode code 625 = .ok (.goto 276, 3) by decide +kernel) rfl ?_
    refine o_widen (k := cells + 13) (n := slots + 700) (by omega) (by omega) ?_
    exact kk H3 locs3 ls1 ⟨co1, N, t, S, kt, _, _, f1, hL3, hm3, hMS', by omega, IV_up hIv (by omega), fun k hk8 => IV_up (hIk k hk8) (by omega)⟩ (lv_sub hl1 [1, 2, 3, 4, 5] rfl) hS3
set_option maxHeartbeats 16000000 in
set_option maxRecDepth 20000 in
theorem lw_c7 {p : Program} {l : Launch} {e : Env} {s : State} {m : MethodId} {below : List Frame} {meth : Method} {c : Code} {H : Heap} {locs : List Loc} {cells slots b L : Nat} {xs : Nat → Int32} {ls : Array Slot} {Q : State → Prop} {D : va_G} {cI cZ cK cL : ClassId} {ad am : Nat → Nat} {ou i : Nat} (C : lw_K l p s m c b L xs D cI cZ cK cL) (hi : 5 * i + 5 ≤ L) (hI : lw_I D cI cZ cK cL ad am ou s.heap.size i H) (hl : lv_has ls 7 (lw_L b (ad 11) (am 0) ou i)) (hf : cells + 13 ≤ room_1.cells ∧ slots + 700 ≤ room_1.slots) (hS : va_S (fun q => s.heap.size ≤ q) s.heap H locs)
    (kk : ∀ (H1 : Heap) (locs1 : List Loc) (ls1 : Array Slot), lw_I D cI cZ cK cL ad am ou s.heap.size (i + 1) H1 → lv_has ls1 7 (lw_L b (ad 11) (am 0) ou i) → va_S (fun q => s.heap.size ≤ q) s.heap H1 locs1 → W p l e room_1 s m #[Value.ref b] below meth c H1 locs1 (cells + 13) (slots + 700) Q (F0 m 901 ls1 [])) : W p l e room_1 s m #[Value.ref b] below meth c H locs cells slots Q (F0 m 628 ls []) := by
  have hx := C.1.1.1
  have hb := C.1.1.2.1
  have hst := C.2.1.1
  have hL9 := C.2.2.2.2.2.2.2
  obtain ⟨hf1, hf2⟩ := hf
  obtain ⟨co, N, t, S, kt, th, wm, f, hL, hm, hMS, hN, hIv, hIk⟩ := hI
  refine lv_aload_n hx hb (show decode code 628 = .ok (.aload_n 1, 1) by decide +kernel) rfl (lv_at hl 1 rfl) ?_
  refine o_rd (i := i) (jj := 1) C hS 1 0 4 hl rfl rfl (by omega) (by decide) (show o_dec 629 1 from ⟨by decide +kernel, by decide +kernel, by decide +kernel, by decide +kernel, by decide +kernel⟩) ?_
  refine lv_aload_n hx hb (show decode code 635 = .ok (.aload_n 3, 1) by decide +kernel) rfl (lv_at hl 3 rfl) ?_
  by_cases ha : isR (xs (5 * i + 1)) 8
  · obtain ⟨k, hk, ek⟩ := isR_nat (n := 8) (by decide) ha
    rw [ek]
    refine o_call (as := [.ref (ad 11), .int (nI k), .ref ou]) (rest := []) C 3 (lx_backG l hst D cI cZ cK cL ad ou co s.heap.size (S t) (fun k => S (kt k)) f H.size k hk ((hIk k hk).2.2.1)) cd_La_back ll_back ls_back in_La0 rfl rfl ⟨by decide, by decide, by decide +kernel⟩ ⟨by decide, by decide⟩ rfl hl.1 (Nat.le_of_ble_eq_true rfl) (show decode code 636 = .ok (.invokestatic 88, 3) by decide +kernel) ⟨by omega, by omega⟩ hL hm hS (fun co1 f1 H1 locs1 hL1 hZ hm1 hS1 => ?_)
    refine lv_istore hx hb (show decode code 639 = .ok (.istore 5, 2) by decide +kernel) hl (by decide) (lv' := (5, .int (nI 0)) :: (lw_L b (ad 11) (am 0) ou i)) rfl (fun ls1 hl1 => ?_)
    refine lv_aload_n hx hb (show decode code 641 = .ok (.aload_n 2, 1) by decide +kernel) rfl (lv_at hl1 3 rfl) ?_
    refine o_rd (i := i) (jj := 1) C hS1 1 1 5 hl1 rfl rfl (by omega) (by decide) (show o_dec 642 1 from ⟨by decide +kernel, by decide +kernel, by decide +kernel, by decide +kernel, by decide +kernel⟩) ?_
    rw [ek]
    refine o_mod (as := [.inl (nI k)]) (rest := []) (K := fun r w9 => r = some (.inl (S (kt k)).2.2.2.2.2.2) ∧ MS N (kt k) S kt (nI 0) w9) C 1 x_Mback cd_Mo_back lm_back no_back so_back in_Mo0 ⟨by decide, by decide, by decide +kernel⟩ ⟨by decide, by decide⟩ rfl hl1.1 (Nat.le_of_ble_eq_true rfl) (show decode code 648 = .ok (.invokevirtual 91, 3) by decide +kernel) ⟨by omega, by omega⟩ hMS ⟨N, t, S, kt, th, nI k, rfl, hMS, by omega, (fun h9 => (h9 (by rw [← ek]; exact ha)).elim), (fun k2 hk2 e2 w9 h9 => by obtain rfl : k2 = k := nI_inj8 hk2 hk e2.symm; exact ⟨rfl, h9⟩)⟩ hL1 hm1 hS1 (fun r w2 H2 locs2 hK2 hL2 hm2 hS2 => ?_)
    obtain ⟨rfl, hMS'⟩ := hK2
    refine W.eq (g2 := F0 m 651 ls1 [.int (S (kt k)).2.2.2.2.2.2]) rfl ?_
    refine lv_istore hx hb (show decode code 651 = .ok (.istore 6, 2) by decide +kernel) hl1 (by decide) (lv' := (6, .int (S (kt k)).2.2.2.2.2.2) :: (5, .int (nI 0)) :: (lw_L b (ad 11) (am 0) ou i)) rfl (fun ls2 hl2 => ?_)
    refine o_tail C hl2 (show o_dt 653 from ⟨by decide +kernel, by decide +kernel, by decide +kernel, by decide +kernel, by decide +kernel, by decide +kernel, by decide +kernel, by decide +kernel, by decide +kernel, by decide +kernel, by decide +kernel, by decide +kernel, by decide +kernel, by decide +kernel⟩) ⟨by omega, by omega⟩ (fun _ => hZ) hMS' hL2 hm2 hS2 (fun H3 locs3 hL3 hm3 hS3 => ?_)
    refine o_widen (k := cells + 13) (n := slots + 700) (by omega) (by omega) ?_
    exact kk H3 locs3 ls2 ⟨co1, N, kt k, S, kt, _, _, f1, hL3, hm3, hMS', by omega, IV_up (hIk k hk) (by omega), fun k hk8 => IV_up (hIk k hk8) (by omega)⟩ (lv_sub hl2 [2, 3, 4, 5, 6] rfl) hS3
  · refine o_call (as := [.ref (ad 11), .int (xs (5 * i + 1)), .ref ou]) (rest := []) C 3 (lx_back0 l hst D cI cZ cK cL ad ou co s.heap.size (S t) (fun k => S (kt k)) f H.size (xs (5 * i + 1)) ha) cd_La_back ll_back ls_back in_La0 rfl rfl ⟨by decide, by decide, by decide +kernel⟩ ⟨by decide, by decide⟩ rfl hl.1 (Nat.le_of_ble_eq_true rfl) (show decode code 636 = .ok (.invokestatic 88, 3) by decide +kernel) ⟨by omega, by omega⟩ hL hm hS (fun co1 f1 H1 locs1 hL1 hZ hm1 hS1 => ?_)
    refine lv_istore hx hb (show decode code 639 = .ok (.istore 5, 2) by decide +kernel) hl (by decide) (lv' := (5, .int (nI 1)) :: (lw_L b (ad 11) (am 0) ou i)) rfl (fun ls1 hl1 => ?_)
    refine lv_aload_n hx hb (show decode code 641 = .ok (.aload_n 2, 1) by decide +kernel) rfl (lv_at hl1 3 rfl) ?_
    refine o_rd (i := i) (jj := 1) C hS1 1 1 5 hl1 rfl rfl (by omega) (by decide) (show o_dec 642 1 from ⟨by decide +kernel, by decide +kernel, by decide +kernel, by decide +kernel, by decide +kernel⟩) ?_
    refine o_mod (as := [.inl (xs (5 * i + 1))]) (rest := []) (K := fun r w9 => r = some (.inl 0) ∧ MS N t S kt (nI 1) w9) C 1 x_Mback cd_Mo_back lm_back no_back so_back in_Mo0 ⟨by decide, by decide, by decide +kernel⟩ ⟨by decide, by decide⟩ rfl hl1.1 (Nat.le_of_ble_eq_true rfl) (show decode code 648 = .ok (.invokevirtual 91, 3) by decide +kernel) ⟨by omega, by omega⟩ hMS ⟨N, t, S, kt, th, (xs (5 * i + 1)), rfl, hMS, by omega, (fun _ w9 h9 => ⟨rfl, h9⟩), (fun k2 hk2 e2 => (ha (by rw [e2]; exact isR_of (n := 8) hk2 (by decide))).elim)⟩ hL1 hm1 hS1 (fun r w2 H2 locs2 hK2 hL2 hm2 hS2 => ?_)
    obtain ⟨rfl, hMS'⟩ := hK2
    refine W.eq (g2 := F0 m 651 ls1 [.int 0]) rfl ?_
    refine lv_istore hx hb (show decode code 651 = .ok (.istore 6, 2) by decide +kernel) hl1 (by decide) (lv' := (6, .int 0) :: (5, .int (nI 1)) :: (lw_L b (ad 11) (am 0) ou i)) rfl (fun ls2 hl2 => ?_)
    refine o_tail C hl2 (show o_dt 653 from ⟨by decide +kernel, by decide +kernel, by decide +kernel, by decide +kernel, by decide +kernel, by decide +kernel, by decide +kernel, by decide +kernel, by decide +kernel, by decide +kernel, by decide +kernel, by decide +kernel, by decide +kernel, by decide +kernel⟩) ⟨by omega, by omega⟩ (fun h0 => absurd h0 (by decide)) hMS' hL2 hm2 hS2 (fun H3 locs3 hL3 hm3 hS3 => ?_)
    refine o_widen (k := cells + 13) (n := slots + 700) (by omega) (by omega) ?_
    exact kk H3 locs3 ls2 ⟨co1, N, t, S, kt, _, _, f1, hL3, hm3, hMS', by omega, IV_up hIv (by omega), fun k hk8 => IV_up (hIk k hk8) (by omega)⟩ (lv_sub hl2 [2, 3, 4, 5, 6] rfl) hS3
set_option maxHeartbeats 16000000 in
set_option maxRecDepth 20000 in
theorem lw_c8 {p : Program} {l : Launch} {e : Env} {s : State} {m : MethodId} {below : List Frame} {meth : Method} {c : Code} {H : Heap} {locs : List Loc} {cells slots b L : Nat} {xs : Nat → Int32} {ls : Array Slot} {Q : State → Prop} {D : va_G} {cI cZ cK cL : ClassId} {ad am : Nat → Nat} {ou i : Nat} (C : lw_K l p s m c b L xs D cI cZ cK cL) (hi : 5 * i + 5 ≤ L) (hI : lw_I D cI cZ cK cL ad am ou s.heap.size i H) (hl : lv_has ls 7 (lw_L b (ad 11) (am 0) ou i)) (hf : cells + 13 ≤ room_1.cells ∧ slots + 700 ≤ room_1.slots) (hS : va_S (fun q => s.heap.size ≤ q) s.heap H locs)
    (kk : ∀ (H1 : Heap) (locs1 : List Loc) (ls1 : Array Slot), lw_I D cI cZ cK cL ad am ou s.heap.size (i + 1) H1 → lv_has ls1 7 (lw_L b (ad 11) (am 0) ou i) → va_S (fun q => s.heap.size ≤ q) s.heap H1 locs1 → W p l e room_1 s m #[Value.ref b] below meth c H1 locs1 (cells + 13) (slots + 700) Q (F0 m 901 ls1 [])) : W p l e room_1 s m #[Value.ref b] below meth c H locs cells slots Q (F0 m 684 ls []) := by
  have hx := C.1.1.1
  have hb := C.1.1.2.1
  have hst := C.2.1.1
  have hL9 := C.2.2.2.2.2.2.2
  obtain ⟨hf1, hf2⟩ := hf
  obtain ⟨co, N, t, S, kt, th, wm, f, hL, hm, hMS, hN, hIv, hIk⟩ := hI
  refine lv_aload_n hx hb (show decode code 684 = .ok (.aload_n 1, 1) by decide +kernel) rfl (lv_at hl 1 rfl) ?_
  refine o_rd (i := i) (jj := 1) C hS 1 0 4 hl rfl rfl (by omega) (by decide) (show o_dec 685 1 from ⟨by decide +kernel, by decide +kernel, by decide +kernel, by decide +kernel, by decide +kernel⟩) ?_
  refine o_rd (i := i) (jj := 2) C hS 2 0 4 hl rfl rfl (by omega) (by decide) (show o_dec 691 2 from ⟨by decide +kernel, by decide +kernel, by decide +kernel, by decide +kernel, by decide +kernel⟩) ?_
  refine lv_aload_n hx hb (show decode code 697 = .ok (.aload_n 3, 1) by decide +kernel) rfl (lv_at hl 3 rfl) ?_
  refine o_call (as := [.ref (ad 11), .int (xs (5 * i + 1)), .int (xs (5 * i + 2)), .ref ou]) (rest := []) C 4 (lx_account l hst D cI cZ cK cL ad ou co s.heap.size (S t) (fun k => S (kt k)) f H.size (xs (5 * i + 1)) (xs (5 * i + 2)) hIv (by omega)) cd_La_account ll_account ls_account in_La0 rfl rfl ⟨by decide, by decide, by decide +kernel⟩ ⟨by decide, by decide⟩ rfl hl.1 (Nat.le_of_ble_eq_true rfl) (show decode code 698 = .ok (.invokestatic 92, 3) by decide +kernel) ⟨by omega, by omega⟩ hL hm hS (fun co1 f1 H1 locs1 hL1 hZ hm1 hS1 => ?_)
  refine lv_istore hx hb (show decode code 701 = .ok (.istore 5, 2) by decide +kernel) hl (by decide) (lv' := (5, .int (nI (q_account (S t) (xs (5 * i + 1)) (xs (5 * i + 2))).1)) :: (lw_L b (ad 11) (am 0) ou i)) rfl (fun ls1 hl1 => ?_)
  refine lv_aload_n hx hb (show decode code 703 = .ok (.aload_n 2, 1) by decide +kernel) rfl (lv_at hl1 3 rfl) ?_
  refine o_rd (i := i) (jj := 1) C hS1 1 1 5 hl1 rfl rfl (by omega) (by decide) (show o_dec 704 1 from ⟨by decide +kernel, by decide +kernel, by decide +kernel, by decide +kernel, by decide +kernel⟩) ?_
  refine o_rd (i := i) (jj := 2) C hS1 2 1 5 hl1 rfl rfl (by omega) (by decide) (show o_dec 710 2 from ⟨by decide +kernel, by decide +kernel, by decide +kernel, by decide +kernel, by decide +kernel⟩) ?_
  refine o_mod (as := [.inl (xs (5 * i + 1)), .inl (xs (5 * i + 2))]) (rest := []) (K := fun r w9 => r = some (.inl (q_account (S t) (xs (5 * i + 1)) (xs (5 * i + 2))).2.1) ∧ MR N t S kt (q_account (S t) (xs (5 * i + 1)) (xs (5 * i + 2))) w9) C 2 x_Maccount cd_Mo_account lm_account no_account so_account in_Mo0 ⟨by decide, by decide, by decide +kernel⟩ ⟨by decide, by decide⟩ rfl hl1.1 (Nat.le_of_ble_eq_true rfl) (show decode code 716 = .ok (.invokevirtual 95, 3) by decide +kernel) ⟨by omega, by omega⟩ hMS ⟨N, t, S, kt, th, (xs (5 * i + 1)), (xs (5 * i + 2)), rfl, hMS, by omega, fun w9 h9 => ⟨rfl, h9⟩⟩ hL1 hm1 hS1 (fun r w2 H2 locs2 hK2 hL2 hm2 hS2 => ?_)
  obtain ⟨rfl, hMR⟩ := hK2
  obtain ⟨N', t', S', hMS', hN', ht', hk'⟩ := MR_to hMS hMR
  refine W.eq (g2 := F0 m 719 ls1 [.int (q_account (S t) (xs (5 * i + 1)) (xs (5 * i + 2))).2.1]) rfl ?_
  refine lv_istore hx hb (show decode code 719 = .ok (.istore 6, 2) by decide +kernel) hl1 (by decide) (lv' := (6, .int (q_account (S t) (xs (5 * i + 1)) (xs (5 * i + 2))).2.1) :: (5, .int (nI (q_account (S t) (xs (5 * i + 1)) (xs (5 * i + 2))).1)) :: (lw_L b (ad 11) (am 0) ou i)) rfl (fun ls2 hl2 => ?_)
  refine o_tail C hl2 (show o_dt 721 from ⟨by decide +kernel, by decide +kernel, by decide +kernel, by decide +kernel, by decide +kernel, by decide +kernel, by decide +kernel, by decide +kernel, by decide +kernel, by decide +kernel, by decide +kernel, by decide +kernel, by decide +kernel, by decide +kernel⟩) ⟨by omega, by omega⟩ (fun h0 => hZ (nI_z qb_account h0)) hMS' hL2 hm2 hS2 (fun H3 locs3 hL3 hm3 hS3 => ?_)
  refine o_widen (k := cells + 13) (n := slots + 700) (by omega) (by omega) ?_
  exact kk H3 locs3 ls2 ⟨co1, N', t', S', kt, _, _, f1, LC_ks hL3 ht' (fun k hk8 => hk' k hk8), hm3, hMS', by omega, by rw [ht', qs_account]; exact IV_up hIv (by omega), fun k hk8 => by rw [hk' k hk8]; exact IV_up (hIk k hk8) (by omega)⟩ (lv_sub hl2 [2, 3, 4, 5, 6] rfl) hS3
set_option maxHeartbeats 16000000 in
set_option maxRecDepth 20000 in
theorem lw_c9 {p : Program} {l : Launch} {e : Env} {s : State} {m : MethodId} {below : List Frame} {meth : Method} {c : Code} {H : Heap} {locs : List Loc} {cells slots b L : Nat} {xs : Nat → Int32} {ls : Array Slot} {Q : State → Prop} {D : va_G} {cI cZ cK cL : ClassId} {ad am : Nat → Nat} {ou i : Nat} (C : lw_K l p s m c b L xs D cI cZ cK cL) (hi : 5 * i + 5 ≤ L) (hI : lw_I D cI cZ cK cL ad am ou s.heap.size i H) (hl : lv_has ls 7 (lw_L b (ad 11) (am 0) ou i)) (hf : cells + 13 ≤ room_1.cells ∧ slots + 700 ≤ room_1.slots) (hS : va_S (fun q => s.heap.size ≤ q) s.heap H locs)
    (kk : ∀ (H1 : Heap) (locs1 : List Loc) (ls1 : Array Slot), lw_I D cI cZ cK cL ad am ou s.heap.size (i + 1) H1 → lv_has ls1 7 (lw_L b (ad 11) (am 0) ou i) → va_S (fun q => s.heap.size ≤ q) s.heap H1 locs1 → W p l e room_1 s m #[Value.ref b] below meth c H1 locs1 (cells + 13) (slots + 700) Q (F0 m 901 ls1 [])) : W p l e room_1 s m #[Value.ref b] below meth c H locs cells slots Q (F0 m 752 ls []) := by
  have hx := C.1.1.1
  have hb := C.1.1.2.1
  have hst := C.2.1.1
  have hL9 := C.2.2.2.2.2.2.2
  obtain ⟨hf1, hf2⟩ := hf
  obtain ⟨co, N, t, S, kt, th, wm, f, hL, hm, hMS, hN, hIv, hIk⟩ := hI
  refine lv_aload_n hx hb (show decode code 752 = .ok (.aload_n 1, 1) by decide +kernel) rfl (lv_at hl 1 rfl) ?_
  refine o_rd (i := i) (jj := 1) C hS 1 0 4 hl rfl rfl (by omega) (by decide) (show o_dec 753 1 from ⟨by decide +kernel, by decide +kernel, by decide +kernel, by decide +kernel, by decide +kernel⟩) ?_
  refine lv_aload_n hx hb (show decode code 759 = .ok (.aload_n 3, 1) by decide +kernel) rfl (lv_at hl 3 rfl) ?_
  refine o_call (as := [.ref (ad 11), .int (xs (5 * i + 1)), .ref ou]) (rest := []) C 3 (lx_sum l hst D cI cZ cK cL ad ou co s.heap.size (S t) (fun k => S (kt k)) f H.size (xs (5 * i + 1)) hIv (by omega)) cd_La_sum ll_sum ls_sum in_La0 rfl rfl ⟨by decide, by decide, by decide +kernel⟩ ⟨by decide, by decide⟩ rfl hl.1 (Nat.le_of_ble_eq_true rfl) (show decode code 760 = .ok (.invokestatic 96, 3) by decide +kernel) ⟨by omega, by omega⟩ hL hm hS (fun co1 f1 H1 locs1 hL1 hZ hm1 hS1 => ?_)
  refine lv_istore hx hb (show decode code 763 = .ok (.istore 5, 2) by decide +kernel) hl (by decide) (lv' := (5, .int (nI (q_sum (S t) (xs (5 * i + 1))).1)) :: (lw_L b (ad 11) (am 0) ou i)) rfl (fun ls1 hl1 => ?_)
  refine lv_aload_n hx hb (show decode code 765 = .ok (.aload_n 2, 1) by decide +kernel) rfl (lv_at hl1 3 rfl) ?_
  refine o_rd (i := i) (jj := 1) C hS1 1 1 5 hl1 rfl rfl (by omega) (by decide) (show o_dec 766 1 from ⟨by decide +kernel, by decide +kernel, by decide +kernel, by decide +kernel, by decide +kernel⟩) ?_
  refine o_mod (as := [.inl (xs (5 * i + 1))]) (rest := []) (K := fun r w9 => r = some (.inl (q_sum (S t) (xs (5 * i + 1))).2.1) ∧ MR N t S kt (q_sum (S t) (xs (5 * i + 1))) w9) C 1 x_Msum cd_Mo_sum lm_sum no_sum so_sum in_Mo0 ⟨by decide, by decide, by decide +kernel⟩ ⟨by decide, by decide⟩ rfl hl1.1 (Nat.le_of_ble_eq_true rfl) (show decode code 772 = .ok (.invokevirtual 98, 3) by decide +kernel) ⟨by omega, by omega⟩ hMS ⟨N, t, S, kt, th, (xs (5 * i + 1)), rfl, hMS, by omega, fun w9 h9 => ⟨rfl, h9⟩⟩ hL1 hm1 hS1 (fun r w2 H2 locs2 hK2 hL2 hm2 hS2 => ?_)
  obtain ⟨rfl, hMR⟩ := hK2
  obtain ⟨N', t', S', hMS', hN', ht', hk'⟩ := MR_to hMS hMR
  refine W.eq (g2 := F0 m 775 ls1 [.int (q_sum (S t) (xs (5 * i + 1))).2.1]) rfl ?_
  refine lv_istore hx hb (show decode code 775 = .ok (.istore 6, 2) by decide +kernel) hl1 (by decide) (lv' := (6, .int (q_sum (S t) (xs (5 * i + 1))).2.1) :: (5, .int (nI (q_sum (S t) (xs (5 * i + 1))).1)) :: (lw_L b (ad 11) (am 0) ou i)) rfl (fun ls2 hl2 => ?_)
  refine o_tail C hl2 (show o_dt 777 from ⟨by decide +kernel, by decide +kernel, by decide +kernel, by decide +kernel, by decide +kernel, by decide +kernel, by decide +kernel, by decide +kernel, by decide +kernel, by decide +kernel, by decide +kernel, by decide +kernel, by decide +kernel, by decide +kernel⟩) ⟨by omega, by omega⟩ (fun h0 => hZ (nI_z qb_sum h0)) hMS' hL2 hm2 hS2 (fun H3 locs3 hL3 hm3 hS3 => ?_)
  refine o_widen (k := cells + 13) (n := slots + 700) (by omega) (by omega) ?_
  exact kk H3 locs3 ls2 ⟨co1, N', t', S', kt, _, _, f1, LC_ks hL3 ht' (fun k hk8 => hk' k hk8), hm3, hMS', by omega, by rw [ht', qs_sum]; exact IV_up hIv (by omega), fun k hk8 => by rw [hk' k hk8]; exact IV_up (hIk k hk8) (by omega)⟩ (lv_sub hl2 [2, 3, 4, 5, 6] rfl) hS3
set_option maxHeartbeats 16000000 in
set_option maxRecDepth 20000 in
theorem lw_c10 {p : Program} {l : Launch} {e : Env} {s : State} {m : MethodId} {below : List Frame} {meth : Method} {c : Code} {H : Heap} {locs : List Loc} {cells slots b L : Nat} {xs : Nat → Int32} {ls : Array Slot} {Q : State → Prop} {D : va_G} {cI cZ cK cL : ClassId} {ad am : Nat → Nat} {ou i : Nat} (C : lw_K l p s m c b L xs D cI cZ cK cL) (hi : 5 * i + 5 ≤ L) (hI : lw_I D cI cZ cK cL ad am ou s.heap.size i H) (hl : lv_has ls 7 (lw_L b (ad 11) (am 0) ou i)) (hf : cells + 13 ≤ room_1.cells ∧ slots + 700 ≤ room_1.slots) (hS : va_S (fun q => s.heap.size ≤ q) s.heap H locs)
    (kk : ∀ (H1 : Heap) (locs1 : List Loc) (ls1 : Array Slot), lw_I D cI cZ cK cL ad am ou s.heap.size (i + 1) H1 → lv_has ls1 7 (lw_L b (ad 11) (am 0) ou i) → va_S (fun q => s.heap.size ≤ q) s.heap H1 locs1 → W p l e room_1 s m #[Value.ref b] below meth c H1 locs1 (cells + 13) (slots + 700) Q (F0 m 901 ls1 [])) : W p l e room_1 s m #[Value.ref b] below meth c H locs cells slots Q (F0 m 808 ls []) := by
  have hx := C.1.1.1
  have hb := C.1.1.2.1
  have hst := C.2.1.1
  have hL9 := C.2.2.2.2.2.2.2
  obtain ⟨hf1, hf2⟩ := hf
  obtain ⟨co, N, t, S, kt, th, wm, f, hL, hm, hMS, hN, hIv, hIk⟩ := hI
  refine lv_aload_n hx hb (show decode code 808 = .ok (.aload_n 1, 1) by decide +kernel) rfl (lv_at hl 1 rfl) ?_
  refine o_rd (i := i) (jj := 1) C hS 1 0 4 hl rfl rfl (by omega) (by decide) (show o_dec 809 1 from ⟨by decide +kernel, by decide +kernel, by decide +kernel, by decide +kernel, by decide +kernel⟩) ?_
  refine o_rd (i := i) (jj := 2) C hS 2 0 4 hl rfl rfl (by omega) (by decide) (show o_dec 815 2 from ⟨by decide +kernel, by decide +kernel, by decide +kernel, by decide +kernel, by decide +kernel⟩) ?_
  refine lv_aload_n hx hb (show decode code 821 = .ok (.aload_n 3, 1) by decide +kernel) rfl (lv_at hl 3 rfl) ?_
  refine o_call (as := [.ref (ad 11), .int (xs (5 * i + 1)), .int (xs (5 * i + 2)), .ref ou]) (rest := []) C 4 (lx_proposer l hst D cI cZ cK cL ad ou co s.heap.size (S t) (fun k => S (kt k)) f H.size (xs (5 * i + 1)) (xs (5 * i + 2)) hIv (by omega)) cd_La_proposer ll_proposer ls_proposer in_La0 rfl rfl ⟨by decide, by decide, by decide +kernel⟩ ⟨by decide, by decide⟩ rfl hl.1 (Nat.le_of_ble_eq_true rfl) (show decode code 822 = .ok (.invokestatic 99, 3) by decide +kernel) ⟨by omega, by omega⟩ hL hm hS (fun co1 f1 H1 locs1 hL1 hZ hm1 hS1 => ?_)
  refine lv_istore hx hb (show decode code 825 = .ok (.istore 5, 2) by decide +kernel) hl (by decide) (lv' := (5, .int (nI (q_proposer (S t) (xs (5 * i + 1)) (xs (5 * i + 2))).1)) :: (lw_L b (ad 11) (am 0) ou i)) rfl (fun ls1 hl1 => ?_)
  refine lv_aload_n hx hb (show decode code 827 = .ok (.aload_n 2, 1) by decide +kernel) rfl (lv_at hl1 3 rfl) ?_
  refine o_rd (i := i) (jj := 1) C hS1 1 1 5 hl1 rfl rfl (by omega) (by decide) (show o_dec 828 1 from ⟨by decide +kernel, by decide +kernel, by decide +kernel, by decide +kernel, by decide +kernel⟩) ?_
  refine o_rd (i := i) (jj := 2) C hS1 2 1 5 hl1 rfl rfl (by omega) (by decide) (show o_dec 834 2 from ⟨by decide +kernel, by decide +kernel, by decide +kernel, by decide +kernel, by decide +kernel⟩) ?_
  refine o_mod (as := [.inl (xs (5 * i + 1)), .inl (xs (5 * i + 2))]) (rest := []) (K := fun r w9 => r = some (.inl (q_proposer (S t) (xs (5 * i + 1)) (xs (5 * i + 2))).2.1) ∧ MR N t S kt (q_proposer (S t) (xs (5 * i + 1)) (xs (5 * i + 2))) w9) C 2 x_Mproposer cd_Mo_proposer lm_proposer no_proposer so_proposer in_Mo0 ⟨by decide, by decide, by decide +kernel⟩ ⟨by decide, by decide⟩ rfl hl1.1 (Nat.le_of_ble_eq_true rfl) (show decode code 840 = .ok (.invokevirtual 101, 3) by decide +kernel) ⟨by omega, by omega⟩ hMS ⟨N, t, S, kt, th, (xs (5 * i + 1)), (xs (5 * i + 2)), rfl, hMS, by omega, fun w9 h9 => ⟨rfl, h9⟩⟩ hL1 hm1 hS1 (fun r w2 H2 locs2 hK2 hL2 hm2 hS2 => ?_)
  obtain ⟨rfl, hMR⟩ := hK2
  obtain ⟨N', t', S', hMS', hN', ht', hk'⟩ := MR_to hMS hMR
  refine W.eq (g2 := F0 m 843 ls1 [.int (q_proposer (S t) (xs (5 * i + 1)) (xs (5 * i + 2))).2.1]) rfl ?_
  refine lv_istore hx hb (show decode code 843 = .ok (.istore 6, 2) by decide +kernel) hl1 (by decide) (lv' := (6, .int (q_proposer (S t) (xs (5 * i + 1)) (xs (5 * i + 2))).2.1) :: (5, .int (nI (q_proposer (S t) (xs (5 * i + 1)) (xs (5 * i + 2))).1)) :: (lw_L b (ad 11) (am 0) ou i)) rfl (fun ls2 hl2 => ?_)
  refine o_tail C hl2 (show o_dt 845 from ⟨by decide +kernel, by decide +kernel, by decide +kernel, by decide +kernel, by decide +kernel, by decide +kernel, by decide +kernel, by decide +kernel, by decide +kernel, by decide +kernel, by decide +kernel, by decide +kernel, by decide +kernel, by decide +kernel⟩) ⟨by omega, by omega⟩ (fun h0 => hZ (nI_z qb_proposer h0)) hMS' hL2 hm2 hS2 (fun H3 locs3 hL3 hm3 hS3 => ?_)
  refine o_widen (k := cells + 13) (n := slots + 700) (by omega) (by omega) ?_
  exact kk H3 locs3 ls2 ⟨co1, N', t', S', kt, _, _, f1, LC_ks hL3 ht' (fun k hk8 => hk' k hk8), hm3, hMS', by omega, by rw [ht', qs_proposer]; exact IV_up hIv (by omega), fun k hk8 => by rw [hk' k hk8]; exact IV_up (hIk k hk8) (by omega)⟩ (lv_sub hl2 [2, 3, 4, 5, 6] rfl) hS3
set_option maxHeartbeats 16000000 in
set_option maxRecDepth 20000 in
theorem lw_c11 {p : Program} {l : Launch} {e : Env} {s : State} {m : MethodId} {below : List Frame} {meth : Method} {c : Code} {H : Heap} {locs : List Loc} {cells slots b L : Nat} {xs : Nat → Int32} {ls : Array Slot} {Q : State → Prop} {D : va_G} {cI cZ cK cL : ClassId} {ad am : Nat → Nat} {ou i : Nat} (C : lw_K l p s m c b L xs D cI cZ cK cL) (hi : 5 * i + 5 ≤ L) (hI : lw_I D cI cZ cK cL ad am ou s.heap.size i H) (hl : lv_has ls 7 (lw_L b (ad 11) (am 0) ou i)) (hf : cells + 13 ≤ room_1.cells ∧ slots + 700 ≤ room_1.slots) (hS : va_S (fun q => s.heap.size ≤ q) s.heap H locs)
    (kk : ∀ (H1 : Heap) (locs1 : List Loc) (ls1 : Array Slot), lw_I D cI cZ cK cL ad am ou s.heap.size (i + 1) H1 → lv_has ls1 7 (lw_L b (ad 11) (am 0) ou i) → va_S (fun q => s.heap.size ≤ q) s.heap H1 locs1 → W p l e room_1 s m #[Value.ref b] below meth c H1 locs1 (cells + 13) (slots + 700) Q (F0 m 901 ls1 [])) : W p l e room_1 s m #[Value.ref b] below meth c H locs cells slots Q (F0 m 876 ls []) := by
  have hx := C.1.1.1
  have hb := C.1.1.2.1
  have hst := C.2.1.1
  have hL9 := C.2.2.2.2.2.2.2
  obtain ⟨hf1, hf2⟩ := hf
  obtain ⟨co, N, t, S, kt, th, wm, f, hL, hm, hMS, hN, hIv, hIk⟩ := hI
  have hrs : rs (S t) (q_share (S t) (xs (5 * i + 1))) = S t := rs_n rfl
  obtain ⟨w, g, hw0, o1, o2, o3, o4⟩ := hL
  have G := C.1
  refine lv_aload_n hx hb (show decode code 876 = .ok (.aload_n 1, 1) by decide +kernel) rfl (lv_at hl 1 rfl) ?_
  refine o_rd (i := i) (jj := 1) C hS 1 0 4 hl rfl rfl (by omega) (by decide) (show o_dec 877 1 from ⟨by decide +kernel, by decide +kernel, by decide +kernel, by decide +kernel, by decide +kernel⟩) ?_
  refine m_goVX (y := y_Le_share) (bytes := c_Le_share) (maxL := 4) (ret := some .int) (j := 102) (ci := 3) (rmY := rmX) (ct := cx_share) (Cn := R_Le) (Tn := F_Le) (Nn := 2) (a := 11) (as := [.inl (xs (5 * i + 1))]) (w := w) (fs := [.inr 0, .inr 12]) (rest := []) (K := fun r w' => r = some (.inl (q_share (S t) (xs (5 * i + 1))).2.1) ∧ RCw (S t) [] w') (X := fun kd w' => False) 1 G C.2.1 x_share cd_Le_share lk_share im_share se_share in_Le0 rfl rfl rfl (RCw_at hw0) ⟨by decide, by decide, by decide +kernel⟩ ⟨by decide, by decide⟩ rfl hl.1 (Nat.le_of_ble_eq_true rfl) (show decode code 883 = .ok (.invokevirtual 102, 3) by decide +kernel) ⟨by omega, by omega⟩ (cy_share hw0 hIv (by omega) (fun _ w9 h9 => ⟨rfl, hrs ▸ h9⟩)) o1.1 (o1.2.weaken (fun _ _ _ h => h.1)) hS (fun q h => h) (fun kd w' ce q9 H1 locs1 hl1 hX1 => hX1.elim) (fun r w' H1 locs1 hl1 hK1 hP1 hfr1 hS1 => ?_)
  obtain ⟨rfl, hRC1⟩ := hK1
  have hL1 : LC D cI cZ cK cL ad ou co s.heap.size (S t) (fun k => S (kt k)) f H1 := LC_up o1 o2 o3 o4 hRC1 hl1 hP1 hfr1
  have hm1 := hm.keep (o_far (o1.ne (by omega)) hfr1)
  refine W.eq (g2 := F0 m 886 ls [.int (q_share (S t) (xs (5 * i + 1))).2.1]) rfl ?_
  refine lv_aload_n hx hb (show decode code 886 = .ok (.aload_n 2, 1) by decide +kernel) rfl (lv_at hl 2 rfl) ?_
  refine o_rd (i := i) (jj := 1) C hS1 1 0 4 hl rfl rfl (by omega) (by decide) (show o_dec 887 1 from ⟨by decide +kernel, by decide +kernel, by decide +kernel, by decide +kernel, by decide +kernel⟩) ?_
  refine o_mod (as := [.inl (xs (5 * i + 1))]) (rest := [.int (q_share (S t) (xs (5 * i + 1))).2.1]) (K := fun r w9 => r = some (.inl (q_share (S t) (xs (5 * i + 1))).2.1) ∧ MR N t S kt (q_share (S t) (xs (5 * i + 1))) w9) C 1 x_Mshare cd_Mo_share lm_share no_share so_share in_Mo0 ⟨by decide, by decide, by decide +kernel⟩ ⟨by decide, by decide⟩ rfl hl.1 (Nat.le_of_ble_eq_true rfl) (show decode code 893 = .ok (.invokevirtual 105, 3) by decide +kernel) ⟨by omega, by omega⟩ hMS ⟨N, t, S, kt, th, (xs (5 * i + 1)), rfl, hMS, by omega, fun w9 h9 => ⟨rfl, h9⟩⟩ hL1 hm1 hS1 (fun r w2 H2 locs2 hK2 hL2 hm2 hS2 => ?_)
  obtain ⟨rfl, hMR⟩ := hK2
  refine W.eq (g2 := F0 m 896 ls [.int (q_share (S t) (xs (5 * i + 1))).2.1, .int (q_share (S t) (xs (5 * i + 1))).2.1]) rfl ?_
  refine lv_icmp_eq hx hb (tgt := 901) (show decode code 896 = .ok (.if_icmp .eq 5, 3) by decide +kernel) rfl (fun _ => ?_) (fun h => absurd rfl h)
  refine o_widen (k := cells + 13) (n := slots + 700) (by omega) (by omega) ?_
  exact kk H2 locs2 ls ⟨co, N, t, S, kt, _, _, f, hL2, hm2, hMR, by omega, IV_up hIv (by omega), fun k hk8 => IV_up (hIk k hk8) (by omega)⟩ hl hS2
