/-! The law: reading the script, calling the wrappers and the model, comparing. -/
theorem nI_ad (a b : Nat) : nI a + nI b = nI (a + b) := by
  unfold nI
  first
  | exact (Int32.ofNat_add a b).symm
  | simp
theorem nI_inj8 {a b : Nat} (ha : a < 8) (hb : b < 8) (h : nI a = nI b) : a = b := by
  have h1 := congrArg Int32.toNatClampNeg h
  rw [nI_clamp (by omega), nI_clamp (by omega)] at h1
  exact h1
theorem up_kt {S : Nat → aS} {kt : Nat → Nat} {k t j : Nat} : S (if j = k then t else kt j) = va_up (fun k => S (kt k)) k (S t) j := by
  unfold va_up
  split
  · rfl
  · rfl
theorem lg_cmp_self (x : Int64) : lg_cmp x x = 0 := by
  unfold lg_cmp
  rw [if_neg (by simp), if_pos rfl]
theorem LC_keep {D : va_G} {cI cZ cK cL : ClassId} {ad : Nat → Nat} {ou : Nat} {co : Nat → Nat} {lo : Nat} {s0 : aS} {ks : Nat → aS} {f : Nat → Int64} {H H1 : Heap} (h : LC D cI cZ cK cL ad ou co lo s0 ks f H) (hk : ∀ j, j ≠ 4 → ∀ q : Nat, q < H.size → co q = j → H1[q]? = H[q]?) : LC D cI cZ cK cL ad ou co lo s0 ks f H1 := by
  obtain ⟨w, g, hw, o1, o2, o3, o4⟩ := h
  exact ⟨w, g, hw, o1.keep (hk 1 (by omega)), o2.keep (hk 2 (by omega)), o3.keep (hk 3 (by omega)), o4.keep (fun j hj => hk j (by omega))⟩
theorem LC_ks {D : va_G} {cI cZ cK cL : ClassId} {ad : Nat → Nat} {ou : Nat} {co : Nat → Nat} {lo : Nat} {s0 s1 : aS} {ks ks1 : Nat → aS} {f : Nat → Int64} {H : Heap} (h : LC D cI cZ cK cL ad ou co lo s0 ks f H) (h0 : s1 = s0) (hk : ∀ k, k < 8 → ks1 k = ks k) : LC D cI cZ cK cL ad ou co lo s1 ks1 f H := by
  subst h0
  obtain ⟨w, g, hw, o1, o2, o3, o4⟩ := h
  exact ⟨w, g, hw, o1, o2, o3, fun k hk8 => by rw [hk k hk8]; exact o4 k hk8⟩
theorem MS_at {N t : Nat} {S : Nat → aS} {kt : Nat → Nat} {th : Int32} {w : mW} (h : MS N t S kt th w) : ∃ fs, w[0]? = some (.inr (4, fs)) := by
  obtain ⟨_, _, _, _, _, _, _, _, _, _, _, _, _, _, _, _, _, _, _, _, _, _, rfl, _⟩ := h
  exact ⟨_, rfl⟩
theorem MS_kt {N t : Nat} {S : Nat → aS} {kt : Nat → Nat} {th : Int32} {w : mW} (h : MS N t S kt th w) : ∀ k, k < 8 → kt k < N := by
  obtain ⟨_, _, _, _, _, _, _, _, _, _, _, _, _, _, _, _, _, _, _, _, _, _, _, _, _, _, _, hk⟩ := h
  exact fun k hk8 => (hk k hk8).2
theorem MR_to {N t : Nat} {S : Nat → aS} {kt : Nat → Nat} {th : Int32} {w w' : mW} {q : qR} (h : MS N t S kt th w) (hR : MR N t S kt q w') : ∃ N' t' S', MS N' t' S' kt (nI q.1) w' ∧ N' ≤ N + 1 ∧ S' t' = rs (S t) q ∧ ∀ k, k < 8 → S' (kt k) = S (kt k) := by
  obtain ⟨c0, x0, o0⟩ := q
  cases o0 with
  | none => exact ⟨N, t, S, hR, by omega, rfl, fun _ _ => rfl⟩
  | some o =>
    refine ⟨N + 1, N, updS S N (a_step o (S t)), hR, Nat.le_refl _, ?_, fun k hk => ?_⟩
    · show updS S N (a_step o (S t)) N = a_step o (S t)
      unfold updS
      rw [if_pos rfl]
    · have := MS_kt h k hk
      unfold updS
      rw [if_neg (by omega)]
def lw_K (l : Launch) (p : Program) (s : State) (m : MethodId) (c : Code) (b L : Nat) (xs : Nat → Int32) (D : va_G) (cI cZ cK cL : ClassId) : Prop :=
  g_Cx p room_1 s m #[Value.ref b] c code R_La (.initialized R_La) D cI cZ 7 ∧ g_X l s (fun q => s.heap.size ≤ q) ∧ va_K D m_cl (z_ty cI cZ ++ [(cK, .object R_St), (cL, .long)]) s ∧ va_Nc (exn 1) (exn 0) s ∧ va_Nc (exn 0) (exn 2) s ∧ va_X b L xs s s.heap ∧ b < s.heap.size ∧ L ≤ 2560
def o_dec (pc : Nat) (jj : Int) : Prop := decode code pc = .ok (.aload_n 0, 1) ∧ decode code (pc + 1) = .ok (.iload 4, 2) ∧ decode code (pc + 1 + 2) = .ok (.iconst jj, 1) ∧ decode code (pc + 1 + 2 + 1) = .ok (.iadd, 1) ∧ decode code (pc + 1 + 2 + 1 + 1) = .ok (.iaload, 1)
def lw_I (D : va_G) (cI cZ cK cL : ClassId) (ad am : Nat → Nat) (ou lo i : Nat) (H : Heap) : Prop :=
  ∃ co N t S kt th wm f, LC D cI cZ cK cL ad ou co lo (S t) (fun k => S (kt k)) f H ∧ o_W D co lo 4 (m_ws cI cZ am wm 0) H ∧ MS N t S kt th wm ∧ N ≤ i + 1 ∧ IV i (S t) ∧ ∀ k, k < 8 → IV i (S (kt k))
abbrev lw_L (b a1 a2 ou i : Nat) : List (Nat × Value) := [(0, .ref b), (1, .ref a1), (2, .ref a2), (3, .ref ou), (4, .int (nI (5 * i)))]
section LAW
variable {p : Program} {l : Launch} {e : Env} {s : State} {m : MethodId} {below : List Frame} {meth : Method} {c : Code} {H : Heap} {locs : List Loc} {cells slots pc b L : Nat} {xs : Nat → Int32} {ls : Array Slot} {Q : State → Prop} {D : va_G} {cI cZ cK cL : ClassId} {ad am : Nat → Nat} {ou : Nat} {rest : List Value} {lv : List (Nat × Value)}
theorem o_rd (C : lw_K l p s m c b L xs D cI cZ cK cL) (hS : va_S (fun q => s.heap.size ≤ q) s.heap H locs) {i : Nat} (j : Nat) {jj : Int} (k0 k4 : Nat) (hl : lv_has ls 7 lv) (h0 : lv[k0]? = some (0, .ref b)) (h4 : lv[k4]? = some (4, .int (nI (5 * i)))) (hj : 5 * i + j < L) (hjj : Int32.ofInt jj = nI j) (hd : o_dec pc jj)
    (kk : W p l e room_1 s m #[Value.ref b] below meth c H locs cells slots Q (F0 m (pc + 6) ls (.int (xs (5 * i + j)) :: rest))) : W p l e room_1 s m #[Value.ref b] below meth c H locs cells slots Q (F0 m pc ls rest) := by
  obtain ⟨G, GX, hK, hn1, hn2, hX, hbl, hL9⟩ := C
  have hx := G.1.1
  have hb := G.1.2.1
  refine lv_aload_n hx hb hd.1 rfl (lv_at hl k0 h0) ?_
  refine lv_iload hx hb hd.2.1 (lv_at hl k4 h4) ?_
  refine lv_iconst (v := nI j) hx hb hd.2.2.1 hjj ?_
  refine lv_iadd hx hb hd.2.2.2.1 ?_
  rw [nI_ad]
  refine va_sld hx hb hX hbl (Nat.not_le.mpr hbl) hS (nI_in hj (by omega)) hd.2.2.2.2 ?_
  rw [nI_clamp (by omega)]
  exact kk
theorem o_call (C : lw_K l p s m c b L xs D cI cZ cK cL) {y : MethodName} {bytes : ByteArray} {maxL j mc ms cd : Nat} {hh : List (Nat × Nat × Nat × Nat)} {rmY : Room} {as : List Value} {s0 s1 : aS} {ks ks1 : Nat → aS} {f : Nat → Int64} {co : Nat → Nat} {Z : (Nat → Int64) → Prop} {wm : mW} (n : Nat)
    (hM : vx_Met l y (.codeWith y bytes maxL (some .int) hh :: gw) rmY (l_pre D cI cZ cK cL ad ou co s.heap.size s0 ks f H.size as) (l_post D cI cZ cK cL ad ou co s.heap.size (l_A co s.heap.size H.size) cd s1 ks1 Z) (fun _ _ _ => False) mc ms (l_A co s.heap.size H.size))
    (hcode : Jvm.Cond.codeWith y bytes maxL (some .int) hh ∈ gw) (hlink : Jvm.Cond.methodLink R_La j y ∈ gw) (hst : Jvm.Cond.static y ∈ gw) (hini : Jvm.Cond.initialized y.cls ∈ gw) (hrc : rmY.cells = mc) (hrs : rmY.slots = ms)
    (hd : y.cls ≠ "java/lang/invoke/MethodHandle" ∧ y.cls ≠ "java/lang/invoke/VarHandle" ∧ (parseMethodDescriptor y.desc).map (fun d => d.parameters.length) = some n) (hR : rmY.frames + 1 ≤ room_1.frames ∧ 8 + (maxL + 11) + rmY.locals ≤ room_1.locals) (hn : as.length = n) (hls : ls.size = 7) (hr8 : (rest.map fun v => v.category).sum ≤ 8) (hdg : decode code pc = .ok (.invokestatic j, 3)) (hf : cells + mc ≤ room_1.cells ∧ slots + ms ≤ room_1.slots)
    (hL : LC D cI cZ cK cL ad ou co s.heap.size s0 ks f H) (hm : o_W D co s.heap.size 4 (m_ws cI cZ am wm 0) H) (hS : va_S (fun q => s.heap.size ≤ q) s.heap H locs)
    (kk : ∀ (co' : Nat → Nat) (f' : Nat → Int64) (H1 : Heap) (locs1 : List Loc), LC D cI cZ cK cL ad ou co' s.heap.size s1 ks1 f' H1 → Z f' → o_W D co' s.heap.size 4 (m_ws cI cZ am wm 0) H1 → va_S (fun q => s.heap.size ≤ q) s.heap H1 locs1 → W p l e room_1 s m #[Value.ref b] below meth c H1 locs1 (cells + mc) (slots + ms) Q (F0 m (pc + 3) ls (.int (nI cd) :: rest))) :
    W p l e room_1 s m #[Value.ref b] below meth c H locs cells slots Q (F0 m pc ls (as.reverse ++ rest)) := by
  obtain ⟨G, GX, hK, hn1, hn2, hX, hbl, hL9⟩ := C
  have hw : ∀ x ∈ gw, x.before #[Value.ref b] s = true := fun x h => G.1.2.2.2.2 x (List.mem_cons_of_mem _ h)
  have cw : vx_CSW room_1 s #[Value.ref b] R_La j y bytes maxL (some .int) hh (.codeWith y bytes maxL (some .int) hh :: gw) rmY mc ms n := ⟨⟨hrc, hrs, hR.1, hR.2, pay_in G.1.2.2.2.2 (m_good_in gw_ok hcode), List.mem_cons_self⟩, hw _ hcode, hw _ hini, ⟨hd.1, hd.2.1⟩, fun sig h => by have h2 := hd.2.2; rw [h] at h2; exact (Option.some.inj h2).symm, hw _ hlink, hw _ hst⟩
  have hAA : ∀ q, l_A co s.heap.size H.size q → s.heap.size ≤ q := fun q h => h.elim (fun h => h.1) (fun h => Nat.le_trans hS.1 h)
  have hpre : ∀ U : State, U.heap = H → s.WarmedH U.vm → l_pre D cI cZ cK cL ad ou co s.heap.size s0 ks f H.size as as.toArray U := fun U hU hW =>
    ⟨rfl, by rw [hU], by rw [hU]; exact hL, va_K.moved hW.alike hK, fun x hx' => m_isX_warm (xw_ok x hx') hW (GX.2.1 x hx'), by rw [hU]; exact vx_Zq.moved hW.alike ((GX.2.2.1.kept hS.2.1).narrow hAA), by rw [hU]; exact vx_Zq.moved hW.alike ((GX.2.2.2.kept hS.2.1).narrow hAA), va_Nc.moved hW.alike hn1, va_Nc.moved hW.alike hn2⟩
  refine o_goesX (A1 := l_A co s.heap.size H.size) (vx_runSX (As := as) (rest := rest) G.1 hM cw ⟨l_blind, hpre⟩ rfl hn hls rfl (lv_room hr8) hdg hf) (fun st o t h => h.2) hS (fun q _ h => hAA q h) hAA (fun v st t H1 locs1 hst9 ht hq hf1 hS1 => ?_)
  obtain ⟨⟨co', f', k, hv, rfl, hco, hLC, hZ⟩, -⟩ := hq
  cases hv
  rw [ht] at hLC
  rw [hst9] at hco
  refine kk co' f' H1 locs1 hLC hZ ((hm.re hco).keep (fun q hq hc => hf1 q hq (fun z => ?_))) hS1
  rcases z with z | z
  · exact z.2 ((hco q hq).symm.trans hc)
  · omega
theorem o_mod (C : lw_K l p s m c b L xs D cI cZ cK cL) {y : MethodName} {bytes : ByteArray} {maxL j : Nat} {ret : Option FieldType} {ct : mCT} {as : List mV} {s0 : aS} {ks : Nat → aS} {f : Nat → Int64} {co : Nat → Nat} {N t : Nat} {S : Nat → aS} {kt : Nat → Nat} {th : Int32} {wm : mW} {K : Option mV → mW → Prop} (n : Nat)
    (hM : m_Met false y (.code y bytes maxL ret :: gw) nw (rmk 4) ct) (hcode : Jvm.Cond.code y bytes maxL ret ∈ gw) (hlink : Jvm.Cond.methodLink R_La j y ∈ gw) (him : Jvm.Cond.instanceMethod y ∈ gw) (hsel : Jvm.Cond.selects R_Mo y y ∈ gw) (hini : Jvm.Cond.initialized y.cls ∈ gw)
    (hd : y.cls ≠ "java/lang/invoke/MethodHandle" ∧ y.cls ≠ "java/lang/invoke/VarHandle" ∧ (parseMethodDescriptor y.desc).map (fun d => d.parameters.length) = some n) (hR : (rmk 4).frames + 1 ≤ room_1.frames ∧ 8 + (maxL + 11) + (rmk 4).locals ≤ room_1.locals) (hn : as.length = n) (hls : ls.size = 7) (hr8 : (rest.map fun v => v.category).sum ≤ 8) (hdg : decode code pc = .ok (.invokevirtual j, 3)) (hf : cells ≤ room_1.cells ∧ slots ≤ room_1.slots)
    (hMS : MS N t S kt th wm) (hct : ct (.inr 0 :: as) wm K) (hL : LC D cI cZ cK cL ad ou co s.heap.size s0 ks f H) (hm : o_W D co s.heap.size 4 (m_ws cI cZ am wm 0) H) (hS : va_S (fun q => s.heap.size ≤ q) s.heap H locs)
    (kk : ∀ (r : Option mV) (w' : mW) (H1 : Heap) (locs1 : List Loc), K r w' → LC D cI cZ cK cL ad ou co s.heap.size s0 ks f H1 → o_W D co s.heap.size 4 (m_ws cI cZ am w' 0) H1 → va_S (fun q => s.heap.size ≤ q) s.heap H1 locs1 → W p l e room_1 s m #[Value.ref b] below meth c H1 locs1 cells slots Q (F0 m (pc + 3) ls ((r.map (m_v am)).toList ++ rest))) :
    W p l e room_1 s m #[Value.ref b] below meth c H locs cells slots Q (F0 m pc ls ((as.map (m_v am)).reverse ++ .ref (am 0) :: rest)) := by
  obtain ⟨G, GX, hK, hn1, hn2, hX, hbl, hL9⟩ := C
  obtain ⟨fs, hwa⟩ := MS_at hMS
  refine m_goV (pb := false) (ci := 4) (Cn := R_Mo) (Tn := F_Mo) (Nn := 23) (a := 0) (as := as) (w := wm) (fs := fs) (rest := rest) (K := K) n G hM hcode hlink him hsel hini rfl rfl rfl hwa hd hR hn hls hr8 hdg hf hct hm.1 (hm.2.weaken (fun _ _ _ h => h.1)) hS (fun q h => h) (fun r w' H1 locs1 hl1 hK1 hP1 hf1 hS1 => ?_)
  exact kk r w' H1 locs1 hK1 (LC_keep hL (fun j hj => o_far (hm.ne (fun e => hj e.symm)) hf1)) ⟨hP1, m_D_as hm.2 hl1⟩ hS1
theorem o_thr (C : lw_K l p s m c b L xs D cI cZ cK cL) {s0 : aS} {ks : Nat → aS} {f : Nat → Int64} {co : Nat → Nat} {N t : Nat} {S : Nat → aS} {kt : Nat → Nat} {th : Int32} {wm : mW} (hls : ls.size = 7) (hdg : decode code pc = .ok (.invokevirtual 64, 3)) (hf : cells ≤ room_1.cells ∧ slots ≤ room_1.slots)
    (hMS : MS N t S kt th wm) (hL : LC D cI cZ cK cL ad ou co s.heap.size s0 ks f H) (hm : o_W D co s.heap.size 4 (m_ws cI cZ am wm 0) H) (hS : va_S (fun q => s.heap.size ≤ q) s.heap H locs)
    (kk : ∀ (H1 : Heap) (locs1 : List Loc), LC D cI cZ cK cL ad ou co s.heap.size s0 ks f H1 → o_W D co s.heap.size 4 (m_ws cI cZ am wm 0) H1 → va_S (fun q => s.heap.size ≤ q) s.heap H1 locs1 → W p l e room_1 s m #[Value.ref b] below meth c H1 locs1 cells slots Q (F0 m (pc + 3) ls [.int th])) :
    W p l e room_1 s m #[Value.ref b] below meth c H locs cells slots Q (F0 m pc ls [.ref (am 0)]) := by
  refine o_mod (as := []) (rest := []) (K := fun r w' => r = some (.inl th) ∧ w' = wm) (j := 64) (maxL := 1) (ret := some .int) C 0 x_Mthrown cd_Mo_thrown lm_thrown no_thrown so_thrown in_Mo0 ⟨by decide, by decide, by decide +kernel⟩ ⟨by decide, by decide⟩ rfl hls (Nat.le_of_ble_eq_true rfl) hdg hf hMS ⟨N, t, S, kt, th, rfl, hMS, rfl, rfl⟩ hL hm hS (fun r w' H1 locs1 hK1 hL1 hm1 hS1 => ?_)
  obtain ⟨rfl, rfl⟩ := hK1
  exact kk H1 locs1 hL1 hm1 hS1
def o_dt (pc : Nat) : Prop := decode code pc = .ok (.aload_n 2, 1) ∧ decode code (pc + 1) = .ok (.invokevirtual 64, 3) ∧ decode code (pc + 4) = .ok (.iload 5, 2) ∧ decode code (pc + 6) = .ok (.if_icmp .eq 5, 3) ∧ decode code (pc + 11) = .ok (.iload 5, 2) ∧ decode code (pc + 13) = .ok (.ifCond .ne 15, 3) ∧ decode code (pc + 16) = .ok (.aload_n 3, 1) ∧ decode code (pc + 17) = .ok (.iconst 0, 1) ∧ decode code (pc + 18) = .ok (.laload, 1) ∧ decode code (pc + 19) = .ok (.iload 6, 2) ∧ decode code (pc + 21) = .ok (.i2l, 1) ∧ decode code (pc + 22) = .ok (.lcmp, 1) ∧ decode code (pc + 23) = .ok (.ifCond .eq 5, 3) ∧ decode code (pc + 28) = .ok (.goto (901 - ((pc : Int) + 28)), 3)
set_option maxHeartbeats 4000000 in
theorem o_tail (C : lw_K l p s m c b L xs D cI cZ cK cL) {s0 : aS} {ks : Nat → aS} {f : Nat → Int64} {co : Nat → Nat} {N t : Nat} {S : Nat → aS} {kt : Nat → Nat} {k x : Int32} {wm : mW} {i : Nat} (hl : lv_has ls 7 ((6, .int x) :: (5, .int k) :: lw_L b (ad 11) (am 0) ou i)) (hd : o_dt pc) (hf : cells ≤ room_1.cells ∧ slots ≤ room_1.slots) (hk : k = 0 → f 0 = x.toInt64)
    (hMS : MS N t S kt k wm) (hL : LC D cI cZ cK cL ad ou co s.heap.size s0 ks f H) (hm : o_W D co s.heap.size 4 (m_ws cI cZ am wm 0) H) (hS : va_S (fun q => s.heap.size ≤ q) s.heap H locs)
    (kk : ∀ (H1 : Heap) (locs1 : List Loc), LC D cI cZ cK cL ad ou co s.heap.size s0 ks f H1 → o_W D co s.heap.size 4 (m_ws cI cZ am wm 0) H1 → va_S (fun q => s.heap.size ≤ q) s.heap H1 locs1 → W p l e room_1 s m #[Value.ref b] below meth c H1 locs1 cells slots Q (F0 m 901 ls [])) :
    W p l e room_1 s m #[Value.ref b] below meth c H locs cells slots Q (F0 m pc ls []) := by
  have hx := C.1.1.1
  have hb := C.1.1.2.1
  have hK := C.2.2.1
  obtain ⟨d0, d1, d4, d6, d11, d13, d16, d17, d18, d19, d21, d22, d23, d28⟩ := hd
  refine lv_aload_n hx hb d0 rfl (lv_at hl 4 rfl) ?_
  refine o_thr C hl.1 d1 hf hMS hL hm hS (fun H1 locs1 hL1 hm1 hS1 => ?_)
  refine lv_iload hx hb d4 (lv_at hl 1 rfl) ?_
  refine lv_icmp_eq hx hb (tgt := pc + 11) d6 (by omega) (fun _ => ?_) (fun h => absurd rfl h)
  refine lv_iload hx hb d11 (lv_at hl 1 rfl) ?_
  have fin : W p l e room_1 s m #[Value.ref b] below meth c H1 locs1 cells slots Q (F0 m (pc + 28) ls []) := lv_goto hx hb (tgt := 901) d28 (by omega) (kk H1 locs1 hL1 hm1 hS1)
  refine lv_if_ne hx hb (tgt := pc + 28) d13 (by omega) (fun _ => fin) (fun h0 => ?_)
  refine lv_aload_n hx hb d16 rfl (lv_at hl 5 rfl) ?_
  refine lv_iconst (v := 0) hx hb d17 rfl ?_
  obtain ⟨w, g, hw, o1, o2, o3, o4⟩ := id hL1
  refine va_lald hx hb hK o3.1 0 3 rfl rfl (i := 0) (by unfold vp_in; decide) d18 ?_
  refine lv_iload hx hb d19 (lv_at hl 0 rfl) ?_
  refine lv_i2l hx hb d21 rfl ?_
  refine W.lcmp hx hb d22 ?_
  rw [show (0 : Int32).toNatClampNeg = 0 by decide, hk h0, lg_cmp_self]
  exact lv_if_eq hx hb (tgt := pc + 28) d23 (by omega) (fun _ => fin) (fun h => absurd rfl h)
end LAW
