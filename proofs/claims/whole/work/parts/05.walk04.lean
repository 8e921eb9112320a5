theorem cdX4_greatestAnew : yX4_greatestAnew.cls = RX4 ∧ yX4_greatestAnew.cls ≠ "java/lang/invoke/MethodHandle" ∧ yX4_greatestAnew.cls ≠ "java/lang/invoke/VarHandle" ∧ (parseMethodDescriptor yX4_greatestAnew.desc).map (fun d => d.parameters.length) = some 1 := by decide +kernel
section
variable {p : Program} {l : Launch} {e : Env} {s : State} {m : MethodId} {args : Array Value} {below : List Frame} {meth : Method} {c : Code} {E : wE}
set_option maxRecDepth 100000 in
set_option maxHeartbeats 4000000 in
theorem pX4_greatestAnew_3_b (B : wB E p s m args meth c cX4_greatestAnew 3 RX4 (some .int)) {M : wMem} {ky1 : Nat} {y2 : Int32}  {rec3 : (Int32 × wMem → Option (Int32 × wMem))} {res : Int32 × wMem} (hky1 : wkd ky1 = 4)  (hrec3 : ∀ (y2' : Int32) (M' : wMem), rec3 (y2', M') = some res → ∀ (H : Heap) (locs : List Loc) (ls : Array Slot), wH E M' H → va_S (wA E) s.heap H locs → lv_has ls 3 [(0, .ref (wad E 31)), (1, .ref (wad E ky1)), (2, .int y2')] → W p l e ({ frames := 5, cells := 0, slots := 0, locals := 112 } : Room) s m args below meth c H locs 0 0 (MQ below (wQ E (some (.int res.1)) res.2) args s 0 0 (wA E)) (F0 m 3 ls [])) (hf : fX4_greatestAnew_3_b M  rec3 ky1 y2 = some res) {H : Heap} {locs : List Loc} {ls : Array Slot} (hW : wH E M H) (hS : va_S (wA E) s.heap H locs) (hl : lv_has ls 3 [(0, .ref (wad E 31)), (1, .ref (wad E ky1)), (2, .int y2)]) : W p l e ({ frames := 5, cells := 0, slots := 0, locals := 112 } : Room) s m args below meth c H locs 0 0 (MQ below (wQ E (some (.int res.1)) res.2) args s 0 0 (wA E)) (F0 m 3 ls []) := by
  unfold fX4_greatestAnew_3_b at hf
  obtain ⟨hx, hb, hr, hml, hown, hts, hlocks, hG, hV, hZ⟩ := id B
  refine lv_iload_n hx hb dX4_greatestAnew_3 rfl (lv_at hl 2 rfl) ?_
  refine lv_iconst (v := 1) hx hb dX4_greatestAnew_4 rfl ?_
  rcases wif_e hf with ⟨hq1, hf⟩ | ⟨hq1, hf⟩
  · refine lv_icmp_lt (tgt := 30) hx hb dX4_greatestAnew_5 (by decide) (fun _ => ?_) (fun h => absurd hq1 h)
    refine lv_bipush (v := (-9)) hx hb dX4_greatestAnew_30 (by decide) ?_
    have hres := Option.some.inj hf
    subst hres
    exact W.iret hx hb hr (wr_q hG hV hZ hW hS) hS.2.2 dX4_greatestAnew_32
  · refine lv_icmp_lt (tgt := 30) hx hb dX4_greatestAnew_5 (by decide) (fun h => absurd h hq1) (fun _ => ?_)
    refine lv_aload_n hx hb dX4_greatestAnew_8 rfl (lv_at hl 0 rfl) ?_
    refine lv_aload_n hx hb dX4_greatestAnew_9 rfl (lv_at hl 1 rfl) ?_
    obtain ⟨M4, hc2, hf⟩ := wbind_e hf
    refine wc_V (As := [.ref (wad E ky1)]) (rest := []) hx hb hml hown hts hG hV hZ (wlt_3 (rfl : wkd 31 = 3)) (q := (RX4, TX4, 1)) (wen_3 (rfl : wkd 31 = 3)) rfl (cX4_startFrom_ok l E M ky1 hky1 hc2) (cwV 1 hts gl_X4_22 rfl rfl rfl cdX4_startFrom ⟨Nat.le_of_ble_eq_true rfl, Nat.le_of_ble_eq_true rfl⟩) rfl hl.1 rfl (Nat.le_of_ble_eq_true rfl) dX4_greatestAnew_10 ⟨Nat.zero_le _, Nat.zero_le _⟩ hW hS rfl (fun H locs hW hS => ?_)
    refine lv_pop hx hb dX4_greatestAnew_13 rfl ?_
    refine lv_aload_n hx hb dX4_greatestAnew_14 rfl (lv_at hl 0 rfl) ?_
    refine lv_iload_n hx hb dX4_greatestAnew_15 rfl (lv_at hl 2 rfl) ?_
    obtain ⟨r6, M7, hc5, hf⟩ := wbind_p hf
    refine wc_V (As := [.int y2]) (rest := []) hx hb hml hown hts hG hV hZ (wlt_3 (rfl : wkd 31 = 3)) (q := (RX4, TX4, 1)) (wen_3 (rfl : wkd 31 = 3)) rfl (cX4_staysLive_ok l E M4 y2 hc5) (cwV 1 hts gl_X4_61 rfl rfl rfl cdX4_staysLive ⟨Nat.le_of_ble_eq_true rfl, Nat.le_of_ble_eq_true rfl⟩) rfl hl.1 rfl (Nat.le_of_ble_eq_true rfl) dX4_greatestAnew_16 ⟨Nat.zero_le _, Nat.zero_le _⟩ hW hS rfl (fun H locs hW hS => ?_)
    rcases wif_e hf with ⟨hq8, hf⟩ | ⟨hq8, hf⟩
    · refine lv_if_eq (tgt := 24) hx hb dX4_greatestAnew_19 (by decide) (fun _ => ?_) (fun h => absurd hq8 h)
      obtain ⟨x9, ex9, hf⟩ := wlet_e hf
      refine lv_iinc (v := x9) (lv' := [(2, .int x9), (0, .ref (wad E 31)), (1, .ref (wad E ky1))]) hx hb dX4_greatestAnew_24 hl (k := 2) rfl (by rw [ex9]; rfl) (by decide) rfl (fun ls hl => ?_)
      refine lv_goto (tgt := 3) hx hb dX4_greatestAnew_27 (by decide) ?_
      exact hrec3 x9 M7 hf _ _ _ hW hS (lv_sub hl [1, 2, 0] rfl)
    · refine lv_if_eq (tgt := 24) hx hb dX4_greatestAnew_19 (by decide) (fun h => absurd h hq8) (fun _ => ?_)
      refine lv_iload_n hx hb dX4_greatestAnew_22 rfl (lv_at hl 2 rfl) ?_
      have hres := Option.some.inj hf
      subst hres
      exact W.iret hx hb hr (wr_q hG hV hZ hW hS) hS.2.2 dX4_greatestAnew_23
set_option maxRecDepth 100000 in
set_option maxHeartbeats 4000000 in
theorem pX4_greatestAnew_3 (B : wB E p s m args meth c cX4_greatestAnew 3 RX4 (some .int)) {M : wMem} {ky1 : Nat} {y2 : Int32}  {res : Int32 × wMem} (hky1 : wkd ky1 = 4)  (hf : fX4_greatestAnew_3 M  ky1 y2 = some res) {H : Heap} {locs : List Loc} {ls : Array Slot} (hW : wH E M H) (hS : va_S (wA E) s.heap H locs) (hl : lv_has ls 3 [(0, .ref (wad E 31)), (1, .ref (wad E ky1)), (2, .int y2)]) : W p l e ({ frames := 5, cells := 0, slots := 0, locals := 112 } : Room) s m args below meth c H locs 0 0 (MQ below (wQ E (some (.int res.1)) res.2) args s 0 0 (wA E)) (F0 m 3 ls []) := by
  have key := wloop_W (b := (fun rec3 t => fX4_greatestAnew_3_b t.2  rec3 ky1 t.1)) (P := fun t => ∀ (H : Heap) (locs : List Loc) (ls : Array Slot), wH E t.2 H → va_S (wA E) s.heap H locs → lv_has ls 3 [(0, .ref (wad E 31)), (1, .ref (wad E ky1)), (2, .int t.1)] → W p l e ({ frames := 5, cells := 0, slots := 0, locals := 112 } : Room) s m args below meth c H locs 0 0 (MQ below (wQ E (some (.int res.1)) res.2) args s 0 0 (wA E)) (F0 m 3 ls [])) (r := res) (fun rec hrec t hf H locs ls hW hS hl => pX4_greatestAnew_3_b B hky1  (fun v0 v1 hf H locs ls hW hS hl => hrec (v0, v1) hf H locs ls hW hS hl) hf hW hS hl)
  exact key wfuel (y2, M) hf H locs ls hW hS hl
set_option maxRecDepth 100000 in
set_option maxHeartbeats 4000000 in
theorem pX4_greatestAnew (B : wB E p s m args meth c cX4_greatestAnew 3 RX4 (some .int)) {M : wMem} {k1 : Nat} (hk1 : wkd k1 = 4) {res : Int32 × wMem} (hf : fX4_greatestAnew M k1 = some res) {H : Heap} {locs : List Loc} {ls : Array Slot} (hW : wH E M H) (hS : va_S (wA E) s.heap H locs) (hl : lv_has ls 3 [(0, .ref (wad E 31)), (1, .ref (wad E k1))]) : W p l e ({ frames := 5, cells := 0, slots := 0, locals := 112 } : Room) s m args below meth c H locs 0 0 (MQ below (wQ E (some (.int res.1)) res.2) args s 0 0 (wA E)) (F0 m 0 ls []) := by
  unfold fX4_greatestAnew at hf
  obtain ⟨hx, hb, hr, hml, hown, hts, hlocks, hG, hV, hZ⟩ := id B
  refine lv_bipush (v := 50) hx hb dX4_greatestAnew_0 (by decide) ?_
  refine lv_istore_n (lv' := [(2, .int 50), (0, .ref (wad E 31)), (1, .ref (wad E k1))]) hx hb dX4_greatestAnew_2 rfl hl (by decide) rfl (fun ls hl => ?_)
  exact pX4_greatestAnew_3 B hk1  hf hW hS (lv_sub hl [1, 2, 0] rfl)
theorem cX4_greatestAnew_ok (l : Launch) (E : wE) (M : wMem) (k1 : Nat) (hk1 : wkd k1 = 4) {res : Int32 × wMem} (hf : fX4_greatestAnew M k1 = some res) : wMet l yX4_greatestAnew (wsM yX4_greatestAnew cX4_greatestAnew 3 (some .int)) ({ frames := 5, cells := 0, slots := 0, locals := 112 } : Room) E M [.ref (wad E 31), .ref (wad E k1)] (some (.int res.1)) res.2 :=
  wc_of (cc := cX4_greatestAnew) (maxL := 3) (ret := (some .int)) (by decide) (Nat.le_of_ble_eq_true rfl) (fun _ _ _ _ _ _ _ _ B hW hl => pX4_greatestAnew B hk1 hf hW va_S.rf hl)
end
theorem cdX9_allAnew : yX9_allAnew.cls = RX9 ∧ yX9_allAnew.cls ≠ "java/lang/invoke/MethodHandle" ∧ yX9_allAnew.cls ≠ "java/lang/invoke/VarHandle" ∧ (parseMethodDescriptor yX9_allAnew.desc).map (fun d => d.parameters.length) = some 0 := by decide +kernel
section
variable {p : Program} {l : Launch} {e : Env} {s : State} {m : MethodId} {args : Array Value} {below : List Frame} {meth : Method} {c : Code} {E : wE}
set_option maxRecDepth 100000 in
set_option maxHeartbeats 4000000 in
theorem pX9_allAnew (B : wB E p s m args meth c cX9_allAnew 1 RX9 (some .int)) {M : wMem}   {res : Int32 × wMem} (hf : fX9_allAnew M  = some res) {H : Heap} {locs : List Loc} {ls : Array Slot} (hW : wH E M H) (hS : va_S (wA E) s.heap H locs) (hl : lv_has ls 1 [(0, .ref (wad E 0))]) : W p l e ({ frames := 6, cells := 0, slots := 0, locals := 134 } : Room) s m args below meth c H locs 0 0 (MQ below (wQ E (some (.int res.1)) res.2) args s 0 0 (wA E)) (F0 m 0 ls []) := by
  unfold fX9_allAnew at hf
  obtain ⟨hx, hb, hr, hml, hown, hts, hlocks, hG, hV, hZ⟩ := id B
  refine lv_aload_n hx hb dX9_allAnew_0 rfl (lv_at hl 0 rfl) ?_
  refine wm_get hx hb hts wu_X9 hown hV hW (wlt_8 (rfl : wkd 0 = 8)) (wen_8 (rfl : wkd 0 = 8)) (C := RX9) (T := TX9) (N := 10) rfl 0 (by decide) (hts _ wA_231) rfl dX9_allAnew_1 ?_
  refine wm_get hx hb hts wu_X5 hown hV hW (wlt_4 (rfl : wkd 1 = 4)) (wen_4 (rfl : wkd 1 = 4)) (C := RX5) (T := TX5) (N := 4) rfl 2 (by decide) (hts _ wA_121) rfl dX9_allAnew_4 ?_
  rcases wif_e hf with ⟨hq1, hf⟩ | ⟨hq1, hf⟩
  · refine lv_if_ne (tgt := 17) hx hb dX9_allAnew_7 (by decide) (fun h => absurd hq1 h) (fun _ => ?_)
    refine lv_aload_n hx hb dX9_allAnew_10 rfl (lv_at hl 0 rfl) ?_
    refine lv_bipush (v := (-3)) hx hb dX9_allAnew_11 (by decide) ?_
    obtain ⟨r6, M7, hc5, hf⟩ := wbind_p hf
    refine wc_V (As := [.int (-3)]) (rest := []) hx hb hml hown hts hG hV hZ (wlt_8 (rfl : wkd 0 = 8)) (q := (RX9, TX9, 10)) (wen_8 (rfl : wkd 0 = 8)) rfl (cX9_refuse_ok l E M (-3) hc5) (cwV 1 hts gl_X9_65 rfl rfl rfl cdX9_refuse ⟨Nat.le_of_ble_eq_true rfl, Nat.le_of_ble_eq_true rfl⟩) rfl hl.1 rfl (Nat.le_of_ble_eq_true rfl) dX9_allAnew_13 ⟨Nat.zero_le _, Nat.zero_le _⟩ hW hS rfl (fun H locs hW hS => ?_)
    have hres := Option.some.inj hf
    subst hres
    exact W.iret hx hb hr (wr_q hG hV hZ hW hS) hS.2.2 dX9_allAnew_16
  · refine lv_if_ne (tgt := 17) hx hb dX9_allAnew_7 (by decide) (fun _ => ?_) (fun h => absurd h hq1)
    refine lv_aload_n hx hb dX9_allAnew_17 rfl (lv_at hl 0 rfl) ?_
    refine wm_get hx hb hts wu_X9 hown hV hW (wlt_8 (rfl : wkd 0 = 8)) (wen_8 (rfl : wkd 0 = 8)) (C := RX9) (T := TX9) (N := 10) rfl 2 (by decide) (hts _ wA_233) rfl dX9_allAnew_18 ?_
    refine lv_aload_n hx hb dX9_allAnew_21 rfl (lv_at hl 0 rfl) ?_
    refine wm_get hx hb hts wu_X9 hown hV hW (wlt_8 (rfl : wkd 0 = 8)) (wen_8 (rfl : wkd 0 = 8)) (C := RX9) (T := TX9) (N := 10) rfl 0 (by decide) (hts _ wA_231) rfl dX9_allAnew_22 ?_
    obtain ⟨r3, M4, hc2, hf⟩ := wbind_p hf
    refine wc_V (As := [.ref (wad E 1)]) (rest := []) hx hb hml hown hts hG hV hZ (wlt_3 (rfl : wkd 31 = 3)) (q := (RX4, TX4, 1)) (wen_3 (rfl : wkd 31 = 3)) rfl (cX4_greatestAnew_ok l E M 1 (rfl : wkd 1 = 4) hc2) (cwV 1 hts gl_X9_214 rfl rfl rfl cdX4_greatestAnew ⟨Nat.le_of_ble_eq_true rfl, Nat.le_of_ble_eq_true rfl⟩) rfl hl.1 rfl (Nat.le_of_ble_eq_true rfl) dX9_allAnew_25 ⟨Nat.zero_le _, Nat.zero_le _⟩ hW hS rfl (fun H locs hW hS => ?_)
    have hres := Option.some.inj hf
    subst hres
    exact W.iret hx hb hr (wr_q hG hV hZ hW hS) hS.2.2 dX9_allAnew_28
theorem cX9_allAnew_ok (l : Launch) (E : wE) (M : wMem)  {res : Int32 × wMem} (hf : fX9_allAnew M  = some res) : wMet l yX9_allAnew (wsM yX9_allAnew cX9_allAnew 1 (some .int)) ({ frames := 6, cells := 0, slots := 0, locals := 134 } : Room) E M [.ref (wad E 0)] (some (.int res.1)) res.2 :=
  wc_of (cc := cX9_allAnew) (maxL := 1) (ret := (some .int)) (by decide) (Nat.le_of_ble_eq_true rfl) (fun _ _ _ _ _ _ _ _ B hW hl => pX9_allAnew B  hf hW va_S.rf hl)
end
theorem cdX5_stringsWithinLimit : yX5_stringsWithinLimit.cls = RX5 ∧ yX5_stringsWithinLimit.cls ≠ "java/lang/invoke/MethodHandle" ∧ yX5_stringsWithinLimit.cls ≠ "java/lang/invoke/VarHandle" ∧ (parseMethodDescriptor yX5_stringsWithinLimit.desc).map (fun d => d.parameters.length) = some 0 := by decide +kernel
section
variable {p : Program} {l : Launch} {e : Env} {s : State} {m : MethodId} {args : Array Value} {below : List Frame} {meth : Method} {c : Code} {E : wE}
set_option maxRecDepth 100000 in
set_option maxHeartbeats 4000000 in
theorem pX5_stringsWithinLimit (B : wB E p s m args meth c cX5_stringsWithinLimit 1 RX5 (some .int)) {M : wMem} {k0 : Nat} (hk0 : wkd k0 = 4) {res : Int32} (hf : fX5_stringsWithinLimit M k0 = some res) {H : Heap} {locs : List Loc} {ls : Array Slot} (hW : wH E M H) (hS : va_S (wA E) s.heap H locs) (hl : lv_has ls 1 [(0, .ref (wad E k0))]) : W p l e ({ frames := 4, cells := 0, slots := 0, locals := 83 } : Room) s m args below meth c H locs 0 0 (MQ below (wQ E (some (.int res)) M) args s 0 0 (wA E)) (F0 m 0 ls []) := by
  unfold fX5_stringsWithinLimit at hf
  obtain ⟨hx, hb, hr, hml, hown, hts, hlocks, hG, hV, hZ⟩ := id B
  refine lv_aload_n hx hb dX5_stringsWithinLimit_0 rfl (lv_at hl 0 rfl) ?_
  obtain ⟨r2, hc1, hf⟩ := wbind_e hf
  refine wc_V (As := []) (rest := []) hx hb hml hown hts hG hV hZ (wlt_4 hk0) (q := (RX5, TX5, 4)) (wen_4 hk0) rfl (cX5_isLive_ok l E M k0 hk0 hc1) (cwV 0 hts gl_X5_92 rfl rfl rfl cdX5_isLive ⟨Nat.le_of_ble_eq_true rfl, Nat.le_of_ble_eq_true rfl⟩) rfl hl.1 rfl (Nat.le_of_ble_eq_true rfl) dX5_stringsWithinLimit_1 ⟨Nat.zero_le _, Nat.zero_le _⟩ hW hS rfl (fun H locs hW hS => ?_)
  rcases wif_e hf with ⟨hq3, hf⟩ | ⟨hq3, hf⟩
  · refine lv_if_eq (tgt := 28) hx hb dX5_stringsWithinLimit_4 (by decide) (fun _ => ?_) (fun h => absurd hq3 h)
    refine lv_iconst (v := 0) hx hb dX5_stringsWithinLimit_28 rfl ?_
    have hres := Option.some.inj hf
    subst hres
    exact W.iret hx hb hr (wr_q hG hV hZ hW hS) hS.2.2 dX5_stringsWithinLimit_29
  · refine lv_if_eq (tgt := 28) hx hb dX5_stringsWithinLimit_4 (by decide) (fun h => absurd h hq3) (fun _ => ?_)
    refine lv_aload_n hx hb dX5_stringsWithinLimit_7 rfl (lv_at hl 0 rfl) ?_
    refine wm_get hx hb hts wu_X5 hown hV hW (wlt_4 hk0) (wen_4 hk0) (C := RX5) (T := TX5) (N := 4) rfl 1 (by decide) (hts _ wA_115) rfl dX5_stringsWithinLimit_8 ?_
    refine lv_iconst (v := 2) hx hb dX5_stringsWithinLimit_11 rfl ?_
    obtain ⟨hi4, hf⟩ := wgi_e hf
    refine wm_iald hx hb hV hW (wk4_2 hk0) (n := 4) (wl4_2 hk0) hi4 dX5_stringsWithinLimit_12 ?_
    refine lv_iconst (v := 1) hx hb dX5_stringsWithinLimit_13 rfl ?_
    refine lv_aload_n hx hb dX5_stringsWithinLimit_14 rfl (lv_at hl 0 rfl) ?_
    obtain ⟨r6, hc5, hf⟩ := wbind_e hf
    refine wc_V (As := []) (rest := [.int 1, .int (M (k0 + 2) (Int32.toNatClampNeg 2))]) hx hb hml hown hts hG hV hZ (wlt_4 hk0) (q := (RX5, TX5, 4)) (wen_4 hk0) rfl (cX5_flowNow_ok l E M k0 hk0 hc5) (cwV 0 hts gl_X5_105 rfl rfl rfl cdX5_flowNow ⟨Nat.le_of_ble_eq_true rfl, Nat.le_of_ble_eq_true rfl⟩) rfl hl.1 rfl (Nat.le_of_ble_eq_true rfl) dX5_stringsWithinLimit_15 ⟨Nat.zero_le _, Nat.zero_le _⟩ hW hS rfl (fun H locs hW hS => ?_)
    refine lv_bipush (v := 10) hx hb dX5_stringsWithinLimit_18 (by decide) ?_
    obtain ⟨hz7, hf⟩ := wgz_e hf
    refine lv_idiv hx hb dX5_stringsWithinLimit_20 hz7 ?_
    refine va_mmax hx hb (hml.trans hl.1.symm) hown (hts _ wA_657) (hts _ wA_505) (hts _ wA_60) (hts _ wA_506) (Nat.le_of_ble_eq_true rfl) (Nat.le_of_ble_eq_true rfl) (Nat.le_refl 0) (Nat.le_refl 0) dX5_stringsWithinLimit_21 ?_
    obtain ⟨hz8, hf⟩ := wgz_e hf
    refine lv_idiv hx hb dX5_stringsWithinLimit_24 hz8 ?_
    refine lv_goto (tgt := 29) hx hb dX5_stringsWithinLimit_25 (by decide) ?_
    have hres := Option.some.inj hf
    subst hres
    exact W.iret hx hb hr (wr_q hG hV hZ hW hS) hS.2.2 dX5_stringsWithinLimit_29
theorem cX5_stringsWithinLimit_ok (l : Launch) (E : wE) (M : wMem) (k0 : Nat) (hk0 : wkd k0 = 4) {res : Int32} (hf : fX5_stringsWithinLimit M k0 = some res) : wMet l yX5_stringsWithinLimit (wsM yX5_stringsWithinLimit cX5_stringsWithinLimit 1 (some .int)) ({ frames := 4, cells := 0, slots := 0, locals := 83 } : Room) E M [.ref (wad E k0)] (some (.int res)) M :=
  wc_of (cc := cX5_stringsWithinLimit) (maxL := 1) (ret := (some .int)) (by decide) (Nat.le_of_ble_eq_true rfl) (fun _ _ _ _ _ _ _ _ B hW hl => pX5_stringsWithinLimit B hk0 hf hW va_S.rf hl)
end
theorem cdX9_joined : yX9_joined.cls = RX9 ∧ yX9_joined.cls ≠ "java/lang/invoke/MethodHandle" ∧ yX9_joined.cls ≠ "java/lang/invoke/VarHandle" ∧ (parseMethodDescriptor yX9_joined.desc).map (fun d => d.parameters.length) = some 0 := by decide +kernel
section
variable {p : Program} {l : Launch} {e : Env} {s : State} {m : MethodId} {args : Array Value} {below : List Frame} {meth : Method} {c : Code} {E : wE}
set_option maxRecDepth 100000 in
set_option maxHeartbeats 4000000 in
theorem pX9_joined (B : wB E p s m args meth c cX9_joined 1 RX9 (some .int)) {M : wMem}   {res : Int32} (hf : fX9_joined M  = some res) {H : Heap} {locs : List Loc} {ls : Array Slot} (hW : wH E M H) (hS : va_S (wA E) s.heap H locs) (hl : lv_has ls 1 [(0, .ref (wad E 0))]) : W p l e ({ frames := 5, cells := 0, slots := 0, locals := 103 } : Room) s m args below meth c H locs 0 0 (MQ below (wQ E (some (.int res)) M) args s 0 0 (wA E)) (F0 m 0 ls []) := by
  unfold fX9_joined at hf
  obtain ⟨hx, hb, hr, hml, hown, hts, hlocks, hG, hV, hZ⟩ := id B
  refine lv_aload_n hx hb dX9_joined_0 rfl (lv_at hl 0 rfl) ?_
  refine wm_get hx hb hts wu_X9 hown hV hW (wlt_8 (rfl : wkd 0 = 8)) (wen_8 (rfl : wkd 0 = 8)) (C := RX9) (T := TX9) (N := 10) rfl 0 (by decide) (hts _ wA_231) rfl dX9_joined_1 ?_
  obtain ⟨r2, hc1, hf⟩ := wbind_e hf
  refine wc_V (As := []) (rest := []) hx hb hml hown hts hG hV hZ (wlt_4 (rfl : wkd 1 = 4)) (q := (RX5, TX5, 4)) (wen_4 (rfl : wkd 1 = 4)) rfl (cX5_stringsWithinLimit_ok l E M 1 (rfl : wkd 1 = 4) hc1) (cwV 0 hts gl_X9_217 rfl rfl rfl cdX5_stringsWithinLimit ⟨Nat.le_of_ble_eq_true rfl, Nat.le_of_ble_eq_true rfl⟩) rfl hl.1 rfl (Nat.le_of_ble_eq_true rfl) dX9_joined_4 ⟨Nat.zero_le _, Nat.zero_le _⟩ hW hS rfl (fun H locs hW hS => ?_)
  have hres := Option.some.inj hf
  subst hres
  exact W.iret hx hb hr (wr_q hG hV hZ hW hS) hS.2.2 dX9_joined_7
theorem cX9_joined_ok (l : Launch) (E : wE) (M : wMem)  {res : Int32} (hf : fX9_joined M  = some res) : wMet l yX9_joined (wsM yX9_joined cX9_joined 1 (some .int)) ({ frames := 5, cells := 0, slots := 0, locals := 103 } : Room) E M [.ref (wad E 0)] (some (.int res)) M :=
  wc_of (cc := cX9_joined) (maxL := 1) (ret := (some .int)) (by decide) (Nat.le_of_ble_eq_true rfl) (fun _ _ _ _ _ _ _ _ B hW hl => pX9_joined B  hf hW va_S.rf hl)
end
theorem cdX0_greatestShared : yX0_greatestShared.cls ≠ "java/lang/invoke/MethodHandle" ∧ yX0_greatestShared.cls ≠ "java/lang/invoke/VarHandle" ∧ (parseMethodDescriptor yX0_greatestShared.desc).map (fun d => d.parameters.length) = some 2 := by decide +kernel
section
variable {p : Program} {l : Launch} {e : Env} {s : State} {m : MethodId} {args : Array Value} {below : List Frame} {meth : Method} {c : Code} {E : wE}
set_option maxRecDepth 100000 in
set_option maxHeartbeats 4000000 in
theorem pX0_greatestShared_9_b (B : wB E p s m args meth c cX0_greatestShared 11 RX0 (some .long)) {M : wMem} {y4 : Int64} {y6 : Int64} {y8 : Int32}  {rec9 : (Int64 × Int64 × Int32 → Option (Int64))} {res : Int64}   (hrec9 : ∀ (y4' : Int64) (y6' : Int64) (y8' : Int32), rec9 (y4', y6', y8') = some res → ∀ (H : Heap) (locs : List Loc) (ls : Array Slot), wH E M H → va_S (wA E) s.heap H locs → lv_has ls 11 [(4, .long y4'), (6, .long y6'), (8, .int y8')] → W p l e ({ frames := 0, cells := 0, slots := 0, locals := 0 } : Room) s m args below meth c H locs 0 0 (MQ below (wQ E (some (.long res)) M) args s 0 0 (wA E)) (F0 m 9 ls [])) (hf : fX0_greatestShared_9_b M  rec9 y4 y6 y8 = some res) {H : Heap} {locs : List Loc} {ls : Array Slot} (hW : wH E M H) (hS : va_S (wA E) s.heap H locs) (hl : lv_has ls 11 [(4, .long y4), (6, .long y6), (8, .int y8)]) : W p l e ({ frames := 0, cells := 0, slots := 0, locals := 0 } : Room) s m args below meth c H locs 0 0 (MQ below (wQ E (some (.long res)) M) args s 0 0 (wA E)) (F0 m 9 ls []) := by
  unfold fX0_greatestShared_9_b at hf
  obtain ⟨hx, hb, hr, hml, hown, hts, hlocks, hG, hV, hZ⟩ := id B
  refine lv_iload hx hb dX0_greatestShared_9 (lv_at hl 2 rfl) ?_
  refine lv_sipush (v := 1000) hx hb dX0_greatestShared_11 (by decide) ?_
  rcases wif_e hf with ⟨hq1, hf⟩ | ⟨hq1, hf⟩
  · refine lv_icmp_ge (tgt := 45) hx hb dX0_greatestShared_14 (by decide) (fun _ => ?_) (fun h => absurd hq1 h)
    refine lv_lload hx hb dX0_greatestShared_45 (lv_at hl 0 rfl) ?_
    have hres := Option.some.inj hf
    subst hres
    exact W.lret hx hb hr (wr_q hG hV hZ hW hS) hS.2.2 dX0_greatestShared_47
  · refine lv_icmp_ge (tgt := 45) hx hb dX0_greatestShared_14 (by decide) (fun h => absurd h hq1) (fun _ => ?_)
    refine lv_lload hx hb dX0_greatestShared_17 (lv_at hl 1 rfl) ?_
    refine lv_lconst (v := 0) hx hb dX0_greatestShared_19 rfl ?_
    refine W.lcmp hx hb dX0_greatestShared_20 ?_
    rcases wif_e hf with ⟨hq2, hf⟩ | ⟨hq2, hf⟩
    · refine lv_if_eq (tgt := 45) hx hb dX0_greatestShared_21 (by decide) (fun _ => ?_) (fun h => absurd hq2 h)
      refine lv_lload hx hb dX0_greatestShared_45 (lv_at hl 0 rfl) ?_
      have hres := Option.some.inj hf
      subst hres
      exact W.lret hx hb hr (wr_q hG hV hZ hW hS) hS.2.2 dX0_greatestShared_47
    · refine lv_if_eq (tgt := 45) hx hb dX0_greatestShared_21 (by decide) (fun h => absurd h hq2) (fun _ => ?_)
      refine lv_lload hx hb dX0_greatestShared_24 (lv_at hl 0 rfl) ?_
      refine lv_lload hx hb dX0_greatestShared_26 (lv_at hl 1 rfl) ?_
      obtain ⟨hz3, hf⟩ := wgzl_e hf
      refine lv_lrem hx hb dX0_greatestShared_28 hz3 ?_
      refine lv_topl (fun x4 ex4 => ?_)
      replace hf := wlet_y ex4 hf
      refine lv_lstore (lv' := [(9, .long x4), (4, .long y4), (6, .long y6), (8, .int y8)]) hx hb dX0_greatestShared_29 hl (by decide) rfl (fun ls hl => ?_)
      refine lv_lload hx hb dX0_greatestShared_31 (lv_at hl 2 rfl) ?_
      refine lv_lstore (lv' := [(4, .long y6), (9, .long x4), (6, .long y6), (8, .int y8)]) hx hb dX0_greatestShared_33 hl (by decide) rfl (fun ls hl => ?_)
      refine lv_lload hx hb dX0_greatestShared_35 (lv_at hl 1 rfl) ?_
      refine lv_lstore (lv' := [(6, .long x4), (4, .long y6), (9, .long x4), (8, .int y8)]) hx hb dX0_greatestShared_37 hl (by decide) rfl (fun ls hl => ?_)
      obtain ⟨x5, ex5, hf⟩ := wlet_e hf
      refine lv_iinc (v := x5) (lv' := [(8, .int x5), (6, .long x4), (4, .long y6), (9, .long x4)]) hx hb dX0_greatestShared_39 hl (k := 3) rfl (by rw [ex5]; rfl) (by decide) rfl (fun ls hl => ?_)
      refine lv_goto (tgt := 9) hx hb dX0_greatestShared_42 (by decide) ?_
      exact hrec9 y6 x4 x5 hf _ _ _ hW hS (lv_sub hl [2, 1, 0] rfl)
set_option maxRecDepth 100000 in
set_option maxHeartbeats 4000000 in
theorem pX0_greatestShared_9 (B : wB E p s m args meth c cX0_greatestShared 11 RX0 (some .long)) {M : wMem} {y4 : Int64} {y6 : Int64} {y8 : Int32}  {res : Int64}   (hf : fX0_greatestShared_9 M  y4 y6 y8 = some res) {H : Heap} {locs : List Loc} {ls : Array Slot} (hW : wH E M H) (hS : va_S (wA E) s.heap H locs) (hl : lv_has ls 11 [(4, .long y4), (6, .long y6), (8, .int y8)]) : W p l e ({ frames := 0, cells := 0, slots := 0, locals := 0 } : Room) s m args below meth c H locs 0 0 (MQ below (wQ E (some (.long res)) M) args s 0 0 (wA E)) (F0 m 9 ls []) := by
  have key := wloop_W (b := (fun rec9 t => fX0_greatestShared_9_b M  rec9 t.1 t.2.1 t.2.2)) (P := fun t => ∀ (H : Heap) (locs : List Loc) (ls : Array Slot), wH E M H → va_S (wA E) s.heap H locs → lv_has ls 11 [(4, .long t.1), (6, .long t.2.1), (8, .int t.2.2)] → W p l e ({ frames := 0, cells := 0, slots := 0, locals := 0 } : Room) s m args below meth c H locs 0 0 (MQ below (wQ E (some (.long res)) M) args s 0 0 (wA E)) (F0 m 9 ls [])) (r := res) (fun rec hrec t hf H locs ls hW hS hl => pX0_greatestShared_9_b B   (fun v0 v1 v2 hf H locs ls hW hS hl => hrec (v0, v1, v2) hf H locs ls hW hS hl) hf hW hS hl)
  exact key wfuel (y4, y6, y8) hf H locs ls hW hS hl
set_option maxRecDepth 100000 in
set_option maxHeartbeats 4000000 in
theorem pX0_greatestShared (B : wB E p s m args meth c cX0_greatestShared 11 RX0 (some .long)) {M : wMem} {a0 : Int64} {a2 : Int64}  {res : Int64} (hf : fX0_greatestShared M a0 a2 = some res) {H : Heap} {locs : List Loc} {ls : Array Slot} (hW : wH E M H) (hS : va_S (wA E) s.heap H locs) (hl : lv_has ls 11 [(0, .long a0), (2, .long a2)]) : W p l e ({ frames := 0, cells := 0, slots := 0, locals := 0 } : Room) s m args below meth c H locs 0 0 (MQ below (wQ E (some (.long res)) M) args s 0 0 (wA E)) (F0 m 0 ls []) := by
  unfold fX0_greatestShared at hf
  obtain ⟨hx, hb, hr, hml, hown, hts, hlocks, hG, hV, hZ⟩ := id B
  refine lv_lload_n hx hb dX0_greatestShared_0 rfl (lv_at hl 0 rfl) ?_
  refine lv_lstore (lv' := [(4, .long a0), (0, .long a0), (2, .long a2)]) hx hb dX0_greatestShared_1 hl (by decide) rfl (fun ls hl => ?_)
  refine lv_lload_n hx hb dX0_greatestShared_3 rfl (lv_at hl 2 rfl) ?_
  refine lv_lstore (lv' := [(6, .long a2), (4, .long a0), (0, .long a0), (2, .long a2)]) hx hb dX0_greatestShared_4 hl (by decide) rfl (fun ls hl => ?_)
  refine lv_iconst (v := 0) hx hb dX0_greatestShared_6 rfl ?_
  refine lv_istore (lv' := [(8, .int 0), (6, .long a2), (4, .long a0), (0, .long a0), (2, .long a2)]) hx hb dX0_greatestShared_7 hl (by decide) rfl (fun ls hl => ?_)
  exact pX0_greatestShared_9 B   hf hW hS (lv_sub hl [2, 1, 0] rfl)
theorem cX0_greatestShared_ok (l : Launch) (E : wE) (M : wMem) (a0 : Int64) (a2 : Int64) {res : Int64} (hf : fX0_greatestShared M a0 a2 = some res) : wMet l yX0_greatestShared (wsM yX0_greatestShared cX0_greatestShared 11 (some .long)) ({ frames := 0, cells := 0, slots := 0, locals := 0 } : Room) E M [.long a0, .long a2] (some (.long res)) M :=
  wc_of (cc := cX0_greatestShared) (maxL := 11) (ret := (some .long)) (by decide) (Nat.le_of_ble_eq_true rfl) (fun _ _ _ _ _ _ _ _ B hW hl => pX0_greatestShared B  hf hW va_S.rf hl)
end
theorem cdX0_ofTwo : yX0_ofTwo.cls ≠ "java/lang/invoke/MethodHandle" ∧ yX0_ofTwo.cls ≠ "java/lang/invoke/VarHandle" ∧ (parseMethodDescriptor yX0_ofTwo.desc).map (fun d => d.parameters.length) = some 2 := by decide +kernel
section
variable {p : Program} {l : Launch} {e : Env} {s : State} {m : MethodId} {args : Array Value} {below : List Frame} {meth : Method} {c : Code} {E : wE}
set_option maxRecDepth 100000 in
set_option maxHeartbeats 4000000 in
theorem pX0_ofTwo_85 (B : wB E p s m args meth c cX0_ofTwo 14 RX0 (some .long)) {M : wMem} {y1 : Int32} {y2 : Int64} {y4 : Int64} {y6 : Int64}  {res : Int64}   (hf : fX0_ofTwo_85 M  y1 y2 y4 y6 = some res) {H : Heap} {locs : List Loc} {ls : Array Slot} (hW : wH E M H) (hS : va_S (wA E) s.heap H locs) (hl : lv_has ls 14 [(1, .int y1), (2, .long y2), (4, .long y4), (6, .long y6)]) : W p l e ({ frames := 2, cells := 0, slots := 0, locals := 41 } : Room) s m args below meth c H locs 0 0 (MQ below (wQ E (some (.long res)) M) args s 0 0 (wA E)) (F0 m 85 ls []) := by
  unfold fX0_ofTwo_85 at hf
  obtain ⟨hx, hb, hr, hml, hown, hts, hlocks, hG, hV, hZ⟩ := id B
  refine lv_lload_n hx hb dX0_ofTwo_85 rfl (lv_at hl 1 rfl) ?_
  refine lv_lload hx hb dX0_ofTwo_86 (lv_at hl 2 rfl) ?_
  refine lv_lsub hx hb dX0_ofTwo_88 ?_
  refine lv_topl (fun x5 ex5 => ?_)
  replace hf := wlet_y ex5 hf
  refine lv_lstore (lv' := [(8, .long x5), (1, .int y1), (2, .long y2), (4, .long y4), (6, .long y6)]) hx hb dX0_ofTwo_89 hl (by decide) rfl (fun ls hl => ?_)
  refine lv_lload hx hb dX0_ofTwo_91 (lv_at hl 0 rfl) ?_
  refine lv_lload hx hb dX0_ofTwo_93 (lv_at hl 4 rfl) ?_
  refine lv_lsub hx hb dX0_ofTwo_95 ?_
  refine lv_topl (fun x6 ex6 => ?_)
  replace hf := wlet_y ex6 hf
  refine lv_lstore (lv' := [(10, .long x6), (8, .long x5), (1, .int y1), (2, .long y2), (4, .long y4), (6, .long y6)]) hx hb dX0_ofTwo_96 hl (by decide) rfl (fun ls hl => ?_)
  refine lv_lload hx hb dX0_ofTwo_98 (lv_at hl 1 rfl) ?_
  refine lv_lload hx hb dX0_ofTwo_100 (lv_at hl 0 rfl) ?_
  obtain ⟨r8, hc7, hf⟩ := wbind_e hf
  refine wc_S (As := [.long x5, .long x6]) (rest := []) hx hb hml hown hts hG hV hZ (cX0_greatestShared_ok l E M x5 x6 hc7) (va_cwS 2 hts gl_X0_33 rfl rfl rfl cdX0_greatestShared ⟨Nat.le_of_ble_eq_true rfl, Nat.le_of_ble_eq_true rfl⟩) rfl hl.1 rfl (Nat.le_of_ble_eq_true rfl) dX0_ofTwo_102 ⟨Nat.zero_le _, Nat.zero_le _⟩ hW hS rfl (fun H locs hW hS => ?_)
  refine lv_lstore (lv' := [(12, .long r8), (10, .long x6), (8, .long x5), (1, .int y1), (2, .long y2), (4, .long y4), (6, .long y6)]) hx hb dX0_ofTwo_105 hl (by decide) rfl (fun ls hl => ?_)
  refine lv_lload hx hb dX0_ofTwo_107 (lv_at hl 0 rfl) ?_
  refine lv_lconst (v := 0) hx hb dX0_ofTwo_109 rfl ?_
  refine W.lcmp hx hb dX0_ofTwo_110 ?_
  rcases wif_e hf with ⟨hq9, hf⟩ | ⟨hq9, hf⟩
  · refine lv_if_gt (tgt := 116) hx hb dX0_ofTwo_111 (by decide) (fun _ => ?_) (fun h => absurd hq9 h)
    refine lv_iload_n hx hb dX0_ofTwo_116 rfl (lv_at hl 3 rfl) ?_
    rcases wif_e hf with ⟨hq10, hf⟩ | ⟨hq10, hf⟩
    · refine lv_if_eq (tgt := 125) hx hb dX0_ofTwo_117 (by decide) (fun _ => ?_) (fun h => absurd hq10 h)
      refine lv_lload hx hb dX0_ofTwo_125 (lv_at hl 2 rfl) ?_
      refine lv_lload hx hb dX0_ofTwo_127 (lv_at hl 0 rfl) ?_
      obtain ⟨hz11, hf⟩ := wgzl_e hf
      refine lv_ldiv hx hb dX0_ofTwo_129 hz11 ?_
      have hres := Option.some.inj hf
      subst hres
      exact W.lret hx hb hr (wr_q hG hV hZ hW hS) hS.2.2 dX0_ofTwo_130
    · refine lv_if_eq (tgt := 125) hx hb dX0_ofTwo_117 (by decide) (fun h => absurd h hq10) (fun _ => ?_)
      refine lv_lload hx hb dX0_ofTwo_120 (lv_at hl 1 rfl) ?_
      refine lv_goto (tgt := 127) hx hb dX0_ofTwo_122 (by decide) ?_
      refine lv_lload hx hb dX0_ofTwo_127 (lv_at hl 0 rfl) ?_
      obtain ⟨hz12, hf⟩ := wgzl_e hf
      refine lv_ldiv hx hb dX0_ofTwo_129 hz12 ?_
      have hres := Option.some.inj hf
      subst hres
      exact W.lret hx hb hr (wr_q hG hV hZ hW hS) hS.2.2 dX0_ofTwo_130
  · refine lv_if_gt (tgt := 116) hx hb dX0_ofTwo_111 (by decide) (fun h => absurd h hq9) (fun _ => ?_)
    refine lv_lconst (v := 0) hx hb dX0_ofTwo_114 rfl ?_
    have hres := Option.some.inj hf
    subst hres
    exact W.lret hx hb hr (wr_q hG hV hZ hW hS) hS.2.2 dX0_ofTwo_115
set_option maxRecDepth 100000 in
set_option maxHeartbeats 4000000 in
theorem pX0_ofTwo_11_b (B : wB E p s m args meth c cX0_ofTwo 14 RX0 (some .long)) {M : wMem} {ky0 : Nat} {y1 : Int32} {y2 : Int64} {y4 : Int64} {y6 : Int64} {y8 : Int32}  {rec11 : (Int64 × Int64 × Int64 × Int32 → Option (Int64))} {res : Int64} (hky0 : wkd ky0 = 4)  (hrec11 : ∀ (y2' : Int64) (y4' : Int64) (y6' : Int64) (y8' : Int32), rec11 (y2', y4', y6', y8') = some res → ∀ (H : Heap) (locs : List Loc) (ls : Array Slot), wH E M H → va_S (wA E) s.heap H locs → lv_has ls 14 [(0, .ref (wad E ky0)), (1, .int y1), (2, .long y2'), (4, .long y4'), (6, .long y6'), (8, .int y8')] → W p l e ({ frames := 2, cells := 0, slots := 0, locals := 41 } : Room) s m args below meth c H locs 0 0 (MQ below (wQ E (some (.long res)) M) args s 0 0 (wA E)) (F0 m 11 ls [])) (hf : fX0_ofTwo_11_b M  rec11 ky0 y1 y2 y4 y6 y8 = some res) {H : Heap} {locs : List Loc} {ls : Array Slot} (hW : wH E M H) (hS : va_S (wA E) s.heap H locs) (hl : lv_has ls 14 [(0, .ref (wad E ky0)), (1, .int y1), (2, .long y2), (4, .long y4), (6, .long y6), (8, .int y8)]) : W p l e ({ frames := 2, cells := 0, slots := 0, locals := 41 } : Room) s m args below meth c H locs 0 0 (MQ below (wQ E (some (.long res)) M) args s 0 0 (wA E)) (F0 m 11 ls []) := by
  unfold fX0_ofTwo_11_b at hf
  obtain ⟨hx, hb, hr, hml, hown, hts, hlocks, hG, hV, hZ⟩ := id B
  refine lv_iload hx hb dX0_ofTwo_11 (lv_at hl 5 rfl) ?_
  refine lv_aload_n hx hb dX0_ofTwo_13 rfl (lv_at hl 0 rfl) ?_
  refine wm_get hx hb hts wu_X5 hown hV hW (wlt_4 hky0) (wen_4 hky0) (C := RX5) (T := TX5) (N := 4) rfl 2 (by decide) (hts _ wA_119) rfl dX0_ofTwo_14 ?_
  rcases wif_e hf with ⟨hq4, hf⟩ | ⟨hq4, hf⟩
  · refine lv_icmp_ge (tgt := 85) hx hb dX0_ofTwo_17 (by decide) (fun _ => ?_) (fun h => absurd hq4 h)
    exact pX0_ofTwo_85 B   hf hW hS (lv_sub hl [1, 2, 3, 4] rfl)
  · refine lv_icmp_ge (tgt := 85) hx hb dX0_ofTwo_17 (by decide) (fun h => absurd h hq4) (fun _ => ?_)
    refine lv_iload hx hb dX0_ofTwo_20 (lv_at hl 5 rfl) ?_
    refine lv_bipush (v := 8) hx hb dX0_ofTwo_22 (by decide) ?_
    rcases wif_e hf with ⟨hq13, hf⟩ | ⟨hq13, hf⟩
    · refine lv_icmp_ge (tgt := 85) hx hb dX0_ofTwo_24 (by decide) (fun _ => ?_) (fun h => absurd hq13 h)
      exact pX0_ofTwo_85 B   hf hW hS (lv_sub hl [1, 2, 3, 4] rfl)
    · refine lv_icmp_ge (tgt := 85) hx hb dX0_ofTwo_24 (by decide) (fun h => absurd h hq13) (fun _ => ?_)
      refine lv_bipush (v := 99) hx hb dX0_ofTwo_27 (by decide) ?_
      refine lv_aload_n hx hb dX0_ofTwo_29 rfl (lv_at hl 0 rfl) ?_
      refine wm_get hx hb hts wu_X5 hown hV hW (wlt_4 hky0) (wen_4 hky0) (C := RX5) (T := TX5) (N := 4) rfl 0 (by decide) (hts _ wA_111) rfl dX0_ofTwo_30 ?_
      refine lv_iload hx hb dX0_ofTwo_33 (lv_at hl 5 rfl) ?_
      obtain ⟨hi14, hf⟩ := wgi_e hf
      refine wm_aldL hx hb hV hW (wk4_1 hky0) hi14 dX0_ofTwo_35 ?_
      obtain ⟨r16, hc15, hf⟩ := wbind_e hf
      refine wc_V (As := []) (rest := [.int 99]) hx hb hml hown hts hG hV hZ (wlt_0 (wk22_i (wk4_1 hky0) hi14)) (q := (RX1, TX1, 5)) (wen_0 (wk22_i (wk4_1 hky0) hi14)) rfl (cX1_likely_ok l E M ((ky0 + 1) + 2 + Int32.toNatClampNeg y8) (wk22_i (wk4_1 hky0) hi14) hc15) (cwV 0 hts gl_X0_19 rfl rfl rfl cdX1_likely ⟨Nat.le_of_ble_eq_true rfl, Nat.le_of_ble_eq_true rfl⟩) rfl hl.1 rfl (Nat.le_of_ble_eq_true rfl) dX0_ofTwo_36 ⟨Nat.zero_le _, Nat.zero_le _⟩ hW hS rfl (fun H locs hW hS => ?_)
      refine va_mmin hx hb (hml.trans hl.1.symm) hown (hts _ wA_667) (hts _ wA_385) (hts _ wA_60) (hts _ wA_386) (Nat.le_of_ble_eq_true rfl) (Nat.le_of_ble_eq_true rfl) (Nat.le_refl 0) (Nat.le_refl 0) dX0_ofTwo_39 ?_
      refine lv_i2l hx hb dX0_ofTwo_42 rfl ?_
      refine lv_topl (fun x17 ex17 => ?_)
      replace hf := wlet_y ex17 hf
      refine lv_lstore (lv' := [(9, .long x17), (0, .ref (wad E ky0)), (1, .int y1), (2, .long y2), (4, .long y4), (6, .long y6), (8, .int y8)]) hx hb dX0_ofTwo_43 hl (by decide) rfl (fun ls hl => ?_)
      refine lv_lload_n hx hb dX0_ofTwo_45 rfl (lv_at hl 3 rfl) ?_
      refine lv_ldc2 (v := 100) hx hb hown (hts _ wA_668) dX0_ofTwo_46 ?_
      refine lv_lmul hx hb dX0_ofTwo_49 ?_
      refine lv_topl (fun x18 ex18 => ?_)
      replace hf := wlet_y ex18 hf
      refine lv_lstore_n (lv' := [(2, .long x18), (9, .long x17), (0, .ref (wad E ky0)), (1, .int y1), (4, .long y4), (6, .long y6), (8, .int y8)]) hx hb dX0_ofTwo_50 rfl hl (by decide) rfl (fun ls hl => ?_)
      refine lv_lload hx hb dX0_ofTwo_51 (lv_at hl 5 rfl) ?_
      refine lv_ldc2 (v := 100) hx hb hown (hts _ wA_668) dX0_ofTwo_53 ?_
      refine lv_lload hx hb dX0_ofTwo_56 (lv_at hl 1 rfl) ?_
      refine lv_lsub hx hb dX0_ofTwo_58 ?_
      refine lv_lmul hx hb dX0_ofTwo_59 ?_
      refine lv_lload hx hb dX0_ofTwo_60 (lv_at hl 4 rfl) ?_
      refine lv_lload hx hb dX0_ofTwo_62 (lv_at hl 1 rfl) ?_
      refine lv_lmul hx hb dX0_ofTwo_64 ?_
      refine lv_ladd hx hb dX0_ofTwo_65 ?_
      refine lv_topl (fun x19 ex19 => ?_)
      replace hf := wlet_y ex19 hf
      refine lv_lstore (lv' := [(6, .long x19), (2, .long x18), (9, .long x17), (0, .ref (wad E ky0)), (1, .int y1), (4, .long y4), (8, .int y8)]) hx hb dX0_ofTwo_66 hl (by decide) rfl (fun ls hl => ?_)
      refine lv_lload hx hb dX0_ofTwo_68 (lv_at hl 5 rfl) ?_
      refine lv_ldc2 (v := 100) hx hb hown (hts _ wA_668) dX0_ofTwo_70 ?_
      refine lv_lload hx hb dX0_ofTwo_73 (lv_at hl 2 rfl) ?_
      refine lv_lsub hx hb dX0_ofTwo_75 ?_
      refine lv_lmul hx hb dX0_ofTwo_76 ?_
      refine lv_topl (fun x20 ex20 => ?_)
      replace hf := wlet_y ex20 hf
      refine lv_lstore (lv' := [(4, .long x20), (6, .long x19), (2, .long x18), (9, .long x17), (0, .ref (wad E ky0)), (1, .int y1), (8, .int y8)]) hx hb dX0_ofTwo_77 hl (by decide) rfl (fun ls hl => ?_)
      obtain ⟨x21, ex21, hf⟩ := wlet_e hf
      refine lv_iinc (v := x21) (lv' := [(8, .int x21), (4, .long x20), (6, .long x19), (2, .long x18), (9, .long x17), (0, .ref (wad E ky0)), (1, .int y1)]) hx hb dX0_ofTwo_79 hl (k := 6) rfl (by rw [ex21]; rfl) (by decide) rfl (fun ls hl => ?_)
      refine lv_goto (tgt := 11) hx hb dX0_ofTwo_82 (by decide) ?_
      exact hrec11 x18 x20 x19 x21 hf _ _ _ hW hS (lv_sub hl [5, 6, 3, 1, 2, 0] rfl)
set_option maxRecDepth 100000 in
set_option maxHeartbeats 4000000 in
theorem pX0_ofTwo_11 (B : wB E p s m args meth c cX0_ofTwo 14 RX0 (some .long)) {M : wMem} {ky0 : Nat} {y1 : Int32} {y2 : Int64} {y4 : Int64} {y6 : Int64} {y8 : Int32}  {res : Int64} (hky0 : wkd ky0 = 4)  (hf : fX0_ofTwo_11 M  ky0 y1 y2 y4 y6 y8 = some res) {H : Heap} {locs : List Loc} {ls : Array Slot} (hW : wH E M H) (hS : va_S (wA E) s.heap H locs) (hl : lv_has ls 14 [(0, .ref (wad E ky0)), (1, .int y1), (2, .long y2), (4, .long y4), (6, .long y6), (8, .int y8)]) : W p l e ({ frames := 2, cells := 0, slots := 0, locals := 41 } : Room) s m args below meth c H locs 0 0 (MQ below (wQ E (some (.long res)) M) args s 0 0 (wA E)) (F0 m 11 ls []) := by
  have key := wloop_W (b := (fun rec11 t => fX0_ofTwo_11_b M  rec11 ky0 y1 t.1 t.2.1 t.2.2.1 t.2.2.2)) (P := fun t => ∀ (H : Heap) (locs : List Loc) (ls : Array Slot), wH E M H → va_S (wA E) s.heap H locs → lv_has ls 14 [(0, .ref (wad E ky0)), (1, .int y1), (2, .long t.1), (4, .long t.2.1), (6, .long t.2.2.1), (8, .int t.2.2.2)] → W p l e ({ frames := 2, cells := 0, slots := 0, locals := 41 } : Room) s m args below meth c H locs 0 0 (MQ below (wQ E (some (.long res)) M) args s 0 0 (wA E)) (F0 m 11 ls [])) (r := res) (fun rec hrec t hf H locs ls hW hS hl => pX0_ofTwo_11_b B hky0  (fun v0 v1 v2 v3 hf H locs ls hW hS hl => hrec (v0, v1, v2, v3) hf H locs ls hW hS hl) hf hW hS hl)
  exact key wfuel (y2, y4, y6, y8) hf H locs ls hW hS hl
set_option maxRecDepth 100000 in
set_option maxHeartbeats 4000000 in
theorem pX0_ofTwo (B : wB E p s m args meth c cX0_ofTwo 14 RX0 (some .long)) {M : wMem} {k0 : Nat} {a1 : Int32} (hk0 : wkd k0 = 4) {res : Int64} (hf : fX0_ofTwo M k0 a1 = some res) {H : Heap} {locs : List Loc} {ls : Array Slot} (hW : wH E M H) (hS : va_S (wA E) s.heap H locs) (hl : lv_has ls 14 [(0, .ref (wad E k0)), (1, .int a1)]) : W p l e ({ frames := 2, cells := 0, slots := 0, locals := 41 } : Room) s m args below meth c H locs 0 0 (MQ below (wQ E (some (.long res)) M) args s 0 0 (wA E)) (F0 m 0 ls []) := by
  unfold fX0_ofTwo at hf
  obtain ⟨hx, hb, hr, hml, hown, hts, hlocks, hG, hV, hZ⟩ := id B
  refine lv_lconst (v := 1) hx hb dX0_ofTwo_0 rfl ?_
  refine lv_topl (fun x1 ex1 => ?_)
  replace hf := wlet_y ex1 hf
  refine lv_lstore_n (lv' := [(2, .long x1), (0, .ref (wad E k0)), (1, .int a1)]) hx hb dX0_ofTwo_1 rfl hl (by decide) rfl (fun ls hl => ?_)
  refine lv_lconst (v := 1) hx hb dX0_ofTwo_2 rfl ?_
  refine lv_topl (fun x2 ex2 => ?_)
  replace hf := wlet_y ex2 hf
  refine lv_lstore (lv' := [(4, .long x2), (2, .long x1), (0, .ref (wad E k0)), (1, .int a1)]) hx hb dX0_ofTwo_3 hl (by decide) rfl (fun ls hl => ?_)
  refine lv_lconst (v := 0) hx hb dX0_ofTwo_5 rfl ?_
  refine lv_topl (fun x3 ex3 => ?_)
  replace hf := wlet_y ex3 hf
  refine lv_lstore (lv' := [(6, .long x3), (4, .long x2), (2, .long x1), (0, .ref (wad E k0)), (1, .int a1)]) hx hb dX0_ofTwo_6 hl (by decide) rfl (fun ls hl => ?_)
  refine lv_iconst (v := 0) hx hb dX0_ofTwo_8 rfl ?_
  refine lv_istore (lv' := [(8, .int 0), (6, .long x3), (4, .long x2), (2, .long x1), (0, .ref (wad E k0)), (1, .int a1)]) hx hb dX0_ofTwo_9 hl (by decide) rfl (fun ls hl => ?_)
  exact pX0_ofTwo_11 B hk0  hf hW hS (lv_sub hl [4, 5, 3, 2, 1, 0] rfl)
theorem cX0_ofTwo_ok (l : Launch) (E : wE) (M : wMem) (k0 : Nat) (hk0 : wkd k0 = 4) (a1 : Int32) {res : Int64} (hf : fX0_ofTwo M k0 a1 = some res) : wMet l yX0_ofTwo (wsM yX0_ofTwo cX0_ofTwo 14 (some .long)) ({ frames := 2, cells := 0, slots := 0, locals := 41 } : Room) E M [.ref (wad E k0), .int a1] (some (.long res)) M :=
  wc_of (cc := cX0_ofTwo) (maxL := 14) (ret := (some .long)) (by decide) (Nat.le_of_ble_eq_true rfl) (fun _ _ _ _ _ _ _ _ B hW hl => pX0_ofTwo B hk0 hf hW va_S.rf hl)
end
theorem cdX9_two : yX9_two.cls = RX9 ∧ yX9_two.cls ≠ "java/lang/invoke/MethodHandle" ∧ yX9_two.cls ≠ "java/lang/invoke/VarHandle" ∧ (parseMethodDescriptor yX9_two.desc).map (fun d => d.parameters.length) = some 1 := by decide +kernel
section
variable {p : Program} {l : Launch} {e : Env} {s : State} {m : MethodId} {args : Array Value} {below : List Frame} {meth : Method} {c : Code} {E : wE}
set_option maxRecDepth 100000 in
set_option maxHeartbeats 4000000 in
theorem pX9_two_80 (B : wB E p s m args meth c cX9_two 2 RX9 (some .long)) {M : wMem} {z1 : Int32}  {res : Int64 × wMem}   (hf : fX9_two_80 M  z1 = some res) {H : Heap} {locs : List Loc} {ls : Array Slot} (hW : wH E M H) (hS : va_S (wA E) s.heap H locs) (hl : lv_has ls 2 []) : W p l e ({ frames := 3, cells := 0, slots := 0, locals := 74 } : Room) s m args below meth c H locs 0 0 (MQ below (wQ E (some (.long res.1)) res.2) args s 0 0 (wA E)) (F0 m 80 ls [.int z1, .ref (wad E 1)]) := by
  unfold fX9_two_80 at hf
  obtain ⟨hx, hb, hr, hml, hown, hts, hlocks, hG, hV, hZ⟩ := id B
  obtain ⟨r6, hc5, hf⟩ := wbind_e hf
  refine wc_S (As := [.ref (wad E 1), .int z1]) (rest := []) hx hb hml hown hts hG hV hZ (cX0_ofTwo_ok l E M 1 (rfl : wkd 1 = 4) z1 hc5) (va_cwS 2 hts gl_X9_222 rfl rfl rfl cdX0_ofTwo ⟨Nat.le_of_ble_eq_true rfl, Nat.le_of_ble_eq_true rfl⟩) rfl hl.1 rfl (Nat.le_of_ble_eq_true rfl) dX9_two_80 ⟨Nat.zero_le _, Nat.zero_le _⟩ hW hS rfl (fun H locs hW hS => ?_)
  have hres := Option.some.inj hf
  subst hres
  exact W.lret hx hb hr (wr_q hG hV hZ hW hS) hS.2.2 dX9_two_83
set_option maxRecDepth 100000 in
set_option maxHeartbeats 4000000 in
theorem pX9_two_21 (B : wB E p s m args meth c cX9_two 2 RX9 (some .long)) {M : wMem} {y1 : Int32}  {res : Int64 × wMem}   (hf : fX9_two_21 M  y1 = some res) {H : Heap} {locs : List Loc} {ls : Array Slot} (hW : wH E M H) (hS : va_S (wA E) s.heap H locs) (hl : lv_has ls 2 [(0, .ref (wad E 0)), (1, .int y1)]) : W p l e ({ frames := 3, cells := 0, slots := 0, locals := 74 } : Room) s m args below meth c H locs 0 0 (MQ below (wQ E (some (.long res.1)) res.2) args s 0 0 (wA E)) (F0 m 21 ls []) := by
  unfold fX9_two_21 at hf
  obtain ⟨hx, hb, hr, hml, hown, hts, hlocks, hG, hV, hZ⟩ := id B
  refine lv_aload_n hx hb dX9_two_21 rfl (lv_at hl 0 rfl) ?_
  refine wm_get hx hb hts wu_X9 hown hV hW (wlt_8 (rfl : wkd 0 = 8)) (wen_8 (rfl : wkd 0 = 8)) (C := RX9) (T := TX9) (N := 10) rfl 0 (by decide) (hts _ wA_231) rfl dX9_two_22 ?_
  refine wm_get hx hb hts wu_X5 hown hV hW (wlt_4 (rfl : wkd 1 = 4)) (wen_4 (rfl : wkd 1 = 4)) (C := RX5) (T := TX5) (N := 4) rfl 2 (by decide) (hts _ wA_121) rfl dX9_two_25 ?_
  rcases wif_e hf with ⟨hq2, hf⟩ | ⟨hq2, hf⟩
  · refine lv_if_ne (tgt := 43) hx hb dX9_two_28 (by decide) (fun h => absurd hq2 h) (fun _ => ?_)
    refine lv_ldc2 (v := 4000000000000000000) hx hb hown (hts _ wA_662) dX9_two_31 ?_
    refine lv_aload_n hx hb dX9_two_34 rfl (lv_at hl 0 rfl) ?_
    refine lv_bipush (v := (-3)) hx hb dX9_two_35 (by decide) ?_
    obtain ⟨r11, M12, hc10, hf⟩ := wbind_p hf
    refine wc_V (As := [.int (-3)]) (rest := [.long (4000000000000000000 : Int64)]) hx hb hml hown hts hG hV hZ (wlt_8 (rfl : wkd 0 = 8)) (q := (RX9, TX9, 10)) (wen_8 (rfl : wkd 0 = 8)) rfl (cX9_refuse_ok l E M (-3) hc10) (cwV 1 hts gl_X9_65 rfl rfl rfl cdX9_refuse ⟨Nat.le_of_ble_eq_true rfl, Nat.le_of_ble_eq_true rfl⟩) rfl hl.1 rfl (Nat.le_of_ble_eq_true rfl) dX9_two_37 ⟨Nat.zero_le _, Nat.zero_le _⟩ hW hS rfl (fun H locs hW hS => ?_)
    refine lv_i2l hx hb dX9_two_40 rfl ?_
    refine lv_lsub hx hb dX9_two_41 ?_
    have hres := Option.some.inj hf
    subst hres
    exact W.lret hx hb hr (wr_q hG hV hZ hW hS) hS.2.2 dX9_two_42
  · refine lv_if_ne (tgt := 43) hx hb dX9_two_28 (by decide) (fun _ => ?_) (fun h => absurd h hq2)
    refine lv_aload_n hx hb dX9_two_43 rfl (lv_at hl 0 rfl) ?_
    refine wm_get hx hb hts wu_X9 hown hV hW (wlt_8 (rfl : wkd 0 = 8)) (wen_8 (rfl : wkd 0 = 8)) (C := RX9) (T := TX9) (N := 10) rfl 0 (by decide) (hts _ wA_231) rfl dX9_two_44 ?_
    refine wm_get hx hb hts wu_X5 hown hV hW (wlt_4 (rfl : wkd 1 = 4)) (wen_4 (rfl : wkd 1 = 4)) (C := RX5) (T := TX5) (N := 4) rfl 2 (by decide) (hts _ wA_121) rfl dX9_two_47 ?_
    refine lv_bipush (v := 8) hx hb dX9_two_50 (by decide) ?_
    rcases wif_e hf with ⟨hq3, hf⟩ | ⟨hq3, hf⟩
    · refine lv_icmp_le (tgt := 67) hx hb dX9_two_52 (by decide) (fun _ => ?_) (fun h => absurd hq3 h)
      refine lv_aload_n hx hb dX9_two_67 rfl (lv_at hl 0 rfl) ?_
      refine wm_get hx hb hts wu_X9 hown hV hW (wlt_8 (rfl : wkd 0 = 8)) (wen_8 (rfl : wkd 0 = 8)) (C := RX9) (T := TX9) (N := 10) rfl 0 (by decide) (hts _ wA_231) rfl dX9_two_68 ?_
      refine lv_iload_n hx hb dX9_two_71 rfl (lv_at hl 1 rfl) ?_
      rcases wif_e hf with ⟨hq4, hf⟩ | ⟨hq4, hf⟩
      · refine lv_if_ne (tgt := 79) hx hb dX9_two_72 (by decide) (fun h => absurd hq4 h) (fun _ => ?_)
        refine lv_iconst (v := 1) hx hb dX9_two_75 rfl ?_
        refine lv_goto (tgt := 80) hx hb dX9_two_76 (by decide) ?_
        exact pX9_two_80 B   hf hW hS (lv_sub hl [] rfl)
      · refine lv_if_ne (tgt := 79) hx hb dX9_two_72 (by decide) (fun _ => ?_) (fun h => absurd h hq4)
        refine lv_iconst (v := 0) hx hb dX9_two_79 rfl ?_
        exact pX9_two_80 B   hf hW hS (lv_sub hl [] rfl)
    · refine lv_icmp_le (tgt := 67) hx hb dX9_two_52 (by decide) (fun h => absurd h hq3) (fun _ => ?_)
      refine lv_ldc2 (v := 4000000000000000000) hx hb hown (hts _ wA_662) dX9_two_55 ?_
      refine lv_aload_n hx hb dX9_two_58 rfl (lv_at hl 0 rfl) ?_
      refine lv_bipush (v := (-6)) hx hb dX9_two_59 (by decide) ?_
      obtain ⟨r8, M9, hc7, hf⟩ := wbind_p hf
      refine wc_V (As := [.int (-6)]) (rest := [.long (4000000000000000000 : Int64)]) hx hb hml hown hts hG hV hZ (wlt_8 (rfl : wkd 0 = 8)) (q := (RX9, TX9, 10)) (wen_8 (rfl : wkd 0 = 8)) rfl (cX9_refuse_ok l E M (-6) hc7) (cwV 1 hts gl_X9_65 rfl rfl rfl cdX9_refuse ⟨Nat.le_of_ble_eq_true rfl, Nat.le_of_ble_eq_true rfl⟩) rfl hl.1 rfl (Nat.le_of_ble_eq_true rfl) dX9_two_61 ⟨Nat.zero_le _, Nat.zero_le _⟩ hW hS rfl (fun H locs hW hS => ?_)
      refine lv_i2l hx hb dX9_two_64 rfl ?_
      refine lv_lsub hx hb dX9_two_65 ?_
      have hres := Option.some.inj hf
      subst hres
      exact W.lret hx hb hr (wr_q hG hV hZ hW hS) hS.2.2 dX9_two_66
set_option maxRecDepth 100000 in
set_option maxHeartbeats 4000000 in
theorem pX9_two (B : wB E p s m args meth c cX9_two 2 RX9 (some .long)) {M : wMem} {a1 : Int32}  {res : Int64 × wMem} (hf : fX9_two M a1 = some res) {H : Heap} {locs : List Loc} {ls : Array Slot} (hW : wH E M H) (hS : va_S (wA E) s.heap H locs) (hl : lv_has ls 2 [(0, .ref (wad E 0)), (1, .int a1)]) : W p l e ({ frames := 3, cells := 0, slots := 0, locals := 74 } : Room) s m args below meth c H locs 0 0 (MQ below (wQ E (some (.long res.1)) res.2) args s 0 0 (wA E)) (F0 m 0 ls []) := by
  unfold fX9_two at hf
  obtain ⟨hx, hb, hr, hml, hown, hts, hlocks, hG, hV, hZ⟩ := id B
  refine lv_iload_n hx hb dX9_two_0 rfl (lv_at hl 1 rfl) ?_
  rcases wif_e hf with ⟨hq1, hf⟩ | ⟨hq1, hf⟩
  · refine lv_if_eq (tgt := 21) hx hb dX9_two_1 (by decide) (fun _ => ?_) (fun h => absurd hq1 h)
    exact pX9_two_21 B   hf hW hS (lv_sub hl [0, 1] rfl)
  · refine lv_if_eq (tgt := 21) hx hb dX9_two_1 (by decide) (fun h => absurd h hq1) (fun _ => ?_)
    refine lv_iload_n hx hb dX9_two_4 rfl (lv_at hl 1 rfl) ?_
    refine lv_iconst (v := 1) hx hb dX9_two_5 rfl ?_
    rcases wif_e hf with ⟨hq13, hf⟩ | ⟨hq13, hf⟩
    · refine lv_icmp_eq (tgt := 21) hx hb dX9_two_6 (by decide) (fun _ => ?_) (fun h => absurd hq13 h)
      exact pX9_two_21 B   hf hW hS (lv_sub hl [0, 1] rfl)
    · refine lv_icmp_eq (tgt := 21) hx hb dX9_two_6 (by decide) (fun h => absurd h hq13) (fun _ => ?_)
      refine lv_ldc2 (v := 4000000000000000000) hx hb hown (hts _ wA_662) dX9_two_9 ?_
      refine lv_aload_n hx hb dX9_two_12 rfl (lv_at hl 0 rfl) ?_
      refine lv_bipush (v := (-2)) hx hb dX9_two_13 (by decide) ?_
      obtain ⟨r15, M16, hc14, hf⟩ := wbind_p hf
      refine wc_V (As := [.int (-2)]) (rest := [.long (4000000000000000000 : Int64)]) hx hb hml hown hts hG hV hZ (wlt_8 (rfl : wkd 0 = 8)) (q := (RX9, TX9, 10)) (wen_8 (rfl : wkd 0 = 8)) rfl (cX9_refuse_ok l E M (-2) hc14) (cwV 1 hts gl_X9_65 rfl rfl rfl cdX9_refuse ⟨Nat.le_of_ble_eq_true rfl, Nat.le_of_ble_eq_true rfl⟩) rfl hl.1 rfl (Nat.le_of_ble_eq_true rfl) dX9_two_15 ⟨Nat.zero_le _, Nat.zero_le _⟩ hW hS rfl (fun H locs hW hS => ?_)
      refine lv_i2l hx hb dX9_two_18 rfl ?_
      refine lv_lsub hx hb dX9_two_19 ?_
      have hres := Option.some.inj hf
      subst hres
      exact W.lret hx hb hr (wr_q hG hV hZ hW hS) hS.2.2 dX9_two_20
theorem cX9_two_ok (l : Launch) (E : wE) (M : wMem) (a1 : Int32) {res : Int64 × wMem} (hf : fX9_two M a1 = some res) : wMet l yX9_two (wsM yX9_two cX9_two 2 (some .long)) ({ frames := 3, cells := 0, slots := 0, locals := 74 } : Room) E M [.ref (wad E 0), .int a1] (some (.long res.1)) res.2 :=
  wc_of (cc := cX9_two) (maxL := 2) (ret := (some .long)) (by decide) (Nat.le_of_ble_eq_true rfl) (fun _ _ _ _ _ _ _ _ B hW hl => pX9_two B  hf hW va_S.rf hl)
end
theorem cdX4_drawBelow : yX4_drawBelow.cls ≠ "java/lang/invoke/MethodHandle" ∧ yX4_drawBelow.cls ≠ "java/lang/invoke/VarHandle" ∧ (parseMethodDescriptor yX4_drawBelow.desc).map (fun d => d.parameters.length) = some 2 := by decide +kernel
section
variable {p : Program} {l : Launch} {e : Env} {s : State} {m : MethodId} {args : Array Value} {below : List Frame} {meth : Method} {c : Code} {E : wE}
set_option maxRecDepth 100000 in
set_option maxHeartbeats 4000000 in
theorem pX4_drawBelow (B : wB E p s m args meth c cX4_drawBelow 2 RX4 (some .int)) {M : wMem} {a0 : Int32} {a1 : Int32}  {res : Int32} (hf : fX4_drawBelow M a0 a1 = some res) {H : Heap} {locs : List Loc} {ls : Array Slot} (hW : wH E M H) (hS : va_S (wA E) s.heap H locs) (hl : lv_has ls 2 [(0, .int a0), (1, .int a1)]) : W p l e ({ frames := 0, cells := 0, slots := 0, locals := 0 } : Room) s m args below meth c H locs 0 0 (MQ below (wQ E (some (.int res)) M) args s 0 0 (wA E)) (F0 m 0 ls []) := by
  unfold fX4_drawBelow at hf
  obtain ⟨hx, hb, hr, hml, hown, hts, hlocks, hG, hV, hZ⟩ := id B
  refine lv_iload_n hx hb dX4_drawBelow_0 rfl (lv_at hl 1 rfl) ?_
  rcases wif_e hf with ⟨hq1, hf⟩ | ⟨hq1, hf⟩
  · refine lv_if_gt (tgt := 8) hx hb dX4_drawBelow_1 (by decide) (fun _ => ?_) (fun h => absurd hq1 h)
    refine lv_iload_n hx hb dX4_drawBelow_8 rfl (lv_at hl 0 rfl) ?_
    refine lv_ldc (v := 2147483647) hx hb hown (hts _ wA_684) dX4_drawBelow_9 ?_
    refine lv_iand hx hb dX4_drawBelow_11 ?_
    refine lv_ldc (v := 65536) hx hb hown (hts _ wA_685) dX4_drawBelow_12 ?_
    obtain ⟨hz2, hf⟩ := wgz_e hf
    refine lv_idiv hx hb dX4_drawBelow_14 hz2 ?_
    refine lv_iload_n hx hb dX4_drawBelow_15 rfl (lv_at hl 1 rfl) ?_
    obtain ⟨hz3, hf⟩ := wgz_e hf
    refine lv_irem hx hb dX4_drawBelow_16 hz3 ?_
    have hres := Option.some.inj hf
    subst hres
    exact W.iret hx hb hr (wr_q hG hV hZ hW hS) hS.2.2 dX4_drawBelow_17
  · refine lv_if_gt (tgt := 8) hx hb dX4_drawBelow_1 (by decide) (fun h => absurd h hq1) (fun _ => ?_)
    refine lv_iconst (v := 0) hx hb dX4_drawBelow_4 rfl ?_
    refine lv_goto (tgt := 17) hx hb dX4_drawBelow_5 (by decide) ?_
    have hres := Option.some.inj hf
    subst hres
    exact W.iret hx hb hr (wr_q hG hV hZ hW hS) hS.2.2 dX4_drawBelow_17
theorem cX4_drawBelow_ok (l : Launch) (E : wE) (M : wMem) (a0 : Int32) (a1 : Int32) {res : Int32} (hf : fX4_drawBelow M a0 a1 = some res) : wMet l yX4_drawBelow (wsM yX4_drawBelow cX4_drawBelow 2 (some .int)) ({ frames := 0, cells := 0, slots := 0, locals := 0 } : Room) E M [.int a0, .int a1] (some (.int res)) M :=
  wc_of (cc := cX4_drawBelow) (maxL := 2) (ret := (some .int)) (by decide) (Nat.le_of_ble_eq_true rfl) (fun _ _ _ _ _ _ _ _ B hW hl => pX4_drawBelow B  hf hW va_S.rf hl)
end
theorem cdX4_wellAfterTouches : yX4_wellAfterTouches.cls = RX4 ∧ yX4_wellAfterTouches.cls ≠ "java/lang/invoke/MethodHandle" ∧ yX4_wellAfterTouches.cls ≠ "java/lang/invoke/VarHandle" ∧ (parseMethodDescriptor yX4_wellAfterTouches.desc).map (fun d => d.parameters.length) = some 3 := by decide +kernel
section
variable {p : Program} {l : Launch} {e : Env} {s : State} {m : MethodId} {args : Array Value} {below : List Frame} {meth : Method} {c : Code} {E : wE}
set_option maxRecDepth 100000 in
set_option maxHeartbeats 4000000 in
theorem pX4_wellAfterTouches_12_b (B : wB E p s m args meth c cX4_wellAfterTouches 6 RX4 (some .int)) {M : wMem} {y2 : Int32} {y4 : Int32} {y5 : Int32}  {rec12 : (Int32 × Int32 × wMem → Option (Int32 × wMem))} {res : Int32 × wMem}   (hrec12 : ∀ (y4' : Int32) (y5' : Int32) (M' : wMem), rec12 (y4', y5', M') = some res → ∀ (H : Heap) (locs : List Loc) (ls : Array Slot), wH E M' H → va_S (wA E) s.heap H locs → lv_has ls 6 [(0, .ref (wad E 31)), (2, .int y2), (4, .int y4'), (5, .int y5')] → W p l e ({ frames := 4, cells := 0, slots := 0, locals := 89 } : Room) s m args below meth c H locs 0 0 (MQ below (wQ E (some (.int res.1)) res.2) args s 0 0 (wA E)) (F0 m 12 ls [])) (hf : fX4_wellAfterTouches_12_b M  rec12 y2 y4 y5 = some res) {H : Heap} {locs : List Loc} {ls : Array Slot} (hW : wH E M H) (hS : va_S (wA E) s.heap H locs) (hl : lv_has ls 6 [(0, .ref (wad E 31)), (2, .int y2), (4, .int y4), (5, .int y5)]) : W p l e ({ frames := 4, cells := 0, slots := 0, locals := 89 } : Room) s m args below meth c H locs 0 0 (MQ below (wQ E (some (.int res.1)) res.2) args s 0 0 (wA E)) (F0 m 12 ls []) := by
  unfold fX4_wellAfterTouches_12_b at hf
  obtain ⟨hx, hb, hr, hml, hown, hts, hlocks, hG, hV, hZ⟩ := id B
  refine lv_iload hx hb dX4_wellAfterTouches_12 (lv_at hl 3 rfl) ?_
  refine lv_iload_n hx hb dX4_wellAfterTouches_14 rfl (lv_at hl 1 rfl) ?_
  rcases wif_e hf with ⟨hq4, hf⟩ | ⟨hq4, hf⟩
  · refine lv_icmp_ge (tgt := 62) hx hb dX4_wellAfterTouches_15 (by decide) (fun _ => ?_) (fun h => absurd hq4 h)
    refine lv_aload_n hx hb dX4_wellAfterTouches_62 rfl (lv_at hl 0 rfl) ?_
    refine wm_get hx hb hts wu_X4 hown hV hW (wlt_3 (rfl : wkd 31 = 3)) (wen_3 (rfl : wkd 31 = 3)) (C := RX4) (T := TX4) (N := 1) rfl 0 (by decide) (hts _ wA_141) rfl dX4_wellAfterTouches_63 ?_
    refine lv_iconst (v := 0) hx hb dX4_wellAfterTouches_66 rfl ?_
    obtain ⟨r6, hc5, hf⟩ := wbind_e hf
    refine wc_V (As := [.int 0]) (rest := []) hx hb hml hown hts hG hV hZ (wlt_4 (rfl : wkd 32 = 4)) (q := (RX5, TX5, 4)) (wen_4 (rfl : wkd 32 = 4)) rfl (cX5_howMany_ok l E M 32 (rfl : wkd 32 = 4) 0 hc5) (cwV 1 hts gl_X4_51 rfl rfl rfl cdX5_howMany ⟨Nat.le_of_ble_eq_true rfl, Nat.le_of_ble_eq_true rfl⟩) rfl hl.1 rfl (Nat.le_of_ble_eq_true rfl) dX4_wellAfterTouches_67 ⟨Nat.zero_le _, Nat.zero_le _⟩ hW hS rfl (fun H locs hW hS => ?_)
    have hres := Option.some.inj hf
    subst hres
    exact W.iret hx hb hr (wr_q hG hV hZ hW hS) hS.2.2 dX4_wellAfterTouches_70
  · refine lv_icmp_ge (tgt := 62) hx hb dX4_wellAfterTouches_15 (by decide) (fun h => absurd h hq4) (fun _ => ?_)
    refine lv_iload hx hb dX4_wellAfterTouches_18 (lv_at hl 2 rfl) ?_
    refine lv_ldc (v := 1103515245) hx hb hown (hts _ wA_680) dX4_wellAfterTouches_20 ?_
    refine lv_imul hx hb dX4_wellAfterTouches_22 ?_
    refine lv_sipush (v := 12345) hx hb dX4_wellAfterTouches_23 (by decide) ?_
    refine lv_iadd hx hb dX4_wellAfterTouches_26 ?_
    refine lv_topi (fun x7 ex7 => ?_)
    replace hf := wlet_y ex7 hf
    refine lv_istore (lv' := [(4, .int x7), (0, .ref (wad E 31)), (2, .int y2), (5, .int y5)]) hx hb dX4_wellAfterTouches_27 hl (by decide) rfl (fun ls hl => ?_)
    refine lv_aload_n hx hb dX4_wellAfterTouches_29 rfl (lv_at hl 1 rfl) ?_
    refine wm_get hx hb hts wu_X4 hown hV hW (wlt_3 (rfl : wkd 31 = 3)) (wen_3 (rfl : wkd 31 = 3)) (C := RX4) (T := TX4) (N := 1) rfl 0 (by decide) (hts _ wA_141) rfl dX4_wellAfterTouches_30 ?_
    refine lv_iload hx hb dX4_wellAfterTouches_33 (lv_at hl 0 rfl) ?_
    refine lv_aload_n hx hb dX4_wellAfterTouches_35 rfl (lv_at hl 1 rfl) ?_
    refine wm_get hx hb hts wu_X4 hown hV hW (wlt_3 (rfl : wkd 31 = 3)) (wen_3 (rfl : wkd 31 = 3)) (C := RX4) (T := TX4) (N := 1) rfl 0 (by decide) (hts _ wA_141) rfl dX4_wellAfterTouches_36 ?_
    refine wm_get hx hb hts wu_X5 hown hV hW (wlt_4 (rfl : wkd 32 = 4)) (wen_4 (rfl : wkd 32 = 4)) (C := RX5) (T := TX5) (N := 4) rfl 2 (by decide) (hts _ wA_120) rfl dX4_wellAfterTouches_39 ?_
    obtain ⟨r9, hc8, hf⟩ := wbind_e hf
    refine wc_S (As := [.int x7, .int (M 32 2)]) (rest := [.ref (wad E 32)]) hx hb hml hown hts hG hV hZ (cX4_drawBelow_ok l E M x7 (M 32 2) hc8) (va_cwS 2 hts gl_X4_69 rfl rfl rfl cdX4_drawBelow ⟨Nat.le_of_ble_eq_true rfl, Nat.le_of_ble_eq_true rfl⟩) rfl hl.1 rfl (Nat.le_of_ble_eq_true rfl) dX4_wellAfterTouches_42 ⟨Nat.zero_le _, Nat.zero_le _⟩ hW hS rfl (fun H locs hW hS => ?_)
    obtain ⟨M12, hc10, hf⟩ := wbind_e hf
    refine wc_V (As := [.int r9]) (rest := []) hx hb hml hown hts hG hV hZ (wlt_4 (rfl : wkd 32 = 4)) (q := (RX5, TX5, 4)) (wen_4 (rfl : wkd 32 = 4)) rfl (cX5_touchAt_ok l E M 32 (rfl : wkd 32 = 4) r9 hc10) (cwV 1 hts gl_X4_73 rfl rfl rfl cdX5_touchAt ⟨Nat.le_of_ble_eq_true rfl, Nat.le_of_ble_eq_true rfl⟩) rfl hl.1 rfl (Nat.le_of_ble_eq_true rfl) dX4_wellAfterTouches_45 ⟨Nat.zero_le _, Nat.zero_le _⟩ hW hS rfl (fun H locs hW hS => ?_)
    refine lv_aload_n hx hb dX4_wellAfterTouches_48 rfl (lv_at hl 1 rfl) ?_
    refine wm_get hx hb hts wu_X4 hown hV hW (wlt_3 (rfl : wkd 31 = 3)) (wen_3 (rfl : wkd 31 = 3)) (C := RX4) (T := TX4) (N := 1) rfl 0 (by decide) (hts _ wA_141) rfl dX4_wellAfterTouches_49 ?_
    obtain ⟨r14, M15, hc13, hf⟩ := wbind_p hf
    refine wc_V (As := []) (rest := []) hx hb hml hown hts hG hV hZ (wlt_4 (rfl : wkd 32 = 4)) (q := (RX5, TX5, 4)) (wen_4 (rfl : wkd 32 = 4)) rfl (cX5_passHour_ok l E M12 32 (rfl : wkd 32 = 4) hc13) (cwV 0 hts gl_X4_30 rfl rfl rfl cdX5_passHour ⟨Nat.le_of_ble_eq_true rfl, Nat.le_of_ble_eq_true rfl⟩) rfl hl.1 rfl (Nat.le_of_ble_eq_true rfl) dX4_wellAfterTouches_52 ⟨Nat.zero_le _, Nat.zero_le _⟩ hW hS rfl (fun H locs hW hS => ?_)
    refine lv_pop hx hb dX4_wellAfterTouches_55 rfl ?_
    obtain ⟨x16, ex16, hf⟩ := wlet_e hf
    refine lv_iinc (v := x16) (lv' := [(5, .int x16), (4, .int x7), (0, .ref (wad E 31)), (2, .int y2)]) hx hb dX4_wellAfterTouches_56 hl (k := 3) rfl (by rw [ex16]; rfl) (by decide) rfl (fun ls hl => ?_)
    refine lv_goto (tgt := 12) hx hb dX4_wellAfterTouches_59 (by decide) ?_
    exact hrec12 x7 x16 M15 hf _ _ _ hW hS (lv_sub hl [2, 3, 1, 0] rfl)
set_option maxRecDepth 100000 in
set_option maxHeartbeats 4000000 in
theorem pX4_wellAfterTouches_12 (B : wB E p s m args meth c cX4_wellAfterTouches 6 RX4 (some .int)) {M : wMem} {y2 : Int32} {y4 : Int32} {y5 : Int32}  {res : Int32 × wMem}   (hf : fX4_wellAfterTouches_12 M  y2 y4 y5 = some res) {H : Heap} {locs : List Loc} {ls : Array Slot} (hW : wH E M H) (hS : va_S (wA E) s.heap H locs) (hl : lv_has ls 6 [(0, .ref (wad E 31)), (2, .int y2), (4, .int y4), (5, .int y5)]) : W p l e ({ frames := 4, cells := 0, slots := 0, locals := 89 } : Room) s m args below meth c H locs 0 0 (MQ below (wQ E (some (.int res.1)) res.2) args s 0 0 (wA E)) (F0 m 12 ls []) := by
  have key := wloop_W (b := (fun rec12 t => fX4_wellAfterTouches_12_b t.2.2  rec12 y2 t.1 t.2.1)) (P := fun t => ∀ (H : Heap) (locs : List Loc) (ls : Array Slot), wH E t.2.2 H → va_S (wA E) s.heap H locs → lv_has ls 6 [(0, .ref (wad E 31)), (2, .int y2), (4, .int t.1), (5, .int t.2.1)] → W p l e ({ frames := 4, cells := 0, slots := 0, locals := 89 } : Room) s m args below meth c H locs 0 0 (MQ below (wQ E (some (.int res.1)) res.2) args s 0 0 (wA E)) (F0 m 12 ls [])) (r := res) (fun rec hrec t hf H locs ls hW hS hl => pX4_wellAfterTouches_12_b B   (fun v0 v1 v2 hf H locs ls hW hS hl => hrec (v0, v1, v2) hf H locs ls hW hS hl) hf hW hS hl)
  exact key wfuel (y4, y5, M) hf H locs ls hW hS hl
set_option maxRecDepth 100000 in
set_option maxHeartbeats 4000000 in
theorem pX4_wellAfterTouches (B : wB E p s m args meth c cX4_wellAfterTouches 6 RX4 (some .int)) {M : wMem} {k1 : Nat} {a2 : Int32} {a3 : Int32} (hk1 : wkd k1 = 4) {res : Int32 × wMem} (hf : fX4_wellAfterTouches M k1 a2 a3 = some res) {H : Heap} {locs : List Loc} {ls : Array Slot} (hW : wH E M H) (hS : va_S (wA E) s.heap H locs) (hl : lv_has ls 6 [(0, .ref (wad E 31)), (1, .ref (wad E k1)), (2, .int a2), (3, .int a3)]) : W p l e ({ frames := 4, cells := 0, slots := 0, locals := 89 } : Room) s m args below meth c H locs 0 0 (MQ below (wQ E (some (.int res.1)) res.2) args s 0 0 (wA E)) (F0 m 0 ls []) := by
  unfold fX4_wellAfterTouches at hf
  obtain ⟨hx, hb, hr, hml, hown, hts, hlocks, hG, hV, hZ⟩ := id B
  refine lv_aload_n hx hb dX4_wellAfterTouches_0 rfl (lv_at hl 0 rfl) ?_
  refine lv_aload_n hx hb dX4_wellAfterTouches_1 rfl (lv_at hl 1 rfl) ?_
  obtain ⟨M3, hc1, hf⟩ := wbind_e hf
  refine wc_V (As := [.ref (wad E k1)]) (rest := []) hx hb hml hown hts hG hV hZ (wlt_3 (rfl : wkd 31 = 3)) (q := (RX4, TX4, 1)) (wen_3 (rfl : wkd 31 = 3)) rfl (cX4_startFrom_ok l E M k1 hk1 hc1) (cwV 1 hts gl_X4_22 rfl rfl rfl cdX4_startFrom ⟨Nat.le_of_ble_eq_true rfl, Nat.le_of_ble_eq_true rfl⟩) rfl hl.1 rfl (Nat.le_of_ble_eq_true rfl) dX4_wellAfterTouches_2 ⟨Nat.zero_le _, Nat.zero_le _⟩ hW hS rfl (fun H locs hW hS => ?_)
  refine lv_pop hx hb dX4_wellAfterTouches_5 rfl ?_
  refine lv_iload_n hx hb dX4_wellAfterTouches_6 rfl (lv_at hl 3 rfl) ?_
  refine lv_istore (lv' := [(4, .int a3), (0, .ref (wad E 31)), (1, .ref (wad E k1)), (2, .int a2), (3, .int a3)]) hx hb dX4_wellAfterTouches_7 hl (by decide) rfl (fun ls hl => ?_)
  refine lv_iconst (v := 0) hx hb dX4_wellAfterTouches_9 rfl ?_
  refine lv_istore (lv' := [(5, .int 0), (4, .int a3), (0, .ref (wad E 31)), (1, .ref (wad E k1)), (2, .int a2), (3, .int a3)]) hx hb dX4_wellAfterTouches_10 hl (by decide) rfl (fun ls hl => ?_)
  exact pX4_wellAfterTouches_12 B   hf hW hS (lv_sub hl [2, 4, 1, 0] rfl)
theorem cX4_wellAfterTouches_ok (l : Launch) (E : wE) (M : wMem) (k1 : Nat) (hk1 : wkd k1 = 4) (a2 : Int32) (a3 : Int32) {res : Int32 × wMem} (hf : fX4_wellAfterTouches M k1 a2 a3 = some res) : wMet l yX4_wellAfterTouches (wsM yX4_wellAfterTouches cX4_wellAfterTouches 6 (some .int)) ({ frames := 4, cells := 0, slots := 0, locals := 89 } : Room) E M [.ref (wad E 31), .ref (wad E k1), .int a2, .int a3] (some (.int res.1)) res.2 :=
  wc_of (cc := cX4_wellAfterTouches) (maxL := 6) (ret := (some .int)) (by decide) (Nat.le_of_ble_eq_true rfl) (fun _ _ _ _ _ _ _ _ B hW hl => pX4_wellAfterTouches B hk1 hf hW va_S.rf hl)
end
theorem cdX9_seeds : yX9_seeds.cls = RX9 ∧ yX9_seeds.cls ≠ "java/lang/invoke/MethodHandle" ∧ yX9_seeds.cls ≠ "java/lang/invoke/VarHandle" ∧ (parseMethodDescriptor yX9_seeds.desc).map (fun d => d.parameters.length) = some 2 := by decide +kernel
section
variable {p : Program} {l : Launch} {e : Env} {s : State} {m : MethodId} {args : Array Value} {below : List Frame} {meth : Method} {c : Code} {E : wE}
set_option maxRecDepth 100000 in
set_option maxHeartbeats 4000000 in
theorem pX9_seeds (B : wB E p s m args meth c cX9_seeds 3 RX9 (some .int)) {M : wMem} {a1 : Int32} {a2 : Int32}  {res : Int32 × wMem} (hf : fX9_seeds M a1 a2 = some res) {H : Heap} {locs : List Loc} {ls : Array Slot} (hW : wH E M H) (hS : va_S (wA E) s.heap H locs) (hl : lv_has ls 3 [(0, .ref (wad E 0)), (1, .int a1), (2, .int a2)]) : W p l e ({ frames := 5, cells := 0, slots := 0, locals := 114 } : Room) s m args below meth c H locs 0 0 (MQ below (wQ E (some (.int res.1)) res.2) args s 0 0 (wA E)) (F0 m 0 ls []) := by
  unfold fX9_seeds at hf
  obtain ⟨hx, hb, hr, hml, hown, hts, hlocks, hG, hV, hZ⟩ := id B
  refine lv_iload_n hx hb dX9_seeds_0 rfl (lv_at hl 1 rfl) ?_
  refine lv_iconst (v := 1) hx hb dX9_seeds_1 rfl ?_
  rcases wif_e hf with ⟨hq1, hf⟩ | ⟨hq1, hf⟩
  · refine lv_icmp_ge (tgt := 12) hx hb dX9_seeds_2 (by decide) (fun _ => ?_) (fun h => absurd hq1 h)
    refine lv_iload_n hx hb dX9_seeds_12 rfl (lv_at hl 1 rfl) ?_
    refine lv_bipush (v := 50) hx hb dX9_seeds_13 (by decide) ?_
    rcases wif_e hf with ⟨hq2, hf⟩ | ⟨hq2, hf⟩
    · refine lv_icmp_le (tgt := 25) hx hb dX9_seeds_15 (by decide) (fun _ => ?_) (fun h => absurd hq2 h)
      refine lv_aload_n hx hb dX9_seeds_25 rfl (lv_at hl 0 rfl) ?_
      refine wm_get hx hb hts wu_X9 hown hV hW (wlt_8 (rfl : wkd 0 = 8)) (wen_8 (rfl : wkd 0 = 8)) (C := RX9) (T := TX9) (N := 10) rfl 0 (by decide) (hts _ wA_231) rfl dX9_seeds_26 ?_
      refine wm_get hx hb hts wu_X5 hown hV hW (wlt_4 (rfl : wkd 1 = 4)) (wen_4 (rfl : wkd 1 = 4)) (C := RX5) (T := TX5) (N := 4) rfl 2 (by decide) (hts _ wA_121) rfl dX9_seeds_29 ?_
      rcases wif_e hf with ⟨hq3, hf⟩ | ⟨hq3, hf⟩
      · refine lv_if_ne (tgt := 42) hx hb dX9_seeds_32 (by decide) (fun h => absurd hq3 h) (fun _ => ?_)
        refine lv_aload_n hx hb dX9_seeds_35 rfl (lv_at hl 0 rfl) ?_
        refine lv_bipush (v := (-3)) hx hb dX9_seeds_36 (by decide) ?_
        obtain ⟨r8, M9, hc7, hf⟩ := wbind_p hf
        refine wc_V (As := [.int (-3)]) (rest := []) hx hb hml hown hts hG hV hZ (wlt_8 (rfl : wkd 0 = 8)) (q := (RX9, TX9, 10)) (wen_8 (rfl : wkd 0 = 8)) rfl (cX9_refuse_ok l E M (-3) hc7) (cwV 1 hts gl_X9_65 rfl rfl rfl cdX9_refuse ⟨Nat.le_of_ble_eq_true rfl, Nat.le_of_ble_eq_true rfl⟩) rfl hl.1 rfl (Nat.le_of_ble_eq_true rfl) dX9_seeds_38 ⟨Nat.zero_le _, Nat.zero_le _⟩ hW hS rfl (fun H locs hW hS => ?_)
        have hres := Option.some.inj hf
        subst hres
        exact W.iret hx hb hr (wr_q hG hV hZ hW hS) hS.2.2 dX9_seeds_41
      · refine lv_if_ne (tgt := 42) hx hb dX9_seeds_32 (by decide) (fun _ => ?_) (fun h => absurd h hq3)
        refine lv_aload_n hx hb dX9_seeds_42 rfl (lv_at hl 0 rfl) ?_
        refine wm_get hx hb hts wu_X9 hown hV hW (wlt_8 (rfl : wkd 0 = 8)) (wen_8 (rfl : wkd 0 = 8)) (C := RX9) (T := TX9) (N := 10) rfl 2 (by decide) (hts _ wA_233) rfl dX9_seeds_43 ?_
        refine lv_aload_n hx hb dX9_seeds_46 rfl (lv_at hl 0 rfl) ?_
        refine wm_get hx hb hts wu_X9 hown hV hW (wlt_8 (rfl : wkd 0 = 8)) (wen_8 (rfl : wkd 0 = 8)) (C := RX9) (T := TX9) (N := 10) rfl 0 (by decide) (hts _ wA_231) rfl dX9_seeds_47 ?_
        refine lv_iload_n hx hb dX9_seeds_50 rfl (lv_at hl 1 rfl) ?_
        refine lv_iload_n hx hb dX9_seeds_51 rfl (lv_at hl 2 rfl) ?_
        obtain ⟨r5, M6, hc4, hf⟩ := wbind_p hf
        refine wc_V (As := [.ref (wad E 1), .int a1, .int a2]) (rest := []) hx hb hml hown hts hG hV hZ (wlt_3 (rfl : wkd 31 = 3)) (q := (RX4, TX4, 1)) (wen_3 (rfl : wkd 31 = 3)) rfl (cX4_wellAfterTouches_ok l E M 1 (rfl : wkd 1 = 4) a1 a2 hc4) (cwV 3 hts gl_X9_228 rfl rfl rfl cdX4_wellAfterTouches ⟨Nat.le_of_ble_eq_true rfl, Nat.le_of_ble_eq_true rfl⟩) rfl hl.1 rfl (Nat.le_of_ble_eq_true rfl) dX9_seeds_52 ⟨Nat.zero_le _, Nat.zero_le _⟩ hW hS rfl (fun H locs hW hS => ?_)
        have hres := Option.some.inj hf
        subst hres
        exact W.iret hx hb hr (wr_q hG hV hZ hW hS) hS.2.2 dX9_seeds_55
    · refine lv_icmp_le (tgt := 25) hx hb dX9_seeds_15 (by decide) (fun h => absurd h hq2) (fun _ => ?_)
      refine lv_aload_n hx hb dX9_seeds_18 rfl (lv_at hl 0 rfl) ?_
      refine lv_bipush (v := (-6)) hx hb dX9_seeds_19 (by decide) ?_
      obtain ⟨r11, M12, hc10, hf⟩ := wbind_p hf
      refine wc_V (As := [.int (-6)]) (rest := []) hx hb hml hown hts hG hV hZ (wlt_8 (rfl : wkd 0 = 8)) (q := (RX9, TX9, 10)) (wen_8 (rfl : wkd 0 = 8)) rfl (cX9_refuse_ok l E M (-6) hc10) (cwV 1 hts gl_X9_65 rfl rfl rfl cdX9_refuse ⟨Nat.le_of_ble_eq_true rfl, Nat.le_of_ble_eq_true rfl⟩) rfl hl.1 rfl (Nat.le_of_ble_eq_true rfl) dX9_seeds_21 ⟨Nat.zero_le _, Nat.zero_le _⟩ hW hS rfl (fun H locs hW hS => ?_)
      have hres := Option.some.inj hf
      subst hres
      exact W.iret hx hb hr (wr_q hG hV hZ hW hS) hS.2.2 dX9_seeds_24
  · refine lv_icmp_ge (tgt := 12) hx hb dX9_seeds_2 (by decide) (fun h => absurd h hq1) (fun _ => ?_)
    refine lv_aload_n hx hb dX9_seeds_5 rfl (lv_at hl 0 rfl) ?_
    refine lv_bipush (v := (-4)) hx hb dX9_seeds_6 (by decide) ?_
    obtain ⟨r14, M15, hc13, hf⟩ := wbind_p hf
    refine wc_V (As := [.int (-4)]) (rest := []) hx hb hml hown hts hG hV hZ (wlt_8 (rfl : wkd 0 = 8)) (q := (RX9, TX9, 10)) (wen_8 (rfl : wkd 0 = 8)) rfl (cX9_refuse_ok l E M (-4) hc13) (cwV 1 hts gl_X9_65 rfl rfl rfl cdX9_refuse ⟨Nat.le_of_ble_eq_true rfl, Nat.le_of_ble_eq_true rfl⟩) rfl hl.1 rfl (Nat.le_of_ble_eq_true rfl) dX9_seeds_8 ⟨Nat.zero_le _, Nat.zero_le _⟩ hW hS rfl (fun H locs hW hS => ?_)
    have hres := Option.some.inj hf
    subst hres
    exact W.iret hx hb hr (wr_q hG hV hZ hW hS) hS.2.2 dX9_seeds_11
theorem cX9_seeds_ok (l : Launch) (E : wE) (M : wMem) (a1 : Int32) (a2 : Int32) {res : Int32 × wMem} (hf : fX9_seeds M a1 a2 = some res) : wMet l yX9_seeds (wsM yX9_seeds cX9_seeds 3 (some .int)) ({ frames := 5, cells := 0, slots := 0, locals := 114 } : Room) E M [.ref (wad E 0), .int a1, .int a2] (some (.int res.1)) res.2 :=
  wc_of (cc := cX9_seeds) (maxL := 3) (ret := (some .int)) (by decide) (Nat.le_of_ble_eq_true rfl) (fun _ _ _ _ _ _ _ _ B hW hl => pX9_seeds B  hf hW va_S.rf hl)
end
theorem cdX9_image : yX9_image.cls = RX9 ∧ yX9_image.cls ≠ "java/lang/invoke/MethodHandle" ∧ yX9_image.cls ≠ "java/lang/invoke/VarHandle" ∧ (parseMethodDescriptor yX9_image.desc).map (fun d => d.parameters.length) = some 0 := by decide +kernel
section
variable {p : Program} {l : Launch} {e : Env} {s : State} {m : MethodId} {args : Array Value} {below : List Frame} {meth : Method} {c : Code} {E : wE}
set_option maxRecDepth 100000 in
set_option maxHeartbeats 4000000 in
theorem pX9_image (B : wB E p s m args meth c cX9_image 1 RX9 (some .int)) {M : wMem}   {res : Int32 × wMem} (hf : fX9_image M  = some res) {H : Heap} {locs : List Loc} {ls : Array Slot} (hW : wH E M H) (hS : va_S (wA E) s.heap H locs) (hl : lv_has ls 1 [(0, .ref (wad E 0))]) : W p l e ({ frames := 2, cells := 0, slots := 0, locals := 43 } : Room) s m args below meth c H locs 0 0 (MQ below (wQ E (some (.int res.1)) res.2) args s 0 0 (wA E)) (F0 m 0 ls []) := by
  unfold fX9_image at hf
  obtain ⟨hx, hb, hr, hml, hown, hts, hlocks, hG, hV, hZ⟩ := id B
  refine lv_aload_n hx hb dX9_image_0 rfl (lv_at hl 0 rfl) ?_
  refine wm_get hx hb hts wu_X9 hown hV hW (wlt_8 (rfl : wkd 0 = 8)) (wen_8 (rfl : wkd 0 = 8)) (C := RX9) (T := TX9) (N := 10) rfl 1 (by decide) (hts _ wA_232) rfl dX9_image_1 ?_
  refine lv_aload_n hx hb dX9_image_4 rfl (lv_at hl 0 rfl) ?_
  refine wm_get hx hb hts wu_X9 hown hV hW (wlt_8 (rfl : wkd 0 = 8)) (wen_8 (rfl : wkd 0 = 8)) (C := RX9) (T := TX9) (N := 10) rfl 0 (by decide) (hts _ wA_231) rfl dX9_image_5 ?_
  obtain ⟨M3, hc1, hf⟩ := wbind_e hf
  refine wc_V (As := [.ref (wad E 1)]) (rest := []) hx hb hml hown hts hG hV hZ (wlt_4 (rfl : wkd 16 = 4)) (q := (RX5, TX5, 4)) (wen_4 (rfl : wkd 16 = 4)) rfl (cX5_copyFrom_ok l E M 16 (rfl : wkd 16 = 4) 1 (rfl : wkd 1 = 4) hc1) (cwV 1 hts gl_X9_89 rfl rfl rfl cdX5_copyFrom ⟨Nat.le_of_ble_eq_true rfl, Nat.le_of_ble_eq_true rfl⟩) rfl hl.1 rfl (Nat.le_of_ble_eq_true rfl) dX9_image_8 ⟨Nat.zero_le _, Nat.zero_le _⟩ hW hS rfl (fun H locs hW hS => ?_)
  refine lv_aload_n hx hb dX9_image_11 rfl (lv_at hl 0 rfl) ?_
  refine lv_iconst (v := 1) hx hb dX9_image_12 rfl ?_
  refine wm_put hx hb hts wu_X9 tyX9 tyX9_ok nmX9 hown hG hV hW hS (wlt_8 (rfl : wkd 0 = 8)) (wen_8 (rfl : wkd 0 = 8)) (C := RX9) (T := TX9) (N := 10) rfl 9 (by decide) (hts _ wA_240) rfl .boolean _ (tyX9_ok 9 (by decide)) rfl rfl (Nat.le_of_ble_eq_true rfl) (wpt_8_9 (rfl : wkd 0 = 8)) dX9_image_13 (fun H locs hW hS => ?_)
  obtain ⟨M4, hW, hf⟩ := wlet_M hW hf
  refine lv_aload_n hx hb dX9_image_16 rfl (lv_at hl 0 rfl) ?_
  refine wm_get hx hb hts wu_X9 hown hV hW (wlt_8 (rfl : wkd 0 = 8)) (wen_8 (rfl : wkd 0 = 8)) (C := RX9) (T := TX9) (N := 10) rfl 0 (by decide) (hts _ wA_231) rfl dX9_image_17 ?_
  refine wm_get hx hb hts wu_X5 hown hV hW (wlt_4 (rfl : wkd 1 = 4)) (wen_4 (rfl : wkd 1 = 4)) (C := RX5) (T := TX5) (N := 4) rfl 3 (by decide) (hts _ wA_123) rfl dX9_image_20 ?_
  have hres := Option.some.inj hf
  subst hres
  exact W.iret hx hb hr (wr_q hG hV hZ hW hS) hS.2.2 dX9_image_23
theorem cX9_image_ok (l : Launch) (E : wE) (M : wMem)  {res : Int32 × wMem} (hf : fX9_image M  = some res) : wMet l yX9_image (wsM yX9_image cX9_image 1 (some .int)) ({ frames := 2, cells := 0, slots := 0, locals := 43 } : Room) E M [.ref (wad E 0)] (some (.int res.1)) res.2 :=
  wc_of (cc := cX9_image) (maxL := 1) (ret := (some .int)) (by decide) (Nat.le_of_ble_eq_true rfl) (fun _ _ _ _ _ _ _ _ B hW hl => pX9_image B  hf hW va_S.rf hl)
end
theorem cdX9_restore : yX9_restore.cls = RX9 ∧ yX9_restore.cls ≠ "java/lang/invoke/MethodHandle" ∧ yX9_restore.cls ≠ "java/lang/invoke/VarHandle" ∧ (parseMethodDescriptor yX9_restore.desc).map (fun d => d.parameters.length) = some 0 := by decide +kernel
section
variable {p : Program} {l : Launch} {e : Env} {s : State} {m : MethodId} {args : Array Value} {below : List Frame} {meth : Method} {c : Code} {E : wE}
set_option maxRecDepth 100000 in
set_option maxHeartbeats 4000000 in
theorem pX9_restore (B : wB E p s m args meth c cX9_restore 1 RX9 (some .int)) {M : wMem}   {res : Int32 × wMem} (hf : fX9_restore M  = some res) {H : Heap} {locs : List Loc} {ls : Array Slot} (hW : wH E M H) (hS : va_S (wA E) s.heap H locs) (hl : lv_has ls 1 [(0, .ref (wad E 0))]) : W p l e ({ frames := 2, cells := 0, slots := 0, locals := 43 } : Room) s m args below meth c H locs 0 0 (MQ below (wQ E (some (.int res.1)) res.2) args s 0 0 (wA E)) (F0 m 0 ls []) := by
  unfold fX9_restore at hf
  obtain ⟨hx, hb, hr, hml, hown, hts, hlocks, hG, hV, hZ⟩ := id B
  refine lv_aload_n hx hb dX9_restore_0 rfl (lv_at hl 0 rfl) ?_
  refine wm_get hx hb hts wu_X9 hown hV hW (wlt_8 (rfl : wkd 0 = 8)) (wen_8 (rfl : wkd 0 = 8)) (C := RX9) (T := TX9) (N := 10) rfl 9 (by decide) (hts _ wA_240) rfl dX9_restore_1 ?_
  rcases wif_e hf with ⟨hq1, hf⟩ | ⟨hq1, hf⟩
  · refine lv_if_ne (tgt := 14) hx hb dX9_restore_4 (by decide) (fun h => absurd hq1 h) (fun _ => ?_)
    refine lv_aload_n hx hb dX9_restore_7 rfl (lv_at hl 0 rfl) ?_
    refine lv_bipush (v := (-3)) hx hb dX9_restore_8 (by decide) ?_
    obtain ⟨r6, M7, hc5, hf⟩ := wbind_p hf
    refine wc_V (As := [.int (-3)]) (rest := []) hx hb hml hown hts hG hV hZ (wlt_8 (rfl : wkd 0 = 8)) (q := (RX9, TX9, 10)) (wen_8 (rfl : wkd 0 = 8)) rfl (cX9_refuse_ok l E M (-3) hc5) (cwV 1 hts gl_X9_65 rfl rfl rfl cdX9_refuse ⟨Nat.le_of_ble_eq_true rfl, Nat.le_of_ble_eq_true rfl⟩) rfl hl.1 rfl (Nat.le_of_ble_eq_true rfl) dX9_restore_10 ⟨Nat.zero_le _, Nat.zero_le _⟩ hW hS rfl (fun H locs hW hS => ?_)
    have hres := Option.some.inj hf
    subst hres
    exact W.iret hx hb hr (wr_q hG hV hZ hW hS) hS.2.2 dX9_restore_13
  · refine lv_if_ne (tgt := 14) hx hb dX9_restore_4 (by decide) (fun _ => ?_) (fun h => absurd h hq1)
    refine lv_aload_n hx hb dX9_restore_14 rfl (lv_at hl 0 rfl) ?_
    refine wm_get hx hb hts wu_X9 hown hV hW (wlt_8 (rfl : wkd 0 = 8)) (wen_8 (rfl : wkd 0 = 8)) (C := RX9) (T := TX9) (N := 10) rfl 0 (by decide) (hts _ wA_231) rfl dX9_restore_15 ?_
    refine lv_aload_n hx hb dX9_restore_18 rfl (lv_at hl 0 rfl) ?_
    refine wm_get hx hb hts wu_X9 hown hV hW (wlt_8 (rfl : wkd 0 = 8)) (wen_8 (rfl : wkd 0 = 8)) (C := RX9) (T := TX9) (N := 10) rfl 1 (by decide) (hts _ wA_232) rfl dX9_restore_19 ?_
    obtain ⟨M4, hc2, hf⟩ := wbind_e hf
    refine wc_V (As := [.ref (wad E 16)]) (rest := []) hx hb hml hown hts hG hV hZ (wlt_4 (rfl : wkd 1 = 4)) (q := (RX5, TX5, 4)) (wen_4 (rfl : wkd 1 = 4)) rfl (cX5_copyFrom_ok l E M 1 (rfl : wkd 1 = 4) 16 (rfl : wkd 16 = 4) hc2) (cwV 1 hts gl_X9_89 rfl rfl rfl cdX5_copyFrom ⟨Nat.le_of_ble_eq_true rfl, Nat.le_of_ble_eq_true rfl⟩) rfl hl.1 rfl (Nat.le_of_ble_eq_true rfl) dX9_restore_22 ⟨Nat.zero_le _, Nat.zero_le _⟩ hW hS rfl (fun H locs hW hS => ?_)
    refine lv_aload_n hx hb dX9_restore_25 rfl (lv_at hl 0 rfl) ?_
    refine wm_get hx hb hts wu_X9 hown hV hW (wlt_8 (rfl : wkd 0 = 8)) (wen_8 (rfl : wkd 0 = 8)) (C := RX9) (T := TX9) (N := 10) rfl 0 (by decide) (hts _ wA_231) rfl dX9_restore_26 ?_
    refine wm_get hx hb hts wu_X5 hown hV hW (wlt_4 (rfl : wkd 1 = 4)) (wen_4 (rfl : wkd 1 = 4)) (C := RX5) (T := TX5) (N := 4) rfl 3 (by decide) (hts _ wA_123) rfl dX9_restore_29 ?_
    have hres := Option.some.inj hf
    subst hres
    exact W.iret hx hb hr (wr_q hG hV hZ hW hS) hS.2.2 dX9_restore_32
theorem cX9_restore_ok (l : Launch) (E : wE) (M : wMem)  {res : Int32 × wMem} (hf : fX9_restore M  = some res) : wMet l yX9_restore (wsM yX9_restore cX9_restore 1 (some .int)) ({ frames := 2, cells := 0, slots := 0, locals := 43 } : Room) E M [.ref (wad E 0)] (some (.int res.1)) res.2 :=
  wc_of (cc := cX9_restore) (maxL := 1) (ret := (some .int)) (by decide) (Nat.le_of_ble_eq_true rfl) (fun _ _ _ _ _ _ _ _ B hW hl => pX9_restore B  hf hW va_S.rf hl)
end
theorem cdX5_allHurt : yX5_allHurt.cls = RX5 ∧ yX5_allHurt.cls ≠ "java/lang/invoke/MethodHandle" ∧ yX5_allHurt.cls ≠ "java/lang/invoke/VarHandle" ∧ (parseMethodDescriptor yX5_allHurt.desc).map (fun d => d.parameters.length) = some 0 := by decide +kernel
section
variable {p : Program} {l : Launch} {e : Env} {s : State} {m : MethodId} {args : Array Value} {below : List Frame} {meth : Method} {c : Code} {E : wE}
set_option maxRecDepth 100000 in
set_option maxHeartbeats 4000000 in
theorem pX5_allHurt_4_b (B : wB E p s m args meth c cX5_allHurt 3 RX5 (some .int)) {M : wMem} {ky0 : Nat} {y1 : Int32} {y2 : Int32}  {rec4 : (Int32 × Int32 → Option (Int32))} {res : Int32} (hky0 : wkd ky0 = 4)  (hrec4 : ∀ (y1' : Int32) (y2' : Int32), rec4 (y1', y2') = some res → ∀ (H : Heap) (locs : List Loc) (ls : Array Slot), wH E M H → va_S (wA E) s.heap H locs → lv_has ls 3 [(0, .ref (wad E ky0)), (1, .int y1'), (2, .int y2')] → W p l e ({ frames := 0, cells := 0, slots := 0, locals := 0 } : Room) s m args below meth c H locs 0 0 (MQ below (wQ E (some (.int res)) M) args s 0 0 (wA E)) (F0 m 4 ls [])) (hf : fX5_allHurt_4_b M  rec4 ky0 y1 y2 = some res) {H : Heap} {locs : List Loc} {ls : Array Slot} (hW : wH E M H) (hS : va_S (wA E) s.heap H locs) (hl : lv_has ls 3 [(0, .ref (wad E ky0)), (1, .int y1), (2, .int y2)]) : W p l e ({ frames := 0, cells := 0, slots := 0, locals := 0 } : Room) s m args below meth c H locs 0 0 (MQ below (wQ E (some (.int res)) M) args s 0 0 (wA E)) (F0 m 4 ls []) := by
  unfold fX5_allHurt_4_b at hf
  obtain ⟨hx, hb, hr, hml, hown, hts, hlocks, hG, hV, hZ⟩ := id B
  refine lv_iload_n hx hb dX5_allHurt_4 rfl (lv_at hl 2 rfl) ?_
  refine lv_aload_n hx hb dX5_allHurt_5 rfl (lv_at hl 0 rfl) ?_
  refine wm_get hx hb hts wu_X5 hown hV hW (wlt_4 hky0) (wen_4 hky0) (C := RX5) (T := TX5) (N := 4) rfl 2 (by decide) (hts _ wA_117) rfl dX5_allHurt_6 ?_
  rcases wif_e hf with ⟨hq1, hf⟩ | ⟨hq1, hf⟩
  · refine lv_icmp_ge (tgt := 30) hx hb dX5_allHurt_9 (by decide) (fun _ => ?_) (fun h => absurd hq1 h)
    refine lv_iload_n hx hb dX5_allHurt_30 rfl (lv_at hl 1 rfl) ?_
    have hres := Option.some.inj hf
    subst hres
    exact W.iret hx hb hr (wr_q hG hV hZ hW hS) hS.2.2 dX5_allHurt_31
  · refine lv_icmp_ge (tgt := 30) hx hb dX5_allHurt_9 (by decide) (fun h => absurd h hq1) (fun _ => ?_)
    refine lv_iload_n hx hb dX5_allHurt_12 rfl (lv_at hl 1 rfl) ?_
    refine lv_aload_n hx hb dX5_allHurt_13 rfl (lv_at hl 0 rfl) ?_
    refine wm_get hx hb hts wu_X5 hown hV hW (wlt_4 hky0) (wen_4 hky0) (C := RX5) (T := TX5) (N := 4) rfl 0 (by decide) (hts _ wA_109) rfl dX5_allHurt_14 ?_
    refine lv_iload_n hx hb dX5_allHurt_17 rfl (lv_at hl 2 rfl) ?_
    obtain ⟨hi2, hf⟩ := wgi_e hf
    refine wm_aldL hx hb hV hW (wk4_1 hky0) hi2 dX5_allHurt_18 ?_
    refine wm_get hx hb hts wu_X1 hown hV hW (wlt_0 (wk22_i (wk4_1 hky0) hi2)) (wen_0 (wk22_i (wk4_1 hky0) hi2)) (C := RX1) (T := TX1) (N := 5) rfl 3 (by decide) (hts _ wA_93) rfl dX5_allHurt_19 ?_
    refine lv_iadd hx hb dX5_allHurt_22 ?_
    refine lv_topi (fun x3 ex3 => ?_)
    replace hf := wlet_y ex3 hf
    refine lv_istore_n (lv' := [(1, .int x3), (0, .ref (wad E ky0)), (2, .int y2)]) hx hb dX5_allHurt_23 rfl hl (by decide) rfl (fun ls hl => ?_)
    obtain ⟨x4, ex4, hf⟩ := wlet_e hf
    refine lv_iinc (v := x4) (lv' := [(2, .int x4), (1, .int x3), (0, .ref (wad E ky0))]) hx hb dX5_allHurt_24 hl (k := 2) rfl (by rw [ex4]; rfl) (by decide) rfl (fun ls hl => ?_)
    refine lv_goto (tgt := 4) hx hb dX5_allHurt_27 (by decide) ?_
    exact hrec4 x3 x4 hf _ _ _ hW hS (lv_sub hl [2, 1, 0] rfl)
set_option maxRecDepth 100000 in
set_option maxHeartbeats 4000000 in
theorem pX5_allHurt_4 (B : wB E p s m args meth c cX5_allHurt 3 RX5 (some .int)) {M : wMem} {ky0 : Nat} {y1 : Int32} {y2 : Int32}  {res : Int32} (hky0 : wkd ky0 = 4)  (hf : fX5_allHurt_4 M  ky0 y1 y2 = some res) {H : Heap} {locs : List Loc} {ls : Array Slot} (hW : wH E M H) (hS : va_S (wA E) s.heap H locs) (hl : lv_has ls 3 [(0, .ref (wad E ky0)), (1, .int y1), (2, .int y2)]) : W p l e ({ frames := 0, cells := 0, slots := 0, locals := 0 } : Room) s m args below meth c H locs 0 0 (MQ below (wQ E (some (.int res)) M) args s 0 0 (wA E)) (F0 m 4 ls []) := by
  have key := wloop_W (b := (fun rec4 t => fX5_allHurt_4_b M  rec4 ky0 t.1 t.2)) (P := fun t => ∀ (H : Heap) (locs : List Loc) (ls : Array Slot), wH E M H → va_S (wA E) s.heap H locs → lv_has ls 3 [(0, .ref (wad E ky0)), (1, .int t.1), (2, .int t.2)] → W p l e ({ frames := 0, cells := 0, slots := 0, locals := 0 } : Room) s m args below meth c H locs 0 0 (MQ below (wQ E (some (.int res)) M) args s 0 0 (wA E)) (F0 m 4 ls [])) (r := res) (fun rec hrec t hf H locs ls hW hS hl => pX5_allHurt_4_b B hky0  (fun v0 v1 hf H locs ls hW hS hl => hrec (v0, v1) hf H locs ls hW hS hl) hf hW hS hl)
  exact key wfuel (y1, y2) hf H locs ls hW hS hl
set_option maxRecDepth 100000 in
set_option maxHeartbeats 4000000 in
theorem pX5_allHurt (B : wB E p s m args meth c cX5_allHurt 3 RX5 (some .int)) {M : wMem} {k0 : Nat} (hk0 : wkd k0 = 4) {res : Int32} (hf : fX5_allHurt M k0 = some res) {H : Heap} {locs : List Loc} {ls : Array Slot} (hW : wH E M H) (hS : va_S (wA E) s.heap H locs) (hl : lv_has ls 3 [(0, .ref (wad E k0))]) : W p l e ({ frames := 0, cells := 0, slots := 0, locals := 0 } : Room) s m args below meth c H locs 0 0 (MQ below (wQ E (some (.int res)) M) args s 0 0 (wA E)) (F0 m 0 ls []) := by
  unfold fX5_allHurt at hf
  obtain ⟨hx, hb, hr, hml, hown, hts, hlocks, hG, hV, hZ⟩ := id B
  refine lv_iconst (v := 0) hx hb dX5_allHurt_0 rfl ?_
  refine lv_istore_n (lv' := [(1, .int 0), (0, .ref (wad E k0))]) hx hb dX5_allHurt_1 rfl hl (by decide) rfl (fun ls hl => ?_)
  refine lv_iconst (v := 0) hx hb dX5_allHurt_2 rfl ?_
  refine lv_istore_n (lv' := [(2, .int 0), (1, .int 0), (0, .ref (wad E k0))]) hx hb dX5_allHurt_3 rfl hl (by decide) rfl (fun ls hl => ?_)
  exact pX5_allHurt_4 B hk0  hf hW hS (lv_sub hl [2, 1, 0] rfl)
theorem cX5_allHurt_ok (l : Launch) (E : wE) (M : wMem) (k0 : Nat) (hk0 : wkd k0 = 4) {res : Int32} (hf : fX5_allHurt M k0 = some res) : wMet l yX5_allHurt (wsM yX5_allHurt cX5_allHurt 3 (some .int)) ({ frames := 0, cells := 0, slots := 0, locals := 0 } : Room) E M [.ref (wad E k0)] (some (.int res)) M :=
  wc_of (cc := cX5_allHurt) (maxL := 3) (ret := (some .int)) (by decide) (Nat.le_of_ble_eq_true rfl) (fun _ _ _ _ _ _ _ _ B hW hl => pX5_allHurt B hk0 hf hW va_S.rf hl)
end
theorem cdX9_refusalsOf : yX9_refusalsOf.cls = RX9 ∧ yX9_refusalsOf.cls ≠ "java/lang/invoke/MethodHandle" ∧ yX9_refusalsOf.cls ≠ "java/lang/invoke/VarHandle" ∧ (parseMethodDescriptor yX9_refusalsOf.desc).map (fun d => d.parameters.length) = some 1 := by decide +kernel
section
variable {p : Program} {l : Launch} {e : Env} {s : State} {m : MethodId} {args : Array Value} {below : List Frame} {meth : Method} {c : Code} {E : wE}
set_option maxRecDepth 100000 in
set_option maxHeartbeats 4000000 in
theorem pX9_refusalsOf (B : wB E p s m args meth c cX9_refusalsOf 2 RX9 (some .int)) {M : wMem} {a1 : Int32}  {res : Int32} (hf : fX9_refusalsOf M a1 = some res) {H : Heap} {locs : List Loc} {ls : Array Slot} (hW : wH E M H) (hS : va_S (wA E) s.heap H locs) (hl : lv_has ls 2 [(0, .ref (wad E 0)), (1, .int a1)]) : W p l e ({ frames := 0, cells := 0, slots := 0, locals := 0 } : Room) s m args below meth c H locs 0 0 (MQ below (wQ E (some (.int res)) M) args s 0 0 (wA E)) (F0 m 0 ls []) := by
  unfold fX9_refusalsOf at hf
  obtain ⟨hx, hb, hr, hml, hown, hts, hlocks, hG, hV, hZ⟩ := id B
  refine lv_iload_n hx hb dX9_refusalsOf_0 rfl (lv_at hl 1 rfl) ?_
  refine lv_bipush (v := 11) hx hb dX9_refusalsOf_1 (by decide) ?_
  rcases wif_e hf with ⟨hq1, hf⟩ | ⟨hq1, hf⟩
  · refine lv_icmp_lt (tgt := 12) hx hb dX9_refusalsOf_3 (by decide) (fun _ => ?_) (fun h => absurd hq1 h)
    refine lv_bipush (v := (-9)) hx hb dX9_refusalsOf_12 (by decide) ?_
    have hres := Option.some.inj hf
    subst hres
    exact W.iret hx hb hr (wr_q hG hV hZ hW hS) hS.2.2 dX9_refusalsOf_14
  · refine lv_icmp_lt (tgt := 12) hx hb dX9_refusalsOf_3 (by decide) (fun h => absurd h hq1) (fun _ => ?_)
    refine lv_iload_n hx hb dX9_refusalsOf_6 rfl (lv_at hl 1 rfl) ?_
    refine lv_bipush (v := 17) hx hb dX9_refusalsOf_7 (by decide) ?_
    rcases wif_e hf with ⟨hq2, hf⟩ | ⟨hq2, hf⟩
    · refine lv_icmp_lt (tgt := 15) hx hb dX9_refusalsOf_9 (by decide) (fun _ => ?_) (fun h => absurd hq2 h)
      refine lv_aload_n hx hb dX9_refusalsOf_15 rfl (lv_at hl 0 rfl) ?_
      refine wm_get hx hb hts wu_X9 hown hV hW (wlt_8 (rfl : wkd 0 = 8)) (wen_8 (rfl : wkd 0 = 8)) (C := RX9) (T := TX9) (N := 10) rfl 8 (by decide) (hts _ wA_239) rfl dX9_refusalsOf_16 ?_
      refine lv_iload_n hx hb dX9_refusalsOf_19 rfl (lv_at hl 1 rfl) ?_
      refine lv_bipush (v := 11) hx hb dX9_refusalsOf_20 (by decide) ?_
      refine lv_isub hx hb dX9_refusalsOf_22 ?_
      obtain ⟨hi3, hf⟩ := wgi_e hf
      refine wm_iald hx hb hV hW (rfl : wkd 69 = 21) (n := 6) rfl hi3 dX9_refusalsOf_23 ?_
      have hres := Option.some.inj hf
      subst hres
      exact W.iret hx hb hr (wr_q hG hV hZ hW hS) hS.2.2 dX9_refusalsOf_24
    · refine lv_icmp_lt (tgt := 15) hx hb dX9_refusalsOf_9 (by decide) (fun h => absurd h hq2) (fun _ => ?_)
      refine lv_bipush (v := (-9)) hx hb dX9_refusalsOf_12 (by decide) ?_
      have hres := Option.some.inj hf
      subst hres
      exact W.iret hx hb hr (wr_q hG hV hZ hW hS) hS.2.2 dX9_refusalsOf_14
theorem cX9_refusalsOf_ok (l : Launch) (E : wE) (M : wMem) (a1 : Int32) {res : Int32} (hf : fX9_refusalsOf M a1 = some res) : wMet l yX9_refusalsOf (wsM yX9_refusalsOf cX9_refusalsOf 2 (some .int)) ({ frames := 0, cells := 0, slots := 0, locals := 0 } : Room) E M [.ref (wad E 0), .int a1] (some (.int res)) M :=
  wc_of (cc := cX9_refusalsOf) (maxL := 2) (ret := (some .int)) (by decide) (Nat.le_of_ble_eq_true rfl) (fun _ _ _ _ _ _ _ _ B hW hl => pX9_refusalsOf B  hf hW va_S.rf hl)
end
theorem cdX9_count : yX9_count.cls = RX9 ∧ yX9_count.cls ≠ "java/lang/invoke/MethodHandle" ∧ yX9_count.cls ≠ "java/lang/invoke/VarHandle" ∧ (parseMethodDescriptor yX9_count.desc).map (fun d => d.parameters.length) = some 1 := by decide +kernel
section
variable {p : Program} {l : Launch} {e : Env} {s : State} {m : MethodId} {args : Array Value} {below : List Frame} {meth : Method} {c : Code} {E : wE}
set_option maxRecDepth 100000 in
set_option maxHeartbeats 4000000 in
theorem pX9_count (B : wB E p s m args meth c cX9_count 2 RX9 (some .int)) {M : wMem} {a1 : Int32}  {res : Int32} (hf : fX9_count M a1 = some res) {H : Heap} {locs : List Loc} {ls : Array Slot} (hW : wH E M H) (hS : va_S (wA E) s.heap H locs) (hl : lv_has ls 2 [(0, .ref (wad E 0)), (1, .int a1)]) : W p l e ({ frames := 3, cells := 0, slots := 0, locals := 63 } : Room) s m args below meth c H locs 0 0 (MQ below (wQ E (some (.int res)) M) args s 0 0 (wA E)) (F0 m 0 ls []) := by
  unfold fX9_count at hf
  obtain ⟨hx, hb, hr, hml, hown, hts, hlocks, hG, hV, hZ⟩ := id B
  refine lv_iload_n hx hb dX9_count_0 rfl (lv_at hl 1 rfl) ?_
  rcases wif_e hf with ⟨hq2, hf⟩ | ⟨hq2, hf⟩
  · refine lv_tableIn (off := 55) (tgt := 56) hx hb dX9_count_1 (by rw [hq2] <;> decide) (by rw [hq2] <;> decide) (by rw [hq2] <;> rfl) (by decide) ?_
    refine lv_aload_n hx hb dX9_count_56 rfl (lv_at hl 0 rfl) ?_
    refine wm_get hx hb hts wu_X9 hown hV hW (wlt_8 (rfl : wkd 0 = 8)) (wen_8 (rfl : wkd 0 = 8)) (C := RX9) (T := TX9) (N := 10) rfl 0 (by decide) (hts _ wA_231) rfl dX9_count_57 ?_
    refine wm_get hx hb hts wu_X5 hown hV hW (wlt_4 (rfl : wkd 1 = 4)) (wen_4 (rfl : wkd 1 = 4)) (C := RX5) (T := TX5) (N := 4) rfl 2 (by decide) (hts _ wA_121) rfl dX9_count_60 ?_
    have hres := Option.some.inj hf
    subst hres
    exact W.iret hx hb hr (wr_q hG hV hZ hW hS) hS.2.2 dX9_count_63
  · rcases wif_e hf with ⟨hq5, hf⟩ | ⟨hq5, hf⟩
    · refine lv_tableIn (off := 63) (tgt := 64) hx hb dX9_count_1 (by rw [hq5] <;> decide) (by rw [hq5] <;> decide) (by rw [hq5] <;> rfl) (by decide) ?_
      refine lv_aload_n hx hb dX9_count_64 rfl (lv_at hl 0 rfl) ?_
      refine wm_get hx hb hts wu_X9 hown hV hW (wlt_8 (rfl : wkd 0 = 8)) (wen_8 (rfl : wkd 0 = 8)) (C := RX9) (T := TX9) (N := 10) rfl 0 (by decide) (hts _ wA_231) rfl dX9_count_65 ?_
      refine lv_iconst (v := 0) hx hb dX9_count_68 rfl ?_
      obtain ⟨r4, hc3, hf⟩ := wbind_e hf
      refine wc_V (As := [.int 0]) (rest := []) hx hb hml hown hts hG hV hZ (wlt_4 (rfl : wkd 1 = 4)) (q := (RX5, TX5, 4)) (wen_4 (rfl : wkd 1 = 4)) rfl (cX5_howMany_ok l E M 1 (rfl : wkd 1 = 4) 0 hc3) (cwV 1 hts gl_X9_236 rfl rfl rfl cdX5_howMany ⟨Nat.le_of_ble_eq_true rfl, Nat.le_of_ble_eq_true rfl⟩) rfl hl.1 rfl (Nat.le_of_ble_eq_true rfl) dX9_count_69 ⟨Nat.zero_le _, Nat.zero_le _⟩ hW hS rfl (fun H locs hW hS => ?_)
      have hres := Option.some.inj hf
      subst hres
      exact W.iret hx hb hr (wr_q hG hV hZ hW hS) hS.2.2 dX9_count_72
    · rcases wif_e hf with ⟨hq8, hf⟩ | ⟨hq8, hf⟩
      · refine lv_tableIn (off := 72) (tgt := 73) hx hb dX9_count_1 (by rw [hq8] <;> decide) (by rw [hq8] <;> decide) (by rw [hq8] <;> rfl) (by decide) ?_
        refine lv_aload_n hx hb dX9_count_73 rfl (lv_at hl 0 rfl) ?_
        refine wm_get hx hb hts wu_X9 hown hV hW (wlt_8 (rfl : wkd 0 = 8)) (wen_8 (rfl : wkd 0 = 8)) (C := RX9) (T := TX9) (N := 10) rfl 0 (by decide) (hts _ wA_231) rfl dX9_count_74 ?_
        refine lv_iconst (v := 1) hx hb dX9_count_77 rfl ?_
        obtain ⟨r7, hc6, hf⟩ := wbind_e hf
        refine wc_V (As := [.int 1]) (rest := []) hx hb hml hown hts hG hV hZ (wlt_4 (rfl : wkd 1 = 4)) (q := (RX5, TX5, 4)) (wen_4 (rfl : wkd 1 = 4)) rfl (cX5_howMany_ok l E M 1 (rfl : wkd 1 = 4) 1 hc6) (cwV 1 hts gl_X9_236 rfl rfl rfl cdX5_howMany ⟨Nat.le_of_ble_eq_true rfl, Nat.le_of_ble_eq_true rfl⟩) rfl hl.1 rfl (Nat.le_of_ble_eq_true rfl) dX9_count_78 ⟨Nat.zero_le _, Nat.zero_le _⟩ hW hS rfl (fun H locs hW hS => ?_)
        have hres := Option.some.inj hf
        subst hres
        exact W.iret hx hb hr (wr_q hG hV hZ hW hS) hS.2.2 dX9_count_81
      · rcases wif_e hf with ⟨hq11, hf⟩ | ⟨hq11, hf⟩
        · refine lv_tableIn (off := 81) (tgt := 82) hx hb dX9_count_1 (by rw [hq11] <;> decide) (by rw [hq11] <;> decide) (by rw [hq11] <;> rfl) (by decide) ?_
          refine lv_aload_n hx hb dX9_count_82 rfl (lv_at hl 0 rfl) ?_
          refine wm_get hx hb hts wu_X9 hown hV hW (wlt_8 (rfl : wkd 0 = 8)) (wen_8 (rfl : wkd 0 = 8)) (C := RX9) (T := TX9) (N := 10) rfl 0 (by decide) (hts _ wA_231) rfl dX9_count_83 ?_
          refine lv_iconst (v := 2) hx hb dX9_count_86 rfl ?_
          obtain ⟨r10, hc9, hf⟩ := wbind_e hf
          refine wc_V (As := [.int 2]) (rest := []) hx hb hml hown hts hG hV hZ (wlt_4 (rfl : wkd 1 = 4)) (q := (RX5, TX5, 4)) (wen_4 (rfl : wkd 1 = 4)) rfl (cX5_howMany_ok l E M 1 (rfl : wkd 1 = 4) 2 hc9) (cwV 1 hts gl_X9_236 rfl rfl rfl cdX5_howMany ⟨Nat.le_of_ble_eq_true rfl, Nat.le_of_ble_eq_true rfl⟩) rfl hl.1 rfl (Nat.le_of_ble_eq_true rfl) dX9_count_87 ⟨Nat.zero_le _, Nat.zero_le _⟩ hW hS rfl (fun H locs hW hS => ?_)
          have hres := Option.some.inj hf
          subst hres
          exact W.iret hx hb hr (wr_q hG hV hZ hW hS) hS.2.2 dX9_count_90
        · rcases wif_e hf with ⟨hq14, hf⟩ | ⟨hq14, hf⟩
          · refine lv_tableIn (off := 90) (tgt := 91) hx hb dX9_count_1 (by rw [hq14] <;> decide) (by rw [hq14] <;> decide) (by rw [hq14] <;> rfl) (by decide) ?_
            refine lv_aload_n hx hb dX9_count_91 rfl (lv_at hl 0 rfl) ?_
            refine wm_get hx hb hts wu_X9 hown hV hW (wlt_8 (rfl : wkd 0 = 8)) (wen_8 (rfl : wkd 0 = 8)) (C := RX9) (T := TX9) (N := 10) rfl 0 (by decide) (hts _ wA_231) rfl dX9_count_92 ?_
            refine lv_iconst (v := 3) hx hb dX9_count_95 rfl ?_
            obtain ⟨r13, hc12, hf⟩ := wbind_e hf
            refine wc_V (As := [.int 3]) (rest := []) hx hb hml hown hts hG hV hZ (wlt_4 (rfl : wkd 1 = 4)) (q := (RX5, TX5, 4)) (wen_4 (rfl : wkd 1 = 4)) rfl (cX5_howMany_ok l E M 1 (rfl : wkd 1 = 4) 3 hc12) (cwV 1 hts gl_X9_236 rfl rfl rfl cdX5_howMany ⟨Nat.le_of_ble_eq_true rfl, Nat.le_of_ble_eq_true rfl⟩) rfl hl.1 rfl (Nat.le_of_ble_eq_true rfl) dX9_count_96 ⟨Nat.zero_le _, Nat.zero_le _⟩ hW hS rfl (fun H locs hW hS => ?_)
            have hres := Option.some.inj hf
            subst hres
            exact W.iret hx hb hr (wr_q hG hV hZ hW hS) hS.2.2 dX9_count_99
          · rcases wif_e hf with ⟨hq15, hf⟩ | ⟨hq15, hf⟩
            · refine lv_tableIn (off := 99) (tgt := 100) hx hb dX9_count_1 (by rw [hq15] <;> decide) (by rw [hq15] <;> decide) (by rw [hq15] <;> rfl) (by decide) ?_
              refine lv_aload_n hx hb dX9_count_100 rfl (lv_at hl 0 rfl) ?_
              refine wm_get hx hb hts wu_X9 hown hV hW (wlt_8 (rfl : wkd 0 = 8)) (wen_8 (rfl : wkd 0 = 8)) (C := RX9) (T := TX9) (N := 10) rfl 0 (by decide) (hts _ wA_231) rfl dX9_count_101 ?_
              refine wm_get hx hb hts wu_X5 hown hV hW (wlt_4 (rfl : wkd 1 = 4)) (wen_4 (rfl : wkd 1 = 4)) (C := RX5) (T := TX5) (N := 4) rfl 3 (by decide) (hts _ wA_123) rfl dX9_count_104 ?_
              have hres := Option.some.inj hf
              subst hres
              exact W.iret hx hb hr (wr_q hG hV hZ hW hS) hS.2.2 dX9_count_107
            · rcases wif_e hf with ⟨hq20, hf⟩ | ⟨hq20, hf⟩
              · refine lv_tableIn (off := 107) (tgt := 108) hx hb dX9_count_1 (by rw [hq20] <;> decide) (by rw [hq20] <;> decide) (by rw [hq20] <;> rfl) (by decide) ?_
                refine lv_aload_n hx hb dX9_count_108 rfl (lv_at hl 0 rfl) ?_
                refine wm_get hx hb hts wu_X9 hown hV hW (wlt_8 (rfl : wkd 0 = 8)) (wen_8 (rfl : wkd 0 = 8)) (C := RX9) (T := TX9) (N := 10) rfl 0 (by decide) (hts _ wA_231) rfl dX9_count_109 ?_
                obtain ⟨r17, hc16, hf⟩ := wbind_e hf
                refine wc_V (As := []) (rest := []) hx hb hml hown hts hG hV hZ (wlt_4 (rfl : wkd 1 = 4)) (q := (RX5, TX5, 4)) (wen_4 (rfl : wkd 1 = 4)) rfl (cX5_isLive_ok l E M 1 (rfl : wkd 1 = 4) hc16) (cwV 0 hts gl_X9_148 rfl rfl rfl cdX5_isLive ⟨Nat.le_of_ble_eq_true rfl, Nat.le_of_ble_eq_true rfl⟩) rfl hl.1 rfl (Nat.le_of_ble_eq_true rfl) dX9_count_112 ⟨Nat.zero_le _, Nat.zero_le _⟩ hW hS rfl (fun H locs hW hS => ?_)
                obtain ⟨r19, hc18, hf⟩ := wbind_e hf
                refine wc_S (As := [.int (wb r17)]) (rest := []) hx hb hml hown hts hG hV hZ (cX9_asNumber_ok l E M (wb r17) hc18) (va_cwS 1 hts gl_X9_152 rfl rfl rfl cdX9_asNumber ⟨Nat.le_of_ble_eq_true rfl, Nat.le_of_ble_eq_true rfl⟩) rfl hl.1 rfl (Nat.le_of_ble_eq_true rfl) dX9_count_115 ⟨Nat.zero_le _, Nat.zero_le _⟩ hW hS rfl (fun H locs hW hS => ?_)
                have hres := Option.some.inj hf
                subst hres
                exact W.iret hx hb hr (wr_q hG hV hZ hW hS) hS.2.2 dX9_count_118
              · rcases wif_e hf with ⟨hq21, hf⟩ | ⟨hq21, hf⟩
                · refine lv_tableIn (off := 118) (tgt := 119) hx hb dX9_count_1 (by rw [hq21] <;> decide) (by rw [hq21] <;> decide) (by rw [hq21] <;> rfl) (by decide) ?_
                  refine lv_aload_n hx hb dX9_count_119 rfl (lv_at hl 0 rfl) ?_
                  refine wm_get hx hb hts wu_X9 hown hV hW (wlt_8 (rfl : wkd 0 = 8)) (wen_8 (rfl : wkd 0 = 8)) (C := RX9) (T := TX9) (N := 10) rfl 3 (by decide) (hts _ wA_234) rfl dX9_count_120 ?_
                  refine wm_get hx hb hts wu_X2 hown hV hW (wlt_1 (rfl : wkd 47 = 1)) (wen_1 (rfl : wkd 47 = 1)) (C := RX2) (T := TX2) (N := 2) rfl 1 (by decide) (hts _ wA_153) rfl dX9_count_123 ?_
                  have hres := Option.some.inj hf
                  subst hres
                  exact W.iret hx hb hr (wr_q hG hV hZ hW hS) hS.2.2 dX9_count_126
                · rcases wif_e hf with ⟨hq22, hf⟩ | ⟨hq22, hf⟩
                  · refine lv_tableIn (off := 126) (tgt := 127) hx hb dX9_count_1 (by rw [hq22] <;> decide) (by rw [hq22] <;> decide) (by rw [hq22] <;> rfl) (by decide) ?_
                    refine lv_aload_n hx hb dX9_count_127 rfl (lv_at hl 0 rfl) ?_
                    refine wm_get hx hb hts wu_X9 hown hV hW (wlt_8 (rfl : wkd 0 = 8)) (wen_8 (rfl : wkd 0 = 8)) (C := RX9) (T := TX9) (N := 10) rfl 5 (by decide) (hts _ wA_236) rfl dX9_count_128 ?_
                    refine wm_get hx hb hts wu_X3 hown hV hW (wlt_2 (rfl : wkd 50 = 2)) (wen_2 (rfl : wkd 50 = 2)) (C := RX3) (T := TX3) (N := 3) rfl 2 (by decide) (hts _ wA_200) rfl dX9_count_131 ?_
                    have hres := Option.some.inj hf
                    subst hres
                    exact W.iret hx hb hr (wr_q hG hV hZ hW hS) hS.2.2 dX9_count_134
                  · rcases wif_e hf with ⟨hq25, hf⟩ | ⟨hq25, hf⟩
                    · refine lv_tableIn (off := 134) (tgt := 135) hx hb dX9_count_1 (by rw [hq25] <;> decide) (by rw [hq25] <;> decide) (by rw [hq25] <;> rfl) (by decide) ?_
                      refine lv_aload_n hx hb dX9_count_135 rfl (lv_at hl 0 rfl) ?_
                      refine wm_get hx hb hts wu_X9 hown hV hW (wlt_8 (rfl : wkd 0 = 8)) (wen_8 (rfl : wkd 0 = 8)) (C := RX9) (T := TX9) (N := 10) rfl 0 (by decide) (hts _ wA_231) rfl dX9_count_136 ?_
                      obtain ⟨r24, hc23, hf⟩ := wbind_e hf
                      refine wc_V (As := []) (rest := []) hx hb hml hown hts hG hV hZ (wlt_4 (rfl : wkd 1 = 4)) (q := (RX5, TX5, 4)) (wen_4 (rfl : wkd 1 = 4)) rfl (cX5_allHurt_ok l E M 1 (rfl : wkd 1 = 4) hc23) (cwV 0 hts gl_X9_239 rfl rfl rfl cdX5_allHurt ⟨Nat.le_of_ble_eq_true rfl, Nat.le_of_ble_eq_true rfl⟩) rfl hl.1 rfl (Nat.le_of_ble_eq_true rfl) dX9_count_139 ⟨Nat.zero_le _, Nat.zero_le _⟩ hW hS rfl (fun H locs hW hS => ?_)
                      have hres := Option.some.inj hf
                      subst hres
                      exact W.iret hx hb hr (wr_q hG hV hZ hW hS) hS.2.2 dX9_count_142
                    · have hodX9_count_1 : a1.toInt < 0 ∨ 9 < a1.toInt := by
                        have := lv_neT (k := 0) (a := 0) hq2 (by decide)
                        have := lv_neT (k := 1) (a := 1) hq5 (by decide)
                        have := lv_neT (k := 2) (a := 2) hq8 (by decide)
                        have := lv_neT (k := 3) (a := 3) hq11 (by decide)
                        have := lv_neT (k := 4) (a := 4) hq14 (by decide)
                        have := lv_neT (k := 5) (a := 5) hq15 (by decide)
                        have := lv_neT (k := 6) (a := 6) hq20 (by decide)
                        have := lv_neT (k := 7) (a := 7) hq21 (by decide)
                        have := lv_neT (k := 8) (a := 8) hq22 (by decide)
                        have := lv_neT (k := 9) (a := 9) hq25 (by decide)
                        omega
                      refine lv_tableOut (tgt := 143) hx hb dX9_count_1 hodX9_count_1 (by decide) ?_
                      refine lv_aload_n hx hb dX9_count_143 rfl (lv_at hl 0 rfl) ?_
                      refine lv_iload_n hx hb dX9_count_144 rfl (lv_at hl 1 rfl) ?_
                      obtain ⟨r27, hc26, hf⟩ := wbind_e hf
                      refine wc_V (As := [.int a1]) (rest := []) hx hb hml hown hts hG hV hZ (wlt_8 (rfl : wkd 0 = 8)) (q := (RX9, TX9, 10)) (wen_8 (rfl : wkd 0 = 8)) rfl (cX9_refusalsOf_ok l E M a1 hc26) (cwV 1 hts gl_X9_242 rfl rfl rfl cdX9_refusalsOf ⟨Nat.le_of_ble_eq_true rfl, Nat.le_of_ble_eq_true rfl⟩) rfl hl.1 rfl (Nat.le_of_ble_eq_true rfl) dX9_count_145 ⟨Nat.zero_le _, Nat.zero_le _⟩ hW hS rfl (fun H locs hW hS => ?_)
                      have hres := Option.some.inj hf
                      subst hres
                      exact W.iret hx hb hr (wr_q hG hV hZ hW hS) hS.2.2 dX9_count_148
theorem cX9_count_ok (l : Launch) (E : wE) (M : wMem) (a1 : Int32) {res : Int32} (hf : fX9_count M a1 = some res) : wMet l yX9_count (wsM yX9_count cX9_count 2 (some .int)) ({ frames := 3, cells := 0, slots := 0, locals := 63 } : Room) E M [.ref (wad E 0), .int a1] (some (.int res)) M :=
  wc_of (cc := cX9_count) (maxL := 2) (ret := (some .int)) (by decide) (Nat.le_of_ble_eq_true rfl) (fun _ _ _ _ _ _ _ _ B hW hl => pX9_count B  hf hW va_S.rf hl)
end
theorem cdX10_no : yX10_no.cls = RX10 ∧ yX10_no.cls ≠ "java/lang/invoke/MethodHandle" ∧ yX10_no.cls ≠ "java/lang/invoke/VarHandle" ∧ (parseMethodDescriptor yX10_no.desc).map (fun d => d.parameters.length) = some 1 := by decide +kernel
section
variable {p : Program} {l : Launch} {e : Env} {s : State} {m : MethodId} {args : Array Value} {below : List Frame} {meth : Method} {c : Code} {E : wE}
set_option maxRecDepth 100000 in
set_option maxHeartbeats 4000000 in
theorem pX10_no (B : wB E p s m args meth c cX10_no 2 RX10 (some .int)) {M : wMem} {a1 : Int32}  {res : Int32 × wMem} (hf : fX10_no M a1 = some res) {H : Heap} {locs : List Loc} {ls : Array Slot} (hW : wH E M H) (hS : va_S (wA E) s.heap H locs) (hl : lv_has ls 2 [(0, .ref (wad E 70)), (1, .int a1)]) : W p l e ({ frames := 0, cells := 0, slots := 0, locals := 0 } : Room) s m args below meth c H locs 0 0 (MQ below (wQ E (some (.int res.1)) res.2) args s 0 0 (wA E)) (F0 m 0 ls []) := by
  unfold fX10_no at hf
  obtain ⟨hx, hb, hr, hml, hown, hts, hlocks, hG, hV, hZ⟩ := id B
  refine lv_aload_n hx hb dX10_no_0 rfl (lv_at hl 0 rfl) ?_
  refine wm_get hx hb hts wu_X10 hown hV hW (wlt_9 (rfl : wkd 70 = 9)) (wen_9 (rfl : wkd 70 = 9)) (C := RX10) (T := TX10) (N := 31) rfl 0 (by decide) (hts _ wA_714) rfl dX10_no_1 ?_
  refine lv_iload_n hx hb dX10_no_4 rfl (lv_at hl 1 rfl) ?_
  refine lv_ineg hx hb dX10_no_5 ?_
  refine lv_dup2_11 hx hb dX10_no_6 rfl rfl ?_
  obtain ⟨hi1, hf⟩ := wgi_e hf
  refine wm_iald hx hb hV hW (rfl : wkd 71 = 21) (n := 7) rfl hi1 dX10_no_7 ?_
  refine lv_iconst (v := 1) hx hb dX10_no_8 rfl ?_
  refine lv_iadd hx hb dX10_no_9 ?_
  obtain ⟨hi2, hf⟩ := wgi_e hf
  refine wm_iast hx hb hG hV hW hS (rfl : wkd 71 = 21) (n := 7) rfl hi2 dX10_no_10 (fun H locs hW hS => ?_)
  obtain ⟨M3, hW, hf⟩ := wlet_M hW hf
  refine lv_iload_n hx hb dX10_no_11 rfl (lv_at hl 1 rfl) ?_
  have hres := Option.some.inj hf
  subst hres
  exact W.iret hx hb hr (wr_q hG hV hZ hW hS) hS.2.2 dX10_no_12
theorem cX10_no_ok (l : Launch) (E : wE) (M : wMem) (a1 : Int32) {res : Int32 × wMem} (hf : fX10_no M a1 = some res) : wMet l yX10_no (wsM yX10_no cX10_no 2 (some .int)) ({ frames := 0, cells := 0, slots := 0, locals := 0 } : Room) E M [.ref (wad E 70), .int a1] (some (.int res.1)) res.2 :=
  wc_of (cc := cX10_no) (maxL := 2) (ret := (some .int)) (by decide) (Nat.le_of_ble_eq_true rfl) (fun _ _ _ _ _ _ _ _ B hW hl => pX10_no B  hf hW va_S.rf hl)
end
theorem cdX10_lowest : yX10_lowest.cls = RX10 ∧ yX10_lowest.cls ≠ "java/lang/invoke/MethodHandle" ∧ yX10_lowest.cls ≠ "java/lang/invoke/VarHandle" ∧ (parseMethodDescriptor yX10_lowest.desc).map (fun d => d.parameters.length) = some 1 := by decide +kernel
section
variable {p : Program} {l : Launch} {e : Env} {s : State} {m : MethodId} {args : Array Value} {below : List Frame} {meth : Method} {c : Code} {E : wE}
set_option maxRecDepth 100000 in
set_option maxHeartbeats 4000000 in
theorem pX10_lowest (B : wB E p s m args meth c cX10_lowest 2 RX10 (some .long)) {M : wMem} {a1 : Int32}  {res : Int64 × wMem} (hf : fX10_lowest M a1 = some res) {H : Heap} {locs : List Loc} {ls : Array Slot} (hW : wH E M H) (hS : va_S (wA E) s.heap H locs) (hl : lv_has ls 2 [(0, .ref (wad E 70)), (1, .int a1)]) : W p l e ({ frames := 0, cells := 0, slots := 0, locals := 0 } : Room) s m args below meth c H locs 0 0 (MQ below (wQ E (some (.long res.1)) res.2) args s 0 0 (wA E)) (F0 m 0 ls []) := by
  unfold fX10_lowest at hf
  obtain ⟨hx, hb, hr, hml, hown, hts, hlocks, hG, hV, hZ⟩ := id B
  refine lv_aload_n hx hb dX10_lowest_0 rfl (lv_at hl 0 rfl) ?_
  refine wm_get hx hb hts wu_X10 hown hV hW (wlt_9 (rfl : wkd 70 = 9)) (wen_9 (rfl : wkd 70 = 9)) (C := RX10) (T := TX10) (N := 31) rfl 0 (by decide) (hts _ wA_714) rfl dX10_lowest_1 ?_
  refine lv_iload_n hx hb dX10_lowest_4 rfl (lv_at hl 1 rfl) ?_
  refine lv_ineg hx hb dX10_lowest_5 ?_
  refine lv_dup2_11 hx hb dX10_lowest_6 rfl rfl ?_
  obtain ⟨hi1, hf⟩ := wgi_e hf
  refine wm_iald hx hb hV hW (rfl : wkd 71 = 21) (n := 7) rfl hi1 dX10_lowest_7 ?_
  refine lv_iconst (v := 1) hx hb dX10_lowest_8 rfl ?_
  refine lv_iadd hx hb dX10_lowest_9 ?_
  obtain ⟨hi2, hf⟩ := wgi_e hf
  refine wm_iast hx hb hG hV hW hS (rfl : wkd 71 = 21) (n := 7) rfl hi2 dX10_lowest_10 (fun H locs hW hS => ?_)
  obtain ⟨M3, hW, hf⟩ := wlet_M hW hf
  refine lv_ldc2 (v := 4000000000000000000) hx hb hown (hts _ wA_1073) dX10_lowest_11 ?_
  refine lv_iload_n hx hb dX10_lowest_14 rfl (lv_at hl 1 rfl) ?_
  refine lv_i2l hx hb dX10_lowest_15 rfl ?_
  refine lv_lsub hx hb dX10_lowest_16 ?_
  have hres := Option.some.inj hf
  subst hres
  exact W.lret hx hb hr (wr_q hG hV hZ hW hS) hS.2.2 dX10_lowest_17
theorem cX10_lowest_ok (l : Launch) (E : wE) (M : wMem) (a1 : Int32) {res : Int64 × wMem} (hf : fX10_lowest M a1 = some res) : wMet l yX10_lowest (wsM yX10_lowest cX10_lowest 2 (some .long)) ({ frames := 0, cells := 0, slots := 0, locals := 0 } : Room) E M [.ref (wad E 70), .int a1] (some (.long res.1)) res.2 :=
  wc_of (cc := cX10_lowest) (maxL := 2) (ret := (some .long)) (by decide) (Nat.le_of_ble_eq_true rfl) (fun _ _ _ _ _ _ _ _ B hW hl => pX10_lowest B  hf hW va_S.rf hl)
end
theorem cdX10_isIn : yX10_isIn.cls ≠ "java/lang/invoke/MethodHandle" ∧ yX10_isIn.cls ≠ "java/lang/invoke/VarHandle" ∧ (parseMethodDescriptor yX10_isIn.desc).map (fun d => d.parameters.length) = some 3 := by decide +kernel
section
variable {p : Program} {l : Launch} {e : Env} {s : State} {m : MethodId} {args : Array Value} {below : List Frame} {meth : Method} {c : Code} {E : wE}
set_option maxRecDepth 100000 in
set_option maxHeartbeats 4000000 in
theorem pX10_isIn (B : wB E p s m args meth c cX10_isIn 3 RX10 (some .boolean)) {M : wMem} {a0 : Int32} {a1 : Int32} {a2 : Int32}  {res : Bool} (hf : fX10_isIn M a0 a1 a2 = some res) {H : Heap} {locs : List Loc} {ls : Array Slot} (hW : wH E M H) (hS : va_S (wA E) s.heap H locs) (hl : lv_has ls 3 [(0, .int a0), (1, .int a1), (2, .int a2)]) : W p l e ({ frames := 0, cells := 0, slots := 0, locals := 0 } : Room) s m args below meth c H locs 0 0 (MQ below (wQ E (some (.int (wb res))) M) args s 0 0 (wA E)) (F0 m 0 ls []) := by
  unfold fX10_isIn at hf
  obtain ⟨hx, hb, hr, hml, hown, hts, hlocks, hG, hV, hZ⟩ := id B
  refine lv_iload_n hx hb dX10_isIn_0 rfl (lv_at hl 0 rfl) ?_
  refine lv_iload_n hx hb dX10_isIn_1 rfl (lv_at hl 1 rfl) ?_
  rcases wif_e hf with ⟨hq1, hf⟩ | ⟨hq1, hf⟩
  · refine lv_icmp_lt (tgt := 14) hx hb dX10_isIn_2 (by decide) (fun _ => ?_) (fun h => absurd hq1 h)
    refine lv_iconst (v := 0) hx hb dX10_isIn_14 rfl ?_
    have hres := Option.some.inj hf
    subst hres
    exact W.zret hx hb hr (wb_n false) (wr_q hG hV hZ hW hS) hS.2.2 dX10_isIn_15
  · refine lv_icmp_lt (tgt := 14) hx hb dX10_isIn_2 (by decide) (fun h => absurd h hq1) (fun _ => ?_)
    refine lv_iload_n hx hb dX10_isIn_5 rfl (lv_at hl 0 rfl) ?_
    refine lv_iload_n hx hb dX10_isIn_6 rfl (lv_at hl 2 rfl) ?_
    rcases wif_e hf with ⟨hq2, hf⟩ | ⟨hq2, hf⟩
    · refine lv_icmp_gt (tgt := 14) hx hb dX10_isIn_7 (by decide) (fun _ => ?_) (fun h => absurd hq2 h)
      refine lv_iconst (v := 0) hx hb dX10_isIn_14 rfl ?_
      have hres := Option.some.inj hf
      subst hres
      exact W.zret hx hb hr (wb_n false) (wr_q hG hV hZ hW hS) hS.2.2 dX10_isIn_15
    · refine lv_icmp_gt (tgt := 14) hx hb dX10_isIn_7 (by decide) (fun h => absurd h hq2) (fun _ => ?_)
      refine lv_iconst (v := 1) hx hb dX10_isIn_10 rfl ?_
      refine lv_goto (tgt := 15) hx hb dX10_isIn_11 (by decide) ?_
      have hres := Option.some.inj hf
      subst hres
      exact W.zret hx hb hr (wb_n true) (wr_q hG hV hZ hW hS) hS.2.2 dX10_isIn_15
theorem cX10_isIn_ok (l : Launch) (E : wE) (M : wMem) (a0 : Int32) (a1 : Int32) (a2 : Int32) {res : Bool} (hf : fX10_isIn M a0 a1 a2 = some res) : wMet l yX10_isIn (wsM yX10_isIn cX10_isIn 3 (some .boolean)) ({ frames := 0, cells := 0, slots := 0, locals := 0 } : Room) E M [.int a0, .int a1, .int a2] (some (.int (wb res))) M :=
  wc_of (cc := cX10_isIn) (maxL := 3) (ret := (some .boolean)) (by decide) (Nat.le_of_ble_eq_true rfl) (fun _ _ _ _ _ _ _ _ B hW hl => pX10_isIn B  hf hW va_S.rf hl)
end
theorem cdX10_bound : yX10_bound.cls ≠ "java/lang/invoke/MethodHandle" ∧ yX10_bound.cls ≠ "java/lang/invoke/VarHandle" ∧ (parseMethodDescriptor yX10_bound.desc).map (fun d => d.parameters.length) = some 3 := by decide +kernel
section
variable {p : Program} {l : Launch} {e : Env} {s : State} {m : MethodId} {args : Array Value} {below : List Frame} {meth : Method} {c : Code} {E : wE}
set_option maxRecDepth 100000 in
set_option maxHeartbeats 4000000 in
theorem pX10_bound (B : wB E p s m args meth c cX10_bound 3 RX10 (some .int)) {M : wMem} {a0 : Int32} {a1 : Int32} {a2 : Int32}  {res : Int32} (hf : fX10_bound M a0 a1 a2 = some res) {H : Heap} {locs : List Loc} {ls : Array Slot} (hW : wH E M H) (hS : va_S (wA E) s.heap H locs) (hl : lv_has ls 3 [(0, .int a0), (1, .int a1), (2, .int a2)]) : W p l e ({ frames := 0, cells := 0, slots := 0, locals := 0 } : Room) s m args below meth c H locs 0 0 (MQ below (wQ E (some (.int res)) M) args s 0 0 (wA E)) (F0 m 0 ls []) := by
  unfold fX10_bound at hf
  obtain ⟨hx, hb, hr, hml, hown, hts, hlocks, hG, hV, hZ⟩ := id B
  refine lv_iload_n hx hb dX10_bound_0 rfl (lv_at hl 0 rfl) ?_
  refine lv_iload_n hx hb dX10_bound_1 rfl (lv_at hl 1 rfl) ?_
  rcases wif_e hf with ⟨hq1, hf⟩ | ⟨hq1, hf⟩
  · refine lv_icmp_ge (tgt := 10) hx hb dX10_bound_2 (by decide) (fun _ => ?_) (fun h => absurd hq1 h)
    refine lv_iload_n hx hb dX10_bound_10 rfl (lv_at hl 0 rfl) ?_
    refine lv_iload_n hx hb dX10_bound_11 rfl (lv_at hl 2 rfl) ?_
    rcases wif_e hf with ⟨hq2, hf⟩ | ⟨hq2, hf⟩
    · refine lv_icmp_le (tgt := 20) hx hb dX10_bound_12 (by decide) (fun _ => ?_) (fun h => absurd hq2 h)
      refine lv_iconst (v := 0) hx hb dX10_bound_20 rfl ?_
      have hres := Option.some.inj hf
      subst hres
      exact W.iret hx hb hr (wr_q hG hV hZ hW hS) hS.2.2 dX10_bound_21
    · refine lv_icmp_le (tgt := 20) hx hb dX10_bound_12 (by decide) (fun h => absurd h hq2) (fun _ => ?_)
      refine lv_bipush (v := (-6)) hx hb dX10_bound_15 (by decide) ?_
      refine lv_goto (tgt := 21) hx hb dX10_bound_17 (by decide) ?_
      have hres := Option.some.inj hf
      subst hres
      exact W.iret hx hb hr (wr_q hG hV hZ hW hS) hS.2.2 dX10_bound_21
  · refine lv_icmp_ge (tgt := 10) hx hb dX10_bound_2 (by decide) (fun h => absurd h hq1) (fun _ => ?_)
    refine lv_bipush (v := (-4)) hx hb dX10_bound_5 (by decide) ?_
    refine lv_goto (tgt := 21) hx hb dX10_bound_7 (by decide) ?_
    have hres := Option.some.inj hf
    subst hres
    exact W.iret hx hb hr (wr_q hG hV hZ hW hS) hS.2.2 dX10_bound_21
theorem cX10_bound_ok (l : Launch) (E : wE) (M : wMem) (a0 : Int32) (a1 : Int32) (a2 : Int32) {res : Int32} (hf : fX10_bound M a0 a1 a2 = some res) : wMet l yX10_bound (wsM yX10_bound cX10_bound 3 (some .int)) ({ frames := 0, cells := 0, slots := 0, locals := 0 } : Room) E M [.int a0, .int a1, .int a2] (some (.int res)) M :=
  wc_of (cc := cX10_bound) (maxL := 3) (ret := (some .int)) (by decide) (Nat.le_of_ble_eq_true rfl) (fun _ _ _ _ _ _ _ _ B hW hl => pX10_bound B  hf hW va_S.rf hl)
end
theorem cdX10_isLamp : yX10_isLamp.cls = RX10 ∧ yX10_isLamp.cls ≠ "java/lang/invoke/MethodHandle" ∧ yX10_isLamp.cls ≠ "java/lang/invoke/VarHandle" ∧ (parseMethodDescriptor yX10_isLamp.desc).map (fun d => d.parameters.length) = some 1 := by decide +kernel
section
variable {p : Program} {l : Launch} {e : Env} {s : State} {m : MethodId} {args : Array Value} {below : List Frame} {meth : Method} {c : Code} {E : wE}
set_option maxRecDepth 100000 in
set_option maxHeartbeats 4000000 in
theorem pX10_isLamp (B : wB E p s m args meth c cX10_isLamp 2 RX10 (some .boolean)) {M : wMem} {a1 : Int32}  {res : Bool} (hf : fX10_isLamp M a1 = some res) {H : Heap} {locs : List Loc} {ls : Array Slot} (hW : wH E M H) (hS : va_S (wA E) s.heap H locs) (hl : lv_has ls 2 [(0, .ref (wad E 70)), (1, .int a1)]) : W p l e ({ frames := 0, cells := 0, slots := 0, locals := 0 } : Room) s m args below meth c H locs 0 0 (MQ below (wQ E (some (.int (wb res))) M) args s 0 0 (wA E)) (F0 m 0 ls []) := by
  unfold fX10_isLamp at hf
  obtain ⟨hx, hb, hr, hml, hown, hts, hlocks, hG, hV, hZ⟩ := id B
  refine lv_iload_n hx hb dX10_isLamp_0 rfl (lv_at hl 1 rfl) ?_
  rcases wif_e hf with ⟨hq1, hf⟩ | ⟨hq1, hf⟩
  · refine lv_if_lt (tgt := 16) hx hb dX10_isLamp_1 (by decide) (fun _ => ?_) (fun h => absurd hq1 h)
    refine lv_iconst (v := 0) hx hb dX10_isLamp_16 rfl ?_
    have hres := Option.some.inj hf
    subst hres
    exact W.zret hx hb hr (wb_n false) (wr_q hG hV hZ hW hS) hS.2.2 dX10_isLamp_17
  · refine lv_if_lt (tgt := 16) hx hb dX10_isLamp_1 (by decide) (fun h => absurd h hq1) (fun _ => ?_)
    refine lv_iload_n hx hb dX10_isLamp_4 rfl (lv_at hl 1 rfl) ?_
    refine lv_aload_n hx hb dX10_isLamp_5 rfl (lv_at hl 0 rfl) ?_
    refine wm_get hx hb hts wu_X10 hown hV hW (wlt_9 (rfl : wkd 70 = 9)) (wen_9 (rfl : wkd 70 = 9)) (C := RX10) (T := TX10) (N := 31) rfl 7 (by decide) (hts _ wA_721) rfl dX10_isLamp_6 ?_
    rcases wif_e hf with ⟨hq2, hf⟩ | ⟨hq2, hf⟩
    · refine lv_icmp_ge (tgt := 16) hx hb dX10_isLamp_9 (by decide) (fun _ => ?_) (fun h => absurd hq2 h)
      refine lv_iconst (v := 0) hx hb dX10_isLamp_16 rfl ?_
      have hres := Option.some.inj hf
      subst hres
      exact W.zret hx hb hr (wb_n false) (wr_q hG hV hZ hW hS) hS.2.2 dX10_isLamp_17
    · refine lv_icmp_ge (tgt := 16) hx hb dX10_isLamp_9 (by decide) (fun h => absurd h hq2) (fun _ => ?_)
      refine lv_iconst (v := 1) hx hb dX10_isLamp_12 rfl ?_
      refine lv_goto (tgt := 17) hx hb dX10_isLamp_13 (by decide) ?_
      have hres := Option.some.inj hf
      subst hres
      exact W.zret hx hb hr (wb_n true) (wr_q hG hV hZ hW hS) hS.2.2 dX10_isLamp_17
theorem cX10_isLamp_ok (l : Launch) (E : wE) (M : wMem) (a1 : Int32) {res : Bool} (hf : fX10_isLamp M a1 = some res) : wMet l yX10_isLamp (wsM yX10_isLamp cX10_isLamp 2 (some .boolean)) ({ frames := 0, cells := 0, slots := 0, locals := 0 } : Room) E M [.ref (wad E 70), .int a1] (some (.int (wb res))) M :=
  wc_of (cc := cX10_isLamp) (maxL := 2) (ret := (some .boolean)) (by decide) (Nat.le_of_ble_eq_true rfl) (fun _ _ _ _ _ _ _ _ B hW hl => pX10_isLamp B  hf hW va_S.rf hl)
end
theorem cdX10_least : yX10_least.cls ≠ "java/lang/invoke/MethodHandle" ∧ yX10_least.cls ≠ "java/lang/invoke/VarHandle" ∧ (parseMethodDescriptor yX10_least.desc).map (fun d => d.parameters.length) = some 2 := by decide +kernel
section
variable {p : Program} {l : Launch} {e : Env} {s : State} {m : MethodId} {args : Array Value} {below : List Frame} {meth : Method} {c : Code} {E : wE}
set_option maxRecDepth 100000 in
set_option maxHeartbeats 4000000 in
theorem pX10_least (B : wB E p s m args meth c cX10_least 2 RX10 (some .int)) {M : wMem} {a0 : Int32} {a1 : Int32}  {res : Int32} (hf : fX10_least M a0 a1 = some res) {H : Heap} {locs : List Loc} {ls : Array Slot} (hW : wH E M H) (hS : va_S (wA E) s.heap H locs) (hl : lv_has ls 2 [(0, .int a0), (1, .int a1)]) : W p l e ({ frames := 0, cells := 0, slots := 0, locals := 0 } : Room) s m args below meth c H locs 0 0 (MQ below (wQ E (some (.int res)) M) args s 0 0 (wA E)) (F0 m 0 ls []) := by
  unfold fX10_least at hf
  obtain ⟨hx, hb, hr, hml, hown, hts, hlocks, hG, hV, hZ⟩ := id B
  refine lv_iload_n hx hb dX10_least_0 rfl (lv_at hl 0 rfl) ?_
  refine lv_iload_n hx hb dX10_least_1 rfl (lv_at hl 1 rfl) ?_
  rcases wif_e hf with ⟨hq1, hf⟩ | ⟨hq1, hf⟩
  · refine lv_icmp_ge (tgt := 9) hx hb dX10_least_2 (by decide) (fun _ => ?_) (fun h => absurd hq1 h)
    refine lv_iload_n hx hb dX10_least_9 rfl (lv_at hl 1 rfl) ?_
    have hres := Option.some.inj hf
    subst hres
    exact W.iret hx hb hr (wr_q hG hV hZ hW hS) hS.2.2 dX10_least_10
  · refine lv_icmp_ge (tgt := 9) hx hb dX10_least_2 (by decide) (fun h => absurd h hq1) (fun _ => ?_)
    refine lv_iload_n hx hb dX10_least_5 rfl (lv_at hl 0 rfl) ?_
    refine lv_goto (tgt := 10) hx hb dX10_least_6 (by decide) ?_
    have hres := Option.some.inj hf
    subst hres
    exact W.iret hx hb hr (wr_q hG hV hZ hW hS) hS.2.2 dX10_least_10
theorem cX10_least_ok (l : Launch) (E : wE) (M : wMem) (a0 : Int32) (a1 : Int32) {res : Int32} (hf : fX10_least M a0 a1 = some res) : wMet l yX10_least (wsM yX10_least cX10_least 2 (some .int)) ({ frames := 0, cells := 0, slots := 0, locals := 0 } : Room) E M [.int a0, .int a1] (some (.int res)) M :=
  wc_of (cc := cX10_least) (maxL := 2) (ret := (some .int)) (by decide) (Nat.le_of_ble_eq_true rfl) (fun _ _ _ _ _ _ _ _ B hW hl => pX10_least B  hf hW va_S.rf hl)
end
theorem cdX10_feed : yX10_feed.cls = RX10 ∧ yX10_feed.cls ≠ "java/lang/invoke/MethodHandle" ∧ yX10_feed.cls ≠ "java/lang/invoke/VarHandle" ∧ (parseMethodDescriptor yX10_feed.desc).map (fun d => d.parameters.length) = some 1 := by decide +kernel
section
variable {p : Program} {l : Launch} {e : Env} {s : State} {m : MethodId} {args : Array Value} {below : List Frame} {meth : Method} {c : Code} {E : wE}
set_option maxRecDepth 100000 in
set_option maxHeartbeats 4000000 in
theorem pX10_feed_25 (B : wB E p s m args meth c cX10_feed 3 RX10 (some .int)) {M : wMem} {y1 : Int32} {y2 : Int32}  {res : Int32 × wMem}   (hf : fX10_feed_25 M  y1 y2 = some res) {H : Heap} {locs : List Loc} {ls : Array Slot} (hW : wH E M H) (hS : va_S (wA E) s.heap H locs) (hl : lv_has ls 3 [(0, .ref (wad E 70)), (1, .int y1), (2, .int y2)]) : W p l e ({ frames := 1, cells := 0, slots := 0, locals := 22 } : Room) s m args below meth c H locs 0 0 (MQ below (wQ E (some (.int res.1)) res.2) args s 0 0 (wA E)) (F0 m 25 ls []) := by
  unfold fX10_feed_25 at hf
  obtain ⟨hx, hb, hr, hml, hown, hts, hlocks, hG, hV, hZ⟩ := id B
  refine lv_iload_n hx hb dX10_feed_25 rfl (lv_at hl 2 rfl) ?_
  rcases wif_e hf with ⟨hq4, hf⟩ | ⟨hq4, hf⟩
  · refine lv_if_eq (tgt := 35) hx hb dX10_feed_26 (by decide) (fun _ => ?_) (fun h => absurd hq4 h)
    refine lv_aload_n hx hb dX10_feed_35 rfl (lv_at hl 0 rfl) ?_
    refine wm_get hx hb hts wu_X10 hown hV hW (wlt_9 (rfl : wkd 70 = 9)) (wen_9 (rfl : wkd 70 = 9)) (C := RX10) (T := TX10) (N := 31) rfl 9 (by decide) (hts _ wA_723) rfl dX10_feed_36 ?_
    refine lv_aload_n hx hb dX10_feed_39 rfl (lv_at hl 0 rfl) ?_
    refine wm_get hx hb hts wu_X10 hown hV hW (wlt_9 (rfl : wkd 70 = 9)) (wen_9 (rfl : wkd 70 = 9)) (C := RX10) (T := TX10) (N := 31) rfl 13 (by decide) (hts _ wA_727) rfl dX10_feed_40 ?_
    refine lv_iload_n hx hb dX10_feed_43 rfl (lv_at hl 1 rfl) ?_
    obtain ⟨hi5, hf⟩ := wgi_e hf
    refine wm_iast hx hb hG hV hW hS (rfl : wkd 78 = 21) (n := 64) rfl hi5 dX10_feed_44 (fun H locs hW hS => ?_)
    obtain ⟨M6, hW, hf⟩ := wlet_M hW hf
    refine lv_aload_n hx hb dX10_feed_45 rfl (lv_at hl 0 rfl) ?_
    refine lv_dup hx hb dX10_feed_46 rfl ?_
    refine wm_get hx hb hts wu_X10 hown hV hW (wlt_9 (rfl : wkd 70 = 9)) (wen_9 (rfl : wkd 70 = 9)) (C := RX10) (T := TX10) (N := 31) rfl 13 (by decide) (hts _ wA_727) rfl dX10_feed_47 ?_
    refine lv_iconst (v := 1) hx hb dX10_feed_50 rfl ?_
    refine lv_iadd hx hb dX10_feed_51 ?_
    refine wm_put hx hb hts wu_X10 tyX10 tyX10_ok nmX10 hown hG hV hW hS (wlt_9 (rfl : wkd 70 = 9)) (wen_9 (rfl : wkd 70 = 9)) (C := RX10) (T := TX10) (N := 31) rfl 13 (by decide) (hts _ wA_727) rfl .int _ (tyX10_ok 13 (by decide)) rfl rfl (Nat.le_of_ble_eq_true rfl) (wpt_9_13 (rfl : wkd 70 = 9)) dX10_feed_52 (fun H locs hW hS => ?_)
    obtain ⟨M7, hW, hf⟩ := wlet_M hW hf
    refine lv_aload_n hx hb dX10_feed_55 rfl (lv_at hl 0 rfl) ?_
    refine wm_get hx hb hts wu_X10 hown hV hW (wlt_9 (rfl : wkd 70 = 9)) (wen_9 (rfl : wkd 70 = 9)) (C := RX10) (T := TX10) (N := 31) rfl 13 (by decide) (hts _ wA_727) rfl dX10_feed_56 ?_
    have hres := Option.some.inj hf
    subst hres
    exact W.iret hx hb hr (wr_q hG hV hZ hW hS) hS.2.2 dX10_feed_59
  · refine lv_if_eq (tgt := 35) hx hb dX10_feed_26 (by decide) (fun h => absurd h hq4) (fun _ => ?_)
    refine lv_aload_n hx hb dX10_feed_29 rfl (lv_at hl 0 rfl) ?_
    refine lv_iload_n hx hb dX10_feed_30 rfl (lv_at hl 2 rfl) ?_
    obtain ⟨r9, M10, hc8, hf⟩ := wbind_p hf
    refine wc_V (As := [.int y2]) (rest := []) hx hb hml hown hts hG hV hZ (wlt_9 (rfl : wkd 70 = 9)) (q := (RX10, TX10, 31)) (wen_9 (rfl : wkd 70 = 9)) rfl (cX10_no_ok l E M y2 hc8) (cwV 1 hts gl_X10_83 rfl rfl rfl cdX10_no ⟨Nat.le_of_ble_eq_true rfl, Nat.le_of_ble_eq_true rfl⟩) rfl hl.1 rfl (Nat.le_of_ble_eq_true rfl) dX10_feed_31 ⟨Nat.zero_le _, Nat.zero_le _⟩ hW hS rfl (fun H locs hW hS => ?_)
    have hres := Option.some.inj hf
    subst hres
    exact W.iret hx hb hr (wr_q hG hV hZ hW hS) hS.2.2 dX10_feed_34
set_option maxRecDepth 100000 in
set_option maxHeartbeats 4000000 in
theorem pX10_feed (B : wB E p s m args meth c cX10_feed 3 RX10 (some .int)) {M : wMem} {a1 : Int32}  {res : Int32 × wMem} (hf : fX10_feed M a1 = some res) {H : Heap} {locs : List Loc} {ls : Array Slot} (hW : wH E M H) (hS : va_S (wA E) s.heap H locs) (hl : lv_has ls 3 [(0, .ref (wad E 70)), (1, .int a1)]) : W p l e ({ frames := 1, cells := 0, slots := 0, locals := 22 } : Room) s m args below meth c H locs 0 0 (MQ below (wQ E (some (.int res.1)) res.2) args s 0 0 (wA E)) (F0 m 0 ls []) := by
  unfold fX10_feed at hf
  obtain ⟨hx, hb, hr, hml, hown, hts, hlocks, hG, hV, hZ⟩ := id B
  refine lv_iload_n hx hb dX10_feed_0 rfl (lv_at hl 1 rfl) ?_
  refine lv_iconst (v := 0) hx hb dX10_feed_1 rfl ?_
  refine lv_sipush (v := 255) hx hb dX10_feed_2 (by decide) ?_
  obtain ⟨r2, hc1, hf⟩ := wbind_e hf
  refine wc_S (As := [.int a1, .int 0, .int 255]) (rest := []) hx hb hml hown hts hG hV hZ (cX10_bound_ok l E M a1 0 255 hc1) (va_cwS 3 hts gl_X10_76 rfl rfl rfl cdX10_bound ⟨Nat.le_of_ble_eq_true rfl, Nat.le_of_ble_eq_true rfl⟩) rfl hl.1 rfl (Nat.le_of_ble_eq_true rfl) dX10_feed_5 ⟨Nat.zero_le _, Nat.zero_le _⟩ hW hS rfl (fun H locs hW hS => ?_)
  refine lv_istore_n (lv' := [(2, .int r2), (0, .ref (wad E 70)), (1, .int a1)]) hx hb dX10_feed_8 rfl hl (by decide) rfl (fun ls hl => ?_)
  refine lv_iload_n hx hb dX10_feed_9 rfl (lv_at hl 0 rfl) ?_
  rcases wif_e hf with ⟨hq3, hf⟩ | ⟨hq3, hf⟩
  · refine lv_if_ne (tgt := 25) hx hb dX10_feed_10 (by decide) (fun h => absurd hq3 h) (fun _ => ?_)
    refine lv_aload_n hx hb dX10_feed_13 rfl (lv_at hl 1 rfl) ?_
    refine wm_get hx hb hts wu_X10 hown hV hW (wlt_9 (rfl : wkd 70 = 9)) (wen_9 (rfl : wkd 70 = 9)) (C := RX10) (T := TX10) (N := 31) rfl 13 (by decide) (hts _ wA_727) rfl dX10_feed_14 ?_
    refine lv_bipush (v := 64) hx hb dX10_feed_17 (by decide) ?_
    rcases wif_e hf with ⟨hq11, hf⟩ | ⟨hq11, hf⟩
    · refine lv_icmp_ne (tgt := 25) hx hb dX10_feed_19 (by decide) (fun h => absurd hq11 h) (fun _ => ?_)
      refine lv_bipush (v := (-6)) hx hb dX10_feed_22 (by decide) ?_
      refine lv_istore_n (lv' := [(2, .int (-6)), (0, .ref (wad E 70)), (1, .int a1)]) hx hb dX10_feed_24 rfl hl (by decide) rfl (fun ls hl => ?_)
      exact pX10_feed_25 B   hf hW hS (lv_sub hl [1, 2, 0] rfl)
    · refine lv_icmp_ne (tgt := 25) hx hb dX10_feed_19 (by decide) (fun _ => ?_) (fun h => absurd h hq11)
      exact pX10_feed_25 B   hf hW hS (lv_sub hl [1, 2, 0] rfl)
  · refine lv_if_ne (tgt := 25) hx hb dX10_feed_10 (by decide) (fun _ => ?_) (fun h => absurd h hq3)
    exact pX10_feed_25 B   hf hW hS (lv_sub hl [1, 2, 0] rfl)
theorem cX10_feed_ok (l : Launch) (E : wE) (M : wMem) (a1 : Int32) {res : Int32 × wMem} (hf : fX10_feed M a1 = some res) : wMet l yX10_feed (wsM yX10_feed cX10_feed 3 (some .int)) ({ frames := 1, cells := 0, slots := 0, locals := 22 } : Room) E M [.ref (wad E 70), .int a1] (some (.int res.1)) res.2 :=
  wc_of (cc := cX10_feed) (maxL := 3) (ret := (some .int)) (by decide) (Nat.le_of_ble_eq_true rfl) (fun _ _ _ _ _ _ _ _ B hW hl => pX10_feed B  hf hW va_S.rf hl)
end
theorem cdX10_nextLetter : yX10_nextLetter.cls = RX10 ∧ yX10_nextLetter.cls ≠ "java/lang/invoke/MethodHandle" ∧ yX10_nextLetter.cls ≠ "java/lang/invoke/VarHandle" ∧ (parseMethodDescriptor yX10_nextLetter.desc).map (fun d => d.parameters.length) = some 0 := by decide +kernel
section
variable {p : Program} {l : Launch} {e : Env} {s : State} {m : MethodId} {args : Array Value} {below : List Frame} {meth : Method} {c : Code} {E : wE}
set_option maxRecDepth 100000 in
set_option maxHeartbeats 4000000 in
theorem pX10_nextLetter (B : wB E p s m args meth c cX10_nextLetter 1 RX10 (some .int)) {M : wMem}   {res : Int32} (hf : fX10_nextLetter M  = some res) {H : Heap} {locs : List Loc} {ls : Array Slot} (hW : wH E M H) (hS : va_S (wA E) s.heap H locs) (hl : lv_has ls 1 [(0, .ref (wad E 70))]) : W p l e ({ frames := 0, cells := 0, slots := 0, locals := 0 } : Room) s m args below meth c H locs 0 0 (MQ below (wQ E (some (.int res)) M) args s 0 0 (wA E)) (F0 m 0 ls []) := by
  unfold fX10_nextLetter at hf
  obtain ⟨hx, hb, hr, hml, hown, hts, hlocks, hG, hV, hZ⟩ := id B
  refine lv_aload_n hx hb dX10_nextLetter_0 rfl (lv_at hl 0 rfl) ?_
  refine wm_get hx hb hts wu_X10 hown hV hW (wlt_9 (rfl : wkd 70 = 9)) (wen_9 (rfl : wkd 70 = 9)) (C := RX10) (T := TX10) (N := 31) rfl 14 (by decide) (hts _ wA_728) rfl dX10_nextLetter_1 ?_
  refine lv_aload_n hx hb dX10_nextLetter_4 rfl (lv_at hl 0 rfl) ?_
  refine wm_get hx hb hts wu_X10 hown hV hW (wlt_9 (rfl : wkd 70 = 9)) (wen_9 (rfl : wkd 70 = 9)) (C := RX10) (T := TX10) (N := 31) rfl 13 (by decide) (hts _ wA_727) rfl dX10_nextLetter_5 ?_
  rcases wif_e hf with ⟨hq1, hf⟩ | ⟨hq1, hf⟩
  · refine lv_icmp_ge (tgt := 23) hx hb dX10_nextLetter_8 (by decide) (fun _ => ?_) (fun h => absurd hq1 h)
    refine lv_iconst (v := (-1)) hx hb dX10_nextLetter_23 rfl ?_
    have hres := Option.some.inj hf
    subst hres
    exact W.iret hx hb hr (wr_q hG hV hZ hW hS) hS.2.2 dX10_nextLetter_24
  · refine lv_icmp_ge (tgt := 23) hx hb dX10_nextLetter_8 (by decide) (fun h => absurd h hq1) (fun _ => ?_)
    refine lv_aload_n hx hb dX10_nextLetter_11 rfl (lv_at hl 0 rfl) ?_
    refine wm_get hx hb hts wu_X10 hown hV hW (wlt_9 (rfl : wkd 70 = 9)) (wen_9 (rfl : wkd 70 = 9)) (C := RX10) (T := TX10) (N := 31) rfl 9 (by decide) (hts _ wA_723) rfl dX10_nextLetter_12 ?_
    refine lv_aload_n hx hb dX10_nextLetter_15 rfl (lv_at hl 0 rfl) ?_
    refine wm_get hx hb hts wu_X10 hown hV hW (wlt_9 (rfl : wkd 70 = 9)) (wen_9 (rfl : wkd 70 = 9)) (C := RX10) (T := TX10) (N := 31) rfl 14 (by decide) (hts _ wA_728) rfl dX10_nextLetter_16 ?_
    obtain ⟨hi2, hf⟩ := wgi_e hf
    refine wm_iald hx hb hV hW (rfl : wkd 78 = 21) (n := 64) rfl hi2 dX10_nextLetter_19 ?_
    refine lv_goto (tgt := 24) hx hb dX10_nextLetter_20 (by decide) ?_
    have hres := Option.some.inj hf
    subst hres
    exact W.iret hx hb hr (wr_q hG hV hZ hW hS) hS.2.2 dX10_nextLetter_24
theorem cX10_nextLetter_ok (l : Launch) (E : wE) (M : wMem)  {res : Int32} (hf : fX10_nextLetter M  = some res) : wMet l yX10_nextLetter (wsM yX10_nextLetter cX10_nextLetter 1 (some .int)) ({ frames := 0, cells := 0, slots := 0, locals := 0 } : Room) E M [.ref (wad E 70)] (some (.int res)) M :=
  wc_of (cc := cX10_nextLetter) (maxL := 1) (ret := (some .int)) (by decide) (Nat.le_of_ble_eq_true rfl) (fun _ _ _ _ _ _ _ _ B hW hl => pX10_nextLetter B  hf hW va_S.rf hl)
end
theorem cdX10_isNext : yX10_isNext.cls = RX10 ∧ yX10_isNext.cls ≠ "java/lang/invoke/MethodHandle" ∧ yX10_isNext.cls ≠ "java/lang/invoke/VarHandle" ∧ (parseMethodDescriptor yX10_isNext.desc).map (fun d => d.parameters.length) = some 1 := by decide +kernel
section
variable {p : Program} {l : Launch} {e : Env} {s : State} {m : MethodId} {args : Array Value} {below : List Frame} {meth : Method} {c : Code} {E : wE}
set_option maxRecDepth 100000 in
set_option maxHeartbeats 4000000 in
theorem pX10_isNext (B : wB E p s m args meth c cX10_isNext 2 RX10 (some .boolean)) {M : wMem} {a1 : Int32}  {res : Bool × wMem} (hf : fX10_isNext M a1 = some res) {H : Heap} {locs : List Loc} {ls : Array Slot} (hW : wH E M H) (hS : va_S (wA E) s.heap H locs) (hl : lv_has ls 2 [(0, .ref (wad E 70)), (1, .int a1)]) : W p l e ({ frames := 1, cells := 0, slots := 0, locals := 20 } : Room) s m args below meth c H locs 0 0 (MQ below (wQ E (some (.int (wb res.1))) res.2) args s 0 0 (wA E)) (F0 m 0 ls []) := by
  unfold fX10_isNext at hf
  obtain ⟨hx, hb, hr, hml, hown, hts, hlocks, hG, hV, hZ⟩ := id B
  refine lv_aload_n hx hb dX10_isNext_0 rfl (lv_at hl 0 rfl) ?_
  obtain ⟨r2, hc1, hf⟩ := wbind_e hf
  refine wc_V (As := []) (rest := []) hx hb hml hown hts hG hV hZ (wlt_9 (rfl : wkd 70 = 9)) (q := (RX10, TX10, 31)) (wen_9 (rfl : wkd 70 = 9)) rfl (cX10_nextLetter_ok l E M  hc1) (cwV 0 hts gl_X10_90 rfl rfl rfl cdX10_nextLetter ⟨Nat.le_of_ble_eq_true rfl, Nat.le_of_ble_eq_true rfl⟩) rfl hl.1 rfl (Nat.le_of_ble_eq_true rfl) dX10_isNext_1 ⟨Nat.zero_le _, Nat.zero_le _⟩ hW hS rfl (fun H locs hW hS => ?_)
  refine lv_iload_n hx hb dX10_isNext_4 rfl (lv_at hl 1 rfl) ?_
  rcases wif_e hf with ⟨hq3, hf⟩ | ⟨hq3, hf⟩
  · refine lv_icmp_eq (tgt := 10) hx hb dX10_isNext_5 (by decide) (fun _ => ?_) (fun h => absurd hq3 h)
    refine lv_aload_n hx hb dX10_isNext_10 rfl (lv_at hl 0 rfl) ?_
    refine lv_dup hx hb dX10_isNext_11 rfl ?_
    refine wm_get hx hb hts wu_X10 hown hV hW (wlt_9 (rfl : wkd 70 = 9)) (wen_9 (rfl : wkd 70 = 9)) (C := RX10) (T := TX10) (N := 31) rfl 14 (by decide) (hts _ wA_728) rfl dX10_isNext_12 ?_
    refine lv_iconst (v := 1) hx hb dX10_isNext_15 rfl ?_
    refine lv_iadd hx hb dX10_isNext_16 ?_
    refine wm_put hx hb hts wu_X10 tyX10 tyX10_ok nmX10 hown hG hV hW hS (wlt_9 (rfl : wkd 70 = 9)) (wen_9 (rfl : wkd 70 = 9)) (C := RX10) (T := TX10) (N := 31) rfl 14 (by decide) (hts _ wA_728) rfl .int _ (tyX10_ok 14 (by decide)) rfl rfl (Nat.le_of_ble_eq_true rfl) (wpt_9_14 (rfl : wkd 70 = 9)) dX10_isNext_17 (fun H locs hW hS => ?_)
    obtain ⟨M4, hW, hf⟩ := wlet_M hW hf
    refine lv_iconst (v := 1) hx hb dX10_isNext_20 rfl ?_
    have hres := Option.some.inj hf
    subst hres
    exact W.zret hx hb hr (wb_n true) (wr_q hG hV hZ hW hS) hS.2.2 dX10_isNext_21
  · refine lv_icmp_eq (tgt := 10) hx hb dX10_isNext_5 (by decide) (fun h => absurd h hq3) (fun _ => ?_)
    refine lv_iconst (v := 0) hx hb dX10_isNext_8 rfl ?_
    have hres := Option.some.inj hf
    subst hres
    exact W.zret hx hb hr (wb_n false) (wr_q hG hV hZ hW hS) hS.2.2 dX10_isNext_9
theorem cX10_isNext_ok (l : Launch) (E : wE) (M : wMem) (a1 : Int32) {res : Bool × wMem} (hf : fX10_isNext M a1 = some res) : wMet l yX10_isNext (wsM yX10_isNext cX10_isNext 2 (some .boolean)) ({ frames := 1, cells := 0, slots := 0, locals := 20 } : Room) E M [.ref (wad E 70), .int a1] (some (.int (wb res.1))) res.2 :=
  wc_of (cc := cX10_isNext) (maxL := 2) (ret := (some .boolean)) (by decide) (Nat.le_of_ble_eq_true rfl) (fun _ _ _ _ _ _ _ _ B hW hl => pX10_isNext B  hf hW va_S.rf hl)
end
theorem cdX10_reads : yX10_reads.cls = RX10 ∧ yX10_reads.cls ≠ "java/lang/invoke/MethodHandle" ∧ yX10_reads.cls ≠ "java/lang/invoke/VarHandle" ∧ (parseMethodDescriptor yX10_reads.desc).map (fun d => d.parameters.length) = some 2 := by decide +kernel
section
variable {p : Program} {l : Launch} {e : Env} {s : State} {m : MethodId} {args : Array Value} {below : List Frame} {meth : Method} {c : Code} {E : wE}
set_option maxRecDepth 100000 in
set_option maxHeartbeats 4000000 in
theorem pX10_reads_70 (B : wB E p s m args meth c cX10_reads 5 RX10 (some .boolean)) {M : wMem} {y1 : Int32} {y3 : Int32}  {res : Bool × wMem}   (hf : fX10_reads_70 M  y1 y3 = some res) {H : Heap} {locs : List Loc} {ls : Array Slot} (hW : wH E M H) (hS : va_S (wA E) s.heap H locs) (hl : lv_has ls 5 [(0, .ref (wad E 70)), (1, .int y1), (3, .int y3)]) : W p l e ({ frames := 1, cells := 0, slots := 0, locals := 22 } : Room) s m args below meth c H locs 0 0 (MQ below (wQ E (some (.int (wb res.1))) res.2) args s 0 0 (wA E)) (F0 m 70 ls []) := by
  unfold fX10_reads_70 at hf
  obtain ⟨hx, hb, hr, hml, hown, hts, hlocks, hG, hV, hZ⟩ := id B
  refine lv_aload_n hx hb dX10_reads_70 rfl (lv_at hl 0 rfl) ?_
  refine wm_get hx hb hts wu_X10 hown hV hW (wlt_9 (rfl : wkd 70 = 9)) (wen_9 (rfl : wkd 70 = 9)) (C := RX10) (T := TX10) (N := 31) rfl 12 (by decide) (hts _ wA_726) rfl dX10_reads_71 ?_
  refine lv_iload_n hx hb dX10_reads_74 rfl (lv_at hl 1 rfl) ?_
  refine lv_iload_n hx hb dX10_reads_75 rfl (lv_at hl 2 rfl) ?_
  obtain ⟨hi7, hf⟩ := wgi_e hf
  refine wm_iast hx hb hG hV hW hS (rfl : wkd 81 = 21) (n := 96) rfl hi7 dX10_reads_76 (fun H locs hW hS => ?_)
  obtain ⟨M8, hW, hf⟩ := wlet_M hW hf
  refine lv_iconst (v := 1) hx hb dX10_reads_77 rfl ?_
  have hres := Option.some.inj hf
  subst hres
  exact W.zret hx hb hr (wb_n true) (wr_q hG hV hZ hW hS) hS.2.2 dX10_reads_78
set_option maxRecDepth 100000 in
set_option maxHeartbeats 4000000 in
theorem pX10_reads_21_b (B : wB E p s m args meth c cX10_reads 5 RX10 (some .boolean)) {M : wMem} {y1 : Int32} {y2 : Int32} {y3 : Int32} {y4 : Int32}  {rec21 : (Int32 × Int32 × wMem → Option (Bool × wMem))} {res : Bool × wMem}   (hrec21 : ∀ (y3' : Int32) (y4' : Int32) (M' : wMem), rec21 (y3', y4', M') = some res → ∀ (H : Heap) (locs : List Loc) (ls : Array Slot), wH E M' H → va_S (wA E) s.heap H locs → lv_has ls 5 [(0, .ref (wad E 70)), (1, .int y1), (2, .int y2), (3, .int y3'), (4, .int y4')] → W p l e ({ frames := 1, cells := 0, slots := 0, locals := 22 } : Room) s m args below meth c H locs 0 0 (MQ below (wQ E (some (.int (wb res.1))) res.2) args s 0 0 (wA E)) (F0 m 21 ls [])) (hf : fX10_reads_21_b M  rec21 y1 y2 y3 y4 = some res) {H : Heap} {locs : List Loc} {ls : Array Slot} (hW : wH E M H) (hS : va_S (wA E) s.heap H locs) (hl : lv_has ls 5 [(0, .ref (wad E 70)), (1, .int y1), (2, .int y2), (3, .int y3), (4, .int y4)]) : W p l e ({ frames := 1, cells := 0, slots := 0, locals := 22 } : Room) s m args below meth c H locs 0 0 (MQ below (wQ E (some (.int (wb res.1))) res.2) args s 0 0 (wA E)) (F0 m 21 ls []) := by
  unfold fX10_reads_21_b at hf
  obtain ⟨hx, hb, hr, hml, hown, hts, hlocks, hG, hV, hZ⟩ := id B
  refine lv_iload hx hb dX10_reads_21 (lv_at hl 4 rfl) ?_
  refine lv_iload_n hx hb dX10_reads_23 rfl (lv_at hl 2 rfl) ?_
  rcases wif_e hf with ⟨hq6, hf⟩ | ⟨hq6, hf⟩
  · refine lv_icmp_ge (tgt := 70) hx hb dX10_reads_24 (by decide) (fun _ => ?_) (fun h => absurd hq6 h)
    exact pX10_reads_70 B   hf hW hS (lv_sub hl [0, 1, 3] rfl)
  · refine lv_icmp_ge (tgt := 70) hx hb dX10_reads_24 (by decide) (fun h => absurd h hq6) (fun _ => ?_)
    refine lv_aload_n hx hb dX10_reads_27 rfl (lv_at hl 0 rfl) ?_
    obtain ⟨r10, hc9, hf⟩ := wbind_e hf
    refine wc_V (As := []) (rest := []) hx hb hml hown hts hG hV hZ (wlt_9 (rfl : wkd 70 = 9)) (q := (RX10, TX10, 31)) (wen_9 (rfl : wkd 70 = 9)) rfl (cX10_nextLetter_ok l E M  hc9) (cwV 0 hts gl_X10_90 rfl rfl rfl cdX10_nextLetter ⟨Nat.le_of_ble_eq_true rfl, Nat.le_of_ble_eq_true rfl⟩) rfl hl.1 rfl (Nat.le_of_ble_eq_true rfl) dX10_reads_28 ⟨Nat.zero_le _, Nat.zero_le _⟩ hW hS rfl (fun H locs hW hS => ?_)
    refine lv_bipush (v := 48) hx hb dX10_reads_31 (by decide) ?_
    refine lv_bipush (v := 57) hx hb dX10_reads_33 (by decide) ?_
    obtain ⟨r12, hc11, hf⟩ := wbind_e hf
    refine wc_S (As := [.int r10, .int 48, .int 57]) (rest := []) hx hb hml hown hts hG hV hZ (cX10_isIn_ok l E M r10 48 57 hc11) (va_cwS 3 hts gl_X10_94 rfl rfl rfl cdX10_isIn ⟨Nat.le_of_ble_eq_true rfl, Nat.le_of_ble_eq_true rfl⟩) rfl hl.1 rfl (Nat.le_of_ble_eq_true rfl) dX10_reads_35 ⟨Nat.zero_le _, Nat.zero_le _⟩ hW hS rfl (fun H locs hW hS => ?_)
    rcases wif_e hf with ⟨hq13, hf⟩ | ⟨hq13, hf⟩
    · refine lv_if_eq (tgt := 70) hx hb dX10_reads_38 (by decide) (fun _ => ?_) (fun h => absurd hq13 h)
      exact pX10_reads_70 B   hf hW hS (lv_sub hl [0, 1, 3] rfl)
    · refine lv_if_eq (tgt := 70) hx hb dX10_reads_38 (by decide) (fun h => absurd h hq13) (fun _ => ?_)
      refine lv_bipush (v := 10) hx hb dX10_reads_41 (by decide) ?_
      refine lv_iload_n hx hb dX10_reads_43 rfl (lv_at hl 3 rfl) ?_
      refine lv_imul hx hb dX10_reads_44 ?_
      refine lv_aload_n hx hb dX10_reads_45 rfl (lv_at hl 0 rfl) ?_
      obtain ⟨r15, hc14, hf⟩ := wbind_e hf
      refine wc_V (As := []) (rest := [.int (10 * y3)]) hx hb hml hown hts hG hV hZ (wlt_9 (rfl : wkd 70 = 9)) (q := (RX10, TX10, 31)) (wen_9 (rfl : wkd 70 = 9)) rfl (cX10_nextLetter_ok l E M  hc14) (cwV 0 hts gl_X10_90 rfl rfl rfl cdX10_nextLetter ⟨Nat.le_of_ble_eq_true rfl, Nat.le_of_ble_eq_true rfl⟩) rfl hl.1 rfl (Nat.le_of_ble_eq_true rfl) dX10_reads_46 ⟨Nat.zero_le _, Nat.zero_le _⟩ hW hS rfl (fun H locs hW hS => ?_)
      refine lv_iadd hx hb dX10_reads_49 ?_
      refine lv_bipush (v := 48) hx hb dX10_reads_50 (by decide) ?_
      refine lv_isub hx hb dX10_reads_52 ?_
      refine lv_topi (fun x16 ex16 => ?_)
      replace hf := wlet_y ex16 hf
      refine lv_istore_n (lv' := [(3, .int x16), (0, .ref (wad E 70)), (1, .int y1), (2, .int y2), (4, .int y4)]) hx hb dX10_reads_53 rfl hl (by decide) rfl (fun ls hl => ?_)
      refine lv_aload_n hx hb dX10_reads_54 rfl (lv_at hl 1 rfl) ?_
      refine lv_dup hx hb dX10_reads_55 rfl ?_
      refine wm_get hx hb hts wu_X10 hown hV hW (wlt_9 (rfl : wkd 70 = 9)) (wen_9 (rfl : wkd 70 = 9)) (C := RX10) (T := TX10) (N := 31) rfl 14 (by decide) (hts _ wA_728) rfl dX10_reads_56 ?_
      refine lv_iconst (v := 1) hx hb dX10_reads_59 rfl ?_
      refine lv_iadd hx hb dX10_reads_60 ?_
      refine wm_put hx hb hts wu_X10 tyX10 tyX10_ok nmX10 hown hG hV hW hS (wlt_9 (rfl : wkd 70 = 9)) (wen_9 (rfl : wkd 70 = 9)) (C := RX10) (T := TX10) (N := 31) rfl 14 (by decide) (hts _ wA_728) rfl .int _ (tyX10_ok 14 (by decide)) rfl rfl (Nat.le_of_ble_eq_true rfl) (wpt_9_14 (rfl : wkd 70 = 9)) dX10_reads_61 (fun H locs hW hS => ?_)
      obtain ⟨M17, hW, hf⟩ := wlet_M hW hf
      obtain ⟨x18, ex18, hf⟩ := wlet_e hf
      refine lv_iinc (v := x18) (lv' := [(4, .int x18), (3, .int x16), (0, .ref (wad E 70)), (1, .int y1), (2, .int y2)]) hx hb dX10_reads_64 hl (k := 4) rfl (by rw [ex18]; rfl) (by decide) rfl (fun ls hl => ?_)
      refine lv_goto (tgt := 21) hx hb dX10_reads_67 (by decide) ?_
      exact hrec21 x16 x18 M17 hf _ _ _ hW hS (lv_sub hl [2, 3, 4, 1, 0] rfl)
set_option maxRecDepth 100000 in
set_option maxHeartbeats 4000000 in
theorem pX10_reads_21 (B : wB E p s m args meth c cX10_reads 5 RX10 (some .boolean)) {M : wMem} {y1 : Int32} {y2 : Int32} {y3 : Int32} {y4 : Int32}  {res : Bool × wMem}   (hf : fX10_reads_21 M  y1 y2 y3 y4 = some res) {H : Heap} {locs : List Loc} {ls : Array Slot} (hW : wH E M H) (hS : va_S (wA E) s.heap H locs) (hl : lv_has ls 5 [(0, .ref (wad E 70)), (1, .int y1), (2, .int y2), (3, .int y3), (4, .int y4)]) : W p l e ({ frames := 1, cells := 0, slots := 0, locals := 22 } : Room) s m args below meth c H locs 0 0 (MQ below (wQ E (some (.int (wb res.1))) res.2) args s 0 0 (wA E)) (F0 m 21 ls []) := by
  have key := wloop_W (b := (fun rec21 t => fX10_reads_21_b t.2.2  rec21 y1 y2 t.1 t.2.1)) (P := fun t => ∀ (H : Heap) (locs : List Loc) (ls : Array Slot), wH E t.2.2 H → va_S (wA E) s.heap H locs → lv_has ls 5 [(0, .ref (wad E 70)), (1, .int y1), (2, .int y2), (3, .int t.1), (4, .int t.2.1)] → W p l e ({ frames := 1, cells := 0, slots := 0, locals := 22 } : Room) s m args below meth c H locs 0 0 (MQ below (wQ E (some (.int (wb res.1))) res.2) args s 0 0 (wA E)) (F0 m 21 ls [])) (r := res) (fun rec hrec t hf H locs ls hW hS hl => pX10_reads_21_b B   (fun v0 v1 v2 hf H locs ls hW hS hl => hrec (v0, v1, v2) hf H locs ls hW hS hl) hf hW hS hl)
  exact key wfuel (y3, y4, M) hf H locs ls hW hS hl
set_option maxRecDepth 100000 in
set_option maxHeartbeats 4000000 in
theorem pX10_reads (B : wB E p s m args meth c cX10_reads 5 RX10 (some .boolean)) {M : wMem} {a1 : Int32} {a2 : Int32}  {res : Bool × wMem} (hf : fX10_reads M a1 a2 = some res) {H : Heap} {locs : List Loc} {ls : Array Slot} (hW : wH E M H) (hS : va_S (wA E) s.heap H locs) (hl : lv_has ls 5 [(0, .ref (wad E 70)), (1, .int a1), (2, .int a2)]) : W p l e ({ frames := 1, cells := 0, slots := 0, locals := 22 } : Room) s m args below meth c H locs 0 0 (MQ below (wQ E (some (.int (wb res.1))) res.2) args s 0 0 (wA E)) (F0 m 0 ls []) := by
  unfold fX10_reads at hf
  obtain ⟨hx, hb, hr, hml, hown, hts, hlocks, hG, hV, hZ⟩ := id B
  refine lv_aload_n hx hb dX10_reads_0 rfl (lv_at hl 0 rfl) ?_
  obtain ⟨r2, hc1, hf⟩ := wbind_e hf
  refine wc_V (As := []) (rest := []) hx hb hml hown hts hG hV hZ (wlt_9 (rfl : wkd 70 = 9)) (q := (RX10, TX10, 31)) (wen_9 (rfl : wkd 70 = 9)) rfl (cX10_nextLetter_ok l E M  hc1) (cwV 0 hts gl_X10_90 rfl rfl rfl cdX10_nextLetter ⟨Nat.le_of_ble_eq_true rfl, Nat.le_of_ble_eq_true rfl⟩) rfl hl.1 rfl (Nat.le_of_ble_eq_true rfl) dX10_reads_1 ⟨Nat.zero_le _, Nat.zero_le _⟩ hW hS rfl (fun H locs hW hS => ?_)
  refine lv_bipush (v := 48) hx hb dX10_reads_4 (by decide) ?_
  refine lv_bipush (v := 57) hx hb dX10_reads_6 (by decide) ?_
  obtain ⟨r4, hc3, hf⟩ := wbind_e hf
  refine wc_S (As := [.int r2, .int 48, .int 57]) (rest := []) hx hb hml hown hts hG hV hZ (cX10_isIn_ok l E M r2 48 57 hc3) (va_cwS 3 hts gl_X10_94 rfl rfl rfl cdX10_isIn ⟨Nat.le_of_ble_eq_true rfl, Nat.le_of_ble_eq_true rfl⟩) rfl hl.1 rfl (Nat.le_of_ble_eq_true rfl) dX10_reads_8 ⟨Nat.zero_le _, Nat.zero_le _⟩ hW hS rfl (fun H locs hW hS => ?_)
  rcases wif_e hf with ⟨hq5, hf⟩ | ⟨hq5, hf⟩
  · refine lv_if_ne (tgt := 16) hx hb dX10_reads_11 (by decide) (fun h => absurd hq5 h) (fun _ => ?_)
    refine lv_iconst (v := 0) hx hb dX10_reads_14 rfl ?_
    have hres := Option.some.inj hf
    subst hres
    exact W.zret hx hb hr (wb_n false) (wr_q hG hV hZ hW hS) hS.2.2 dX10_reads_15
  · refine lv_if_ne (tgt := 16) hx hb dX10_reads_11 (by decide) (fun _ => ?_) (fun h => absurd h hq5)
    refine lv_iconst (v := 0) hx hb dX10_reads_16 rfl ?_
    refine lv_istore_n (lv' := [(3, .int 0), (0, .ref (wad E 70)), (1, .int a1), (2, .int a2)]) hx hb dX10_reads_17 rfl hl (by decide) rfl (fun ls hl => ?_)
    refine lv_iconst (v := 0) hx hb dX10_reads_18 rfl ?_
    refine lv_istore (lv' := [(4, .int 0), (3, .int 0), (0, .ref (wad E 70)), (1, .int a1), (2, .int a2)]) hx hb dX10_reads_19 hl (by decide) rfl (fun ls hl => ?_)
    exact pX10_reads_21 B   hf hW hS (lv_sub hl [2, 3, 4, 1, 0] rfl)
theorem cX10_reads_ok (l : Launch) (E : wE) (M : wMem) (a1 : Int32) (a2 : Int32) {res : Bool × wMem} (hf : fX10_reads M a1 a2 = some res) : wMet l yX10_reads (wsM yX10_reads cX10_reads 5 (some .boolean)) ({ frames := 1, cells := 0, slots := 0, locals := 22 } : Room) E M [.ref (wad E 70), .int a1, .int a2] (some (.int (wb res.1))) res.2 :=
  wc_of (cc := cX10_reads) (maxL := 5) (ret := (some .boolean)) (by decide) (Nat.le_of_ble_eq_true rfl) (fun _ _ _ _ _ _ _ _ B hW hl => pX10_reads B  hf hW va_S.rf hl)
end
theorem cdX10_statement : yX10_statement.cls = RX10 ∧ yX10_statement.cls ≠ "java/lang/invoke/MethodHandle" ∧ yX10_statement.cls ≠ "java/lang/invoke/VarHandle" ∧ (parseMethodDescriptor yX10_statement.desc).map (fun d => d.parameters.length) = some 0 := by decide +kernel
section
variable {p : Program} {l : Launch} {e : Env} {s : State} {m : MethodId} {args : Array Value} {below : List Frame} {meth : Method} {c : Code} {E : wE}
set_option maxRecDepth 100000 in
set_option maxHeartbeats 4000000 in
theorem pX10_statement_31 (B : wB E p s m args meth c cX10_statement 3 RX10 (some .boolean)) {M : wMem} {y1 : Int32}  {res : Bool × wMem}   (hf : fX10_statement_31 M  y1 = some res) {H : Heap} {locs : List Loc} {ls : Array Slot} (hW : wH E M H) (hS : va_S (wA E) s.heap H locs) (hl : lv_has ls 3 [(0, .ref (wad E 70)), (1, .int y1)]) : W p l e ({ frames := 2, cells := 0, slots := 0, locals := 46 } : Room) s m args below meth c H locs 0 0 (MQ below (wQ E (some (.int (wb res.1))) res.2) args s 0 0 (wA E)) (F0 m 31 ls []) := by
  unfold fX10_statement_31 at hf
  obtain ⟨hx, hb, hr, hml, hown, hts, hlocks, hG, hV, hZ⟩ := id B
  refine lv_aload_n hx hb dX10_statement_31 rfl (lv_at hl 0 rfl) ?_
  refine wm_get hx hb hts wu_X10 hown hV hW (wlt_9 (rfl : wkd 70 = 9)) (wen_9 (rfl : wkd 70 = 9)) (C := RX10) (T := TX10) (N := 31) rfl 10 (by decide) (hts _ wA_724) rfl dX10_statement_32 ?_
  refine lv_aload_n hx hb dX10_statement_35 rfl (lv_at hl 0 rfl) ?_
  refine wm_get hx hb hts wu_X10 hown hV hW (wlt_9 (rfl : wkd 70 = 9)) (wen_9 (rfl : wkd 70 = 9)) (C := RX10) (T := TX10) (N := 31) rfl 15 (by decide) (hts _ wA_729) rfl dX10_statement_36 ?_
  refine lv_iload_n hx hb dX10_statement_39 rfl (lv_at hl 1 rfl) ?_
  obtain ⟨hi4, hf⟩ := wgi_e hf
  refine wm_iast hx hb hG hV hW hS (rfl : wkd 79 = 21) (n := 32) rfl hi4 dX10_statement_40 (fun H locs hW hS => ?_)
  obtain ⟨M5, hW, hf⟩ := wlet_M hW hf
  refine lv_aload_n hx hb dX10_statement_41 rfl (lv_at hl 0 rfl) ?_
  refine wm_get hx hb hts wu_X10 hown hV hW (wlt_9 (rfl : wkd 70 = 9)) (wen_9 (rfl : wkd 70 = 9)) (C := RX10) (T := TX10) (N := 31) rfl 11 (by decide) (hts _ wA_725) rfl dX10_statement_42 ?_
  refine lv_aload_n hx hb dX10_statement_45 rfl (lv_at hl 0 rfl) ?_
  refine wm_get hx hb hts wu_X10 hown hV hW (wlt_9 (rfl : wkd 70 = 9)) (wen_9 (rfl : wkd 70 = 9)) (C := RX10) (T := TX10) (N := 31) rfl 15 (by decide) (hts _ wA_729) rfl dX10_statement_46 ?_
  refine lv_aload_n hx hb dX10_statement_49 rfl (lv_at hl 0 rfl) ?_
  refine wm_get hx hb hts wu_X10 hown hV hW (wlt_9 (rfl : wkd 70 = 9)) (wen_9 (rfl : wkd 70 = 9)) (C := RX10) (T := TX10) (N := 31) rfl 14 (by decide) (hts _ wA_728) rfl dX10_statement_50 ?_
  obtain ⟨hi6, hf⟩ := wgi_e hf
  refine wm_iast hx hb hG hV hW hS (rfl : wkd 80 = 21) (n := 32) rfl hi6 dX10_statement_53 (fun H locs hW hS => ?_)
  obtain ⟨M7, hW, hf⟩ := wlet_M hW hf
  refine lv_aload_n hx hb dX10_statement_54 rfl (lv_at hl 0 rfl) ?_
  refine lv_dup hx hb dX10_statement_55 rfl ?_
  refine wm_get hx hb hts wu_X10 hown hV hW (wlt_9 (rfl : wkd 70 = 9)) (wen_9 (rfl : wkd 70 = 9)) (C := RX10) (T := TX10) (N := 31) rfl 14 (by decide) (hts _ wA_728) rfl dX10_statement_56 ?_
  refine lv_iconst (v := 1) hx hb dX10_statement_59 rfl ?_
  refine lv_iadd hx hb dX10_statement_60 ?_
  refine wm_put hx hb hts wu_X10 tyX10 tyX10_ok nmX10 hown hG hV hW hS (wlt_9 (rfl : wkd 70 = 9)) (wen_9 (rfl : wkd 70 = 9)) (C := RX10) (T := TX10) (N := 31) rfl 14 (by decide) (hts _ wA_728) rfl .int _ (tyX10_ok 14 (by decide)) rfl rfl (Nat.le_of_ble_eq_true rfl) (wpt_9_14 (rfl : wkd 70 = 9)) dX10_statement_61 (fun H locs hW hS => ?_)
  obtain ⟨M8, hW, hf⟩ := wlet_M hW hf
  refine lv_iconst (v := 3) hx hb dX10_statement_64 rfl ?_
  refine lv_aload_n hx hb dX10_statement_65 rfl (lv_at hl 0 rfl) ?_
  refine wm_get hx hb hts wu_X10 hown hV hW (wlt_9 (rfl : wkd 70 = 9)) (wen_9 (rfl : wkd 70 = 9)) (C := RX10) (T := TX10) (N := 31) rfl 15 (by decide) (hts _ wA_729) rfl dX10_statement_66 ?_
  refine lv_imul hx hb dX10_statement_69 ?_
  refine lv_topi (fun x9 ex9 => ?_)
  replace hf := wlet_y ex9 hf
  refine lv_istore_n (lv' := [(2, .int x9), (0, .ref (wad E 70)), (1, .int y1)]) hx hb dX10_statement_70 rfl hl (by decide) rfl (fun ls hl => ?_)
  refine lv_iload_n hx hb dX10_statement_71 rfl (lv_at hl 2 rfl) ?_
  refine lv_bipush (v := 117) hx hb dX10_statement_72 (by decide) ?_
  rcases wif_e hf with ⟨hq10, hf⟩ | ⟨hq10, hf⟩
  · refine lv_icmp_ne (tgt := 101) hx hb dX10_statement_74 (by decide) (fun h => absurd hq10 h) (fun _ => ?_)
    refine lv_aload_n hx hb dX10_statement_77 rfl (lv_at hl 1 rfl) ?_
    refine lv_iload_n hx hb dX10_statement_78 rfl (lv_at hl 0 rfl) ?_
    refine lv_iconst (v := 3) hx hb dX10_statement_79 rfl ?_
    obtain ⟨r58, M59, hc57, hf⟩ := wbind_p hf
    refine wc_V (As := [.int x9, .int 3]) (rest := []) hx hb hml hown hts hG hV hZ (wlt_9 (rfl : wkd 70 = 9)) (q := (RX10, TX10, 31)) (wen_9 (rfl : wkd 70 = 9)) rfl (cX10_reads_ok l E M8 x9 3 hc57) (cwV 2 hts gl_X10_101 rfl rfl rfl cdX10_reads ⟨Nat.le_of_ble_eq_true rfl, Nat.le_of_ble_eq_true rfl⟩) rfl hl.1 rfl (Nat.le_of_ble_eq_true rfl) dX10_statement_80 ⟨Nat.zero_le _, Nat.zero_le _⟩ hW hS rfl (fun H locs hW hS => ?_)
    rcases wif_e hf with ⟨hq60, hf⟩ | ⟨hq60, hf⟩
    · refine lv_if_eq (tgt := 99) hx hb dX10_statement_83 (by decide) (fun _ => ?_) (fun h => absurd hq60 h)
      refine lv_iconst (v := 0) hx hb dX10_statement_99 rfl ?_
      have hres := Option.some.inj hf
      subst hres
      exact W.zret hx hb hr (wb_n false) (wr_q hG hV hZ hW hS) hS.2.2 dX10_statement_100
    · refine lv_if_eq (tgt := 99) hx hb dX10_statement_83 (by decide) (fun h => absurd h hq60) (fun _ => ?_)
      refine lv_aload_n hx hb dX10_statement_86 rfl (lv_at hl 1 rfl) ?_
      refine lv_bipush (v := 59) hx hb dX10_statement_87 (by decide) ?_
      obtain ⟨r62, M63, hc61, hf⟩ := wbind_p hf
      refine wc_V (As := [.int 59]) (rest := []) hx hb hml hown hts hG hV hZ (wlt_9 (rfl : wkd 70 = 9)) (q := (RX10, TX10, 31)) (wen_9 (rfl : wkd 70 = 9)) rfl (cX10_isNext_ok l E M59 59 hc61) (cwV 1 hts gl_X10_105 rfl rfl rfl cdX10_isNext ⟨Nat.le_of_ble_eq_true rfl, Nat.le_of_ble_eq_true rfl⟩) rfl hl.1 rfl (Nat.le_of_ble_eq_true rfl) dX10_statement_89 ⟨Nat.zero_le _, Nat.zero_le _⟩ hW hS rfl (fun H locs hW hS => ?_)
      rcases wif_e hf with ⟨hq64, hf⟩ | ⟨hq64, hf⟩
      · refine lv_if_eq (tgt := 99) hx hb dX10_statement_92 (by decide) (fun _ => ?_) (fun h => absurd hq64 h)
        refine lv_iconst (v := 0) hx hb dX10_statement_99 rfl ?_
        have hres := Option.some.inj hf
        subst hres
        exact W.zret hx hb hr (wb_n false) (wr_q hG hV hZ hW hS) hS.2.2 dX10_statement_100
      · refine lv_if_eq (tgt := 99) hx hb dX10_statement_92 (by decide) (fun h => absurd h hq64) (fun _ => ?_)
        refine lv_iconst (v := 1) hx hb dX10_statement_95 rfl ?_
        refine lv_goto (tgt := 100) hx hb dX10_statement_96 (by decide) ?_
        have hres := Option.some.inj hf
        subst hres
        exact W.zret hx hb hr (wb_n true) (wr_q hG hV hZ hW hS) hS.2.2 dX10_statement_100
  · refine lv_icmp_ne (tgt := 101) hx hb dX10_statement_74 (by decide) (fun _ => ?_) (fun h => absurd h hq10)
    refine lv_iload_n hx hb dX10_statement_101 rfl (lv_at hl 2 rfl) ?_
    refine lv_bipush (v := 103) hx hb dX10_statement_102 (by decide) ?_
    rcases wif_e hf with ⟨hq11, hf⟩ | ⟨hq11, hf⟩
    · refine lv_icmp_ne (tgt := 131) hx hb dX10_statement_104 (by decide) (fun h => absurd hq11 h) (fun _ => ?_)
      refine lv_aload_n hx hb dX10_statement_107 rfl (lv_at hl 1 rfl) ?_
      refine lv_iload_n hx hb dX10_statement_108 rfl (lv_at hl 0 rfl) ?_
      refine lv_iconst (v := 1) hx hb dX10_statement_109 rfl ?_
      obtain ⟨r50, M51, hc49, hf⟩ := wbind_p hf
      refine wc_V (As := [.int x9, .int 1]) (rest := []) hx hb hml hown hts hG hV hZ (wlt_9 (rfl : wkd 70 = 9)) (q := (RX10, TX10, 31)) (wen_9 (rfl : wkd 70 = 9)) rfl (cX10_reads_ok l E M8 x9 1 hc49) (cwV 2 hts gl_X10_101 rfl rfl rfl cdX10_reads ⟨Nat.le_of_ble_eq_true rfl, Nat.le_of_ble_eq_true rfl⟩) rfl hl.1 rfl (Nat.le_of_ble_eq_true rfl) dX10_statement_110 ⟨Nat.zero_le _, Nat.zero_le _⟩ hW hS rfl (fun H locs hW hS => ?_)
      rcases wif_e hf with ⟨hq52, hf⟩ | ⟨hq52, hf⟩
      · refine lv_if_eq (tgt := 129) hx hb dX10_statement_113 (by decide) (fun _ => ?_) (fun h => absurd hq52 h)
        refine lv_iconst (v := 0) hx hb dX10_statement_129 rfl ?_
        have hres := Option.some.inj hf
        subst hres
        exact W.zret hx hb hr (wb_n false) (wr_q hG hV hZ hW hS) hS.2.2 dX10_statement_130
      · refine lv_if_eq (tgt := 129) hx hb dX10_statement_113 (by decide) (fun h => absurd h hq52) (fun _ => ?_)
        refine lv_aload_n hx hb dX10_statement_116 rfl (lv_at hl 1 rfl) ?_
        refine lv_bipush (v := 59) hx hb dX10_statement_117 (by decide) ?_
        obtain ⟨r54, M55, hc53, hf⟩ := wbind_p hf
        refine wc_V (As := [.int 59]) (rest := []) hx hb hml hown hts hG hV hZ (wlt_9 (rfl : wkd 70 = 9)) (q := (RX10, TX10, 31)) (wen_9 (rfl : wkd 70 = 9)) rfl (cX10_isNext_ok l E M51 59 hc53) (cwV 1 hts gl_X10_105 rfl rfl rfl cdX10_isNext ⟨Nat.le_of_ble_eq_true rfl, Nat.le_of_ble_eq_true rfl⟩) rfl hl.1 rfl (Nat.le_of_ble_eq_true rfl) dX10_statement_119 ⟨Nat.zero_le _, Nat.zero_le _⟩ hW hS rfl (fun H locs hW hS => ?_)
        rcases wif_e hf with ⟨hq56, hf⟩ | ⟨hq56, hf⟩
        · refine lv_if_eq (tgt := 129) hx hb dX10_statement_122 (by decide) (fun _ => ?_) (fun h => absurd hq56 h)
          refine lv_iconst (v := 0) hx hb dX10_statement_129 rfl ?_
          have hres := Option.some.inj hf
          subst hres
          exact W.zret hx hb hr (wb_n false) (wr_q hG hV hZ hW hS) hS.2.2 dX10_statement_130
        · refine lv_if_eq (tgt := 129) hx hb dX10_statement_122 (by decide) (fun h => absurd h hq56) (fun _ => ?_)
          refine lv_iconst (v := 1) hx hb dX10_statement_125 rfl ?_
          refine lv_goto (tgt := 130) hx hb dX10_statement_126 (by decide) ?_
          have hres := Option.some.inj hf
          subst hres
          exact W.zret hx hb hr (wb_n true) (wr_q hG hV hZ hW hS) hS.2.2 dX10_statement_130
    · refine lv_icmp_ne (tgt := 131) hx hb dX10_statement_104 (by decide) (fun _ => ?_) (fun h => absurd h hq11)
      refine lv_iload_n hx hb dX10_statement_131 rfl (lv_at hl 2 rfl) ?_
      refine lv_bipush (v := 100) hx hb dX10_statement_132 (by decide) ?_
      rcases wif_e hf with ⟨hq12, hf⟩ | ⟨hq12, hf⟩
      · refine lv_icmp_ne (tgt := 181) hx hb dX10_statement_134 (by decide) (fun h => absurd hq12 h) (fun _ => ?_)
        refine lv_aload_n hx hb dX10_statement_137 rfl (lv_at hl 1 rfl) ?_
        refine lv_iload_n hx hb dX10_statement_138 rfl (lv_at hl 0 rfl) ?_
        refine lv_iconst (v := 2) hx hb dX10_statement_139 rfl ?_
        obtain ⟨r34, M35, hc33, hf⟩ := wbind_p hf
        refine wc_V (As := [.int x9, .int 2]) (rest := []) hx hb hml hown hts hG hV hZ (wlt_9 (rfl : wkd 70 = 9)) (q := (RX10, TX10, 31)) (wen_9 (rfl : wkd 70 = 9)) rfl (cX10_reads_ok l E M8 x9 2 hc33) (cwV 2 hts gl_X10_101 rfl rfl rfl cdX10_reads ⟨Nat.le_of_ble_eq_true rfl, Nat.le_of_ble_eq_true rfl⟩) rfl hl.1 rfl (Nat.le_of_ble_eq_true rfl) dX10_statement_140 ⟨Nat.zero_le _, Nat.zero_le _⟩ hW hS rfl (fun H locs hW hS => ?_)
        rcases wif_e hf with ⟨hq36, hf⟩ | ⟨hq36, hf⟩
        · refine lv_if_eq (tgt := 179) hx hb dX10_statement_143 (by decide) (fun _ => ?_) (fun h => absurd hq36 h)
          refine lv_iconst (v := 0) hx hb dX10_statement_179 rfl ?_
          have hres := Option.some.inj hf
          subst hres
          exact W.zret hx hb hr (wb_n false) (wr_q hG hV hZ hW hS) hS.2.2 dX10_statement_180
        · refine lv_if_eq (tgt := 179) hx hb dX10_statement_143 (by decide) (fun h => absurd h hq36) (fun _ => ?_)
          refine lv_aload_n hx hb dX10_statement_146 rfl (lv_at hl 1 rfl) ?_
          refine lv_bipush (v := 44) hx hb dX10_statement_147 (by decide) ?_
          obtain ⟨r38, M39, hc37, hf⟩ := wbind_p hf
          refine wc_V (As := [.int 44]) (rest := []) hx hb hml hown hts hG hV hZ (wlt_9 (rfl : wkd 70 = 9)) (q := (RX10, TX10, 31)) (wen_9 (rfl : wkd 70 = 9)) rfl (cX10_isNext_ok l E M35 44 hc37) (cwV 1 hts gl_X10_105 rfl rfl rfl cdX10_isNext ⟨Nat.le_of_ble_eq_true rfl, Nat.le_of_ble_eq_true rfl⟩) rfl hl.1 rfl (Nat.le_of_ble_eq_true rfl) dX10_statement_149 ⟨Nat.zero_le _, Nat.zero_le _⟩ hW hS rfl (fun H locs hW hS => ?_)
          rcases wif_e hf with ⟨hq40, hf⟩ | ⟨hq40, hf⟩
          · refine lv_if_eq (tgt := 179) hx hb dX10_statement_152 (by decide) (fun _ => ?_) (fun h => absurd hq40 h)
            refine lv_iconst (v := 0) hx hb dX10_statement_179 rfl ?_
            have hres := Option.some.inj hf
            subst hres
            exact W.zret hx hb hr (wb_n false) (wr_q hG hV hZ hW hS) hS.2.2 dX10_statement_180
          · refine lv_if_eq (tgt := 179) hx hb dX10_statement_152 (by decide) (fun h => absurd h hq40) (fun _ => ?_)
            refine lv_aload_n hx hb dX10_statement_155 rfl (lv_at hl 1 rfl) ?_
            refine lv_iload_n hx hb dX10_statement_156 rfl (lv_at hl 0 rfl) ?_
            refine lv_iconst (v := 1) hx hb dX10_statement_157 rfl ?_
            refine lv_iadd hx hb dX10_statement_158 ?_
            refine lv_iconst (v := 1) hx hb dX10_statement_159 rfl ?_
            obtain ⟨r42, M43, hc41, hf⟩ := wbind_p hf
            refine wc_V (As := [.int (x9 + 1), .int 1]) (rest := []) hx hb hml hown hts hG hV hZ (wlt_9 (rfl : wkd 70 = 9)) (q := (RX10, TX10, 31)) (wen_9 (rfl : wkd 70 = 9)) rfl (cX10_reads_ok l E M39 (x9 + 1) 1 hc41) (cwV 2 hts gl_X10_101 rfl rfl rfl cdX10_reads ⟨Nat.le_of_ble_eq_true rfl, Nat.le_of_ble_eq_true rfl⟩) rfl hl.1 rfl (Nat.le_of_ble_eq_true rfl) dX10_statement_160 ⟨Nat.zero_le _, Nat.zero_le _⟩ hW hS rfl (fun H locs hW hS => ?_)
            rcases wif_e hf with ⟨hq44, hf⟩ | ⟨hq44, hf⟩
            · refine lv_if_eq (tgt := 179) hx hb dX10_statement_163 (by decide) (fun _ => ?_) (fun h => absurd hq44 h)
              refine lv_iconst (v := 0) hx hb dX10_statement_179 rfl ?_
              have hres := Option.some.inj hf
              subst hres
              exact W.zret hx hb hr (wb_n false) (wr_q hG hV hZ hW hS) hS.2.2 dX10_statement_180
            · refine lv_if_eq (tgt := 179) hx hb dX10_statement_163 (by decide) (fun h => absurd h hq44) (fun _ => ?_)
              refine lv_aload_n hx hb dX10_statement_166 rfl (lv_at hl 1 rfl) ?_
              refine lv_bipush (v := 59) hx hb dX10_statement_167 (by decide) ?_
              obtain ⟨r46, M47, hc45, hf⟩ := wbind_p hf
              refine wc_V (As := [.int 59]) (rest := []) hx hb hml hown hts hG hV hZ (wlt_9 (rfl : wkd 70 = 9)) (q := (RX10, TX10, 31)) (wen_9 (rfl : wkd 70 = 9)) rfl (cX10_isNext_ok l E M43 59 hc45) (cwV 1 hts gl_X10_105 rfl rfl rfl cdX10_isNext ⟨Nat.le_of_ble_eq_true rfl, Nat.le_of_ble_eq_true rfl⟩) rfl hl.1 rfl (Nat.le_of_ble_eq_true rfl) dX10_statement_169 ⟨Nat.zero_le _, Nat.zero_le _⟩ hW hS rfl (fun H locs hW hS => ?_)
              rcases wif_e hf with ⟨hq48, hf⟩ | ⟨hq48, hf⟩
              · refine lv_if_eq (tgt := 179) hx hb dX10_statement_172 (by decide) (fun _ => ?_) (fun h => absurd hq48 h)
                refine lv_iconst (v := 0) hx hb dX10_statement_179 rfl ?_
                have hres := Option.some.inj hf
                subst hres
                exact W.zret hx hb hr (wb_n false) (wr_q hG hV hZ hW hS) hS.2.2 dX10_statement_180
              · refine lv_if_eq (tgt := 179) hx hb dX10_statement_172 (by decide) (fun h => absurd h hq48) (fun _ => ?_)
                refine lv_iconst (v := 1) hx hb dX10_statement_175 rfl ?_
                refine lv_goto (tgt := 180) hx hb dX10_statement_176 (by decide) ?_
                have hres := Option.some.inj hf
                subst hres
                exact W.zret hx hb hr (wb_n true) (wr_q hG hV hZ hW hS) hS.2.2 dX10_statement_180
      · refine lv_icmp_ne (tgt := 181) hx hb dX10_statement_134 (by decide) (fun _ => ?_) (fun h => absurd h hq12)
        refine lv_aload_n hx hb dX10_statement_181 rfl (lv_at hl 1 rfl) ?_
        refine lv_iload_n hx hb dX10_statement_182 rfl (lv_at hl 0 rfl) ?_
        refine lv_iconst (v := 1) hx hb dX10_statement_183 rfl ?_
        obtain ⟨r14, M15, hc13, hf⟩ := wbind_p hf
        refine wc_V (As := [.int x9, .int 1]) (rest := []) hx hb hml hown hts hG hV hZ (wlt_9 (rfl : wkd 70 = 9)) (q := (RX10, TX10, 31)) (wen_9 (rfl : wkd 70 = 9)) rfl (cX10_reads_ok l E M8 x9 1 hc13) (cwV 2 hts gl_X10_101 rfl rfl rfl cdX10_reads ⟨Nat.le_of_ble_eq_true rfl, Nat.le_of_ble_eq_true rfl⟩) rfl hl.1 rfl (Nat.le_of_ble_eq_true rfl) dX10_statement_184 ⟨Nat.zero_le _, Nat.zero_le _⟩ hW hS rfl (fun H locs hW hS => ?_)
        rcases wif_e hf with ⟨hq16, hf⟩ | ⟨hq16, hf⟩
        · refine lv_if_eq (tgt := 234) hx hb dX10_statement_187 (by decide) (fun _ => ?_) (fun h => absurd hq16 h)
          refine lv_iconst (v := 0) hx hb dX10_statement_234 rfl ?_
          have hres := Option.some.inj hf
          subst hres
          exact W.zret hx hb hr (wb_n false) (wr_q hG hV hZ hW hS) hS.2.2 dX10_statement_235
        · refine lv_if_eq (tgt := 234) hx hb dX10_statement_187 (by decide) (fun h => absurd h hq16) (fun _ => ?_)
          refine lv_aload_n hx hb dX10_statement_190 rfl (lv_at hl 1 rfl) ?_
          refine lv_iload_n hx hb dX10_statement_191 rfl (lv_at hl 0 rfl) ?_
          refine lv_iconst (v := 1) hx hb dX10_statement_192 rfl ?_
          refine lv_iadd hx hb dX10_statement_193 ?_
          refine lv_iconst (v := 2) hx hb dX10_statement_194 rfl ?_
          obtain ⟨r18, M19, hc17, hf⟩ := wbind_p hf
          refine wc_V (As := [.int (x9 + 1), .int 2]) (rest := []) hx hb hml hown hts hG hV hZ (wlt_9 (rfl : wkd 70 = 9)) (q := (RX10, TX10, 31)) (wen_9 (rfl : wkd 70 = 9)) rfl (cX10_reads_ok l E M15 (x9 + 1) 2 hc17) (cwV 2 hts gl_X10_101 rfl rfl rfl cdX10_reads ⟨Nat.le_of_ble_eq_true rfl, Nat.le_of_ble_eq_true rfl⟩) rfl hl.1 rfl (Nat.le_of_ble_eq_true rfl) dX10_statement_195 ⟨Nat.zero_le _, Nat.zero_le _⟩ hW hS rfl (fun H locs hW hS => ?_)
          rcases wif_e hf with ⟨hq20, hf⟩ | ⟨hq20, hf⟩
          · refine lv_if_eq (tgt := 234) hx hb dX10_statement_198 (by decide) (fun _ => ?_) (fun h => absurd hq20 h)
            refine lv_iconst (v := 0) hx hb dX10_statement_234 rfl ?_
            have hres := Option.some.inj hf
            subst hres
            exact W.zret hx hb hr (wb_n false) (wr_q hG hV hZ hW hS) hS.2.2 dX10_statement_235
          · refine lv_if_eq (tgt := 234) hx hb dX10_statement_198 (by decide) (fun h => absurd h hq20) (fun _ => ?_)
            refine lv_aload_n hx hb dX10_statement_201 rfl (lv_at hl 1 rfl) ?_
            refine lv_bipush (v := 44) hx hb dX10_statement_202 (by decide) ?_
            obtain ⟨r22, M23, hc21, hf⟩ := wbind_p hf
            refine wc_V (As := [.int 44]) (rest := []) hx hb hml hown hts hG hV hZ (wlt_9 (rfl : wkd 70 = 9)) (q := (RX10, TX10, 31)) (wen_9 (rfl : wkd 70 = 9)) rfl (cX10_isNext_ok l E M19 44 hc21) (cwV 1 hts gl_X10_105 rfl rfl rfl cdX10_isNext ⟨Nat.le_of_ble_eq_true rfl, Nat.le_of_ble_eq_true rfl⟩) rfl hl.1 rfl (Nat.le_of_ble_eq_true rfl) dX10_statement_204 ⟨Nat.zero_le _, Nat.zero_le _⟩ hW hS rfl (fun H locs hW hS => ?_)
            rcases wif_e hf with ⟨hq24, hf⟩ | ⟨hq24, hf⟩
            · refine lv_if_eq (tgt := 234) hx hb dX10_statement_207 (by decide) (fun _ => ?_) (fun h => absurd hq24 h)
              refine lv_iconst (v := 0) hx hb dX10_statement_234 rfl ?_
              have hres := Option.some.inj hf
              subst hres
              exact W.zret hx hb hr (wb_n false) (wr_q hG hV hZ hW hS) hS.2.2 dX10_statement_235
            · refine lv_if_eq (tgt := 234) hx hb dX10_statement_207 (by decide) (fun h => absurd h hq24) (fun _ => ?_)
              refine lv_aload_n hx hb dX10_statement_210 rfl (lv_at hl 1 rfl) ?_
              refine lv_iload_n hx hb dX10_statement_211 rfl (lv_at hl 0 rfl) ?_
              refine lv_iconst (v := 2) hx hb dX10_statement_212 rfl ?_
              refine lv_iadd hx hb dX10_statement_213 ?_
              refine lv_iconst (v := 1) hx hb dX10_statement_214 rfl ?_
              obtain ⟨r26, M27, hc25, hf⟩ := wbind_p hf
              refine wc_V (As := [.int (x9 + 2), .int 1]) (rest := []) hx hb hml hown hts hG hV hZ (wlt_9 (rfl : wkd 70 = 9)) (q := (RX10, TX10, 31)) (wen_9 (rfl : wkd 70 = 9)) rfl (cX10_reads_ok l E M23 (x9 + 2) 1 hc25) (cwV 2 hts gl_X10_101 rfl rfl rfl cdX10_reads ⟨Nat.le_of_ble_eq_true rfl, Nat.le_of_ble_eq_true rfl⟩) rfl hl.1 rfl (Nat.le_of_ble_eq_true rfl) dX10_statement_215 ⟨Nat.zero_le _, Nat.zero_le _⟩ hW hS rfl (fun H locs hW hS => ?_)
              rcases wif_e hf with ⟨hq28, hf⟩ | ⟨hq28, hf⟩
              · refine lv_if_eq (tgt := 234) hx hb dX10_statement_218 (by decide) (fun _ => ?_) (fun h => absurd hq28 h)
                refine lv_iconst (v := 0) hx hb dX10_statement_234 rfl ?_
                have hres := Option.some.inj hf
                subst hres
                exact W.zret hx hb hr (wb_n false) (wr_q hG hV hZ hW hS) hS.2.2 dX10_statement_235
              · refine lv_if_eq (tgt := 234) hx hb dX10_statement_218 (by decide) (fun h => absurd h hq28) (fun _ => ?_)
                refine lv_aload_n hx hb dX10_statement_221 rfl (lv_at hl 1 rfl) ?_
                refine lv_bipush (v := 59) hx hb dX10_statement_222 (by decide) ?_
                obtain ⟨r30, M31, hc29, hf⟩ := wbind_p hf
                refine wc_V (As := [.int 59]) (rest := []) hx hb hml hown hts hG hV hZ (wlt_9 (rfl : wkd 70 = 9)) (q := (RX10, TX10, 31)) (wen_9 (rfl : wkd 70 = 9)) rfl (cX10_isNext_ok l E M27 59 hc29) (cwV 1 hts gl_X10_105 rfl rfl rfl cdX10_isNext ⟨Nat.le_of_ble_eq_true rfl, Nat.le_of_ble_eq_true rfl⟩) rfl hl.1 rfl (Nat.le_of_ble_eq_true rfl) dX10_statement_224 ⟨Nat.zero_le _, Nat.zero_le _⟩ hW hS rfl (fun H locs hW hS => ?_)
                rcases wif_e hf with ⟨hq32, hf⟩ | ⟨hq32, hf⟩
                · refine lv_if_eq (tgt := 234) hx hb dX10_statement_227 (by decide) (fun _ => ?_) (fun h => absurd hq32 h)
                  refine lv_iconst (v := 0) hx hb dX10_statement_234 rfl ?_
                  have hres := Option.some.inj hf
                  subst hres
                  exact W.zret hx hb hr (wb_n false) (wr_q hG hV hZ hW hS) hS.2.2 dX10_statement_235
                · refine lv_if_eq (tgt := 234) hx hb dX10_statement_227 (by decide) (fun h => absurd h hq32) (fun _ => ?_)
                  refine lv_iconst (v := 1) hx hb dX10_statement_230 rfl ?_
                  refine lv_goto (tgt := 235) hx hb dX10_statement_231 (by decide) ?_
                  have hres := Option.some.inj hf
                  subst hres
                  exact W.zret hx hb hr (wb_n true) (wr_q hG hV hZ hW hS) hS.2.2 dX10_statement_235
set_option maxRecDepth 100000 in
set_option maxHeartbeats 4000000 in
theorem pX10_statement (B : wB E p s m args meth c cX10_statement 3 RX10 (some .boolean)) {M : wMem}   {res : Bool × wMem} (hf : fX10_statement M  = some res) {H : Heap} {locs : List Loc} {ls : Array Slot} (hW : wH E M H) (hS : va_S (wA E) s.heap H locs) (hl : lv_has ls 3 [(0, .ref (wad E 70))]) : W p l e ({ frames := 2, cells := 0, slots := 0, locals := 46 } : Room) s m args below meth c H locs 0 0 (MQ below (wQ E (some (.int (wb res.1))) res.2) args s 0 0 (wA E)) (F0 m 0 ls []) := by
  unfold fX10_statement at hf
  obtain ⟨hx, hb, hr, hml, hown, hts, hlocks, hG, hV, hZ⟩ := id B
  refine lv_aload_n hx hb dX10_statement_0 rfl (lv_at hl 0 rfl) ?_
  obtain ⟨r2, hc1, hf⟩ := wbind_e hf
  refine wc_V (As := []) (rest := []) hx hb hml hown hts hG hV hZ (wlt_9 (rfl : wkd 70 = 9)) (q := (RX10, TX10, 31)) (wen_9 (rfl : wkd 70 = 9)) rfl (cX10_nextLetter_ok l E M  hc1) (cwV 0 hts gl_X10_90 rfl rfl rfl cdX10_nextLetter ⟨Nat.le_of_ble_eq_true rfl, Nat.le_of_ble_eq_true rfl⟩) rfl hl.1 rfl (Nat.le_of_ble_eq_true rfl) dX10_statement_1 ⟨Nat.zero_le _, Nat.zero_le _⟩ hW hS rfl (fun H locs hW hS => ?_)
  refine lv_istore_n (lv' := [(1, .int r2), (0, .ref (wad E 70))]) hx hb dX10_statement_4 rfl hl (by decide) rfl (fun ls hl => ?_)
  refine lv_iload_n hx hb dX10_statement_5 rfl (lv_at hl 0 rfl) ?_
  refine lv_bipush (v := 112) hx hb dX10_statement_6 (by decide) ?_
  rcases wif_e hf with ⟨hq3, hf⟩ | ⟨hq3, hf⟩
  · refine lv_icmp_eq (tgt := 31) hx hb dX10_statement_8 (by decide) (fun _ => ?_) (fun h => absurd hq3 h)
    exact pX10_statement_31 B   hf hW hS (lv_sub hl [1, 0] rfl)
  · refine lv_icmp_eq (tgt := 31) hx hb dX10_statement_8 (by decide) (fun h => absurd h hq3) (fun _ => ?_)
    refine lv_iload_n hx hb dX10_statement_11 rfl (lv_at hl 0 rfl) ?_
    refine lv_bipush (v := 117) hx hb dX10_statement_12 (by decide) ?_
    rcases wif_e hf with ⟨hq65, hf⟩ | ⟨hq65, hf⟩
    · refine lv_icmp_eq (tgt := 31) hx hb dX10_statement_14 (by decide) (fun _ => ?_) (fun h => absurd hq65 h)
      exact pX10_statement_31 B   hf hW hS (lv_sub hl [1, 0] rfl)
    · refine lv_icmp_eq (tgt := 31) hx hb dX10_statement_14 (by decide) (fun h => absurd h hq65) (fun _ => ?_)
      refine lv_iload_n hx hb dX10_statement_17 rfl (lv_at hl 0 rfl) ?_
      refine lv_bipush (v := 100) hx hb dX10_statement_18 (by decide) ?_
      rcases wif_e hf with ⟨hq66, hf⟩ | ⟨hq66, hf⟩
      · refine lv_icmp_eq (tgt := 31) hx hb dX10_statement_20 (by decide) (fun _ => ?_) (fun h => absurd hq66 h)
        exact pX10_statement_31 B   hf hW hS (lv_sub hl [1, 0] rfl)
      · refine lv_icmp_eq (tgt := 31) hx hb dX10_statement_20 (by decide) (fun h => absurd h hq66) (fun _ => ?_)
        refine lv_iload_n hx hb dX10_statement_23 rfl (lv_at hl 0 rfl) ?_
        refine lv_bipush (v := 103) hx hb dX10_statement_24 (by decide) ?_
        rcases wif_e hf with ⟨hq67, hf⟩ | ⟨hq67, hf⟩
        · refine lv_icmp_eq (tgt := 31) hx hb dX10_statement_26 (by decide) (fun _ => ?_) (fun h => absurd hq67 h)
          exact pX10_statement_31 B   hf hW hS (lv_sub hl [1, 0] rfl)
        · refine lv_icmp_eq (tgt := 31) hx hb dX10_statement_26 (by decide) (fun h => absurd h hq67) (fun _ => ?_)
          refine lv_iconst (v := 0) hx hb dX10_statement_29 rfl ?_
          have hres := Option.some.inj hf
          subst hres
          exact W.zret hx hb hr (wb_n false) (wr_q hG hV hZ hW hS) hS.2.2 dX10_statement_30
theorem cX10_statement_ok (l : Launch) (E : wE) (M : wMem)  {res : Bool × wMem} (hf : fX10_statement M  = some res) : wMet l yX10_statement (wsM yX10_statement cX10_statement 3 (some .boolean)) ({ frames := 2, cells := 0, slots := 0, locals := 46 } : Room) E M [.ref (wad E 70)] (some (.int (wb res.1))) res.2 :=
  wc_of (cc := cX10_statement) (maxL := 3) (ret := (some .boolean)) (by decide) (Nat.le_of_ble_eq_true rfl) (fun _ _ _ _ _ _ _ _ B hW hl => pX10_statement B  hf hW va_S.rf hl)
end
