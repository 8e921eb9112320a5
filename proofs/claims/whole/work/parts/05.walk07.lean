theorem cdX10_orderSum : yX10_orderSum.cls = RX10 ∧ yX10_orderSum.cls ≠ "java/lang/invoke/MethodHandle" ∧ yX10_orderSum.cls ≠ "java/lang/invoke/VarHandle" ∧ (parseMethodDescriptor yX10_orderSum.desc).map (fun d => d.parameters.length) = some 0 := by decide +kernel
section
variable {p : Program} {l : Launch} {e : Env} {s : State} {m : MethodId} {args : Array Value} {below : List Frame} {meth : Method} {c : Code} {E : wE}
set_option maxRecDepth 100000 in
set_option maxHeartbeats 4000000 in
theorem pX10_orderSum_24_b (B : wB E p s m args meth c cX10_orderSum 4 RX10 (some .int)) {M : wMem} {y1 : Int32} {y2 : Int32} {y3 : Int32}  {rec24 : (Int32 × Int32 × Int32 → Option (Int32 × wMem))} {res : Int32 × wMem}   (hrec24 : ∀ (y1' : Int32) (y2' : Int32) (y3' : Int32), rec24 (y1', y2', y3') = some res → ∀ (H : Heap) (locs : List Loc) (ls : Array Slot), wH E M H → va_S (wA E) s.heap H locs → lv_has ls 4 [(0, .ref (wad E 70)), (1, .int y1'), (2, .int y2'), (3, .int y3')] → W p l e ({ frames := 3, cells := 0, slots := 0, locals := 64 } : Room) s m args below meth c H locs 0 0 (MQ below (wQ E (some (.int res.1)) res.2) args s 0 0 (wA E)) (F0 m 24 ls [])) (hf : fX10_orderSum_24_b M  rec24 y1 y2 y3 = some res) {H : Heap} {locs : List Loc} {ls : Array Slot} (hW : wH E M H) (hS : va_S (wA E) s.heap H locs) (hl : lv_has ls 4 [(0, .ref (wad E 70)), (1, .int y1), (2, .int y2), (3, .int y3)]) : W p l e ({ frames := 3, cells := 0, slots := 0, locals := 64 } : Room) s m args below meth c H locs 0 0 (MQ below (wQ E (some (.int res.1)) res.2) args s 0 0 (wA E)) (F0 m 24 ls []) := by
  unfold fX10_orderSum_24_b at hf
  obtain ⟨hx, hb, hr, hml, hown, hts, hlocks, hG, hV, hZ⟩ := id B
  refine lv_iload_n hx hb dX10_orderSum_24 rfl (lv_at hl 3 rfl) ?_
  refine lv_aload_n hx hb dX10_orderSum_25 rfl (lv_at hl 0 rfl) ?_
  refine wm_get hx hb hts wu_X10 hown hV hW (wlt_9 (rfl : wkd 70 = 9)) (wen_9 (rfl : wkd 70 = 9)) (C := RX10) (T := TX10) (N := 31) rfl 7 (by decide) (hts _ wA_721) rfl dX10_orderSum_26 ?_
  rcases wif_e hf with ⟨hq5, hf⟩ | ⟨hq5, hf⟩
  · refine lv_icmp_ge (tgt := 67) hx hb dX10_orderSum_29 (by decide) (fun _ => ?_) (fun h => absurd hq5 h)
    refine lv_iload_n hx hb dX10_orderSum_67 rfl (lv_at hl 2 rfl) ?_
    have hres := Option.some.inj hf
    subst hres
    exact W.iret hx hb hr (wr_q hG hV hZ hW hS) hS.2.2 dX10_orderSum_68
  · refine lv_icmp_ge (tgt := 67) hx hb dX10_orderSum_29 (by decide) (fun h => absurd h hq5) (fun _ => ?_)
    refine lv_iload_n hx hb dX10_orderSum_32 rfl (lv_at hl 1 rfl) ?_
    refine lv_aload_n hx hb dX10_orderSum_33 rfl (lv_at hl 0 rfl) ?_
    refine wm_get hx hb hts wu_X10 hown hV hW (wlt_9 (rfl : wkd 70 = 9)) (wen_9 (rfl : wkd 70 = 9)) (C := RX10) (T := TX10) (N := 31) rfl 3 (by decide) (hts _ wA_717) rfl dX10_orderSum_34 ?_
    refine lv_aload_n hx hb dX10_orderSum_37 rfl (lv_at hl 0 rfl) ?_
    refine wm_get hx hb hts wu_X10 hown hV hW (wlt_9 (rfl : wkd 70 = 9)) (wen_9 (rfl : wkd 70 = 9)) (C := RX10) (T := TX10) (N := 31) rfl 25 (by decide) (hts _ wA_739) rfl dX10_orderSum_38 ?_
    refine lv_iload_n hx hb dX10_orderSum_41 rfl (lv_at hl 3 rfl) ?_
    obtain ⟨hi6, hf⟩ := wgi_e hf
    refine wm_iald hx hb hV hW (rfl : wkd 88 = 21) (n := 12) rfl hi6 dX10_orderSum_42 ?_
    obtain ⟨hi7, hf⟩ := wgi_e hf
    refine wm_iald hx hb hV hW (rfl : wkd 74 = 21) (n := 12) rfl hi7 dX10_orderSum_43 ?_
    refine lv_iadd hx hb dX10_orderSum_44 ?_
    refine lv_topi (fun x8 ex8 => ?_)
    replace hf := wlet_y ex8 hf
    refine lv_istore_n (lv' := [(1, .int x8), (0, .ref (wad E 70)), (2, .int y2), (3, .int y3)]) hx hb dX10_orderSum_45 rfl hl (by decide) rfl (fun ls hl => ?_)
    refine lv_iload_n hx hb dX10_orderSum_46 rfl (lv_at hl 2 rfl) ?_
    refine lv_aload_n hx hb dX10_orderSum_47 rfl (lv_at hl 1 rfl) ?_
    refine lv_aload_n hx hb dX10_orderSum_48 rfl (lv_at hl 1 rfl) ?_
    refine wm_get hx hb hts wu_X10 hown hV hW (wlt_9 (rfl : wkd 70 = 9)) (wen_9 (rfl : wkd 70 = 9)) (C := RX10) (T := TX10) (N := 31) rfl 25 (by decide) (hts _ wA_739) rfl dX10_orderSum_49 ?_
    refine lv_iload_n hx hb dX10_orderSum_52 rfl (lv_at hl 3 rfl) ?_
    obtain ⟨hi9, hf⟩ := wgi_e hf
    refine wm_iald hx hb hV hW (rfl : wkd 88 = 21) (n := 12) rfl hi9 dX10_orderSum_53 ?_
    obtain ⟨r11, hc10, hf⟩ := wbind_e hf
    refine wc_V (As := [.int (M 88 (Int32.toNatClampNeg y3))]) (rest := [.int y2]) hx hb hml hown hts hG hV hZ (wlt_9 (rfl : wkd 70 = 9)) (q := (RX10, TX10, 31)) (wen_9 (rfl : wkd 70 = 9)) rfl (cX10_likelyOf_ok l E M (M 88 (Int32.toNatClampNeg y3)) hc10) (cwV 1 hts gl_X10_174 rfl rfl rfl cdX10_likelyOf ⟨Nat.le_of_ble_eq_true rfl, Nat.le_of_ble_eq_true rfl⟩) rfl hl.1 rfl (Nat.le_of_ble_eq_true rfl) dX10_orderSum_54 ⟨Nat.zero_le _, Nat.zero_le _⟩ hW hS rfl (fun H locs hW hS => ?_)
    refine lv_iload_n hx hb dX10_orderSum_57 rfl (lv_at hl 0 rfl) ?_
    refine lv_imul hx hb dX10_orderSum_58 ?_
    refine lv_iadd hx hb dX10_orderSum_59 ?_
    refine lv_topi (fun x12 ex12 => ?_)
    replace hf := wlet_y ex12 hf
    refine lv_istore_n (lv' := [(2, .int x12), (1, .int x8), (0, .ref (wad E 70)), (3, .int y3)]) hx hb dX10_orderSum_60 rfl hl (by decide) rfl (fun ls hl => ?_)
    obtain ⟨x13, ex13, hf⟩ := wlet_e hf
    refine lv_iinc (v := x13) (lv' := [(3, .int x13), (2, .int x12), (1, .int x8), (0, .ref (wad E 70))]) hx hb dX10_orderSum_61 hl (k := 3) rfl (by rw [ex13]; rfl) (by decide) rfl (fun ls hl => ?_)
    refine lv_goto (tgt := 24) hx hb dX10_orderSum_64 (by decide) ?_
    exact hrec24 x8 x12 x13 hf _ _ _ hW hS (lv_sub hl [3, 2, 1, 0] rfl)
set_option maxRecDepth 100000 in
set_option maxHeartbeats 4000000 in
theorem pX10_orderSum_24 (B : wB E p s m args meth c cX10_orderSum 4 RX10 (some .int)) {M : wMem} {y1 : Int32} {y2 : Int32} {y3 : Int32}  {res : Int32 × wMem}   (hf : fX10_orderSum_24 M  y1 y2 y3 = some res) {H : Heap} {locs : List Loc} {ls : Array Slot} (hW : wH E M H) (hS : va_S (wA E) s.heap H locs) (hl : lv_has ls 4 [(0, .ref (wad E 70)), (1, .int y1), (2, .int y2), (3, .int y3)]) : W p l e ({ frames := 3, cells := 0, slots := 0, locals := 64 } : Room) s m args below meth c H locs 0 0 (MQ below (wQ E (some (.int res.1)) res.2) args s 0 0 (wA E)) (F0 m 24 ls []) := by
  have key := wloop_W (b := (fun rec24 t => fX10_orderSum_24_b M  rec24 t.1 t.2.1 t.2.2)) (P := fun t => ∀ (H : Heap) (locs : List Loc) (ls : Array Slot), wH E M H → va_S (wA E) s.heap H locs → lv_has ls 4 [(0, .ref (wad E 70)), (1, .int t.1), (2, .int t.2.1), (3, .int t.2.2)] → W p l e ({ frames := 3, cells := 0, slots := 0, locals := 64 } : Room) s m args below meth c H locs 0 0 (MQ below (wQ E (some (.int res.1)) res.2) args s 0 0 (wA E)) (F0 m 24 ls [])) (r := res) (fun rec hrec t hf H locs ls hW hS hl => pX10_orderSum_24_b B   (fun v0 v1 v2 hf H locs ls hW hS hl => hrec (v0, v1, v2) hf H locs ls hW hS hl) hf hW hS hl)
  exact key wfuel (y1, y2, y3) hf H locs ls hW hS hl
set_option maxRecDepth 100000 in
set_option maxHeartbeats 4000000 in
theorem pX10_orderSum (B : wB E p s m args meth c cX10_orderSum 4 RX10 (some .int)) {M : wMem}   {res : Int32 × wMem} (hf : fX10_orderSum M  = some res) {H : Heap} {locs : List Loc} {ls : Array Slot} (hW : wH E M H) (hS : va_S (wA E) s.heap H locs) (hl : lv_has ls 4 [(0, .ref (wad E 70))]) : W p l e ({ frames := 3, cells := 0, slots := 0, locals := 64 } : Room) s m args below meth c H locs 0 0 (MQ below (wQ E (some (.int res.1)) res.2) args s 0 0 (wA E)) (F0 m 0 ls []) := by
  unfold fX10_orderSum at hf
  obtain ⟨hx, hb, hr, hml, hown, hts, hlocks, hG, hV, hZ⟩ := id B
  refine lv_aload_n hx hb dX10_orderSum_0 rfl (lv_at hl 0 rfl) ?_
  refine wm_get hx hb hts wu_X10 hown hV hW (wlt_9 (rfl : wkd 70 = 9)) (wen_9 (rfl : wkd 70 = 9)) (C := RX10) (T := TX10) (N := 31) rfl 7 (by decide) (hts _ wA_721) rfl dX10_orderSum_1 ?_
  rcases wif_e hf with ⟨hq1, hf⟩ | ⟨hq1, hf⟩
  · refine lv_if_ne (tgt := 14) hx hb dX10_orderSum_4 (by decide) (fun h => absurd hq1 h) (fun _ => ?_)
    refine lv_aload_n hx hb dX10_orderSum_7 rfl (lv_at hl 0 rfl) ?_
    refine lv_bipush (v := (-3)) hx hb dX10_orderSum_8 (by decide) ?_
    obtain ⟨r15, M16, hc14, hf⟩ := wbind_p hf
    refine wc_V (As := [.int (-3)]) (rest := []) hx hb hml hown hts hG hV hZ (wlt_9 (rfl : wkd 70 = 9)) (q := (RX10, TX10, 31)) (wen_9 (rfl : wkd 70 = 9)) rfl (cX10_no_ok l E M (-3) hc14) (cwV 1 hts gl_X10_83 rfl rfl rfl cdX10_no ⟨Nat.le_of_ble_eq_true rfl, Nat.le_of_ble_eq_true rfl⟩) rfl hl.1 rfl (Nat.le_of_ble_eq_true rfl) dX10_orderSum_10 ⟨Nat.zero_le _, Nat.zero_le _⟩ hW hS rfl (fun H locs hW hS => ?_)
    have hres := Option.some.inj hf
    subst hres
    exact W.iret hx hb hr (wr_q hG hV hZ hW hS) hS.2.2 dX10_orderSum_13
  · refine lv_if_ne (tgt := 14) hx hb dX10_orderSum_4 (by decide) (fun _ => ?_) (fun h => absurd h hq1)
    refine lv_aload_n hx hb dX10_orderSum_14 rfl (lv_at hl 0 rfl) ?_
    obtain ⟨M4, hc2, hf⟩ := wbind_e hf
    refine wc_V (As := []) (rest := []) hx hb hml hown hts hG hV hZ (wlt_9 (rfl : wkd 70 = 9)) (q := (RX10, TX10, 31)) (wen_9 (rfl : wkd 70 = 9)) rfl (cX10_findOrder_ok l E M  hc2) (cwV 0 hts gl_X10_212 rfl rfl rfl cdX10_findOrder ⟨Nat.le_of_ble_eq_true rfl, Nat.le_of_ble_eq_true rfl⟩) rfl hl.1 rfl (Nat.le_of_ble_eq_true rfl) dX10_orderSum_15 ⟨Nat.zero_le _, Nat.zero_le _⟩ hW hS rfl (fun H locs hW hS => ?_)
    refine lv_iconst (v := 0) hx hb dX10_orderSum_18 rfl ?_
    refine lv_istore_n (lv' := [(1, .int 0), (0, .ref (wad E 70))]) hx hb dX10_orderSum_19 rfl hl (by decide) rfl (fun ls hl => ?_)
    refine lv_iconst (v := 0) hx hb dX10_orderSum_20 rfl ?_
    refine lv_istore_n (lv' := [(2, .int 0), (1, .int 0), (0, .ref (wad E 70))]) hx hb dX10_orderSum_21 rfl hl (by decide) rfl (fun ls hl => ?_)
    refine lv_iconst (v := 0) hx hb dX10_orderSum_22 rfl ?_
    refine lv_istore_n (lv' := [(3, .int 0), (2, .int 0), (1, .int 0), (0, .ref (wad E 70))]) hx hb dX10_orderSum_23 rfl hl (by decide) rfl (fun ls hl => ?_)
    exact pX10_orderSum_24 B   hf hW hS (lv_sub hl [3, 2, 1, 0] rfl)
theorem cX10_orderSum_ok (l : Launch) (E : wE) (M : wMem)  {res : Int32 × wMem} (hf : fX10_orderSum M  = some res) : wMet l yX10_orderSum (wsM yX10_orderSum cX10_orderSum 4 (some .int)) ({ frames := 3, cells := 0, slots := 0, locals := 64 } : Room) E M [.ref (wad E 70)] (some (.int res.1)) res.2 :=
  wc_of (cc := cX10_orderSum) (maxL := 4) (ret := (some .int)) (by decide) (Nat.le_of_ble_eq_true rfl) (fun _ _ _ _ _ _ _ _ B hW hl => pX10_orderSum B  hf hW va_S.rf hl)
end
theorem cdX10_told : yX10_told.cls = RX10 ∧ yX10_told.cls ≠ "java/lang/invoke/MethodHandle" ∧ yX10_told.cls ≠ "java/lang/invoke/VarHandle" ∧ (parseMethodDescriptor yX10_told.desc).map (fun d => d.parameters.length) = some 2 := by decide +kernel
section
variable {p : Program} {l : Launch} {e : Env} {s : State} {m : MethodId} {args : Array Value} {below : List Frame} {meth : Method} {c : Code} {E : wE}
set_option maxRecDepth 100000 in
set_option maxHeartbeats 4000000 in
theorem pX10_told (B : wB E p s m args meth c cX10_told 3 RX10 (some .int)) {M : wMem} {a1 : Int32} {a2 : Int32}  {res : Int32 × wMem} (hf : fX10_told M a1 a2 = some res) {H : Heap} {locs : List Loc} {ls : Array Slot} (hW : wH E M H) (hS : va_S (wA E) s.heap H locs) (hl : lv_has ls 3 [(0, .ref (wad E 70)), (1, .int a1), (2, .int a2)]) : W p l e ({ frames := 1, cells := 0, slots := 0, locals := 22 } : Room) s m args below meth c H locs 0 0 (MQ below (wQ E (some (.int res.1)) res.2) args s 0 0 (wA E)) (F0 m 0 ls []) := by
  unfold fX10_told at hf
  obtain ⟨hx, hb, hr, hml, hown, hts, hlocks, hG, hV, hZ⟩ := id B
  refine lv_aload_n hx hb dX10_told_0 rfl (lv_at hl 0 rfl) ?_
  refine lv_iload_n hx hb dX10_told_1 rfl (lv_at hl 1 rfl) ?_
  obtain ⟨r2, hc1, hf⟩ := wbind_e hf
  refine wc_V (As := [.int a1]) (rest := []) hx hb hml hown hts hG hV hZ (wlt_9 (rfl : wkd 70 = 9)) (q := (RX10, TX10, 31)) (wen_9 (rfl : wkd 70 = 9)) rfl (cX10_isLamp_ok l E M a1 hc1) (cwV 1 hts gl_X10_112 rfl rfl rfl cdX10_isLamp ⟨Nat.le_of_ble_eq_true rfl, Nat.le_of_ble_eq_true rfl⟩) rfl hl.1 rfl (Nat.le_of_ble_eq_true rfl) dX10_told_2 ⟨Nat.zero_le _, Nat.zero_le _⟩ hW hS rfl (fun H locs hW hS => ?_)
  rcases wif_e hf with ⟨hq3, hf⟩ | ⟨hq3, hf⟩
  · refine lv_if_ne (tgt := 14) hx hb dX10_told_5 (by decide) (fun h => absurd hq3 h) (fun _ => ?_)
    refine lv_aload_n hx hb dX10_told_8 rfl (lv_at hl 0 rfl) ?_
    refine lv_iconst (v := (-1)) hx hb dX10_told_9 rfl ?_
    obtain ⟨r20, M21, hc19, hf⟩ := wbind_p hf
    refine wc_V (As := [.int (-1)]) (rest := []) hx hb hml hown hts hG hV hZ (wlt_9 (rfl : wkd 70 = 9)) (q := (RX10, TX10, 31)) (wen_9 (rfl : wkd 70 = 9)) rfl (cX10_no_ok l E M (-1) hc19) (cwV 1 hts gl_X10_83 rfl rfl rfl cdX10_no ⟨Nat.le_of_ble_eq_true rfl, Nat.le_of_ble_eq_true rfl⟩) rfl hl.1 rfl (Nat.le_of_ble_eq_true rfl) dX10_told_10 ⟨Nat.zero_le _, Nat.zero_le _⟩ hW hS rfl (fun H locs hW hS => ?_)
    have hres := Option.some.inj hf
    subst hres
    exact W.iret hx hb hr (wr_q hG hV hZ hW hS) hS.2.2 dX10_told_13
  · refine lv_if_ne (tgt := 14) hx hb dX10_told_5 (by decide) (fun _ => ?_) (fun h => absurd h hq3)
    refine lv_iload_n hx hb dX10_told_14 rfl (lv_at hl 2 rfl) ?_
    refine lv_iconst (v := 0) hx hb dX10_told_15 rfl ?_
    refine lv_iconst (v := 1) hx hb dX10_told_16 rfl ?_
    obtain ⟨r5, hc4, hf⟩ := wbind_e hf
    refine wc_S (As := [.int a2, .int 0, .int 1]) (rest := []) hx hb hml hown hts hG hV hZ (cX10_isIn_ok l E M a2 0 1 hc4) (va_cwS 3 hts gl_X10_94 rfl rfl rfl cdX10_isIn ⟨Nat.le_of_ble_eq_true rfl, Nat.le_of_ble_eq_true rfl⟩) rfl hl.1 rfl (Nat.le_of_ble_eq_true rfl) dX10_told_17 ⟨Nat.zero_le _, Nat.zero_le _⟩ hW hS rfl (fun H locs hW hS => ?_)
    rcases wif_e hf with ⟨hq6, hf⟩ | ⟨hq6, hf⟩
    · refine lv_if_ne (tgt := 30) hx hb dX10_told_20 (by decide) (fun h => absurd hq6 h) (fun _ => ?_)
      refine lv_aload_n hx hb dX10_told_23 rfl (lv_at hl 0 rfl) ?_
      refine lv_bipush (v := (-2)) hx hb dX10_told_24 (by decide) ?_
      obtain ⟨r17, M18, hc16, hf⟩ := wbind_p hf
      refine wc_V (As := [.int (-2)]) (rest := []) hx hb hml hown hts hG hV hZ (wlt_9 (rfl : wkd 70 = 9)) (q := (RX10, TX10, 31)) (wen_9 (rfl : wkd 70 = 9)) rfl (cX10_no_ok l E M (-2) hc16) (cwV 1 hts gl_X10_83 rfl rfl rfl cdX10_no ⟨Nat.le_of_ble_eq_true rfl, Nat.le_of_ble_eq_true rfl⟩) rfl hl.1 rfl (Nat.le_of_ble_eq_true rfl) dX10_told_26 ⟨Nat.zero_le _, Nat.zero_le _⟩ hW hS rfl (fun H locs hW hS => ?_)
      have hres := Option.some.inj hf
      subst hres
      exact W.iret hx hb hr (wr_q hG hV hZ hW hS) hS.2.2 dX10_told_29
    · refine lv_if_ne (tgt := 30) hx hb dX10_told_20 (by decide) (fun _ => ?_) (fun h => absurd h hq6)
      refine lv_aload_n hx hb dX10_told_30 rfl (lv_at hl 0 rfl) ?_
      refine wm_get hx hb hts wu_X10 hown hV hW (wlt_9 (rfl : wkd 70 = 9)) (wen_9 (rfl : wkd 70 = 9)) (C := RX10) (T := TX10) (N := 31) rfl 28 (by decide) (hts _ wA_742) rfl dX10_told_31 ?_
      refine lv_bipush (v := 6) hx hb dX10_told_34 (by decide) ?_
      rcases wif_e hf with ⟨hq7, hf⟩ | ⟨hq7, hf⟩
      · refine lv_icmp_ne (tgt := 46) hx hb dX10_told_36 (by decide) (fun h => absurd hq7 h) (fun _ => ?_)
        refine lv_aload_n hx hb dX10_told_39 rfl (lv_at hl 0 rfl) ?_
        refine lv_bipush (v := (-6)) hx hb dX10_told_40 (by decide) ?_
        obtain ⟨r14, M15, hc13, hf⟩ := wbind_p hf
        refine wc_V (As := [.int (-6)]) (rest := []) hx hb hml hown hts hG hV hZ (wlt_9 (rfl : wkd 70 = 9)) (q := (RX10, TX10, 31)) (wen_9 (rfl : wkd 70 = 9)) rfl (cX10_no_ok l E M (-6) hc13) (cwV 1 hts gl_X10_83 rfl rfl rfl cdX10_no ⟨Nat.le_of_ble_eq_true rfl, Nat.le_of_ble_eq_true rfl⟩) rfl hl.1 rfl (Nat.le_of_ble_eq_true rfl) dX10_told_42 ⟨Nat.zero_le _, Nat.zero_le _⟩ hW hS rfl (fun H locs hW hS => ?_)
        have hres := Option.some.inj hf
        subst hres
        exact W.iret hx hb hr (wr_q hG hV hZ hW hS) hS.2.2 dX10_told_45
      · refine lv_icmp_ne (tgt := 46) hx hb dX10_told_36 (by decide) (fun _ => ?_) (fun h => absurd h hq7)
        refine lv_aload_n hx hb dX10_told_46 rfl (lv_at hl 0 rfl) ?_
        refine wm_get hx hb hts wu_X10 hown hV hW (wlt_9 (rfl : wkd 70 = 9)) (wen_9 (rfl : wkd 70 = 9)) (C := RX10) (T := TX10) (N := 31) rfl 26 (by decide) (hts _ wA_740) rfl dX10_told_47 ?_
        refine lv_aload_n hx hb dX10_told_50 rfl (lv_at hl 0 rfl) ?_
        refine wm_get hx hb hts wu_X10 hown hV hW (wlt_9 (rfl : wkd 70 = 9)) (wen_9 (rfl : wkd 70 = 9)) (C := RX10) (T := TX10) (N := 31) rfl 28 (by decide) (hts _ wA_742) rfl dX10_told_51 ?_
        refine lv_iload_n hx hb dX10_told_54 rfl (lv_at hl 1 rfl) ?_
        obtain ⟨hi8, hf⟩ := wgi_e hf
        refine wm_iast hx hb hG hV hW hS (rfl : wkd 89 = 21) (n := 6) rfl hi8 dX10_told_55 (fun H locs hW hS => ?_)
        obtain ⟨M9, hW, hf⟩ := wlet_M hW hf
        refine lv_aload_n hx hb dX10_told_56 rfl (lv_at hl 0 rfl) ?_
        refine wm_get hx hb hts wu_X10 hown hV hW (wlt_9 (rfl : wkd 70 = 9)) (wen_9 (rfl : wkd 70 = 9)) (C := RX10) (T := TX10) (N := 31) rfl 27 (by decide) (hts _ wA_741) rfl dX10_told_57 ?_
        refine lv_aload_n hx hb dX10_told_60 rfl (lv_at hl 0 rfl) ?_
        refine wm_get hx hb hts wu_X10 hown hV hW (wlt_9 (rfl : wkd 70 = 9)) (wen_9 (rfl : wkd 70 = 9)) (C := RX10) (T := TX10) (N := 31) rfl 28 (by decide) (hts _ wA_742) rfl dX10_told_61 ?_
        refine lv_iload_n hx hb dX10_told_64 rfl (lv_at hl 2 rfl) ?_
        obtain ⟨hi10, hf⟩ := wgi_e hf
        refine wm_iast hx hb hG hV hW hS (rfl : wkd 90 = 21) (n := 6) rfl hi10 dX10_told_65 (fun H locs hW hS => ?_)
        obtain ⟨M11, hW, hf⟩ := wlet_M hW hf
        refine lv_aload_n hx hb dX10_told_66 rfl (lv_at hl 0 rfl) ?_
        refine lv_dup hx hb dX10_told_67 rfl ?_
        refine wm_get hx hb hts wu_X10 hown hV hW (wlt_9 (rfl : wkd 70 = 9)) (wen_9 (rfl : wkd 70 = 9)) (C := RX10) (T := TX10) (N := 31) rfl 28 (by decide) (hts _ wA_742) rfl dX10_told_68 ?_
        refine lv_iconst (v := 1) hx hb dX10_told_71 rfl ?_
        refine lv_iadd hx hb dX10_told_72 ?_
        refine wm_put hx hb hts wu_X10 tyX10 tyX10_ok nmX10 hown hG hV hW hS (wlt_9 (rfl : wkd 70 = 9)) (wen_9 (rfl : wkd 70 = 9)) (C := RX10) (T := TX10) (N := 31) rfl 28 (by decide) (hts _ wA_742) rfl .int _ (tyX10_ok 28 (by decide)) rfl rfl (Nat.le_of_ble_eq_true rfl) (wpt_9_28 (rfl : wkd 70 = 9)) dX10_told_73 (fun H locs hW hS => ?_)
        obtain ⟨M12, hW, hf⟩ := wlet_M hW hf
        refine lv_aload_n hx hb dX10_told_76 rfl (lv_at hl 0 rfl) ?_
        refine wm_get hx hb hts wu_X10 hown hV hW (wlt_9 (rfl : wkd 70 = 9)) (wen_9 (rfl : wkd 70 = 9)) (C := RX10) (T := TX10) (N := 31) rfl 28 (by decide) (hts _ wA_742) rfl dX10_told_77 ?_
        have hres := Option.some.inj hf
        subst hres
        exact W.iret hx hb hr (wr_q hG hV hZ hW hS) hS.2.2 dX10_told_80
theorem cX10_told_ok (l : Launch) (E : wE) (M : wMem) (a1 : Int32) (a2 : Int32) {res : Int32 × wMem} (hf : fX10_told M a1 a2 = some res) : wMet l yX10_told (wsM yX10_told cX10_told 3 (some .int)) ({ frames := 1, cells := 0, slots := 0, locals := 22 } : Room) E M [.ref (wad E 70), .int a1, .int a2] (some (.int res.1)) res.2 :=
  wc_of (cc := cX10_told) (maxL := 3) (ret := (some .int)) (by decide) (Nat.le_of_ble_eq_true rfl) (fun _ _ _ _ _ _ _ _ B hW hl => pX10_told B  hf hW va_S.rf hl)
end
theorem cdX10_openBy : yX10_openBy.cls = RX10 ∧ yX10_openBy.cls ≠ "java/lang/invoke/MethodHandle" ∧ yX10_openBy.cls ≠ "java/lang/invoke/VarHandle" ∧ (parseMethodDescriptor yX10_openBy.desc).map (fun d => d.parameters.length) = some 1 := by decide +kernel
section
variable {p : Program} {l : Launch} {e : Env} {s : State} {m : MethodId} {args : Array Value} {below : List Frame} {meth : Method} {c : Code} {E : wE}
set_option maxRecDepth 100000 in
set_option maxHeartbeats 4000000 in
theorem pX10_openBy_90 (B : wB E p s m args meth c cX10_openBy 6 RX10 (some .int)) {M : wMem} {y1 : Int32} {y3 : Int32} {z0 : Int32} {z1 : Int32} {rec4 : (Int32 × Int32 → Option (Int32))} {res : Int32}  (hrec4 : ∀ (y2' : Int32) (y3' : Int32), rec4 (y2', y3') = some res → ∀ (H : Heap) (locs : List Loc) (ls : Array Slot), wH E M H → va_S (wA E) s.heap H locs → lv_has ls 6 [(0, .ref (wad E 70)), (1, .int y1), (2, .int y2'), (3, .int y3')] → W p l e ({ frames := 0, cells := 0, slots := 0, locals := 0 } : Room) s m args below meth c H locs 0 0 (MQ below (wQ E (some (.int res)) M) args s 0 0 (wA E)) (F0 m 4 ls [])) (hf : fX10_openBy_90 M rec4 y1 y3 z0 z1 = some res) {H : Heap} {locs : List Loc} {ls : Array Slot} (hW : wH E M H) (hS : va_S (wA E) s.heap H locs) (hl : lv_has ls 6 [(0, .ref (wad E 70)), (1, .int y1), (3, .int y3)]) : W p l e ({ frames := 0, cells := 0, slots := 0, locals := 0 } : Room) s m args below meth c H locs 0 0 (MQ below (wQ E (some (.int res)) M) args s 0 0 (wA E)) (F0 m 90 ls [.int z1, .int z0]) := by
  unfold fX10_openBy_90 at hf
  obtain ⟨hx, hb, hr, hml, hown, hts, hlocks, hG, hV, hZ⟩ := id B
  refine lv_ior hx hb dX10_openBy_90 ?_
  refine lv_topi (fun x4 ex4 => ?_)
  replace hf := wlet_y ex4 hf
  refine lv_istore_n (lv' := [(2, .int x4), (0, .ref (wad E 70)), (1, .int y1), (3, .int y3)]) hx hb dX10_openBy_91 rfl hl (by decide) rfl (fun ls hl => ?_)
  obtain ⟨x5, ex5, hf⟩ := wlet_e hf
  refine lv_iinc (v := x5) (lv' := [(3, .int x5), (2, .int x4), (0, .ref (wad E 70)), (1, .int y1)]) hx hb dX10_openBy_92 hl (k := 3) rfl (by rw [ex5]; rfl) (by decide) rfl (fun ls hl => ?_)
  refine lv_goto (tgt := 4) hx hb dX10_openBy_95 (by decide) ?_
  exact hrec4 x4 x5 hf _ _ _ hW hS (lv_sub hl [2, 3, 1, 0] rfl)
set_option maxRecDepth 100000 in
set_option maxHeartbeats 4000000 in
theorem pX10_openBy_69 (B : wB E p s m args meth c cX10_openBy 6 RX10 (some .int)) {M : wMem} {y1 : Int32} {y2 : Int32} {y3 : Int32} {y5 : Int32} {z0 : Int32} {rec4 : (Int32 × Int32 → Option (Int32))} {rec18 : (Int32 × Int32 → Option (Int32))} {res : Int32}  (hrec4 : ∀ (y2' : Int32) (y3' : Int32), rec4 (y2', y3') = some res → ∀ (H : Heap) (locs : List Loc) (ls : Array Slot), wH E M H → va_S (wA E) s.heap H locs → lv_has ls 6 [(0, .ref (wad E 70)), (1, .int y1), (2, .int y2'), (3, .int y3')] → W p l e ({ frames := 0, cells := 0, slots := 0, locals := 0 } : Room) s m args below meth c H locs 0 0 (MQ below (wQ E (some (.int res)) M) args s 0 0 (wA E)) (F0 m 4 ls [])) (hrec18 : ∀ (y4' : Int32) (y5' : Int32), rec18 (y4', y5') = some res → ∀ (H : Heap) (locs : List Loc) (ls : Array Slot), wH E M H → va_S (wA E) s.heap H locs → lv_has ls 6 [(0, .ref (wad E 70)), (1, .int y1), (2, .int y2), (3, .int y3), (4, .int y4'), (5, .int y5')] → W p l e ({ frames := 0, cells := 0, slots := 0, locals := 0 } : Room) s m args below meth c H locs 0 0 (MQ below (wQ E (some (.int res)) M) args s 0 0 (wA E)) (F0 m 18 ls [])) (hf : fX10_openBy_69 M rec4 rec18 y1 y2 y3 y5 z0 = some res) {H : Heap} {locs : List Loc} {ls : Array Slot} (hW : wH E M H) (hS : va_S (wA E) s.heap H locs) (hl : lv_has ls 6 [(0, .ref (wad E 70)), (1, .int y1), (2, .int y2), (3, .int y3), (5, .int y5)]) : W p l e ({ frames := 0, cells := 0, slots := 0, locals := 0 } : Room) s m args below meth c H locs 0 0 (MQ below (wQ E (some (.int res)) M) args s 0 0 (wA E)) (F0 m 69 ls [.int z0]) := by
  unfold fX10_openBy_69 at hf
  obtain ⟨hx, hb, hr, hml, hown, hts, hlocks, hG, hV, hZ⟩ := id B
  refine lv_istore (lv' := [(4, .int z0), (0, .ref (wad E 70)), (1, .int y1), (2, .int y2), (3, .int y3), (5, .int y5)]) hx hb dX10_openBy_69 hl (by decide) rfl (fun ls hl => ?_)
  obtain ⟨x7, ex7, hf⟩ := wlet_e hf
  refine lv_iinc (v := x7) (lv' := [(5, .int x7), (4, .int z0), (0, .ref (wad E 70)), (1, .int y1), (2, .int y2), (3, .int y3)]) hx hb dX10_openBy_71 hl (k := 5) rfl (by rw [ex7]; rfl) (by decide) rfl (fun ls hl => ?_)
  refine lv_goto (tgt := 18) hx hb dX10_openBy_74 (by decide) ?_
  exact hrec18 z0 x7 hf _ _ _ hW hS (lv_sub hl [2, 3, 4, 5, 1, 0] rfl)
set_option maxRecDepth 100000 in
set_option maxHeartbeats 4000000 in
theorem pX10_openBy_68 (B : wB E p s m args meth c cX10_openBy 6 RX10 (some .int)) {M : wMem} {y1 : Int32} {y2 : Int32} {y3 : Int32} {y5 : Int32} {rec4 : (Int32 × Int32 → Option (Int32))} {rec18 : (Int32 × Int32 → Option (Int32))} {res : Int32}  (hrec4 : ∀ (y2' : Int32) (y3' : Int32), rec4 (y2', y3') = some res → ∀ (H : Heap) (locs : List Loc) (ls : Array Slot), wH E M H → va_S (wA E) s.heap H locs → lv_has ls 6 [(0, .ref (wad E 70)), (1, .int y1), (2, .int y2'), (3, .int y3')] → W p l e ({ frames := 0, cells := 0, slots := 0, locals := 0 } : Room) s m args below meth c H locs 0 0 (MQ below (wQ E (some (.int res)) M) args s 0 0 (wA E)) (F0 m 4 ls [])) (hrec18 : ∀ (y4' : Int32) (y5' : Int32), rec18 (y4', y5') = some res → ∀ (H : Heap) (locs : List Loc) (ls : Array Slot), wH E M H → va_S (wA E) s.heap H locs → lv_has ls 6 [(0, .ref (wad E 70)), (1, .int y1), (2, .int y2), (3, .int y3), (4, .int y4'), (5, .int y5')] → W p l e ({ frames := 0, cells := 0, slots := 0, locals := 0 } : Room) s m args below meth c H locs 0 0 (MQ below (wQ E (some (.int res)) M) args s 0 0 (wA E)) (F0 m 18 ls [])) (hf : fX10_openBy_68 M rec4 rec18 y1 y2 y3 y5 = some res) {H : Heap} {locs : List Loc} {ls : Array Slot} (hW : wH E M H) (hS : va_S (wA E) s.heap H locs) (hl : lv_has ls 6 [(0, .ref (wad E 70)), (1, .int y1), (2, .int y2), (3, .int y3), (5, .int y5)]) : W p l e ({ frames := 0, cells := 0, slots := 0, locals := 0 } : Room) s m args below meth c H locs 0 0 (MQ below (wQ E (some (.int res)) M) args s 0 0 (wA E)) (F0 m 68 ls []) := by
  unfold fX10_openBy_68 at hf
  obtain ⟨hx, hb, hr, hml, hown, hts, hlocks, hG, hV, hZ⟩ := id B
  refine lv_iconst (v := 0) hx hb dX10_openBy_68 rfl ?_
  exact pX10_openBy_69 B  hrec4 hrec18 hf hW hS (lv_sub hl [0, 1, 2, 3, 4] rfl)
set_option maxRecDepth 100000 in
set_option maxHeartbeats 4000000 in
theorem pX10_openBy_61 (B : wB E p s m args meth c cX10_openBy 6 RX10 (some .int)) {M : wMem} {y1 : Int32} {y2 : Int32} {y3 : Int32} {y5 : Int32} {z0 : Int32} {z1 : Int32} {rec4 : (Int32 × Int32 → Option (Int32))} {rec18 : (Int32 × Int32 → Option (Int32))} {res : Int32}  (hrec4 : ∀ (y2' : Int32) (y3' : Int32), rec4 (y2', y3') = some res → ∀ (H : Heap) (locs : List Loc) (ls : Array Slot), wH E M H → va_S (wA E) s.heap H locs → lv_has ls 6 [(0, .ref (wad E 70)), (1, .int y1), (2, .int y2'), (3, .int y3')] → W p l e ({ frames := 0, cells := 0, slots := 0, locals := 0 } : Room) s m args below meth c H locs 0 0 (MQ below (wQ E (some (.int res)) M) args s 0 0 (wA E)) (F0 m 4 ls [])) (hrec18 : ∀ (y4' : Int32) (y5' : Int32), rec18 (y4', y5') = some res → ∀ (H : Heap) (locs : List Loc) (ls : Array Slot), wH E M H → va_S (wA E) s.heap H locs → lv_has ls 6 [(0, .ref (wad E 70)), (1, .int y1), (2, .int y2), (3, .int y3), (4, .int y4'), (5, .int y5')] → W p l e ({ frames := 0, cells := 0, slots := 0, locals := 0 } : Room) s m args below meth c H locs 0 0 (MQ below (wQ E (some (.int res)) M) args s 0 0 (wA E)) (F0 m 18 ls [])) (hf : fX10_openBy_61 M rec4 rec18 y1 y2 y3 y5 z0 z1 = some res) {H : Heap} {locs : List Loc} {ls : Array Slot} (hW : wH E M H) (hS : va_S (wA E) s.heap H locs) (hl : lv_has ls 6 [(0, .ref (wad E 70)), (1, .int y1), (2, .int y2), (3, .int y3), (5, .int y5)]) : W p l e ({ frames := 0, cells := 0, slots := 0, locals := 0 } : Room) s m args below meth c H locs 0 0 (MQ below (wQ E (some (.int res)) M) args s 0 0 (wA E)) (F0 m 61 ls [.int z1, .int z0]) := by
  unfold fX10_openBy_61 at hf
  obtain ⟨hx, hb, hr, hml, hown, hts, hlocks, hG, hV, hZ⟩ := id B
  rcases wif_e hf with ⟨hq12, hf⟩ | ⟨hq12, hf⟩
  · refine lv_icmp_ne (tgt := 68) hx hb dX10_openBy_61 (by decide) (fun h => absurd hq12 h) (fun _ => ?_)
    refine lv_iconst (v := 1) hx hb dX10_openBy_64 rfl ?_
    refine lv_goto (tgt := 69) hx hb dX10_openBy_65 (by decide) ?_
    exact pX10_openBy_69 B  hrec4 hrec18 hf hW hS (lv_sub hl [0, 1, 2, 3, 4] rfl)
  · refine lv_icmp_ne (tgt := 68) hx hb dX10_openBy_61 (by decide) (fun _ => ?_) (fun h => absurd h hq12)
    exact pX10_openBy_68 B  hrec4 hrec18 hf hW hS (lv_sub hl [0, 1, 2, 3, 4] rfl)
set_option maxRecDepth 100000 in
set_option maxHeartbeats 4000000 in
theorem pX10_openBy_45 (B : wB E p s m args meth c cX10_openBy 6 RX10 (some .int)) {M : wMem} {y1 : Int32} {y2 : Int32} {y3 : Int32} {y5 : Int32} {z0 : Int32} {rec4 : (Int32 × Int32 → Option (Int32))} {rec18 : (Int32 × Int32 → Option (Int32))} {res : Int32}  (hrec4 : ∀ (y2' : Int32) (y3' : Int32), rec4 (y2', y3') = some res → ∀ (H : Heap) (locs : List Loc) (ls : Array Slot), wH E M H → va_S (wA E) s.heap H locs → lv_has ls 6 [(0, .ref (wad E 70)), (1, .int y1), (2, .int y2'), (3, .int y3')] → W p l e ({ frames := 0, cells := 0, slots := 0, locals := 0 } : Room) s m args below meth c H locs 0 0 (MQ below (wQ E (some (.int res)) M) args s 0 0 (wA E)) (F0 m 4 ls [])) (hrec18 : ∀ (y4' : Int32) (y5' : Int32), rec18 (y4', y5') = some res → ∀ (H : Heap) (locs : List Loc) (ls : Array Slot), wH E M H → va_S (wA E) s.heap H locs → lv_has ls 6 [(0, .ref (wad E 70)), (1, .int y1), (2, .int y2), (3, .int y3), (4, .int y4'), (5, .int y5')] → W p l e ({ frames := 0, cells := 0, slots := 0, locals := 0 } : Room) s m args below meth c H locs 0 0 (MQ below (wQ E (some (.int res)) M) args s 0 0 (wA E)) (F0 m 18 ls [])) (hf : fX10_openBy_45 M rec4 rec18 y1 y2 y3 y5 z0 = some res) {H : Heap} {locs : List Loc} {ls : Array Slot} (hW : wH E M H) (hS : va_S (wA E) s.heap H locs) (hl : lv_has ls 6 [(0, .ref (wad E 70)), (1, .int y1), (2, .int y2), (3, .int y3), (5, .int y5)]) : W p l e ({ frames := 0, cells := 0, slots := 0, locals := 0 } : Room) s m args below meth c H locs 0 0 (MQ below (wQ E (some (.int res)) M) args s 0 0 (wA E)) (F0 m 45 ls [.int z0]) := by
  unfold fX10_openBy_45 at hf
  obtain ⟨hx, hb, hr, hml, hown, hts, hlocks, hG, hV, hZ⟩ := id B
  refine lv_aload_n hx hb dX10_openBy_45 rfl (lv_at hl 0 rfl) ?_
  refine wm_get hx hb hts wu_X10 hown hV hW (wlt_9 (rfl : wkd 70 = 9)) (wen_9 (rfl : wkd 70 = 9)) (C := RX10) (T := TX10) (N := 31) rfl 27 (by decide) (hts _ wA_741) rfl dX10_openBy_46 ?_
  refine lv_iload hx hb dX10_openBy_49 (lv_at hl 4 rfl) ?_
  obtain ⟨hi10, hf⟩ := wgi_e hf
  refine wm_iald hx hb hV hW (rfl : wkd 90 = 21) (n := 6) rfl hi10 dX10_openBy_51 ?_
  refine lv_iconst (v := 1) hx hb dX10_openBy_52 rfl ?_
  rcases wif_e hf with ⟨hq11, hf⟩ | ⟨hq11, hf⟩
  · refine lv_icmp_ne (tgt := 60) hx hb dX10_openBy_53 (by decide) (fun h => absurd hq11 h) (fun _ => ?_)
    refine lv_iconst (v := 1) hx hb dX10_openBy_56 rfl ?_
    refine lv_goto (tgt := 61) hx hb dX10_openBy_57 (by decide) ?_
    exact pX10_openBy_61 B  hrec4 hrec18 hf hW hS (lv_sub hl [0, 1, 2, 3, 4] rfl)
  · refine lv_icmp_ne (tgt := 60) hx hb dX10_openBy_53 (by decide) (fun _ => ?_) (fun h => absurd h hq11)
    refine lv_iconst (v := 0) hx hb dX10_openBy_60 rfl ?_
    exact pX10_openBy_61 B  hrec4 hrec18 hf hW hS (lv_sub hl [0, 1, 2, 3, 4] rfl)
set_option maxRecDepth 100000 in
set_option maxHeartbeats 4000000 in
theorem pX10_openBy_18_b (B : wB E p s m args meth c cX10_openBy 6 RX10 (some .int)) {M : wMem} {y1 : Int32} {y2 : Int32} {y3 : Int32} {y4 : Int32} {y5 : Int32} {rec4 : (Int32 × Int32 → Option (Int32))} {rec18 : (Int32 × Int32 → Option (Int32))} {res : Int32}  (hrec4 : ∀ (y2' : Int32) (y3' : Int32), rec4 (y2', y3') = some res → ∀ (H : Heap) (locs : List Loc) (ls : Array Slot), wH E M H → va_S (wA E) s.heap H locs → lv_has ls 6 [(0, .ref (wad E 70)), (1, .int y1), (2, .int y2'), (3, .int y3')] → W p l e ({ frames := 0, cells := 0, slots := 0, locals := 0 } : Room) s m args below meth c H locs 0 0 (MQ below (wQ E (some (.int res)) M) args s 0 0 (wA E)) (F0 m 4 ls [])) (hrec18 : ∀ (y4' : Int32) (y5' : Int32), rec18 (y4', y5') = some res → ∀ (H : Heap) (locs : List Loc) (ls : Array Slot), wH E M H → va_S (wA E) s.heap H locs → lv_has ls 6 [(0, .ref (wad E 70)), (1, .int y1), (2, .int y2), (3, .int y3), (4, .int y4'), (5, .int y5')] → W p l e ({ frames := 0, cells := 0, slots := 0, locals := 0 } : Room) s m args below meth c H locs 0 0 (MQ below (wQ E (some (.int res)) M) args s 0 0 (wA E)) (F0 m 18 ls [])) (hf : fX10_openBy_18_b M rec4 rec18 y1 y2 y3 y4 y5 = some res) {H : Heap} {locs : List Loc} {ls : Array Slot} (hW : wH E M H) (hS : va_S (wA E) s.heap H locs) (hl : lv_has ls 6 [(0, .ref (wad E 70)), (1, .int y1), (2, .int y2), (3, .int y3), (4, .int y4), (5, .int y5)]) : W p l e ({ frames := 0, cells := 0, slots := 0, locals := 0 } : Room) s m args below meth c H locs 0 0 (MQ below (wQ E (some (.int res)) M) args s 0 0 (wA E)) (F0 m 18 ls []) := by
  unfold fX10_openBy_18_b at hf
  obtain ⟨hx, hb, hr, hml, hown, hts, hlocks, hG, hV, hZ⟩ := id B
  refine lv_iload hx hb dX10_openBy_18 (lv_at hl 5 rfl) ?_
  refine lv_iload_n hx hb dX10_openBy_20 rfl (lv_at hl 1 rfl) ?_
  rcases wif_e hf with ⟨hq2, hf⟩ | ⟨hq2, hf⟩
  · refine lv_icmp_ge (tgt := 77) hx hb dX10_openBy_21 (by decide) (fun _ => ?_) (fun h => absurd hq2 h)
    refine lv_iload_n hx hb dX10_openBy_77 rfl (lv_at hl 2 rfl) ?_
    refine lv_iload hx hb dX10_openBy_78 (lv_at hl 4 rfl) ?_
    rcases wif_e hf with ⟨hq3, hf⟩ | ⟨hq3, hf⟩
    · refine lv_if_eq (tgt := 89) hx hb dX10_openBy_80 (by decide) (fun _ => ?_) (fun h => absurd hq3 h)
      refine lv_iconst (v := 0) hx hb dX10_openBy_89 rfl ?_
      exact pX10_openBy_90 B  hrec4 hf hW hS (lv_sub hl [0, 1, 3] rfl)
    · refine lv_if_eq (tgt := 89) hx hb dX10_openBy_80 (by decide) (fun h => absurd h hq3) (fun _ => ?_)
      refine lv_iconst (v := 1) hx hb dX10_openBy_83 rfl ?_
      refine lv_iload_n hx hb dX10_openBy_84 rfl (lv_at hl 3 rfl) ?_
      refine lv_ishl hx hb dX10_openBy_85 ?_
      refine lv_goto (tgt := 90) hx hb dX10_openBy_86 (by decide) ?_
      exact pX10_openBy_90 B  hrec4 hf hW hS (lv_sub hl [0, 1, 3] rfl)
  · refine lv_icmp_ge (tgt := 77) hx hb dX10_openBy_21 (by decide) (fun h => absurd h hq2) (fun _ => ?_)
    refine lv_iload hx hb dX10_openBy_24 (lv_at hl 4 rfl) ?_
    rcases wif_e hf with ⟨hq6, hf⟩ | ⟨hq6, hf⟩
    · refine lv_if_eq (tgt := 68) hx hb dX10_openBy_26 (by decide) (fun _ => ?_) (fun h => absurd hq6 h)
      exact pX10_openBy_68 B  hrec4 hrec18 hf hW hS (lv_sub hl [0, 1, 2, 3, 5] rfl)
    · refine lv_if_eq (tgt := 68) hx hb dX10_openBy_26 (by decide) (fun h => absurd h hq6) (fun _ => ?_)
      refine lv_iload_n hx hb dX10_openBy_29 rfl (lv_at hl 3 rfl) ?_
      refine lv_aload_n hx hb dX10_openBy_30 rfl (lv_at hl 0 rfl) ?_
      refine wm_get hx hb hts wu_X10 hown hV hW (wlt_9 (rfl : wkd 70 = 9)) (wen_9 (rfl : wkd 70 = 9)) (C := RX10) (T := TX10) (N := 31) rfl 26 (by decide) (hts _ wA_740) rfl dX10_openBy_31 ?_
      refine lv_iload hx hb dX10_openBy_34 (lv_at hl 5 rfl) ?_
      obtain ⟨hi8, hf⟩ := wgi_e hf
      refine wm_iald hx hb hV hW (rfl : wkd 89 = 21) (n := 6) rfl hi8 dX10_openBy_36 ?_
      rcases wif_e hf with ⟨hq9, hf⟩ | ⟨hq9, hf⟩
      · refine lv_icmp_lt (tgt := 44) hx hb dX10_openBy_37 (by decide) (fun _ => ?_) (fun h => absurd hq9 h)
        refine lv_iconst (v := 0) hx hb dX10_openBy_44 rfl ?_
        exact pX10_openBy_45 B  hrec4 hrec18 hf hW hS (lv_sub hl [0, 1, 2, 3, 5] rfl)
      · refine lv_icmp_lt (tgt := 44) hx hb dX10_openBy_37 (by decide) (fun h => absurd h hq9) (fun _ => ?_)
        refine lv_iconst (v := 1) hx hb dX10_openBy_40 rfl ?_
        refine lv_goto (tgt := 45) hx hb dX10_openBy_41 (by decide) ?_
        exact pX10_openBy_45 B  hrec4 hrec18 hf hW hS (lv_sub hl [0, 1, 2, 3, 5] rfl)
set_option maxRecDepth 100000 in
set_option maxHeartbeats 4000000 in
theorem pX10_openBy_18 (B : wB E p s m args meth c cX10_openBy 6 RX10 (some .int)) {M : wMem} {y1 : Int32} {y2 : Int32} {y3 : Int32} {y4 : Int32} {y5 : Int32} {rec4 : (Int32 × Int32 → Option (Int32))} {res : Int32}  (hrec4 : ∀ (y2' : Int32) (y3' : Int32), rec4 (y2', y3') = some res → ∀ (H : Heap) (locs : List Loc) (ls : Array Slot), wH E M H → va_S (wA E) s.heap H locs → lv_has ls 6 [(0, .ref (wad E 70)), (1, .int y1), (2, .int y2'), (3, .int y3')] → W p l e ({ frames := 0, cells := 0, slots := 0, locals := 0 } : Room) s m args below meth c H locs 0 0 (MQ below (wQ E (some (.int res)) M) args s 0 0 (wA E)) (F0 m 4 ls [])) (hf : fX10_openBy_18 M rec4 y1 y2 y3 y4 y5 = some res) {H : Heap} {locs : List Loc} {ls : Array Slot} (hW : wH E M H) (hS : va_S (wA E) s.heap H locs) (hl : lv_has ls 6 [(0, .ref (wad E 70)), (1, .int y1), (2, .int y2), (3, .int y3), (4, .int y4), (5, .int y5)]) : W p l e ({ frames := 0, cells := 0, slots := 0, locals := 0 } : Room) s m args below meth c H locs 0 0 (MQ below (wQ E (some (.int res)) M) args s 0 0 (wA E)) (F0 m 18 ls []) := by
  have key := wloop_W (b := (fun rec18 t => fX10_openBy_18_b M rec4 rec18 y1 y2 y3 t.1 t.2)) (P := fun t => ∀ (H : Heap) (locs : List Loc) (ls : Array Slot), wH E M H → va_S (wA E) s.heap H locs → lv_has ls 6 [(0, .ref (wad E 70)), (1, .int y1), (2, .int y2), (3, .int y3), (4, .int t.1), (5, .int t.2)] → W p l e ({ frames := 0, cells := 0, slots := 0, locals := 0 } : Room) s m args below meth c H locs 0 0 (MQ below (wQ E (some (.int res)) M) args s 0 0 (wA E)) (F0 m 18 ls [])) (r := res) (fun rec hrec t hf H locs ls hW hS hl => pX10_openBy_18_b B  hrec4 (fun v0 v1 hf H locs ls hW hS hl => hrec (v0, v1) hf H locs ls hW hS hl) hf hW hS hl)
  exact key wfuel (y4, y5) hf H locs ls hW hS hl
set_option maxRecDepth 100000 in
set_option maxHeartbeats 4000000 in
theorem pX10_openBy_4_b (B : wB E p s m args meth c cX10_openBy 6 RX10 (some .int)) {M : wMem} {y1 : Int32} {y2 : Int32} {y3 : Int32}  {rec4 : (Int32 × Int32 → Option (Int32))} {res : Int32}   (hrec4 : ∀ (y2' : Int32) (y3' : Int32), rec4 (y2', y3') = some res → ∀ (H : Heap) (locs : List Loc) (ls : Array Slot), wH E M H → va_S (wA E) s.heap H locs → lv_has ls 6 [(0, .ref (wad E 70)), (1, .int y1), (2, .int y2'), (3, .int y3')] → W p l e ({ frames := 0, cells := 0, slots := 0, locals := 0 } : Room) s m args below meth c H locs 0 0 (MQ below (wQ E (some (.int res)) M) args s 0 0 (wA E)) (F0 m 4 ls [])) (hf : fX10_openBy_4_b M  rec4 y1 y2 y3 = some res) {H : Heap} {locs : List Loc} {ls : Array Slot} (hW : wH E M H) (hS : va_S (wA E) s.heap H locs) (hl : lv_has ls 6 [(0, .ref (wad E 70)), (1, .int y1), (2, .int y2), (3, .int y3)]) : W p l e ({ frames := 0, cells := 0, slots := 0, locals := 0 } : Room) s m args below meth c H locs 0 0 (MQ below (wQ E (some (.int res)) M) args s 0 0 (wA E)) (F0 m 4 ls []) := by
  unfold fX10_openBy_4_b at hf
  obtain ⟨hx, hb, hr, hml, hown, hts, hlocks, hG, hV, hZ⟩ := id B
  refine lv_iload_n hx hb dX10_openBy_4 rfl (lv_at hl 3 rfl) ?_
  refine lv_aload_n hx hb dX10_openBy_5 rfl (lv_at hl 0 rfl) ?_
  refine wm_get hx hb hts wu_X10 hown hV hW (wlt_9 (rfl : wkd 70 = 9)) (wen_9 (rfl : wkd 70 = 9)) (C := RX10) (T := TX10) (N := 31) rfl 7 (by decide) (hts _ wA_721) rfl dX10_openBy_6 ?_
  rcases wif_e hf with ⟨hq1, hf⟩ | ⟨hq1, hf⟩
  · refine lv_icmp_ge (tgt := 98) hx hb dX10_openBy_9 (by decide) (fun _ => ?_) (fun h => absurd hq1 h)
    refine lv_iload_n hx hb dX10_openBy_98 rfl (lv_at hl 2 rfl) ?_
    have hres := Option.some.inj hf
    subst hres
    exact W.iret hx hb hr (wr_q hG hV hZ hW hS) hS.2.2 dX10_openBy_99
  · refine lv_icmp_ge (tgt := 98) hx hb dX10_openBy_9 (by decide) (fun h => absurd h hq1) (fun _ => ?_)
    refine lv_iconst (v := 1) hx hb dX10_openBy_12 rfl ?_
    refine lv_istore (lv' := [(4, .int 1), (0, .ref (wad E 70)), (1, .int y1), (2, .int y2), (3, .int y3)]) hx hb dX10_openBy_13 hl (by decide) rfl (fun ls hl => ?_)
    refine lv_iconst (v := 0) hx hb dX10_openBy_15 rfl ?_
    refine lv_istore (lv' := [(5, .int 0), (4, .int 1), (0, .ref (wad E 70)), (1, .int y1), (2, .int y2), (3, .int y3)]) hx hb dX10_openBy_16 hl (by decide) rfl (fun ls hl => ?_)
    exact pX10_openBy_18 B  hrec4 hf hW hS (lv_sub hl [2, 3, 4, 5, 1, 0] rfl)
set_option maxRecDepth 100000 in
set_option maxHeartbeats 4000000 in
theorem pX10_openBy_4 (B : wB E p s m args meth c cX10_openBy 6 RX10 (some .int)) {M : wMem} {y1 : Int32} {y2 : Int32} {y3 : Int32}  {res : Int32}   (hf : fX10_openBy_4 M  y1 y2 y3 = some res) {H : Heap} {locs : List Loc} {ls : Array Slot} (hW : wH E M H) (hS : va_S (wA E) s.heap H locs) (hl : lv_has ls 6 [(0, .ref (wad E 70)), (1, .int y1), (2, .int y2), (3, .int y3)]) : W p l e ({ frames := 0, cells := 0, slots := 0, locals := 0 } : Room) s m args below meth c H locs 0 0 (MQ below (wQ E (some (.int res)) M) args s 0 0 (wA E)) (F0 m 4 ls []) := by
  have key := wloop_W (b := (fun rec4 t => fX10_openBy_4_b M  rec4 y1 t.1 t.2)) (P := fun t => ∀ (H : Heap) (locs : List Loc) (ls : Array Slot), wH E M H → va_S (wA E) s.heap H locs → lv_has ls 6 [(0, .ref (wad E 70)), (1, .int y1), (2, .int t.1), (3, .int t.2)] → W p l e ({ frames := 0, cells := 0, slots := 0, locals := 0 } : Room) s m args below meth c H locs 0 0 (MQ below (wQ E (some (.int res)) M) args s 0 0 (wA E)) (F0 m 4 ls [])) (r := res) (fun rec hrec t hf H locs ls hW hS hl => pX10_openBy_4_b B   (fun v0 v1 hf H locs ls hW hS hl => hrec (v0, v1) hf H locs ls hW hS hl) hf hW hS hl)
  exact key wfuel (y2, y3) hf H locs ls hW hS hl
set_option maxRecDepth 100000 in
set_option maxHeartbeats 4000000 in
theorem pX10_openBy (B : wB E p s m args meth c cX10_openBy 6 RX10 (some .int)) {M : wMem} {a1 : Int32}  {res : Int32} (hf : fX10_openBy M a1 = some res) {H : Heap} {locs : List Loc} {ls : Array Slot} (hW : wH E M H) (hS : va_S (wA E) s.heap H locs) (hl : lv_has ls 6 [(0, .ref (wad E 70)), (1, .int a1)]) : W p l e ({ frames := 0, cells := 0, slots := 0, locals := 0 } : Room) s m args below meth c H locs 0 0 (MQ below (wQ E (some (.int res)) M) args s 0 0 (wA E)) (F0 m 0 ls []) := by
  unfold fX10_openBy at hf
  obtain ⟨hx, hb, hr, hml, hown, hts, hlocks, hG, hV, hZ⟩ := id B
  refine lv_iconst (v := 0) hx hb dX10_openBy_0 rfl ?_
  refine lv_istore_n (lv' := [(2, .int 0), (0, .ref (wad E 70)), (1, .int a1)]) hx hb dX10_openBy_1 rfl hl (by decide) rfl (fun ls hl => ?_)
  refine lv_iconst (v := 0) hx hb dX10_openBy_2 rfl ?_
  refine lv_istore_n (lv' := [(3, .int 0), (2, .int 0), (0, .ref (wad E 70)), (1, .int a1)]) hx hb dX10_openBy_3 rfl hl (by decide) rfl (fun ls hl => ?_)
  exact pX10_openBy_4 B   hf hW hS (lv_sub hl [2, 3, 1, 0] rfl)
theorem cX10_openBy_ok (l : Launch) (E : wE) (M : wMem) (a1 : Int32) {res : Int32} (hf : fX10_openBy M a1 = some res) : wMet l yX10_openBy (wsM yX10_openBy cX10_openBy 6 (some .int)) ({ frames := 0, cells := 0, slots := 0, locals := 0 } : Room) E M [.ref (wad E 70), .int a1] (some (.int res)) M :=
  wc_of (cc := cX10_openBy) (maxL := 6) (ret := (some .int)) (by decide) (Nat.le_of_ble_eq_true rfl) (fun _ _ _ _ _ _ _ _ B hW hl => pX10_openBy B  hf hW va_S.rf hl)
end
theorem cdX10_openTo : yX10_openTo.cls = RX10 ∧ yX10_openTo.cls ≠ "java/lang/invoke/MethodHandle" ∧ yX10_openTo.cls ≠ "java/lang/invoke/VarHandle" ∧ (parseMethodDescriptor yX10_openTo.desc).map (fun d => d.parameters.length) = some 0 := by decide +kernel
section
variable {p : Program} {l : Launch} {e : Env} {s : State} {m : MethodId} {args : Array Value} {below : List Frame} {meth : Method} {c : Code} {E : wE}
set_option maxRecDepth 100000 in
set_option maxHeartbeats 4000000 in
theorem pX10_openTo (B : wB E p s m args meth c cX10_openTo 1 RX10 (some .int)) {M : wMem}   {res : Int32} (hf : fX10_openTo M  = some res) {H : Heap} {locs : List Loc} {ls : Array Slot} (hW : wH E M H) (hS : va_S (wA E) s.heap H locs) (hl : lv_has ls 1 [(0, .ref (wad E 70))]) : W p l e ({ frames := 1, cells := 0, slots := 0, locals := 25 } : Room) s m args below meth c H locs 0 0 (MQ below (wQ E (some (.int res)) M) args s 0 0 (wA E)) (F0 m 0 ls []) := by
  unfold fX10_openTo at hf
  obtain ⟨hx, hb, hr, hml, hown, hts, hlocks, hG, hV, hZ⟩ := id B
  refine lv_aload_n hx hb dX10_openTo_0 rfl (lv_at hl 0 rfl) ?_
  refine lv_aload_n hx hb dX10_openTo_1 rfl (lv_at hl 0 rfl) ?_
  refine wm_get hx hb hts wu_X10 hown hV hW (wlt_9 (rfl : wkd 70 = 9)) (wen_9 (rfl : wkd 70 = 9)) (C := RX10) (T := TX10) (N := 31) rfl 28 (by decide) (hts _ wA_742) rfl dX10_openTo_2 ?_
  obtain ⟨r2, hc1, hf⟩ := wbind_e hf
  refine wc_V (As := [.int (M 70 28)]) (rest := []) hx hb hml hown hts hG hV hZ (wlt_9 (rfl : wkd 70 = 9)) (q := (RX10, TX10, 31)) (wen_9 (rfl : wkd 70 = 9)) rfl (cX10_openBy_ok l E M (M 70 28) hc1) (cwV 1 hts gl_X10_218 rfl rfl rfl cdX10_openBy ⟨Nat.le_of_ble_eq_true rfl, Nat.le_of_ble_eq_true rfl⟩) rfl hl.1 rfl (Nat.le_of_ble_eq_true rfl) dX10_openTo_5 ⟨Nat.zero_le _, Nat.zero_le _⟩ hW hS rfl (fun H locs hW hS => ?_)
  have hres := Option.some.inj hf
  subst hres
  exact W.iret hx hb hr (wr_q hG hV hZ hW hS) hS.2.2 dX10_openTo_8
theorem cX10_openTo_ok (l : Launch) (E : wE) (M : wMem)  {res : Int32} (hf : fX10_openTo M  = some res) : wMet l yX10_openTo (wsM yX10_openTo cX10_openTo 1 (some .int)) ({ frames := 1, cells := 0, slots := 0, locals := 25 } : Room) E M [.ref (wad E 70)] (some (.int res)) M :=
  wc_of (cc := cX10_openTo) (maxL := 1) (ret := (some .int)) (by decide) (Nat.le_of_ble_eq_true rfl) (fun _ _ _ _ _ _ _ _ B hW hl => pX10_openTo B  hf hW va_S.rf hl)
end
theorem cdX10_judge : yX10_judge.cls = RX10 ∧ yX10_judge.cls ≠ "java/lang/invoke/MethodHandle" ∧ yX10_judge.cls ≠ "java/lang/invoke/VarHandle" ∧ (parseMethodDescriptor yX10_judge.desc).map (fun d => d.parameters.length) = some 0 := by decide +kernel
section
variable {p : Program} {l : Launch} {e : Env} {s : State} {m : MethodId} {args : Array Value} {below : List Frame} {meth : Method} {c : Code} {E : wE}
set_option maxRecDepth 100000 in
set_option maxHeartbeats 4000000 in
theorem pX10_judge_27 (B : wB E p s m args meth c cX10_judge 3 RX10 (some .int)) {M : wMem} {y2 : Int32} {z0 : Int32} {rec8 : (Int32 × Int32 → Option (Int32 × wMem))} {res : Int32 × wMem}  (hrec8 : ∀ (y1' : Int32) (y2' : Int32), rec8 (y1', y2') = some res → ∀ (H : Heap) (locs : List Loc) (ls : Array Slot), wH E M H → va_S (wA E) s.heap H locs → lv_has ls 3 [(0, .ref (wad E 70)), (1, .int y1'), (2, .int y2')] → W p l e ({ frames := 1, cells := 0, slots := 0, locals := 25 } : Room) s m args below meth c H locs 0 0 (MQ below (wQ E (some (.int res.1)) res.2) args s 0 0 (wA E)) (F0 m 8 ls [])) (hf : fX10_judge_27 M rec8 y2 z0 = some res) {H : Heap} {locs : List Loc} {ls : Array Slot} (hW : wH E M H) (hS : va_S (wA E) s.heap H locs) (hl : lv_has ls 3 [(0, .ref (wad E 70)), (2, .int y2)]) : W p l e ({ frames := 1, cells := 0, slots := 0, locals := 25 } : Room) s m args below meth c H locs 0 0 (MQ below (wQ E (some (.int res.1)) res.2) args s 0 0 (wA E)) (F0 m 27 ls [.int z0]) := by
  unfold fX10_judge_27 at hf
  obtain ⟨hx, hb, hr, hml, hown, hts, hlocks, hG, hV, hZ⟩ := id B
  refine lv_istore_n (lv' := [(1, .int z0), (0, .ref (wad E 70)), (2, .int y2)]) hx hb dX10_judge_27 rfl hl (by decide) rfl (fun ls hl => ?_)
  obtain ⟨x7, ex7, hf⟩ := wlet_e hf
  refine lv_iinc (v := x7) (lv' := [(2, .int x7), (1, .int z0), (0, .ref (wad E 70))]) hx hb dX10_judge_28 hl (k := 2) rfl (by rw [ex7]; rfl) (by decide) rfl (fun ls hl => ?_)
  refine lv_goto (tgt := 8) hx hb dX10_judge_31 (by decide) ?_
  exact hrec8 z0 x7 hf _ _ _ hW hS (lv_sub hl [2, 1, 0] rfl)
set_option maxRecDepth 100000 in
set_option maxHeartbeats 4000000 in
theorem pX10_judge_8_b (B : wB E p s m args meth c cX10_judge 3 RX10 (some .int)) {M : wMem} {y1 : Int32} {y2 : Int32}  {rec8 : (Int32 × Int32 → Option (Int32 × wMem))} {res : Int32 × wMem}   (hrec8 : ∀ (y1' : Int32) (y2' : Int32), rec8 (y1', y2') = some res → ∀ (H : Heap) (locs : List Loc) (ls : Array Slot), wH E M H → va_S (wA E) s.heap H locs → lv_has ls 3 [(0, .ref (wad E 70)), (1, .int y1'), (2, .int y2')] → W p l e ({ frames := 1, cells := 0, slots := 0, locals := 25 } : Room) s m args below meth c H locs 0 0 (MQ below (wQ E (some (.int res.1)) res.2) args s 0 0 (wA E)) (F0 m 8 ls [])) (hf : fX10_judge_8_b M  rec8 y1 y2 = some res) {H : Heap} {locs : List Loc} {ls : Array Slot} (hW : wH E M H) (hS : va_S (wA E) s.heap H locs) (hl : lv_has ls 3 [(0, .ref (wad E 70)), (1, .int y1), (2, .int y2)]) : W p l e ({ frames := 1, cells := 0, slots := 0, locals := 25 } : Room) s m args below meth c H locs 0 0 (MQ below (wQ E (some (.int res.1)) res.2) args s 0 0 (wA E)) (F0 m 8 ls []) := by
  unfold fX10_judge_8_b at hf
  obtain ⟨hx, hb, hr, hml, hown, hts, hlocks, hG, hV, hZ⟩ := id B
  refine lv_iload_n hx hb dX10_judge_8 rfl (lv_at hl 2 rfl) ?_
  rcases wif_e hf with ⟨hq2, hf⟩ | ⟨hq2, hf⟩
  · refine lv_if_le (tgt := 34) hx hb dX10_judge_9 (by decide) (fun _ => ?_) (fun h => absurd hq2 h)
    refine lv_aload_n hx hb dX10_judge_34 rfl (lv_at hl 0 rfl) ?_
    refine lv_iconst (v := 0) hx hb dX10_judge_35 rfl ?_
    refine wm_put hx hb hts wu_X10 tyX10 tyX10_ok nmX10 hown hG hV hW hS (wlt_9 (rfl : wkd 70 = 9)) (wen_9 (rfl : wkd 70 = 9)) (C := RX10) (T := TX10) (N := 31) rfl 28 (by decide) (hts _ wA_742) rfl .int _ (tyX10_ok 28 (by decide)) rfl rfl (Nat.le_of_ble_eq_true rfl) (wpt_9_28 (rfl : wkd 70 = 9)) dX10_judge_36 (fun H locs hW hS => ?_)
    obtain ⟨M3, hW, hf⟩ := wlet_M hW hf
    refine lv_iload_n hx hb dX10_judge_39 rfl (lv_at hl 1 rfl) ?_
    have hres := Option.some.inj hf
    subst hres
    exact W.iret hx hb hr (wr_q hG hV hZ hW hS) hS.2.2 dX10_judge_40
  · refine lv_if_le (tgt := 34) hx hb dX10_judge_9 (by decide) (fun h => absurd h hq2) (fun _ => ?_)
    refine lv_aload_n hx hb dX10_judge_12 rfl (lv_at hl 0 rfl) ?_
    refine lv_iload_n hx hb dX10_judge_13 rfl (lv_at hl 2 rfl) ?_
    obtain ⟨r5, hc4, hf⟩ := wbind_e hf
    refine wc_V (As := [.int y2]) (rest := []) hx hb hml hown hts hG hV hZ (wlt_9 (rfl : wkd 70 = 9)) (q := (RX10, TX10, 31)) (wen_9 (rfl : wkd 70 = 9)) rfl (cX10_openBy_ok l E M y2 hc4) (cwV 1 hts gl_X10_218 rfl rfl rfl cdX10_openBy ⟨Nat.le_of_ble_eq_true rfl, Nat.le_of_ble_eq_true rfl⟩) rfl hl.1 rfl (Nat.le_of_ble_eq_true rfl) dX10_judge_14 ⟨Nat.zero_le _, Nat.zero_le _⟩ hW hS rfl (fun H locs hW hS => ?_)
    rcases wif_e hf with ⟨hq6, hf⟩ | ⟨hq6, hf⟩
    · refine lv_if_ne (tgt := 26) hx hb dX10_judge_17 (by decide) (fun h => absurd hq6 h) (fun _ => ?_)
      refine lv_iload_n hx hb dX10_judge_20 rfl (lv_at hl 2 rfl) ?_
      refine lv_iconst (v := 1) hx hb dX10_judge_21 rfl ?_
      refine lv_isub hx hb dX10_judge_22 ?_
      refine lv_goto (tgt := 27) hx hb dX10_judge_23 (by decide) ?_
      exact pX10_judge_27 B  hrec8 hf hW hS (lv_sub hl [0, 2] rfl)
    · refine lv_if_ne (tgt := 26) hx hb dX10_judge_17 (by decide) (fun _ => ?_) (fun h => absurd h hq6)
      refine lv_iload_n hx hb dX10_judge_26 rfl (lv_at hl 1 rfl) ?_
      exact pX10_judge_27 B  hrec8 hf hW hS (lv_sub hl [0, 2] rfl)
set_option maxRecDepth 100000 in
set_option maxHeartbeats 4000000 in
theorem pX10_judge_8 (B : wB E p s m args meth c cX10_judge 3 RX10 (some .int)) {M : wMem} {y1 : Int32} {y2 : Int32}  {res : Int32 × wMem}   (hf : fX10_judge_8 M  y1 y2 = some res) {H : Heap} {locs : List Loc} {ls : Array Slot} (hW : wH E M H) (hS : va_S (wA E) s.heap H locs) (hl : lv_has ls 3 [(0, .ref (wad E 70)), (1, .int y1), (2, .int y2)]) : W p l e ({ frames := 1, cells := 0, slots := 0, locals := 25 } : Room) s m args below meth c H locs 0 0 (MQ below (wQ E (some (.int res.1)) res.2) args s 0 0 (wA E)) (F0 m 8 ls []) := by
  have key := wloop_W (b := (fun rec8 t => fX10_judge_8_b M  rec8 t.1 t.2)) (P := fun t => ∀ (H : Heap) (locs : List Loc) (ls : Array Slot), wH E M H → va_S (wA E) s.heap H locs → lv_has ls 3 [(0, .ref (wad E 70)), (1, .int t.1), (2, .int t.2)] → W p l e ({ frames := 1, cells := 0, slots := 0, locals := 25 } : Room) s m args below meth c H locs 0 0 (MQ below (wQ E (some (.int res.1)) res.2) args s 0 0 (wA E)) (F0 m 8 ls [])) (r := res) (fun rec hrec t hf H locs ls hW hS hl => pX10_judge_8_b B   (fun v0 v1 hf H locs ls hW hS hl => hrec (v0, v1) hf H locs ls hW hS hl) hf hW hS hl)
  exact key wfuel (y1, y2) hf H locs ls hW hS hl
set_option maxRecDepth 100000 in
set_option maxHeartbeats 4000000 in
theorem pX10_judge (B : wB E p s m args meth c cX10_judge 3 RX10 (some .int)) {M : wMem}   {res : Int32 × wMem} (hf : fX10_judge M  = some res) {H : Heap} {locs : List Loc} {ls : Array Slot} (hW : wH E M H) (hS : va_S (wA E) s.heap H locs) (hl : lv_has ls 3 [(0, .ref (wad E 70))]) : W p l e ({ frames := 1, cells := 0, slots := 0, locals := 25 } : Room) s m args below meth c H locs 0 0 (MQ below (wQ E (some (.int res.1)) res.2) args s 0 0 (wA E)) (F0 m 0 ls []) := by
  unfold fX10_judge at hf
  obtain ⟨hx, hb, hr, hml, hown, hts, hlocks, hG, hV, hZ⟩ := id B
  refine lv_bipush (v := (-9)) hx hb dX10_judge_0 (by decide) ?_
  refine lv_istore_n (lv' := [(1, .int (-9)), (0, .ref (wad E 70))]) hx hb dX10_judge_2 rfl hl (by decide) rfl (fun ls hl => ?_)
  refine lv_aload_n hx hb dX10_judge_3 rfl (lv_at hl 1 rfl) ?_
  refine wm_get hx hb hts wu_X10 hown hV hW (wlt_9 (rfl : wkd 70 = 9)) (wen_9 (rfl : wkd 70 = 9)) (C := RX10) (T := TX10) (N := 31) rfl 28 (by decide) (hts _ wA_742) rfl dX10_judge_4 ?_
  refine lv_topi (fun x1 ex1 => ?_)
  replace hf := wlet_y ex1 hf
  refine lv_istore_n (lv' := [(2, .int x1), (1, .int (-9)), (0, .ref (wad E 70))]) hx hb dX10_judge_7 rfl hl (by decide) rfl (fun ls hl => ?_)
  exact pX10_judge_8 B   hf hW hS (lv_sub hl [2, 1, 0] rfl)
theorem cX10_judge_ok (l : Launch) (E : wE) (M : wMem)  {res : Int32 × wMem} (hf : fX10_judge M  = some res) : wMet l yX10_judge (wsM yX10_judge cX10_judge 3 (some .int)) ({ frames := 1, cells := 0, slots := 0, locals := 25 } : Room) E M [.ref (wad E 70)] (some (.int res.1)) res.2 :=
  wc_of (cc := cX10_judge) (maxL := 3) (ret := (some .int)) (by decide) (Nat.le_of_ble_eq_true rfl) (fun _ _ _ _ _ _ _ _ B hW hl => pX10_judge B  hf hW va_S.rf hl)
end
theorem cdX10_lasts : yX10_lasts.cls = RX10 ∧ yX10_lasts.cls ≠ "java/lang/invoke/MethodHandle" ∧ yX10_lasts.cls ≠ "java/lang/invoke/VarHandle" ∧ (parseMethodDescriptor yX10_lasts.desc).map (fun d => d.parameters.length) = some 0 := by decide +kernel
section
variable {p : Program} {l : Launch} {e : Env} {s : State} {m : MethodId} {args : Array Value} {below : List Frame} {meth : Method} {c : Code} {E : wE}
set_option maxRecDepth 100000 in
set_option maxHeartbeats 4000000 in
theorem pX10_lasts_42 (B : wB E p s m args meth c cX10_lasts 3 RX10 (some .int)) {M : wMem} {y1 : Int32}  {res : Int32 × wMem}   (hf : fX10_lasts_42 M  y1 = some res) {H : Heap} {locs : List Loc} {ls : Array Slot} (hW : wH E M H) (hS : va_S (wA E) s.heap H locs) (hl : lv_has ls 3 [(0, .ref (wad E 70)), (1, .int y1)]) : W p l e ({ frames := 5, cells := 0, slots := 0, locals := 107 } : Room) s m args below meth c H locs 0 0 (MQ below (wQ E (some (.int res.1)) res.2) args s 0 0 (wA E)) (F0 m 42 ls []) := by
  unfold fX10_lasts_42 at hf
  obtain ⟨hx, hb, hr, hml, hown, hts, hlocks, hG, hV, hZ⟩ := id B
  refine lv_aload_n hx hb dX10_lasts_42 rfl (lv_at hl 0 rfl) ?_
  refine lv_iconst (v := 1) hx hb dX10_lasts_43 rfl ?_
  refine lv_iconst (v := 0) hx hb dX10_lasts_44 rfl ?_
  obtain ⟨M7, hc5, hf⟩ := wbind_e hf
  refine wc_V (As := [.int 1, .int 0]) (rest := []) hx hb hml hown hts hG hV hZ (wlt_9 (rfl : wkd 70 = 9)) (q := (RX10, TX10, 31)) (wen_9 (rfl : wkd 70 = 9)) rfl (cX10_passesAll_ok l E M 1 0 hc5) (cwV 2 hts gl_X10_119 rfl rfl rfl cdX10_passesAll ⟨Nat.le_of_ble_eq_true rfl, Nat.le_of_ble_eq_true rfl⟩) rfl hl.1 rfl (Nat.le_of_ble_eq_true rfl) dX10_lasts_45 ⟨Nat.zero_le _, Nat.zero_le _⟩ hW hS rfl (fun H locs hW hS => ?_)
  refine lv_iload_n hx hb dX10_lasts_48 rfl (lv_at hl 1 rfl) ?_
  have hres := Option.some.inj hf
  subst hres
  exact W.iret hx hb hr (wr_q hG hV hZ hW hS) hS.2.2 dX10_lasts_49
set_option maxRecDepth 100000 in
set_option maxHeartbeats 4000000 in
theorem pX10_lasts_31 (B : wB E p s m args meth c cX10_lasts 3 RX10 (some .int)) {M : wMem} {y1 : Int32} {y2 : Int32} {rec11 : (Int32 × Int32 × wMem → Option (Int32 × wMem))} {res : Int32 × wMem}  (hrec11 : ∀ (y1' : Int32) (y2' : Int32) (M' : wMem), rec11 (y1', y2', M') = some res → ∀ (H : Heap) (locs : List Loc) (ls : Array Slot), wH E M' H → va_S (wA E) s.heap H locs → lv_has ls 3 [(0, .ref (wad E 70)), (1, .int y1'), (2, .int y2')] → W p l e ({ frames := 5, cells := 0, slots := 0, locals := 107 } : Room) s m args below meth c H locs 0 0 (MQ below (wQ E (some (.int res.1)) res.2) args s 0 0 (wA E)) (F0 m 11 ls [])) (hf : fX10_lasts_31 M rec11 y1 y2 = some res) {H : Heap} {locs : List Loc} {ls : Array Slot} (hW : wH E M H) (hS : va_S (wA E) s.heap H locs) (hl : lv_has ls 3 [(0, .ref (wad E 70)), (1, .int y1), (2, .int y2)]) : W p l e ({ frames := 5, cells := 0, slots := 0, locals := 107 } : Room) s m args below meth c H locs 0 0 (MQ below (wQ E (some (.int res.1)) res.2) args s 0 0 (wA E)) (F0 m 31 ls []) := by
  unfold fX10_lasts_31 at hf
  obtain ⟨hx, hb, hr, hml, hown, hts, hlocks, hG, hV, hZ⟩ := id B
  refine lv_aload_n hx hb dX10_lasts_31 rfl (lv_at hl 0 rfl) ?_
  obtain ⟨r13, M14, hc12, hf⟩ := wbind_p hf
  refine wc_V (As := []) (rest := []) hx hb hml hown hts hG hV hZ (wlt_9 (rfl : wkd 70 = 9)) (q := (RX10, TX10, 31)) (wen_9 (rfl : wkd 70 = 9)) rfl (cX10_goesHour_ok l E M  hc12) (cwV 0 hts gl_X10_189 rfl rfl rfl cdX10_goesHour ⟨Nat.le_of_ble_eq_true rfl, Nat.le_of_ble_eq_true rfl⟩) rfl hl.1 rfl (Nat.le_of_ble_eq_true rfl) dX10_lasts_32 ⟨Nat.zero_le _, Nat.zero_le _⟩ hW hS rfl (fun H locs hW hS => ?_)
  refine lv_pop hx hb dX10_lasts_35 rfl ?_
  obtain ⟨x15, ex15, hf⟩ := wlet_e hf
  refine lv_iinc (v := x15) (lv' := [(2, .int x15), (0, .ref (wad E 70)), (1, .int y1)]) hx hb dX10_lasts_36 hl (k := 2) rfl (by rw [ex15]; rfl) (by decide) rfl (fun ls hl => ?_)
  refine lv_goto (tgt := 11) hx hb dX10_lasts_39 (by decide) ?_
  exact hrec11 y1 x15 M14 hf _ _ _ hW hS (lv_sub hl [1, 2, 0] rfl)
set_option maxRecDepth 100000 in
set_option maxHeartbeats 4000000 in
theorem pX10_lasts_11_b (B : wB E p s m args meth c cX10_lasts 3 RX10 (some .int)) {M : wMem} {y1 : Int32} {y2 : Int32}  {rec11 : (Int32 × Int32 × wMem → Option (Int32 × wMem))} {res : Int32 × wMem}   (hrec11 : ∀ (y1' : Int32) (y2' : Int32) (M' : wMem), rec11 (y1', y2', M') = some res → ∀ (H : Heap) (locs : List Loc) (ls : Array Slot), wH E M' H → va_S (wA E) s.heap H locs → lv_has ls 3 [(0, .ref (wad E 70)), (1, .int y1'), (2, .int y2')] → W p l e ({ frames := 5, cells := 0, slots := 0, locals := 107 } : Room) s m args below meth c H locs 0 0 (MQ below (wQ E (some (.int res.1)) res.2) args s 0 0 (wA E)) (F0 m 11 ls [])) (hf : fX10_lasts_11_b M  rec11 y1 y2 = some res) {H : Heap} {locs : List Loc} {ls : Array Slot} (hW : wH E M H) (hS : va_S (wA E) s.heap H locs) (hl : lv_has ls 3 [(0, .ref (wad E 70)), (1, .int y1), (2, .int y2)]) : W p l e ({ frames := 5, cells := 0, slots := 0, locals := 107 } : Room) s m args below meth c H locs 0 0 (MQ below (wQ E (some (.int res.1)) res.2) args s 0 0 (wA E)) (F0 m 11 ls []) := by
  unfold fX10_lasts_11_b at hf
  obtain ⟨hx, hb, hr, hml, hown, hts, hlocks, hG, hV, hZ⟩ := id B
  refine lv_iload_n hx hb dX10_lasts_11 rfl (lv_at hl 2 rfl) ?_
  refine lv_sipush (v := 400) hx hb dX10_lasts_12 (by decide) ?_
  rcases wif_e hf with ⟨hq4, hf⟩ | ⟨hq4, hf⟩
  · refine lv_icmp_gt (tgt := 42) hx hb dX10_lasts_15 (by decide) (fun _ => ?_) (fun h => absurd hq4 h)
    exact pX10_lasts_42 B   hf hW hS (lv_sub hl [0, 1] rfl)
  · refine lv_icmp_gt (tgt := 42) hx hb dX10_lasts_15 (by decide) (fun h => absurd h hq4) (fun _ => ?_)
    refine lv_iload_n hx hb dX10_lasts_18 rfl (lv_at hl 1 rfl) ?_
    rcases wif_e hf with ⟨hq8, hf⟩ | ⟨hq8, hf⟩
    · refine lv_if_ge (tgt := 42) hx hb dX10_lasts_19 (by decide) (fun _ => ?_) (fun h => absurd hq8 h)
      exact pX10_lasts_42 B   hf hW hS (lv_sub hl [0, 1] rfl)
    · refine lv_if_ge (tgt := 42) hx hb dX10_lasts_19 (by decide) (fun h => absurd h hq8) (fun _ => ?_)
      refine lv_aload_n hx hb dX10_lasts_22 rfl (lv_at hl 0 rfl) ?_
      obtain ⟨r10, hc9, hf⟩ := wbind_e hf
      refine wc_V (As := []) (rest := []) hx hb hml hown hts hG hV hZ (wlt_9 (rfl : wkd 70 = 9)) (q := (RX10, TX10, 31)) (wen_9 (rfl : wkd 70 = 9)) rfl (cX10_isLive_ok l E M  hc9) (cwV 0 hts gl_X10_155 rfl rfl rfl cdX10_isLive ⟨Nat.le_of_ble_eq_true rfl, Nat.le_of_ble_eq_true rfl⟩) rfl hl.1 rfl (Nat.le_of_ble_eq_true rfl) dX10_lasts_23 ⟨Nat.zero_le _, Nat.zero_le _⟩ hW hS rfl (fun H locs hW hS => ?_)
      rcases wif_e hf with ⟨hq11, hf⟩ | ⟨hq11, hf⟩
      · refine lv_if_ne (tgt := 31) hx hb dX10_lasts_26 (by decide) (fun h => absurd hq11 h) (fun _ => ?_)
        refine lv_iload_n hx hb dX10_lasts_29 rfl (lv_at hl 2 rfl) ?_
        refine lv_istore_n (lv' := [(1, .int y2), (0, .ref (wad E 70)), (2, .int y2)]) hx hb dX10_lasts_30 rfl hl (by decide) rfl (fun ls hl => ?_)
        exact pX10_lasts_31 B  hrec11 hf hW hS (lv_sub hl [1, 0, 2] rfl)
      · refine lv_if_ne (tgt := 31) hx hb dX10_lasts_26 (by decide) (fun _ => ?_) (fun h => absurd h hq11)
        exact pX10_lasts_31 B  hrec11 hf hW hS (lv_sub hl [0, 1, 2] rfl)
set_option maxRecDepth 100000 in
set_option maxHeartbeats 4000000 in
theorem pX10_lasts_11 (B : wB E p s m args meth c cX10_lasts 3 RX10 (some .int)) {M : wMem} {y1 : Int32} {y2 : Int32}  {res : Int32 × wMem}   (hf : fX10_lasts_11 M  y1 y2 = some res) {H : Heap} {locs : List Loc} {ls : Array Slot} (hW : wH E M H) (hS : va_S (wA E) s.heap H locs) (hl : lv_has ls 3 [(0, .ref (wad E 70)), (1, .int y1), (2, .int y2)]) : W p l e ({ frames := 5, cells := 0, slots := 0, locals := 107 } : Room) s m args below meth c H locs 0 0 (MQ below (wQ E (some (.int res.1)) res.2) args s 0 0 (wA E)) (F0 m 11 ls []) := by
  have key := wloop_W (b := (fun rec11 t => fX10_lasts_11_b t.2.2  rec11 t.1 t.2.1)) (P := fun t => ∀ (H : Heap) (locs : List Loc) (ls : Array Slot), wH E t.2.2 H → va_S (wA E) s.heap H locs → lv_has ls 3 [(0, .ref (wad E 70)), (1, .int t.1), (2, .int t.2.1)] → W p l e ({ frames := 5, cells := 0, slots := 0, locals := 107 } : Room) s m args below meth c H locs 0 0 (MQ below (wQ E (some (.int res.1)) res.2) args s 0 0 (wA E)) (F0 m 11 ls [])) (r := res) (fun rec hrec t hf H locs ls hW hS hl => pX10_lasts_11_b B   (fun v0 v1 v2 hf H locs ls hW hS hl => hrec (v0, v1, v2) hf H locs ls hW hS hl) hf hW hS hl)
  exact key wfuel (y1, y2, M) hf H locs ls hW hS hl
set_option maxRecDepth 100000 in
set_option maxHeartbeats 4000000 in
theorem pX10_lasts (B : wB E p s m args meth c cX10_lasts 3 RX10 (some .int)) {M : wMem}   {res : Int32 × wMem} (hf : fX10_lasts M  = some res) {H : Heap} {locs : List Loc} {ls : Array Slot} (hW : wH E M H) (hS : va_S (wA E) s.heap H locs) (hl : lv_has ls 3 [(0, .ref (wad E 70))]) : W p l e ({ frames := 5, cells := 0, slots := 0, locals := 107 } : Room) s m args below meth c H locs 0 0 (MQ below (wQ E (some (.int res.1)) res.2) args s 0 0 (wA E)) (F0 m 0 ls []) := by
  unfold fX10_lasts at hf
  obtain ⟨hx, hb, hr, hml, hown, hts, hlocks, hG, hV, hZ⟩ := id B
  refine lv_aload_n hx hb dX10_lasts_0 rfl (lv_at hl 0 rfl) ?_
  refine lv_iconst (v := 1) hx hb dX10_lasts_1 rfl ?_
  refine lv_iconst (v := 1) hx hb dX10_lasts_2 rfl ?_
  obtain ⟨M3, hc1, hf⟩ := wbind_e hf
  refine wc_V (As := [.int 1, .int 1]) (rest := []) hx hb hml hown hts hG hV hZ (wlt_9 (rfl : wkd 70 = 9)) (q := (RX10, TX10, 31)) (wen_9 (rfl : wkd 70 = 9)) rfl (cX10_passesAll_ok l E M 1 1 hc1) (cwV 2 hts gl_X10_119 rfl rfl rfl cdX10_passesAll ⟨Nat.le_of_ble_eq_true rfl, Nat.le_of_ble_eq_true rfl⟩) rfl hl.1 rfl (Nat.le_of_ble_eq_true rfl) dX10_lasts_3 ⟨Nat.zero_le _, Nat.zero_le _⟩ hW hS rfl (fun H locs hW hS => ?_)
  refine lv_bipush (v := (-9)) hx hb dX10_lasts_6 (by decide) ?_
  refine lv_istore_n (lv' := [(1, .int (-9)), (0, .ref (wad E 70))]) hx hb dX10_lasts_8 rfl hl (by decide) rfl (fun ls hl => ?_)
  refine lv_iconst (v := 0) hx hb dX10_lasts_9 rfl ?_
  refine lv_istore_n (lv' := [(2, .int 0), (1, .int (-9)), (0, .ref (wad E 70))]) hx hb dX10_lasts_10 rfl hl (by decide) rfl (fun ls hl => ?_)
  exact pX10_lasts_11 B   hf hW hS (lv_sub hl [2, 1, 0] rfl)
theorem cX10_lasts_ok (l : Launch) (E : wE) (M : wMem)  {res : Int32 × wMem} (hf : fX10_lasts M  = some res) : wMet l yX10_lasts (wsM yX10_lasts cX10_lasts 3 (some .int)) ({ frames := 5, cells := 0, slots := 0, locals := 107 } : Room) E M [.ref (wad E 70)] (some (.int res.1)) res.2 :=
  wc_of (cc := cX10_lasts) (maxL := 3) (ret := (some .int)) (by decide) (Nat.le_of_ble_eq_true rfl) (fun _ _ _ _ _ _ _ _ B hW hl => pX10_lasts B  hf hW va_S.rf hl)
end
theorem cdX10_findNext : yX10_findNext.cls = RX10 ∧ yX10_findNext.cls ≠ "java/lang/invoke/MethodHandle" ∧ yX10_findNext.cls ≠ "java/lang/invoke/VarHandle" ∧ (parseMethodDescriptor yX10_findNext.desc).map (fun d => d.parameters.length) = some 0 := by decide +kernel
section
variable {p : Program} {l : Launch} {e : Env} {s : State} {m : MethodId} {args : Array Value} {below : List Frame} {meth : Method} {c : Code} {E : wE}
set_option maxRecDepth 100000 in
set_option maxHeartbeats 4000000 in
theorem pX10_findNext_129 (B : wB E p s m args meth c cX10_findNext 4 RX10 none) {M : wMem}   {res : wMem}   (hf : fX10_findNext_129 M   = some res) {H : Heap} {locs : List Loc} {ls : Array Slot} (hW : wH E M H) (hS : va_S (wA E) s.heap H locs) (hl : lv_has ls 4 [(0, .ref (wad E 70))]) : W p l e ({ frames := 5, cells := 0, slots := 0, locals := 107 } : Room) s m args below meth c H locs 0 0 (MQ below (wQ E none res) args s 0 0 (wA E)) (F0 m 129 ls []) := by
  unfold fX10_findNext_129 at hf
  obtain ⟨hx, hb, hr, hml, hown, hts, hlocks, hG, hV, hZ⟩ := id B
  refine lv_aload_n hx hb dX10_findNext_129 rfl (lv_at hl 0 rfl) ?_
  refine lv_iconst (v := 1) hx hb dX10_findNext_130 rfl ?_
  refine lv_iconst (v := 0) hx hb dX10_findNext_131 rfl ?_
  obtain ⟨M10, hc8, hf⟩ := wbind_e hf
  refine wc_V (As := [.int 1, .int 0]) (rest := []) hx hb hml hown hts hG hV hZ (wlt_9 (rfl : wkd 70 = 9)) (q := (RX10, TX10, 31)) (wen_9 (rfl : wkd 70 = 9)) rfl (cX10_passesAll_ok l E M 1 0 hc8) (cwV 2 hts gl_X10_119 rfl rfl rfl cdX10_passesAll ⟨Nat.le_of_ble_eq_true rfl, Nat.le_of_ble_eq_true rfl⟩) rfl hl.1 rfl (Nat.le_of_ble_eq_true rfl) dX10_findNext_132 ⟨Nat.zero_le _, Nat.zero_le _⟩ hW hS rfl (fun H locs hW hS => ?_)
  have hres := Option.some.inj hf
  subst hres
  exact W.vret hx hb hr (wr_q hG hV hZ hW hS) hS.2.2 dX10_findNext_135
set_option maxRecDepth 100000 in
set_option maxHeartbeats 4000000 in
theorem pX10_findNext_117 (B : wB E p s m args meth c cX10_findNext 4 RX10 none) {M : wMem} {y1 : Int32} {y2 : Int32} {y3 : Int32} {rec57 : (Int32 × wMem → Option (wMem))} {rec83 : (Int32 × wMem → Option (wMem))} {res : wMem}  (hrec57 : ∀ (y2' : Int32) (M' : wMem), rec57 (y2', M') = some res → ∀ (H : Heap) (locs : List Loc) (ls : Array Slot), wH E M' H → va_S (wA E) s.heap H locs → lv_has ls 4 [(0, .ref (wad E 70)), (1, .int y1), (2, .int y2')] → W p l e ({ frames := 5, cells := 0, slots := 0, locals := 107 } : Room) s m args below meth c H locs 0 0 (MQ below (wQ E none res) args s 0 0 (wA E)) (F0 m 57 ls [])) (hrec83 : ∀ (y3' : Int32) (M' : wMem), rec83 (y3', M') = some res → ∀ (H : Heap) (locs : List Loc) (ls : Array Slot), wH E M' H → va_S (wA E) s.heap H locs → lv_has ls 4 [(0, .ref (wad E 70)), (1, .int y1), (2, .int y2), (3, .int y3')] → W p l e ({ frames := 5, cells := 0, slots := 0, locals := 107 } : Room) s m args below meth c H locs 0 0 (MQ below (wQ E none res) args s 0 0 (wA E)) (F0 m 83 ls [])) (hf : fX10_findNext_117 M rec57 rec83 y1 y2 y3 = some res) {H : Heap} {locs : List Loc} {ls : Array Slot} (hW : wH E M H) (hS : va_S (wA E) s.heap H locs) (hl : lv_has ls 4 [(0, .ref (wad E 70)), (1, .int y1), (2, .int y2), (3, .int y3)]) : W p l e ({ frames := 5, cells := 0, slots := 0, locals := 107 } : Room) s m args below meth c H locs 0 0 (MQ below (wQ E none res) args s 0 0 (wA E)) (F0 m 117 ls []) := by
  unfold fX10_findNext_117 at hf
  obtain ⟨hx, hb, hr, hml, hown, hts, hlocks, hG, hV, hZ⟩ := id B
  obtain ⟨x19, ex19, hf⟩ := wlet_e hf
  refine lv_iinc (v := x19) (lv' := [(3, .int x19), (0, .ref (wad E 70)), (1, .int y1), (2, .int y2)]) hx hb dX10_findNext_117 hl (k := 3) rfl (by rw [ex19]; rfl) (by decide) rfl (fun ls hl => ?_)
  refine lv_goto (tgt := 83) hx hb dX10_findNext_120 (by decide) ?_
  exact hrec83 x19 M hf _ _ _ hW hS (lv_sub hl [1, 2, 3, 0] rfl)
set_option maxRecDepth 100000 in
set_option maxHeartbeats 4000000 in
theorem pX10_findNext_83_b (B : wB E p s m args meth c cX10_findNext 4 RX10 none) {M : wMem} {y1 : Int32} {y2 : Int32} {y3 : Int32} {rec57 : (Int32 × wMem → Option (wMem))} {rec83 : (Int32 × wMem → Option (wMem))} {res : wMem}  (hrec57 : ∀ (y2' : Int32) (M' : wMem), rec57 (y2', M') = some res → ∀ (H : Heap) (locs : List Loc) (ls : Array Slot), wH E M' H → va_S (wA E) s.heap H locs → lv_has ls 4 [(0, .ref (wad E 70)), (1, .int y1), (2, .int y2')] → W p l e ({ frames := 5, cells := 0, slots := 0, locals := 107 } : Room) s m args below meth c H locs 0 0 (MQ below (wQ E none res) args s 0 0 (wA E)) (F0 m 57 ls [])) (hrec83 : ∀ (y3' : Int32) (M' : wMem), rec83 (y3', M') = some res → ∀ (H : Heap) (locs : List Loc) (ls : Array Slot), wH E M' H → va_S (wA E) s.heap H locs → lv_has ls 4 [(0, .ref (wad E 70)), (1, .int y1), (2, .int y2), (3, .int y3')] → W p l e ({ frames := 5, cells := 0, slots := 0, locals := 107 } : Room) s m args below meth c H locs 0 0 (MQ below (wQ E none res) args s 0 0 (wA E)) (F0 m 83 ls [])) (hf : fX10_findNext_83_b M rec57 rec83 y1 y2 y3 = some res) {H : Heap} {locs : List Loc} {ls : Array Slot} (hW : wH E M H) (hS : va_S (wA E) s.heap H locs) (hl : lv_has ls 4 [(0, .ref (wad E 70)), (1, .int y1), (2, .int y2), (3, .int y3)]) : W p l e ({ frames := 5, cells := 0, slots := 0, locals := 107 } : Room) s m args below meth c H locs 0 0 (MQ below (wQ E none res) args s 0 0 (wA E)) (F0 m 83 ls []) := by
  unfold fX10_findNext_83_b at hf
  obtain ⟨hx, hb, hr, hml, hown, hts, hlocks, hG, hV, hZ⟩ := id B
  refine lv_iload_n hx hb dX10_findNext_83 rfl (lv_at hl 3 rfl) ?_
  rcases wif_e hf with ⟨hq16, hf⟩ | ⟨hq16, hf⟩
  · refine lv_if_lt (tgt := 123) hx hb dX10_findNext_84 (by decide) (fun _ => ?_) (fun h => absurd hq16 h)
    obtain ⟨x17, ex17, hf⟩ := wlet_e hf
    refine lv_iinc (v := x17) (lv' := [(2, .int x17), (0, .ref (wad E 70)), (1, .int y1), (3, .int y3)]) hx hb dX10_findNext_123 hl (k := 2) rfl (by rw [ex17]; rfl) (by decide) rfl (fun ls hl => ?_)
    refine lv_goto (tgt := 57) hx hb dX10_findNext_126 (by decide) ?_
    exact hrec57 x17 M hf _ _ _ hW hS (lv_sub hl [1, 2, 0] rfl)
  · refine lv_if_lt (tgt := 123) hx hb dX10_findNext_84 (by decide) (fun h => absurd h hq16) (fun _ => ?_)
    refine lv_iload_n hx hb dX10_findNext_87 rfl (lv_at hl 1 rfl) ?_
    refine lv_iload_n hx hb dX10_findNext_88 rfl (lv_at hl 3 rfl) ?_
    refine lv_ishr hx hb dX10_findNext_89 ?_
    refine lv_iconst (v := 1) hx hb dX10_findNext_90 rfl ?_
    refine lv_iand hx hb dX10_findNext_91 ?_
    rcases wif_e hf with ⟨hq18, hf⟩ | ⟨hq18, hf⟩
    · refine lv_if_eq (tgt := 117) hx hb dX10_findNext_92 (by decide) (fun _ => ?_) (fun h => absurd hq18 h)
      exact pX10_findNext_117 B  hrec57 hrec83 hf hW hS (lv_sub hl [0, 1, 2, 3] rfl)
    · refine lv_if_eq (tgt := 117) hx hb dX10_findNext_92 (by decide) (fun h => absurd h hq18) (fun _ => ?_)
      refine lv_aload_n hx hb dX10_findNext_95 rfl (lv_at hl 0 rfl) ?_
      refine wm_get hx hb hts wu_X10 hown hV hW (wlt_9 (rfl : wkd 70 = 9)) (wen_9 (rfl : wkd 70 = 9)) (C := RX10) (T := TX10) (N := 31) rfl 5 (by decide) (hts _ wA_719) rfl dX10_findNext_96 ?_
      refine lv_iload_n hx hb dX10_findNext_99 rfl (lv_at hl 3 rfl) ?_
      obtain ⟨hi20, hf⟩ := wgi_e hf
      refine wm_iald hx hb hV hW (rfl : wkd 76 = 21) (n := 12) rfl hi20 dX10_findNext_100 ?_
      rcases wif_e hf with ⟨hq21, hf⟩ | ⟨hq21, hf⟩
      · refine lv_if_ne (tgt := 107) hx hb dX10_findNext_101 (by decide) (fun h => absurd hq21 h) (fun _ => ?_)
        refine lv_goto (tgt := 117) hx hb dX10_findNext_104 (by decide) ?_
        exact pX10_findNext_117 B  hrec57 hrec83 hf hW hS (lv_sub hl [0, 1, 2, 3] rfl)
      · refine lv_if_ne (tgt := 107) hx hb dX10_findNext_101 (by decide) (fun _ => ?_) (fun h => absurd h hq21)
        refine lv_aload_n hx hb dX10_findNext_107 rfl (lv_at hl 0 rfl) ?_
        refine lv_iload_n hx hb dX10_findNext_108 rfl (lv_at hl 3 rfl) ?_
        refine wm_put hx hb hts wu_X10 tyX10 tyX10_ok nmX10 hown hG hV hW hS (wlt_9 (rfl : wkd 70 = 9)) (wen_9 (rfl : wkd 70 = 9)) (C := RX10) (T := TX10) (N := 31) rfl 29 (by decide) (hts _ wA_743) rfl .int _ (tyX10_ok 29 (by decide)) rfl rfl (Nat.le_of_ble_eq_true rfl) (wpt_9_29 (rfl : wkd 70 = 9)) dX10_findNext_109 (fun H locs hW hS => ?_)
        obtain ⟨M22, hW, hf⟩ := wlet_M hW hf
        refine lv_aload_n hx hb dX10_findNext_112 rfl (lv_at hl 0 rfl) ?_
        refine lv_iload_n hx hb dX10_findNext_113 rfl (lv_at hl 2 rfl) ?_
        refine wm_put hx hb hts wu_X10 tyX10 tyX10_ok nmX10 hown hG hV hW hS (wlt_9 (rfl : wkd 70 = 9)) (wen_9 (rfl : wkd 70 = 9)) (C := RX10) (T := TX10) (N := 31) rfl 30 (by decide) (hts _ wA_744) rfl .int _ (tyX10_ok 30 (by decide)) rfl rfl (Nat.le_of_ble_eq_true rfl) (wpt_9_30 (rfl : wkd 70 = 9)) dX10_findNext_114 (fun H locs hW hS => ?_)
        obtain ⟨M23, hW, hf⟩ := wlet_M hW hf
        exact pX10_findNext_117 B  hrec57 hrec83 hf hW hS (lv_sub hl [0, 1, 2, 3] rfl)
set_option maxRecDepth 100000 in
set_option maxHeartbeats 4000000 in
theorem pX10_findNext_83 (B : wB E p s m args meth c cX10_findNext 4 RX10 none) {M : wMem} {y1 : Int32} {y2 : Int32} {y3 : Int32} {rec57 : (Int32 × wMem → Option (wMem))} {res : wMem}  (hrec57 : ∀ (y2' : Int32) (M' : wMem), rec57 (y2', M') = some res → ∀ (H : Heap) (locs : List Loc) (ls : Array Slot), wH E M' H → va_S (wA E) s.heap H locs → lv_has ls 4 [(0, .ref (wad E 70)), (1, .int y1), (2, .int y2')] → W p l e ({ frames := 5, cells := 0, slots := 0, locals := 107 } : Room) s m args below meth c H locs 0 0 (MQ below (wQ E none res) args s 0 0 (wA E)) (F0 m 57 ls [])) (hf : fX10_findNext_83 M rec57 y1 y2 y3 = some res) {H : Heap} {locs : List Loc} {ls : Array Slot} (hW : wH E M H) (hS : va_S (wA E) s.heap H locs) (hl : lv_has ls 4 [(0, .ref (wad E 70)), (1, .int y1), (2, .int y2), (3, .int y3)]) : W p l e ({ frames := 5, cells := 0, slots := 0, locals := 107 } : Room) s m args below meth c H locs 0 0 (MQ below (wQ E none res) args s 0 0 (wA E)) (F0 m 83 ls []) := by
  have key := wloop_W (b := (fun rec83 t => fX10_findNext_83_b t.2 rec57 rec83 y1 y2 t.1)) (P := fun t => ∀ (H : Heap) (locs : List Loc) (ls : Array Slot), wH E t.2 H → va_S (wA E) s.heap H locs → lv_has ls 4 [(0, .ref (wad E 70)), (1, .int y1), (2, .int y2), (3, .int t.1)] → W p l e ({ frames := 5, cells := 0, slots := 0, locals := 107 } : Room) s m args below meth c H locs 0 0 (MQ below (wQ E none res) args s 0 0 (wA E)) (F0 m 83 ls [])) (r := res) (fun rec hrec t hf H locs ls hW hS hl => pX10_findNext_83_b B  hrec57 (fun v0 v1 hf H locs ls hW hS hl => hrec (v0, v1) hf H locs ls hW hS hl) hf hW hS hl)
  exact key wfuel (y3, M) hf H locs ls hW hS hl
set_option maxRecDepth 100000 in
set_option maxHeartbeats 4000000 in
theorem pX10_findNext_57_b (B : wB E p s m args meth c cX10_findNext 4 RX10 none) {M : wMem} {y1 : Int32} {y2 : Int32}  {rec57 : (Int32 × wMem → Option (wMem))} {res : wMem}   (hrec57 : ∀ (y2' : Int32) (M' : wMem), rec57 (y2', M') = some res → ∀ (H : Heap) (locs : List Loc) (ls : Array Slot), wH E M' H → va_S (wA E) s.heap H locs → lv_has ls 4 [(0, .ref (wad E 70)), (1, .int y1), (2, .int y2')] → W p l e ({ frames := 5, cells := 0, slots := 0, locals := 107 } : Room) s m args below meth c H locs 0 0 (MQ below (wQ E none res) args s 0 0 (wA E)) (F0 m 57 ls [])) (hf : fX10_findNext_57_b M  rec57 y1 y2 = some res) {H : Heap} {locs : List Loc} {ls : Array Slot} (hW : wH E M H) (hS : va_S (wA E) s.heap H locs) (hl : lv_has ls 4 [(0, .ref (wad E 70)), (1, .int y1), (2, .int y2)]) : W p l e ({ frames := 5, cells := 0, slots := 0, locals := 107 } : Room) s m args below meth c H locs 0 0 (MQ below (wQ E none res) args s 0 0 (wA E)) (F0 m 57 ls []) := by
  unfold fX10_findNext_57_b at hf
  obtain ⟨hx, hb, hr, hml, hown, hts, hlocks, hG, hV, hZ⟩ := id B
  refine lv_iload_n hx hb dX10_findNext_57 rfl (lv_at hl 2 rfl) ?_
  refine lv_sipush (v := 400) hx hb dX10_findNext_58 (by decide) ?_
  rcases wif_e hf with ⟨hq7, hf⟩ | ⟨hq7, hf⟩
  · refine lv_icmp_gt (tgt := 129) hx hb dX10_findNext_61 (by decide) (fun _ => ?_) (fun h => absurd hq7 h)
    exact pX10_findNext_129 B   hf hW hS (lv_sub hl [0] rfl)
  · refine lv_icmp_gt (tgt := 129) hx hb dX10_findNext_61 (by decide) (fun h => absurd h hq7) (fun _ => ?_)
    refine lv_aload_n hx hb dX10_findNext_64 rfl (lv_at hl 0 rfl) ?_
    refine wm_get hx hb hts wu_X10 hown hV hW (wlt_9 (rfl : wkd 70 = 9)) (wen_9 (rfl : wkd 70 = 9)) (C := RX10) (T := TX10) (N := 31) rfl 29 (by decide) (hts _ wA_743) rfl dX10_findNext_65 ?_
    rcases wif_e hf with ⟨hq11, hf⟩ | ⟨hq11, hf⟩
    · refine lv_if_ge (tgt := 129) hx hb dX10_findNext_68 (by decide) (fun _ => ?_) (fun h => absurd hq11 h)
      exact pX10_findNext_129 B   hf hW hS (lv_sub hl [0] rfl)
    · refine lv_if_ge (tgt := 129) hx hb dX10_findNext_68 (by decide) (fun h => absurd h hq11) (fun _ => ?_)
      refine lv_aload_n hx hb dX10_findNext_71 rfl (lv_at hl 0 rfl) ?_
      obtain ⟨r13, M14, hc12, hf⟩ := wbind_p hf
      refine wc_V (As := []) (rest := []) hx hb hml hown hts hG hV hZ (wlt_9 (rfl : wkd 70 = 9)) (q := (RX10, TX10, 31)) (wen_9 (rfl : wkd 70 = 9)) rfl (cX10_goesHour_ok l E M  hc12) (cwV 0 hts gl_X10_189 rfl rfl rfl cdX10_goesHour ⟨Nat.le_of_ble_eq_true rfl, Nat.le_of_ble_eq_true rfl⟩) rfl hl.1 rfl (Nat.le_of_ble_eq_true rfl) dX10_findNext_72 ⟨Nat.zero_le _, Nat.zero_le _⟩ hW hS rfl (fun H locs hW hS => ?_)
      refine lv_pop hx hb dX10_findNext_75 rfl ?_
      refine lv_aload_n hx hb dX10_findNext_76 rfl (lv_at hl 0 rfl) ?_
      refine wm_get hx hb hts wu_X10 hown hV hW (wlt_9 (rfl : wkd 70 = 9)) (wen_9 (rfl : wkd 70 = 9)) (C := RX10) (T := TX10) (N := 31) rfl 7 (by decide) (hts _ wA_721) rfl dX10_findNext_77 ?_
      refine lv_iconst (v := 1) hx hb dX10_findNext_80 rfl ?_
      refine lv_isub hx hb dX10_findNext_81 ?_
      refine lv_topi (fun x15 ex15 => ?_)
      replace hf := wlet_y ex15 hf
      refine lv_istore_n (lv' := [(3, .int x15), (0, .ref (wad E 70)), (1, .int y1), (2, .int y2)]) hx hb dX10_findNext_82 rfl hl (by decide) rfl (fun ls hl => ?_)
      exact pX10_findNext_83 B  hrec57 hf hW hS (lv_sub hl [1, 2, 3, 0] rfl)
set_option maxRecDepth 100000 in
set_option maxHeartbeats 4000000 in
theorem pX10_findNext_57 (B : wB E p s m args meth c cX10_findNext 4 RX10 none) {M : wMem} {y1 : Int32} {y2 : Int32}  {res : wMem}   (hf : fX10_findNext_57 M  y1 y2 = some res) {H : Heap} {locs : List Loc} {ls : Array Slot} (hW : wH E M H) (hS : va_S (wA E) s.heap H locs) (hl : lv_has ls 4 [(0, .ref (wad E 70)), (1, .int y1), (2, .int y2)]) : W p l e ({ frames := 5, cells := 0, slots := 0, locals := 107 } : Room) s m args below meth c H locs 0 0 (MQ below (wQ E none res) args s 0 0 (wA E)) (F0 m 57 ls []) := by
  have key := wloop_W (b := (fun rec57 t => fX10_findNext_57_b t.2  rec57 y1 t.1)) (P := fun t => ∀ (H : Heap) (locs : List Loc) (ls : Array Slot), wH E t.2 H → va_S (wA E) s.heap H locs → lv_has ls 4 [(0, .ref (wad E 70)), (1, .int y1), (2, .int t.1)] → W p l e ({ frames := 5, cells := 0, slots := 0, locals := 107 } : Room) s m args below meth c H locs 0 0 (MQ below (wQ E none res) args s 0 0 (wA E)) (F0 m 57 ls [])) (r := res) (fun rec hrec t hf H locs ls hW hS hl => pX10_findNext_57_b B   (fun v0 v1 hf H locs ls hW hS hl => hrec (v0, v1) hf H locs ls hW hS hl) hf hW hS hl)
  exact key wfuel (y2, M) hf H locs ls hW hS hl
set_option maxRecDepth 100000 in
set_option maxHeartbeats 4000000 in
theorem pX10_findNext_47 (B : wB E p s m args meth c cX10_findNext 4 RX10 none) {M : wMem} {y2 : Int32} {z0 : Int32} {z1 : Int32} {rec22 : (Int32 × Int32 → Option (wMem))} {res : wMem}  (hrec22 : ∀ (y1' : Int32) (y2' : Int32), rec22 (y1', y2') = some res → ∀ (H : Heap) (locs : List Loc) (ls : Array Slot), wH E M H → va_S (wA E) s.heap H locs → lv_has ls 4 [(0, .ref (wad E 70)), (1, .int y1'), (2, .int y2')] → W p l e ({ frames := 5, cells := 0, slots := 0, locals := 107 } : Room) s m args below meth c H locs 0 0 (MQ below (wQ E none res) args s 0 0 (wA E)) (F0 m 22 ls [])) (hf : fX10_findNext_47 M rec22 y2 z0 z1 = some res) {H : Heap} {locs : List Loc} {ls : Array Slot} (hW : wH E M H) (hS : va_S (wA E) s.heap H locs) (hl : lv_has ls 4 [(0, .ref (wad E 70)), (2, .int y2)]) : W p l e ({ frames := 5, cells := 0, slots := 0, locals := 107 } : Room) s m args below meth c H locs 0 0 (MQ below (wQ E none res) args s 0 0 (wA E)) (F0 m 47 ls [.int z1, .int z0]) := by
  unfold fX10_findNext_47 at hf
  obtain ⟨hx, hb, hr, hml, hown, hts, hlocks, hG, hV, hZ⟩ := id B
  refine lv_ior hx hb dX10_findNext_47 ?_
  refine lv_topi (fun x26 ex26 => ?_)
  replace hf := wlet_y ex26 hf
  refine lv_istore_n (lv' := [(1, .int x26), (0, .ref (wad E 70)), (2, .int y2)]) hx hb dX10_findNext_48 rfl hl (by decide) rfl (fun ls hl => ?_)
  obtain ⟨x27, ex27, hf⟩ := wlet_e hf
  refine lv_iinc (v := x27) (lv' := [(2, .int x27), (1, .int x26), (0, .ref (wad E 70))]) hx hb dX10_findNext_49 hl (k := 2) rfl (by rw [ex27]; rfl) (by decide) rfl (fun ls hl => ?_)
  refine lv_goto (tgt := 22) hx hb dX10_findNext_52 (by decide) ?_
  exact hrec22 x26 x27 hf _ _ _ hW hS (lv_sub hl [2, 1, 0] rfl)
set_option maxRecDepth 100000 in
set_option maxHeartbeats 4000000 in
theorem pX10_findNext_22_b (B : wB E p s m args meth c cX10_findNext 4 RX10 none) {M : wMem} {y1 : Int32} {y2 : Int32}  {rec22 : (Int32 × Int32 → Option (wMem))} {res : wMem}   (hrec22 : ∀ (y1' : Int32) (y2' : Int32), rec22 (y1', y2') = some res → ∀ (H : Heap) (locs : List Loc) (ls : Array Slot), wH E M H → va_S (wA E) s.heap H locs → lv_has ls 4 [(0, .ref (wad E 70)), (1, .int y1'), (2, .int y2')] → W p l e ({ frames := 5, cells := 0, slots := 0, locals := 107 } : Room) s m args below meth c H locs 0 0 (MQ below (wQ E none res) args s 0 0 (wA E)) (F0 m 22 ls [])) (hf : fX10_findNext_22_b M  rec22 y1 y2 = some res) {H : Heap} {locs : List Loc} {ls : Array Slot} (hW : wH E M H) (hS : va_S (wA E) s.heap H locs) (hl : lv_has ls 4 [(0, .ref (wad E 70)), (1, .int y1), (2, .int y2)]) : W p l e ({ frames := 5, cells := 0, slots := 0, locals := 107 } : Room) s m args below meth c H locs 0 0 (MQ below (wQ E none res) args s 0 0 (wA E)) (F0 m 22 ls []) := by
  unfold fX10_findNext_22_b at hf
  obtain ⟨hx, hb, hr, hml, hown, hts, hlocks, hG, hV, hZ⟩ := id B
  refine lv_iload_n hx hb dX10_findNext_22 rfl (lv_at hl 2 rfl) ?_
  refine lv_aload_n hx hb dX10_findNext_23 rfl (lv_at hl 0 rfl) ?_
  refine wm_get hx hb hts wu_X10 hown hV hW (wlt_9 (rfl : wkd 70 = 9)) (wen_9 (rfl : wkd 70 = 9)) (C := RX10) (T := TX10) (N := 31) rfl 7 (by decide) (hts _ wA_721) rfl dX10_findNext_24 ?_
  rcases wif_e hf with ⟨hq6, hf⟩ | ⟨hq6, hf⟩
  · refine lv_icmp_ge (tgt := 55) hx hb dX10_findNext_27 (by decide) (fun _ => ?_) (fun h => absurd hq6 h)
    refine lv_iconst (v := 1) hx hb dX10_findNext_55 rfl ?_
    refine lv_istore_n (lv' := [(2, .int 1), (0, .ref (wad E 70)), (1, .int y1)]) hx hb dX10_findNext_56 rfl hl (by decide) rfl (fun ls hl => ?_)
    exact pX10_findNext_57 B   hf hW hS (lv_sub hl [1, 2, 0] rfl)
  · refine lv_icmp_ge (tgt := 55) hx hb dX10_findNext_27 (by decide) (fun h => absurd h hq6) (fun _ => ?_)
    refine lv_iload_n hx hb dX10_findNext_30 rfl (lv_at hl 1 rfl) ?_
    refine lv_aload_n hx hb dX10_findNext_31 rfl (lv_at hl 0 rfl) ?_
    refine wm_get hx hb hts wu_X10 hown hV hW (wlt_9 (rfl : wkd 70 = 9)) (wen_9 (rfl : wkd 70 = 9)) (C := RX10) (T := TX10) (N := 31) rfl 5 (by decide) (hts _ wA_719) rfl dX10_findNext_32 ?_
    refine lv_iload_n hx hb dX10_findNext_35 rfl (lv_at hl 2 rfl) ?_
    obtain ⟨hi24, hf⟩ := wgi_e hf
    refine wm_iald hx hb hV hW (rfl : wkd 76 = 21) (n := 12) rfl hi24 dX10_findNext_36 ?_
    rcases wif_e hf with ⟨hq25, hf⟩ | ⟨hq25, hf⟩
    · refine lv_if_ne (tgt := 46) hx hb dX10_findNext_37 (by decide) (fun h => absurd hq25 h) (fun _ => ?_)
      refine lv_iconst (v := 1) hx hb dX10_findNext_40 rfl ?_
      refine lv_iload_n hx hb dX10_findNext_41 rfl (lv_at hl 2 rfl) ?_
      refine lv_ishl hx hb dX10_findNext_42 ?_
      refine lv_goto (tgt := 47) hx hb dX10_findNext_43 (by decide) ?_
      exact pX10_findNext_47 B  hrec22 hf hW hS (lv_sub hl [0, 2] rfl)
    · refine lv_if_ne (tgt := 46) hx hb dX10_findNext_37 (by decide) (fun _ => ?_) (fun h => absurd h hq25)
      refine lv_iconst (v := 0) hx hb dX10_findNext_46 rfl ?_
      exact pX10_findNext_47 B  hrec22 hf hW hS (lv_sub hl [0, 2] rfl)
set_option maxRecDepth 100000 in
set_option maxHeartbeats 4000000 in
theorem pX10_findNext_22 (B : wB E p s m args meth c cX10_findNext 4 RX10 none) {M : wMem} {y1 : Int32} {y2 : Int32}  {res : wMem}   (hf : fX10_findNext_22 M  y1 y2 = some res) {H : Heap} {locs : List Loc} {ls : Array Slot} (hW : wH E M H) (hS : va_S (wA E) s.heap H locs) (hl : lv_has ls 4 [(0, .ref (wad E 70)), (1, .int y1), (2, .int y2)]) : W p l e ({ frames := 5, cells := 0, slots := 0, locals := 107 } : Room) s m args below meth c H locs 0 0 (MQ below (wQ E none res) args s 0 0 (wA E)) (F0 m 22 ls []) := by
  have key := wloop_W (b := (fun rec22 t => fX10_findNext_22_b M  rec22 t.1 t.2)) (P := fun t => ∀ (H : Heap) (locs : List Loc) (ls : Array Slot), wH E M H → va_S (wA E) s.heap H locs → lv_has ls 4 [(0, .ref (wad E 70)), (1, .int t.1), (2, .int t.2)] → W p l e ({ frames := 5, cells := 0, slots := 0, locals := 107 } : Room) s m args below meth c H locs 0 0 (MQ below (wQ E none res) args s 0 0 (wA E)) (F0 m 22 ls [])) (r := res) (fun rec hrec t hf H locs ls hW hS hl => pX10_findNext_22_b B   (fun v0 v1 hf H locs ls hW hS hl => hrec (v0, v1) hf H locs ls hW hS hl) hf hW hS hl)
  exact key wfuel (y1, y2) hf H locs ls hW hS hl
set_option maxRecDepth 100000 in
set_option maxHeartbeats 4000000 in
theorem pX10_findNext (B : wB E p s m args meth c cX10_findNext 4 RX10 none) {M : wMem}   {res : wMem} (hf : fX10_findNext M  = some res) {H : Heap} {locs : List Loc} {ls : Array Slot} (hW : wH E M H) (hS : va_S (wA E) s.heap H locs) (hl : lv_has ls 4 [(0, .ref (wad E 70))]) : W p l e ({ frames := 5, cells := 0, slots := 0, locals := 107 } : Room) s m args below meth c H locs 0 0 (MQ below (wQ E none res) args s 0 0 (wA E)) (F0 m 0 ls []) := by
  unfold fX10_findNext at hf
  obtain ⟨hx, hb, hr, hml, hown, hts, hlocks, hG, hV, hZ⟩ := id B
  refine lv_aload_n hx hb dX10_findNext_0 rfl (lv_at hl 0 rfl) ?_
  refine lv_bipush (v := (-9)) hx hb dX10_findNext_1 (by decide) ?_
  refine wm_put hx hb hts wu_X10 tyX10 tyX10_ok nmX10 hown hG hV hW hS (wlt_9 (rfl : wkd 70 = 9)) (wen_9 (rfl : wkd 70 = 9)) (C := RX10) (T := TX10) (N := 31) rfl 29 (by decide) (hts _ wA_743) rfl .int _ (tyX10_ok 29 (by decide)) rfl rfl (Nat.le_of_ble_eq_true rfl) (wpt_9_29 (rfl : wkd 70 = 9)) dX10_findNext_3 (fun H locs hW hS => ?_)
  obtain ⟨M1, hW, hf⟩ := wlet_M hW hf
  refine lv_aload_n hx hb dX10_findNext_6 rfl (lv_at hl 0 rfl) ?_
  refine lv_bipush (v := (-9)) hx hb dX10_findNext_7 (by decide) ?_
  refine wm_put hx hb hts wu_X10 tyX10 tyX10_ok nmX10 hown hG hV hW hS (wlt_9 (rfl : wkd 70 = 9)) (wen_9 (rfl : wkd 70 = 9)) (C := RX10) (T := TX10) (N := 31) rfl 30 (by decide) (hts _ wA_744) rfl .int _ (tyX10_ok 30 (by decide)) rfl rfl (Nat.le_of_ble_eq_true rfl) (wpt_9_30 (rfl : wkd 70 = 9)) dX10_findNext_9 (fun H locs hW hS => ?_)
  obtain ⟨M2, hW, hf⟩ := wlet_M hW hf
  refine lv_aload_n hx hb dX10_findNext_12 rfl (lv_at hl 0 rfl) ?_
  refine lv_iconst (v := 1) hx hb dX10_findNext_13 rfl ?_
  refine lv_iconst (v := 1) hx hb dX10_findNext_14 rfl ?_
  obtain ⟨M5, hc3, hf⟩ := wbind_e hf
  refine wc_V (As := [.int 1, .int 1]) (rest := []) hx hb hml hown hts hG hV hZ (wlt_9 (rfl : wkd 70 = 9)) (q := (RX10, TX10, 31)) (wen_9 (rfl : wkd 70 = 9)) rfl (cX10_passesAll_ok l E M2 1 1 hc3) (cwV 2 hts gl_X10_119 rfl rfl rfl cdX10_passesAll ⟨Nat.le_of_ble_eq_true rfl, Nat.le_of_ble_eq_true rfl⟩) rfl hl.1 rfl (Nat.le_of_ble_eq_true rfl) dX10_findNext_15 ⟨Nat.zero_le _, Nat.zero_le _⟩ hW hS rfl (fun H locs hW hS => ?_)
  refine lv_iconst (v := 0) hx hb dX10_findNext_18 rfl ?_
  refine lv_istore_n (lv' := [(1, .int 0), (0, .ref (wad E 70))]) hx hb dX10_findNext_19 rfl hl (by decide) rfl (fun ls hl => ?_)
  refine lv_iconst (v := 0) hx hb dX10_findNext_20 rfl ?_
  refine lv_istore_n (lv' := [(2, .int 0), (1, .int 0), (0, .ref (wad E 70))]) hx hb dX10_findNext_21 rfl hl (by decide) rfl (fun ls hl => ?_)
  exact pX10_findNext_22 B   hf hW hS (lv_sub hl [2, 1, 0] rfl)
theorem cX10_findNext_ok (l : Launch) (E : wE) (M : wMem)  {res : wMem} (hf : fX10_findNext M  = some res) : wMet l yX10_findNext (wsM yX10_findNext cX10_findNext 4 none) ({ frames := 5, cells := 0, slots := 0, locals := 107 } : Room) E M [.ref (wad E 70)] none res :=
  wc_of (cc := cX10_findNext) (maxL := 4) (ret := none) (by decide) (Nat.le_of_ble_eq_true rfl) (fun _ _ _ _ _ _ _ _ B hW hl => pX10_findNext B  hf hW va_S.rf hl)
end
theorem cdX10_next : yX10_next.cls = RX10 ∧ yX10_next.cls ≠ "java/lang/invoke/MethodHandle" ∧ yX10_next.cls ≠ "java/lang/invoke/VarHandle" ∧ (parseMethodDescriptor yX10_next.desc).map (fun d => d.parameters.length) = some 1 := by decide +kernel
section
variable {p : Program} {l : Launch} {e : Env} {s : State} {m : MethodId} {args : Array Value} {below : List Frame} {meth : Method} {c : Code} {E : wE}
set_option maxRecDepth 100000 in
set_option maxHeartbeats 4000000 in
theorem pX10_next (B : wB E p s m args meth c cX10_next 2 RX10 (some .int)) {M : wMem} {a1 : Int32}  {res : Int32 × wMem} (hf : fX10_next M a1 = some res) {H : Heap} {locs : List Loc} {ls : Array Slot} (hW : wH E M H) (hS : va_S (wA E) s.heap H locs) (hl : lv_has ls 2 [(0, .ref (wad E 70)), (1, .int a1)]) : W p l e ({ frames := 6, cells := 0, slots := 0, locals := 130 } : Room) s m args below meth c H locs 0 0 (MQ below (wQ E (some (.int res.1)) res.2) args s 0 0 (wA E)) (F0 m 0 ls []) := by
  unfold fX10_next at hf
  obtain ⟨hx, hb, hr, hml, hown, hts, hlocks, hG, hV, hZ⟩ := id B
  refine lv_iload_n hx hb dX10_next_0 rfl (lv_at hl 1 rfl) ?_
  refine lv_iconst (v := 0) hx hb dX10_next_1 rfl ?_
  refine lv_iconst (v := 1) hx hb dX10_next_2 rfl ?_
  obtain ⟨r2, hc1, hf⟩ := wbind_e hf
  refine wc_S (As := [.int a1, .int 0, .int 1]) (rest := []) hx hb hml hown hts hG hV hZ (cX10_isIn_ok l E M a1 0 1 hc1) (va_cwS 3 hts gl_X10_94 rfl rfl rfl cdX10_isIn ⟨Nat.le_of_ble_eq_true rfl, Nat.le_of_ble_eq_true rfl⟩) rfl hl.1 rfl (Nat.le_of_ble_eq_true rfl) dX10_next_3 ⟨Nat.zero_le _, Nat.zero_le _⟩ hW hS rfl (fun H locs hW hS => ?_)
  rcases wif_e hf with ⟨hq3, hf⟩ | ⟨hq3, hf⟩
  · refine lv_if_ne (tgt := 16) hx hb dX10_next_6 (by decide) (fun h => absurd hq3 h) (fun _ => ?_)
    refine lv_aload_n hx hb dX10_next_9 rfl (lv_at hl 0 rfl) ?_
    refine lv_bipush (v := (-2)) hx hb dX10_next_10 (by decide) ?_
    obtain ⟨r9, M10, hc8, hf⟩ := wbind_p hf
    refine wc_V (As := [.int (-2)]) (rest := []) hx hb hml hown hts hG hV hZ (wlt_9 (rfl : wkd 70 = 9)) (q := (RX10, TX10, 31)) (wen_9 (rfl : wkd 70 = 9)) rfl (cX10_no_ok l E M (-2) hc8) (cwV 1 hts gl_X10_83 rfl rfl rfl cdX10_no ⟨Nat.le_of_ble_eq_true rfl, Nat.le_of_ble_eq_true rfl⟩) rfl hl.1 rfl (Nat.le_of_ble_eq_true rfl) dX10_next_12 ⟨Nat.zero_le _, Nat.zero_le _⟩ hW hS rfl (fun H locs hW hS => ?_)
    have hres := Option.some.inj hf
    subst hres
    exact W.iret hx hb hr (wr_q hG hV hZ hW hS) hS.2.2 dX10_next_15
  · refine lv_if_ne (tgt := 16) hx hb dX10_next_6 (by decide) (fun _ => ?_) (fun h => absurd h hq3)
    refine lv_aload_n hx hb dX10_next_16 rfl (lv_at hl 0 rfl) ?_
    obtain ⟨M6, hc4, hf⟩ := wbind_e hf
    refine wc_V (As := []) (rest := []) hx hb hml hown hts hG hV hZ (wlt_9 (rfl : wkd 70 = 9)) (q := (RX10, TX10, 31)) (wen_9 (rfl : wkd 70 = 9)) rfl (cX10_findNext_ok l E M  hc4) (cwV 0 hts gl_X10_227 rfl rfl rfl cdX10_findNext ⟨Nat.le_of_ble_eq_true rfl, Nat.le_of_ble_eq_true rfl⟩) rfl hl.1 rfl (Nat.le_of_ble_eq_true rfl) dX10_next_17 ⟨Nat.zero_le _, Nat.zero_le _⟩ hW hS rfl (fun H locs hW hS => ?_)
    refine lv_iload_n hx hb dX10_next_20 rfl (lv_at hl 1 rfl) ?_
    rcases wif_e hf with ⟨hq7, hf⟩ | ⟨hq7, hf⟩
    · refine lv_if_ne (tgt := 31) hx hb dX10_next_21 (by decide) (fun h => absurd hq7 h) (fun _ => ?_)
      refine lv_aload_n hx hb dX10_next_24 rfl (lv_at hl 0 rfl) ?_
      refine wm_get hx hb hts wu_X10 hown hV hW (wlt_9 (rfl : wkd 70 = 9)) (wen_9 (rfl : wkd 70 = 9)) (C := RX10) (T := TX10) (N := 31) rfl 29 (by decide) (hts _ wA_743) rfl dX10_next_25 ?_
      refine lv_goto (tgt := 35) hx hb dX10_next_28 (by decide) ?_
      have hres := Option.some.inj hf
      subst hres
      exact W.iret hx hb hr (wr_q hG hV hZ hW hS) hS.2.2 dX10_next_35
    · refine lv_if_ne (tgt := 31) hx hb dX10_next_21 (by decide) (fun _ => ?_) (fun h => absurd h hq7)
      refine lv_aload_n hx hb dX10_next_31 rfl (lv_at hl 0 rfl) ?_
      refine wm_get hx hb hts wu_X10 hown hV hW (wlt_9 (rfl : wkd 70 = 9)) (wen_9 (rfl : wkd 70 = 9)) (C := RX10) (T := TX10) (N := 31) rfl 30 (by decide) (hts _ wA_744) rfl dX10_next_32 ?_
      have hres := Option.some.inj hf
      subst hres
      exact W.iret hx hb hr (wr_q hG hV hZ hW hS) hS.2.2 dX10_next_35
theorem cX10_next_ok (l : Launch) (E : wE) (M : wMem) (a1 : Int32) {res : Int32 × wMem} (hf : fX10_next M a1 = some res) : wMet l yX10_next (wsM yX10_next cX10_next 2 (some .int)) ({ frames := 6, cells := 0, slots := 0, locals := 130 } : Room) E M [.ref (wad E 70), .int a1] (some (.int res.1)) res.2 :=
  wc_of (cc := cX10_next) (maxL := 2) (ret := (some .int)) (by decide) (Nat.le_of_ble_eq_true rfl) (fun _ _ _ _ _ _ _ _ B hW hl => pX10_next B  hf hW va_S.rf hl)
end
theorem cdX10_stateMany : yX10_stateMany.cls = RX10 ∧ yX10_stateMany.cls ≠ "java/lang/invoke/MethodHandle" ∧ yX10_stateMany.cls ≠ "java/lang/invoke/VarHandle" ∧ (parseMethodDescriptor yX10_stateMany.desc).map (fun d => d.parameters.length) = some 1 := by decide +kernel
section
variable {p : Program} {l : Launch} {e : Env} {s : State} {m : MethodId} {args : Array Value} {below : List Frame} {meth : Method} {c : Code} {E : wE}
set_option maxRecDepth 100000 in
set_option maxHeartbeats 4000000 in
theorem pX10_stateMany_28 (B : wB E p s m args meth c cX10_stateMany 4 RX10 (some .int)) {M : wMem} {y1 : Int32} {y3 : Int32} {z0 : Int32} {z1 : Int32} {rec4 : (Int32 × Int32 → Option (Int32))} {res : Int32}  (hrec4 : ∀ (y2' : Int32) (y3' : Int32), rec4 (y2', y3') = some res → ∀ (H : Heap) (locs : List Loc) (ls : Array Slot), wH E M H → va_S (wA E) s.heap H locs → lv_has ls 4 [(0, .ref (wad E 70)), (1, .int y1), (2, .int y2'), (3, .int y3')] → W p l e ({ frames := 0, cells := 0, slots := 0, locals := 0 } : Room) s m args below meth c H locs 0 0 (MQ below (wQ E (some (.int res)) M) args s 0 0 (wA E)) (F0 m 4 ls [])) (hf : fX10_stateMany_28 M rec4 y1 y3 z0 z1 = some res) {H : Heap} {locs : List Loc} {ls : Array Slot} (hW : wH E M H) (hS : va_S (wA E) s.heap H locs) (hl : lv_has ls 4 [(0, .ref (wad E 70)), (1, .int y1), (3, .int y3)]) : W p l e ({ frames := 0, cells := 0, slots := 0, locals := 0 } : Room) s m args below meth c H locs 0 0 (MQ below (wQ E (some (.int res)) M) args s 0 0 (wA E)) (F0 m 28 ls [.int z1, .int z0]) := by
  unfold fX10_stateMany_28 at hf
  obtain ⟨hx, hb, hr, hml, hown, hts, hlocks, hG, hV, hZ⟩ := id B
  refine lv_iadd hx hb dX10_stateMany_28 ?_
  refine lv_topi (fun x4 ex4 => ?_)
  replace hf := wlet_y ex4 hf
  refine lv_istore_n (lv' := [(2, .int x4), (0, .ref (wad E 70)), (1, .int y1), (3, .int y3)]) hx hb dX10_stateMany_29 rfl hl (by decide) rfl (fun ls hl => ?_)
  obtain ⟨x5, ex5, hf⟩ := wlet_e hf
  refine lv_iinc (v := x5) (lv' := [(3, .int x5), (2, .int x4), (0, .ref (wad E 70)), (1, .int y1)]) hx hb dX10_stateMany_30 hl (k := 3) rfl (by rw [ex5]; rfl) (by decide) rfl (fun ls hl => ?_)
  refine lv_goto (tgt := 4) hx hb dX10_stateMany_33 (by decide) ?_
  exact hrec4 x4 x5 hf _ _ _ hW hS (lv_sub hl [2, 3, 1, 0] rfl)
set_option maxRecDepth 100000 in
set_option maxHeartbeats 4000000 in
theorem pX10_stateMany_4_b (B : wB E p s m args meth c cX10_stateMany 4 RX10 (some .int)) {M : wMem} {y1 : Int32} {y2 : Int32} {y3 : Int32}  {rec4 : (Int32 × Int32 → Option (Int32))} {res : Int32}   (hrec4 : ∀ (y2' : Int32) (y3' : Int32), rec4 (y2', y3') = some res → ∀ (H : Heap) (locs : List Loc) (ls : Array Slot), wH E M H → va_S (wA E) s.heap H locs → lv_has ls 4 [(0, .ref (wad E 70)), (1, .int y1), (2, .int y2'), (3, .int y3')] → W p l e ({ frames := 0, cells := 0, slots := 0, locals := 0 } : Room) s m args below meth c H locs 0 0 (MQ below (wQ E (some (.int res)) M) args s 0 0 (wA E)) (F0 m 4 ls [])) (hf : fX10_stateMany_4_b M  rec4 y1 y2 y3 = some res) {H : Heap} {locs : List Loc} {ls : Array Slot} (hW : wH E M H) (hS : va_S (wA E) s.heap H locs) (hl : lv_has ls 4 [(0, .ref (wad E 70)), (1, .int y1), (2, .int y2), (3, .int y3)]) : W p l e ({ frames := 0, cells := 0, slots := 0, locals := 0 } : Room) s m args below meth c H locs 0 0 (MQ below (wQ E (some (.int res)) M) args s 0 0 (wA E)) (F0 m 4 ls []) := by
  unfold fX10_stateMany_4_b at hf
  obtain ⟨hx, hb, hr, hml, hown, hts, hlocks, hG, hV, hZ⟩ := id B
  refine lv_iload_n hx hb dX10_stateMany_4 rfl (lv_at hl 3 rfl) ?_
  refine lv_aload_n hx hb dX10_stateMany_5 rfl (lv_at hl 0 rfl) ?_
  refine wm_get hx hb hts wu_X10 hown hV hW (wlt_9 (rfl : wkd 70 = 9)) (wen_9 (rfl : wkd 70 = 9)) (C := RX10) (T := TX10) (N := 31) rfl 7 (by decide) (hts _ wA_721) rfl dX10_stateMany_6 ?_
  rcases wif_e hf with ⟨hq1, hf⟩ | ⟨hq1, hf⟩
  · refine lv_icmp_ge (tgt := 36) hx hb dX10_stateMany_9 (by decide) (fun _ => ?_) (fun h => absurd hq1 h)
    refine lv_iload_n hx hb dX10_stateMany_36 rfl (lv_at hl 2 rfl) ?_
    have hres := Option.some.inj hf
    subst hres
    exact W.iret hx hb hr (wr_q hG hV hZ hW hS) hS.2.2 dX10_stateMany_37
  · refine lv_icmp_ge (tgt := 36) hx hb dX10_stateMany_9 (by decide) (fun h => absurd h hq1) (fun _ => ?_)
    refine lv_iload_n hx hb dX10_stateMany_12 rfl (lv_at hl 2 rfl) ?_
    refine lv_aload_n hx hb dX10_stateMany_13 rfl (lv_at hl 0 rfl) ?_
    refine wm_get hx hb hts wu_X10 hown hV hW (wlt_9 (rfl : wkd 70 = 9)) (wen_9 (rfl : wkd 70 = 9)) (C := RX10) (T := TX10) (N := 31) rfl 5 (by decide) (hts _ wA_719) rfl dX10_stateMany_14 ?_
    refine lv_iload_n hx hb dX10_stateMany_17 rfl (lv_at hl 3 rfl) ?_
    obtain ⟨hi2, hf⟩ := wgi_e hf
    refine wm_iald hx hb hV hW (rfl : wkd 76 = 21) (n := 12) rfl hi2 dX10_stateMany_18 ?_
    refine lv_iload_n hx hb dX10_stateMany_19 rfl (lv_at hl 1 rfl) ?_
    rcases wif_e hf with ⟨hq3, hf⟩ | ⟨hq3, hf⟩
    · refine lv_icmp_ne (tgt := 27) hx hb dX10_stateMany_20 (by decide) (fun h => absurd hq3 h) (fun _ => ?_)
      refine lv_iconst (v := 1) hx hb dX10_stateMany_23 rfl ?_
      refine lv_goto (tgt := 28) hx hb dX10_stateMany_24 (by decide) ?_
      exact pX10_stateMany_28 B  hrec4 hf hW hS (lv_sub hl [0, 1, 3] rfl)
    · refine lv_icmp_ne (tgt := 27) hx hb dX10_stateMany_20 (by decide) (fun _ => ?_) (fun h => absurd h hq3)
      refine lv_iconst (v := 0) hx hb dX10_stateMany_27 rfl ?_
      exact pX10_stateMany_28 B  hrec4 hf hW hS (lv_sub hl [0, 1, 3] rfl)
set_option maxRecDepth 100000 in
set_option maxHeartbeats 4000000 in
theorem pX10_stateMany_4 (B : wB E p s m args meth c cX10_stateMany 4 RX10 (some .int)) {M : wMem} {y1 : Int32} {y2 : Int32} {y3 : Int32}  {res : Int32}   (hf : fX10_stateMany_4 M  y1 y2 y3 = some res) {H : Heap} {locs : List Loc} {ls : Array Slot} (hW : wH E M H) (hS : va_S (wA E) s.heap H locs) (hl : lv_has ls 4 [(0, .ref (wad E 70)), (1, .int y1), (2, .int y2), (3, .int y3)]) : W p l e ({ frames := 0, cells := 0, slots := 0, locals := 0 } : Room) s m args below meth c H locs 0 0 (MQ below (wQ E (some (.int res)) M) args s 0 0 (wA E)) (F0 m 4 ls []) := by
  have key := wloop_W (b := (fun rec4 t => fX10_stateMany_4_b M  rec4 y1 t.1 t.2)) (P := fun t => ∀ (H : Heap) (locs : List Loc) (ls : Array Slot), wH E M H → va_S (wA E) s.heap H locs → lv_has ls 4 [(0, .ref (wad E 70)), (1, .int y1), (2, .int t.1), (3, .int t.2)] → W p l e ({ frames := 0, cells := 0, slots := 0, locals := 0 } : Room) s m args below meth c H locs 0 0 (MQ below (wQ E (some (.int res)) M) args s 0 0 (wA E)) (F0 m 4 ls [])) (r := res) (fun rec hrec t hf H locs ls hW hS hl => pX10_stateMany_4_b B   (fun v0 v1 hf H locs ls hW hS hl => hrec (v0, v1) hf H locs ls hW hS hl) hf hW hS hl)
  exact key wfuel (y2, y3) hf H locs ls hW hS hl
set_option maxRecDepth 100000 in
set_option maxHeartbeats 4000000 in
theorem pX10_stateMany (B : wB E p s m args meth c cX10_stateMany 4 RX10 (some .int)) {M : wMem} {a1 : Int32}  {res : Int32} (hf : fX10_stateMany M a1 = some res) {H : Heap} {locs : List Loc} {ls : Array Slot} (hW : wH E M H) (hS : va_S (wA E) s.heap H locs) (hl : lv_has ls 4 [(0, .ref (wad E 70)), (1, .int a1)]) : W p l e ({ frames := 0, cells := 0, slots := 0, locals := 0 } : Room) s m args below meth c H locs 0 0 (MQ below (wQ E (some (.int res)) M) args s 0 0 (wA E)) (F0 m 0 ls []) := by
  unfold fX10_stateMany at hf
  obtain ⟨hx, hb, hr, hml, hown, hts, hlocks, hG, hV, hZ⟩ := id B
  refine lv_iconst (v := 0) hx hb dX10_stateMany_0 rfl ?_
  refine lv_istore_n (lv' := [(2, .int 0), (0, .ref (wad E 70)), (1, .int a1)]) hx hb dX10_stateMany_1 rfl hl (by decide) rfl (fun ls hl => ?_)
  refine lv_iconst (v := 0) hx hb dX10_stateMany_2 rfl ?_
  refine lv_istore_n (lv' := [(3, .int 0), (2, .int 0), (0, .ref (wad E 70)), (1, .int a1)]) hx hb dX10_stateMany_3 rfl hl (by decide) rfl (fun ls hl => ?_)
  exact pX10_stateMany_4 B   hf hW hS (lv_sub hl [2, 3, 1, 0] rfl)
theorem cX10_stateMany_ok (l : Launch) (E : wE) (M : wMem) (a1 : Int32) {res : Int32} (hf : fX10_stateMany M a1 = some res) : wMet l yX10_stateMany (wsM yX10_stateMany cX10_stateMany 4 (some .int)) ({ frames := 0, cells := 0, slots := 0, locals := 0 } : Room) E M [.ref (wad E 70), .int a1] (some (.int res)) M :=
  wc_of (cc := cX10_stateMany) (maxL := 4) (ret := (some .int)) (by decide) (Nat.le_of_ble_eq_true rfl) (fun _ _ _ _ _ _ _ _ B hW hl => pX10_stateMany B  hf hW va_S.rf hl)
end
theorem cdX10_bridged : yX10_bridged.cls = RX10 ∧ yX10_bridged.cls ≠ "java/lang/invoke/MethodHandle" ∧ yX10_bridged.cls ≠ "java/lang/invoke/VarHandle" ∧ (parseMethodDescriptor yX10_bridged.desc).map (fun d => d.parameters.length) = some 1 := by decide +kernel
section
variable {p : Program} {l : Launch} {e : Env} {s : State} {m : MethodId} {args : Array Value} {below : List Frame} {meth : Method} {c : Code} {E : wE}
set_option maxRecDepth 100000 in
set_option maxHeartbeats 4000000 in
theorem pX10_bridged_65 (B : wB E p s m args meth c cX10_bridged 5 RX10 (some .int)) {M : wMem} {y3 : Int32}  {res : Int32 × wMem}   (hf : fX10_bridged_65 M  y3 = some res) {H : Heap} {locs : List Loc} {ls : Array Slot} (hW : wH E M H) (hS : va_S (wA E) s.heap H locs) (hl : lv_has ls 5 [(0, .ref (wad E 70)), (3, .int y3)]) : W p l e ({ frames := 5, cells := 0, slots := 0, locals := 107 } : Room) s m args below meth c H locs 0 0 (MQ below (wQ E (some (.int res.1)) res.2) args s 0 0 (wA E)) (F0 m 65 ls []) := by
  unfold fX10_bridged_65 at hf
  obtain ⟨hx, hb, hr, hml, hown, hts, hlocks, hG, hV, hZ⟩ := id B
  refine lv_aload_n hx hb dX10_bridged_65 rfl (lv_at hl 0 rfl) ?_
  refine lv_iconst (v := 1) hx hb dX10_bridged_66 rfl ?_
  refine lv_iconst (v := 0) hx hb dX10_bridged_67 rfl ?_
  obtain ⟨M10, hc8, hf⟩ := wbind_e hf
  refine wc_V (As := [.int 1, .int 0]) (rest := []) hx hb hml hown hts hG hV hZ (wlt_9 (rfl : wkd 70 = 9)) (q := (RX10, TX10, 31)) (wen_9 (rfl : wkd 70 = 9)) rfl (cX10_passesAll_ok l E M 1 0 hc8) (cwV 2 hts gl_X10_119 rfl rfl rfl cdX10_passesAll ⟨Nat.le_of_ble_eq_true rfl, Nat.le_of_ble_eq_true rfl⟩) rfl hl.1 rfl (Nat.le_of_ble_eq_true rfl) dX10_bridged_68 ⟨Nat.zero_le _, Nat.zero_le _⟩ hW hS rfl (fun H locs hW hS => ?_)
  refine lv_iload_n hx hb dX10_bridged_71 rfl (lv_at hl 1 rfl) ?_
  have hres := Option.some.inj hf
  subst hres
  exact W.iret hx hb hr (wr_q hG hV hZ hW hS) hS.2.2 dX10_bridged_72
set_option maxRecDepth 100000 in
set_option maxHeartbeats 4000000 in
theorem pX10_bridged_54 (B : wB E p s m args meth c cX10_bridged 5 RX10 (some .int)) {M : wMem} {y1 : Int32} {y3 : Int32} {y4 : Int32} {rec30 : (Int32 × Int32 × wMem → Option (Int32 × wMem))} {res : Int32 × wMem}  (hrec30 : ∀ (y3' : Int32) (y4' : Int32) (M' : wMem), rec30 (y3', y4', M') = some res → ∀ (H : Heap) (locs : List Loc) (ls : Array Slot), wH E M' H → va_S (wA E) s.heap H locs → lv_has ls 5 [(0, .ref (wad E 70)), (1, .int y1), (3, .int y3'), (4, .int y4')] → W p l e ({ frames := 5, cells := 0, slots := 0, locals := 107 } : Room) s m args below meth c H locs 0 0 (MQ below (wQ E (some (.int res.1)) res.2) args s 0 0 (wA E)) (F0 m 30 ls [])) (hf : fX10_bridged_54 M rec30 y1 y3 y4 = some res) {H : Heap} {locs : List Loc} {ls : Array Slot} (hW : wH E M H) (hS : va_S (wA E) s.heap H locs) (hl : lv_has ls 5 [(0, .ref (wad E 70)), (1, .int y1), (3, .int y3), (4, .int y4)]) : W p l e ({ frames := 5, cells := 0, slots := 0, locals := 107 } : Room) s m args below meth c H locs 0 0 (MQ below (wQ E (some (.int res.1)) res.2) args s 0 0 (wA E)) (F0 m 54 ls []) := by
  unfold fX10_bridged_54 at hf
  obtain ⟨hx, hb, hr, hml, hown, hts, hlocks, hG, hV, hZ⟩ := id B
  refine lv_aload_n hx hb dX10_bridged_54 rfl (lv_at hl 0 rfl) ?_
  obtain ⟨r16, M17, hc15, hf⟩ := wbind_p hf
  refine wc_V (As := []) (rest := []) hx hb hml hown hts hG hV hZ (wlt_9 (rfl : wkd 70 = 9)) (q := (RX10, TX10, 31)) (wen_9 (rfl : wkd 70 = 9)) rfl (cX10_goesHour_ok l E M  hc15) (cwV 0 hts gl_X10_189 rfl rfl rfl cdX10_goesHour ⟨Nat.le_of_ble_eq_true rfl, Nat.le_of_ble_eq_true rfl⟩) rfl hl.1 rfl (Nat.le_of_ble_eq_true rfl) dX10_bridged_55 ⟨Nat.zero_le _, Nat.zero_le _⟩ hW hS rfl (fun H locs hW hS => ?_)
  refine lv_pop hx hb dX10_bridged_58 rfl ?_
  obtain ⟨x18, ex18, hf⟩ := wlet_e hf
  refine lv_iinc (v := x18) (lv' := [(4, .int x18), (0, .ref (wad E 70)), (1, .int y1), (3, .int y3)]) hx hb dX10_bridged_59 hl (k := 3) rfl (by rw [ex18]; rfl) (by decide) rfl (fun ls hl => ?_)
  refine lv_goto (tgt := 30) hx hb dX10_bridged_62 (by decide) ?_
  exact hrec30 y3 x18 M17 hf _ _ _ hW hS (lv_sub hl [1, 2, 3, 0] rfl)
set_option maxRecDepth 100000 in
set_option maxHeartbeats 4000000 in
theorem pX10_bridged_30_b (B : wB E p s m args meth c cX10_bridged 5 RX10 (some .int)) {M : wMem} {y1 : Int32} {y3 : Int32} {y4 : Int32}  {rec30 : (Int32 × Int32 × wMem → Option (Int32 × wMem))} {res : Int32 × wMem}   (hrec30 : ∀ (y3' : Int32) (y4' : Int32) (M' : wMem), rec30 (y3', y4', M') = some res → ∀ (H : Heap) (locs : List Loc) (ls : Array Slot), wH E M' H → va_S (wA E) s.heap H locs → lv_has ls 5 [(0, .ref (wad E 70)), (1, .int y1), (3, .int y3'), (4, .int y4')] → W p l e ({ frames := 5, cells := 0, slots := 0, locals := 107 } : Room) s m args below meth c H locs 0 0 (MQ below (wQ E (some (.int res.1)) res.2) args s 0 0 (wA E)) (F0 m 30 ls [])) (hf : fX10_bridged_30_b M  rec30 y1 y3 y4 = some res) {H : Heap} {locs : List Loc} {ls : Array Slot} (hW : wH E M H) (hS : va_S (wA E) s.heap H locs) (hl : lv_has ls 5 [(0, .ref (wad E 70)), (1, .int y1), (3, .int y3), (4, .int y4)]) : W p l e ({ frames := 5, cells := 0, slots := 0, locals := 107 } : Room) s m args below meth c H locs 0 0 (MQ below (wQ E (some (.int res.1)) res.2) args s 0 0 (wA E)) (F0 m 30 ls []) := by
  unfold fX10_bridged_30_b at hf
  obtain ⟨hx, hb, hr, hml, hown, hts, hlocks, hG, hV, hZ⟩ := id B
  refine lv_iload hx hb dX10_bridged_30 (lv_at hl 3 rfl) ?_
  refine lv_sipush (v := 400) hx hb dX10_bridged_32 (by decide) ?_
  rcases wif_e hf with ⟨hq7, hf⟩ | ⟨hq7, hf⟩
  · refine lv_icmp_gt (tgt := 65) hx hb dX10_bridged_35 (by decide) (fun _ => ?_) (fun h => absurd hq7 h)
    exact pX10_bridged_65 B   hf hW hS (lv_sub hl [0, 2] rfl)
  · refine lv_icmp_gt (tgt := 65) hx hb dX10_bridged_35 (by decide) (fun h => absurd h hq7) (fun _ => ?_)
    refine lv_iload_n hx hb dX10_bridged_38 rfl (lv_at hl 2 rfl) ?_
    rcases wif_e hf with ⟨hq11, hf⟩ | ⟨hq11, hf⟩
    · refine lv_if_ge (tgt := 65) hx hb dX10_bridged_39 (by decide) (fun _ => ?_) (fun h => absurd hq11 h)
      exact pX10_bridged_65 B   hf hW hS (lv_sub hl [0, 2] rfl)
    · refine lv_if_ge (tgt := 65) hx hb dX10_bridged_39 (by decide) (fun h => absurd h hq11) (fun _ => ?_)
      refine lv_aload_n hx hb dX10_bridged_42 rfl (lv_at hl 0 rfl) ?_
      refine lv_iconst (v := 2) hx hb dX10_bridged_43 rfl ?_
      obtain ⟨r13, hc12, hf⟩ := wbind_e hf
      refine wc_V (As := [.int 2]) (rest := []) hx hb hml hown hts hG hV hZ (wlt_9 (rfl : wkd 70 = 9)) (q := (RX10, TX10, 31)) (wen_9 (rfl : wkd 70 = 9)) rfl (cX10_stateMany_ok l E M 2 hc12) (cwV 1 hts gl_X10_230 rfl rfl rfl cdX10_stateMany ⟨Nat.le_of_ble_eq_true rfl, Nat.le_of_ble_eq_true rfl⟩) rfl hl.1 rfl (Nat.le_of_ble_eq_true rfl) dX10_bridged_44 ⟨Nat.zero_le _, Nat.zero_le _⟩ hW hS rfl (fun H locs hW hS => ?_)
      refine lv_iload_n hx hb dX10_bridged_47 rfl (lv_at hl 1 rfl) ?_
      rcases wif_e hf with ⟨hq14, hf⟩ | ⟨hq14, hf⟩
      · refine lv_icmp_lt (tgt := 54) hx hb dX10_bridged_48 (by decide) (fun _ => ?_) (fun h => absurd hq14 h)
        exact pX10_bridged_54 B  hrec30 hf hW hS (lv_sub hl [0, 1, 2, 3] rfl)
      · refine lv_icmp_lt (tgt := 54) hx hb dX10_bridged_48 (by decide) (fun h => absurd h hq14) (fun _ => ?_)
        refine lv_iload hx hb dX10_bridged_51 (lv_at hl 3 rfl) ?_
        refine lv_istore_n (lv' := [(3, .int y4), (0, .ref (wad E 70)), (1, .int y1), (4, .int y4)]) hx hb dX10_bridged_53 rfl hl (by decide) rfl (fun ls hl => ?_)
        exact pX10_bridged_54 B  hrec30 hf hW hS (lv_sub hl [1, 2, 0, 3] rfl)
set_option maxRecDepth 100000 in
set_option maxHeartbeats 4000000 in
theorem pX10_bridged_30 (B : wB E p s m args meth c cX10_bridged 5 RX10 (some .int)) {M : wMem} {y1 : Int32} {y3 : Int32} {y4 : Int32}  {res : Int32 × wMem}   (hf : fX10_bridged_30 M  y1 y3 y4 = some res) {H : Heap} {locs : List Loc} {ls : Array Slot} (hW : wH E M H) (hS : va_S (wA E) s.heap H locs) (hl : lv_has ls 5 [(0, .ref (wad E 70)), (1, .int y1), (3, .int y3), (4, .int y4)]) : W p l e ({ frames := 5, cells := 0, slots := 0, locals := 107 } : Room) s m args below meth c H locs 0 0 (MQ below (wQ E (some (.int res.1)) res.2) args s 0 0 (wA E)) (F0 m 30 ls []) := by
  have key := wloop_W (b := (fun rec30 t => fX10_bridged_30_b t.2.2  rec30 y1 t.1 t.2.1)) (P := fun t => ∀ (H : Heap) (locs : List Loc) (ls : Array Slot), wH E t.2.2 H → va_S (wA E) s.heap H locs → lv_has ls 5 [(0, .ref (wad E 70)), (1, .int y1), (3, .int t.1), (4, .int t.2.1)] → W p l e ({ frames := 5, cells := 0, slots := 0, locals := 107 } : Room) s m args below meth c H locs 0 0 (MQ below (wQ E (some (.int res.1)) res.2) args s 0 0 (wA E)) (F0 m 30 ls [])) (r := res) (fun rec hrec t hf H locs ls hW hS hl => pX10_bridged_30_b B   (fun v0 v1 v2 hf H locs ls hW hS hl => hrec (v0, v1, v2) hf H locs ls hW hS hl) hf hW hS hl)
  exact key wfuel (y3, y4, M) hf H locs ls hW hS hl
set_option maxRecDepth 100000 in
set_option maxHeartbeats 4000000 in
theorem pX10_bridged (B : wB E p s m args meth c cX10_bridged 5 RX10 (some .int)) {M : wMem} {a1 : Int32}  {res : Int32 × wMem} (hf : fX10_bridged M a1 = some res) {H : Heap} {locs : List Loc} {ls : Array Slot} (hW : wH E M H) (hS : va_S (wA E) s.heap H locs) (hl : lv_has ls 5 [(0, .ref (wad E 70)), (1, .int a1)]) : W p l e ({ frames := 5, cells := 0, slots := 0, locals := 107 } : Room) s m args below meth c H locs 0 0 (MQ below (wQ E (some (.int res.1)) res.2) args s 0 0 (wA E)) (F0 m 0 ls []) := by
  unfold fX10_bridged at hf
  obtain ⟨hx, hb, hr, hml, hown, hts, hlocks, hG, hV, hZ⟩ := id B
  refine lv_iload_n hx hb dX10_bridged_0 rfl (lv_at hl 1 rfl) ?_
  refine lv_iconst (v := 0) hx hb dX10_bridged_1 rfl ?_
  refine lv_bipush (v := 12) hx hb dX10_bridged_2 (by decide) ?_
  obtain ⟨r2, hc1, hf⟩ := wbind_e hf
  refine wc_S (As := [.int a1, .int 0, .int 12]) (rest := []) hx hb hml hown hts hG hV hZ (cX10_bound_ok l E M a1 0 12 hc1) (va_cwS 3 hts gl_X10_76 rfl rfl rfl cdX10_bound ⟨Nat.le_of_ble_eq_true rfl, Nat.le_of_ble_eq_true rfl⟩) rfl hl.1 rfl (Nat.le_of_ble_eq_true rfl) dX10_bridged_4 ⟨Nat.zero_le _, Nat.zero_le _⟩ hW hS rfl (fun H locs hW hS => ?_)
  refine lv_istore_n (lv' := [(2, .int r2), (0, .ref (wad E 70)), (1, .int a1)]) hx hb dX10_bridged_7 rfl hl (by decide) rfl (fun ls hl => ?_)
  refine lv_iload_n hx hb dX10_bridged_8 rfl (lv_at hl 0 rfl) ?_
  rcases wif_e hf with ⟨hq3, hf⟩ | ⟨hq3, hf⟩
  · refine lv_if_eq (tgt := 18) hx hb dX10_bridged_9 (by decide) (fun _ => ?_) (fun h => absurd hq3 h)
    refine lv_aload_n hx hb dX10_bridged_18 rfl (lv_at hl 1 rfl) ?_
    refine lv_iconst (v := 1) hx hb dX10_bridged_19 rfl ?_
    refine lv_iconst (v := 1) hx hb dX10_bridged_20 rfl ?_
    obtain ⟨M6, hc4, hf⟩ := wbind_e hf
    refine wc_V (As := [.int 1, .int 1]) (rest := []) hx hb hml hown hts hG hV hZ (wlt_9 (rfl : wkd 70 = 9)) (q := (RX10, TX10, 31)) (wen_9 (rfl : wkd 70 = 9)) rfl (cX10_passesAll_ok l E M 1 1 hc4) (cwV 2 hts gl_X10_119 rfl rfl rfl cdX10_passesAll ⟨Nat.le_of_ble_eq_true rfl, Nat.le_of_ble_eq_true rfl⟩) rfl hl.1 rfl (Nat.le_of_ble_eq_true rfl) dX10_bridged_21 ⟨Nat.zero_le _, Nat.zero_le _⟩ hW hS rfl (fun H locs hW hS => ?_)
    refine lv_bipush (v := (-9)) hx hb dX10_bridged_24 (by decide) ?_
    refine lv_istore_n (lv' := [(3, .int (-9)), (2, .int r2), (0, .ref (wad E 70)), (1, .int a1)]) hx hb dX10_bridged_26 rfl hl (by decide) rfl (fun ls hl => ?_)
    refine lv_iconst (v := 0) hx hb dX10_bridged_27 rfl ?_
    refine lv_istore (lv' := [(4, .int 0), (3, .int (-9)), (2, .int r2), (0, .ref (wad E 70)), (1, .int a1)]) hx hb dX10_bridged_28 hl (by decide) rfl (fun ls hl => ?_)
    exact pX10_bridged_30 B   hf hW hS (lv_sub hl [3, 4, 1, 0] rfl)
  · refine lv_if_eq (tgt := 18) hx hb dX10_bridged_9 (by decide) (fun h => absurd h hq3) (fun _ => ?_)
    refine lv_aload_n hx hb dX10_bridged_12 rfl (lv_at hl 1 rfl) ?_
    refine lv_iload_n hx hb dX10_bridged_13 rfl (lv_at hl 0 rfl) ?_
    obtain ⟨r20, M21, hc19, hf⟩ := wbind_p hf
    refine wc_V (As := [.int r2]) (rest := []) hx hb hml hown hts hG hV hZ (wlt_9 (rfl : wkd 70 = 9)) (q := (RX10, TX10, 31)) (wen_9 (rfl : wkd 70 = 9)) rfl (cX10_no_ok l E M r2 hc19) (cwV 1 hts gl_X10_83 rfl rfl rfl cdX10_no ⟨Nat.le_of_ble_eq_true rfl, Nat.le_of_ble_eq_true rfl⟩) rfl hl.1 rfl (Nat.le_of_ble_eq_true rfl) dX10_bridged_14 ⟨Nat.zero_le _, Nat.zero_le _⟩ hW hS rfl (fun H locs hW hS => ?_)
    have hres := Option.some.inj hf
    subst hres
    exact W.iret hx hb hr (wr_q hG hV hZ hW hS) hS.2.2 dX10_bridged_17
theorem cX10_bridged_ok (l : Launch) (E : wE) (M : wMem) (a1 : Int32) {res : Int32 × wMem} (hf : fX10_bridged M a1 = some res) : wMet l yX10_bridged (wsM yX10_bridged cX10_bridged 5 (some .int)) ({ frames := 5, cells := 0, slots := 0, locals := 107 } : Room) E M [.ref (wad E 70), .int a1] (some (.int res.1)) res.2 :=
  wc_of (cc := cX10_bridged) (maxL := 5) (ret := (some .int)) (by decide) (Nat.le_of_ble_eq_true rfl) (fun _ _ _ _ _ _ _ _ B hW hl => pX10_bridged B  hf hW va_S.rf hl)
end
theorem cdX10_stop : yX10_stop.cls = RX10 ∧ yX10_stop.cls ≠ "java/lang/invoke/MethodHandle" ∧ yX10_stop.cls ≠ "java/lang/invoke/VarHandle" ∧ (parseMethodDescriptor yX10_stop.desc).map (fun d => d.parameters.length) = some 0 := by decide +kernel
section
variable {p : Program} {l : Launch} {e : Env} {s : State} {m : MethodId} {args : Array Value} {below : List Frame} {meth : Method} {c : Code} {E : wE}
set_option maxRecDepth 100000 in
set_option maxHeartbeats 4000000 in
theorem pX10_stop_16_b (B : wB E p s m args meth c cX10_stop 2 RX10 (some .int)) {M : wMem} {y1 : Int32}  {rec16 : (Int32 → Option (Int32 × wMem))} {res : Int32 × wMem}   (hrec16 : ∀ (y1' : Int32), rec16 (y1') = some res → ∀ (H : Heap) (locs : List Loc) (ls : Array Slot), wH E M H → va_S (wA E) s.heap H locs → lv_has ls 2 [(0, .ref (wad E 70)), (1, .int y1')] → W p l e ({ frames := 1, cells := 0, slots := 0, locals := 21 } : Room) s m args below meth c H locs 0 0 (MQ below (wQ E (some (.int res.1)) res.2) args s 0 0 (wA E)) (F0 m 16 ls [])) (hf : fX10_stop_16_b M  rec16 y1 = some res) {H : Heap} {locs : List Loc} {ls : Array Slot} (hW : wH E M H) (hS : va_S (wA E) s.heap H locs) (hl : lv_has ls 2 [(0, .ref (wad E 70)), (1, .int y1)]) : W p l e ({ frames := 1, cells := 0, slots := 0, locals := 21 } : Room) s m args below meth c H locs 0 0 (MQ below (wQ E (some (.int res.1)) res.2) args s 0 0 (wA E)) (F0 m 16 ls []) := by
  unfold fX10_stop_16_b at hf
  obtain ⟨hx, hb, hr, hml, hown, hts, hlocks, hG, hV, hZ⟩ := id B
  refine lv_iload_n hx hb dX10_stop_16 rfl (lv_at hl 1 rfl) ?_
  refine lv_aload_n hx hb dX10_stop_17 rfl (lv_at hl 0 rfl) ?_
  refine wm_get hx hb hts wu_X10 hown hV hW (wlt_9 (rfl : wkd 70 = 9)) (wen_9 (rfl : wkd 70 = 9)) (C := RX10) (T := TX10) (N := 31) rfl 7 (by decide) (hts _ wA_721) rfl dX10_stop_18 ?_
  rcases wif_e hf with ⟨hq2, hf⟩ | ⟨hq2, hf⟩
  · refine lv_icmp_ge (tgt := 66) hx hb dX10_stop_21 (by decide) (fun _ => ?_) (fun h => absurd hq2 h)
    refine lv_bipush (v := (-9)) hx hb dX10_stop_66 (by decide) ?_
    have hres := Option.some.inj hf
    subst hres
    exact W.iret hx hb hr (wr_q hG hV hZ hW hS) hS.2.2 dX10_stop_68
  · refine lv_icmp_ge (tgt := 66) hx hb dX10_stop_21 (by decide) (fun h => absurd h hq2) (fun _ => ?_)
    refine lv_sipush (v := 9999) hx hb dX10_stop_24 (by decide) ?_
    refine lv_bipush (v := 100) hx hb dX10_stop_27 (by decide) ?_
    refine lv_aload_n hx hb dX10_stop_29 rfl (lv_at hl 0 rfl) ?_
    refine wm_get hx hb hts wu_X10 hown hV hW (wlt_9 (rfl : wkd 70 = 9)) (wen_9 (rfl : wkd 70 = 9)) (C := RX10) (T := TX10) (N := 31) rfl 6 (by decide) (hts _ wA_720) rfl dX10_stop_30 ?_
    refine lv_iconst (v := 0) hx hb dX10_stop_33 rfl ?_
    obtain ⟨hi3, hf⟩ := wgi_e hf
    refine wm_iald hx hb hV hW (rfl : wkd 77 = 21) (n := 4) rfl hi3 dX10_stop_34 ?_
    refine lv_imul hx hb dX10_stop_35 ?_
    refine lv_bipush (v := 10) hx hb dX10_stop_36 (by decide) ?_
    refine lv_aload_n hx hb dX10_stop_38 rfl (lv_at hl 0 rfl) ?_
    refine wm_get hx hb hts wu_X10 hown hV hW (wlt_9 (rfl : wkd 70 = 9)) (wen_9 (rfl : wkd 70 = 9)) (C := RX10) (T := TX10) (N := 31) rfl 7 (by decide) (hts _ wA_721) rfl dX10_stop_39 ?_
    refine lv_iload_n hx hb dX10_stop_42 rfl (lv_at hl 1 rfl) ?_
    refine lv_isub hx hb dX10_stop_43 ?_
    refine lv_imul hx hb dX10_stop_44 ?_
    obtain ⟨hz4, hf⟩ := wgz_e hf
    refine lv_idiv hx hb dX10_stop_45 hz4 ?_
    obtain ⟨r6, hc5, hf⟩ := wbind_e hf
    refine wc_S (As := [.int 9999, .int ((100 * (M 77 (Int32.toNatClampNeg 0))) / (10 * ((M 70 7) - y1)))]) (rest := []) hx hb hml hown hts hG hV hZ (cX10_least_ok l E M 9999 ((100 * (M 77 (Int32.toNatClampNeg 0))) / (10 * ((M 70 7) - y1))) hc5) (va_cwS 2 hts gl_X10_158 rfl rfl rfl cdX10_least ⟨Nat.le_of_ble_eq_true rfl, Nat.le_of_ble_eq_true rfl⟩) rfl hl.1 rfl (Nat.le_of_ble_eq_true rfl) dX10_stop_46 ⟨Nat.zero_le _, Nat.zero_le _⟩ hW hS rfl (fun H locs hW hS => ?_)
    refine lv_aload_n hx hb dX10_stop_49 rfl (lv_at hl 0 rfl) ?_
    refine wm_get hx hb hts wu_X10 hown hV hW (wlt_9 (rfl : wkd 70 = 9)) (wen_9 (rfl : wkd 70 = 9)) (C := RX10) (T := TX10) (N := 31) rfl 6 (by decide) (hts _ wA_720) rfl dX10_stop_50 ?_
    refine lv_iconst (v := 2) hx hb dX10_stop_53 rfl ?_
    obtain ⟨hi7, hf⟩ := wgi_e hf
    refine wm_iald hx hb hV hW (rfl : wkd 77 = 21) (n := 4) rfl hi7 dX10_stop_54 ?_
    rcases wif_e hf with ⟨hq8, hf⟩ | ⟨hq8, hf⟩
    · refine lv_icmp_le (tgt := 60) hx hb dX10_stop_55 (by decide) (fun _ => ?_) (fun h => absurd hq8 h)
      obtain ⟨x9, ex9, hf⟩ := wlet_e hf
      refine lv_iinc (v := x9) (lv' := [(1, .int x9), (0, .ref (wad E 70))]) hx hb dX10_stop_60 hl (k := 1) rfl (by rw [ex9]; rfl) (by decide) rfl (fun ls hl => ?_)
      refine lv_goto (tgt := 16) hx hb dX10_stop_63 (by decide) ?_
      exact hrec16 x9 hf _ _ _ hW hS (lv_sub hl [1, 0] rfl)
    · refine lv_icmp_le (tgt := 60) hx hb dX10_stop_55 (by decide) (fun h => absurd h hq8) (fun _ => ?_)
      refine lv_iload_n hx hb dX10_stop_58 rfl (lv_at hl 1 rfl) ?_
      have hres := Option.some.inj hf
      subst hres
      exact W.iret hx hb hr (wr_q hG hV hZ hW hS) hS.2.2 dX10_stop_59
set_option maxRecDepth 100000 in
set_option maxHeartbeats 4000000 in
theorem pX10_stop_16 (B : wB E p s m args meth c cX10_stop 2 RX10 (some .int)) {M : wMem} {y1 : Int32}  {res : Int32 × wMem}   (hf : fX10_stop_16 M  y1 = some res) {H : Heap} {locs : List Loc} {ls : Array Slot} (hW : wH E M H) (hS : va_S (wA E) s.heap H locs) (hl : lv_has ls 2 [(0, .ref (wad E 70)), (1, .int y1)]) : W p l e ({ frames := 1, cells := 0, slots := 0, locals := 21 } : Room) s m args below meth c H locs 0 0 (MQ below (wQ E (some (.int res.1)) res.2) args s 0 0 (wA E)) (F0 m 16 ls []) := by
  have key := wloop_W (b := (fun rec16 t => fX10_stop_16_b M  rec16 t)) (P := fun t => ∀ (H : Heap) (locs : List Loc) (ls : Array Slot), wH E M H → va_S (wA E) s.heap H locs → lv_has ls 2 [(0, .ref (wad E 70)), (1, .int t)] → W p l e ({ frames := 1, cells := 0, slots := 0, locals := 21 } : Room) s m args below meth c H locs 0 0 (MQ below (wQ E (some (.int res.1)) res.2) args s 0 0 (wA E)) (F0 m 16 ls [])) (r := res) (fun rec hrec t hf H locs ls hW hS hl => pX10_stop_16_b B   (fun v0 hf H locs ls hW hS hl => hrec (v0) hf H locs ls hW hS hl) hf hW hS hl)
  exact key wfuel (y1) hf H locs ls hW hS hl
set_option maxRecDepth 100000 in
set_option maxHeartbeats 4000000 in
theorem pX10_stop (B : wB E p s m args meth c cX10_stop 2 RX10 (some .int)) {M : wMem}   {res : Int32 × wMem} (hf : fX10_stop M  = some res) {H : Heap} {locs : List Loc} {ls : Array Slot} (hW : wH E M H) (hS : va_S (wA E) s.heap H locs) (hl : lv_has ls 2 [(0, .ref (wad E 70))]) : W p l e ({ frames := 1, cells := 0, slots := 0, locals := 21 } : Room) s m args below meth c H locs 0 0 (MQ below (wQ E (some (.int res.1)) res.2) args s 0 0 (wA E)) (F0 m 0 ls []) := by
  unfold fX10_stop at hf
  obtain ⟨hx, hb, hr, hml, hown, hts, hlocks, hG, hV, hZ⟩ := id B
  refine lv_aload_n hx hb dX10_stop_0 rfl (lv_at hl 0 rfl) ?_
  refine wm_get hx hb hts wu_X10 hown hV hW (wlt_9 (rfl : wkd 70 = 9)) (wen_9 (rfl : wkd 70 = 9)) (C := RX10) (T := TX10) (N := 31) rfl 7 (by decide) (hts _ wA_721) rfl dX10_stop_1 ?_
  rcases wif_e hf with ⟨hq1, hf⟩ | ⟨hq1, hf⟩
  · refine lv_if_ne (tgt := 14) hx hb dX10_stop_4 (by decide) (fun h => absurd hq1 h) (fun _ => ?_)
    refine lv_aload_n hx hb dX10_stop_7 rfl (lv_at hl 0 rfl) ?_
    refine lv_bipush (v := (-3)) hx hb dX10_stop_8 (by decide) ?_
    obtain ⟨r11, M12, hc10, hf⟩ := wbind_p hf
    refine wc_V (As := [.int (-3)]) (rest := []) hx hb hml hown hts hG hV hZ (wlt_9 (rfl : wkd 70 = 9)) (q := (RX10, TX10, 31)) (wen_9 (rfl : wkd 70 = 9)) rfl (cX10_no_ok l E M (-3) hc10) (cwV 1 hts gl_X10_83 rfl rfl rfl cdX10_no ⟨Nat.le_of_ble_eq_true rfl, Nat.le_of_ble_eq_true rfl⟩) rfl hl.1 rfl (Nat.le_of_ble_eq_true rfl) dX10_stop_10 ⟨Nat.zero_le _, Nat.zero_le _⟩ hW hS rfl (fun H locs hW hS => ?_)
    have hres := Option.some.inj hf
    subst hres
    exact W.iret hx hb hr (wr_q hG hV hZ hW hS) hS.2.2 dX10_stop_13
  · refine lv_if_ne (tgt := 14) hx hb dX10_stop_4 (by decide) (fun _ => ?_) (fun h => absurd h hq1)
    refine lv_iconst (v := 0) hx hb dX10_stop_14 rfl ?_
    refine lv_istore_n (lv' := [(1, .int 0), (0, .ref (wad E 70))]) hx hb dX10_stop_15 rfl hl (by decide) rfl (fun ls hl => ?_)
    exact pX10_stop_16 B   hf hW hS (lv_sub hl [1, 0] rfl)
theorem cX10_stop_ok (l : Launch) (E : wE) (M : wMem)  {res : Int32 × wMem} (hf : fX10_stop M  = some res) : wMet l yX10_stop (wsM yX10_stop cX10_stop 2 (some .int)) ({ frames := 1, cells := 0, slots := 0, locals := 21 } : Room) E M [.ref (wad E 70)] (some (.int res.1)) res.2 :=
  wc_of (cc := cX10_stop) (maxL := 2) (ret := (some .int)) (by decide) (Nat.le_of_ble_eq_true rfl) (fun _ _ _ _ _ _ _ _ B hW hl => pX10_stop B  hf hW va_S.rf hl)
end
theorem cdX10_light : yX10_light.cls = RX10 ∧ yX10_light.cls ≠ "java/lang/invoke/MethodHandle" ∧ yX10_light.cls ≠ "java/lang/invoke/VarHandle" ∧ (parseMethodDescriptor yX10_light.desc).map (fun d => d.parameters.length) = some 1 := by decide +kernel
section
variable {p : Program} {l : Launch} {e : Env} {s : State} {m : MethodId} {args : Array Value} {below : List Frame} {meth : Method} {c : Code} {E : wE}
set_option maxRecDepth 100000 in
set_option maxHeartbeats 4000000 in
theorem pX10_light_45_b (B : wB E p s m args meth c cX10_light 7 RX10 (some .int)) {M : wMem} {y1 : Int32} {y3 : Int32} {y4 : Int32} {y5 : Int32} {y6 : Int32} {rec30 : (Int32 × Int32 × wMem → Option (Int32 × wMem))} {rec45 : (Int32 × Int32 → Option (Int32 × wMem))} {res : Int32 × wMem}  (hrec30 : ∀ (y3' : Int32) (y4' : Int32) (M' : wMem), rec30 (y3', y4', M') = some res → ∀ (H : Heap) (locs : List Loc) (ls : Array Slot), wH E M' H → va_S (wA E) s.heap H locs → lv_has ls 7 [(0, .ref (wad E 70)), (1, .int y1), (3, .int y3'), (4, .int y4')] → W p l e ({ frames := 5, cells := 0, slots := 0, locals := 107 } : Room) s m args below meth c H locs 0 0 (MQ below (wQ E (some (.int res.1)) res.2) args s 0 0 (wA E)) (F0 m 30 ls [])) (hrec45 : ∀ (y3' : Int32) (y6' : Int32), rec45 (y3', y6') = some res → ∀ (H : Heap) (locs : List Loc) (ls : Array Slot), wH E M H → va_S (wA E) s.heap H locs → lv_has ls 7 [(0, .ref (wad E 70)), (1, .int y1), (3, .int y3'), (4, .int y4), (5, .int y5), (6, .int y6')] → W p l e ({ frames := 5, cells := 0, slots := 0, locals := 107 } : Room) s m args below meth c H locs 0 0 (MQ below (wQ E (some (.int res.1)) res.2) args s 0 0 (wA E)) (F0 m 45 ls [])) (hf : fX10_light_45_b M rec30 rec45 y1 y3 y4 y5 y6 = some res) {H : Heap} {locs : List Loc} {ls : Array Slot} (hW : wH E M H) (hS : va_S (wA E) s.heap H locs) (hl : lv_has ls 7 [(0, .ref (wad E 70)), (1, .int y1), (3, .int y3), (4, .int y4), (5, .int y5), (6, .int y6)]) : W p l e ({ frames := 5, cells := 0, slots := 0, locals := 107 } : Room) s m args below meth c H locs 0 0 (MQ below (wQ E (some (.int res.1)) res.2) args s 0 0 (wA E)) (F0 m 45 ls []) := by
  unfold fX10_light_45_b at hf
  obtain ⟨hx, hb, hr, hml, hown, hts, hlocks, hG, hV, hZ⟩ := id B
  refine lv_iload hx hb dX10_light_45 (lv_at hl 5 rfl) ?_
  refine lv_aload_n hx hb dX10_light_47 rfl (lv_at hl 0 rfl) ?_
  refine wm_get hx hb hts wu_X10 hown hV hW (wlt_9 (rfl : wkd 70 = 9)) (wen_9 (rfl : wkd 70 = 9)) (C := RX10) (T := TX10) (N := 31) rfl 7 (by decide) (hts _ wA_721) rfl dX10_light_48 ?_
  rcases wif_e hf with ⟨hq13, hf⟩ | ⟨hq13, hf⟩
  · refine lv_icmp_ge (tgt := 71) hx hb dX10_light_51 (by decide) (fun _ => ?_) (fun h => absurd hq13 h)
    refine lv_aload_n hx hb dX10_light_71 rfl (lv_at hl 0 rfl) ?_
    obtain ⟨r15, M16, hc14, hf⟩ := wbind_p hf
    refine wc_V (As := []) (rest := []) hx hb hml hown hts hG hV hZ (wlt_9 (rfl : wkd 70 = 9)) (q := (RX10, TX10, 31)) (wen_9 (rfl : wkd 70 = 9)) rfl (cX10_goesHour_ok l E M  hc14) (cwV 0 hts gl_X10_189 rfl rfl rfl cdX10_goesHour ⟨Nat.le_of_ble_eq_true rfl, Nat.le_of_ble_eq_true rfl⟩) rfl hl.1 rfl (Nat.le_of_ble_eq_true rfl) dX10_light_72 ⟨Nat.zero_le _, Nat.zero_le _⟩ hW hS rfl (fun H locs hW hS => ?_)
    refine lv_pop hx hb dX10_light_75 rfl ?_
    obtain ⟨x17, ex17, hf⟩ := wlet_e hf
    refine lv_iinc (v := x17) (lv' := [(4, .int x17), (0, .ref (wad E 70)), (1, .int y1), (3, .int y3), (5, .int y5), (6, .int y6)]) hx hb dX10_light_76 hl (k := 3) rfl (by rw [ex17]; rfl) (by decide) rfl (fun ls hl => ?_)
    refine lv_goto (tgt := 30) hx hb dX10_light_79 (by decide) ?_
    exact hrec30 y3 x17 M16 hf _ _ _ hW hS (lv_sub hl [1, 2, 3, 0] rfl)
  · refine lv_icmp_ge (tgt := 71) hx hb dX10_light_51 (by decide) (fun h => absurd h hq13) (fun _ => ?_)
    refine lv_iload_n hx hb dX10_light_54 rfl (lv_at hl 2 rfl) ?_
    refine lv_aload_n hx hb dX10_light_55 rfl (lv_at hl 0 rfl) ?_
    refine lv_iload hx hb dX10_light_56 (lv_at hl 5 rfl) ?_
    refine lv_iload hx hb dX10_light_58 (lv_at hl 4 rfl) ?_
    obtain ⟨r19, hc18, hf⟩ := wbind_e hf
    refine wc_V (As := [.int y6, .int y5]) (rest := [.int y3]) hx hb hml hown hts hG hV hZ (wlt_9 (rfl : wkd 70 = 9)) (q := (RX10, TX10, 31)) (wen_9 (rfl : wkd 70 = 9)) rfl (cX10_brightBy_ok l E M y6 y5 hc18) (cwV 2 hts gl_X10_171 rfl rfl rfl cdX10_brightBy ⟨Nat.le_of_ble_eq_true rfl, Nat.le_of_ble_eq_true rfl⟩) rfl hl.1 rfl (Nat.le_of_ble_eq_true rfl) dX10_light_60 ⟨Nat.zero_le _, Nat.zero_le _⟩ hW hS rfl (fun H locs hW hS => ?_)
    refine lv_iadd hx hb dX10_light_63 ?_
    refine lv_topi (fun x20 ex20 => ?_)
    replace hf := wlet_y ex20 hf
    refine lv_istore_n (lv' := [(3, .int x20), (0, .ref (wad E 70)), (1, .int y1), (4, .int y4), (5, .int y5), (6, .int y6)]) hx hb dX10_light_64 rfl hl (by decide) rfl (fun ls hl => ?_)
    obtain ⟨x21, ex21, hf⟩ := wlet_e hf
    refine lv_iinc (v := x21) (lv' := [(6, .int x21), (3, .int x20), (0, .ref (wad E 70)), (1, .int y1), (4, .int y4), (5, .int y5)]) hx hb dX10_light_65 hl (k := 5) rfl (by rw [ex21]; rfl) (by decide) rfl (fun ls hl => ?_)
    refine lv_goto (tgt := 45) hx hb dX10_light_68 (by decide) ?_
    exact hrec45 x20 x21 hf _ _ _ hW hS (lv_sub hl [2, 3, 1, 4, 5, 0] rfl)
set_option maxRecDepth 100000 in
set_option maxHeartbeats 4000000 in
theorem pX10_light_45 (B : wB E p s m args meth c cX10_light 7 RX10 (some .int)) {M : wMem} {y1 : Int32} {y3 : Int32} {y4 : Int32} {y5 : Int32} {y6 : Int32} {rec30 : (Int32 × Int32 × wMem → Option (Int32 × wMem))} {res : Int32 × wMem}  (hrec30 : ∀ (y3' : Int32) (y4' : Int32) (M' : wMem), rec30 (y3', y4', M') = some res → ∀ (H : Heap) (locs : List Loc) (ls : Array Slot), wH E M' H → va_S (wA E) s.heap H locs → lv_has ls 7 [(0, .ref (wad E 70)), (1, .int y1), (3, .int y3'), (4, .int y4')] → W p l e ({ frames := 5, cells := 0, slots := 0, locals := 107 } : Room) s m args below meth c H locs 0 0 (MQ below (wQ E (some (.int res.1)) res.2) args s 0 0 (wA E)) (F0 m 30 ls [])) (hf : fX10_light_45 M rec30 y1 y3 y4 y5 y6 = some res) {H : Heap} {locs : List Loc} {ls : Array Slot} (hW : wH E M H) (hS : va_S (wA E) s.heap H locs) (hl : lv_has ls 7 [(0, .ref (wad E 70)), (1, .int y1), (3, .int y3), (4, .int y4), (5, .int y5), (6, .int y6)]) : W p l e ({ frames := 5, cells := 0, slots := 0, locals := 107 } : Room) s m args below meth c H locs 0 0 (MQ below (wQ E (some (.int res.1)) res.2) args s 0 0 (wA E)) (F0 m 45 ls []) := by
  have key := wloop_W (b := (fun rec45 t => fX10_light_45_b M rec30 rec45 y1 t.1 y4 y5 t.2)) (P := fun t => ∀ (H : Heap) (locs : List Loc) (ls : Array Slot), wH E M H → va_S (wA E) s.heap H locs → lv_has ls 7 [(0, .ref (wad E 70)), (1, .int y1), (3, .int t.1), (4, .int y4), (5, .int y5), (6, .int t.2)] → W p l e ({ frames := 5, cells := 0, slots := 0, locals := 107 } : Room) s m args below meth c H locs 0 0 (MQ below (wQ E (some (.int res.1)) res.2) args s 0 0 (wA E)) (F0 m 45 ls [])) (r := res) (fun rec hrec t hf H locs ls hW hS hl => pX10_light_45_b B  hrec30 (fun v0 v1 hf H locs ls hW hS hl => hrec (v0, v1) hf H locs ls hW hS hl) hf hW hS hl)
  exact key wfuel (y3, y6) hf H locs ls hW hS hl
set_option maxRecDepth 100000 in
set_option maxHeartbeats 4000000 in
theorem pX10_light_30_b (B : wB E p s m args meth c cX10_light 7 RX10 (some .int)) {M : wMem} {y1 : Int32} {y3 : Int32} {y4 : Int32}  {rec30 : (Int32 × Int32 × wMem → Option (Int32 × wMem))} {res : Int32 × wMem}   (hrec30 : ∀ (y3' : Int32) (y4' : Int32) (M' : wMem), rec30 (y3', y4', M') = some res → ∀ (H : Heap) (locs : List Loc) (ls : Array Slot), wH E M' H → va_S (wA E) s.heap H locs → lv_has ls 7 [(0, .ref (wad E 70)), (1, .int y1), (3, .int y3'), (4, .int y4')] → W p l e ({ frames := 5, cells := 0, slots := 0, locals := 107 } : Room) s m args below meth c H locs 0 0 (MQ below (wQ E (some (.int res.1)) res.2) args s 0 0 (wA E)) (F0 m 30 ls [])) (hf : fX10_light_30_b M  rec30 y1 y3 y4 = some res) {H : Heap} {locs : List Loc} {ls : Array Slot} (hW : wH E M H) (hS : va_S (wA E) s.heap H locs) (hl : lv_has ls 7 [(0, .ref (wad E 70)), (1, .int y1), (3, .int y3), (4, .int y4)]) : W p l e ({ frames := 5, cells := 0, slots := 0, locals := 107 } : Room) s m args below meth c H locs 0 0 (MQ below (wQ E (some (.int res.1)) res.2) args s 0 0 (wA E)) (F0 m 30 ls []) := by
  unfold fX10_light_30_b at hf
  obtain ⟨hx, hb, hr, hml, hown, hts, hlocks, hG, hV, hZ⟩ := id B
  refine lv_iload hx hb dX10_light_30 (lv_at hl 3 rfl) ?_
  refine lv_iload_n hx hb dX10_light_32 rfl (lv_at hl 1 rfl) ?_
  rcases wif_e hf with ⟨hq7, hf⟩ | ⟨hq7, hf⟩
  · refine lv_icmp_ge (tgt := 82) hx hb dX10_light_33 (by decide) (fun _ => ?_) (fun h => absurd hq7 h)
    refine lv_aload_n hx hb dX10_light_82 rfl (lv_at hl 0 rfl) ?_
    refine lv_iconst (v := 1) hx hb dX10_light_83 rfl ?_
    refine lv_iconst (v := 0) hx hb dX10_light_84 rfl ?_
    obtain ⟨M10, hc8, hf⟩ := wbind_e hf
    refine wc_V (As := [.int 1, .int 0]) (rest := []) hx hb hml hown hts hG hV hZ (wlt_9 (rfl : wkd 70 = 9)) (q := (RX10, TX10, 31)) (wen_9 (rfl : wkd 70 = 9)) rfl (cX10_passesAll_ok l E M 1 0 hc8) (cwV 2 hts gl_X10_119 rfl rfl rfl cdX10_passesAll ⟨Nat.le_of_ble_eq_true rfl, Nat.le_of_ble_eq_true rfl⟩) rfl hl.1 rfl (Nat.le_of_ble_eq_true rfl) dX10_light_85 ⟨Nat.zero_le _, Nat.zero_le _⟩ hW hS rfl (fun H locs hW hS => ?_)
    refine lv_iload_n hx hb dX10_light_88 rfl (lv_at hl 2 rfl) ?_
    have hres := Option.some.inj hf
    subst hres
    exact W.iret hx hb hr (wr_q hG hV hZ hW hS) hS.2.2 dX10_light_89
  · refine lv_icmp_ge (tgt := 82) hx hb dX10_light_33 (by decide) (fun h => absurd h hq7) (fun _ => ?_)
    refine lv_aload_n hx hb dX10_light_36 rfl (lv_at hl 0 rfl) ?_
    obtain ⟨r12, hc11, hf⟩ := wbind_e hf
    refine wc_V (As := []) (rest := []) hx hb hml hown hts hG hV hZ (wlt_9 (rfl : wkd 70 = 9)) (q := (RX10, TX10, 31)) (wen_9 (rfl : wkd 70 = 9)) rfl (cX10_flowNow_ok l E M  hc11) (cwV 0 hts gl_X10_168 rfl rfl rfl cdX10_flowNow ⟨Nat.le_of_ble_eq_true rfl, Nat.le_of_ble_eq_true rfl⟩) rfl hl.1 rfl (Nat.le_of_ble_eq_true rfl) dX10_light_37 ⟨Nat.zero_le _, Nat.zero_le _⟩ hW hS rfl (fun H locs hW hS => ?_)
    refine lv_istore (lv' := [(5, .int r12), (0, .ref (wad E 70)), (1, .int y1), (3, .int y3), (4, .int y4)]) hx hb dX10_light_40 hl (by decide) rfl (fun ls hl => ?_)
    refine lv_iconst (v := 0) hx hb dX10_light_42 rfl ?_
    refine lv_istore (lv' := [(6, .int 0), (5, .int r12), (0, .ref (wad E 70)), (1, .int y1), (3, .int y3), (4, .int y4)]) hx hb dX10_light_43 hl (by decide) rfl (fun ls hl => ?_)
    exact pX10_light_45 B  hrec30 hf hW hS (lv_sub hl [2, 3, 4, 5, 1, 0] rfl)
set_option maxRecDepth 100000 in
set_option maxHeartbeats 4000000 in
theorem pX10_light_30 (B : wB E p s m args meth c cX10_light 7 RX10 (some .int)) {M : wMem} {y1 : Int32} {y3 : Int32} {y4 : Int32}  {res : Int32 × wMem}   (hf : fX10_light_30 M  y1 y3 y4 = some res) {H : Heap} {locs : List Loc} {ls : Array Slot} (hW : wH E M H) (hS : va_S (wA E) s.heap H locs) (hl : lv_has ls 7 [(0, .ref (wad E 70)), (1, .int y1), (3, .int y3), (4, .int y4)]) : W p l e ({ frames := 5, cells := 0, slots := 0, locals := 107 } : Room) s m args below meth c H locs 0 0 (MQ below (wQ E (some (.int res.1)) res.2) args s 0 0 (wA E)) (F0 m 30 ls []) := by
  have key := wloop_W (b := (fun rec30 t => fX10_light_30_b t.2.2  rec30 y1 t.1 t.2.1)) (P := fun t => ∀ (H : Heap) (locs : List Loc) (ls : Array Slot), wH E t.2.2 H → va_S (wA E) s.heap H locs → lv_has ls 7 [(0, .ref (wad E 70)), (1, .int y1), (3, .int t.1), (4, .int t.2.1)] → W p l e ({ frames := 5, cells := 0, slots := 0, locals := 107 } : Room) s m args below meth c H locs 0 0 (MQ below (wQ E (some (.int res.1)) res.2) args s 0 0 (wA E)) (F0 m 30 ls [])) (r := res) (fun rec hrec t hf H locs ls hW hS hl => pX10_light_30_b B   (fun v0 v1 v2 hf H locs ls hW hS hl => hrec (v0, v1, v2) hf H locs ls hW hS hl) hf hW hS hl)
  exact key wfuel (y3, y4, M) hf H locs ls hW hS hl
set_option maxRecDepth 100000 in
set_option maxHeartbeats 4000000 in
theorem pX10_light (B : wB E p s m args meth c cX10_light 7 RX10 (some .int)) {M : wMem} {a1 : Int32}  {res : Int32 × wMem} (hf : fX10_light M a1 = some res) {H : Heap} {locs : List Loc} {ls : Array Slot} (hW : wH E M H) (hS : va_S (wA E) s.heap H locs) (hl : lv_has ls 7 [(0, .ref (wad E 70)), (1, .int a1)]) : W p l e ({ frames := 5, cells := 0, slots := 0, locals := 107 } : Room) s m args below meth c H locs 0 0 (MQ below (wQ E (some (.int res.1)) res.2) args s 0 0 (wA E)) (F0 m 0 ls []) := by
  unfold fX10_light at hf
  obtain ⟨hx, hb, hr, hml, hown, hts, hlocks, hG, hV, hZ⟩ := id B
  refine lv_iload_n hx hb dX10_light_0 rfl (lv_at hl 1 rfl) ?_
  refine lv_iconst (v := 0) hx hb dX10_light_1 rfl ?_
  refine lv_sipush (v := 200) hx hb dX10_light_2 (by decide) ?_
  obtain ⟨r2, hc1, hf⟩ := wbind_e hf
  refine wc_S (As := [.int a1, .int 0, .int 200]) (rest := []) hx hb hml hown hts hG hV hZ (cX10_bound_ok l E M a1 0 200 hc1) (va_cwS 3 hts gl_X10_76 rfl rfl rfl cdX10_bound ⟨Nat.le_of_ble_eq_true rfl, Nat.le_of_ble_eq_true rfl⟩) rfl hl.1 rfl (Nat.le_of_ble_eq_true rfl) dX10_light_5 ⟨Nat.zero_le _, Nat.zero_le _⟩ hW hS rfl (fun H locs hW hS => ?_)
  refine lv_istore_n (lv' := [(2, .int r2), (0, .ref (wad E 70)), (1, .int a1)]) hx hb dX10_light_8 rfl hl (by decide) rfl (fun ls hl => ?_)
  refine lv_iload_n hx hb dX10_light_9 rfl (lv_at hl 0 rfl) ?_
  rcases wif_e hf with ⟨hq3, hf⟩ | ⟨hq3, hf⟩
  · refine lv_if_eq (tgt := 19) hx hb dX10_light_10 (by decide) (fun _ => ?_) (fun h => absurd hq3 h)
    refine lv_aload_n hx hb dX10_light_19 rfl (lv_at hl 1 rfl) ?_
    refine lv_iconst (v := 1) hx hb dX10_light_20 rfl ?_
    refine lv_iconst (v := 1) hx hb dX10_light_21 rfl ?_
    obtain ⟨M6, hc4, hf⟩ := wbind_e hf
    refine wc_V (As := [.int 1, .int 1]) (rest := []) hx hb hml hown hts hG hV hZ (wlt_9 (rfl : wkd 70 = 9)) (q := (RX10, TX10, 31)) (wen_9 (rfl : wkd 70 = 9)) rfl (cX10_passesAll_ok l E M 1 1 hc4) (cwV 2 hts gl_X10_119 rfl rfl rfl cdX10_passesAll ⟨Nat.le_of_ble_eq_true rfl, Nat.le_of_ble_eq_true rfl⟩) rfl hl.1 rfl (Nat.le_of_ble_eq_true rfl) dX10_light_22 ⟨Nat.zero_le _, Nat.zero_le _⟩ hW hS rfl (fun H locs hW hS => ?_)
    refine lv_iconst (v := 0) hx hb dX10_light_25 rfl ?_
    refine lv_istore_n (lv' := [(3, .int 0), (2, .int r2), (0, .ref (wad E 70)), (1, .int a1)]) hx hb dX10_light_26 rfl hl (by decide) rfl (fun ls hl => ?_)
    refine lv_iconst (v := 0) hx hb dX10_light_27 rfl ?_
    refine lv_istore (lv' := [(4, .int 0), (3, .int 0), (2, .int r2), (0, .ref (wad E 70)), (1, .int a1)]) hx hb dX10_light_28 hl (by decide) rfl (fun ls hl => ?_)
    exact pX10_light_30 B   hf hW hS (lv_sub hl [3, 4, 1, 0] rfl)
  · refine lv_if_eq (tgt := 19) hx hb dX10_light_10 (by decide) (fun h => absurd h hq3) (fun _ => ?_)
    refine lv_aload_n hx hb dX10_light_13 rfl (lv_at hl 1 rfl) ?_
    refine lv_iload_n hx hb dX10_light_14 rfl (lv_at hl 0 rfl) ?_
    obtain ⟨r23, M24, hc22, hf⟩ := wbind_p hf
    refine wc_V (As := [.int r2]) (rest := []) hx hb hml hown hts hG hV hZ (wlt_9 (rfl : wkd 70 = 9)) (q := (RX10, TX10, 31)) (wen_9 (rfl : wkd 70 = 9)) rfl (cX10_no_ok l E M r2 hc22) (cwV 1 hts gl_X10_83 rfl rfl rfl cdX10_no ⟨Nat.le_of_ble_eq_true rfl, Nat.le_of_ble_eq_true rfl⟩) rfl hl.1 rfl (Nat.le_of_ble_eq_true rfl) dX10_light_15 ⟨Nat.zero_le _, Nat.zero_le _⟩ hW hS rfl (fun H locs hW hS => ?_)
    have hres := Option.some.inj hf
    subst hres
    exact W.iret hx hb hr (wr_q hG hV hZ hW hS) hS.2.2 dX10_light_18
theorem cX10_light_ok (l : Launch) (E : wE) (M : wMem) (a1 : Int32) {res : Int32 × wMem} (hf : fX10_light M a1 = some res) : wMet l yX10_light (wsM yX10_light cX10_light 7 (some .int)) ({ frames := 5, cells := 0, slots := 0, locals := 107 } : Room) E M [.ref (wad E 70), .int a1] (some (.int res.1)) res.2 :=
  wc_of (cc := cX10_light) (maxL := 7) (ret := (some .int)) (by decide) (Nat.le_of_ble_eq_true rfl) (fun _ _ _ _ _ _ _ _ B hW hl => pX10_light B  hf hW va_S.rf hl)
end
theorem cdX10_keeps : yX10_keeps.cls = RX10 ∧ yX10_keeps.cls ≠ "java/lang/invoke/MethodHandle" ∧ yX10_keeps.cls ≠ "java/lang/invoke/VarHandle" ∧ (parseMethodDescriptor yX10_keeps.desc).map (fun d => d.parameters.length) = some 1 := by decide +kernel
section
variable {p : Program} {l : Launch} {e : Env} {s : State} {m : MethodId} {args : Array Value} {below : List Frame} {meth : Method} {c : Code} {E : wE}
set_option maxRecDepth 100000 in
set_option maxHeartbeats 4000000 in
theorem pX10_keeps_70 (B : wB E p s m args meth c cX10_keeps 6 RX10 (some .int)) {M : wMem} {y1 : Int32} {y3 : Int32} {y4 : Int32} {y5 : Int32} {rec30 : (Int32 × Int32 × wMem → Option (Int32 × wMem))} {rec39 : (Int32 × Int32 × wMem → Option (Int32 × wMem))} {res : Int32 × wMem}  (hrec30 : ∀ (y3' : Int32) (y4' : Int32) (M' : wMem), rec30 (y3', y4', M') = some res → ∀ (H : Heap) (locs : List Loc) (ls : Array Slot), wH E M' H → va_S (wA E) s.heap H locs → lv_has ls 6 [(0, .ref (wad E 70)), (1, .int y1), (3, .int y3'), (4, .int y4')] → W p l e ({ frames := 5, cells := 0, slots := 0, locals := 107 } : Room) s m args below meth c H locs 0 0 (MQ below (wQ E (some (.int res.1)) res.2) args s 0 0 (wA E)) (F0 m 30 ls [])) (hrec39 : ∀ (y3' : Int32) (y5' : Int32) (M' : wMem), rec39 (y3', y5', M') = some res → ∀ (H : Heap) (locs : List Loc) (ls : Array Slot), wH E M' H → va_S (wA E) s.heap H locs → lv_has ls 6 [(0, .ref (wad E 70)), (1, .int y1), (3, .int y3'), (4, .int y4), (5, .int y5')] → W p l e ({ frames := 5, cells := 0, slots := 0, locals := 107 } : Room) s m args below meth c H locs 0 0 (MQ below (wQ E (some (.int res.1)) res.2) args s 0 0 (wA E)) (F0 m 39 ls [])) (hf : fX10_keeps_70 M rec30 rec39 y1 y3 y4 y5 = some res) {H : Heap} {locs : List Loc} {ls : Array Slot} (hW : wH E M H) (hS : va_S (wA E) s.heap H locs) (hl : lv_has ls 6 [(0, .ref (wad E 70)), (1, .int y1), (3, .int y3), (4, .int y4), (5, .int y5)]) : W p l e ({ frames := 5, cells := 0, slots := 0, locals := 107 } : Room) s m args below meth c H locs 0 0 (MQ below (wQ E (some (.int res.1)) res.2) args s 0 0 (wA E)) (F0 m 70 ls []) := by
  unfold fX10_keeps_70 at hf
  obtain ⟨hx, hb, hr, hml, hown, hts, hlocks, hG, hV, hZ⟩ := id B
  obtain ⟨x22, ex22, hf⟩ := wlet_e hf
  refine lv_iinc (v := x22) (lv' := [(5, .int x22), (0, .ref (wad E 70)), (1, .int y1), (3, .int y3), (4, .int y4)]) hx hb dX10_keeps_70 hl (k := 4) rfl (by rw [ex22]; rfl) (by decide) rfl (fun ls hl => ?_)
  refine lv_goto (tgt := 39) hx hb dX10_keeps_73 (by decide) ?_
  exact hrec39 y3 x22 M hf _ _ _ hW hS (lv_sub hl [1, 2, 3, 4, 0] rfl)
set_option maxRecDepth 100000 in
set_option maxHeartbeats 4000000 in
theorem pX10_keeps_39_b (B : wB E p s m args meth c cX10_keeps 6 RX10 (some .int)) {M : wMem} {y1 : Int32} {y3 : Int32} {y4 : Int32} {y5 : Int32} {rec30 : (Int32 × Int32 × wMem → Option (Int32 × wMem))} {rec39 : (Int32 × Int32 × wMem → Option (Int32 × wMem))} {res : Int32 × wMem}  (hrec30 : ∀ (y3' : Int32) (y4' : Int32) (M' : wMem), rec30 (y3', y4', M') = some res → ∀ (H : Heap) (locs : List Loc) (ls : Array Slot), wH E M' H → va_S (wA E) s.heap H locs → lv_has ls 6 [(0, .ref (wad E 70)), (1, .int y1), (3, .int y3'), (4, .int y4')] → W p l e ({ frames := 5, cells := 0, slots := 0, locals := 107 } : Room) s m args below meth c H locs 0 0 (MQ below (wQ E (some (.int res.1)) res.2) args s 0 0 (wA E)) (F0 m 30 ls [])) (hrec39 : ∀ (y3' : Int32) (y5' : Int32) (M' : wMem), rec39 (y3', y5', M') = some res → ∀ (H : Heap) (locs : List Loc) (ls : Array Slot), wH E M' H → va_S (wA E) s.heap H locs → lv_has ls 6 [(0, .ref (wad E 70)), (1, .int y1), (3, .int y3'), (4, .int y4), (5, .int y5')] → W p l e ({ frames := 5, cells := 0, slots := 0, locals := 107 } : Room) s m args below meth c H locs 0 0 (MQ below (wQ E (some (.int res.1)) res.2) args s 0 0 (wA E)) (F0 m 39 ls [])) (hf : fX10_keeps_39_b M rec30 rec39 y1 y3 y4 y5 = some res) {H : Heap} {locs : List Loc} {ls : Array Slot} (hW : wH E M H) (hS : va_S (wA E) s.heap H locs) (hl : lv_has ls 6 [(0, .ref (wad E 70)), (1, .int y1), (3, .int y3), (4, .int y4), (5, .int y5)]) : W p l e ({ frames := 5, cells := 0, slots := 0, locals := 107 } : Room) s m args below meth c H locs 0 0 (MQ below (wQ E (some (.int res.1)) res.2) args s 0 0 (wA E)) (F0 m 39 ls []) := by
  unfold fX10_keeps_39_b at hf
  obtain ⟨hx, hb, hr, hml, hown, hts, hlocks, hG, hV, hZ⟩ := id B
  refine lv_iload hx hb dX10_keeps_39 (lv_at hl 4 rfl) ?_
  refine lv_aload_n hx hb dX10_keeps_41 rfl (lv_at hl 0 rfl) ?_
  refine wm_get hx hb hts wu_X10 hown hV hW (wlt_9 (rfl : wkd 70 = 9)) (wen_9 (rfl : wkd 70 = 9)) (C := RX10) (T := TX10) (N := 31) rfl 7 (by decide) (hts _ wA_721) rfl dX10_keeps_42 ?_
  rcases wif_e hf with ⟨hq11, hf⟩ | ⟨hq11, hf⟩
  · refine lv_icmp_ge (tgt := 76) hx hb dX10_keeps_45 (by decide) (fun _ => ?_) (fun h => absurd hq11 h)
    refine lv_aload_n hx hb dX10_keeps_76 rfl (lv_at hl 0 rfl) ?_
    obtain ⟨r13, M14, hc12, hf⟩ := wbind_p hf
    refine wc_V (As := []) (rest := []) hx hb hml hown hts hG hV hZ (wlt_9 (rfl : wkd 70 = 9)) (q := (RX10, TX10, 31)) (wen_9 (rfl : wkd 70 = 9)) rfl (cX10_goesHour_ok l E M  hc12) (cwV 0 hts gl_X10_189 rfl rfl rfl cdX10_goesHour ⟨Nat.le_of_ble_eq_true rfl, Nat.le_of_ble_eq_true rfl⟩) rfl hl.1 rfl (Nat.le_of_ble_eq_true rfl) dX10_keeps_77 ⟨Nat.zero_le _, Nat.zero_le _⟩ hW hS rfl (fun H locs hW hS => ?_)
    refine lv_pop hx hb dX10_keeps_80 rfl ?_
    obtain ⟨x15, ex15, hf⟩ := wlet_e hf
    refine lv_iinc (v := x15) (lv' := [(4, .int x15), (0, .ref (wad E 70)), (1, .int y1), (3, .int y3), (5, .int y5)]) hx hb dX10_keeps_81 hl (k := 3) rfl (by rw [ex15]; rfl) (by decide) rfl (fun ls hl => ?_)
    refine lv_goto (tgt := 30) hx hb dX10_keeps_84 (by decide) ?_
    exact hrec30 y3 x15 M14 hf _ _ _ hW hS (lv_sub hl [1, 2, 3, 0] rfl)
  · refine lv_icmp_ge (tgt := 76) hx hb dX10_keeps_45 (by decide) (fun h => absurd h hq11) (fun _ => ?_)
    refine lv_aload_n hx hb dX10_keeps_48 rfl (lv_at hl 0 rfl) ?_
    refine wm_get hx hb hts wu_X10 hown hV hW (wlt_9 (rfl : wkd 70 = 9)) (wen_9 (rfl : wkd 70 = 9)) (C := RX10) (T := TX10) (N := 31) rfl 5 (by decide) (hts _ wA_719) rfl dX10_keeps_49 ?_
    refine lv_iload hx hb dX10_keeps_52 (lv_at hl 4 rfl) ?_
    obtain ⟨hi16, hf⟩ := wgi_e hf
    refine wm_iald hx hb hV hW (rfl : wkd 76 = 21) (n := 12) rfl hi16 dX10_keeps_54 ?_
    rcases wif_e hf with ⟨hq17, hf⟩ | ⟨hq17, hf⟩
    · refine lv_if_ne (tgt := 61) hx hb dX10_keeps_55 (by decide) (fun h => absurd hq17 h) (fun _ => ?_)
      refine lv_goto (tgt := 70) hx hb dX10_keeps_58 (by decide) ?_
      exact pX10_keeps_70 B  hrec30 hrec39 hf hW hS (lv_sub hl [0, 1, 2, 3, 4] rfl)
    · refine lv_if_ne (tgt := 61) hx hb dX10_keeps_55 (by decide) (fun _ => ?_) (fun h => absurd h hq17)
      refine lv_aload_n hx hb dX10_keeps_61 rfl (lv_at hl 0 rfl) ?_
      refine lv_iload hx hb dX10_keeps_62 (lv_at hl 4 rfl) ?_
      obtain ⟨M20, hc18, hf⟩ := wbind_e hf
      refine wc_V (As := [.int y5]) (rest := []) hx hb hml hown hts hG hV hZ (wlt_9 (rfl : wkd 70 = 9)) (q := (RX10, TX10, 31)) (wen_9 (rfl : wkd 70 = 9)) rfl (cX10_putsAnew_ok l E M y5 hc18) (cwV 1 hts gl_X10_192 rfl rfl rfl cdX10_putsAnew ⟨Nat.le_of_ble_eq_true rfl, Nat.le_of_ble_eq_true rfl⟩) rfl hl.1 rfl (Nat.le_of_ble_eq_true rfl) dX10_keeps_64 ⟨Nat.zero_le _, Nat.zero_le _⟩ hW hS rfl (fun H locs hW hS => ?_)
      obtain ⟨x21, ex21, hf⟩ := wlet_e hf
      refine lv_iinc (v := x21) (lv' := [(3, .int x21), (0, .ref (wad E 70)), (1, .int y1), (4, .int y4), (5, .int y5)]) hx hb dX10_keeps_67 hl (k := 2) rfl (by rw [ex21]; rfl) (by decide) rfl (fun ls hl => ?_)
      exact pX10_keeps_70 B  hrec30 hrec39 hf hW hS (lv_sub hl [1, 2, 0, 3, 4] rfl)
set_option maxRecDepth 100000 in
set_option maxHeartbeats 4000000 in
theorem pX10_keeps_39 (B : wB E p s m args meth c cX10_keeps 6 RX10 (some .int)) {M : wMem} {y1 : Int32} {y3 : Int32} {y4 : Int32} {y5 : Int32} {rec30 : (Int32 × Int32 × wMem → Option (Int32 × wMem))} {res : Int32 × wMem}  (hrec30 : ∀ (y3' : Int32) (y4' : Int32) (M' : wMem), rec30 (y3', y4', M') = some res → ∀ (H : Heap) (locs : List Loc) (ls : Array Slot), wH E M' H → va_S (wA E) s.heap H locs → lv_has ls 6 [(0, .ref (wad E 70)), (1, .int y1), (3, .int y3'), (4, .int y4')] → W p l e ({ frames := 5, cells := 0, slots := 0, locals := 107 } : Room) s m args below meth c H locs 0 0 (MQ below (wQ E (some (.int res.1)) res.2) args s 0 0 (wA E)) (F0 m 30 ls [])) (hf : fX10_keeps_39 M rec30 y1 y3 y4 y5 = some res) {H : Heap} {locs : List Loc} {ls : Array Slot} (hW : wH E M H) (hS : va_S (wA E) s.heap H locs) (hl : lv_has ls 6 [(0, .ref (wad E 70)), (1, .int y1), (3, .int y3), (4, .int y4), (5, .int y5)]) : W p l e ({ frames := 5, cells := 0, slots := 0, locals := 107 } : Room) s m args below meth c H locs 0 0 (MQ below (wQ E (some (.int res.1)) res.2) args s 0 0 (wA E)) (F0 m 39 ls []) := by
  have key := wloop_W (b := (fun rec39 t => fX10_keeps_39_b t.2.2 rec30 rec39 y1 t.1 y4 t.2.1)) (P := fun t => ∀ (H : Heap) (locs : List Loc) (ls : Array Slot), wH E t.2.2 H → va_S (wA E) s.heap H locs → lv_has ls 6 [(0, .ref (wad E 70)), (1, .int y1), (3, .int t.1), (4, .int y4), (5, .int t.2.1)] → W p l e ({ frames := 5, cells := 0, slots := 0, locals := 107 } : Room) s m args below meth c H locs 0 0 (MQ below (wQ E (some (.int res.1)) res.2) args s 0 0 (wA E)) (F0 m 39 ls [])) (r := res) (fun rec hrec t hf H locs ls hW hS hl => pX10_keeps_39_b B  hrec30 (fun v0 v1 v2 hf H locs ls hW hS hl => hrec (v0, v1, v2) hf H locs ls hW hS hl) hf hW hS hl)
  exact key wfuel (y3, y5, M) hf H locs ls hW hS hl
set_option maxRecDepth 100000 in
set_option maxHeartbeats 4000000 in
theorem pX10_keeps_30_b (B : wB E p s m args meth c cX10_keeps 6 RX10 (some .int)) {M : wMem} {y1 : Int32} {y3 : Int32} {y4 : Int32}  {rec30 : (Int32 × Int32 × wMem → Option (Int32 × wMem))} {res : Int32 × wMem}   (hrec30 : ∀ (y3' : Int32) (y4' : Int32) (M' : wMem), rec30 (y3', y4', M') = some res → ∀ (H : Heap) (locs : List Loc) (ls : Array Slot), wH E M' H → va_S (wA E) s.heap H locs → lv_has ls 6 [(0, .ref (wad E 70)), (1, .int y1), (3, .int y3'), (4, .int y4')] → W p l e ({ frames := 5, cells := 0, slots := 0, locals := 107 } : Room) s m args below meth c H locs 0 0 (MQ below (wQ E (some (.int res.1)) res.2) args s 0 0 (wA E)) (F0 m 30 ls [])) (hf : fX10_keeps_30_b M  rec30 y1 y3 y4 = some res) {H : Heap} {locs : List Loc} {ls : Array Slot} (hW : wH E M H) (hS : va_S (wA E) s.heap H locs) (hl : lv_has ls 6 [(0, .ref (wad E 70)), (1, .int y1), (3, .int y3), (4, .int y4)]) : W p l e ({ frames := 5, cells := 0, slots := 0, locals := 107 } : Room) s m args below meth c H locs 0 0 (MQ below (wQ E (some (.int res.1)) res.2) args s 0 0 (wA E)) (F0 m 30 ls []) := by
  unfold fX10_keeps_30_b at hf
  obtain ⟨hx, hb, hr, hml, hown, hts, hlocks, hG, hV, hZ⟩ := id B
  refine lv_iload hx hb dX10_keeps_30 (lv_at hl 3 rfl) ?_
  refine lv_iload_n hx hb dX10_keeps_32 rfl (lv_at hl 1 rfl) ?_
  rcases wif_e hf with ⟨hq7, hf⟩ | ⟨hq7, hf⟩
  · refine lv_icmp_ge (tgt := 87) hx hb dX10_keeps_33 (by decide) (fun _ => ?_) (fun h => absurd hq7 h)
    refine lv_aload_n hx hb dX10_keeps_87 rfl (lv_at hl 0 rfl) ?_
    refine lv_iconst (v := 1) hx hb dX10_keeps_88 rfl ?_
    refine lv_iconst (v := 0) hx hb dX10_keeps_89 rfl ?_
    obtain ⟨M10, hc8, hf⟩ := wbind_e hf
    refine wc_V (As := [.int 1, .int 0]) (rest := []) hx hb hml hown hts hG hV hZ (wlt_9 (rfl : wkd 70 = 9)) (q := (RX10, TX10, 31)) (wen_9 (rfl : wkd 70 = 9)) rfl (cX10_passesAll_ok l E M 1 0 hc8) (cwV 2 hts gl_X10_119 rfl rfl rfl cdX10_passesAll ⟨Nat.le_of_ble_eq_true rfl, Nat.le_of_ble_eq_true rfl⟩) rfl hl.1 rfl (Nat.le_of_ble_eq_true rfl) dX10_keeps_90 ⟨Nat.zero_le _, Nat.zero_le _⟩ hW hS rfl (fun H locs hW hS => ?_)
    refine lv_iload_n hx hb dX10_keeps_93 rfl (lv_at hl 2 rfl) ?_
    have hres := Option.some.inj hf
    subst hres
    exact W.iret hx hb hr (wr_q hG hV hZ hW hS) hS.2.2 dX10_keeps_94
  · refine lv_icmp_ge (tgt := 87) hx hb dX10_keeps_33 (by decide) (fun h => absurd h hq7) (fun _ => ?_)
    refine lv_iconst (v := 0) hx hb dX10_keeps_36 rfl ?_
    refine lv_istore (lv' := [(5, .int 0), (0, .ref (wad E 70)), (1, .int y1), (3, .int y3), (4, .int y4)]) hx hb dX10_keeps_37 hl (by decide) rfl (fun ls hl => ?_)
    exact pX10_keeps_39 B  hrec30 hf hW hS (lv_sub hl [1, 2, 3, 4, 0] rfl)
set_option maxRecDepth 100000 in
set_option maxHeartbeats 4000000 in
theorem pX10_keeps_30 (B : wB E p s m args meth c cX10_keeps 6 RX10 (some .int)) {M : wMem} {y1 : Int32} {y3 : Int32} {y4 : Int32}  {res : Int32 × wMem}   (hf : fX10_keeps_30 M  y1 y3 y4 = some res) {H : Heap} {locs : List Loc} {ls : Array Slot} (hW : wH E M H) (hS : va_S (wA E) s.heap H locs) (hl : lv_has ls 6 [(0, .ref (wad E 70)), (1, .int y1), (3, .int y3), (4, .int y4)]) : W p l e ({ frames := 5, cells := 0, slots := 0, locals := 107 } : Room) s m args below meth c H locs 0 0 (MQ below (wQ E (some (.int res.1)) res.2) args s 0 0 (wA E)) (F0 m 30 ls []) := by
  have key := wloop_W (b := (fun rec30 t => fX10_keeps_30_b t.2.2  rec30 y1 t.1 t.2.1)) (P := fun t => ∀ (H : Heap) (locs : List Loc) (ls : Array Slot), wH E t.2.2 H → va_S (wA E) s.heap H locs → lv_has ls 6 [(0, .ref (wad E 70)), (1, .int y1), (3, .int t.1), (4, .int t.2.1)] → W p l e ({ frames := 5, cells := 0, slots := 0, locals := 107 } : Room) s m args below meth c H locs 0 0 (MQ below (wQ E (some (.int res.1)) res.2) args s 0 0 (wA E)) (F0 m 30 ls [])) (r := res) (fun rec hrec t hf H locs ls hW hS hl => pX10_keeps_30_b B   (fun v0 v1 v2 hf H locs ls hW hS hl => hrec (v0, v1, v2) hf H locs ls hW hS hl) hf hW hS hl)
  exact key wfuel (y3, y4, M) hf H locs ls hW hS hl
set_option maxRecDepth 100000 in
set_option maxHeartbeats 4000000 in
theorem pX10_keeps (B : wB E p s m args meth c cX10_keeps 6 RX10 (some .int)) {M : wMem} {a1 : Int32}  {res : Int32 × wMem} (hf : fX10_keeps M a1 = some res) {H : Heap} {locs : List Loc} {ls : Array Slot} (hW : wH E M H) (hS : va_S (wA E) s.heap H locs) (hl : lv_has ls 6 [(0, .ref (wad E 70)), (1, .int a1)]) : W p l e ({ frames := 5, cells := 0, slots := 0, locals := 107 } : Room) s m args below meth c H locs 0 0 (MQ below (wQ E (some (.int res.1)) res.2) args s 0 0 (wA E)) (F0 m 0 ls []) := by
  unfold fX10_keeps at hf
  obtain ⟨hx, hb, hr, hml, hown, hts, hlocks, hG, hV, hZ⟩ := id B
  refine lv_iload_n hx hb dX10_keeps_0 rfl (lv_at hl 1 rfl) ?_
  refine lv_iconst (v := 1) hx hb dX10_keeps_1 rfl ?_
  refine lv_sipush (v := 200) hx hb dX10_keeps_2 (by decide) ?_
  obtain ⟨r2, hc1, hf⟩ := wbind_e hf
  refine wc_S (As := [.int a1, .int 1, .int 200]) (rest := []) hx hb hml hown hts hG hV hZ (cX10_bound_ok l E M a1 1 200 hc1) (va_cwS 3 hts gl_X10_76 rfl rfl rfl cdX10_bound ⟨Nat.le_of_ble_eq_true rfl, Nat.le_of_ble_eq_true rfl⟩) rfl hl.1 rfl (Nat.le_of_ble_eq_true rfl) dX10_keeps_5 ⟨Nat.zero_le _, Nat.zero_le _⟩ hW hS rfl (fun H locs hW hS => ?_)
  refine lv_istore_n (lv' := [(2, .int r2), (0, .ref (wad E 70)), (1, .int a1)]) hx hb dX10_keeps_8 rfl hl (by decide) rfl (fun ls hl => ?_)
  refine lv_iload_n hx hb dX10_keeps_9 rfl (lv_at hl 0 rfl) ?_
  rcases wif_e hf with ⟨hq3, hf⟩ | ⟨hq3, hf⟩
  · refine lv_if_eq (tgt := 19) hx hb dX10_keeps_10 (by decide) (fun _ => ?_) (fun h => absurd hq3 h)
    refine lv_aload_n hx hb dX10_keeps_19 rfl (lv_at hl 1 rfl) ?_
    refine lv_iconst (v := 1) hx hb dX10_keeps_20 rfl ?_
    refine lv_iconst (v := 1) hx hb dX10_keeps_21 rfl ?_
    obtain ⟨M6, hc4, hf⟩ := wbind_e hf
    refine wc_V (As := [.int 1, .int 1]) (rest := []) hx hb hml hown hts hG hV hZ (wlt_9 (rfl : wkd 70 = 9)) (q := (RX10, TX10, 31)) (wen_9 (rfl : wkd 70 = 9)) rfl (cX10_passesAll_ok l E M 1 1 hc4) (cwV 2 hts gl_X10_119 rfl rfl rfl cdX10_passesAll ⟨Nat.le_of_ble_eq_true rfl, Nat.le_of_ble_eq_true rfl⟩) rfl hl.1 rfl (Nat.le_of_ble_eq_true rfl) dX10_keeps_22 ⟨Nat.zero_le _, Nat.zero_le _⟩ hW hS rfl (fun H locs hW hS => ?_)
    refine lv_iconst (v := 0) hx hb dX10_keeps_25 rfl ?_
    refine lv_istore_n (lv' := [(3, .int 0), (2, .int r2), (0, .ref (wad E 70)), (1, .int a1)]) hx hb dX10_keeps_26 rfl hl (by decide) rfl (fun ls hl => ?_)
    refine lv_iconst (v := 0) hx hb dX10_keeps_27 rfl ?_
    refine lv_istore (lv' := [(4, .int 0), (3, .int 0), (2, .int r2), (0, .ref (wad E 70)), (1, .int a1)]) hx hb dX10_keeps_28 hl (by decide) rfl (fun ls hl => ?_)
    exact pX10_keeps_30 B   hf hW hS (lv_sub hl [3, 4, 1, 0] rfl)
  · refine lv_if_eq (tgt := 19) hx hb dX10_keeps_10 (by decide) (fun h => absurd h hq3) (fun _ => ?_)
    refine lv_aload_n hx hb dX10_keeps_13 rfl (lv_at hl 1 rfl) ?_
    refine lv_iload_n hx hb dX10_keeps_14 rfl (lv_at hl 0 rfl) ?_
    obtain ⟨r24, M25, hc23, hf⟩ := wbind_p hf
    refine wc_V (As := [.int r2]) (rest := []) hx hb hml hown hts hG hV hZ (wlt_9 (rfl : wkd 70 = 9)) (q := (RX10, TX10, 31)) (wen_9 (rfl : wkd 70 = 9)) rfl (cX10_no_ok l E M r2 hc23) (cwV 1 hts gl_X10_83 rfl rfl rfl cdX10_no ⟨Nat.le_of_ble_eq_true rfl, Nat.le_of_ble_eq_true rfl⟩) rfl hl.1 rfl (Nat.le_of_ble_eq_true rfl) dX10_keeps_15 ⟨Nat.zero_le _, Nat.zero_le _⟩ hW hS rfl (fun H locs hW hS => ?_)
    have hres := Option.some.inj hf
    subst hres
    exact W.iret hx hb hr (wr_q hG hV hZ hW hS) hS.2.2 dX10_keeps_18
theorem cX10_keeps_ok (l : Launch) (E : wE) (M : wMem) (a1 : Int32) {res : Int32 × wMem} (hf : fX10_keeps M a1 = some res) : wMet l yX10_keeps (wsM yX10_keeps cX10_keeps 6 (some .int)) ({ frames := 5, cells := 0, slots := 0, locals := 107 } : Room) E M [.ref (wad E 70), .int a1] (some (.int res.1)) res.2 :=
  wc_of (cc := cX10_keeps) (maxL := 6) (ret := (some .int)) (by decide) (Nat.le_of_ble_eq_true rfl) (fun _ _ _ _ _ _ _ _ B hW hl => pX10_keeps B  hf hW va_S.rf hl)
end
theorem cdX10_isLiveBy : yX10_isLiveBy.cls = RX10 ∧ yX10_isLiveBy.cls ≠ "java/lang/invoke/MethodHandle" ∧ yX10_isLiveBy.cls ≠ "java/lang/invoke/VarHandle" ∧ (parseMethodDescriptor yX10_isLiveBy.desc).map (fun d => d.parameters.length) = some 1 := by decide +kernel
section
variable {p : Program} {l : Launch} {e : Env} {s : State} {m : MethodId} {args : Array Value} {below : List Frame} {meth : Method} {c : Code} {E : wE}
set_option maxRecDepth 100000 in
set_option maxHeartbeats 4000000 in
theorem pX10_isLiveBy_66 (B : wB E p s m args meth c cX10_isLiveBy 5 RX10 (some .boolean)) {M : wMem} {y2 : Int32}  {res : Bool × wMem}   (hf : fX10_isLiveBy_66 M  y2 = some res) {H : Heap} {locs : List Loc} {ls : Array Slot} (hW : wH E M H) (hS : va_S (wA E) s.heap H locs) (hl : lv_has ls 5 [(0, .ref (wad E 70)), (2, .int y2)]) : W p l e ({ frames := 5, cells := 0, slots := 0, locals := 107 } : Room) s m args below meth c H locs 0 0 (MQ below (wQ E (some (.int (wb res.1))) res.2) args s 0 0 (wA E)) (F0 m 66 ls []) := by
  unfold fX10_isLiveBy_66 at hf
  obtain ⟨hx, hb, hr, hml, hown, hts, hlocks, hG, hV, hZ⟩ := id B
  refine lv_aload_n hx hb dX10_isLiveBy_66 rfl (lv_at hl 0 rfl) ?_
  refine lv_iconst (v := 1) hx hb dX10_isLiveBy_67 rfl ?_
  refine lv_iconst (v := 0) hx hb dX10_isLiveBy_68 rfl ?_
  obtain ⟨M7, hc5, hf⟩ := wbind_e hf
  refine wc_V (As := [.int 1, .int 0]) (rest := []) hx hb hml hown hts hG hV hZ (wlt_9 (rfl : wkd 70 = 9)) (q := (RX10, TX10, 31)) (wen_9 (rfl : wkd 70 = 9)) rfl (cX10_passesAll_ok l E M 1 0 hc5) (cwV 2 hts gl_X10_119 rfl rfl rfl cdX10_passesAll ⟨Nat.le_of_ble_eq_true rfl, Nat.le_of_ble_eq_true rfl⟩) rfl hl.1 rfl (Nat.le_of_ble_eq_true rfl) dX10_isLiveBy_69 ⟨Nat.zero_le _, Nat.zero_le _⟩ hW hS rfl (fun H locs hW hS => ?_)
  refine lv_iload_n hx hb dX10_isLiveBy_72 rfl (lv_at hl 1 rfl) ?_
  refine lv_topi (fun x8 ex8 => ?_)
  replace hf := wlet_y ex8 hf
  obtain ⟨b9, eb9, hg⟩ := wrb_e hf
  clear hf
  clear ex8
  subst eb9
  have hf := hg
  have hres := Option.some.inj hf
  subst hres
  exact W.zret hx hb hr (wb_n b9) (wr_q hG hV hZ hW hS) hS.2.2 dX10_isLiveBy_73
set_option maxRecDepth 100000 in
set_option maxHeartbeats 4000000 in
theorem pX10_isLiveBy_50 (B : wB E p s m args meth c cX10_isLiveBy 5 RX10 (some .boolean)) {M : wMem} {y1 : Int32} {y3 : Int32} {rec10 : (Int32 × Int32 × wMem → Option (Bool × wMem))} {res : Bool × wMem}  (hrec10 : ∀ (y2' : Int32) (y3' : Int32) (M' : wMem), rec10 (y2', y3', M') = some res → ∀ (H : Heap) (locs : List Loc) (ls : Array Slot), wH E M' H → va_S (wA E) s.heap H locs → lv_has ls 5 [(0, .ref (wad E 70)), (1, .int y1), (2, .int y2'), (3, .int y3')] → W p l e ({ frames := 5, cells := 0, slots := 0, locals := 107 } : Room) s m args below meth c H locs 0 0 (MQ below (wQ E (some (.int (wb res.1))) res.2) args s 0 0 (wA E)) (F0 m 10 ls [])) (hf : fX10_isLiveBy_50 M rec10 y1 y3 = some res) {H : Heap} {locs : List Loc} {ls : Array Slot} (hW : wH E M H) (hS : va_S (wA E) s.heap H locs) (hl : lv_has ls 5 [(0, .ref (wad E 70)), (1, .int y1), (3, .int y3)]) : W p l e ({ frames := 5, cells := 0, slots := 0, locals := 107 } : Room) s m args below meth c H locs 0 0 (MQ below (wQ E (some (.int (wb res.1))) res.2) args s 0 0 (wA E)) (F0 m 50 ls []) := by
  unfold fX10_isLiveBy_50 at hf
  obtain ⟨hx, hb, hr, hml, hown, hts, hlocks, hG, hV, hZ⟩ := id B
  refine lv_aload_n hx hb dX10_isLiveBy_50 rfl (lv_at hl 0 rfl) ?_
  obtain ⟨r13, hc12, hf⟩ := wbind_e hf
  refine wc_V (As := []) (rest := []) hx hb hml hown hts hG hV hZ (wlt_9 (rfl : wkd 70 = 9)) (q := (RX10, TX10, 31)) (wen_9 (rfl : wkd 70 = 9)) rfl (cX10_isLive_ok l E M  hc12) (cwV 0 hts gl_X10_155 rfl rfl rfl cdX10_isLive ⟨Nat.le_of_ble_eq_true rfl, Nat.le_of_ble_eq_true rfl⟩) rfl hl.1 rfl (Nat.le_of_ble_eq_true rfl) dX10_isLiveBy_51 ⟨Nat.zero_le _, Nat.zero_le _⟩ hW hS rfl (fun H locs hW hS => ?_)
  refine lv_topi (fun x14 ex14 => ?_)
  replace hf := wlet_y ex14 hf
  refine lv_istore_n (lv' := [(2, .int x14), (0, .ref (wad E 70)), (1, .int y1), (3, .int y3)]) hx hb dX10_isLiveBy_54 rfl hl (by decide) rfl (fun ls hl => ?_)
  refine lv_aload_n hx hb dX10_isLiveBy_55 rfl (lv_at hl 1 rfl) ?_
  obtain ⟨r16, M17, hc15, hf⟩ := wbind_p hf
  refine wc_V (As := []) (rest := []) hx hb hml hown hts hG hV hZ (wlt_9 (rfl : wkd 70 = 9)) (q := (RX10, TX10, 31)) (wen_9 (rfl : wkd 70 = 9)) rfl (cX10_goesHour_ok l E M  hc15) (cwV 0 hts gl_X10_189 rfl rfl rfl cdX10_goesHour ⟨Nat.le_of_ble_eq_true rfl, Nat.le_of_ble_eq_true rfl⟩) rfl hl.1 rfl (Nat.le_of_ble_eq_true rfl) dX10_isLiveBy_56 ⟨Nat.zero_le _, Nat.zero_le _⟩ hW hS rfl (fun H locs hW hS => ?_)
  refine lv_pop hx hb dX10_isLiveBy_59 rfl ?_
  obtain ⟨x18, ex18, hf⟩ := wlet_e hf
  refine lv_iinc (v := x18) (lv' := [(3, .int x18), (2, .int x14), (0, .ref (wad E 70)), (1, .int y1)]) hx hb dX10_isLiveBy_60 hl (k := 3) rfl (by rw [ex18]; rfl) (by decide) rfl (fun ls hl => ?_)
  refine lv_goto (tgt := 10) hx hb dX10_isLiveBy_63 (by decide) ?_
  exact hrec10 x14 x18 M17 hf _ _ _ hW hS (lv_sub hl [2, 3, 1, 0] rfl)
set_option maxRecDepth 100000 in
set_option maxHeartbeats 4000000 in
theorem pX10_isLiveBy_23_b (B : wB E p s m args meth c cX10_isLiveBy 5 RX10 (some .boolean)) {M : wMem} {y1 : Int32} {y3 : Int32} {y4 : Int32} {rec10 : (Int32 × Int32 × wMem → Option (Bool × wMem))} {rec23 : (Int32 × wMem → Option (Bool × wMem))} {res : Bool × wMem}  (hrec10 : ∀ (y2' : Int32) (y3' : Int32) (M' : wMem), rec10 (y2', y3', M') = some res → ∀ (H : Heap) (locs : List Loc) (ls : Array Slot), wH E M' H → va_S (wA E) s.heap H locs → lv_has ls 5 [(0, .ref (wad E 70)), (1, .int y1), (2, .int y2'), (3, .int y3')] → W p l e ({ frames := 5, cells := 0, slots := 0, locals := 107 } : Room) s m args below meth c H locs 0 0 (MQ below (wQ E (some (.int (wb res.1))) res.2) args s 0 0 (wA E)) (F0 m 10 ls [])) (hrec23 : ∀ (y4' : Int32) (M' : wMem), rec23 (y4', M') = some res → ∀ (H : Heap) (locs : List Loc) (ls : Array Slot), wH E M' H → va_S (wA E) s.heap H locs → lv_has ls 5 [(0, .ref (wad E 70)), (1, .int y1), (3, .int y3), (4, .int y4')] → W p l e ({ frames := 5, cells := 0, slots := 0, locals := 107 } : Room) s m args below meth c H locs 0 0 (MQ below (wQ E (some (.int (wb res.1))) res.2) args s 0 0 (wA E)) (F0 m 23 ls [])) (hf : fX10_isLiveBy_23_b M rec10 rec23 y1 y3 y4 = some res) {H : Heap} {locs : List Loc} {ls : Array Slot} (hW : wH E M H) (hS : va_S (wA E) s.heap H locs) (hl : lv_has ls 5 [(0, .ref (wad E 70)), (1, .int y1), (3, .int y3), (4, .int y4)]) : W p l e ({ frames := 5, cells := 0, slots := 0, locals := 107 } : Room) s m args below meth c H locs 0 0 (MQ below (wQ E (some (.int (wb res.1))) res.2) args s 0 0 (wA E)) (F0 m 23 ls []) := by
  unfold fX10_isLiveBy_23_b at hf
  obtain ⟨hx, hb, hr, hml, hown, hts, hlocks, hG, hV, hZ⟩ := id B
  refine lv_iload hx hb dX10_isLiveBy_23 (lv_at hl 3 rfl) ?_
  refine lv_aload_n hx hb dX10_isLiveBy_25 rfl (lv_at hl 0 rfl) ?_
  refine wm_get hx hb hts wu_X10 hown hV hW (wlt_9 (rfl : wkd 70 = 9)) (wen_9 (rfl : wkd 70 = 9)) (C := RX10) (T := TX10) (N := 31) rfl 7 (by decide) (hts _ wA_721) rfl dX10_isLiveBy_26 ?_
  rcases wif_e hf with ⟨hq11, hf⟩ | ⟨hq11, hf⟩
  · refine lv_icmp_ge (tgt := 50) hx hb dX10_isLiveBy_29 (by decide) (fun _ => ?_) (fun h => absurd hq11 h)
    exact pX10_isLiveBy_50 B  hrec10 hf hW hS (lv_sub hl [0, 1, 2] rfl)
  · refine lv_icmp_ge (tgt := 50) hx hb dX10_isLiveBy_29 (by decide) (fun h => absurd h hq11) (fun _ => ?_)
    refine lv_iload_n hx hb dX10_isLiveBy_32 rfl (lv_at hl 2 rfl) ?_
    refine lv_iload_n hx hb dX10_isLiveBy_33 rfl (lv_at hl 1 rfl) ?_
    obtain ⟨hz19, hf⟩ := wgz_e hf
    refine lv_irem hx hb dX10_isLiveBy_34 hz19 ?_
    rcases wif_e hf with ⟨hq20, hf⟩ | ⟨hq20, hf⟩
    · refine lv_if_ne (tgt := 50) hx hb dX10_isLiveBy_35 (by decide) (fun h => absurd hq20 h) (fun _ => ?_)
      refine lv_aload_n hx hb dX10_isLiveBy_38 rfl (lv_at hl 0 rfl) ?_
      refine lv_iload hx hb dX10_isLiveBy_39 (lv_at hl 3 rfl) ?_
      obtain ⟨M23, hc21, hf⟩ := wbind_e hf
      refine wc_V (As := [.int y4]) (rest := []) hx hb hml hown hts hG hV hZ (wlt_9 (rfl : wkd 70 = 9)) (q := (RX10, TX10, 31)) (wen_9 (rfl : wkd 70 = 9)) rfl (cX10_putsAnew_ok l E M y4 hc21) (cwV 1 hts gl_X10_192 rfl rfl rfl cdX10_putsAnew ⟨Nat.le_of_ble_eq_true rfl, Nat.le_of_ble_eq_true rfl⟩) rfl hl.1 rfl (Nat.le_of_ble_eq_true rfl) dX10_isLiveBy_41 ⟨Nat.zero_le _, Nat.zero_le _⟩ hW hS rfl (fun H locs hW hS => ?_)
      obtain ⟨x24, ex24, hf⟩ := wlet_e hf
      refine lv_iinc (v := x24) (lv' := [(4, .int x24), (0, .ref (wad E 70)), (1, .int y1), (3, .int y3)]) hx hb dX10_isLiveBy_44 hl (k := 3) rfl (by rw [ex24]; rfl) (by decide) rfl (fun ls hl => ?_)
      refine lv_goto (tgt := 23) hx hb dX10_isLiveBy_47 (by decide) ?_
      exact hrec23 x24 M23 hf _ _ _ hW hS (lv_sub hl [1, 2, 3, 0] rfl)
    · refine lv_if_ne (tgt := 50) hx hb dX10_isLiveBy_35 (by decide) (fun _ => ?_) (fun h => absurd h hq20)
      exact pX10_isLiveBy_50 B  hrec10 hf hW hS (lv_sub hl [0, 1, 2] rfl)
set_option maxRecDepth 100000 in
set_option maxHeartbeats 4000000 in
theorem pX10_isLiveBy_23 (B : wB E p s m args meth c cX10_isLiveBy 5 RX10 (some .boolean)) {M : wMem} {y1 : Int32} {y3 : Int32} {y4 : Int32} {rec10 : (Int32 × Int32 × wMem → Option (Bool × wMem))} {res : Bool × wMem}  (hrec10 : ∀ (y2' : Int32) (y3' : Int32) (M' : wMem), rec10 (y2', y3', M') = some res → ∀ (H : Heap) (locs : List Loc) (ls : Array Slot), wH E M' H → va_S (wA E) s.heap H locs → lv_has ls 5 [(0, .ref (wad E 70)), (1, .int y1), (2, .int y2'), (3, .int y3')] → W p l e ({ frames := 5, cells := 0, slots := 0, locals := 107 } : Room) s m args below meth c H locs 0 0 (MQ below (wQ E (some (.int (wb res.1))) res.2) args s 0 0 (wA E)) (F0 m 10 ls [])) (hf : fX10_isLiveBy_23 M rec10 y1 y3 y4 = some res) {H : Heap} {locs : List Loc} {ls : Array Slot} (hW : wH E M H) (hS : va_S (wA E) s.heap H locs) (hl : lv_has ls 5 [(0, .ref (wad E 70)), (1, .int y1), (3, .int y3), (4, .int y4)]) : W p l e ({ frames := 5, cells := 0, slots := 0, locals := 107 } : Room) s m args below meth c H locs 0 0 (MQ below (wQ E (some (.int (wb res.1))) res.2) args s 0 0 (wA E)) (F0 m 23 ls []) := by
  have key := wloop_W (b := (fun rec23 t => fX10_isLiveBy_23_b t.2 rec10 rec23 y1 y3 t.1)) (P := fun t => ∀ (H : Heap) (locs : List Loc) (ls : Array Slot), wH E t.2 H → va_S (wA E) s.heap H locs → lv_has ls 5 [(0, .ref (wad E 70)), (1, .int y1), (3, .int y3), (4, .int t.1)] → W p l e ({ frames := 5, cells := 0, slots := 0, locals := 107 } : Room) s m args below meth c H locs 0 0 (MQ below (wQ E (some (.int (wb res.1))) res.2) args s 0 0 (wA E)) (F0 m 23 ls [])) (r := res) (fun rec hrec t hf H locs ls hW hS hl => pX10_isLiveBy_23_b B  hrec10 (fun v0 v1 hf H locs ls hW hS hl => hrec (v0, v1) hf H locs ls hW hS hl) hf hW hS hl)
  exact key wfuel (y4, M) hf H locs ls hW hS hl
set_option maxRecDepth 100000 in
set_option maxHeartbeats 4000000 in
theorem pX10_isLiveBy_10_b (B : wB E p s m args meth c cX10_isLiveBy 5 RX10 (some .boolean)) {M : wMem} {y1 : Int32} {y2 : Int32} {y3 : Int32}  {rec10 : (Int32 × Int32 × wMem → Option (Bool × wMem))} {res : Bool × wMem}   (hrec10 : ∀ (y2' : Int32) (y3' : Int32) (M' : wMem), rec10 (y2', y3', M') = some res → ∀ (H : Heap) (locs : List Loc) (ls : Array Slot), wH E M' H → va_S (wA E) s.heap H locs → lv_has ls 5 [(0, .ref (wad E 70)), (1, .int y1), (2, .int y2'), (3, .int y3')] → W p l e ({ frames := 5, cells := 0, slots := 0, locals := 107 } : Room) s m args below meth c H locs 0 0 (MQ below (wQ E (some (.int (wb res.1))) res.2) args s 0 0 (wA E)) (F0 m 10 ls [])) (hf : fX10_isLiveBy_10_b M  rec10 y1 y2 y3 = some res) {H : Heap} {locs : List Loc} {ls : Array Slot} (hW : wH E M H) (hS : va_S (wA E) s.heap H locs) (hl : lv_has ls 5 [(0, .ref (wad E 70)), (1, .int y1), (2, .int y2), (3, .int y3)]) : W p l e ({ frames := 5, cells := 0, slots := 0, locals := 107 } : Room) s m args below meth c H locs 0 0 (MQ below (wQ E (some (.int (wb res.1))) res.2) args s 0 0 (wA E)) (F0 m 10 ls []) := by
  unfold fX10_isLiveBy_10_b at hf
  obtain ⟨hx, hb, hr, hml, hown, hts, hlocks, hG, hV, hZ⟩ := id B
  refine lv_iload_n hx hb dX10_isLiveBy_10 rfl (lv_at hl 3 rfl) ?_
  refine lv_bipush (v := 60) hx hb dX10_isLiveBy_11 (by decide) ?_
  rcases wif_e hf with ⟨hq4, hf⟩ | ⟨hq4, hf⟩
  · refine lv_icmp_ge (tgt := 66) hx hb dX10_isLiveBy_13 (by decide) (fun _ => ?_) (fun h => absurd hq4 h)
    exact pX10_isLiveBy_66 B   hf hW hS (lv_sub hl [0, 2] rfl)
  · refine lv_icmp_ge (tgt := 66) hx hb dX10_isLiveBy_13 (by decide) (fun h => absurd h hq4) (fun _ => ?_)
    refine lv_iload_n hx hb dX10_isLiveBy_16 rfl (lv_at hl 2 rfl) ?_
    rcases wif_e hf with ⟨hq10, hf⟩ | ⟨hq10, hf⟩
    · refine lv_if_eq (tgt := 66) hx hb dX10_isLiveBy_17 (by decide) (fun _ => ?_) (fun h => absurd hq10 h)
      exact pX10_isLiveBy_66 B   hf hW hS (lv_sub hl [0, 2] rfl)
    · refine lv_if_eq (tgt := 66) hx hb dX10_isLiveBy_17 (by decide) (fun h => absurd h hq10) (fun _ => ?_)
      refine lv_iconst (v := 0) hx hb dX10_isLiveBy_20 rfl ?_
      refine lv_istore (lv' := [(4, .int 0), (0, .ref (wad E 70)), (1, .int y1), (2, .int y2), (3, .int y3)]) hx hb dX10_isLiveBy_21 hl (by decide) rfl (fun ls hl => ?_)
      exact pX10_isLiveBy_23 B  hrec10 hf hW hS (lv_sub hl [1, 2, 4, 0] rfl)
set_option maxRecDepth 100000 in
set_option maxHeartbeats 4000000 in
theorem pX10_isLiveBy_10 (B : wB E p s m args meth c cX10_isLiveBy 5 RX10 (some .boolean)) {M : wMem} {y1 : Int32} {y2 : Int32} {y3 : Int32}  {res : Bool × wMem}   (hf : fX10_isLiveBy_10 M  y1 y2 y3 = some res) {H : Heap} {locs : List Loc} {ls : Array Slot} (hW : wH E M H) (hS : va_S (wA E) s.heap H locs) (hl : lv_has ls 5 [(0, .ref (wad E 70)), (1, .int y1), (2, .int y2), (3, .int y3)]) : W p l e ({ frames := 5, cells := 0, slots := 0, locals := 107 } : Room) s m args below meth c H locs 0 0 (MQ below (wQ E (some (.int (wb res.1))) res.2) args s 0 0 (wA E)) (F0 m 10 ls []) := by
  have key := wloop_W (b := (fun rec10 t => fX10_isLiveBy_10_b t.2.2  rec10 y1 t.1 t.2.1)) (P := fun t => ∀ (H : Heap) (locs : List Loc) (ls : Array Slot), wH E t.2.2 H → va_S (wA E) s.heap H locs → lv_has ls 5 [(0, .ref (wad E 70)), (1, .int y1), (2, .int t.1), (3, .int t.2.1)] → W p l e ({ frames := 5, cells := 0, slots := 0, locals := 107 } : Room) s m args below meth c H locs 0 0 (MQ below (wQ E (some (.int (wb res.1))) res.2) args s 0 0 (wA E)) (F0 m 10 ls [])) (r := res) (fun rec hrec t hf H locs ls hW hS hl => pX10_isLiveBy_10_b B   (fun v0 v1 v2 hf H locs ls hW hS hl => hrec (v0, v1, v2) hf H locs ls hW hS hl) hf hW hS hl)
  exact key wfuel (y2, y3, M) hf H locs ls hW hS hl
set_option maxRecDepth 100000 in
set_option maxHeartbeats 4000000 in
theorem pX10_isLiveBy (B : wB E p s m args meth c cX10_isLiveBy 5 RX10 (some .boolean)) {M : wMem} {a1 : Int32}  {res : Bool × wMem} (hf : fX10_isLiveBy M a1 = some res) {H : Heap} {locs : List Loc} {ls : Array Slot} (hW : wH E M H) (hS : va_S (wA E) s.heap H locs) (hl : lv_has ls 5 [(0, .ref (wad E 70)), (1, .int a1)]) : W p l e ({ frames := 5, cells := 0, slots := 0, locals := 107 } : Room) s m args below meth c H locs 0 0 (MQ below (wQ E (some (.int (wb res.1))) res.2) args s 0 0 (wA E)) (F0 m 0 ls []) := by
  unfold fX10_isLiveBy at hf
  obtain ⟨hx, hb, hr, hml, hown, hts, hlocks, hG, hV, hZ⟩ := id B
  refine lv_aload_n hx hb dX10_isLiveBy_0 rfl (lv_at hl 0 rfl) ?_
  refine lv_iconst (v := 1) hx hb dX10_isLiveBy_1 rfl ?_
  refine lv_iconst (v := 1) hx hb dX10_isLiveBy_2 rfl ?_
  obtain ⟨M3, hc1, hf⟩ := wbind_e hf
  refine wc_V (As := [.int 1, .int 1]) (rest := []) hx hb hml hown hts hG hV hZ (wlt_9 (rfl : wkd 70 = 9)) (q := (RX10, TX10, 31)) (wen_9 (rfl : wkd 70 = 9)) rfl (cX10_passesAll_ok l E M 1 1 hc1) (cwV 2 hts gl_X10_119 rfl rfl rfl cdX10_passesAll ⟨Nat.le_of_ble_eq_true rfl, Nat.le_of_ble_eq_true rfl⟩) rfl hl.1 rfl (Nat.le_of_ble_eq_true rfl) dX10_isLiveBy_3 ⟨Nat.zero_le _, Nat.zero_le _⟩ hW hS rfl (fun H locs hW hS => ?_)
  refine lv_iconst (v := 1) hx hb dX10_isLiveBy_6 rfl ?_
  refine lv_istore_n (lv' := [(2, .int 1), (0, .ref (wad E 70)), (1, .int a1)]) hx hb dX10_isLiveBy_7 rfl hl (by decide) rfl (fun ls hl => ?_)
  refine lv_iconst (v := 0) hx hb dX10_isLiveBy_8 rfl ?_
  refine lv_istore_n (lv' := [(3, .int 0), (2, .int 1), (0, .ref (wad E 70)), (1, .int a1)]) hx hb dX10_isLiveBy_9 rfl hl (by decide) rfl (fun ls hl => ?_)
  exact pX10_isLiveBy_10 B   hf hW hS (lv_sub hl [2, 3, 1, 0] rfl)
theorem cX10_isLiveBy_ok (l : Launch) (E : wE) (M : wMem) (a1 : Int32) {res : Bool × wMem} (hf : fX10_isLiveBy M a1 = some res) : wMet l yX10_isLiveBy (wsM yX10_isLiveBy cX10_isLiveBy 5 (some .boolean)) ({ frames := 5, cells := 0, slots := 0, locals := 107 } : Room) E M [.ref (wad E 70), .int a1] (some (.int (wb res.1))) res.2 :=
  wc_of (cc := cX10_isLiveBy) (maxL := 5) (ret := (some .boolean)) (by decide) (Nat.le_of_ble_eq_true rfl) (fun _ _ _ _ _ _ _ _ B hW hl => pX10_isLiveBy B  hf hW va_S.rf hl)
end
theorem cdX10_allAnew : yX10_allAnew.cls = RX10 ∧ yX10_allAnew.cls ≠ "java/lang/invoke/MethodHandle" ∧ yX10_allAnew.cls ≠ "java/lang/invoke/VarHandle" ∧ (parseMethodDescriptor yX10_allAnew.desc).map (fun d => d.parameters.length) = some 0 := by decide +kernel
section
variable {p : Program} {l : Launch} {e : Env} {s : State} {m : MethodId} {args : Array Value} {below : List Frame} {meth : Method} {c : Code} {E : wE}
set_option maxRecDepth 100000 in
set_option maxHeartbeats 4000000 in
theorem pX10_allAnew_17_b (B : wB E p s m args meth c cX10_allAnew 2 RX10 (some .int)) {M : wMem} {y1 : Int32}  {rec17 : (Int32 × wMem → Option (Int32 × wMem))} {res : Int32 × wMem}   (hrec17 : ∀ (y1' : Int32) (M' : wMem), rec17 (y1', M') = some res → ∀ (H : Heap) (locs : List Loc) (ls : Array Slot), wH E M' H → va_S (wA E) s.heap H locs → lv_has ls 2 [(0, .ref (wad E 70)), (1, .int y1')] → W p l e ({ frames := 6, cells := 0, slots := 0, locals := 131 } : Room) s m args below meth c H locs 0 0 (MQ below (wQ E (some (.int res.1)) res.2) args s 0 0 (wA E)) (F0 m 17 ls [])) (hf : fX10_allAnew_17_b M  rec17 y1 = some res) {H : Heap} {locs : List Loc} {ls : Array Slot} (hW : wH E M H) (hS : va_S (wA E) s.heap H locs) (hl : lv_has ls 2 [(0, .ref (wad E 70)), (1, .int y1)]) : W p l e ({ frames := 6, cells := 0, slots := 0, locals := 131 } : Room) s m args below meth c H locs 0 0 (MQ below (wQ E (some (.int res.1)) res.2) args s 0 0 (wA E)) (F0 m 17 ls []) := by
  unfold fX10_allAnew_17_b at hf
  obtain ⟨hx, hb, hr, hml, hown, hts, hlocks, hG, hV, hZ⟩ := id B
  refine lv_iload_n hx hb dX10_allAnew_17 rfl (lv_at hl 1 rfl) ?_
  rcases wif_e hf with ⟨hq2, hf⟩ | ⟨hq2, hf⟩
  · refine lv_if_le (tgt := 37) hx hb dX10_allAnew_18 (by decide) (fun _ => ?_) (fun h => absurd hq2 h)
    refine lv_bipush (v := (-9)) hx hb dX10_allAnew_37 (by decide) ?_
    have hres := Option.some.inj hf
    subst hres
    exact W.iret hx hb hr (wr_q hG hV hZ hW hS) hS.2.2 dX10_allAnew_39
  · refine lv_if_le (tgt := 37) hx hb dX10_allAnew_18 (by decide) (fun h => absurd h hq2) (fun _ => ?_)
    refine lv_aload_n hx hb dX10_allAnew_21 rfl (lv_at hl 0 rfl) ?_
    refine lv_iload_n hx hb dX10_allAnew_22 rfl (lv_at hl 1 rfl) ?_
    obtain ⟨r4, M5, hc3, hf⟩ := wbind_p hf
    refine wc_V (As := [.int y1]) (rest := []) hx hb hml hown hts hG hV hZ (wlt_9 (rfl : wkd 70 = 9)) (q := (RX10, TX10, 31)) (wen_9 (rfl : wkd 70 = 9)) rfl (cX10_isLiveBy_ok l E M y1 hc3) (cwV 1 hts gl_X10_233 rfl rfl rfl cdX10_isLiveBy ⟨Nat.le_of_ble_eq_true rfl, Nat.le_of_ble_eq_true rfl⟩) rfl hl.1 rfl (Nat.le_of_ble_eq_true rfl) dX10_allAnew_23 ⟨Nat.zero_le _, Nat.zero_le _⟩ hW hS rfl (fun H locs hW hS => ?_)
    rcases wif_e hf with ⟨hq6, hf⟩ | ⟨hq6, hf⟩
    · refine lv_if_eq (tgt := 31) hx hb dX10_allAnew_26 (by decide) (fun _ => ?_) (fun h => absurd hq6 h)
      obtain ⟨x7, ex7, hf⟩ := wlet_e hf
      refine lv_iinc (v := x7) (lv' := [(1, .int x7), (0, .ref (wad E 70))]) hx hb dX10_allAnew_31 hl (k := 1) rfl (by rw [ex7]; rfl) (by decide) rfl (fun ls hl => ?_)
      refine lv_goto (tgt := 17) hx hb dX10_allAnew_34 (by decide) ?_
      exact hrec17 x7 M5 hf _ _ _ hW hS (lv_sub hl [1, 0] rfl)
    · refine lv_if_eq (tgt := 31) hx hb dX10_allAnew_26 (by decide) (fun h => absurd h hq6) (fun _ => ?_)
      refine lv_iload_n hx hb dX10_allAnew_29 rfl (lv_at hl 1 rfl) ?_
      have hres := Option.some.inj hf
      subst hres
      exact W.iret hx hb hr (wr_q hG hV hZ hW hS) hS.2.2 dX10_allAnew_30
set_option maxRecDepth 100000 in
set_option maxHeartbeats 4000000 in
theorem pX10_allAnew_17 (B : wB E p s m args meth c cX10_allAnew 2 RX10 (some .int)) {M : wMem} {y1 : Int32}  {res : Int32 × wMem}   (hf : fX10_allAnew_17 M  y1 = some res) {H : Heap} {locs : List Loc} {ls : Array Slot} (hW : wH E M H) (hS : va_S (wA E) s.heap H locs) (hl : lv_has ls 2 [(0, .ref (wad E 70)), (1, .int y1)]) : W p l e ({ frames := 6, cells := 0, slots := 0, locals := 131 } : Room) s m args below meth c H locs 0 0 (MQ below (wQ E (some (.int res.1)) res.2) args s 0 0 (wA E)) (F0 m 17 ls []) := by
  have key := wloop_W (b := (fun rec17 t => fX10_allAnew_17_b t.2  rec17 t.1)) (P := fun t => ∀ (H : Heap) (locs : List Loc) (ls : Array Slot), wH E t.2 H → va_S (wA E) s.heap H locs → lv_has ls 2 [(0, .ref (wad E 70)), (1, .int t.1)] → W p l e ({ frames := 6, cells := 0, slots := 0, locals := 131 } : Room) s m args below meth c H locs 0 0 (MQ below (wQ E (some (.int res.1)) res.2) args s 0 0 (wA E)) (F0 m 17 ls [])) (r := res) (fun rec hrec t hf H locs ls hW hS hl => pX10_allAnew_17_b B   (fun v0 v1 hf H locs ls hW hS hl => hrec (v0, v1) hf H locs ls hW hS hl) hf hW hS hl)
  exact key wfuel (y1, M) hf H locs ls hW hS hl
set_option maxRecDepth 100000 in
set_option maxHeartbeats 4000000 in
theorem pX10_allAnew (B : wB E p s m args meth c cX10_allAnew 2 RX10 (some .int)) {M : wMem}   {res : Int32 × wMem} (hf : fX10_allAnew M  = some res) {H : Heap} {locs : List Loc} {ls : Array Slot} (hW : wH E M H) (hS : va_S (wA E) s.heap H locs) (hl : lv_has ls 2 [(0, .ref (wad E 70))]) : W p l e ({ frames := 6, cells := 0, slots := 0, locals := 131 } : Room) s m args below meth c H locs 0 0 (MQ below (wQ E (some (.int res.1)) res.2) args s 0 0 (wA E)) (F0 m 0 ls []) := by
  unfold fX10_allAnew at hf
  obtain ⟨hx, hb, hr, hml, hown, hts, hlocks, hG, hV, hZ⟩ := id B
  refine lv_aload_n hx hb dX10_allAnew_0 rfl (lv_at hl 0 rfl) ?_
  refine wm_get hx hb hts wu_X10 hown hV hW (wlt_9 (rfl : wkd 70 = 9)) (wen_9 (rfl : wkd 70 = 9)) (C := RX10) (T := TX10) (N := 31) rfl 7 (by decide) (hts _ wA_721) rfl dX10_allAnew_1 ?_
  rcases wif_e hf with ⟨hq1, hf⟩ | ⟨hq1, hf⟩
  · refine lv_if_ne (tgt := 14) hx hb dX10_allAnew_4 (by decide) (fun h => absurd hq1 h) (fun _ => ?_)
    refine lv_aload_n hx hb dX10_allAnew_7 rfl (lv_at hl 0 rfl) ?_
    refine lv_bipush (v := (-3)) hx hb dX10_allAnew_8 (by decide) ?_
    obtain ⟨r9, M10, hc8, hf⟩ := wbind_p hf
    refine wc_V (As := [.int (-3)]) (rest := []) hx hb hml hown hts hG hV hZ (wlt_9 (rfl : wkd 70 = 9)) (q := (RX10, TX10, 31)) (wen_9 (rfl : wkd 70 = 9)) rfl (cX10_no_ok l E M (-3) hc8) (cwV 1 hts gl_X10_83 rfl rfl rfl cdX10_no ⟨Nat.le_of_ble_eq_true rfl, Nat.le_of_ble_eq_true rfl⟩) rfl hl.1 rfl (Nat.le_of_ble_eq_true rfl) dX10_allAnew_10 ⟨Nat.zero_le _, Nat.zero_le _⟩ hW hS rfl (fun H locs hW hS => ?_)
    have hres := Option.some.inj hf
    subst hres
    exact W.iret hx hb hr (wr_q hG hV hZ hW hS) hS.2.2 dX10_allAnew_13
  · refine lv_if_ne (tgt := 14) hx hb dX10_allAnew_4 (by decide) (fun _ => ?_) (fun h => absurd h hq1)
    refine lv_bipush (v := 50) hx hb dX10_allAnew_14 (by decide) ?_
    refine lv_istore_n (lv' := [(1, .int 50), (0, .ref (wad E 70))]) hx hb dX10_allAnew_16 rfl hl (by decide) rfl (fun ls hl => ?_)
    exact pX10_allAnew_17 B   hf hW hS (lv_sub hl [1, 0] rfl)
theorem cX10_allAnew_ok (l : Launch) (E : wE) (M : wMem)  {res : Int32 × wMem} (hf : fX10_allAnew M  = some res) : wMet l yX10_allAnew (wsM yX10_allAnew cX10_allAnew 2 (some .int)) ({ frames := 6, cells := 0, slots := 0, locals := 131 } : Room) E M [.ref (wad E 70)] (some (.int res.1)) res.2 :=
  wc_of (cc := cX10_allAnew) (maxL := 2) (ret := (some .int)) (by decide) (Nat.le_of_ble_eq_true rfl) (fun _ _ _ _ _ _ _ _ B hW hl => pX10_allAnew B  hf hW va_S.rf hl)
end
theorem cdX10_joined : yX10_joined.cls = RX10 ∧ yX10_joined.cls ≠ "java/lang/invoke/MethodHandle" ∧ yX10_joined.cls ≠ "java/lang/invoke/VarHandle" ∧ (parseMethodDescriptor yX10_joined.desc).map (fun d => d.parameters.length) = some 0 := by decide +kernel
section
variable {p : Program} {l : Launch} {e : Env} {s : State} {m : MethodId} {args : Array Value} {below : List Frame} {meth : Method} {c : Code} {E : wE}
set_option maxRecDepth 100000 in
set_option maxHeartbeats 4000000 in
theorem pX10_joined_31 (B : wB E p s m args meth c cX10_joined 2 RX10 (some .int)) {M : wMem} {z0 : Int32} {z1 : Int32}  {res : Int32}   (hf : fX10_joined_31 M  z0 z1 = some res) {H : Heap} {locs : List Loc} {ls : Array Slot} (hW : wH E M H) (hS : va_S (wA E) s.heap H locs) (hl : lv_has ls 2 []) : W p l e ({ frames := 4, cells := 0, slots := 0, locals := 83 } : Room) s m args below meth c H locs 0 0 (MQ below (wQ E (some (.int res)) M) args s 0 0 (wA E)) (F0 m 31 ls [.int z1, .int z0]) := by
  unfold fX10_joined_31 at hf
  obtain ⟨hx, hb, hr, hml, hown, hts, hlocks, hG, hV, hZ⟩ := id B
  obtain ⟨hz10, hf⟩ := wgz_e hf
  refine lv_idiv hx hb dX10_joined_31 hz10 ?_
  refine lv_goto (tgt := 36) hx hb dX10_joined_32 (by decide) ?_
  have hres := Option.some.inj hf
  subst hres
  exact W.iret hx hb hr (wr_q hG hV hZ hW hS) hS.2.2 dX10_joined_36
set_option maxRecDepth 100000 in
set_option maxHeartbeats 4000000 in
theorem pX10_joined (B : wB E p s m args meth c cX10_joined 2 RX10 (some .int)) {M : wMem}   {res : Int32} (hf : fX10_joined M  = some res) {H : Heap} {locs : List Loc} {ls : Array Slot} (hW : wH E M H) (hS : va_S (wA E) s.heap H locs) (hl : lv_has ls 2 [(0, .ref (wad E 70))]) : W p l e ({ frames := 4, cells := 0, slots := 0, locals := 83 } : Room) s m args below meth c H locs 0 0 (MQ below (wQ E (some (.int res)) M) args s 0 0 (wA E)) (F0 m 0 ls []) := by
  unfold fX10_joined at hf
  obtain ⟨hx, hb, hr, hml, hown, hts, hlocks, hG, hV, hZ⟩ := id B
  refine lv_aload_n hx hb dX10_joined_0 rfl (lv_at hl 0 rfl) ?_
  obtain ⟨r2, hc1, hf⟩ := wbind_e hf
  refine wc_V (As := []) (rest := []) hx hb hml hown hts hG hV hZ (wlt_9 (rfl : wkd 70 = 9)) (q := (RX10, TX10, 31)) (wen_9 (rfl : wkd 70 = 9)) rfl (cX10_flowNow_ok l E M  hc1) (cwV 0 hts gl_X10_168 rfl rfl rfl cdX10_flowNow ⟨Nat.le_of_ble_eq_true rfl, Nat.le_of_ble_eq_true rfl⟩) rfl hl.1 rfl (Nat.le_of_ble_eq_true rfl) dX10_joined_1 ⟨Nat.zero_le _, Nat.zero_le _⟩ hW hS rfl (fun H locs hW hS => ?_)
  refine lv_bipush (v := 10) hx hb dX10_joined_4 (by decide) ?_
  obtain ⟨hz3, hf⟩ := wgz_e hf
  refine lv_idiv hx hb dX10_joined_6 hz3 ?_
  refine lv_topi (fun x4 ex4 => ?_)
  replace hf := wlet_y ex4 hf
  refine lv_istore_n (lv' := [(1, .int x4), (0, .ref (wad E 70))]) hx hb dX10_joined_7 rfl hl (by decide) rfl (fun ls hl => ?_)
  refine lv_aload_n hx hb dX10_joined_8 rfl (lv_at hl 1 rfl) ?_
  obtain ⟨r6, hc5, hf⟩ := wbind_e hf
  refine wc_V (As := []) (rest := []) hx hb hml hown hts hG hV hZ (wlt_9 (rfl : wkd 70 = 9)) (q := (RX10, TX10, 31)) (wen_9 (rfl : wkd 70 = 9)) rfl (cX10_isLive_ok l E M  hc5) (cwV 0 hts gl_X10_155 rfl rfl rfl cdX10_isLive ⟨Nat.le_of_ble_eq_true rfl, Nat.le_of_ble_eq_true rfl⟩) rfl hl.1 rfl (Nat.le_of_ble_eq_true rfl) dX10_joined_9 ⟨Nat.zero_le _, Nat.zero_le _⟩ hW hS rfl (fun H locs hW hS => ?_)
  rcases wif_e hf with ⟨hq7, hf⟩ | ⟨hq7, hf⟩
  · refine lv_if_eq (tgt := 35) hx hb dX10_joined_12 (by decide) (fun _ => ?_) (fun h => absurd hq7 h)
    refine lv_iconst (v := 0) hx hb dX10_joined_35 rfl ?_
    have hres := Option.some.inj hf
    subst hres
    exact W.iret hx hb hr (wr_q hG hV hZ hW hS) hS.2.2 dX10_joined_36
  · refine lv_if_eq (tgt := 35) hx hb dX10_joined_12 (by decide) (fun h => absurd h hq7) (fun _ => ?_)
    refine lv_aload_n hx hb dX10_joined_15 rfl (lv_at hl 1 rfl) ?_
    refine wm_get hx hb hts wu_X10 hown hV hW (wlt_9 (rfl : wkd 70 = 9)) (wen_9 (rfl : wkd 70 = 9)) (C := RX10) (T := TX10) (N := 31) rfl 6 (by decide) (hts _ wA_720) rfl dX10_joined_16 ?_
    refine lv_iconst (v := 2) hx hb dX10_joined_19 rfl ?_
    obtain ⟨hi8, hf⟩ := wgi_e hf
    refine wm_iald hx hb hV hW (rfl : wkd 77 = 21) (n := 4) rfl hi8 dX10_joined_20 ?_
    refine lv_iload_n hx hb dX10_joined_21 rfl (lv_at hl 0 rfl) ?_
    refine lv_iconst (v := 1) hx hb dX10_joined_22 rfl ?_
    rcases wif_e hf with ⟨hq9, hf⟩ | ⟨hq9, hf⟩
    · refine lv_icmp_ge (tgt := 30) hx hb dX10_joined_23 (by decide) (fun _ => ?_) (fun h => absurd hq9 h)
      refine lv_iload_n hx hb dX10_joined_30 rfl (lv_at hl 0 rfl) ?_
      exact pX10_joined_31 B   hf hW hS (lv_sub hl [] rfl)
    · refine lv_icmp_ge (tgt := 30) hx hb dX10_joined_23 (by decide) (fun h => absurd h hq9) (fun _ => ?_)
      refine lv_iconst (v := 1) hx hb dX10_joined_26 rfl ?_
      refine lv_goto (tgt := 31) hx hb dX10_joined_27 (by decide) ?_
      exact pX10_joined_31 B   hf hW hS (lv_sub hl [] rfl)
theorem cX10_joined_ok (l : Launch) (E : wE) (M : wMem)  {res : Int32} (hf : fX10_joined M  = some res) : wMet l yX10_joined (wsM yX10_joined cX10_joined 2 (some .int)) ({ frames := 4, cells := 0, slots := 0, locals := 83 } : Room) E M [.ref (wad E 70)] (some (.int res)) M :=
  wc_of (cc := cX10_joined) (maxL := 2) (ret := (some .int)) (by decide) (Nat.le_of_ble_eq_true rfl) (fun _ _ _ _ _ _ _ _ B hW hl => pX10_joined B  hf hW va_S.rf hl)
end
theorem cdX10_divisor : yX10_divisor.cls ≠ "java/lang/invoke/MethodHandle" ∧ yX10_divisor.cls ≠ "java/lang/invoke/VarHandle" ∧ (parseMethodDescriptor yX10_divisor.desc).map (fun d => d.parameters.length) = some 2 := by decide +kernel
section
variable {p : Program} {l : Launch} {e : Env} {s : State} {m : MethodId} {args : Array Value} {below : List Frame} {meth : Method} {c : Code} {E : wE}
set_option maxRecDepth 100000 in
set_option maxHeartbeats 4000000 in
theorem pX10_divisor_6_b (B : wB E p s m args meth c cX10_divisor 10 RX10 (some .long)) {M : wMem} {y4 : Int64} {y6 : Int64}  {rec6 : (Int64 × Int64 → Option (Int64))} {res : Int64}   (hrec6 : ∀ (y4' : Int64) (y6' : Int64), rec6 (y4', y6') = some res → ∀ (H : Heap) (locs : List Loc) (ls : Array Slot), wH E M H → va_S (wA E) s.heap H locs → lv_has ls 10 [(4, .long y4'), (6, .long y6')] → W p l e ({ frames := 0, cells := 0, slots := 0, locals := 0 } : Room) s m args below meth c H locs 0 0 (MQ below (wQ E (some (.long res)) M) args s 0 0 (wA E)) (F0 m 6 ls [])) (hf : fX10_divisor_6_b M  rec6 y4 y6 = some res) {H : Heap} {locs : List Loc} {ls : Array Slot} (hW : wH E M H) (hS : va_S (wA E) s.heap H locs) (hl : lv_has ls 10 [(4, .long y4), (6, .long y6)]) : W p l e ({ frames := 0, cells := 0, slots := 0, locals := 0 } : Room) s m args below meth c H locs 0 0 (MQ below (wQ E (some (.long res)) M) args s 0 0 (wA E)) (F0 m 6 ls []) := by
  unfold fX10_divisor_6_b at hf
  obtain ⟨hx, hb, hr, hml, hown, hts, hlocks, hG, hV, hZ⟩ := id B
  refine lv_lload hx hb dX10_divisor_6 (lv_at hl 1 rfl) ?_
  refine lv_lconst (v := 0) hx hb dX10_divisor_8 rfl ?_
  refine W.lcmp hx hb dX10_divisor_9 ?_
  rcases wif_e hf with ⟨hq1, hf⟩ | ⟨hq1, hf⟩
  · refine lv_if_eq (tgt := 31) hx hb dX10_divisor_10 (by decide) (fun _ => ?_) (fun h => absurd hq1 h)
    refine lv_lload hx hb dX10_divisor_31 (lv_at hl 0 rfl) ?_
    have hres := Option.some.inj hf
    subst hres
    exact W.lret hx hb hr (wr_q hG hV hZ hW hS) hS.2.2 dX10_divisor_33
  · refine lv_if_eq (tgt := 31) hx hb dX10_divisor_10 (by decide) (fun h => absurd h hq1) (fun _ => ?_)
    refine lv_lload hx hb dX10_divisor_13 (lv_at hl 0 rfl) ?_
    refine lv_lload hx hb dX10_divisor_15 (lv_at hl 1 rfl) ?_
    obtain ⟨hz2, hf⟩ := wgzl_e hf
    refine lv_lrem hx hb dX10_divisor_17 hz2 ?_
    refine lv_topl (fun x3 ex3 => ?_)
    replace hf := wlet_y ex3 hf
    refine lv_lstore (lv' := [(8, .long x3), (4, .long y4), (6, .long y6)]) hx hb dX10_divisor_18 hl (by decide) rfl (fun ls hl => ?_)
    refine lv_lload hx hb dX10_divisor_20 (lv_at hl 2 rfl) ?_
    refine lv_lstore (lv' := [(4, .long y6), (8, .long x3), (6, .long y6)]) hx hb dX10_divisor_22 hl (by decide) rfl (fun ls hl => ?_)
    refine lv_lload hx hb dX10_divisor_24 (lv_at hl 1 rfl) ?_
    refine lv_lstore (lv' := [(6, .long x3), (4, .long y6), (8, .long x3)]) hx hb dX10_divisor_26 hl (by decide) rfl (fun ls hl => ?_)
    refine lv_goto (tgt := 6) hx hb dX10_divisor_28 (by decide) ?_
    exact hrec6 y6 x3 hf _ _ _ hW hS (lv_sub hl [1, 0] rfl)
set_option maxRecDepth 100000 in
set_option maxHeartbeats 4000000 in
theorem pX10_divisor_6 (B : wB E p s m args meth c cX10_divisor 10 RX10 (some .long)) {M : wMem} {y4 : Int64} {y6 : Int64}  {res : Int64}   (hf : fX10_divisor_6 M  y4 y6 = some res) {H : Heap} {locs : List Loc} {ls : Array Slot} (hW : wH E M H) (hS : va_S (wA E) s.heap H locs) (hl : lv_has ls 10 [(4, .long y4), (6, .long y6)]) : W p l e ({ frames := 0, cells := 0, slots := 0, locals := 0 } : Room) s m args below meth c H locs 0 0 (MQ below (wQ E (some (.long res)) M) args s 0 0 (wA E)) (F0 m 6 ls []) := by
  have key := wloop_W (b := (fun rec6 t => fX10_divisor_6_b M  rec6 t.1 t.2)) (P := fun t => ∀ (H : Heap) (locs : List Loc) (ls : Array Slot), wH E M H → va_S (wA E) s.heap H locs → lv_has ls 10 [(4, .long t.1), (6, .long t.2)] → W p l e ({ frames := 0, cells := 0, slots := 0, locals := 0 } : Room) s m args below meth c H locs 0 0 (MQ below (wQ E (some (.long res)) M) args s 0 0 (wA E)) (F0 m 6 ls [])) (r := res) (fun rec hrec t hf H locs ls hW hS hl => pX10_divisor_6_b B   (fun v0 v1 hf H locs ls hW hS hl => hrec (v0, v1) hf H locs ls hW hS hl) hf hW hS hl)
  exact key wfuel (y4, y6) hf H locs ls hW hS hl
set_option maxRecDepth 100000 in
set_option maxHeartbeats 4000000 in
theorem pX10_divisor (B : wB E p s m args meth c cX10_divisor 10 RX10 (some .long)) {M : wMem} {a0 : Int64} {a2 : Int64}  {res : Int64} (hf : fX10_divisor M a0 a2 = some res) {H : Heap} {locs : List Loc} {ls : Array Slot} (hW : wH E M H) (hS : va_S (wA E) s.heap H locs) (hl : lv_has ls 10 [(0, .long a0), (2, .long a2)]) : W p l e ({ frames := 0, cells := 0, slots := 0, locals := 0 } : Room) s m args below meth c H locs 0 0 (MQ below (wQ E (some (.long res)) M) args s 0 0 (wA E)) (F0 m 0 ls []) := by
  unfold fX10_divisor at hf
  obtain ⟨hx, hb, hr, hml, hown, hts, hlocks, hG, hV, hZ⟩ := id B
  refine lv_lload_n hx hb dX10_divisor_0 rfl (lv_at hl 0 rfl) ?_
  refine lv_lstore (lv' := [(4, .long a0), (0, .long a0), (2, .long a2)]) hx hb dX10_divisor_1 hl (by decide) rfl (fun ls hl => ?_)
  refine lv_lload_n hx hb dX10_divisor_3 rfl (lv_at hl 2 rfl) ?_
  refine lv_lstore (lv' := [(6, .long a2), (4, .long a0), (0, .long a0), (2, .long a2)]) hx hb dX10_divisor_4 hl (by decide) rfl (fun ls hl => ?_)
  exact pX10_divisor_6 B   hf hW hS (lv_sub hl [1, 0] rfl)
theorem cX10_divisor_ok (l : Launch) (E : wE) (M : wMem) (a0 : Int64) (a2 : Int64) {res : Int64} (hf : fX10_divisor M a0 a2 = some res) : wMet l yX10_divisor (wsM yX10_divisor cX10_divisor 10 (some .long)) ({ frames := 0, cells := 0, slots := 0, locals := 0 } : Room) E M [.long a0, .long a2] (some (.long res)) M :=
  wc_of (cc := cX10_divisor) (maxL := 10) (ret := (some .long)) (by decide) (Nat.le_of_ble_eq_true rfl) (fun _ _ _ _ _ _ _ _ B hW hl => pX10_divisor B  hf hW va_S.rf hl)
end
theorem cdX10_two : yX10_two.cls = RX10 ∧ yX10_two.cls ≠ "java/lang/invoke/MethodHandle" ∧ yX10_two.cls ≠ "java/lang/invoke/VarHandle" ∧ (parseMethodDescriptor yX10_two.desc).map (fun d => d.parameters.length) = some 1 := by decide +kernel
section
variable {p : Program} {l : Launch} {e : Env} {s : State} {m : MethodId} {args : Array Value} {below : List Frame} {meth : Method} {c : Code} {E : wE}
set_option maxRecDepth 100000 in
set_option maxHeartbeats 4000000 in
theorem pX10_two_146 (B : wB E p s m args meth c cX10_two 12 RX10 (some .long)) {M : wMem} {y8 : Int64} {y10 : Int64} {z0 : Int64}  {res : Int64 × wMem}   (hf : fX10_two_146 M  y8 y10 z0 = some res) {H : Heap} {locs : List Loc} {ls : Array Slot} (hW : wH E M H) (hS : va_S (wA E) s.heap H locs) (hl : lv_has ls 12 [(8, .long y8), (10, .long y10)]) : W p l e ({ frames := 2, cells := 0, slots := 0, locals := 42 } : Room) s m args below meth c H locs 0 0 (MQ below (wQ E (some (.long res.1)) res.2) args s 0 0 (wA E)) (F0 m 146 ls [.long z0]) := by
  unfold fX10_two_146 at hf
  obtain ⟨hx, hb, hr, hml, hown, hts, hlocks, hG, hV, hZ⟩ := id B
  refine lv_lload hx hb dX10_two_146 (lv_at hl 0 rfl) ?_
  refine lv_lload hx hb dX10_two_148 (lv_at hl 1 rfl) ?_
  obtain ⟨r14, hc13, hf⟩ := wbind_e hf
  refine wc_S (As := [.long y8, .long y10]) (rest := [.long z0]) hx hb hml hown hts hG hV hZ (cX10_divisor_ok l E M y8 y10 hc13) (va_cwS 2 hts gl_X10_242 rfl rfl rfl cdX10_divisor ⟨Nat.le_of_ble_eq_true rfl, Nat.le_of_ble_eq_true rfl⟩) rfl hl.1 rfl (Nat.le_of_ble_eq_true rfl) dX10_two_150 ⟨Nat.zero_le _, Nat.zero_le _⟩ hW hS rfl (fun H locs hW hS => ?_)
  obtain ⟨hz15, hf⟩ := wgzl_e hf
  refine lv_ldiv hx hb dX10_two_153 hz15 ?_
  have hres := Option.some.inj hf
  subst hres
  exact W.lret hx hb hr (wr_q hG hV hZ hW hS) hS.2.2 dX10_two_154
set_option maxRecDepth 100000 in
set_option maxHeartbeats 4000000 in
theorem pX10_two_57_b (B : wB E p s m args meth c cX10_two 12 RX10 (some .long)) {M : wMem} {y1 : Int32} {y2 : Int64} {y4 : Int64} {y6 : Int64} {y8 : Int32}  {rec57 : (Int64 × Int64 × Int64 × Int32 → Option (Int64 × wMem))} {res : Int64 × wMem}   (hrec57 : ∀ (y2' : Int64) (y4' : Int64) (y6' : Int64) (y8' : Int32), rec57 (y2', y4', y6', y8') = some res → ∀ (H : Heap) (locs : List Loc) (ls : Array Slot), wH E M H → va_S (wA E) s.heap H locs → lv_has ls 12 [(0, .ref (wad E 70)), (1, .int y1), (2, .long y2'), (4, .long y4'), (6, .long y6'), (8, .int y8')] → W p l e ({ frames := 2, cells := 0, slots := 0, locals := 42 } : Room) s m args below meth c H locs 0 0 (MQ below (wQ E (some (.long res.1)) res.2) args s 0 0 (wA E)) (F0 m 57 ls [])) (hf : fX10_two_57_b M  rec57 y1 y2 y4 y6 y8 = some res) {H : Heap} {locs : List Loc} {ls : Array Slot} (hW : wH E M H) (hS : va_S (wA E) s.heap H locs) (hl : lv_has ls 12 [(0, .ref (wad E 70)), (1, .int y1), (2, .long y2), (4, .long y4), (6, .long y6), (8, .int y8)]) : W p l e ({ frames := 2, cells := 0, slots := 0, locals := 42 } : Room) s m args below meth c H locs 0 0 (MQ below (wQ E (some (.long res.1)) res.2) args s 0 0 (wA E)) (F0 m 57 ls []) := by
  unfold fX10_two_57_b at hf
  obtain ⟨hx, hb, hr, hml, hown, hts, hlocks, hG, hV, hZ⟩ := id B
  refine lv_iload hx hb dX10_two_57 (lv_at hl 5 rfl) ?_
  refine lv_aload_n hx hb dX10_two_59 rfl (lv_at hl 0 rfl) ?_
  refine wm_get hx hb hts wu_X10 hown hV hW (wlt_9 (rfl : wkd 70 = 9)) (wen_9 (rfl : wkd 70 = 9)) (C := RX10) (T := TX10) (N := 31) rfl 7 (by decide) (hts _ wA_721) rfl dX10_two_60 ?_
  rcases wif_e hf with ⟨hq9, hf⟩ | ⟨hq9, hf⟩
  · refine lv_icmp_ge (tgt := 120) hx hb dX10_two_63 (by decide) (fun _ => ?_) (fun h => absurd hq9 h)
    refine lv_lload_n hx hb dX10_two_120 rfl (lv_at hl 2 rfl) ?_
    refine lv_lload hx hb dX10_two_121 (lv_at hl 3 rfl) ?_
    refine lv_lsub hx hb dX10_two_123 ?_
    refine lv_lload hx hb dX10_two_124 (lv_at hl 4 rfl) ?_
    refine lv_lsub hx hb dX10_two_126 ?_
    refine lv_topl (fun x10 ex10 => ?_)
    replace hf := wlet_y ex10 hf
    refine lv_lstore (lv' := [(8, .long x10), (0, .ref (wad E 70)), (1, .int y1), (2, .long y2), (4, .long y4), (6, .long y6)]) hx hb dX10_two_127 hl (by decide) rfl (fun ls hl => ?_)
    refine lv_lload_n hx hb dX10_two_129 rfl (lv_at hl 3 rfl) ?_
    refine lv_lload hx hb dX10_two_130 (lv_at hl 4 rfl) ?_
    refine lv_lsub hx hb dX10_two_132 ?_
    refine lv_topl (fun x11 ex11 => ?_)
    replace hf := wlet_y ex11 hf
    refine lv_lstore (lv' := [(10, .long x11), (8, .long x10), (0, .ref (wad E 70)), (1, .int y1), (2, .long y2), (4, .long y4), (6, .long y6)]) hx hb dX10_two_133 hl (by decide) rfl (fun ls hl => ?_)
    refine lv_iload_n hx hb dX10_two_135 rfl (lv_at hl 3 rfl) ?_
    rcases wif_e hf with ⟨hq12, hf⟩ | ⟨hq12, hf⟩
    · refine lv_if_ne (tgt := 144) hx hb dX10_two_136 (by decide) (fun h => absurd hq12 h) (fun _ => ?_)
      refine lv_lload hx hb dX10_two_139 (lv_at hl 1 rfl) ?_
      refine lv_goto (tgt := 146) hx hb dX10_two_141 (by decide) ?_
      exact pX10_two_146 B   hf hW hS (lv_sub hl [1, 0] rfl)
    · refine lv_if_ne (tgt := 144) hx hb dX10_two_136 (by decide) (fun _ => ?_) (fun h => absurd h hq12)
      refine lv_lload hx hb dX10_two_144 (lv_at hl 0 rfl) ?_
      exact pX10_two_146 B   hf hW hS (lv_sub hl [1, 0] rfl)
  · refine lv_icmp_ge (tgt := 120) hx hb dX10_two_63 (by decide) (fun h => absurd h hq9) (fun _ => ?_)
    refine lv_bipush (v := 99) hx hb dX10_two_66 (by decide) ?_
    refine lv_aload_n hx hb dX10_two_68 rfl (lv_at hl 0 rfl) ?_
    refine lv_iload hx hb dX10_two_69 (lv_at hl 5 rfl) ?_
    obtain ⟨r17, hc16, hf⟩ := wbind_e hf
    refine wc_V (As := [.int y8]) (rest := [.int 99]) hx hb hml hown hts hG hV hZ (wlt_9 (rfl : wkd 70 = 9)) (q := (RX10, TX10, 31)) (wen_9 (rfl : wkd 70 = 9)) rfl (cX10_likelyOf_ok l E M y8 hc16) (cwV 1 hts gl_X10_174 rfl rfl rfl cdX10_likelyOf ⟨Nat.le_of_ble_eq_true rfl, Nat.le_of_ble_eq_true rfl⟩) rfl hl.1 rfl (Nat.le_of_ble_eq_true rfl) dX10_two_71 ⟨Nat.zero_le _, Nat.zero_le _⟩ hW hS rfl (fun H locs hW hS => ?_)
    obtain ⟨r19, hc18, hf⟩ := wbind_e hf
    refine wc_S (As := [.int 99, .int r17]) (rest := []) hx hb hml hown hts hG hV hZ (cX10_least_ok l E M 99 r17 hc18) (va_cwS 2 hts gl_X10_158 rfl rfl rfl cdX10_least ⟨Nat.le_of_ble_eq_true rfl, Nat.le_of_ble_eq_true rfl⟩) rfl hl.1 rfl (Nat.le_of_ble_eq_true rfl) dX10_two_74 ⟨Nat.zero_le _, Nat.zero_le _⟩ hW hS rfl (fun H locs hW hS => ?_)
    refine lv_istore (lv' := [(9, .int r19), (0, .ref (wad E 70)), (1, .int y1), (2, .long y2), (4, .long y4), (6, .long y6), (8, .int y8)]) hx hb dX10_two_77 hl (by decide) rfl (fun ls hl => ?_)
    refine lv_lload hx hb dX10_two_79 (lv_at hl 5 rfl) ?_
    refine lv_bipush (v := 100) hx hb dX10_two_81 (by decide) ?_
    refine lv_iload hx hb dX10_two_83 (lv_at hl 0 rfl) ?_
    refine lv_isub hx hb dX10_two_85 ?_
    refine lv_i2l hx hb dX10_two_86 rfl ?_
    refine lv_lmul hx hb dX10_two_87 ?_
    refine lv_lload hx hb dX10_two_88 (lv_at hl 4 rfl) ?_
    refine lv_iload hx hb dX10_two_90 (lv_at hl 0 rfl) ?_
    refine lv_i2l hx hb dX10_two_92 rfl ?_
    refine lv_lmul hx hb dX10_two_93 ?_
    refine lv_ladd hx hb dX10_two_94 ?_
    refine lv_topl (fun x20 ex20 => ?_)
    replace hf := wlet_y ex20 hf
    refine lv_lstore (lv' := [(6, .long x20), (9, .int r19), (0, .ref (wad E 70)), (1, .int y1), (2, .long y2), (4, .long y4), (8, .int y8)]) hx hb dX10_two_95 hl (by decide) rfl (fun ls hl => ?_)
    refine lv_lload hx hb dX10_two_97 (lv_at hl 5 rfl) ?_
    refine lv_bipush (v := 100) hx hb dX10_two_99 (by decide) ?_
    refine lv_iload hx hb dX10_two_101 (lv_at hl 1 rfl) ?_
    refine lv_isub hx hb dX10_two_103 ?_
    refine lv_i2l hx hb dX10_two_104 rfl ?_
    refine lv_lmul hx hb dX10_two_105 ?_
    refine lv_topl (fun x21 ex21 => ?_)
    replace hf := wlet_y ex21 hf
    refine lv_lstore (lv' := [(4, .long x21), (6, .long x20), (9, .int r19), (0, .ref (wad E 70)), (1, .int y1), (2, .long y2), (8, .int y8)]) hx hb dX10_two_106 hl (by decide) rfl (fun ls hl => ?_)
    refine lv_lload_n hx hb dX10_two_108 rfl (lv_at hl 5 rfl) ?_
    refine lv_ldc2 (v := 100) hx hb hown (hts _ wA_1074) dX10_two_109 ?_
    refine lv_lmul hx hb dX10_two_112 ?_
    refine lv_topl (fun x22 ex22 => ?_)
    replace hf := wlet_y ex22 hf
    refine lv_lstore_n (lv' := [(2, .long x22), (4, .long x21), (6, .long x20), (9, .int r19), (0, .ref (wad E 70)), (1, .int y1), (8, .int y8)]) hx hb dX10_two_113 rfl hl (by decide) rfl (fun ls hl => ?_)
    obtain ⟨x23, ex23, hf⟩ := wlet_e hf
    refine lv_iinc (v := x23) (lv' := [(8, .int x23), (2, .long x22), (4, .long x21), (6, .long x20), (9, .int r19), (0, .ref (wad E 70)), (1, .int y1)]) hx hb dX10_two_114 hl (k := 6) rfl (by rw [ex23]; rfl) (by decide) rfl (fun ls hl => ?_)
    refine lv_goto (tgt := 57) hx hb dX10_two_117 (by decide) ?_
    exact hrec57 x22 x21 x20 x23 hf _ _ _ hW hS (lv_sub hl [5, 6, 1, 2, 3, 0] rfl)
set_option maxRecDepth 100000 in
set_option maxHeartbeats 4000000 in
theorem pX10_two_57 (B : wB E p s m args meth c cX10_two 12 RX10 (some .long)) {M : wMem} {y1 : Int32} {y2 : Int64} {y4 : Int64} {y6 : Int64} {y8 : Int32}  {res : Int64 × wMem}   (hf : fX10_two_57 M  y1 y2 y4 y6 y8 = some res) {H : Heap} {locs : List Loc} {ls : Array Slot} (hW : wH E M H) (hS : va_S (wA E) s.heap H locs) (hl : lv_has ls 12 [(0, .ref (wad E 70)), (1, .int y1), (2, .long y2), (4, .long y4), (6, .long y6), (8, .int y8)]) : W p l e ({ frames := 2, cells := 0, slots := 0, locals := 42 } : Room) s m args below meth c H locs 0 0 (MQ below (wQ E (some (.long res.1)) res.2) args s 0 0 (wA E)) (F0 m 57 ls []) := by
  have key := wloop_W (b := (fun rec57 t => fX10_two_57_b M  rec57 y1 t.1 t.2.1 t.2.2.1 t.2.2.2)) (P := fun t => ∀ (H : Heap) (locs : List Loc) (ls : Array Slot), wH E M H → va_S (wA E) s.heap H locs → lv_has ls 12 [(0, .ref (wad E 70)), (1, .int y1), (2, .long t.1), (4, .long t.2.1), (6, .long t.2.2.1), (8, .int t.2.2.2)] → W p l e ({ frames := 2, cells := 0, slots := 0, locals := 42 } : Room) s m args below meth c H locs 0 0 (MQ below (wQ E (some (.long res.1)) res.2) args s 0 0 (wA E)) (F0 m 57 ls [])) (r := res) (fun rec hrec t hf H locs ls hW hS hl => pX10_two_57_b B   (fun v0 v1 v2 v3 hf H locs ls hW hS hl => hrec (v0, v1, v2, v3) hf H locs ls hW hS hl) hf hW hS hl)
  exact key wfuel (y2, y4, y6, y8) hf H locs ls hW hS hl
set_option maxRecDepth 100000 in
set_option maxHeartbeats 4000000 in
theorem pX10_two (B : wB E p s m args meth c cX10_two 12 RX10 (some .long)) {M : wMem} {a1 : Int32}  {res : Int64 × wMem} (hf : fX10_two M a1 = some res) {H : Heap} {locs : List Loc} {ls : Array Slot} (hW : wH E M H) (hS : va_S (wA E) s.heap H locs) (hl : lv_has ls 12 [(0, .ref (wad E 70)), (1, .int a1)]) : W p l e ({ frames := 2, cells := 0, slots := 0, locals := 42 } : Room) s m args below meth c H locs 0 0 (MQ below (wQ E (some (.long res.1)) res.2) args s 0 0 (wA E)) (F0 m 0 ls []) := by
  unfold fX10_two at hf
  obtain ⟨hx, hb, hr, hml, hown, hts, hlocks, hG, hV, hZ⟩ := id B
  refine lv_iload_n hx hb dX10_two_0 rfl (lv_at hl 1 rfl) ?_
  refine lv_iconst (v := 0) hx hb dX10_two_1 rfl ?_
  refine lv_iconst (v := 1) hx hb dX10_two_2 rfl ?_
  obtain ⟨r2, hc1, hf⟩ := wbind_e hf
  refine wc_S (As := [.int a1, .int 0, .int 1]) (rest := []) hx hb hml hown hts hG hV hZ (cX10_isIn_ok l E M a1 0 1 hc1) (va_cwS 3 hts gl_X10_94 rfl rfl rfl cdX10_isIn ⟨Nat.le_of_ble_eq_true rfl, Nat.le_of_ble_eq_true rfl⟩) rfl hl.1 rfl (Nat.le_of_ble_eq_true rfl) dX10_two_3 ⟨Nat.zero_le _, Nat.zero_le _⟩ hW hS rfl (fun H locs hW hS => ?_)
  rcases wif_e hf with ⟨hq3, hf⟩ | ⟨hq3, hf⟩
  · refine lv_if_ne (tgt := 16) hx hb dX10_two_6 (by decide) (fun h => absurd hq3 h) (fun _ => ?_)
    refine lv_aload_n hx hb dX10_two_9 rfl (lv_at hl 0 rfl) ?_
    refine lv_bipush (v := (-2)) hx hb dX10_two_10 (by decide) ?_
    obtain ⟨r31, M32, hc30, hf⟩ := wbind_p hf
    refine wc_V (As := [.int (-2)]) (rest := []) hx hb hml hown hts hG hV hZ (wlt_9 (rfl : wkd 70 = 9)) (q := (RX10, TX10, 31)) (wen_9 (rfl : wkd 70 = 9)) rfl (cX10_lowest_ok l E M (-2) hc30) (cwV 1 hts gl_X10_236 rfl rfl rfl cdX10_lowest ⟨Nat.le_of_ble_eq_true rfl, Nat.le_of_ble_eq_true rfl⟩) rfl hl.1 rfl (Nat.le_of_ble_eq_true rfl) dX10_two_12 ⟨Nat.zero_le _, Nat.zero_le _⟩ hW hS rfl (fun H locs hW hS => ?_)
    have hres := Option.some.inj hf
    subst hres
    exact W.lret hx hb hr (wr_q hG hV hZ hW hS) hS.2.2 dX10_two_15
  · refine lv_if_ne (tgt := 16) hx hb dX10_two_6 (by decide) (fun _ => ?_) (fun h => absurd h hq3)
    refine lv_aload_n hx hb dX10_two_16 rfl (lv_at hl 0 rfl) ?_
    refine wm_get hx hb hts wu_X10 hown hV hW (wlt_9 (rfl : wkd 70 = 9)) (wen_9 (rfl : wkd 70 = 9)) (C := RX10) (T := TX10) (N := 31) rfl 7 (by decide) (hts _ wA_721) rfl dX10_two_17 ?_
    rcases wif_e hf with ⟨hq4, hf⟩ | ⟨hq4, hf⟩
    · refine lv_if_ne (tgt := 30) hx hb dX10_two_20 (by decide) (fun h => absurd hq4 h) (fun _ => ?_)
      refine lv_aload_n hx hb dX10_two_23 rfl (lv_at hl 0 rfl) ?_
      refine lv_bipush (v := (-3)) hx hb dX10_two_24 (by decide) ?_
      obtain ⟨r28, M29, hc27, hf⟩ := wbind_p hf
      refine wc_V (As := [.int (-3)]) (rest := []) hx hb hml hown hts hG hV hZ (wlt_9 (rfl : wkd 70 = 9)) (q := (RX10, TX10, 31)) (wen_9 (rfl : wkd 70 = 9)) rfl (cX10_lowest_ok l E M (-3) hc27) (cwV 1 hts gl_X10_236 rfl rfl rfl cdX10_lowest ⟨Nat.le_of_ble_eq_true rfl, Nat.le_of_ble_eq_true rfl⟩) rfl hl.1 rfl (Nat.le_of_ble_eq_true rfl) dX10_two_26 ⟨Nat.zero_le _, Nat.zero_le _⟩ hW hS rfl (fun H locs hW hS => ?_)
      have hres := Option.some.inj hf
      subst hres
      exact W.lret hx hb hr (wr_q hG hV hZ hW hS) hS.2.2 dX10_two_29
    · refine lv_if_ne (tgt := 30) hx hb dX10_two_20 (by decide) (fun _ => ?_) (fun h => absurd h hq4)
      refine lv_aload_n hx hb dX10_two_30 rfl (lv_at hl 0 rfl) ?_
      refine wm_get hx hb hts wu_X10 hown hV hW (wlt_9 (rfl : wkd 70 = 9)) (wen_9 (rfl : wkd 70 = 9)) (C := RX10) (T := TX10) (N := 31) rfl 7 (by decide) (hts _ wA_721) rfl dX10_two_31 ?_
      refine lv_bipush (v := 8) hx hb dX10_two_34 (by decide) ?_
      rcases wif_e hf with ⟨hq5, hf⟩ | ⟨hq5, hf⟩
      · refine lv_icmp_le (tgt := 46) hx hb dX10_two_36 (by decide) (fun _ => ?_) (fun h => absurd hq5 h)
        refine lv_lconst (v := 1) hx hb dX10_two_46 rfl ?_
        refine lv_topl (fun x6 ex6 => ?_)
        replace hf := wlet_y ex6 hf
        refine lv_lstore_n (lv' := [(2, .long x6), (0, .ref (wad E 70)), (1, .int a1)]) hx hb dX10_two_47 rfl hl (by decide) rfl (fun ls hl => ?_)
        refine lv_lconst (v := 1) hx hb dX10_two_48 rfl ?_
        refine lv_topl (fun x7 ex7 => ?_)
        replace hf := wlet_y ex7 hf
        refine lv_lstore (lv' := [(4, .long x7), (2, .long x6), (0, .ref (wad E 70)), (1, .int a1)]) hx hb dX10_two_49 hl (by decide) rfl (fun ls hl => ?_)
        refine lv_lconst (v := 0) hx hb dX10_two_51 rfl ?_
        refine lv_topl (fun x8 ex8 => ?_)
        replace hf := wlet_y ex8 hf
        refine lv_lstore (lv' := [(6, .long x8), (4, .long x7), (2, .long x6), (0, .ref (wad E 70)), (1, .int a1)]) hx hb dX10_two_52 hl (by decide) rfl (fun ls hl => ?_)
        refine lv_iconst (v := 0) hx hb dX10_two_54 rfl ?_
        refine lv_istore (lv' := [(8, .int 0), (6, .long x8), (4, .long x7), (2, .long x6), (0, .ref (wad E 70)), (1, .int a1)]) hx hb dX10_two_55 hl (by decide) rfl (fun ls hl => ?_)
        exact pX10_two_57 B   hf hW hS (lv_sub hl [4, 5, 3, 2, 1, 0] rfl)
      · refine lv_icmp_le (tgt := 46) hx hb dX10_two_36 (by decide) (fun h => absurd h hq5) (fun _ => ?_)
        refine lv_aload_n hx hb dX10_two_39 rfl (lv_at hl 0 rfl) ?_
        refine lv_bipush (v := (-6)) hx hb dX10_two_40 (by decide) ?_
        obtain ⟨r25, M26, hc24, hf⟩ := wbind_p hf
        refine wc_V (As := [.int (-6)]) (rest := []) hx hb hml hown hts hG hV hZ (wlt_9 (rfl : wkd 70 = 9)) (q := (RX10, TX10, 31)) (wen_9 (rfl : wkd 70 = 9)) rfl (cX10_lowest_ok l E M (-6) hc24) (cwV 1 hts gl_X10_236 rfl rfl rfl cdX10_lowest ⟨Nat.le_of_ble_eq_true rfl, Nat.le_of_ble_eq_true rfl⟩) rfl hl.1 rfl (Nat.le_of_ble_eq_true rfl) dX10_two_42 ⟨Nat.zero_le _, Nat.zero_le _⟩ hW hS rfl (fun H locs hW hS => ?_)
        have hres := Option.some.inj hf
        subst hres
        exact W.lret hx hb hr (wr_q hG hV hZ hW hS) hS.2.2 dX10_two_45
theorem cX10_two_ok (l : Launch) (E : wE) (M : wMem) (a1 : Int32) {res : Int64 × wMem} (hf : fX10_two M a1 = some res) : wMet l yX10_two (wsM yX10_two cX10_two 12 (some .long)) ({ frames := 2, cells := 0, slots := 0, locals := 42 } : Room) E M [.ref (wad E 70), .int a1] (some (.long res.1)) res.2 :=
  wc_of (cc := cX10_two) (maxL := 12) (ret := (some .long)) (by decide) (Nat.le_of_ble_eq_true rfl) (fun _ _ _ _ _ _ _ _ B hW hl => pX10_two B  hf hW va_S.rf hl)
end
