theorem cdX1_isBridger : yX1_isBridger.cls = RX1 ∧ yX1_isBridger.cls ≠ "java/lang/invoke/MethodHandle" ∧ yX1_isBridger.cls ≠ "java/lang/invoke/VarHandle" ∧ (parseMethodDescriptor yX1_isBridger.desc).map (fun d => d.parameters.length) = some 0 := by decide +kernel
section
variable {p : Program} {l : Launch} {e : Env} {s : State} {m : MethodId} {args : Array Value} {below : List Frame} {meth : Method} {c : Code} {E : wE}
set_option maxRecDepth 100000 in
set_option maxHeartbeats 4000000 in
theorem pX1_isBridger_16 (B : wB E p s m args meth c cX1_isBridger 1 RX1 (some .boolean)) {M : wMem}   {res : Bool}   (hf : fX1_isBridger_16 M   = some res) {H : Heap} {locs : List Loc} {ls : Array Slot} (hW : wH E M H) (hS : va_S (wA E) s.heap H locs) (hl : lv_has ls 1 []) : W p l e ({ frames := 0, cells := 0, slots := 0, locals := 0 } : Room) s m args below meth c H locs 0 0 (MQ below (wQ E (some (.int (wb res))) M) args s 0 0 (wA E)) (F0 m 16 ls []) := by
  unfold fX1_isBridger_16 at hf
  obtain ⟨hx, hb, hr, hml, hown, hts, hlocks, hG, hV, hZ⟩ := id B
  refine lv_iconst (v := 1) hx hb dX1_isBridger_16 rfl ?_
  refine lv_goto (tgt := 21) hx hb dX1_isBridger_17 (by decide) ?_
  have hres := Option.some.inj hf
  subst hres
  exact W.zret hx hb hr (wb_n true) (wr_q hG hV hZ hW hS) hS.2.2 dX1_isBridger_21
set_option maxRecDepth 100000 in
set_option maxHeartbeats 4000000 in
theorem pX1_isBridger (B : wB E p s m args meth c cX1_isBridger 1 RX1 (some .boolean)) {M : wMem} {k0 : Nat} (hk0 : wkd k0 = 0) {res : Bool} (hf : fX1_isBridger M k0 = some res) {H : Heap} {locs : List Loc} {ls : Array Slot} (hW : wH E M H) (hS : va_S (wA E) s.heap H locs) (hl : lv_has ls 1 [(0, .ref (wad E k0))]) : W p l e ({ frames := 0, cells := 0, slots := 0, locals := 0 } : Room) s m args below meth c H locs 0 0 (MQ below (wQ E (some (.int (wb res))) M) args s 0 0 (wA E)) (F0 m 0 ls []) := by
  unfold fX1_isBridger at hf
  obtain ⟨hx, hb, hr, hml, hown, hts, hlocks, hG, hV, hZ⟩ := id B
  refine lv_aload_n hx hb dX1_isBridger_0 rfl (lv_at hl 0 rfl) ?_
  refine wm_get hx hb hts wu_X1 hown hV hW (wlt_0 hk0) (wen_0 hk0) (C := RX1) (T := TX1) (N := 5) rfl 0 (by decide) (hts _ wA_83) rfl dX1_isBridger_1 ?_
  refine lv_iconst (v := 1) hx hb dX1_isBridger_4 rfl ?_
  rcases wif_e hf with ⟨hq1, hf⟩ | ⟨hq1, hf⟩
  · refine lv_icmp_eq (tgt := 16) hx hb dX1_isBridger_5 (by decide) (fun _ => ?_) (fun h => absurd hq1 h)
    exact pX1_isBridger_16 B   hf hW hS (lv_sub hl [] rfl)
  · refine lv_icmp_eq (tgt := 16) hx hb dX1_isBridger_5 (by decide) (fun h => absurd h hq1) (fun _ => ?_)
    refine lv_aload_n hx hb dX1_isBridger_8 rfl (lv_at hl 0 rfl) ?_
    refine wm_get hx hb hts wu_X1 hown hV hW (wlt_0 hk0) (wen_0 hk0) (C := RX1) (T := TX1) (N := 5) rfl 0 (by decide) (hts _ wA_83) rfl dX1_isBridger_9 ?_
    refine lv_iconst (v := 5) hx hb dX1_isBridger_12 rfl ?_
    rcases wif_e hf with ⟨hq2, hf⟩ | ⟨hq2, hf⟩
    · refine lv_icmp_ne (tgt := 20) hx hb dX1_isBridger_13 (by decide) (fun h => absurd hq2 h) (fun _ => ?_)
      exact pX1_isBridger_16 B   hf hW hS (lv_sub hl [] rfl)
    · refine lv_icmp_ne (tgt := 20) hx hb dX1_isBridger_13 (by decide) (fun _ => ?_) (fun h => absurd h hq2)
      refine lv_iconst (v := 0) hx hb dX1_isBridger_20 rfl ?_
      have hres := Option.some.inj hf
      subst hres
      exact W.zret hx hb hr (wb_n false) (wr_q hG hV hZ hW hS) hS.2.2 dX1_isBridger_21
theorem cX1_isBridger_ok (l : Launch) (E : wE) (M : wMem) (k0 : Nat) (hk0 : wkd k0 = 0) {res : Bool} (hf : fX1_isBridger M k0 = some res) : wMet l yX1_isBridger (wsM yX1_isBridger cX1_isBridger 1 (some .boolean)) ({ frames := 0, cells := 0, slots := 0, locals := 0 } : Room) E M [.ref (wad E k0)] (some (.int (wb res))) M :=
  wc_of (cc := cX1_isBridger) (maxL := 1) (ret := (some .boolean)) (by decide) (Nat.le_of_ble_eq_true rfl) (fun _ _ _ _ _ _ _ _ B hW hl => pX1_isBridger B hk0 hf hW va_S.rf hl)
end
theorem cdX1_isLoose : yX1_isLoose.cls = RX1 ∧ yX1_isLoose.cls ≠ "java/lang/invoke/MethodHandle" ∧ yX1_isLoose.cls ≠ "java/lang/invoke/VarHandle" ∧ (parseMethodDescriptor yX1_isLoose.desc).map (fun d => d.parameters.length) = some 0 := by decide +kernel
section
variable {p : Program} {l : Launch} {e : Env} {s : State} {m : MethodId} {args : Array Value} {below : List Frame} {meth : Method} {c : Code} {E : wE}
set_option maxRecDepth 100000 in
set_option maxHeartbeats 4000000 in
theorem pX1_isLoose_16 (B : wB E p s m args meth c cX1_isLoose 1 RX1 (some .boolean)) {M : wMem}   {res : Bool}   (hf : fX1_isLoose_16 M   = some res) {H : Heap} {locs : List Loc} {ls : Array Slot} (hW : wH E M H) (hS : va_S (wA E) s.heap H locs) (hl : lv_has ls 1 []) : W p l e ({ frames := 0, cells := 0, slots := 0, locals := 0 } : Room) s m args below meth c H locs 0 0 (MQ below (wQ E (some (.int (wb res))) M) args s 0 0 (wA E)) (F0 m 16 ls []) := by
  unfold fX1_isLoose_16 at hf
  obtain ⟨hx, hb, hr, hml, hown, hts, hlocks, hG, hV, hZ⟩ := id B
  refine lv_iconst (v := 1) hx hb dX1_isLoose_16 rfl ?_
  refine lv_goto (tgt := 21) hx hb dX1_isLoose_17 (by decide) ?_
  have hres := Option.some.inj hf
  subst hres
  exact W.zret hx hb hr (wb_n true) (wr_q hG hV hZ hW hS) hS.2.2 dX1_isLoose_21
set_option maxRecDepth 100000 in
set_option maxHeartbeats 4000000 in
theorem pX1_isLoose (B : wB E p s m args meth c cX1_isLoose 1 RX1 (some .boolean)) {M : wMem} {k0 : Nat} (hk0 : wkd k0 = 0) {res : Bool} (hf : fX1_isLoose M k0 = some res) {H : Heap} {locs : List Loc} {ls : Array Slot} (hW : wH E M H) (hS : va_S (wA E) s.heap H locs) (hl : lv_has ls 1 [(0, .ref (wad E k0))]) : W p l e ({ frames := 0, cells := 0, slots := 0, locals := 0 } : Room) s m args below meth c H locs 0 0 (MQ below (wQ E (some (.int (wb res))) M) args s 0 0 (wA E)) (F0 m 0 ls []) := by
  unfold fX1_isLoose at hf
  obtain ⟨hx, hb, hr, hml, hown, hts, hlocks, hG, hV, hZ⟩ := id B
  refine lv_aload_n hx hb dX1_isLoose_0 rfl (lv_at hl 0 rfl) ?_
  refine wm_get hx hb hts wu_X1 hown hV hW (wlt_0 hk0) (wen_0 hk0) (C := RX1) (T := TX1) (N := 5) rfl 0 (by decide) (hts _ wA_83) rfl dX1_isLoose_1 ?_
  refine lv_iconst (v := 2) hx hb dX1_isLoose_4 rfl ?_
  rcases wif_e hf with ⟨hq1, hf⟩ | ⟨hq1, hf⟩
  · refine lv_icmp_eq (tgt := 16) hx hb dX1_isLoose_5 (by decide) (fun _ => ?_) (fun h => absurd hq1 h)
    exact pX1_isLoose_16 B   hf hW hS (lv_sub hl [] rfl)
  · refine lv_icmp_eq (tgt := 16) hx hb dX1_isLoose_5 (by decide) (fun h => absurd h hq1) (fun _ => ?_)
    refine lv_aload_n hx hb dX1_isLoose_8 rfl (lv_at hl 0 rfl) ?_
    refine wm_get hx hb hts wu_X1 hown hV hW (wlt_0 hk0) (wen_0 hk0) (C := RX1) (T := TX1) (N := 5) rfl 0 (by decide) (hts _ wA_83) rfl dX1_isLoose_9 ?_
    refine lv_iconst (v := 3) hx hb dX1_isLoose_12 rfl ?_
    rcases wif_e hf with ⟨hq2, hf⟩ | ⟨hq2, hf⟩
    · refine lv_icmp_ne (tgt := 20) hx hb dX1_isLoose_13 (by decide) (fun h => absurd hq2 h) (fun _ => ?_)
      exact pX1_isLoose_16 B   hf hW hS (lv_sub hl [] rfl)
    · refine lv_icmp_ne (tgt := 20) hx hb dX1_isLoose_13 (by decide) (fun _ => ?_) (fun h => absurd h hq2)
      refine lv_iconst (v := 0) hx hb dX1_isLoose_20 rfl ?_
      have hres := Option.some.inj hf
      subst hres
      exact W.zret hx hb hr (wb_n false) (wr_q hG hV hZ hW hS) hS.2.2 dX1_isLoose_21
theorem cX1_isLoose_ok (l : Launch) (E : wE) (M : wMem) (k0 : Nat) (hk0 : wkd k0 = 0) {res : Bool} (hf : fX1_isLoose M k0 = some res) : wMet l yX1_isLoose (wsM yX1_isLoose cX1_isLoose 1 (some .boolean)) ({ frames := 0, cells := 0, slots := 0, locals := 0 } : Room) E M [.ref (wad E k0)] (some (.int (wb res))) M :=
  wc_of (cc := cX1_isLoose) (maxL := 1) (ret := (some .boolean)) (by decide) (Nat.le_of_ble_eq_true rfl) (fun _ _ _ _ _ _ _ _ B hW hl => pX1_isLoose B hk0 hf hW va_S.rf hl)
end
theorem cdX1_likely : yX1_likely.cls = RX1 ∧ yX1_likely.cls ≠ "java/lang/invoke/MethodHandle" ∧ yX1_likely.cls ≠ "java/lang/invoke/VarHandle" ∧ (parseMethodDescriptor yX1_likely.desc).map (fun d => d.parameters.length) = some 0 := by decide +kernel
section
variable {p : Program} {l : Launch} {e : Env} {s : State} {m : MethodId} {args : Array Value} {below : List Frame} {meth : Method} {c : Code} {E : wE}
set_option maxRecDepth 100000 in
set_option maxHeartbeats 4000000 in
theorem pX1_likely (B : wB E p s m args meth c cX1_likely 2 RX1 (some .int)) {M : wMem} {k0 : Nat} (hk0 : wkd k0 = 0) {res : Int32} (hf : fX1_likely M k0 = some res) {H : Heap} {locs : List Loc} {ls : Array Slot} (hW : wH E M H) (hS : va_S (wA E) s.heap H locs) (hl : lv_has ls 2 [(0, .ref (wad E k0))]) : W p l e ({ frames := 1, cells := 0, slots := 0, locals := 20 } : Room) s m args below meth c H locs 0 0 (MQ below (wQ E (some (.int res)) M) args s 0 0 (wA E)) (F0 m 0 ls []) := by
  unfold fX1_likely at hf
  obtain ⟨hx, hb, hr, hml, hown, hts, hlocks, hG, hV, hZ⟩ := id B
  refine lv_aload_n hx hb dX1_likely_0 rfl (lv_at hl 0 rfl) ?_
  obtain ⟨r2, hc1, hf⟩ := wbind_e hf
  refine wc_V (As := []) (rest := []) hx hb hml hown hts hG hV hZ (wlt_0 hk0) (q := (RX1, TX1, 5)) (wen_0 hk0) rfl (cX1_isBridger_ok l E M k0 hk0 hc1) (cwV 0 hts gl_X1_38 rfl rfl rfl cdX1_isBridger ⟨Nat.le_of_ble_eq_true rfl, Nat.le_of_ble_eq_true rfl⟩) rfl hl.1 rfl (Nat.le_of_ble_eq_true rfl) dX1_likely_1 ⟨Nat.zero_le _, Nat.zero_le _⟩ hW hS rfl (fun H locs hW hS => ?_)
  rcases wif_e hf with ⟨hq3, hf⟩ | ⟨hq3, hf⟩
  · refine lv_if_eq (tgt := 9) hx hb dX1_likely_4 (by decide) (fun _ => ?_) (fun h => absurd hq3 h)
    refine lv_aload_n hx hb dX1_likely_9 rfl (lv_at hl 0 rfl) ?_
    refine wm_get hx hb hts wu_X1 hown hV hW (wlt_0 hk0) (wen_0 hk0) (C := RX1) (T := TX1) (N := 5) rfl 3 (by decide) (hts _ wA_91) rfl dX1_likely_10 ?_
    refine lv_bipush (v := 10) hx hb dX1_likely_13 (by decide) ?_
    obtain ⟨hz4, hf⟩ := wgz_e hf
    refine lv_idiv hx hb dX1_likely_15 hz4 ?_
    refine lv_iconst (v := 1) hx hb dX1_likely_16 rfl ?_
    refine lv_iadd hx hb dX1_likely_17 ?_
    refine lv_topi (fun x5 ex5 => ?_)
    replace hf := wlet_y ex5 hf
    refine lv_istore_n (lv' := [(1, .int x5), (0, .ref (wad E k0))]) hx hb dX1_likely_18 rfl hl (by decide) rfl (fun ls hl => ?_)
    refine lv_aload_n hx hb dX1_likely_19 rfl (lv_at hl 1 rfl) ?_
    obtain ⟨r7, hc6, hf⟩ := wbind_e hf
    refine wc_V (As := []) (rest := []) hx hb hml hown hts hG hV hZ (wlt_0 hk0) (q := (RX1, TX1, 5)) (wen_0 hk0) rfl (cX1_isLoose_ok l E M k0 hk0 hc6) (cwV 0 hts gl_X1_41 rfl rfl rfl cdX1_isLoose ⟨Nat.le_of_ble_eq_true rfl, Nat.le_of_ble_eq_true rfl⟩) rfl hl.1 rfl (Nat.le_of_ble_eq_true rfl) dX1_likely_20 ⟨Nat.zero_le _, Nat.zero_le _⟩ hW hS rfl (fun H locs hW hS => ?_)
    rcases wif_e hf with ⟨hq8, hf⟩ | ⟨hq8, hf⟩
    · refine lv_if_eq (tgt := 32) hx hb dX1_likely_23 (by decide) (fun _ => ?_) (fun h => absurd hq8 h)
      refine lv_iload_n hx hb dX1_likely_32 rfl (lv_at hl 0 rfl) ?_
      have hres := Option.some.inj hf
      subst hres
      exact W.iret hx hb hr (wr_q hG hV hZ hW hS) hS.2.2 dX1_likely_33
    · refine lv_if_eq (tgt := 32) hx hb dX1_likely_23 (by decide) (fun h => absurd h hq8) (fun _ => ?_)
      refine lv_iload_n hx hb dX1_likely_26 rfl (lv_at hl 0 rfl) ?_
      refine lv_iconst (v := 3) hx hb dX1_likely_27 rfl ?_
      refine lv_iadd hx hb dX1_likely_28 ?_
      refine lv_goto (tgt := 33) hx hb dX1_likely_29 (by decide) ?_
      have hres := Option.some.inj hf
      subst hres
      exact W.iret hx hb hr (wr_q hG hV hZ hW hS) hS.2.2 dX1_likely_33
  · refine lv_if_eq (tgt := 9) hx hb dX1_likely_4 (by decide) (fun h => absurd h hq3) (fun _ => ?_)
    refine lv_iconst (v := 1) hx hb dX1_likely_7 rfl ?_
    have hres := Option.some.inj hf
    subst hres
    exact W.iret hx hb hr (wr_q hG hV hZ hW hS) hS.2.2 dX1_likely_8
theorem cX1_likely_ok (l : Launch) (E : wE) (M : wMem) (k0 : Nat) (hk0 : wkd k0 = 0) {res : Int32} (hf : fX1_likely M k0 = some res) : wMet l yX1_likely (wsM yX1_likely cX1_likely 2 (some .int)) ({ frames := 1, cells := 0, slots := 0, locals := 20 } : Room) E M [.ref (wad E k0)] (some (.int res)) M :=
  wc_of (cc := cX1_likely) (maxL := 2) (ret := (some .int)) (by decide) (Nat.le_of_ble_eq_true rfl) (fun _ _ _ _ _ _ _ _ B hW hl => pX1_likely B hk0 hf hW va_S.rf hl)
end
theorem cdX9_lamp : yX9_lamp.cls = RX9 ∧ yX9_lamp.cls ≠ "java/lang/invoke/MethodHandle" ∧ yX9_lamp.cls ≠ "java/lang/invoke/VarHandle" ∧ (parseMethodDescriptor yX9_lamp.desc).map (fun d => d.parameters.length) = some 2 := by decide +kernel
section
variable {p : Program} {l : Launch} {e : Env} {s : State} {m : MethodId} {args : Array Value} {below : List Frame} {meth : Method} {c : Code} {E : wE}
set_option maxRecDepth 100000 in
set_option maxHeartbeats 4000000 in
theorem pX9_lamp (B : wB E p s m args meth c cX9_lamp 4 RX9 (some .int)) {M : wMem} {a1 : Int32} {a2 : Int32}  {res : Int32 × wMem} (hf : fX9_lamp M a1 a2 = some res) {H : Heap} {locs : List Loc} {ls : Array Slot} (hW : wH E M H) (hS : va_S (wA E) s.heap H locs) (hl : lv_has ls 4 [(0, .ref (wad E 0)), (1, .int a1), (2, .int a2)]) : W p l e ({ frames := 4, cells := 0, slots := 0, locals := 83 } : Room) s m args below meth c H locs 0 0 (MQ below (wQ E (some (.int res.1)) res.2) args s 0 0 (wA E)) (F0 m 0 ls []) := by
  unfold fX9_lamp at hf
  obtain ⟨hx, hb, hr, hml, hown, hts, hlocks, hG, hV, hZ⟩ := id B
  refine lv_aload_n hx hb dX9_lamp_0 rfl (lv_at hl 0 rfl) ?_
  refine wm_get hx hb hts wu_X9 hown hV hW (wlt_8 (rfl : wkd 0 = 8)) (wen_8 (rfl : wkd 0 = 8)) (C := RX9) (T := TX9) (N := 10) rfl 0 (by decide) (hts _ wA_231) rfl dX9_lamp_1 ?_
  refine lv_iload_n hx hb dX9_lamp_4 rfl (lv_at hl 1 rfl) ?_
  obtain ⟨r2, hc1, hf⟩ := wbind_e hf
  refine wc_V (As := [.int a1]) (rest := []) hx hb hml hown hts hG hV hZ (wlt_4 (rfl : wkd 1 = 4)) (q := (RX5, TX5, 4)) (wen_4 (rfl : wkd 1 = 4)) rfl (cX5_has_ok l E M 1 (rfl : wkd 1 = 4) a1 hc1) (cwV 1 hts gl_X9_93 rfl rfl rfl cdX5_has ⟨Nat.le_of_ble_eq_true rfl, Nat.le_of_ble_eq_true rfl⟩) rfl hl.1 rfl (Nat.le_of_ble_eq_true rfl) dX9_lamp_5 ⟨Nat.zero_le _, Nat.zero_le _⟩ hW hS rfl (fun H locs hW hS => ?_)
  rcases wif_e hf with ⟨hq3, hf⟩ | ⟨hq3, hf⟩
  · refine lv_if_ne (tgt := 17) hx hb dX9_lamp_8 (by decide) (fun h => absurd hq3 h) (fun _ => ?_)
    refine lv_aload_n hx hb dX9_lamp_11 rfl (lv_at hl 0 rfl) ?_
    refine lv_iconst (v := (-1)) hx hb dX9_lamp_12 rfl ?_
    obtain ⟨r26, M27, hc25, hf⟩ := wbind_p hf
    refine wc_V (As := [.int (-1)]) (rest := []) hx hb hml hown hts hG hV hZ (wlt_8 (rfl : wkd 0 = 8)) (q := (RX9, TX9, 10)) (wen_8 (rfl : wkd 0 = 8)) rfl (cX9_refuse_ok l E M (-1) hc25) (cwV 1 hts gl_X9_65 rfl rfl rfl cdX9_refuse ⟨Nat.le_of_ble_eq_true rfl, Nat.le_of_ble_eq_true rfl⟩) rfl hl.1 rfl (Nat.le_of_ble_eq_true rfl) dX9_lamp_13 ⟨Nat.zero_le _, Nat.zero_le _⟩ hW hS rfl (fun H locs hW hS => ?_)
    have hres := Option.some.inj hf
    subst hres
    exact W.iret hx hb hr (wr_q hG hV hZ hW hS) hS.2.2 dX9_lamp_16
  · refine lv_if_ne (tgt := 17) hx hb dX9_lamp_8 (by decide) (fun _ => ?_) (fun h => absurd h hq3)
    refine lv_aload_n hx hb dX9_lamp_17 rfl (lv_at hl 0 rfl) ?_
    refine wm_get hx hb hts wu_X9 hown hV hW (wlt_8 (rfl : wkd 0 = 8)) (wen_8 (rfl : wkd 0 = 8)) (C := RX9) (T := TX9) (N := 10) rfl 0 (by decide) (hts _ wA_231) rfl dX9_lamp_18 ?_
    refine wm_get hx hb hts wu_X5 hown hV hW (wlt_4 (rfl : wkd 1 = 4)) (wen_4 (rfl : wkd 1 = 4)) (C := RX5) (T := TX5) (N := 4) rfl 0 (by decide) (hts _ wA_112) rfl dX9_lamp_21 ?_
    refine lv_iload_n hx hb dX9_lamp_24 rfl (lv_at hl 1 rfl) ?_
    obtain ⟨hi4, hf⟩ := wgi_e hf
    refine wm_aldL hx hb hV hW (rfl : wkd 2 = 22) hi4 dX9_lamp_25 ?_
    refine lv_astore_n (lv' := [(3, .ref (wad E (2 + 2 + Int32.toNatClampNeg a1))), (0, .ref (wad E 0)), (1, .int a1), (2, .int a2)]) hx hb dX9_lamp_26 rfl hl (by decide) rfl (fun ls hl => ?_)
    refine lv_iload_n hx hb dX9_lamp_27 rfl (lv_at hl 3 rfl) ?_
    rcases wif_e hf with ⟨hq6, hf⟩ | ⟨hq6, hf⟩
    · refine lv_tableIn (off := 48) (tgt := 76) hx hb dX9_lamp_28 (by rw [hq6] <;> decide) (by rw [hq6] <;> decide) (by rw [hq6] <;> rfl) (by decide) ?_
      refine lv_aload_n hx hb dX9_lamp_76 rfl (lv_at hl 0 rfl) ?_
      refine wm_get hx hb hts wu_X1 hown hV hW (wlt_0 (wk22_i (rfl : wkd 2 = 22) hi4)) (wen_0 (wk22_i (rfl : wkd 2 = 22) hi4)) (C := RX1) (T := TX1) (N := 5) rfl 0 (by decide) (hts _ wA_84) rfl dX9_lamp_77 ?_
      have hres := Option.some.inj hf
      subst hres
      exact W.iret hx hb hr (wr_q hG hV hZ hW hS) hS.2.2 dX9_lamp_80
    · rcases wif_e hf with ⟨hq7, hf⟩ | ⟨hq7, hf⟩
      · refine lv_tableIn (off := 53) (tgt := 81) hx hb dX9_lamp_28 (by rw [hq7] <;> decide) (by rw [hq7] <;> decide) (by rw [hq7] <;> rfl) (by decide) ?_
        refine lv_aload_n hx hb dX9_lamp_81 rfl (lv_at hl 0 rfl) ?_
        refine wm_get hx hb hts wu_X1 hown hV hW (wlt_0 (wk22_i (rfl : wkd 2 = 22) hi4)) (wen_0 (wk22_i (rfl : wkd 2 = 22) hi4)) (C := RX1) (T := TX1) (N := 5) rfl 1 (by decide) (hts _ wA_86) rfl dX9_lamp_82 ?_
        have hres := Option.some.inj hf
        subst hres
        exact W.iret hx hb hr (wr_q hG hV hZ hW hS) hS.2.2 dX9_lamp_85
      · rcases wif_e hf with ⟨hq8, hf⟩ | ⟨hq8, hf⟩
        · refine lv_tableIn (off := 58) (tgt := 86) hx hb dX9_lamp_28 (by rw [hq8] <;> decide) (by rw [hq8] <;> decide) (by rw [hq8] <;> rfl) (by decide) ?_
          refine lv_aload_n hx hb dX9_lamp_86 rfl (lv_at hl 0 rfl) ?_
          refine wm_get hx hb hts wu_X1 hown hV hW (wlt_0 (wk22_i (rfl : wkd 2 = 22) hi4)) (wen_0 (wk22_i (rfl : wkd 2 = 22) hi4)) (C := RX1) (T := TX1) (N := 5) rfl 2 (by decide) (hts _ wA_89) rfl dX9_lamp_87 ?_
          have hres := Option.some.inj hf
          subst hres
          exact W.iret hx hb hr (wr_q hG hV hZ hW hS) hS.2.2 dX9_lamp_90
        · rcases wif_e hf with ⟨hq9, hf⟩ | ⟨hq9, hf⟩
          · refine lv_tableIn (off := 63) (tgt := 91) hx hb dX9_lamp_28 (by rw [hq9] <;> decide) (by rw [hq9] <;> decide) (by rw [hq9] <;> rfl) (by decide) ?_
            refine lv_aload_n hx hb dX9_lamp_91 rfl (lv_at hl 0 rfl) ?_
            refine wm_get hx hb hts wu_X1 hown hV hW (wlt_0 (wk22_i (rfl : wkd 2 = 22) hi4)) (wen_0 (wk22_i (rfl : wkd 2 = 22) hi4)) (C := RX1) (T := TX1) (N := 5) rfl 3 (by decide) (hts _ wA_92) rfl dX9_lamp_92 ?_
            have hres := Option.some.inj hf
            subst hres
            exact W.iret hx hb hr (wr_q hG hV hZ hW hS) hS.2.2 dX9_lamp_95
          · rcases wif_e hf with ⟨hq10, hf⟩ | ⟨hq10, hf⟩
            · refine lv_tableIn (off := 68) (tgt := 96) hx hb dX9_lamp_28 (by rw [hq10] <;> decide) (by rw [hq10] <;> decide) (by rw [hq10] <;> rfl) (by decide) ?_
              refine lv_aload_n hx hb dX9_lamp_96 rfl (lv_at hl 0 rfl) ?_
              refine wm_get hx hb hts wu_X1 hown hV hW (wlt_0 (wk22_i (rfl : wkd 2 = 22) hi4)) (wen_0 (wk22_i (rfl : wkd 2 = 22) hi4)) (C := RX1) (T := TX1) (N := 5) rfl 4 (by decide) (hts _ wA_95) rfl dX9_lamp_97 ?_
              have hres := Option.some.inj hf
              subst hres
              exact W.iret hx hb hr (wr_q hG hV hZ hW hS) hS.2.2 dX9_lamp_100
            · rcases wif_e hf with ⟨hq13, hf⟩ | ⟨hq13, hf⟩
              · refine lv_tableIn (off := 73) (tgt := 101) hx hb dX9_lamp_28 (by rw [hq13] <;> decide) (by rw [hq13] <;> decide) (by rw [hq13] <;> rfl) (by decide) ?_
                refine lv_aload_n hx hb dX9_lamp_101 rfl (lv_at hl 0 rfl) ?_
                obtain ⟨r12, hc11, hf⟩ := wbind_e hf
                refine wc_V (As := []) (rest := []) hx hb hml hown hts hG hV hZ (wlt_0 (wk22_i (rfl : wkd 2 = 22) hi4)) (q := (RX1, TX1, 5)) (wen_0 (wk22_i (rfl : wkd 2 = 22) hi4)) rfl (cX1_drag_ok l E M (2 + 2 + Int32.toNatClampNeg a1) (wk22_i (rfl : wkd 2 = 22) hi4) hc11) (cwV 0 hts gl_X9_118 rfl rfl rfl cdX1_drag ⟨Nat.le_of_ble_eq_true rfl, Nat.le_of_ble_eq_true rfl⟩) rfl hl.1 rfl (Nat.le_of_ble_eq_true rfl) dX9_lamp_102 ⟨Nat.zero_le _, Nat.zero_le _⟩ hW hS rfl (fun H locs hW hS => ?_)
                have hres := Option.some.inj hf
                subst hres
                exact W.iret hx hb hr (wr_q hG hV hZ hW hS) hS.2.2 dX9_lamp_105
              · rcases wif_e hf with ⟨hq18, hf⟩ | ⟨hq18, hf⟩
                · refine lv_tableIn (off := 78) (tgt := 106) hx hb dX9_lamp_28 (by rw [hq18] <;> decide) (by rw [hq18] <;> decide) (by rw [hq18] <;> rfl) (by decide) ?_
                  refine lv_aload_n hx hb dX9_lamp_106 rfl (lv_at hl 0 rfl) ?_
                  refine lv_aload_n hx hb dX9_lamp_107 rfl (lv_at hl 1 rfl) ?_
                  refine wm_get hx hb hts wu_X9 hown hV hW (wlt_8 (rfl : wkd 0 = 8)) (wen_8 (rfl : wkd 0 = 8)) (C := RX9) (T := TX9) (N := 10) rfl 0 (by decide) (hts _ wA_231) rfl dX9_lamp_108 ?_
                  obtain ⟨r15, hc14, hf⟩ := wbind_e hf
                  refine wc_V (As := []) (rest := [.ref (wad E (2 + 2 + Int32.toNatClampNeg a1))]) hx hb hml hown hts hG hV hZ (wlt_4 (rfl : wkd 1 = 4)) (q := (RX5, TX5, 4)) (wen_4 (rfl : wkd 1 = 4)) rfl (cX5_flowNow_ok l E M 1 (rfl : wkd 1 = 4) hc14) (cwV 0 hts gl_X9_121 rfl rfl rfl cdX5_flowNow ⟨Nat.le_of_ble_eq_true rfl, Nat.le_of_ble_eq_true rfl⟩) rfl hl.1 rfl (Nat.le_of_ble_eq_true rfl) dX9_lamp_111 ⟨Nat.zero_le _, Nat.zero_le _⟩ hW hS rfl (fun H locs hW hS => ?_)
                  obtain ⟨r17, hc16, hf⟩ := wbind_e hf
                  refine wc_V (As := [.int r15]) (rest := []) hx hb hml hown hts hG hV hZ (wlt_0 (wk22_i (rfl : wkd 2 = 22) hi4)) (q := (RX1, TX1, 5)) (wen_0 (wk22_i (rfl : wkd 2 = 22) hi4)) rfl (cX1_brightAt_ok l E M (2 + 2 + Int32.toNatClampNeg a1) (wk22_i (rfl : wkd 2 = 22) hi4) r15 hc16) (cwV 1 hts gl_X9_124 rfl rfl rfl cdX1_brightAt ⟨Nat.le_of_ble_eq_true rfl, Nat.le_of_ble_eq_true rfl⟩) rfl hl.1 rfl (Nat.le_of_ble_eq_true rfl) dX9_lamp_114 ⟨Nat.zero_le _, Nat.zero_le _⟩ hW hS rfl (fun H locs hW hS => ?_)
                  have hres := Option.some.inj hf
                  subst hres
                  exact W.iret hx hb hr (wr_q hG hV hZ hW hS) hS.2.2 dX9_lamp_117
                · rcases wif_e hf with ⟨hq21, hf⟩ | ⟨hq21, hf⟩
                  · refine lv_tableIn (off := 90) (tgt := 118) hx hb dX9_lamp_28 (by rw [hq21] <;> decide) (by rw [hq21] <;> decide) (by rw [hq21] <;> rfl) (by decide) ?_
                    refine lv_aload_n hx hb dX9_lamp_118 rfl (lv_at hl 0 rfl) ?_
                    obtain ⟨r20, hc19, hf⟩ := wbind_e hf
                    refine wc_V (As := []) (rest := []) hx hb hml hown hts hG hV hZ (wlt_0 (wk22_i (rfl : wkd 2 = 22) hi4)) (q := (RX1, TX1, 5)) (wen_0 (wk22_i (rfl : wkd 2 = 22) hi4)) rfl (cX1_likely_ok l E M (2 + 2 + Int32.toNatClampNeg a1) (wk22_i (rfl : wkd 2 = 22) hi4) hc19) (cwV 0 hts gl_X9_127 rfl rfl rfl cdX1_likely ⟨Nat.le_of_ble_eq_true rfl, Nat.le_of_ble_eq_true rfl⟩) rfl hl.1 rfl (Nat.le_of_ble_eq_true rfl) dX9_lamp_119 ⟨Nat.zero_le _, Nat.zero_le _⟩ hW hS rfl (fun H locs hW hS => ?_)
                    have hres := Option.some.inj hf
                    subst hres
                    exact W.iret hx hb hr (wr_q hG hV hZ hW hS) hS.2.2 dX9_lamp_122
                  · have hodX9_lamp_28 : a2.toInt < 0 ∨ 7 < a2.toInt := by
                      have := lv_neT (k := 0) (a := 0) hq6 (by decide)
                      have := lv_neT (k := 1) (a := 1) hq7 (by decide)
                      have := lv_neT (k := 2) (a := 2) hq8 (by decide)
                      have := lv_neT (k := 3) (a := 3) hq9 (by decide)
                      have := lv_neT (k := 4) (a := 4) hq10 (by decide)
                      have := lv_neT (k := 5) (a := 5) hq13 (by decide)
                      have := lv_neT (k := 6) (a := 6) hq18 (by decide)
                      have := lv_neT (k := 7) (a := 7) hq21 (by decide)
                      omega
                    refine lv_tableOut (tgt := 123) hx hb dX9_lamp_28 hodX9_lamp_28 (by decide) ?_
                    refine lv_aload_n hx hb dX9_lamp_123 rfl (lv_at hl 1 rfl) ?_
                    refine lv_bipush (v := (-2)) hx hb dX9_lamp_124 (by decide) ?_
                    obtain ⟨r23, M24, hc22, hf⟩ := wbind_p hf
                    refine wc_V (As := [.int (-2)]) (rest := []) hx hb hml hown hts hG hV hZ (wlt_8 (rfl : wkd 0 = 8)) (q := (RX9, TX9, 10)) (wen_8 (rfl : wkd 0 = 8)) rfl (cX9_refuse_ok l E M (-2) hc22) (cwV 1 hts gl_X9_65 rfl rfl rfl cdX9_refuse ⟨Nat.le_of_ble_eq_true rfl, Nat.le_of_ble_eq_true rfl⟩) rfl hl.1 rfl (Nat.le_of_ble_eq_true rfl) dX9_lamp_126 ⟨Nat.zero_le _, Nat.zero_le _⟩ hW hS rfl (fun H locs hW hS => ?_)
                    have hres := Option.some.inj hf
                    subst hres
                    exact W.iret hx hb hr (wr_q hG hV hZ hW hS) hS.2.2 dX9_lamp_129
theorem cX9_lamp_ok (l : Launch) (E : wE) (M : wMem) (a1 : Int32) (a2 : Int32) {res : Int32 × wMem} (hf : fX9_lamp M a1 a2 = some res) : wMet l yX9_lamp (wsM yX9_lamp cX9_lamp 4 (some .int)) ({ frames := 4, cells := 0, slots := 0, locals := 83 } : Room) E M [.ref (wad E 0), .int a1, .int a2] (some (.int res.1)) res.2 :=
  wc_of (cc := cX9_lamp) (maxL := 4) (ret := (some .int)) (by decide) (Nat.le_of_ble_eq_true rfl) (fun _ _ _ _ _ _ _ _ B hW hl => pX9_lamp B  hf hW va_S.rf hl)
end
theorem cdX9_set : yX9_set.cls = RX9 ∧ yX9_set.cls ≠ "java/lang/invoke/MethodHandle" ∧ yX9_set.cls ≠ "java/lang/invoke/VarHandle" ∧ (parseMethodDescriptor yX9_set.desc).map (fun d => d.parameters.length) = some 2 := by decide +kernel
section
variable {p : Program} {l : Launch} {e : Env} {s : State} {m : MethodId} {args : Array Value} {below : List Frame} {meth : Method} {c : Code} {E : wE}
set_option maxRecDepth 100000 in
set_option maxHeartbeats 4000000 in
theorem pX9_set_9 (B : wB E p s m args meth c cX9_set 4 RX9 (some .int)) {M : wMem}   {res : Int32 × wMem}   (hf : fX9_set_9 M   = some res) {H : Heap} {locs : List Loc} {ls : Array Slot} (hW : wH E M H) (hS : va_S (wA E) s.heap H locs) (hl : lv_has ls 4 [(0, .ref (wad E 0))]) : W p l e ({ frames := 1, cells := 0, slots := 0, locals := 22 } : Room) s m args below meth c H locs 0 0 (MQ below (wQ E (some (.int res.1)) res.2) args s 0 0 (wA E)) (F0 m 9 ls []) := by
  unfold fX9_set_9 at hf
  obtain ⟨hx, hb, hr, hml, hown, hts, hlocks, hG, hV, hZ⟩ := id B
  refine lv_aload_n hx hb dX9_set_9 rfl (lv_at hl 0 rfl) ?_
  refine lv_bipush (v := (-2)) hx hb dX9_set_10 (by decide) ?_
  obtain ⟨r3, M4, hc2, hf⟩ := wbind_p hf
  refine wc_V (As := [.int (-2)]) (rest := []) hx hb hml hown hts hG hV hZ (wlt_8 (rfl : wkd 0 = 8)) (q := (RX9, TX9, 10)) (wen_8 (rfl : wkd 0 = 8)) rfl (cX9_refuse_ok l E M (-2) hc2) (cwV 1 hts gl_X9_65 rfl rfl rfl cdX9_refuse ⟨Nat.le_of_ble_eq_true rfl, Nat.le_of_ble_eq_true rfl⟩) rfl hl.1 rfl (Nat.le_of_ble_eq_true rfl) dX9_set_12 ⟨Nat.zero_le _, Nat.zero_le _⟩ hW hS rfl (fun H locs hW hS => ?_)
  have hres := Option.some.inj hf
  subst hres
  exact W.iret hx hb hr (wr_q hG hV hZ hW hS) hS.2.2 dX9_set_15
set_option maxRecDepth 100000 in
set_option maxHeartbeats 4000000 in
theorem pX9_set (B : wB E p s m args meth c cX9_set 4 RX9 (some .int)) {M : wMem} {a1 : Int32} {a2 : Int32}  {res : Int32 × wMem} (hf : fX9_set M a1 a2 = some res) {H : Heap} {locs : List Loc} {ls : Array Slot} (hW : wH E M H) (hS : va_S (wA E) s.heap H locs) (hl : lv_has ls 4 [(0, .ref (wad E 0)), (1, .int a1), (2, .int a2)]) : W p l e ({ frames := 1, cells := 0, slots := 0, locals := 22 } : Room) s m args below meth c H locs 0 0 (MQ below (wQ E (some (.int res.1)) res.2) args s 0 0 (wA E)) (F0 m 0 ls []) := by
  unfold fX9_set at hf
  obtain ⟨hx, hb, hr, hml, hown, hts, hlocks, hG, hV, hZ⟩ := id B
  refine lv_iload_n hx hb dX9_set_0 rfl (lv_at hl 1 rfl) ?_
  rcases wif_e hf with ⟨hq1, hf⟩ | ⟨hq1, hf⟩
  · refine lv_if_lt (tgt := 9) hx hb dX9_set_1 (by decide) (fun _ => ?_) (fun h => absurd hq1 h)
    exact pX9_set_9 B   hf hW hS (lv_sub hl [0] rfl)
  · refine lv_if_lt (tgt := 9) hx hb dX9_set_1 (by decide) (fun h => absurd h hq1) (fun _ => ?_)
    refine lv_iload_n hx hb dX9_set_4 rfl (lv_at hl 1 rfl) ?_
    refine lv_iconst (v := 3) hx hb dX9_set_5 rfl ?_
    rcases wif_e hf with ⟨hq5, hf⟩ | ⟨hq5, hf⟩
    · refine lv_icmp_le (tgt := 16) hx hb dX9_set_6 (by decide) (fun _ => ?_) (fun h => absurd hq5 h)
      refine lv_iload_n hx hb dX9_set_16 rfl (lv_at hl 2 rfl) ?_
      refine va_gets hx hb hZ.1.1 hS hown (hts _ wA_412) (fun _ h => h) dX9_set_17 ?_
      refine lv_iload_n hx hb dX9_set_20 rfl (lv_at hl 1 rfl) ?_
      obtain ⟨hi6, hf⟩ := wgi_e hf
      refine va_ti hx hb hZ.1.2 hS hi6 rfl dX9_set_21 ?_
      rcases wif_e hf with ⟨hq7, hf⟩ | ⟨hq7, hf⟩
      · refine lv_icmp_ge (tgt := 32) hx hb dX9_set_22 (by decide) (fun _ => ?_) (fun h => absurd hq7 h)
        refine lv_iload_n hx hb dX9_set_32 rfl (lv_at hl 2 rfl) ?_
        refine va_gets hx hb hZ.2.1.1 hS hown (hts _ wA_413) (fun _ h => h) dX9_set_33 ?_
        refine lv_iload_n hx hb dX9_set_36 rfl (lv_at hl 1 rfl) ?_
        obtain ⟨hi8, hf⟩ := wgi_e hf
        refine va_ti hx hb hZ.2.1.2 hS hi8 rfl dX9_set_37 ?_
        rcases wif_e hf with ⟨hq9, hf⟩ | ⟨hq9, hf⟩
        · refine lv_icmp_le (tgt := 48) hx hb dX9_set_38 (by decide) (fun _ => ?_) (fun h => absurd hq9 h)
          refine lv_aload_n hx hb dX9_set_48 rfl (lv_at hl 0 rfl) ?_
          refine wm_get hx hb hts wu_X9 hown hV hW (wlt_8 (rfl : wkd 0 = 8)) (wen_8 (rfl : wkd 0 = 8)) (C := RX9) (T := TX9) (N := 10) rfl 0 (by decide) (hts _ wA_231) rfl dX9_set_49 ?_
          refine wm_get hx hb hts wu_X5 hown hV hW (wlt_4 (rfl : wkd 1 = 4)) (wen_4 (rfl : wkd 1 = 4)) (C := RX5) (T := TX5) (N := 4) rfl 1 (by decide) (hts _ wA_116) rfl dX9_set_52 ?_
          refine lv_iload_n hx hb dX9_set_55 rfl (lv_at hl 1 rfl) ?_
          obtain ⟨hi10, hf⟩ := wgi_e hf
          refine wm_iald hx hb hV hW (rfl : wkd 3 = 21) (n := 4) rfl hi10 dX9_set_56 ?_
          refine lv_topi (fun x11 ex11 => ?_)
          replace hf := wlet_y ex11 hf
          refine lv_istore_n (lv' := [(3, .int x11), (0, .ref (wad E 0)), (1, .int a1), (2, .int a2)]) hx hb dX9_set_57 rfl hl (by decide) rfl (fun ls hl => ?_)
          refine lv_aload_n hx hb dX9_set_58 rfl (lv_at hl 1 rfl) ?_
          refine wm_get hx hb hts wu_X9 hown hV hW (wlt_8 (rfl : wkd 0 = 8)) (wen_8 (rfl : wkd 0 = 8)) (C := RX9) (T := TX9) (N := 10) rfl 0 (by decide) (hts _ wA_231) rfl dX9_set_59 ?_
          refine wm_get hx hb hts wu_X5 hown hV hW (wlt_4 (rfl : wkd 1 = 4)) (wen_4 (rfl : wkd 1 = 4)) (C := RX5) (T := TX5) (N := 4) rfl 1 (by decide) (hts _ wA_116) rfl dX9_set_62 ?_
          refine lv_iload_n hx hb dX9_set_65 rfl (lv_at hl 2 rfl) ?_
          refine lv_iload_n hx hb dX9_set_66 rfl (lv_at hl 3 rfl) ?_
          obtain ⟨hi12, hf⟩ := wgi_e hf
          refine wm_iast hx hb hG hV hW hS (rfl : wkd 3 = 21) (n := 4) rfl hi12 dX9_set_67 (fun H locs hW hS => ?_)
          obtain ⟨M13, hW, hf⟩ := wlet_M hW hf
          refine lv_iload_n hx hb dX9_set_68 rfl (lv_at hl 0 rfl) ?_
          have hres := Option.some.inj hf
          subst hres
          exact W.iret hx hb hr (wr_q hG hV hZ hW hS) hS.2.2 dX9_set_69
        · refine lv_icmp_le (tgt := 48) hx hb dX9_set_38 (by decide) (fun h => absurd h hq9) (fun _ => ?_)
          refine lv_aload_n hx hb dX9_set_41 rfl (lv_at hl 0 rfl) ?_
          refine lv_bipush (v := (-6)) hx hb dX9_set_42 (by decide) ?_
          obtain ⟨r15, M16, hc14, hf⟩ := wbind_p hf
          refine wc_V (As := [.int (-6)]) (rest := []) hx hb hml hown hts hG hV hZ (wlt_8 (rfl : wkd 0 = 8)) (q := (RX9, TX9, 10)) (wen_8 (rfl : wkd 0 = 8)) rfl (cX9_refuse_ok l E M (-6) hc14) (cwV 1 hts gl_X9_65 rfl rfl rfl cdX9_refuse ⟨Nat.le_of_ble_eq_true rfl, Nat.le_of_ble_eq_true rfl⟩) rfl hl.1 rfl (Nat.le_of_ble_eq_true rfl) dX9_set_44 ⟨Nat.zero_le _, Nat.zero_le _⟩ hW hS rfl (fun H locs hW hS => ?_)
          have hres := Option.some.inj hf
          subst hres
          exact W.iret hx hb hr (wr_q hG hV hZ hW hS) hS.2.2 dX9_set_47
      · refine lv_icmp_ge (tgt := 32) hx hb dX9_set_22 (by decide) (fun h => absurd h hq7) (fun _ => ?_)
        refine lv_aload_n hx hb dX9_set_25 rfl (lv_at hl 0 rfl) ?_
        refine lv_bipush (v := (-4)) hx hb dX9_set_26 (by decide) ?_
        obtain ⟨r18, M19, hc17, hf⟩ := wbind_p hf
        refine wc_V (As := [.int (-4)]) (rest := []) hx hb hml hown hts hG hV hZ (wlt_8 (rfl : wkd 0 = 8)) (q := (RX9, TX9, 10)) (wen_8 (rfl : wkd 0 = 8)) rfl (cX9_refuse_ok l E M (-4) hc17) (cwV 1 hts gl_X9_65 rfl rfl rfl cdX9_refuse ⟨Nat.le_of_ble_eq_true rfl, Nat.le_of_ble_eq_true rfl⟩) rfl hl.1 rfl (Nat.le_of_ble_eq_true rfl) dX9_set_28 ⟨Nat.zero_le _, Nat.zero_le _⟩ hW hS rfl (fun H locs hW hS => ?_)
        have hres := Option.some.inj hf
        subst hres
        exact W.iret hx hb hr (wr_q hG hV hZ hW hS) hS.2.2 dX9_set_31
    · refine lv_icmp_le (tgt := 16) hx hb dX9_set_6 (by decide) (fun h => absurd h hq5) (fun _ => ?_)
      exact pX9_set_9 B   hf hW hS (lv_sub hl [0] rfl)
theorem cX9_set_ok (l : Launch) (E : wE) (M : wMem) (a1 : Int32) (a2 : Int32) {res : Int32 × wMem} (hf : fX9_set M a1 a2 = some res) : wMet l yX9_set (wsM yX9_set cX9_set 4 (some .int)) ({ frames := 1, cells := 0, slots := 0, locals := 22 } : Room) E M [.ref (wad E 0), .int a1, .int a2] (some (.int res.1)) res.2 :=
  wc_of (cc := cX9_set) (maxL := 4) (ret := (some .int)) (by decide) (Nat.le_of_ble_eq_true rfl) (fun _ _ _ _ _ _ _ _ B hW hl => pX9_set B  hf hW va_S.rf hl)
end
theorem cdX9_flow : yX9_flow.cls = RX9 ∧ yX9_flow.cls ≠ "java/lang/invoke/MethodHandle" ∧ yX9_flow.cls ≠ "java/lang/invoke/VarHandle" ∧ (parseMethodDescriptor yX9_flow.desc).map (fun d => d.parameters.length) = some 0 := by decide +kernel
section
variable {p : Program} {l : Launch} {e : Env} {s : State} {m : MethodId} {args : Array Value} {below : List Frame} {meth : Method} {c : Code} {E : wE}
set_option maxRecDepth 100000 in
set_option maxHeartbeats 4000000 in
theorem pX9_flow (B : wB E p s m args meth c cX9_flow 1 RX9 (some .int)) {M : wMem}   {res : Int32} (hf : fX9_flow M  = some res) {H : Heap} {locs : List Loc} {ls : Array Slot} (hW : wH E M H) (hS : va_S (wA E) s.heap H locs) (hl : lv_has ls 1 [(0, .ref (wad E 0))]) : W p l e ({ frames := 4, cells := 0, slots := 0, locals := 83 } : Room) s m args below meth c H locs 0 0 (MQ below (wQ E (some (.int res)) M) args s 0 0 (wA E)) (F0 m 0 ls []) := by
  unfold fX9_flow at hf
  obtain ⟨hx, hb, hr, hml, hown, hts, hlocks, hG, hV, hZ⟩ := id B
  refine lv_aload_n hx hb dX9_flow_0 rfl (lv_at hl 0 rfl) ?_
  refine wm_get hx hb hts wu_X9 hown hV hW (wlt_8 (rfl : wkd 0 = 8)) (wen_8 (rfl : wkd 0 = 8)) (C := RX9) (T := TX9) (N := 10) rfl 0 (by decide) (hts _ wA_231) rfl dX9_flow_1 ?_
  obtain ⟨r2, hc1, hf⟩ := wbind_e hf
  refine wc_V (As := []) (rest := []) hx hb hml hown hts hG hV hZ (wlt_4 (rfl : wkd 1 = 4)) (q := (RX5, TX5, 4)) (wen_4 (rfl : wkd 1 = 4)) rfl (cX5_flowNow_ok l E M 1 (rfl : wkd 1 = 4) hc1) (cwV 0 hts gl_X9_121 rfl rfl rfl cdX5_flowNow ⟨Nat.le_of_ble_eq_true rfl, Nat.le_of_ble_eq_true rfl⟩) rfl hl.1 rfl (Nat.le_of_ble_eq_true rfl) dX9_flow_4 ⟨Nat.zero_le _, Nat.zero_le _⟩ hW hS rfl (fun H locs hW hS => ?_)
  have hres := Option.some.inj hf
  subst hres
  exact W.iret hx hb hr (wr_q hG hV hZ hW hS) hS.2.2 dX9_flow_7
theorem cX9_flow_ok (l : Launch) (E : wE) (M : wMem)  {res : Int32} (hf : fX9_flow M  = some res) : wMet l yX9_flow (wsM yX9_flow cX9_flow 1 (some .int)) ({ frames := 4, cells := 0, slots := 0, locals := 83 } : Room) E M [.ref (wad E 0)] (some (.int res)) M :=
  wc_of (cc := cX9_flow) (maxL := 1) (ret := (some .int)) (by decide) (Nat.le_of_ble_eq_true rfl) (fun _ _ _ _ _ _ _ _ B hW hl => pX9_flow B  hf hW va_S.rf hl)
end
theorem cdX1_mustDie : yX1_mustDie.cls = RX1 ∧ yX1_mustDie.cls ≠ "java/lang/invoke/MethodHandle" ∧ yX1_mustDie.cls ≠ "java/lang/invoke/VarHandle" ∧ (parseMethodDescriptor yX1_mustDie.desc).map (fun d => d.parameters.length) = some 1 := by decide +kernel
section
variable {p : Program} {l : Launch} {e : Env} {s : State} {m : MethodId} {args : Array Value} {below : List Frame} {meth : Method} {c : Code} {E : wE}
set_option maxRecDepth 100000 in
set_option maxHeartbeats 4000000 in
theorem pX1_mustDie (B : wB E p s m args meth c cX1_mustDie 2 RX1 (some .boolean)) {M : wMem} {k0 : Nat} {a1 : Int32} (hk0 : wkd k0 = 0) {res : Bool} (hf : fX1_mustDie M k0 a1 = some res) {H : Heap} {locs : List Loc} {ls : Array Slot} (hW : wH E M H) (hS : va_S (wA E) s.heap H locs) (hl : lv_has ls 2 [(0, .ref (wad E k0)), (1, .int a1)]) : W p l e ({ frames := 0, cells := 0, slots := 0, locals := 0 } : Room) s m args below meth c H locs 0 0 (MQ below (wQ E (some (.int (wb res))) M) args s 0 0 (wA E)) (F0 m 0 ls []) := by
  unfold fX1_mustDie at hf
  obtain ⟨hx, hb, hr, hml, hown, hts, hlocks, hG, hV, hZ⟩ := id B
  refine lv_aload_n hx hb dX1_mustDie_0 rfl (lv_at hl 0 rfl) ?_
  refine wm_get hx hb hts wu_X1 hown hV hW (wlt_0 hk0) (wen_0 hk0) (C := RX1) (T := TX1) (N := 5) rfl 0 (by decide) (hts _ wA_83) rfl dX1_mustDie_1 ?_
  refine lv_topi (fun x1 ex1 => ?_)
  replace hf := wlet_y ex1 hf
  rcases wif_e hf with ⟨hq3, hf⟩ | ⟨hq3, hf⟩
  · refine lv_lookup (off := 28) (tgt := 32) hx hb dX1_mustDie_4 (by decide) (by rw [hq3] <;> rfl) (by decide) ?_
    refine lv_iload_n hx hb dX1_mustDie_32 rfl (lv_at hl 1 rfl) ?_
    refine lv_iconst (v := 5) hx hb dX1_mustDie_33 rfl ?_
    refine lv_aload_n hx hb dX1_mustDie_34 rfl (lv_at hl 0 rfl) ?_
    refine wm_get hx hb hts wu_X1 hown hV hW (wlt_0 hk0) (wen_0 hk0) (C := RX1) (T := TX1) (N := 5) rfl 1 (by decide) (hts _ wA_85) rfl dX1_mustDie_35 ?_
    refine lv_imul hx hb dX1_mustDie_38 ?_
    rcases wif_e hf with ⟨hq2, hf⟩ | ⟨hq2, hf⟩
    · refine lv_icmp_le (tgt := 46) hx hb dX1_mustDie_39 (by decide) (fun _ => ?_) (fun h => absurd hq2 h)
      refine lv_iconst (v := 0) hx hb dX1_mustDie_46 rfl ?_
      have hres := Option.some.inj hf
      subst hres
      exact W.zret hx hb hr (wb_n false) (wr_q hG hV hZ hW hS) hS.2.2 dX1_mustDie_47
    · refine lv_icmp_le (tgt := 46) hx hb dX1_mustDie_39 (by decide) (fun h => absurd h hq2) (fun _ => ?_)
      refine lv_iconst (v := 1) hx hb dX1_mustDie_42 rfl ?_
      refine lv_goto (tgt := 47) hx hb dX1_mustDie_43 (by decide) ?_
      have hres := Option.some.inj hf
      subst hres
      exact W.zret hx hb hr (wb_n true) (wr_q hG hV hZ hW hS) hS.2.2 dX1_mustDie_47
  · rcases wif_e hf with ⟨hq5, hf⟩ | ⟨hq5, hf⟩
    · refine lv_lookup (off := 44) (tgt := 48) hx hb dX1_mustDie_4 (by decide) (by rw [hq5] <;> rfl) (by decide) ?_
      refine lv_aload_n hx hb dX1_mustDie_48 rfl (lv_at hl 0 rfl) ?_
      refine wm_get hx hb hts wu_X1 hown hV hW (wlt_0 hk0) (wen_0 hk0) (C := RX1) (T := TX1) (N := 5) rfl 3 (by decide) (hts _ wA_91) rfl dX1_mustDie_49 ?_
      refine lv_bipush (v := 20) hx hb dX1_mustDie_52 (by decide) ?_
      refine lv_aload_n hx hb dX1_mustDie_54 rfl (lv_at hl 0 rfl) ?_
      refine wm_get hx hb hts wu_X1 hown hV hW (wlt_0 hk0) (wen_0 hk0) (C := RX1) (T := TX1) (N := 5) rfl 1 (by decide) (hts _ wA_85) rfl dX1_mustDie_55 ?_
      refine lv_imul hx hb dX1_mustDie_58 ?_
      rcases wif_e hf with ⟨hq4, hf⟩ | ⟨hq4, hf⟩
      · refine lv_icmp_lt (tgt := 66) hx hb dX1_mustDie_59 (by decide) (fun _ => ?_) (fun h => absurd hq4 h)
        refine lv_iconst (v := 0) hx hb dX1_mustDie_66 rfl ?_
        have hres := Option.some.inj hf
        subst hres
        exact W.zret hx hb hr (wb_n false) (wr_q hG hV hZ hW hS) hS.2.2 dX1_mustDie_67
      · refine lv_icmp_lt (tgt := 66) hx hb dX1_mustDie_59 (by decide) (fun h => absurd h hq4) (fun _ => ?_)
        refine lv_iconst (v := 1) hx hb dX1_mustDie_62 rfl ?_
        refine lv_goto (tgt := 67) hx hb dX1_mustDie_63 (by decide) ?_
        have hres := Option.some.inj hf
        subst hres
        exact W.zret hx hb hr (wb_n true) (wr_q hG hV hZ hW hS) hS.2.2 dX1_mustDie_67
    · refine lv_lookup (off := 64) (tgt := 68) hx hb dX1_mustDie_4 (by decide) ((lv_osw (k := 4) hq3 (by decide)).trans ((lv_osw (k := 5) hq5 (by decide)).trans rfl)) (by decide) ?_
      refine lv_aload_n hx hb dX1_mustDie_68 rfl (lv_at hl 0 rfl) ?_
      refine wm_get hx hb hts wu_X1 hown hV hW (wlt_0 hk0) (wen_0 hk0) (C := RX1) (T := TX1) (N := 5) rfl 3 (by decide) (hts _ wA_91) rfl dX1_mustDie_69 ?_
      refine lv_bipush (v := 10) hx hb dX1_mustDie_72 (by decide) ?_
      refine lv_aload_n hx hb dX1_mustDie_74 rfl (lv_at hl 0 rfl) ?_
      refine wm_get hx hb hts wu_X1 hown hV hW (wlt_0 hk0) (wen_0 hk0) (C := RX1) (T := TX1) (N := 5) rfl 1 (by decide) (hts _ wA_85) rfl dX1_mustDie_75 ?_
      refine lv_imul hx hb dX1_mustDie_78 ?_
      rcases wif_e hf with ⟨hq6, hf⟩ | ⟨hq6, hf⟩
      · refine lv_icmp_lt (tgt := 86) hx hb dX1_mustDie_79 (by decide) (fun _ => ?_) (fun h => absurd hq6 h)
        refine lv_iconst (v := 0) hx hb dX1_mustDie_86 rfl ?_
        have hres := Option.some.inj hf
        subst hres
        exact W.zret hx hb hr (wb_n false) (wr_q hG hV hZ hW hS) hS.2.2 dX1_mustDie_87
      · refine lv_icmp_lt (tgt := 86) hx hb dX1_mustDie_79 (by decide) (fun h => absurd h hq6) (fun _ => ?_)
        refine lv_iconst (v := 1) hx hb dX1_mustDie_82 rfl ?_
        refine lv_goto (tgt := 87) hx hb dX1_mustDie_83 (by decide) ?_
        have hres := Option.some.inj hf
        subst hres
        exact W.zret hx hb hr (wb_n true) (wr_q hG hV hZ hW hS) hS.2.2 dX1_mustDie_87
theorem cX1_mustDie_ok (l : Launch) (E : wE) (M : wMem) (k0 : Nat) (hk0 : wkd k0 = 0) (a1 : Int32) {res : Bool} (hf : fX1_mustDie M k0 a1 = some res) : wMet l yX1_mustDie (wsM yX1_mustDie cX1_mustDie 2 (some .boolean)) ({ frames := 0, cells := 0, slots := 0, locals := 0 } : Room) E M [.ref (wad E k0), .int a1] (some (.int (wb res))) M :=
  wc_of (cc := cX1_mustDie) (maxL := 2) (ret := (some .boolean)) (by decide) (Nat.le_of_ble_eq_true rfl) (fun _ _ _ _ _ _ _ _ B hW hl => pX1_mustDie B hk0 hf hW va_S.rf hl)
end
theorem cdX1_whenDead : yX1_whenDead.cls = RX1 ∧ yX1_whenDead.cls ≠ "java/lang/invoke/MethodHandle" ∧ yX1_whenDead.cls ≠ "java/lang/invoke/VarHandle" ∧ (parseMethodDescriptor yX1_whenDead.desc).map (fun d => d.parameters.length) = some 0 := by decide +kernel
section
variable {p : Program} {l : Launch} {e : Env} {s : State} {m : MethodId} {args : Array Value} {below : List Frame} {meth : Method} {c : Code} {E : wE}
set_option maxRecDepth 100000 in
set_option maxHeartbeats 4000000 in
theorem pX1_whenDead (B : wB E p s m args meth c cX1_whenDead 1 RX1 (some .int)) {M : wMem} {k0 : Nat} (hk0 : wkd k0 = 0) {res : Int32} (hf : fX1_whenDead M k0 = some res) {H : Heap} {locs : List Loc} {ls : Array Slot} (hW : wH E M H) (hS : va_S (wA E) s.heap H locs) (hl : lv_has ls 1 [(0, .ref (wad E k0))]) : W p l e ({ frames := 1, cells := 0, slots := 0, locals := 20 } : Room) s m args below meth c H locs 0 0 (MQ below (wQ E (some (.int res)) M) args s 0 0 (wA E)) (F0 m 0 ls []) := by
  unfold fX1_whenDead at hf
  obtain ⟨hx, hb, hr, hml, hown, hts, hlocks, hG, hV, hZ⟩ := id B
  refine lv_aload_n hx hb dX1_whenDead_0 rfl (lv_at hl 0 rfl) ?_
  obtain ⟨r2, hc1, hf⟩ := wbind_e hf
  refine wc_V (As := []) (rest := []) hx hb hml hown hts hG hV hZ (wlt_0 hk0) (q := (RX1, TX1, 5)) (wen_0 hk0) rfl (cX1_isBridger_ok l E M k0 hk0 hc1) (cwV 0 hts gl_X1_38 rfl rfl rfl cdX1_isBridger ⟨Nat.le_of_ble_eq_true rfl, Nat.le_of_ble_eq_true rfl⟩) rfl hl.1 rfl (Nat.le_of_ble_eq_true rfl) dX1_whenDead_1 ⟨Nat.zero_le _, Nat.zero_le _⟩ hW hS rfl (fun H locs hW hS => ?_)
  rcases wif_e hf with ⟨hq3, hf⟩ | ⟨hq3, hf⟩
  · refine lv_if_eq (tgt := 9) hx hb dX1_whenDead_4 (by decide) (fun _ => ?_) (fun h => absurd hq3 h)
    refine lv_aload_n hx hb dX1_whenDead_9 rfl (lv_at hl 0 rfl) ?_
    refine wm_get hx hb hts wu_X1 hown hV hW (wlt_0 hk0) (wen_0 hk0) (C := RX1) (T := TX1) (N := 5) rfl 0 (by decide) (hts _ wA_83) rfl dX1_whenDead_10 ?_
    refine lv_iconst (v := 3) hx hb dX1_whenDead_13 rfl ?_
    rcases wif_e hf with ⟨hq4, hf⟩ | ⟨hq4, hf⟩
    · refine lv_icmp_ne (tgt := 21) hx hb dX1_whenDead_14 (by decide) (fun h => absurd hq4 h) (fun _ => ?_)
      refine lv_iconst (v := 3) hx hb dX1_whenDead_17 rfl ?_
      refine lv_goto (tgt := 22) hx hb dX1_whenDead_18 (by decide) ?_
      have hres := Option.some.inj hf
      subst hres
      exact W.iret hx hb hr (wr_q hG hV hZ hW hS) hS.2.2 dX1_whenDead_22
    · refine lv_icmp_ne (tgt := 21) hx hb dX1_whenDead_14 (by decide) (fun _ => ?_) (fun h => absurd h hq4)
      refine lv_iconst (v := 1) hx hb dX1_whenDead_21 rfl ?_
      have hres := Option.some.inj hf
      subst hres
      exact W.iret hx hb hr (wr_q hG hV hZ hW hS) hS.2.2 dX1_whenDead_22
  · refine lv_if_eq (tgt := 9) hx hb dX1_whenDead_4 (by decide) (fun h => absurd h hq3) (fun _ => ?_)
    refine lv_iconst (v := 2) hx hb dX1_whenDead_7 rfl ?_
    have hres := Option.some.inj hf
    subst hres
    exact W.iret hx hb hr (wr_q hG hV hZ hW hS) hS.2.2 dX1_whenDead_8
theorem cX1_whenDead_ok (l : Launch) (E : wE) (M : wMem) (k0 : Nat) (hk0 : wkd k0 = 0) {res : Int32} (hf : fX1_whenDead M k0 = some res) : wMet l yX1_whenDead (wsM yX1_whenDead cX1_whenDead 1 (some .int)) ({ frames := 1, cells := 0, slots := 0, locals := 20 } : Room) E M [.ref (wad E k0)] (some (.int res)) M :=
  wc_of (cc := cX1_whenDead) (maxL := 1) (ret := (some .int)) (by decide) (Nat.le_of_ble_eq_true rfl) (fun _ _ _ _ _ _ _ _ B hW hl => pX1_whenDead B hk0 hf hW va_S.rf hl)
end
theorem cdX1_burn : yX1_burn.cls = RX1 ∧ yX1_burn.cls ≠ "java/lang/invoke/MethodHandle" ∧ yX1_burn.cls ≠ "java/lang/invoke/VarHandle" ∧ (parseMethodDescriptor yX1_burn.desc).map (fun d => d.parameters.length) = some 1 := by decide +kernel
section
variable {p : Program} {l : Launch} {e : Env} {s : State} {m : MethodId} {args : Array Value} {below : List Frame} {meth : Method} {c : Code} {E : wE}
set_option maxRecDepth 100000 in
set_option maxHeartbeats 4000000 in
theorem pX1_burn (B : wB E p s m args meth c cX1_burn 2 RX1 none) {M : wMem} {k0 : Nat} {a1 : Int32} (hk0 : wkd k0 = 0) {res : wMem} (hf : fX1_burn M k0 a1 = some res) {H : Heap} {locs : List Loc} {ls : Array Slot} (hW : wH E M H) (hS : va_S (wA E) s.heap H locs) (hl : lv_has ls 2 [(0, .ref (wad E k0)), (1, .int a1)]) : W p l e ({ frames := 2, cells := 0, slots := 0, locals := 41 } : Room) s m args below meth c H locs 0 0 (MQ below (wQ E none res) args s 0 0 (wA E)) (F0 m 0 ls []) := by
  unfold fX1_burn at hf
  obtain ⟨hx, hb, hr, hml, hown, hts, hlocks, hG, hV, hZ⟩ := id B
  refine lv_aload_n hx hb dX1_burn_0 rfl (lv_at hl 0 rfl) ?_
  refine lv_sipush (v := 9999) hx hb dX1_burn_1 (by decide) ?_
  refine lv_aload_n hx hb dX1_burn_4 rfl (lv_at hl 0 rfl) ?_
  refine wm_get hx hb hts wu_X1 hown hV hW (wlt_0 hk0) (wen_0 hk0) (C := RX1) (T := TX1) (N := 5) rfl 3 (by decide) (hts _ wA_91) rfl dX1_burn_5 ?_
  refine lv_aload_n hx hb dX1_burn_8 rfl (lv_at hl 0 rfl) ?_
  refine lv_iload_n hx hb dX1_burn_9 rfl (lv_at hl 1 rfl) ?_
  obtain ⟨r2, hc1, hf⟩ := wbind_e hf
  refine wc_V (As := [.int a1]) (rest := [.int (M k0 3), .int 9999, .ref (wad E k0)]) hx hb hml hown hts hG hV hZ (wlt_0 hk0) (q := (RX1, TX1, 5)) (wen_0 hk0) rfl (cX1_brightAt_ok l E M k0 hk0 a1 hc1) (cwV 1 hts gl_X1_44 rfl rfl rfl cdX1_brightAt ⟨Nat.le_of_ble_eq_true rfl, Nat.le_of_ble_eq_true rfl⟩) rfl hl.1 rfl (Nat.le_of_ble_eq_true rfl) dX1_burn_10 ⟨Nat.zero_le _, Nat.zero_le _⟩ hW hS rfl (fun H locs hW hS => ?_)
  refine lv_bipush (v := 10) hx hb dX1_burn_13 (by decide) ?_
  obtain ⟨hz3, hf⟩ := wgz_e hf
  refine lv_idiv hx hb dX1_burn_15 hz3 ?_
  refine lv_iadd hx hb dX1_burn_16 ?_
  refine va_mmin hx hb (hml.trans hl.1.symm) hown (hts _ wA_432) (hts _ wA_385) (hts _ wA_60) (hts _ wA_386) (Nat.le_of_ble_eq_true rfl) (Nat.le_of_ble_eq_true rfl) (Nat.le_refl 0) (Nat.le_refl 0) dX1_burn_17 ?_
  refine wm_put hx hb hts wu_X1 tyX1 tyX1_ok nmX1 hown hG hV hW hS (wlt_0 hk0) (wen_0 hk0) (C := RX1) (T := TX1) (N := 5) rfl 3 (by decide) (hts _ wA_91) rfl .int _ (tyX1_ok 3 (by decide)) rfl rfl (Nat.le_of_ble_eq_true rfl) (wpt_0_3 hk0) dX1_burn_20 (fun H locs hW hS => ?_)
  obtain ⟨M4, hW, hf⟩ := wlet_M hW hf
  refine lv_aload_n hx hb dX1_burn_23 rfl (lv_at hl 0 rfl) ?_
  refine lv_iload_n hx hb dX1_burn_24 rfl (lv_at hl 1 rfl) ?_
  obtain ⟨r6, hc5, hf⟩ := wbind_e hf
  refine wc_V (As := [.int a1]) (rest := []) hx hb hml hown hts hG hV hZ (wlt_0 hk0) (q := (RX1, TX1, 5)) (wen_0 hk0) rfl (cX1_mustDie_ok l E M4 k0 hk0 a1 hc5) (cwV 1 hts gl_X1_54 rfl rfl rfl cdX1_mustDie ⟨Nat.le_of_ble_eq_true rfl, Nat.le_of_ble_eq_true rfl⟩) rfl hl.1 rfl (Nat.le_of_ble_eq_true rfl) dX1_burn_25 ⟨Nat.zero_le _, Nat.zero_le _⟩ hW hS rfl (fun H locs hW hS => ?_)
  rcases wif_e hf with ⟨hq7, hf⟩ | ⟨hq7, hf⟩
  · refine lv_if_eq (tgt := 39) hx hb dX1_burn_28 (by decide) (fun _ => ?_) (fun h => absurd hq7 h)
    have hres := Option.some.inj hf
    subst hres
    exact W.vret hx hb hr (wr_q hG hV hZ hW hS) hS.2.2 dX1_burn_39
  · refine lv_if_eq (tgt := 39) hx hb dX1_burn_28 (by decide) (fun h => absurd h hq7) (fun _ => ?_)
    refine lv_aload_n hx hb dX1_burn_31 rfl (lv_at hl 0 rfl) ?_
    refine lv_aload_n hx hb dX1_burn_32 rfl (lv_at hl 0 rfl) ?_
    obtain ⟨r9, hc8, hf⟩ := wbind_e hf
    refine wc_V (As := []) (rest := [.ref (wad E k0)]) hx hb hml hown hts hG hV hZ (wlt_0 hk0) (q := (RX1, TX1, 5)) (wen_0 hk0) rfl (cX1_whenDead_ok l E M4 k0 hk0 hc8) (cwV 0 hts gl_X1_58 rfl rfl rfl cdX1_whenDead ⟨Nat.le_of_ble_eq_true rfl, Nat.le_of_ble_eq_true rfl⟩) rfl hl.1 rfl (Nat.le_of_ble_eq_true rfl) dX1_burn_33 ⟨Nat.zero_le _, Nat.zero_le _⟩ hW hS rfl (fun H locs hW hS => ?_)
    refine wm_put hx hb hts wu_X1 tyX1 tyX1_ok nmX1 hown hG hV hW hS (wlt_0 hk0) (wen_0 hk0) (C := RX1) (T := TX1) (N := 5) rfl 4 (by decide) (hts _ wA_94) rfl .int _ (tyX1_ok 4 (by decide)) rfl rfl (Nat.le_of_ble_eq_true rfl) (wpt_0_4 hk0) dX1_burn_36 (fun H locs hW hS => ?_)
    obtain ⟨M10, hW, hf⟩ := wlet_M hW hf
    have hres := Option.some.inj hf
    subst hres
    exact W.vret hx hb hr (wr_q hG hV hZ hW hS) hS.2.2 dX1_burn_39
theorem cX1_burn_ok (l : Launch) (E : wE) (M : wMem) (k0 : Nat) (hk0 : wkd k0 = 0) (a1 : Int32) {res : wMem} (hf : fX1_burn M k0 a1 = some res) : wMet l yX1_burn (wsM yX1_burn cX1_burn 2 none) ({ frames := 2, cells := 0, slots := 0, locals := 41 } : Room) E M [.ref (wad E k0), .int a1] none res :=
  wc_of (cc := cX1_burn) (maxL := 2) (ret := none) (by decide) (Nat.le_of_ble_eq_true rfl) (fun _ _ _ _ _ _ _ _ B hW hl => pX1_burn B hk0 hf hW va_S.rf hl)
end
theorem cdX1_worksLoose : yX1_worksLoose.cls = RX1 ∧ yX1_worksLoose.cls ≠ "java/lang/invoke/MethodHandle" ∧ yX1_worksLoose.cls ≠ "java/lang/invoke/VarHandle" ∧ (parseMethodDescriptor yX1_worksLoose.desc).map (fun d => d.parameters.length) = some 2 := by decide +kernel
section
variable {p : Program} {l : Launch} {e : Env} {s : State} {m : MethodId} {args : Array Value} {below : List Frame} {meth : Method} {c : Code} {E : wE}
set_option maxRecDepth 100000 in
set_option maxHeartbeats 4000000 in
theorem pX1_worksLoose (B : wB E p s m args meth c cX1_worksLoose 3 RX1 (some .boolean)) {M : wMem} {k0 : Nat} {a1 : Int32} {a2 : Int32} (hk0 : wkd k0 = 0) {res : Bool} (hf : fX1_worksLoose M k0 a1 a2 = some res) {H : Heap} {locs : List Loc} {ls : Array Slot} (hW : wH E M H) (hS : va_S (wA E) s.heap H locs) (hl : lv_has ls 3 [(0, .ref (wad E k0)), (1, .int a1), (2, .int a2)]) : W p l e ({ frames := 0, cells := 0, slots := 0, locals := 0 } : Room) s m args below meth c H locs 0 0 (MQ below (wQ E (some (.int (wb res))) M) args s 0 0 (wA E)) (F0 m 0 ls []) := by
  unfold fX1_worksLoose at hf
  obtain ⟨hx, hb, hr, hml, hown, hts, hlocks, hG, hV, hZ⟩ := id B
  refine lv_aload_n hx hb dX1_worksLoose_0 rfl (lv_at hl 0 rfl) ?_
  refine wm_get hx hb hts wu_X1 hown hV hW (wlt_0 hk0) (wen_0 hk0) (C := RX1) (T := TX1) (N := 5) rfl 0 (by decide) (hts _ wA_83) rfl dX1_worksLoose_1 ?_
  refine lv_topi (fun x1 ex1 => ?_)
  replace hf := wlet_y ex1 hf
  rcases wif_e hf with ⟨hq4, hf⟩ | ⟨hq4, hf⟩
  · refine lv_lookup (off := 28) (tgt := 32) hx hb dX1_worksLoose_4 (by decide) (by rw [hq4] <;> rfl) (by decide) ?_
    refine lv_iload_n hx hb dX1_worksLoose_32 rfl (lv_at hl 1 rfl) ?_
    refine lv_bipush (v := 10) hx hb dX1_worksLoose_33 (by decide) ?_
    obtain ⟨hz2, hf⟩ := wgz_e hf
    refine lv_irem hx hb dX1_worksLoose_35 hz2 ?_
    refine lv_iload_n hx hb dX1_worksLoose_36 rfl (lv_at hl 2 rfl) ?_
    rcases wif_e hf with ⟨hq3, hf⟩ | ⟨hq3, hf⟩
    · refine lv_icmp_ne (tgt := 44) hx hb dX1_worksLoose_37 (by decide) (fun h => absurd hq3 h) (fun _ => ?_)
      refine lv_iconst (v := 1) hx hb dX1_worksLoose_40 rfl ?_
      refine lv_goto (tgt := 45) hx hb dX1_worksLoose_41 (by decide) ?_
      have hres := Option.some.inj hf
      subst hres
      exact W.zret hx hb hr (wb_n true) (wr_q hG hV hZ hW hS) hS.2.2 dX1_worksLoose_45
    · refine lv_icmp_ne (tgt := 44) hx hb dX1_worksLoose_37 (by decide) (fun _ => ?_) (fun h => absurd h hq3)
      refine lv_iconst (v := 0) hx hb dX1_worksLoose_44 rfl ?_
      have hres := Option.some.inj hf
      subst hres
      exact W.zret hx hb hr (wb_n false) (wr_q hG hV hZ hW hS) hS.2.2 dX1_worksLoose_45
  · rcases wif_e hf with ⟨hq8, hf⟩ | ⟨hq8, hf⟩
    · refine lv_lookup (off := 42) (tgt := 46) hx hb dX1_worksLoose_4 (by decide) (by rw [hq8] <;> rfl) (by decide) ?_
      refine lv_iload_n hx hb dX1_worksLoose_46 rfl (lv_at hl 1 rfl) ?_
      refine lv_iconst (v := 5) hx hb dX1_worksLoose_47 rfl ?_
      obtain ⟨hz5, hf⟩ := wgz_e hf
      refine lv_irem hx hb dX1_worksLoose_48 hz5 ?_
      refine lv_iload_n hx hb dX1_worksLoose_49 rfl (lv_at hl 2 rfl) ?_
      refine lv_iconst (v := 5) hx hb dX1_worksLoose_50 rfl ?_
      obtain ⟨hz6, hf⟩ := wgz_e hf
      refine lv_irem hx hb dX1_worksLoose_51 hz6 ?_
      rcases wif_e hf with ⟨hq7, hf⟩ | ⟨hq7, hf⟩
      · refine lv_icmp_ne (tgt := 59) hx hb dX1_worksLoose_52 (by decide) (fun h => absurd hq7 h) (fun _ => ?_)
        refine lv_iconst (v := 1) hx hb dX1_worksLoose_55 rfl ?_
        refine lv_goto (tgt := 60) hx hb dX1_worksLoose_56 (by decide) ?_
        have hres := Option.some.inj hf
        subst hres
        exact W.zret hx hb hr (wb_n true) (wr_q hG hV hZ hW hS) hS.2.2 dX1_worksLoose_60
      · refine lv_icmp_ne (tgt := 59) hx hb dX1_worksLoose_52 (by decide) (fun _ => ?_) (fun h => absurd h hq7)
        refine lv_iconst (v := 0) hx hb dX1_worksLoose_59 rfl ?_
        have hres := Option.some.inj hf
        subst hres
        exact W.zret hx hb hr (wb_n false) (wr_q hG hV hZ hW hS) hS.2.2 dX1_worksLoose_60
    · refine lv_lookup (off := 57) (tgt := 61) hx hb dX1_worksLoose_4 (by decide) ((lv_osw (k := 2) hq4 (by decide)).trans ((lv_osw (k := 3) hq8 (by decide)).trans rfl)) (by decide) ?_
      refine lv_iconst (v := 0) hx hb dX1_worksLoose_61 rfl ?_
      have hres := Option.some.inj hf
      subst hres
      exact W.zret hx hb hr (wb_n false) (wr_q hG hV hZ hW hS) hS.2.2 dX1_worksLoose_62
theorem cX1_worksLoose_ok (l : Launch) (E : wE) (M : wMem) (k0 : Nat) (hk0 : wkd k0 = 0) (a1 : Int32) (a2 : Int32) {res : Bool} (hf : fX1_worksLoose M k0 a1 a2 = some res) : wMet l yX1_worksLoose (wsM yX1_worksLoose cX1_worksLoose 3 (some .boolean)) ({ frames := 0, cells := 0, slots := 0, locals := 0 } : Room) E M [.ref (wad E k0), .int a1, .int a2] (some (.int (wb res))) M :=
  wc_of (cc := cX1_worksLoose) (maxL := 3) (ret := (some .boolean)) (by decide) (Nat.le_of_ble_eq_true rfl) (fun _ _ _ _ _ _ _ _ B hW hl => pX1_worksLoose B hk0 hf hW va_S.rf hl)
end
theorem cdX5_passHour : yX5_passHour.cls = RX5 ∧ yX5_passHour.cls ≠ "java/lang/invoke/MethodHandle" ∧ yX5_passHour.cls ≠ "java/lang/invoke/VarHandle" ∧ (parseMethodDescriptor yX5_passHour.desc).map (fun d => d.parameters.length) = some 0 := by decide +kernel
section
variable {p : Program} {l : Launch} {e : Env} {s : State} {m : MethodId} {args : Array Value} {below : List Frame} {meth : Method} {c : Code} {E : wE}
set_option maxRecDepth 100000 in
set_option maxHeartbeats 4000000 in
theorem pX5_passHour_115 (B : wB E p s m args meth c cX5_passHour 7 RX5 (some .int)) {M : wMem} {ky0 : Nat} {y1 : Int32} {y2 : Int32} {y3 : Int32} {y4 : Int32} {rec27 : (Int32 × Int32 × wMem → Option (Int32 × wMem))} {res : Int32 × wMem} (hky0 : wkd ky0 = 4) (hrec27 : ∀ (y3' : Int32) (y4' : Int32) (M' : wMem), rec27 (y3', y4', M') = some res → ∀ (H : Heap) (locs : List Loc) (ls : Array Slot), wH E M' H → va_S (wA E) s.heap H locs → lv_has ls 7 [(0, .ref (wad E ky0)), (1, .int y1), (2, .int y2), (3, .int y3'), (4, .int y4')] → W p l e ({ frames := 3, cells := 0, slots := 0, locals := 63 } : Room) s m args below meth c H locs 0 0 (MQ below (wQ E (some (.int res.1)) res.2) args s 0 0 (wA E)) (F0 m 27 ls [])) (hf : fX5_passHour_115 M rec27 ky0 y1 y2 y3 y4 = some res) {H : Heap} {locs : List Loc} {ls : Array Slot} (hW : wH E M H) (hS : va_S (wA E) s.heap H locs) (hl : lv_has ls 7 [(0, .ref (wad E ky0)), (1, .int y1), (2, .int y2), (3, .int y3), (4, .int y4)]) : W p l e ({ frames := 3, cells := 0, slots := 0, locals := 63 } : Room) s m args below meth c H locs 0 0 (MQ below (wQ E (some (.int res.1)) res.2) args s 0 0 (wA E)) (F0 m 115 ls []) := by
  unfold fX5_passHour_115 at hf
  obtain ⟨hx, hb, hr, hml, hown, hts, hlocks, hG, hV, hZ⟩ := id B
  obtain ⟨x16, ex16, hf⟩ := wlet_e hf
  refine lv_iinc (v := x16) (lv' := [(4, .int x16), (0, .ref (wad E ky0)), (1, .int y1), (2, .int y2), (3, .int y3)]) hx hb dX5_passHour_115 hl (k := 4) rfl (by rw [ex16]; rfl) (by decide) rfl (fun ls hl => ?_)
  refine lv_goto (tgt := 27) hx hb dX5_passHour_118 (by decide) ?_
  exact hrec27 y3 x16 M hf _ _ _ hW hS (lv_sub hl [1, 2, 3, 4, 0] rfl)
set_option maxRecDepth 100000 in
set_option maxHeartbeats 4000000 in
theorem pX5_passHour_99 (B : wB E p s m args meth c cX5_passHour 7 RX5 (some .int)) {M : wMem} {ky0 : Nat} {y1 : Int32} {y2 : Int32} {y3 : Int32} {y4 : Int32} {ky5 : Nat} {y6 : Int32} {rec27 : (Int32 × Int32 × wMem → Option (Int32 × wMem))} {res : Int32 × wMem} (hky0 : wkd ky0 = 4) (hky5 : wkd ky5 = 0) (hrec27 : ∀ (y3' : Int32) (y4' : Int32) (M' : wMem), rec27 (y3', y4', M') = some res → ∀ (H : Heap) (locs : List Loc) (ls : Array Slot), wH E M' H → va_S (wA E) s.heap H locs → lv_has ls 7 [(0, .ref (wad E ky0)), (1, .int y1), (2, .int y2), (3, .int y3'), (4, .int y4')] → W p l e ({ frames := 3, cells := 0, slots := 0, locals := 63 } : Room) s m args below meth c H locs 0 0 (MQ below (wQ E (some (.int res.1)) res.2) args s 0 0 (wA E)) (F0 m 27 ls [])) (hf : fX5_passHour_99 M rec27 ky0 y1 y2 y3 y4 ky5 y6 = some res) {H : Heap} {locs : List Loc} {ls : Array Slot} (hW : wH E M H) (hS : va_S (wA E) s.heap H locs) (hl : lv_has ls 7 [(0, .ref (wad E ky0)), (1, .int y1), (2, .int y2), (3, .int y3), (4, .int y4), (5, .ref (wad E ky5)), (6, .int y6)]) : W p l e ({ frames := 3, cells := 0, slots := 0, locals := 63 } : Room) s m args below meth c H locs 0 0 (MQ below (wQ E (some (.int res.1)) res.2) args s 0 0 (wA E)) (F0 m 99 ls []) := by
  unfold fX5_passHour_99 at hf
  obtain ⟨hx, hb, hr, hml, hown, hts, hlocks, hG, hV, hZ⟩ := id B
  refine lv_iload hx hb dX5_passHour_99 (lv_at hl 6 rfl) ?_
  rcases wif_e hf with ⟨hq15, hf⟩ | ⟨hq15, hf⟩
  · refine lv_if_eq (tgt := 115) hx hb dX5_passHour_101 (by decide) (fun _ => ?_) (fun h => absurd hq15 h)
    exact pX5_passHour_115 B hky0 hrec27 hf hW hS (lv_sub hl [0, 1, 2, 3, 4] rfl)
  · refine lv_if_eq (tgt := 115) hx hb dX5_passHour_101 (by decide) (fun h => absurd h hq15) (fun _ => ?_)
    refine lv_aload hx hb dX5_passHour_104 (lv_at hl 5 rfl) ?_
    obtain ⟨r18, hc17, hf⟩ := wbind_e hf
    refine wc_V (As := []) (rest := []) hx hb hml hown hts hG hV hZ (wlt_0 hky5) (q := (RX1, TX1, 5)) (wen_0 hky5) rfl (cX1_isWell_ok l E M ky5 hky5 hc17) (cwV 0 hts gl_X5_111 rfl rfl rfl cdX1_isWell ⟨Nat.le_of_ble_eq_true rfl, Nat.le_of_ble_eq_true rfl⟩) rfl hl.1 rfl (Nat.le_of_ble_eq_true rfl) dX5_passHour_106 ⟨Nat.zero_le _, Nat.zero_le _⟩ hW hS rfl (fun H locs hW hS => ?_)
    rcases wif_e hf with ⟨hq19, hf⟩ | ⟨hq19, hf⟩
    · refine lv_if_ne (tgt := 115) hx hb dX5_passHour_109 (by decide) (fun h => absurd hq19 h) (fun _ => ?_)
      obtain ⟨x20, ex20, hf⟩ := wlet_e hf
      refine lv_iinc (v := x20) (lv' := [(3, .int x20), (0, .ref (wad E ky0)), (1, .int y1), (2, .int y2), (4, .int y4), (5, .ref (wad E ky5)), (6, .int y6)]) hx hb dX5_passHour_112 hl (k := 3) rfl (by rw [ex20]; rfl) (by decide) rfl (fun ls hl => ?_)
      exact pX5_passHour_115 B hky0 hrec27 hf hW hS (lv_sub hl [1, 2, 3, 0, 4] rfl)
    · refine lv_if_ne (tgt := 115) hx hb dX5_passHour_109 (by decide) (fun _ => ?_) (fun h => absurd h hq19)
      exact pX5_passHour_115 B hky0 hrec27 hf hW hS (lv_sub hl [0, 1, 2, 3, 4] rfl)
set_option maxRecDepth 100000 in
set_option maxHeartbeats 4000000 in
theorem pX5_passHour_67 (B : wB E p s m args meth c cX5_passHour 7 RX5 (some .int)) {M : wMem} {ky0 : Nat} {y1 : Int32} {y2 : Int32} {y3 : Int32} {y4 : Int32} {ky5 : Nat} {y6 : Int32} {rec27 : (Int32 × Int32 × wMem → Option (Int32 × wMem))} {res : Int32 × wMem} (hky0 : wkd ky0 = 4) (hky5 : wkd ky5 = 0) (hrec27 : ∀ (y3' : Int32) (y4' : Int32) (M' : wMem), rec27 (y3', y4', M') = some res → ∀ (H : Heap) (locs : List Loc) (ls : Array Slot), wH E M' H → va_S (wA E) s.heap H locs → lv_has ls 7 [(0, .ref (wad E ky0)), (1, .int y1), (2, .int y2), (3, .int y3'), (4, .int y4')] → W p l e ({ frames := 3, cells := 0, slots := 0, locals := 63 } : Room) s m args below meth c H locs 0 0 (MQ below (wQ E (some (.int res.1)) res.2) args s 0 0 (wA E)) (F0 m 27 ls [])) (hf : fX5_passHour_67 M rec27 ky0 y1 y2 y3 y4 ky5 y6 = some res) {H : Heap} {locs : List Loc} {ls : Array Slot} (hW : wH E M H) (hS : va_S (wA E) s.heap H locs) (hl : lv_has ls 7 [(0, .ref (wad E ky0)), (1, .int y1), (2, .int y2), (3, .int y3), (4, .int y4), (5, .ref (wad E ky5)), (6, .int y6)]) : W p l e ({ frames := 3, cells := 0, slots := 0, locals := 63 } : Room) s m args below meth c H locs 0 0 (MQ below (wQ E (some (.int res.1)) res.2) args s 0 0 (wA E)) (F0 m 67 ls []) := by
  unfold fX5_passHour_67 at hf
  obtain ⟨hx, hb, hr, hml, hown, hts, hlocks, hG, hV, hZ⟩ := id B
  refine lv_aload hx hb dX5_passHour_67 (lv_at hl 5 rfl) ?_
  obtain ⟨r13, hc12, hf⟩ := wbind_e hf
  refine wc_V (As := []) (rest := []) hx hb hml hown hts hG hV hZ (wlt_0 hky5) (q := (RX1, TX1, 5)) (wen_0 hky5) rfl (cX1_isWell_ok l E M ky5 hky5 hc12) (cwV 0 hts gl_X5_111 rfl rfl rfl cdX1_isWell ⟨Nat.le_of_ble_eq_true rfl, Nat.le_of_ble_eq_true rfl⟩) rfl hl.1 rfl (Nat.le_of_ble_eq_true rfl) dX5_passHour_69 ⟨Nat.zero_le _, Nat.zero_le _⟩ hW hS rfl (fun H locs hW hS => ?_)
  rcases wif_e hf with ⟨hq14, hf⟩ | ⟨hq14, hf⟩
  · refine lv_if_eq (tgt := 99) hx hb dX5_passHour_72 (by decide) (fun _ => ?_) (fun h => absurd hq14 h)
    exact pX5_passHour_99 B hky0 hky5 hrec27 hf hW hS (lv_sub hl [0, 1, 2, 3, 4, 5, 6] rfl)
  · refine lv_if_eq (tgt := 99) hx hb dX5_passHour_72 (by decide) (fun h => absurd h hq14) (fun _ => ?_)
    refine lv_aload hx hb dX5_passHour_75 (lv_at hl 5 rfl) ?_
    refine lv_aload_n hx hb dX5_passHour_77 rfl (lv_at hl 0 rfl) ?_
    refine wm_get hx hb hts wu_X5 hown hV hW (wlt_4 hky0) (wen_4 hky0) (C := RX5) (T := TX5) (N := 4) rfl 3 (by decide) (hts _ wA_122) rfl dX5_passHour_78 ?_
    refine lv_aload_n hx hb dX5_passHour_81 rfl (lv_at hl 0 rfl) ?_
    refine wm_get hx hb hts wu_X5 hown hV hW (wlt_4 hky0) (wen_4 hky0) (C := RX5) (T := TX5) (N := 4) rfl 1 (by decide) (hts _ wA_115) rfl dX5_passHour_82 ?_
    refine lv_iconst (v := 3) hx hb dX5_passHour_85 rfl ?_
    obtain ⟨hi21, hf⟩ := wgi_e hf
    refine wm_iald hx hb hV hW (wk4_2 hky0) (n := 4) (wl4_2 hky0) hi21 dX5_passHour_86 ?_
    obtain ⟨r23, hc22, hf⟩ := wbind_e hf
    refine wc_V (As := [.int (M ky0 3), .int (M (ky0 + 2) (Int32.toNatClampNeg 3))]) (rest := []) hx hb hml hown hts hG hV hZ (wlt_0 hky5) (q := (RX1, TX1, 5)) (wen_0 hky5) rfl (cX1_worksLoose_ok l E M ky5 hky5 (M ky0 3) (M (ky0 + 2) (Int32.toNatClampNeg 3)) hc22) (cwV 2 hts gl_X5_118 rfl rfl rfl cdX1_worksLoose ⟨Nat.le_of_ble_eq_true rfl, Nat.le_of_ble_eq_true rfl⟩) rfl hl.1 rfl (Nat.le_of_ble_eq_true rfl) dX5_passHour_87 ⟨Nat.zero_le _, Nat.zero_le _⟩ hW hS rfl (fun H locs hW hS => ?_)
    rcases wif_e hf with ⟨hq24, hf⟩ | ⟨hq24, hf⟩
    · refine lv_if_eq (tgt := 99) hx hb dX5_passHour_90 (by decide) (fun _ => ?_) (fun h => absurd hq24 h)
      exact pX5_passHour_99 B hky0 hky5 hrec27 hf hW hS (lv_sub hl [0, 1, 2, 3, 4, 5, 6] rfl)
    · refine lv_if_eq (tgt := 99) hx hb dX5_passHour_90 (by decide) (fun h => absurd h hq24) (fun _ => ?_)
      refine lv_aload hx hb dX5_passHour_93 (lv_at hl 5 rfl) ?_
      refine lv_iconst (v := 3) hx hb dX5_passHour_95 rfl ?_
      refine wm_put hx hb hts wu_X1 tyX1 tyX1_ok nmX1 hown hG hV hW hS (wlt_0 hky5) (wen_0 hky5) (C := RX1) (T := TX1) (N := 5) rfl 4 (by decide) (hts _ wA_96) rfl .int _ (tyX1_ok 4 (by decide)) rfl rfl (Nat.le_of_ble_eq_true rfl) (wpt_0_4 hky5) dX5_passHour_96 (fun H locs hW hS => ?_)
      obtain ⟨M25, hW, hf⟩ := wlet_M hW hf
      exact pX5_passHour_99 B hky0 hky5 hrec27 hf hW hS (lv_sub hl [0, 1, 2, 3, 4, 5, 6] rfl)
set_option maxRecDepth 100000 in
set_option maxHeartbeats 4000000 in
theorem pX5_passHour_27_b (B : wB E p s m args meth c cX5_passHour 7 RX5 (some .int)) {M : wMem} {ky0 : Nat} {y1 : Int32} {y2 : Int32} {y3 : Int32} {y4 : Int32}  {rec27 : (Int32 × Int32 × wMem → Option (Int32 × wMem))} {res : Int32 × wMem} (hky0 : wkd ky0 = 4)  (hrec27 : ∀ (y3' : Int32) (y4' : Int32) (M' : wMem), rec27 (y3', y4', M') = some res → ∀ (H : Heap) (locs : List Loc) (ls : Array Slot), wH E M' H → va_S (wA E) s.heap H locs → lv_has ls 7 [(0, .ref (wad E ky0)), (1, .int y1), (2, .int y2), (3, .int y3'), (4, .int y4')] → W p l e ({ frames := 3, cells := 0, slots := 0, locals := 63 } : Room) s m args below meth c H locs 0 0 (MQ below (wQ E (some (.int res.1)) res.2) args s 0 0 (wA E)) (F0 m 27 ls [])) (hf : fX5_passHour_27_b M  rec27 ky0 y1 y2 y3 y4 = some res) {H : Heap} {locs : List Loc} {ls : Array Slot} (hW : wH E M H) (hS : va_S (wA E) s.heap H locs) (hl : lv_has ls 7 [(0, .ref (wad E ky0)), (1, .int y1), (2, .int y2), (3, .int y3), (4, .int y4)]) : W p l e ({ frames := 3, cells := 0, slots := 0, locals := 63 } : Room) s m args below meth c H locs 0 0 (MQ below (wQ E (some (.int res.1)) res.2) args s 0 0 (wA E)) (F0 m 27 ls []) := by
  unfold fX5_passHour_27_b at hf
  obtain ⟨hx, hb, hr, hml, hown, hts, hlocks, hG, hV, hZ⟩ := id B
  refine lv_iload hx hb dX5_passHour_27 (lv_at hl 4 rfl) ?_
  refine lv_aload_n hx hb dX5_passHour_29 rfl (lv_at hl 0 rfl) ?_
  refine wm_get hx hb hts wu_X5 hown hV hW (wlt_4 hky0) (wen_4 hky0) (C := RX5) (T := TX5) (N := 4) rfl 2 (by decide) (hts _ wA_117) rfl dX5_passHour_30 ?_
  rcases wif_e hf with ⟨hq5, hf⟩ | ⟨hq5, hf⟩
  · refine lv_icmp_ge (tgt := 121) hx hb dX5_passHour_33 (by decide) (fun _ => ?_) (fun h => absurd hq5 h)
    refine lv_aload_n hx hb dX5_passHour_121 rfl (lv_at hl 0 rfl) ?_
    refine lv_dup hx hb dX5_passHour_122 rfl ?_
    refine wm_get hx hb hts wu_X5 hown hV hW (wlt_4 hky0) (wen_4 hky0) (C := RX5) (T := TX5) (N := 4) rfl 3 (by decide) (hts _ wA_122) rfl dX5_passHour_123 ?_
    refine lv_iconst (v := 1) hx hb dX5_passHour_126 rfl ?_
    refine lv_iadd hx hb dX5_passHour_127 ?_
    refine wm_put hx hb hts wu_X5 tyX5 tyX5_ok nmX5 hown hG hV hW hS (wlt_4 hky0) (wen_4 hky0) (C := RX5) (T := TX5) (N := 4) rfl 3 (by decide) (hts _ wA_122) rfl .int _ (tyX5_ok 3 (by decide)) rfl rfl (Nat.le_of_ble_eq_true rfl) (wpt_4_3 hky0) dX5_passHour_128 (fun H locs hW hS => ?_)
    obtain ⟨M6, hW, hf⟩ := wlet_M hW hf
    refine lv_iload_n hx hb dX5_passHour_131 rfl (lv_at hl 3 rfl) ?_
    have hres := Option.some.inj hf
    subst hres
    exact W.iret hx hb hr (wr_q hG hV hZ hW hS) hS.2.2 dX5_passHour_132
  · refine lv_icmp_ge (tgt := 121) hx hb dX5_passHour_33 (by decide) (fun h => absurd h hq5) (fun _ => ?_)
    refine lv_aload_n hx hb dX5_passHour_36 rfl (lv_at hl 0 rfl) ?_
    refine wm_get hx hb hts wu_X5 hown hV hW (wlt_4 hky0) (wen_4 hky0) (C := RX5) (T := TX5) (N := 4) rfl 0 (by decide) (hts _ wA_109) rfl dX5_passHour_37 ?_
    refine lv_iload hx hb dX5_passHour_40 (lv_at hl 4 rfl) ?_
    obtain ⟨hi7, hf⟩ := wgi_e hf
    refine wm_aldL hx hb hV hW (wk4_1 hky0) hi7 dX5_passHour_42 ?_
    refine lv_astore (lv' := [(5, .ref (wad E ((ky0 + 1) + 2 + Int32.toNatClampNeg y4))), (0, .ref (wad E ky0)), (1, .int y1), (2, .int y2), (3, .int y3), (4, .int y4)]) hx hb dX5_passHour_43 hl (by decide) rfl (fun ls hl => ?_)
    refine lv_aload hx hb dX5_passHour_45 (lv_at hl 0 rfl) ?_
    obtain ⟨r9, hc8, hf⟩ := wbind_e hf
    refine wc_V (As := []) (rest := []) hx hb hml hown hts hG hV hZ (wlt_0 (wk22_i (wk4_1 hky0) hi7)) (q := (RX1, TX1, 5)) (wen_0 (wk22_i (wk4_1 hky0) hi7)) rfl (cX1_isWell_ok l E M ((ky0 + 1) + 2 + Int32.toNatClampNeg y4) (wk22_i (wk4_1 hky0) hi7) hc8) (cwV 0 hts gl_X5_111 rfl rfl rfl cdX1_isWell ⟨Nat.le_of_ble_eq_true rfl, Nat.le_of_ble_eq_true rfl⟩) rfl hl.1 rfl (Nat.le_of_ble_eq_true rfl) dX5_passHour_47 ⟨Nat.zero_le _, Nat.zero_le _⟩ hW hS rfl (fun H locs hW hS => ?_)
    refine lv_topi (fun x10 ex10 => ?_)
    replace hf := wlet_y ex10 hf
    refine lv_istore (lv' := [(6, .int x10), (5, .ref (wad E ((ky0 + 1) + 2 + Int32.toNatClampNeg y4))), (0, .ref (wad E ky0)), (1, .int y1), (2, .int y2), (3, .int y3), (4, .int y4)]) hx hb dX5_passHour_50 hl (by decide) rfl (fun ls hl => ?_)
    refine lv_iload hx hb dX5_passHour_52 (lv_at hl 0 rfl) ?_
    rcases wif_e hf with ⟨hq11, hf⟩ | ⟨hq11, hf⟩
    · refine lv_if_eq (tgt := 67) hx hb dX5_passHour_54 (by decide) (fun _ => ?_) (fun h => absurd hq11 h)
      exact pX5_passHour_67 B hky0 (wk22_i (wk4_1 hky0) hi7) hrec27 hf hW hS (lv_sub hl [2, 3, 4, 5, 6, 1, 0] rfl)
    · refine lv_if_eq (tgt := 67) hx hb dX5_passHour_54 (by decide) (fun h => absurd h hq11) (fun _ => ?_)
      refine lv_iload_n hx hb dX5_passHour_57 rfl (lv_at hl 3 rfl) ?_
      rcases wif_e hf with ⟨hq26, hf⟩ | ⟨hq26, hf⟩
      · refine lv_if_eq (tgt := 67) hx hb dX5_passHour_58 (by decide) (fun _ => ?_) (fun h => absurd hq26 h)
        exact pX5_passHour_67 B hky0 (wk22_i (wk4_1 hky0) hi7) hrec27 hf hW hS (lv_sub hl [2, 3, 4, 5, 6, 1, 0] rfl)
      · refine lv_if_eq (tgt := 67) hx hb dX5_passHour_58 (by decide) (fun h => absurd h hq26) (fun _ => ?_)
        refine lv_aload hx hb dX5_passHour_61 (lv_at hl 1 rfl) ?_
        refine lv_iload_n hx hb dX5_passHour_63 rfl (lv_at hl 4 rfl) ?_
        obtain ⟨M29, hc27, hf⟩ := wbind_e hf
        refine wc_V (As := [.int y2]) (rest := []) hx hb hml hown hts hG hV hZ (wlt_0 (wk22_i (wk4_1 hky0) hi7)) (q := (RX1, TX1, 5)) (wen_0 (wk22_i (wk4_1 hky0) hi7)) rfl (cX1_burn_ok l E M ((ky0 + 1) + 2 + Int32.toNatClampNeg y4) (wk22_i (wk4_1 hky0) hi7) y2 hc27) (cwV 1 hts gl_X5_114 rfl rfl rfl cdX1_burn ⟨Nat.le_of_ble_eq_true rfl, Nat.le_of_ble_eq_true rfl⟩) rfl hl.1 rfl (Nat.le_of_ble_eq_true rfl) dX5_passHour_64 ⟨Nat.zero_le _, Nat.zero_le _⟩ hW hS rfl (fun H locs hW hS => ?_)
        exact pX5_passHour_67 B hky0 (wk22_i (wk4_1 hky0) hi7) hrec27 hf hW hS (lv_sub hl [2, 3, 4, 5, 6, 1, 0] rfl)
set_option maxRecDepth 100000 in
set_option maxHeartbeats 4000000 in
theorem pX5_passHour_27 (B : wB E p s m args meth c cX5_passHour 7 RX5 (some .int)) {M : wMem} {ky0 : Nat} {y1 : Int32} {y2 : Int32} {y3 : Int32} {y4 : Int32}  {res : Int32 × wMem} (hky0 : wkd ky0 = 4)  (hf : fX5_passHour_27 M  ky0 y1 y2 y3 y4 = some res) {H : Heap} {locs : List Loc} {ls : Array Slot} (hW : wH E M H) (hS : va_S (wA E) s.heap H locs) (hl : lv_has ls 7 [(0, .ref (wad E ky0)), (1, .int y1), (2, .int y2), (3, .int y3), (4, .int y4)]) : W p l e ({ frames := 3, cells := 0, slots := 0, locals := 63 } : Room) s m args below meth c H locs 0 0 (MQ below (wQ E (some (.int res.1)) res.2) args s 0 0 (wA E)) (F0 m 27 ls []) := by
  have key := wloop_W (b := (fun rec27 t => fX5_passHour_27_b t.2.2  rec27 ky0 y1 y2 t.1 t.2.1)) (P := fun t => ∀ (H : Heap) (locs : List Loc) (ls : Array Slot), wH E t.2.2 H → va_S (wA E) s.heap H locs → lv_has ls 7 [(0, .ref (wad E ky0)), (1, .int y1), (2, .int y2), (3, .int t.1), (4, .int t.2.1)] → W p l e ({ frames := 3, cells := 0, slots := 0, locals := 63 } : Room) s m args below meth c H locs 0 0 (MQ below (wQ E (some (.int res.1)) res.2) args s 0 0 (wA E)) (F0 m 27 ls [])) (r := res) (fun rec hrec t hf H locs ls hW hS hl => pX5_passHour_27_b B hky0  (fun v0 v1 v2 hf H locs ls hW hS hl => hrec (v0, v1, v2) hf H locs ls hW hS hl) hf hW hS hl)
  exact key wfuel (y3, y4, M) hf H locs ls hW hS hl
set_option maxRecDepth 100000 in
set_option maxHeartbeats 4000000 in
theorem pX5_passHour_21 (B : wB E p s m args meth c cX5_passHour 7 RX5 (some .int)) {M : wMem} {ky0 : Nat} {y1 : Int32} {z0 : Int32}  {res : Int32 × wMem} (hky0 : wkd ky0 = 4)  (hf : fX5_passHour_21 M  ky0 y1 z0 = some res) {H : Heap} {locs : List Loc} {ls : Array Slot} (hW : wH E M H) (hS : va_S (wA E) s.heap H locs) (hl : lv_has ls 7 [(0, .ref (wad E ky0)), (1, .int y1)]) : W p l e ({ frames := 3, cells := 0, slots := 0, locals := 63 } : Room) s m args below meth c H locs 0 0 (MQ below (wQ E (some (.int res.1)) res.2) args s 0 0 (wA E)) (F0 m 21 ls [.int z0]) := by
  unfold fX5_passHour_21 at hf
  obtain ⟨hx, hb, hr, hml, hown, hts, hlocks, hG, hV, hZ⟩ := id B
  refine lv_istore_n (lv' := [(2, .int z0), (0, .ref (wad E ky0)), (1, .int y1)]) hx hb dX5_passHour_21 rfl hl (by decide) rfl (fun ls hl => ?_)
  refine lv_iconst (v := 0) hx hb dX5_passHour_22 rfl ?_
  refine lv_istore_n (lv' := [(3, .int 0), (2, .int z0), (0, .ref (wad E ky0)), (1, .int y1)]) hx hb dX5_passHour_23 rfl hl (by decide) rfl (fun ls hl => ?_)
  refine lv_iconst (v := 0) hx hb dX5_passHour_24 rfl ?_
  refine lv_istore (lv' := [(4, .int 0), (3, .int 0), (2, .int z0), (0, .ref (wad E ky0)), (1, .int y1)]) hx hb dX5_passHour_25 hl (by decide) rfl (fun ls hl => ?_)
  exact pX5_passHour_27 B hky0  hf hW hS (lv_sub hl [3, 4, 2, 1, 0] rfl)
set_option maxRecDepth 100000 in
set_option maxHeartbeats 4000000 in
theorem pX5_passHour (B : wB E p s m args meth c cX5_passHour 7 RX5 (some .int)) {M : wMem} {k0 : Nat} (hk0 : wkd k0 = 4) {res : Int32 × wMem} (hf : fX5_passHour M k0 = some res) {H : Heap} {locs : List Loc} {ls : Array Slot} (hW : wH E M H) (hS : va_S (wA E) s.heap H locs) (hl : lv_has ls 7 [(0, .ref (wad E k0))]) : W p l e ({ frames := 3, cells := 0, slots := 0, locals := 63 } : Room) s m args below meth c H locs 0 0 (MQ below (wQ E (some (.int res.1)) res.2) args s 0 0 (wA E)) (F0 m 0 ls []) := by
  unfold fX5_passHour at hf
  obtain ⟨hx, hb, hr, hml, hown, hts, hlocks, hG, hV, hZ⟩ := id B
  refine lv_aload_n hx hb dX5_passHour_0 rfl (lv_at hl 0 rfl) ?_
  obtain ⟨r2, hc1, hf⟩ := wbind_e hf
  refine wc_V (As := []) (rest := []) hx hb hml hown hts hG hV hZ (wlt_4 hk0) (q := (RX5, TX5, 4)) (wen_4 hk0) rfl (cX5_isLive_ok l E M k0 hk0 hc1) (cwV 0 hts gl_X5_92 rfl rfl rfl cdX5_isLive ⟨Nat.le_of_ble_eq_true rfl, Nat.le_of_ble_eq_true rfl⟩) rfl hl.1 rfl (Nat.le_of_ble_eq_true rfl) dX5_passHour_1 ⟨Nat.zero_le _, Nat.zero_le _⟩ hW hS rfl (fun H locs hW hS => ?_)
  refine lv_topi (fun x3 ex3 => ?_)
  replace hf := wlet_y ex3 hf
  refine lv_istore_n (lv' := [(1, .int x3), (0, .ref (wad E k0))]) hx hb dX5_passHour_4 rfl hl (by decide) rfl (fun ls hl => ?_)
  refine lv_iload_n hx hb dX5_passHour_5 rfl (lv_at hl 0 rfl) ?_
  rcases wif_e hf with ⟨hq4, hf⟩ | ⟨hq4, hf⟩
  · refine lv_if_eq (tgt := 20) hx hb dX5_passHour_6 (by decide) (fun _ => ?_) (fun h => absurd hq4 h)
    refine lv_iconst (v := 0) hx hb dX5_passHour_20 rfl ?_
    exact pX5_passHour_21 B hk0  hf hW hS (lv_sub hl [1, 0] rfl)
  · refine lv_if_eq (tgt := 20) hx hb dX5_passHour_6 (by decide) (fun h => absurd h hq4) (fun _ => ?_)
    refine lv_aload_n hx hb dX5_passHour_9 rfl (lv_at hl 1 rfl) ?_
    refine lv_aload_n hx hb dX5_passHour_10 rfl (lv_at hl 1 rfl) ?_
    obtain ⟨r31, hc30, hf⟩ := wbind_e hf
    refine wc_V (As := []) (rest := [.ref (wad E k0)]) hx hb hml hown hts hG hV hZ (wlt_4 hk0) (q := (RX5, TX5, 4)) (wen_4 hk0) rfl (cX5_allDrags_ok l E M k0 hk0 hc30) (cwV 0 hts gl_X5_89 rfl rfl rfl cdX5_allDrags ⟨Nat.le_of_ble_eq_true rfl, Nat.le_of_ble_eq_true rfl⟩) rfl hl.1 rfl (Nat.le_of_ble_eq_true rfl) dX5_passHour_11 ⟨Nat.zero_le _, Nat.zero_le _⟩ hW hS rfl (fun H locs hW hS => ?_)
    obtain ⟨r33, hc32, hf⟩ := wbind_e hf
    refine wc_V (As := [.int r31]) (rest := []) hx hb hml hown hts hG hV hZ (wlt_4 hk0) (q := (RX5, TX5, 4)) (wen_4 hk0) rfl (cX5_flowThrough_ok l E M k0 hk0 r31 hc32) (cwV 1 hts gl_X5_95 rfl rfl rfl cdX5_flowThrough ⟨Nat.le_of_ble_eq_true rfl, Nat.le_of_ble_eq_true rfl⟩) rfl hl.1 rfl (Nat.le_of_ble_eq_true rfl) dX5_passHour_14 ⟨Nat.zero_le _, Nat.zero_le _⟩ hW hS rfl (fun H locs hW hS => ?_)
    refine lv_goto (tgt := 21) hx hb dX5_passHour_17 (by decide) ?_
    exact pX5_passHour_21 B hk0  hf hW hS (lv_sub hl [1, 0] rfl)
theorem cX5_passHour_ok (l : Launch) (E : wE) (M : wMem) (k0 : Nat) (hk0 : wkd k0 = 4) {res : Int32 × wMem} (hf : fX5_passHour M k0 = some res) : wMet l yX5_passHour (wsM yX5_passHour cX5_passHour 7 (some .int)) ({ frames := 3, cells := 0, slots := 0, locals := 63 } : Room) E M [.ref (wad E k0)] (some (.int res.1)) res.2 :=
  wc_of (cc := cX5_passHour) (maxL := 7) (ret := (some .int)) (by decide) (Nat.le_of_ble_eq_true rfl) (fun _ _ _ _ _ _ _ _ B hW hl => pX5_passHour B hk0 hf hW va_S.rf hl)
end
theorem cdX9_hour : yX9_hour.cls = RX9 ∧ yX9_hour.cls ≠ "java/lang/invoke/MethodHandle" ∧ yX9_hour.cls ≠ "java/lang/invoke/VarHandle" ∧ (parseMethodDescriptor yX9_hour.desc).map (fun d => d.parameters.length) = some 0 := by decide +kernel
section
variable {p : Program} {l : Launch} {e : Env} {s : State} {m : MethodId} {args : Array Value} {below : List Frame} {meth : Method} {c : Code} {E : wE}
set_option maxRecDepth 100000 in
set_option maxHeartbeats 4000000 in
theorem pX9_hour (B : wB E p s m args meth c cX9_hour 1 RX9 (some .int)) {M : wMem}   {res : Int32 × wMem} (hf : fX9_hour M  = some res) {H : Heap} {locs : List Loc} {ls : Array Slot} (hW : wH E M H) (hS : va_S (wA E) s.heap H locs) (hl : lv_has ls 1 [(0, .ref (wad E 0))]) : W p l e ({ frames := 4, cells := 0, slots := 0, locals := 89 } : Room) s m args below meth c H locs 0 0 (MQ below (wQ E (some (.int res.1)) res.2) args s 0 0 (wA E)) (F0 m 0 ls []) := by
  unfold fX9_hour at hf
  obtain ⟨hx, hb, hr, hml, hown, hts, hlocks, hG, hV, hZ⟩ := id B
  refine lv_aload_n hx hb dX9_hour_0 rfl (lv_at hl 0 rfl) ?_
  refine wm_get hx hb hts wu_X9 hown hV hW (wlt_8 (rfl : wkd 0 = 8)) (wen_8 (rfl : wkd 0 = 8)) (C := RX9) (T := TX9) (N := 10) rfl 0 (by decide) (hts _ wA_231) rfl dX9_hour_1 ?_
  refine wm_get hx hb hts wu_X5 hown hV hW (wlt_4 (rfl : wkd 1 = 4)) (wen_4 (rfl : wkd 1 = 4)) (C := RX5) (T := TX5) (N := 4) rfl 3 (by decide) (hts _ wA_123) rfl dX9_hour_4 ?_
  refine lv_sipush (v := 9999) hx hb dX9_hour_7 (by decide) ?_
  rcases wif_e hf with ⟨hq1, hf⟩ | ⟨hq1, hf⟩
  · refine lv_icmp_lt (tgt := 20) hx hb dX9_hour_10 (by decide) (fun _ => ?_) (fun h => absurd hq1 h)
    refine lv_aload_n hx hb dX9_hour_20 rfl (lv_at hl 0 rfl) ?_
    refine wm_get hx hb hts wu_X9 hown hV hW (wlt_8 (rfl : wkd 0 = 8)) (wen_8 (rfl : wkd 0 = 8)) (C := RX9) (T := TX9) (N := 10) rfl 0 (by decide) (hts _ wA_231) rfl dX9_hour_21 ?_
    obtain ⟨r3, M4, hc2, hf⟩ := wbind_p hf
    refine wc_V (As := []) (rest := []) hx hb hml hown hts hG hV hZ (wlt_4 (rfl : wkd 1 = 4)) (q := (RX5, TX5, 4)) (wen_4 (rfl : wkd 1 = 4)) rfl (cX5_passHour_ok l E M 1 (rfl : wkd 1 = 4) hc2) (cwV 0 hts gl_X9_142 rfl rfl rfl cdX5_passHour ⟨Nat.le_of_ble_eq_true rfl, Nat.le_of_ble_eq_true rfl⟩) rfl hl.1 rfl (Nat.le_of_ble_eq_true rfl) dX9_hour_24 ⟨Nat.zero_le _, Nat.zero_le _⟩ hW hS rfl (fun H locs hW hS => ?_)
    have hres := Option.some.inj hf
    subst hres
    exact W.iret hx hb hr (wr_q hG hV hZ hW hS) hS.2.2 dX9_hour_27
  · refine lv_icmp_lt (tgt := 20) hx hb dX9_hour_10 (by decide) (fun h => absurd h hq1) (fun _ => ?_)
    refine lv_aload_n hx hb dX9_hour_13 rfl (lv_at hl 0 rfl) ?_
    refine lv_bipush (v := (-6)) hx hb dX9_hour_14 (by decide) ?_
    obtain ⟨r6, M7, hc5, hf⟩ := wbind_p hf
    refine wc_V (As := [.int (-6)]) (rest := []) hx hb hml hown hts hG hV hZ (wlt_8 (rfl : wkd 0 = 8)) (q := (RX9, TX9, 10)) (wen_8 (rfl : wkd 0 = 8)) rfl (cX9_refuse_ok l E M (-6) hc5) (cwV 1 hts gl_X9_65 rfl rfl rfl cdX9_refuse ⟨Nat.le_of_ble_eq_true rfl, Nat.le_of_ble_eq_true rfl⟩) rfl hl.1 rfl (Nat.le_of_ble_eq_true rfl) dX9_hour_16 ⟨Nat.zero_le _, Nat.zero_le _⟩ hW hS rfl (fun H locs hW hS => ?_)
    have hres := Option.some.inj hf
    subst hres
    exact W.iret hx hb hr (wr_q hG hV hZ hW hS) hS.2.2 dX9_hour_19
theorem cX9_hour_ok (l : Launch) (E : wE) (M : wMem)  {res : Int32 × wMem} (hf : fX9_hour M  = some res) : wMet l yX9_hour (wsM yX9_hour cX9_hour 1 (some .int)) ({ frames := 4, cells := 0, slots := 0, locals := 89 } : Room) E M [.ref (wad E 0)] (some (.int res.1)) res.2 :=
  wc_of (cc := cX9_hour) (maxL := 1) (ret := (some .int)) (by decide) (Nat.le_of_ble_eq_true rfl) (fun _ _ _ _ _ _ _ _ B hW hl => pX9_hour B  hf hW va_S.rf hl)
end
theorem cdX9_asNumber : yX9_asNumber.cls ≠ "java/lang/invoke/MethodHandle" ∧ yX9_asNumber.cls ≠ "java/lang/invoke/VarHandle" ∧ (parseMethodDescriptor yX9_asNumber.desc).map (fun d => d.parameters.length) = some 1 := by decide +kernel
section
variable {p : Program} {l : Launch} {e : Env} {s : State} {m : MethodId} {args : Array Value} {below : List Frame} {meth : Method} {c : Code} {E : wE}
set_option maxRecDepth 100000 in
set_option maxHeartbeats 4000000 in
theorem pX9_asNumber (B : wB E p s m args meth c cX9_asNumber 1 RX9 (some .int)) {M : wMem} {a0 : Int32}  {res : Int32} (hf : fX9_asNumber M a0 = some res) {H : Heap} {locs : List Loc} {ls : Array Slot} (hW : wH E M H) (hS : va_S (wA E) s.heap H locs) (hl : lv_has ls 1 [(0, .int a0)]) : W p l e ({ frames := 0, cells := 0, slots := 0, locals := 0 } : Room) s m args below meth c H locs 0 0 (MQ below (wQ E (some (.int res)) M) args s 0 0 (wA E)) (F0 m 0 ls []) := by
  unfold fX9_asNumber at hf
  obtain ⟨hx, hb, hr, hml, hown, hts, hlocks, hG, hV, hZ⟩ := id B
  refine lv_iload_n hx hb dX9_asNumber_0 rfl (lv_at hl 0 rfl) ?_
  rcases wif_e hf with ⟨hq1, hf⟩ | ⟨hq1, hf⟩
  · refine lv_if_eq (tgt := 8) hx hb dX9_asNumber_1 (by decide) (fun _ => ?_) (fun h => absurd hq1 h)
    refine lv_iconst (v := 0) hx hb dX9_asNumber_8 rfl ?_
    have hres := Option.some.inj hf
    subst hres
    exact W.iret hx hb hr (wr_q hG hV hZ hW hS) hS.2.2 dX9_asNumber_9
  · refine lv_if_eq (tgt := 8) hx hb dX9_asNumber_1 (by decide) (fun h => absurd h hq1) (fun _ => ?_)
    refine lv_iconst (v := 1) hx hb dX9_asNumber_4 rfl ?_
    refine lv_goto (tgt := 9) hx hb dX9_asNumber_5 (by decide) ?_
    have hres := Option.some.inj hf
    subst hres
    exact W.iret hx hb hr (wr_q hG hV hZ hW hS) hS.2.2 dX9_asNumber_9
theorem cX9_asNumber_ok (l : Launch) (E : wE) (M : wMem) (a0 : Int32) {res : Int32} (hf : fX9_asNumber M a0 = some res) : wMet l yX9_asNumber (wsM yX9_asNumber cX9_asNumber 1 (some .int)) ({ frames := 0, cells := 0, slots := 0, locals := 0 } : Room) E M [.int a0] (some (.int res)) M :=
  wc_of (cc := cX9_asNumber) (maxL := 1) (ret := (some .int)) (by decide) (Nat.le_of_ble_eq_true rfl) (fun _ _ _ _ _ _ _ _ B hW hl => pX9_asNumber B  hf hW va_S.rf hl)
end
theorem cdX9_swap : yX9_swap.cls = RX9 ∧ yX9_swap.cls ≠ "java/lang/invoke/MethodHandle" ∧ yX9_swap.cls ≠ "java/lang/invoke/VarHandle" ∧ (parseMethodDescriptor yX9_swap.desc).map (fun d => d.parameters.length) = some 1 := by decide +kernel
section
variable {p : Program} {l : Launch} {e : Env} {s : State} {m : MethodId} {args : Array Value} {below : List Frame} {meth : Method} {c : Code} {E : wE}
set_option maxRecDepth 100000 in
set_option maxHeartbeats 4000000 in
theorem pX9_swap (B : wB E p s m args meth c cX9_swap 2 RX9 (some .int)) {M : wMem} {a1 : Int32}  {res : Int32 × wMem} (hf : fX9_swap M a1 = some res) {H : Heap} {locs : List Loc} {ls : Array Slot} (hW : wH E M H) (hS : va_S (wA E) s.heap H locs) (hl : lv_has ls 2 [(0, .ref (wad E 0)), (1, .int a1)]) : W p l e ({ frames := 3, cells := 0, slots := 0, locals := 63 } : Room) s m args below meth c H locs 0 0 (MQ below (wQ E (some (.int res.1)) res.2) args s 0 0 (wA E)) (F0 m 0 ls []) := by
  unfold fX9_swap at hf
  obtain ⟨hx, hb, hr, hml, hown, hts, hlocks, hG, hV, hZ⟩ := id B
  refine lv_aload_n hx hb dX9_swap_0 rfl (lv_at hl 0 rfl) ?_
  refine wm_get hx hb hts wu_X9 hown hV hW (wlt_8 (rfl : wkd 0 = 8)) (wen_8 (rfl : wkd 0 = 8)) (C := RX9) (T := TX9) (N := 10) rfl 0 (by decide) (hts _ wA_231) rfl dX9_swap_1 ?_
  refine lv_iload_n hx hb dX9_swap_4 rfl (lv_at hl 1 rfl) ?_
  obtain ⟨r2, hc1, hf⟩ := wbind_e hf
  refine wc_V (As := [.int a1]) (rest := []) hx hb hml hown hts hG hV hZ (wlt_4 (rfl : wkd 1 = 4)) (q := (RX5, TX5, 4)) (wen_4 (rfl : wkd 1 = 4)) rfl (cX5_has_ok l E M 1 (rfl : wkd 1 = 4) a1 hc1) (cwV 1 hts gl_X9_93 rfl rfl rfl cdX5_has ⟨Nat.le_of_ble_eq_true rfl, Nat.le_of_ble_eq_true rfl⟩) rfl hl.1 rfl (Nat.le_of_ble_eq_true rfl) dX9_swap_5 ⟨Nat.zero_le _, Nat.zero_le _⟩ hW hS rfl (fun H locs hW hS => ?_)
  rcases wif_e hf with ⟨hq3, hf⟩ | ⟨hq3, hf⟩
  · refine lv_if_ne (tgt := 17) hx hb dX9_swap_8 (by decide) (fun h => absurd hq3 h) (fun _ => ?_)
    refine lv_aload_n hx hb dX9_swap_11 rfl (lv_at hl 0 rfl) ?_
    refine lv_iconst (v := (-1)) hx hb dX9_swap_12 rfl ?_
    obtain ⟨r21, M22, hc20, hf⟩ := wbind_p hf
    refine wc_V (As := [.int (-1)]) (rest := []) hx hb hml hown hts hG hV hZ (wlt_8 (rfl : wkd 0 = 8)) (q := (RX9, TX9, 10)) (wen_8 (rfl : wkd 0 = 8)) rfl (cX9_refuse_ok l E M (-1) hc20) (cwV 1 hts gl_X9_65 rfl rfl rfl cdX9_refuse ⟨Nat.le_of_ble_eq_true rfl, Nat.le_of_ble_eq_true rfl⟩) rfl hl.1 rfl (Nat.le_of_ble_eq_true rfl) dX9_swap_13 ⟨Nat.zero_le _, Nat.zero_le _⟩ hW hS rfl (fun H locs hW hS => ?_)
    have hres := Option.some.inj hf
    subst hres
    exact W.iret hx hb hr (wr_q hG hV hZ hW hS) hS.2.2 dX9_swap_16
  · refine lv_if_ne (tgt := 17) hx hb dX9_swap_8 (by decide) (fun _ => ?_) (fun h => absurd h hq3)
    refine lv_aload_n hx hb dX9_swap_17 rfl (lv_at hl 0 rfl) ?_
    refine wm_get hx hb hts wu_X9 hown hV hW (wlt_8 (rfl : wkd 0 = 8)) (wen_8 (rfl : wkd 0 = 8)) (C := RX9) (T := TX9) (N := 10) rfl 0 (by decide) (hts _ wA_231) rfl dX9_swap_18 ?_
    refine wm_get hx hb hts wu_X5 hown hV hW (wlt_4 (rfl : wkd 1 = 4)) (wen_4 (rfl : wkd 1 = 4)) (C := RX5) (T := TX5) (N := 4) rfl 1 (by decide) (hts _ wA_116) rfl dX9_swap_21 ?_
    refine lv_iconst (v := 1) hx hb dX9_swap_24 rfl ?_
    obtain ⟨hi4, hf⟩ := wgi_e hf
    refine wm_iald hx hb hV hW (rfl : wkd 3 = 21) (n := 4) rfl hi4 dX9_swap_25 ?_
    rcases wif_e hf with ⟨hq5, hf⟩ | ⟨hq5, hf⟩
    · refine lv_if_gt (tgt := 36) hx hb dX9_swap_26 (by decide) (fun _ => ?_) (fun h => absurd hq5 h)
      refine lv_aload_n hx hb dX9_swap_36 rfl (lv_at hl 0 rfl) ?_
      refine wm_get hx hb hts wu_X9 hown hV hW (wlt_8 (rfl : wkd 0 = 8)) (wen_8 (rfl : wkd 0 = 8)) (C := RX9) (T := TX9) (N := 10) rfl 0 (by decide) (hts _ wA_231) rfl dX9_swap_37 ?_
      refine wm_get hx hb hts wu_X5 hown hV hW (wlt_4 (rfl : wkd 1 = 4)) (wen_4 (rfl : wkd 1 = 4)) (C := RX5) (T := TX5) (N := 4) rfl 1 (by decide) (hts _ wA_116) rfl dX9_swap_40 ?_
      refine lv_iconst (v := 1) hx hb dX9_swap_43 rfl ?_
      refine lv_dup2_11 hx hb dX9_swap_44 rfl rfl ?_
      obtain ⟨hi6, hf⟩ := wgi_e hf
      refine wm_iald hx hb hV hW (rfl : wkd 3 = 21) (n := 4) rfl hi6 dX9_swap_45 ?_
      refine lv_iconst (v := 1) hx hb dX9_swap_46 rfl ?_
      refine lv_isub hx hb dX9_swap_47 ?_
      obtain ⟨hi7, hf⟩ := wgi_e hf
      refine wm_iast hx hb hG hV hW hS (rfl : wkd 3 = 21) (n := 4) rfl hi7 dX9_swap_48 (fun H locs hW hS => ?_)
      obtain ⟨M8, hW, hf⟩ := wlet_M hW hf
      refine lv_aload_n hx hb dX9_swap_49 rfl (lv_at hl 0 rfl) ?_
      refine wm_get hx hb hts wu_X9 hown hV hW (wlt_8 (rfl : wkd 0 = 8)) (wen_8 (rfl : wkd 0 = 8)) (C := RX9) (T := TX9) (N := 10) rfl 0 (by decide) (hts _ wA_231) rfl dX9_swap_50 ?_
      refine wm_get hx hb hts wu_X5 hown hV hW (wlt_4 (rfl : wkd 1 = 4)) (wen_4 (rfl : wkd 1 = 4)) (C := RX5) (T := TX5) (N := 4) rfl 0 (by decide) (hts _ wA_112) rfl dX9_swap_53 ?_
      refine lv_iload_n hx hb dX9_swap_56 rfl (lv_at hl 1 rfl) ?_
      obtain ⟨hi9, hf⟩ := wgi_e hf
      refine wm_aldL hx hb hV hW (rfl : wkd 2 = 22) hi9 dX9_swap_57 ?_
      obtain ⟨M12, hc10, hf⟩ := wbind_e hf
      refine wc_V (As := []) (rest := []) hx hb hml hown hts hG hV hZ (wlt_0 (wk22_i (rfl : wkd 2 = 22) hi9)) (q := (RX1, TX1, 5)) (wen_0 (wk22_i (rfl : wkd 2 = 22) hi9)) rfl (cX1_putAnew_ok l E M8 (2 + 2 + Int32.toNatClampNeg a1) (wk22_i (rfl : wkd 2 = 22) hi9) hc10) (cwV 0 hts gl_X9_145 rfl rfl rfl cdX1_putAnew ⟨Nat.le_of_ble_eq_true rfl, Nat.le_of_ble_eq_true rfl⟩) rfl hl.1 rfl (Nat.le_of_ble_eq_true rfl) dX9_swap_58 ⟨Nat.zero_le _, Nat.zero_le _⟩ hW hS rfl (fun H locs hW hS => ?_)
      refine lv_aload_n hx hb dX9_swap_61 rfl (lv_at hl 0 rfl) ?_
      refine wm_get hx hb hts wu_X9 hown hV hW (wlt_8 (rfl : wkd 0 = 8)) (wen_8 (rfl : wkd 0 = 8)) (C := RX9) (T := TX9) (N := 10) rfl 0 (by decide) (hts _ wA_231) rfl dX9_swap_62 ?_
      obtain ⟨r14, hc13, hf⟩ := wbind_e hf
      refine wc_V (As := []) (rest := []) hx hb hml hown hts hG hV hZ (wlt_4 (rfl : wkd 1 = 4)) (q := (RX5, TX5, 4)) (wen_4 (rfl : wkd 1 = 4)) rfl (cX5_isLive_ok l E M12 1 (rfl : wkd 1 = 4) hc13) (cwV 0 hts gl_X9_148 rfl rfl rfl cdX5_isLive ⟨Nat.le_of_ble_eq_true rfl, Nat.le_of_ble_eq_true rfl⟩) rfl hl.1 rfl (Nat.le_of_ble_eq_true rfl) dX9_swap_65 ⟨Nat.zero_le _, Nat.zero_le _⟩ hW hS rfl (fun H locs hW hS => ?_)
      obtain ⟨r16, hc15, hf⟩ := wbind_e hf
      refine wc_S (As := [.int (wb r14)]) (rest := []) hx hb hml hown hts hG hV hZ (cX9_asNumber_ok l E M12 (wb r14) hc15) (va_cwS 1 hts gl_X9_152 rfl rfl rfl cdX9_asNumber ⟨Nat.le_of_ble_eq_true rfl, Nat.le_of_ble_eq_true rfl⟩) rfl hl.1 rfl (Nat.le_of_ble_eq_true rfl) dX9_swap_68 ⟨Nat.zero_le _, Nat.zero_le _⟩ hW hS rfl (fun H locs hW hS => ?_)
      have hres := Option.some.inj hf
      subst hres
      exact W.iret hx hb hr (wr_q hG hV hZ hW hS) hS.2.2 dX9_swap_71
    · refine lv_if_gt (tgt := 36) hx hb dX9_swap_26 (by decide) (fun h => absurd h hq5) (fun _ => ?_)
      refine lv_aload_n hx hb dX9_swap_29 rfl (lv_at hl 0 rfl) ?_
      refine lv_bipush (v := (-3)) hx hb dX9_swap_30 (by decide) ?_
      obtain ⟨r18, M19, hc17, hf⟩ := wbind_p hf
      refine wc_V (As := [.int (-3)]) (rest := []) hx hb hml hown hts hG hV hZ (wlt_8 (rfl : wkd 0 = 8)) (q := (RX9, TX9, 10)) (wen_8 (rfl : wkd 0 = 8)) rfl (cX9_refuse_ok l E M (-3) hc17) (cwV 1 hts gl_X9_65 rfl rfl rfl cdX9_refuse ⟨Nat.le_of_ble_eq_true rfl, Nat.le_of_ble_eq_true rfl⟩) rfl hl.1 rfl (Nat.le_of_ble_eq_true rfl) dX9_swap_32 ⟨Nat.zero_le _, Nat.zero_le _⟩ hW hS rfl (fun H locs hW hS => ?_)
      have hres := Option.some.inj hf
      subst hres
      exact W.iret hx hb hr (wr_q hG hV hZ hW hS) hS.2.2 dX9_swap_35
theorem cX9_swap_ok (l : Launch) (E : wE) (M : wMem) (a1 : Int32) {res : Int32 × wMem} (hf : fX9_swap M a1 = some res) : wMet l yX9_swap (wsM yX9_swap cX9_swap 2 (some .int)) ({ frames := 3, cells := 0, slots := 0, locals := 63 } : Room) E M [.ref (wad E 0), .int a1] (some (.int res.1)) res.2 :=
  wc_of (cc := cX9_swap) (maxL := 2) (ret := (some .int)) (by decide) (Nat.le_of_ble_eq_true rfl) (fun _ _ _ _ _ _ _ _ B hW hl => pX9_swap B  hf hW va_S.rf hl)
end
theorem cdX5_hasStretch : yX5_hasStretch.cls = RX5 ∧ yX5_hasStretch.cls ≠ "java/lang/invoke/MethodHandle" ∧ yX5_hasStretch.cls ≠ "java/lang/invoke/VarHandle" ∧ (parseMethodDescriptor yX5_hasStretch.desc).map (fun d => d.parameters.length) = some 2 := by decide +kernel
section
variable {p : Program} {l : Launch} {e : Env} {s : State} {m : MethodId} {args : Array Value} {below : List Frame} {meth : Method} {c : Code} {E : wE}
set_option maxRecDepth 100000 in
set_option maxHeartbeats 4000000 in
theorem pX5_hasStretch (B : wB E p s m args meth c cX5_hasStretch 3 RX5 (some .boolean)) {M : wMem} {k0 : Nat} {a1 : Int32} {a2 : Int32} (hk0 : wkd k0 = 4) {res : Bool} (hf : fX5_hasStretch M k0 a1 a2 = some res) {H : Heap} {locs : List Loc} {ls : Array Slot} (hW : wH E M H) (hS : va_S (wA E) s.heap H locs) (hl : lv_has ls 3 [(0, .ref (wad E k0)), (1, .int a1), (2, .int a2)]) : W p l e ({ frames := 1, cells := 0, slots := 0, locals := 21 } : Room) s m args below meth c H locs 0 0 (MQ below (wQ E (some (.int (wb res))) M) args s 0 0 (wA E)) (F0 m 0 ls []) := by
  unfold fX5_hasStretch at hf
  obtain ⟨hx, hb, hr, hml, hown, hts, hlocks, hG, hV, hZ⟩ := id B
  refine lv_aload_n hx hb dX5_hasStretch_0 rfl (lv_at hl 0 rfl) ?_
  refine lv_iload_n hx hb dX5_hasStretch_1 rfl (lv_at hl 1 rfl) ?_
  obtain ⟨r2, hc1, hf⟩ := wbind_e hf
  refine wc_V (As := [.int a1]) (rest := []) hx hb hml hown hts hG hV hZ (wlt_4 hk0) (q := (RX5, TX5, 4)) (wen_4 hk0) rfl (cX5_has_ok l E M k0 hk0 a1 hc1) (cwV 1 hts gl_X5_33 rfl rfl rfl cdX5_has ⟨Nat.le_of_ble_eq_true rfl, Nat.le_of_ble_eq_true rfl⟩) rfl hl.1 rfl (Nat.le_of_ble_eq_true rfl) dX5_hasStretch_2 ⟨Nat.zero_le _, Nat.zero_le _⟩ hW hS rfl (fun H locs hW hS => ?_)
  rcases wif_e hf with ⟨hq3, hf⟩ | ⟨hq3, hf⟩
  · refine lv_if_eq (tgt := 25) hx hb dX5_hasStretch_5 (by decide) (fun _ => ?_) (fun h => absurd hq3 h)
    refine lv_iconst (v := 0) hx hb dX5_hasStretch_25 rfl ?_
    have hres := Option.some.inj hf
    subst hres
    exact W.zret hx hb hr (wb_n false) (wr_q hG hV hZ hW hS) hS.2.2 dX5_hasStretch_26
  · refine lv_if_eq (tgt := 25) hx hb dX5_hasStretch_5 (by decide) (fun h => absurd h hq3) (fun _ => ?_)
    refine lv_aload_n hx hb dX5_hasStretch_8 rfl (lv_at hl 0 rfl) ?_
    refine lv_iload_n hx hb dX5_hasStretch_9 rfl (lv_at hl 2 rfl) ?_
    obtain ⟨r5, hc4, hf⟩ := wbind_e hf
    refine wc_V (As := [.int a2]) (rest := []) hx hb hml hown hts hG hV hZ (wlt_4 hk0) (q := (RX5, TX5, 4)) (wen_4 hk0) rfl (cX5_has_ok l E M k0 hk0 a2 hc4) (cwV 1 hts gl_X5_33 rfl rfl rfl cdX5_has ⟨Nat.le_of_ble_eq_true rfl, Nat.le_of_ble_eq_true rfl⟩) rfl hl.1 rfl (Nat.le_of_ble_eq_true rfl) dX5_hasStretch_10 ⟨Nat.zero_le _, Nat.zero_le _⟩ hW hS rfl (fun H locs hW hS => ?_)
    rcases wif_e hf with ⟨hq6, hf⟩ | ⟨hq6, hf⟩
    · refine lv_if_eq (tgt := 25) hx hb dX5_hasStretch_13 (by decide) (fun _ => ?_) (fun h => absurd hq6 h)
      refine lv_iconst (v := 0) hx hb dX5_hasStretch_25 rfl ?_
      have hres := Option.some.inj hf
      subst hres
      exact W.zret hx hb hr (wb_n false) (wr_q hG hV hZ hW hS) hS.2.2 dX5_hasStretch_26
    · refine lv_if_eq (tgt := 25) hx hb dX5_hasStretch_13 (by decide) (fun h => absurd h hq6) (fun _ => ?_)
      refine lv_iload_n hx hb dX5_hasStretch_16 rfl (lv_at hl 1 rfl) ?_
      refine lv_iload_n hx hb dX5_hasStretch_17 rfl (lv_at hl 2 rfl) ?_
      rcases wif_e hf with ⟨hq7, hf⟩ | ⟨hq7, hf⟩
      · refine lv_icmp_gt (tgt := 25) hx hb dX5_hasStretch_18 (by decide) (fun _ => ?_) (fun h => absurd hq7 h)
        refine lv_iconst (v := 0) hx hb dX5_hasStretch_25 rfl ?_
        have hres := Option.some.inj hf
        subst hres
        exact W.zret hx hb hr (wb_n false) (wr_q hG hV hZ hW hS) hS.2.2 dX5_hasStretch_26
      · refine lv_icmp_gt (tgt := 25) hx hb dX5_hasStretch_18 (by decide) (fun h => absurd h hq7) (fun _ => ?_)
        refine lv_iconst (v := 1) hx hb dX5_hasStretch_21 rfl ?_
        refine lv_goto (tgt := 26) hx hb dX5_hasStretch_22 (by decide) ?_
        have hres := Option.some.inj hf
        subst hres
        exact W.zret hx hb hr (wb_n true) (wr_q hG hV hZ hW hS) hS.2.2 dX5_hasStretch_26
theorem cX5_hasStretch_ok (l : Launch) (E : wE) (M : wMem) (k0 : Nat) (hk0 : wkd k0 = 4) (a1 : Int32) (a2 : Int32) {res : Bool} (hf : fX5_hasStretch M k0 a1 a2 = some res) : wMet l yX5_hasStretch (wsM yX5_hasStretch cX5_hasStretch 3 (some .boolean)) ({ frames := 1, cells := 0, slots := 0, locals := 21 } : Room) E M [.ref (wad E k0), .int a1, .int a2] (some (.int (wb res))) M :=
  wc_of (cc := cX5_hasStretch) (maxL := 3) (ret := (some .boolean)) (by decide) (Nat.le_of_ble_eq_true rfl) (fun _ _ _ _ _ _ _ _ B hW hl => pX5_hasStretch B hk0 hf hW va_S.rf hl)
end
theorem cdX9_meter : yX9_meter.cls = RX9 ∧ yX9_meter.cls ≠ "java/lang/invoke/MethodHandle" ∧ yX9_meter.cls ≠ "java/lang/invoke/VarHandle" ∧ (parseMethodDescriptor yX9_meter.desc).map (fun d => d.parameters.length) = some 2 := by decide +kernel
section
variable {p : Program} {l : Launch} {e : Env} {s : State} {m : MethodId} {args : Array Value} {below : List Frame} {meth : Method} {c : Code} {E : wE}
set_option maxRecDepth 100000 in
set_option maxHeartbeats 4000000 in
theorem pX9_meter (B : wB E p s m args meth c cX9_meter 3 RX9 (some .int)) {M : wMem} {a1 : Int32} {a2 : Int32}  {res : Int32 × wMem} (hf : fX9_meter M a1 a2 = some res) {H : Heap} {locs : List Loc} {ls : Array Slot} (hW : wH E M H) (hS : va_S (wA E) s.heap H locs) (hl : lv_has ls 3 [(0, .ref (wad E 0)), (1, .int a1), (2, .int a2)]) : W p l e ({ frames := 2, cells := 0, slots := 0, locals := 43 } : Room) s m args below meth c H locs 0 0 (MQ below (wQ E (some (.int res.1)) res.2) args s 0 0 (wA E)) (F0 m 0 ls []) := by
  unfold fX9_meter at hf
  obtain ⟨hx, hb, hr, hml, hown, hts, hlocks, hG, hV, hZ⟩ := id B
  refine lv_aload_n hx hb dX9_meter_0 rfl (lv_at hl 0 rfl) ?_
  refine wm_get hx hb hts wu_X9 hown hV hW (wlt_8 (rfl : wkd 0 = 8)) (wen_8 (rfl : wkd 0 = 8)) (C := RX9) (T := TX9) (N := 10) rfl 0 (by decide) (hts _ wA_231) rfl dX9_meter_1 ?_
  refine lv_iload_n hx hb dX9_meter_4 rfl (lv_at hl 1 rfl) ?_
  refine lv_iload_n hx hb dX9_meter_5 rfl (lv_at hl 2 rfl) ?_
  obtain ⟨r2, hc1, hf⟩ := wbind_e hf
  refine wc_V (As := [.int a1, .int a2]) (rest := []) hx hb hml hown hts hG hV hZ (wlt_4 (rfl : wkd 1 = 4)) (q := (RX5, TX5, 4)) (wen_4 (rfl : wkd 1 = 4)) rfl (cX5_hasStretch_ok l E M 1 (rfl : wkd 1 = 4) a1 a2 hc1) (cwV 2 hts gl_X9_156 rfl rfl rfl cdX5_hasStretch ⟨Nat.le_of_ble_eq_true rfl, Nat.le_of_ble_eq_true rfl⟩) rfl hl.1 rfl (Nat.le_of_ble_eq_true rfl) dX9_meter_6 ⟨Nat.zero_le _, Nat.zero_le _⟩ hW hS rfl (fun H locs hW hS => ?_)
  rcases wif_e hf with ⟨hq3, hf⟩ | ⟨hq3, hf⟩
  · refine lv_if_ne (tgt := 18) hx hb dX9_meter_9 (by decide) (fun h => absurd hq3 h) (fun _ => ?_)
    refine lv_aload_n hx hb dX9_meter_12 rfl (lv_at hl 0 rfl) ?_
    refine lv_iconst (v := (-1)) hx hb dX9_meter_13 rfl ?_
    obtain ⟨r9, M10, hc8, hf⟩ := wbind_p hf
    refine wc_V (As := [.int (-1)]) (rest := []) hx hb hml hown hts hG hV hZ (wlt_8 (rfl : wkd 0 = 8)) (q := (RX9, TX9, 10)) (wen_8 (rfl : wkd 0 = 8)) rfl (cX9_refuse_ok l E M (-1) hc8) (cwV 1 hts gl_X9_65 rfl rfl rfl cdX9_refuse ⟨Nat.le_of_ble_eq_true rfl, Nat.le_of_ble_eq_true rfl⟩) rfl hl.1 rfl (Nat.le_of_ble_eq_true rfl) dX9_meter_14 ⟨Nat.zero_le _, Nat.zero_le _⟩ hW hS rfl (fun H locs hW hS => ?_)
    have hres := Option.some.inj hf
    subst hres
    exact W.iret hx hb hr (wr_q hG hV hZ hW hS) hS.2.2 dX9_meter_17
  · refine lv_if_ne (tgt := 18) hx hb dX9_meter_9 (by decide) (fun _ => ?_) (fun h => absurd h hq3)
    refine lv_aload_n hx hb dX9_meter_18 rfl (lv_at hl 0 rfl) ?_
    refine wm_get hx hb hts wu_X9 hown hV hW (wlt_8 (rfl : wkd 0 = 8)) (wen_8 (rfl : wkd 0 = 8)) (C := RX9) (T := TX9) (N := 10) rfl 0 (by decide) (hts _ wA_231) rfl dX9_meter_19 ?_
    refine lv_iload_n hx hb dX9_meter_22 rfl (lv_at hl 1 rfl) ?_
    refine lv_iload_n hx hb dX9_meter_23 rfl (lv_at hl 2 rfl) ?_
    obtain ⟨r5, hc4, hf⟩ := wbind_e hf
    refine wc_V (As := [.int a1, .int a2]) (rest := []) hx hb hml hown hts hG hV hZ (wlt_4 (rfl : wkd 1 = 4)) (q := (RX5, TX5, 4)) (wen_4 (rfl : wkd 1 = 4)) rfl (cX5_isWhole_ok l E M 1 (rfl : wkd 1 = 4) a1 a2 hc4) (cwV 2 hts gl_X9_160 rfl rfl rfl cdX5_isWhole ⟨Nat.le_of_ble_eq_true rfl, Nat.le_of_ble_eq_true rfl⟩) rfl hl.1 rfl (Nat.le_of_ble_eq_true rfl) dX9_meter_24 ⟨Nat.zero_le _, Nat.zero_le _⟩ hW hS rfl (fun H locs hW hS => ?_)
    obtain ⟨r7, hc6, hf⟩ := wbind_e hf
    refine wc_S (As := [.int (wb r5)]) (rest := []) hx hb hml hown hts hG hV hZ (cX9_asNumber_ok l E M (wb r5) hc6) (va_cwS 1 hts gl_X9_152 rfl rfl rfl cdX9_asNumber ⟨Nat.le_of_ble_eq_true rfl, Nat.le_of_ble_eq_true rfl⟩) rfl hl.1 rfl (Nat.le_of_ble_eq_true rfl) dX9_meter_27 ⟨Nat.zero_le _, Nat.zero_le _⟩ hW hS rfl (fun H locs hW hS => ?_)
    have hres := Option.some.inj hf
    subst hres
    exact W.iret hx hb hr (wr_q hG hV hZ hW hS) hS.2.2 dX9_meter_30
theorem cX9_meter_ok (l : Launch) (E : wE) (M : wMem) (a1 : Int32) (a2 : Int32) {res : Int32 × wMem} (hf : fX9_meter M a1 a2 = some res) : wMet l yX9_meter (wsM yX9_meter cX9_meter 3 (some .int)) ({ frames := 2, cells := 0, slots := 0, locals := 43 } : Room) E M [.ref (wad E 0), .int a1, .int a2] (some (.int res.1)) res.2 :=
  wc_of (cc := cX9_meter) (maxL := 3) (ret := (some .int)) (by decide) (Nat.le_of_ble_eq_true rfl) (fun _ _ _ _ _ _ _ _ B hW hl => pX9_meter B  hf hW va_S.rf hl)
end
theorem cdX9_finder : yX9_finder.cls = RX9 ∧ yX9_finder.cls ≠ "java/lang/invoke/MethodHandle" ∧ yX9_finder.cls ≠ "java/lang/invoke/VarHandle" ∧ (parseMethodDescriptor yX9_finder.desc).map (fun d => d.parameters.length) = some 1 := by decide +kernel
section
variable {p : Program} {l : Launch} {e : Env} {s : State} {m : MethodId} {args : Array Value} {below : List Frame} {meth : Method} {c : Code} {E : wE}
set_option maxRecDepth 100000 in
set_option maxHeartbeats 4000000 in
theorem pX9_finder (B : wB E p s m args meth c cX9_finder 2 RX9 (some .int)) {M : wMem} {a1 : Int32}  {res : Int32 × wMem} (hf : fX9_finder M a1 = some res) {H : Heap} {locs : List Loc} {ls : Array Slot} (hW : wH E M H) (hS : va_S (wA E) s.heap H locs) (hl : lv_has ls 2 [(0, .ref (wad E 0)), (1, .int a1)]) : W p l e ({ frames := 2, cells := 0, slots := 0, locals := 43 } : Room) s m args below meth c H locs 0 0 (MQ below (wQ E (some (.int res.1)) res.2) args s 0 0 (wA E)) (F0 m 0 ls []) := by
  unfold fX9_finder at hf
  obtain ⟨hx, hb, hr, hml, hown, hts, hlocks, hG, hV, hZ⟩ := id B
  refine lv_aload_n hx hb dX9_finder_0 rfl (lv_at hl 0 rfl) ?_
  refine wm_get hx hb hts wu_X9 hown hV hW (wlt_8 (rfl : wkd 0 = 8)) (wen_8 (rfl : wkd 0 = 8)) (C := RX9) (T := TX9) (N := 10) rfl 0 (by decide) (hts _ wA_231) rfl dX9_finder_1 ?_
  refine lv_iload_n hx hb dX9_finder_4 rfl (lv_at hl 1 rfl) ?_
  obtain ⟨r2, hc1, hf⟩ := wbind_e hf
  refine wc_V (As := [.int a1]) (rest := []) hx hb hml hown hts hG hV hZ (wlt_4 (rfl : wkd 1 = 4)) (q := (RX5, TX5, 4)) (wen_4 (rfl : wkd 1 = 4)) rfl (cX5_has_ok l E M 1 (rfl : wkd 1 = 4) a1 hc1) (cwV 1 hts gl_X9_93 rfl rfl rfl cdX5_has ⟨Nat.le_of_ble_eq_true rfl, Nat.le_of_ble_eq_true rfl⟩) rfl hl.1 rfl (Nat.le_of_ble_eq_true rfl) dX9_finder_5 ⟨Nat.zero_le _, Nat.zero_le _⟩ hW hS rfl (fun H locs hW hS => ?_)
  rcases wif_e hf with ⟨hq3, hf⟩ | ⟨hq3, hf⟩
  · refine lv_if_ne (tgt := 17) hx hb dX9_finder_8 (by decide) (fun h => absurd hq3 h) (fun _ => ?_)
    refine lv_aload_n hx hb dX9_finder_11 rfl (lv_at hl 0 rfl) ?_
    refine lv_iconst (v := (-1)) hx hb dX9_finder_12 rfl ?_
    obtain ⟨r9, M10, hc8, hf⟩ := wbind_p hf
    refine wc_V (As := [.int (-1)]) (rest := []) hx hb hml hown hts hG hV hZ (wlt_8 (rfl : wkd 0 = 8)) (q := (RX9, TX9, 10)) (wen_8 (rfl : wkd 0 = 8)) rfl (cX9_refuse_ok l E M (-1) hc8) (cwV 1 hts gl_X9_65 rfl rfl rfl cdX9_refuse ⟨Nat.le_of_ble_eq_true rfl, Nat.le_of_ble_eq_true rfl⟩) rfl hl.1 rfl (Nat.le_of_ble_eq_true rfl) dX9_finder_13 ⟨Nat.zero_le _, Nat.zero_le _⟩ hW hS rfl (fun H locs hW hS => ?_)
    have hres := Option.some.inj hf
    subst hres
    exact W.iret hx hb hr (wr_q hG hV hZ hW hS) hS.2.2 dX9_finder_16
  · refine lv_if_ne (tgt := 17) hx hb dX9_finder_8 (by decide) (fun _ => ?_) (fun h => absurd h hq3)
    refine lv_aload_n hx hb dX9_finder_17 rfl (lv_at hl 0 rfl) ?_
    refine wm_get hx hb hts wu_X9 hown hV hW (wlt_8 (rfl : wkd 0 = 8)) (wen_8 (rfl : wkd 0 = 8)) (C := RX9) (T := TX9) (N := 10) rfl 0 (by decide) (hts _ wA_231) rfl dX9_finder_18 ?_
    refine lv_iconst (v := 0) hx hb dX9_finder_21 rfl ?_
    refine lv_iload_n hx hb dX9_finder_22 rfl (lv_at hl 1 rfl) ?_
    refine lv_iconst (v := 1) hx hb dX9_finder_23 rfl ?_
    refine lv_isub hx hb dX9_finder_24 ?_
    obtain ⟨r5, hc4, hf⟩ := wbind_e hf
    refine wc_V (As := [.int 0, .int (a1 - 1)]) (rest := []) hx hb hml hown hts hG hV hZ (wlt_4 (rfl : wkd 1 = 4)) (q := (RX5, TX5, 4)) (wen_4 (rfl : wkd 1 = 4)) rfl (cX5_isWhole_ok l E M 1 (rfl : wkd 1 = 4) 0 (a1 - 1) hc4) (cwV 2 hts gl_X9_160 rfl rfl rfl cdX5_isWhole ⟨Nat.le_of_ble_eq_true rfl, Nat.le_of_ble_eq_true rfl⟩) rfl hl.1 rfl (Nat.le_of_ble_eq_true rfl) dX9_finder_25 ⟨Nat.zero_le _, Nat.zero_le _⟩ hW hS rfl (fun H locs hW hS => ?_)
    obtain ⟨r7, hc6, hf⟩ := wbind_e hf
    refine wc_S (As := [.int (wb r5)]) (rest := []) hx hb hml hown hts hG hV hZ (cX9_asNumber_ok l E M (wb r5) hc6) (va_cwS 1 hts gl_X9_152 rfl rfl rfl cdX9_asNumber ⟨Nat.le_of_ble_eq_true rfl, Nat.le_of_ble_eq_true rfl⟩) rfl hl.1 rfl (Nat.le_of_ble_eq_true rfl) dX9_finder_28 ⟨Nat.zero_le _, Nat.zero_le _⟩ hW hS rfl (fun H locs hW hS => ?_)
    have hres := Option.some.inj hf
    subst hres
    exact W.iret hx hb hr (wr_q hG hV hZ hW hS) hS.2.2 dX9_finder_31
theorem cX9_finder_ok (l : Launch) (E : wE) (M : wMem) (a1 : Int32) {res : Int32 × wMem} (hf : fX9_finder M a1 = some res) : wMet l yX9_finder (wsM yX9_finder cX9_finder 2 (some .int)) ({ frames := 2, cells := 0, slots := 0, locals := 43 } : Room) E M [.ref (wad E 0), .int a1] (some (.int res.1)) res.2 :=
  wc_of (cc := cX9_finder) (maxL := 2) (ret := (some .int)) (by decide) (Nat.le_of_ble_eq_true rfl) (fun _ _ _ _ _ _ _ _ B hW hl => pX9_finder B  hf hW va_S.rf hl)
end
theorem cdX1_touchWith : yX1_touchWith.cls = RX1 ∧ yX1_touchWith.cls ≠ "java/lang/invoke/MethodHandle" ∧ yX1_touchWith.cls ≠ "java/lang/invoke/VarHandle" ∧ (parseMethodDescriptor yX1_touchWith.desc).map (fun d => d.parameters.length) = some 1 := by decide +kernel
section
variable {p : Program} {l : Launch} {e : Env} {s : State} {m : MethodId} {args : Array Value} {below : List Frame} {meth : Method} {c : Code} {E : wE}
set_option maxRecDepth 100000 in
set_option maxHeartbeats 4000000 in
theorem pX1_touchWith (B : wB E p s m args meth c cX1_touchWith 2 RX1 none) {M : wMem} {k0 : Nat} {a1 : Int32} (hk0 : wkd k0 = 0) {res : wMem} (hf : fX1_touchWith M k0 a1 = some res) {H : Heap} {locs : List Loc} {ls : Array Slot} (hW : wH E M H) (hS : va_S (wA E) s.heap H locs) (hl : lv_has ls 2 [(0, .ref (wad E k0)), (1, .int a1)]) : W p l e ({ frames := 1, cells := 0, slots := 0, locals := 20 } : Room) s m args below meth c H locs 0 0 (MQ below (wQ E none res) args s 0 0 (wA E)) (F0 m 0 ls []) := by
  unfold fX1_touchWith at hf
  obtain ⟨hx, hb, hr, hml, hown, hts, hlocks, hG, hV, hZ⟩ := id B
  refine lv_aload_n hx hb dX1_touchWith_0 rfl (lv_at hl 0 rfl) ?_
  refine wm_get hx hb hts wu_X1 hown hV hW (wlt_0 hk0) (wen_0 hk0) (C := RX1) (T := TX1) (N := 5) rfl 4 (by decide) (hts _ wA_94) rfl dX1_touchWith_1 ?_
  refine lv_iconst (v := 3) hx hb dX1_touchWith_4 rfl ?_
  rcases wif_e hf with ⟨hq1, hf⟩ | ⟨hq1, hf⟩
  · refine lv_icmp_ne (tgt := 16) hx hb dX1_touchWith_5 (by decide) (fun h => absurd hq1 h) (fun _ => ?_)
    refine lv_aload_n hx hb dX1_touchWith_8 rfl (lv_at hl 0 rfl) ?_
    refine lv_iconst (v := 0) hx hb dX1_touchWith_9 rfl ?_
    refine wm_put hx hb hts wu_X1 tyX1 tyX1_ok nmX1 hown hG hV hW hS (wlt_0 hk0) (wen_0 hk0) (C := RX1) (T := TX1) (N := 5) rfl 4 (by decide) (hts _ wA_94) rfl .int _ (tyX1_ok 4 (by decide)) rfl rfl (Nat.le_of_ble_eq_true rfl) (wpt_0_4 hk0) dX1_touchWith_10 (fun H locs hW hS => ?_)
    obtain ⟨M10, hW, hf⟩ := wlet_M hW hf
    refine lv_goto (tgt := 40) hx hb dX1_touchWith_13 (by decide) ?_
    have hres := Option.some.inj hf
    subst hres
    exact W.vret hx hb hr (wr_q hG hV hZ hW hS) hS.2.2 dX1_touchWith_40
  · refine lv_icmp_ne (tgt := 16) hx hb dX1_touchWith_5 (by decide) (fun _ => ?_) (fun h => absurd h hq1)
    refine lv_aload_n hx hb dX1_touchWith_16 rfl (lv_at hl 0 rfl) ?_
    obtain ⟨r3, hc2, hf⟩ := wbind_e hf
    refine wc_V (As := []) (rest := []) hx hb hml hown hts hG hV hZ (wlt_0 hk0) (q := (RX1, TX1, 5)) (wen_0 hk0) rfl (cX1_isWell_ok l E M k0 hk0 hc2) (cwV 0 hts gl_X1_30 rfl rfl rfl cdX1_isWell ⟨Nat.le_of_ble_eq_true rfl, Nat.le_of_ble_eq_true rfl⟩) rfl hl.1 rfl (Nat.le_of_ble_eq_true rfl) dX1_touchWith_17 ⟨Nat.zero_le _, Nat.zero_le _⟩ hW hS rfl (fun H locs hW hS => ?_)
    rcases wif_e hf with ⟨hq4, hf⟩ | ⟨hq4, hf⟩
    · refine lv_if_eq (tgt := 40) hx hb dX1_touchWith_20 (by decide) (fun _ => ?_) (fun h => absurd hq4 h)
      have hres := Option.some.inj hf
      subst hres
      exact W.vret hx hb hr (wr_q hG hV hZ hW hS) hS.2.2 dX1_touchWith_40
    · refine lv_if_eq (tgt := 40) hx hb dX1_touchWith_20 (by decide) (fun h => absurd h hq4) (fun _ => ?_)
      refine lv_aload_n hx hb dX1_touchWith_23 rfl (lv_at hl 0 rfl) ?_
      obtain ⟨r6, hc5, hf⟩ := wbind_e hf
      refine wc_V (As := []) (rest := []) hx hb hml hown hts hG hV hZ (wlt_0 hk0) (q := (RX1, TX1, 5)) (wen_0 hk0) rfl (cX1_isLoose_ok l E M k0 hk0 hc5) (cwV 0 hts gl_X1_41 rfl rfl rfl cdX1_isLoose ⟨Nat.le_of_ble_eq_true rfl, Nat.le_of_ble_eq_true rfl⟩) rfl hl.1 rfl (Nat.le_of_ble_eq_true rfl) dX1_touchWith_24 ⟨Nat.zero_le _, Nat.zero_le _⟩ hW hS rfl (fun H locs hW hS => ?_)
      rcases wif_e hf with ⟨hq7, hf⟩ | ⟨hq7, hf⟩
      · refine lv_if_eq (tgt := 40) hx hb dX1_touchWith_27 (by decide) (fun _ => ?_) (fun h => absurd hq7 h)
        have hres := Option.some.inj hf
        subst hres
        exact W.vret hx hb hr (wr_q hG hV hZ hW hS) hS.2.2 dX1_touchWith_40
      · refine lv_if_eq (tgt := 40) hx hb dX1_touchWith_27 (by decide) (fun h => absurd h hq7) (fun _ => ?_)
        refine lv_iload_n hx hb dX1_touchWith_30 rfl (lv_at hl 1 rfl) ?_
        refine lv_iconst (v := 3) hx hb dX1_touchWith_31 rfl ?_
        rcases wif_e hf with ⟨hq8, hf⟩ | ⟨hq8, hf⟩
        · refine lv_icmp_gt (tgt := 40) hx hb dX1_touchWith_32 (by decide) (fun _ => ?_) (fun h => absurd hq8 h)
          have hres := Option.some.inj hf
          subst hres
          exact W.vret hx hb hr (wr_q hG hV hZ hW hS) hS.2.2 dX1_touchWith_40
        · refine lv_icmp_gt (tgt := 40) hx hb dX1_touchWith_32 (by decide) (fun h => absurd h hq8) (fun _ => ?_)
          refine lv_aload_n hx hb dX1_touchWith_35 rfl (lv_at hl 0 rfl) ?_
          refine lv_iconst (v := 3) hx hb dX1_touchWith_36 rfl ?_
          refine wm_put hx hb hts wu_X1 tyX1 tyX1_ok nmX1 hown hG hV hW hS (wlt_0 hk0) (wen_0 hk0) (C := RX1) (T := TX1) (N := 5) rfl 4 (by decide) (hts _ wA_94) rfl .int _ (tyX1_ok 4 (by decide)) rfl rfl (Nat.le_of_ble_eq_true rfl) (wpt_0_4 hk0) dX1_touchWith_37 (fun H locs hW hS => ?_)
          obtain ⟨M9, hW, hf⟩ := wlet_M hW hf
          have hres := Option.some.inj hf
          subst hres
          exact W.vret hx hb hr (wr_q hG hV hZ hW hS) hS.2.2 dX1_touchWith_40
theorem cX1_touchWith_ok (l : Launch) (E : wE) (M : wMem) (k0 : Nat) (hk0 : wkd k0 = 0) (a1 : Int32) {res : wMem} (hf : fX1_touchWith M k0 a1 = some res) : wMet l yX1_touchWith (wsM yX1_touchWith cX1_touchWith 2 none) ({ frames := 1, cells := 0, slots := 0, locals := 20 } : Room) E M [.ref (wad E k0), .int a1] none res :=
  wc_of (cc := cX1_touchWith) (maxL := 2) (ret := none) (by decide) (Nat.le_of_ble_eq_true rfl) (fun _ _ _ _ _ _ _ _ B hW hl => pX1_touchWith B hk0 hf hW va_S.rf hl)
end
theorem cdX5_touchAt : yX5_touchAt.cls = RX5 ∧ yX5_touchAt.cls ≠ "java/lang/invoke/MethodHandle" ∧ yX5_touchAt.cls ≠ "java/lang/invoke/VarHandle" ∧ (parseMethodDescriptor yX5_touchAt.desc).map (fun d => d.parameters.length) = some 1 := by decide +kernel
section
variable {p : Program} {l : Launch} {e : Env} {s : State} {m : MethodId} {args : Array Value} {below : List Frame} {meth : Method} {c : Code} {E : wE}
set_option maxRecDepth 100000 in
set_option maxHeartbeats 4000000 in
theorem pX5_touchAt (B : wB E p s m args meth c cX5_touchAt 2 RX5 none) {M : wMem} {k0 : Nat} {a1 : Int32} (hk0 : wkd k0 = 4) {res : wMem} (hf : fX5_touchAt M k0 a1 = some res) {H : Heap} {locs : List Loc} {ls : Array Slot} (hW : wH E M H) (hS : va_S (wA E) s.heap H locs) (hl : lv_has ls 2 [(0, .ref (wad E k0)), (1, .int a1)]) : W p l e ({ frames := 2, cells := 0, slots := 0, locals := 41 } : Room) s m args below meth c H locs 0 0 (MQ below (wQ E none res) args s 0 0 (wA E)) (F0 m 0 ls []) := by
  unfold fX5_touchAt at hf
  obtain ⟨hx, hb, hr, hml, hown, hts, hlocks, hG, hV, hZ⟩ := id B
  refine lv_aload_n hx hb dX5_touchAt_0 rfl (lv_at hl 0 rfl) ?_
  refine lv_iload_n hx hb dX5_touchAt_1 rfl (lv_at hl 1 rfl) ?_
  obtain ⟨r2, hc1, hf⟩ := wbind_e hf
  refine wc_V (As := [.int a1]) (rest := []) hx hb hml hown hts hG hV hZ (wlt_4 hk0) (q := (RX5, TX5, 4)) (wen_4 hk0) rfl (cX5_has_ok l E M k0 hk0 a1 hc1) (cwV 1 hts gl_X5_33 rfl rfl rfl cdX5_has ⟨Nat.le_of_ble_eq_true rfl, Nat.le_of_ble_eq_true rfl⟩) rfl hl.1 rfl (Nat.le_of_ble_eq_true rfl) dX5_touchAt_2 ⟨Nat.zero_le _, Nat.zero_le _⟩ hW hS rfl (fun H locs hW hS => ?_)
  rcases wif_e hf with ⟨hq3, hf⟩ | ⟨hq3, hf⟩
  · refine lv_if_eq (tgt := 23) hx hb dX5_touchAt_5 (by decide) (fun _ => ?_) (fun h => absurd hq3 h)
    have hres := Option.some.inj hf
    subst hres
    exact W.vret hx hb hr (wr_q hG hV hZ hW hS) hS.2.2 dX5_touchAt_23
  · refine lv_if_eq (tgt := 23) hx hb dX5_touchAt_5 (by decide) (fun h => absurd h hq3) (fun _ => ?_)
    refine lv_aload_n hx hb dX5_touchAt_8 rfl (lv_at hl 0 rfl) ?_
    refine wm_get hx hb hts wu_X5 hown hV hW (wlt_4 hk0) (wen_4 hk0) (C := RX5) (T := TX5) (N := 4) rfl 0 (by decide) (hts _ wA_109) rfl dX5_touchAt_9 ?_
    refine lv_iload_n hx hb dX5_touchAt_12 rfl (lv_at hl 1 rfl) ?_
    obtain ⟨hi4, hf⟩ := wgi_e hf
    refine wm_aldL hx hb hV hW (wk4_1 hk0) hi4 dX5_touchAt_13 ?_
    refine lv_aload_n hx hb dX5_touchAt_14 rfl (lv_at hl 0 rfl) ?_
    refine wm_get hx hb hts wu_X5 hown hV hW (wlt_4 hk0) (wen_4 hk0) (C := RX5) (T := TX5) (N := 4) rfl 1 (by decide) (hts _ wA_115) rfl dX5_touchAt_15 ?_
    refine lv_iconst (v := 3) hx hb dX5_touchAt_18 rfl ?_
    obtain ⟨hi5, hf⟩ := wgi_e hf
    refine wm_iald hx hb hV hW (wk4_2 hk0) (n := 4) (wl4_2 hk0) hi5 dX5_touchAt_19 ?_
    obtain ⟨M8, hc6, hf⟩ := wbind_e hf
    refine wc_V (As := [.int (M (k0 + 2) (Int32.toNatClampNeg 3))]) (rest := []) hx hb hml hown hts hG hV hZ (wlt_0 (wk22_i (wk4_1 hk0) hi4)) (q := (RX1, TX1, 5)) (wen_0 (wk22_i (wk4_1 hk0) hi4)) rfl (cX1_touchWith_ok l E M ((k0 + 1) + 2 + Int32.toNatClampNeg a1) (wk22_i (wk4_1 hk0) hi4) (M (k0 + 2) (Int32.toNatClampNeg 3)) hc6) (cwV 1 hts gl_X5_121 rfl rfl rfl cdX1_touchWith ⟨Nat.le_of_ble_eq_true rfl, Nat.le_of_ble_eq_true rfl⟩) rfl hl.1 rfl (Nat.le_of_ble_eq_true rfl) dX5_touchAt_20 ⟨Nat.zero_le _, Nat.zero_le _⟩ hW hS rfl (fun H locs hW hS => ?_)
    have hres := Option.some.inj hf
    subst hres
    exact W.vret hx hb hr (wr_q hG hV hZ hW hS) hS.2.2 dX5_touchAt_23
theorem cX5_touchAt_ok (l : Launch) (E : wE) (M : wMem) (k0 : Nat) (hk0 : wkd k0 = 4) (a1 : Int32) {res : wMem} (hf : fX5_touchAt M k0 a1 = some res) : wMet l yX5_touchAt (wsM yX5_touchAt cX5_touchAt 2 none) ({ frames := 2, cells := 0, slots := 0, locals := 41 } : Room) E M [.ref (wad E k0), .int a1] none res :=
  wc_of (cc := cX5_touchAt) (maxL := 2) (ret := none) (by decide) (Nat.le_of_ble_eq_true rfl) (fun _ _ _ _ _ _ _ _ B hW hl => pX5_touchAt B hk0 hf hW va_S.rf hl)
end
theorem cdX9_touch : yX9_touch.cls = RX9 ∧ yX9_touch.cls ≠ "java/lang/invoke/MethodHandle" ∧ yX9_touch.cls ≠ "java/lang/invoke/VarHandle" ∧ (parseMethodDescriptor yX9_touch.desc).map (fun d => d.parameters.length) = some 1 := by decide +kernel
section
variable {p : Program} {l : Launch} {e : Env} {s : State} {m : MethodId} {args : Array Value} {below : List Frame} {meth : Method} {c : Code} {E : wE}
set_option maxRecDepth 100000 in
set_option maxHeartbeats 4000000 in
theorem pX9_touch (B : wB E p s m args meth c cX9_touch 2 RX9 (some .int)) {M : wMem} {a1 : Int32}  {res : Int32 × wMem} (hf : fX9_touch M a1 = some res) {H : Heap} {locs : List Loc} {ls : Array Slot} (hW : wH E M H) (hS : va_S (wA E) s.heap H locs) (hl : lv_has ls 2 [(0, .ref (wad E 0)), (1, .int a1)]) : W p l e ({ frames := 3, cells := 0, slots := 0, locals := 62 } : Room) s m args below meth c H locs 0 0 (MQ below (wQ E (some (.int res.1)) res.2) args s 0 0 (wA E)) (F0 m 0 ls []) := by
  unfold fX9_touch at hf
  obtain ⟨hx, hb, hr, hml, hown, hts, hlocks, hG, hV, hZ⟩ := id B
  refine lv_aload_n hx hb dX9_touch_0 rfl (lv_at hl 0 rfl) ?_
  refine wm_get hx hb hts wu_X9 hown hV hW (wlt_8 (rfl : wkd 0 = 8)) (wen_8 (rfl : wkd 0 = 8)) (C := RX9) (T := TX9) (N := 10) rfl 0 (by decide) (hts _ wA_231) rfl dX9_touch_1 ?_
  refine lv_iload_n hx hb dX9_touch_4 rfl (lv_at hl 1 rfl) ?_
  obtain ⟨r2, hc1, hf⟩ := wbind_e hf
  refine wc_V (As := [.int a1]) (rest := []) hx hb hml hown hts hG hV hZ (wlt_4 (rfl : wkd 1 = 4)) (q := (RX5, TX5, 4)) (wen_4 (rfl : wkd 1 = 4)) rfl (cX5_has_ok l E M 1 (rfl : wkd 1 = 4) a1 hc1) (cwV 1 hts gl_X9_93 rfl rfl rfl cdX5_has ⟨Nat.le_of_ble_eq_true rfl, Nat.le_of_ble_eq_true rfl⟩) rfl hl.1 rfl (Nat.le_of_ble_eq_true rfl) dX9_touch_5 ⟨Nat.zero_le _, Nat.zero_le _⟩ hW hS rfl (fun H locs hW hS => ?_)
  rcases wif_e hf with ⟨hq3, hf⟩ | ⟨hq3, hf⟩
  · refine lv_if_ne (tgt := 17) hx hb dX9_touch_8 (by decide) (fun h => absurd hq3 h) (fun _ => ?_)
    refine lv_aload_n hx hb dX9_touch_11 rfl (lv_at hl 0 rfl) ?_
    refine lv_iconst (v := (-1)) hx hb dX9_touch_12 rfl ?_
    obtain ⟨r9, M10, hc8, hf⟩ := wbind_p hf
    refine wc_V (As := [.int (-1)]) (rest := []) hx hb hml hown hts hG hV hZ (wlt_8 (rfl : wkd 0 = 8)) (q := (RX9, TX9, 10)) (wen_8 (rfl : wkd 0 = 8)) rfl (cX9_refuse_ok l E M (-1) hc8) (cwV 1 hts gl_X9_65 rfl rfl rfl cdX9_refuse ⟨Nat.le_of_ble_eq_true rfl, Nat.le_of_ble_eq_true rfl⟩) rfl hl.1 rfl (Nat.le_of_ble_eq_true rfl) dX9_touch_13 ⟨Nat.zero_le _, Nat.zero_le _⟩ hW hS rfl (fun H locs hW hS => ?_)
    have hres := Option.some.inj hf
    subst hres
    exact W.iret hx hb hr (wr_q hG hV hZ hW hS) hS.2.2 dX9_touch_16
  · refine lv_if_ne (tgt := 17) hx hb dX9_touch_8 (by decide) (fun _ => ?_) (fun h => absurd h hq3)
    refine lv_aload_n hx hb dX9_touch_17 rfl (lv_at hl 0 rfl) ?_
    refine wm_get hx hb hts wu_X9 hown hV hW (wlt_8 (rfl : wkd 0 = 8)) (wen_8 (rfl : wkd 0 = 8)) (C := RX9) (T := TX9) (N := 10) rfl 0 (by decide) (hts _ wA_231) rfl dX9_touch_18 ?_
    refine lv_iload_n hx hb dX9_touch_21 rfl (lv_at hl 1 rfl) ?_
    obtain ⟨M6, hc4, hf⟩ := wbind_e hf
    refine wc_V (As := [.int a1]) (rest := []) hx hb hml hown hts hG hV hZ (wlt_4 (rfl : wkd 1 = 4)) (q := (RX5, TX5, 4)) (wen_4 (rfl : wkd 1 = 4)) rfl (cX5_touchAt_ok l E M 1 (rfl : wkd 1 = 4) a1 hc4) (cwV 1 hts gl_X9_163 rfl rfl rfl cdX5_touchAt ⟨Nat.le_of_ble_eq_true rfl, Nat.le_of_ble_eq_true rfl⟩) rfl hl.1 rfl (Nat.le_of_ble_eq_true rfl) dX9_touch_22 ⟨Nat.zero_le _, Nat.zero_le _⟩ hW hS rfl (fun H locs hW hS => ?_)
    refine lv_aload_n hx hb dX9_touch_25 rfl (lv_at hl 0 rfl) ?_
    refine wm_get hx hb hts wu_X9 hown hV hW (wlt_8 (rfl : wkd 0 = 8)) (wen_8 (rfl : wkd 0 = 8)) (C := RX9) (T := TX9) (N := 10) rfl 0 (by decide) (hts _ wA_231) rfl dX9_touch_26 ?_
    refine wm_get hx hb hts wu_X5 hown hV hW (wlt_4 (rfl : wkd 1 = 4)) (wen_4 (rfl : wkd 1 = 4)) (C := RX5) (T := TX5) (N := 4) rfl 0 (by decide) (hts _ wA_112) rfl dX9_touch_29 ?_
    refine lv_iload_n hx hb dX9_touch_32 rfl (lv_at hl 1 rfl) ?_
    obtain ⟨hi7, hf⟩ := wgi_e hf
    refine wm_aldL hx hb hV hW (rfl : wkd 2 = 22) hi7 dX9_touch_33 ?_
    refine wm_get hx hb hts wu_X1 hown hV hW (wlt_0 (wk22_i (rfl : wkd 2 = 22) hi7)) (wen_0 (wk22_i (rfl : wkd 2 = 22) hi7)) (C := RX1) (T := TX1) (N := 5) rfl 4 (by decide) (hts _ wA_95) rfl dX9_touch_34 ?_
    have hres := Option.some.inj hf
    subst hres
    exact W.iret hx hb hr (wr_q hG hV hZ hW hS) hS.2.2 dX9_touch_37
theorem cX9_touch_ok (l : Launch) (E : wE) (M : wMem) (a1 : Int32) {res : Int32 × wMem} (hf : fX9_touch M a1 = some res) : wMet l yX9_touch (wsM yX9_touch cX9_touch 2 (some .int)) ({ frames := 3, cells := 0, slots := 0, locals := 62 } : Room) E M [.ref (wad E 0), .int a1] (some (.int res.1)) res.2 :=
  wc_of (cc := cX9_touch) (maxL := 2) (ret := (some .int)) (by decide) (Nat.le_of_ble_eq_true rfl) (fun _ _ _ _ _ _ _ _ B hW hl => pX9_touch B  hf hW va_S.rf hl)
end
theorem cdX6_weightOf : yX6_weightOf.cls ≠ "java/lang/invoke/MethodHandle" ∧ yX6_weightOf.cls ≠ "java/lang/invoke/VarHandle" ∧ (parseMethodDescriptor yX6_weightOf.desc).map (fun d => d.parameters.length) = some 3 := by decide +kernel
section
variable {p : Program} {l : Launch} {e : Env} {s : State} {m : MethodId} {args : Array Value} {below : List Frame} {meth : Method} {c : Code} {E : wE}
set_option maxRecDepth 100000 in
set_option maxHeartbeats 4000000 in
theorem pX6_weightOf_5_b (B : wB E p s m args meth c cX6_weightOf 5 RX6 (some .int)) {M : wMem} {ky0 : Nat} {y2 : Int32} {y3 : Int32} {y4 : Int32}  {rec5 : (Int32 × Int32 → Option (Int32))} {res : Int32} (hky0 : wkd ky0 = 4)  (hrec5 : ∀ (y3' : Int32) (y4' : Int32), rec5 (y3', y4') = some res → ∀ (H : Heap) (locs : List Loc) (ls : Array Slot), wH E M H → va_S (wA E) s.heap H locs → lv_has ls 5 [(0, .ref (wad E ky0)), (2, .int y2), (3, .int y3'), (4, .int y4')] → W p l e ({ frames := 2, cells := 0, slots := 0, locals := 41 } : Room) s m args below meth c H locs 0 0 (MQ below (wQ E (some (.int res)) M) args s 0 0 (wA E)) (F0 m 5 ls [])) (hf : fX6_weightOf_5_b M  rec5 ky0 y2 y3 y4 = some res) {H : Heap} {locs : List Loc} {ls : Array Slot} (hW : wH E M H) (hS : va_S (wA E) s.heap H locs) (hl : lv_has ls 5 [(0, .ref (wad E ky0)), (2, .int y2), (3, .int y3), (4, .int y4)]) : W p l e ({ frames := 2, cells := 0, slots := 0, locals := 41 } : Room) s m args below meth c H locs 0 0 (MQ below (wQ E (some (.int res)) M) args s 0 0 (wA E)) (F0 m 5 ls []) := by
  unfold fX6_weightOf_5_b at hf
  obtain ⟨hx, hb, hr, hml, hown, hts, hlocks, hG, hV, hZ⟩ := id B
  refine lv_iload hx hb dX6_weightOf_5 (lv_at hl 3 rfl) ?_
  refine lv_iload_n hx hb dX6_weightOf_7 rfl (lv_at hl 1 rfl) ?_
  rcases wif_e hf with ⟨hq1, hf⟩ | ⟨hq1, hf⟩
  · refine lv_icmp_gt (tgt := 30) hx hb dX6_weightOf_8 (by decide) (fun _ => ?_) (fun h => absurd hq1 h)
    refine lv_iload_n hx hb dX6_weightOf_30 rfl (lv_at hl 2 rfl) ?_
    have hres := Option.some.inj hf
    subst hres
    exact W.iret hx hb hr (wr_q hG hV hZ hW hS) hS.2.2 dX6_weightOf_31
  · refine lv_icmp_gt (tgt := 30) hx hb dX6_weightOf_8 (by decide) (fun h => absurd h hq1) (fun _ => ?_)
    refine lv_iload_n hx hb dX6_weightOf_11 rfl (lv_at hl 2 rfl) ?_
    refine lv_aload_n hx hb dX6_weightOf_12 rfl (lv_at hl 0 rfl) ?_
    refine wm_get hx hb hts wu_X5 hown hV hW (wlt_4 hky0) (wen_4 hky0) (C := RX5) (T := TX5) (N := 4) rfl 0 (by decide) (hts _ wA_114) rfl dX6_weightOf_13 ?_
    refine lv_iload hx hb dX6_weightOf_16 (lv_at hl 3 rfl) ?_
    obtain ⟨hi2, hf⟩ := wgi_e hf
    refine wm_aldL hx hb hV hW (wk4_1 hky0) hi2 dX6_weightOf_18 ?_
    obtain ⟨r4, hc3, hf⟩ := wbind_e hf
    refine wc_V (As := []) (rest := [.int y3]) hx hb hml hown hts hG hV hZ (wlt_0 (wk22_i (wk4_1 hky0) hi2)) (q := (RX1, TX1, 5)) (wen_0 (wk22_i (wk4_1 hky0) hi2)) rfl (cX1_likely_ok l E M ((ky0 + 1) + 2 + Int32.toNatClampNeg y4) (wk22_i (wk4_1 hky0) hi2) hc3) (cwV 0 hts gl_X6_60 rfl rfl rfl cdX1_likely ⟨Nat.le_of_ble_eq_true rfl, Nat.le_of_ble_eq_true rfl⟩) rfl hl.1 rfl (Nat.le_of_ble_eq_true rfl) dX6_weightOf_19 ⟨Nat.zero_le _, Nat.zero_le _⟩ hW hS rfl (fun H locs hW hS => ?_)
    refine lv_iadd hx hb dX6_weightOf_22 ?_
    refine lv_topi (fun x5 ex5 => ?_)
    replace hf := wlet_y ex5 hf
    refine lv_istore_n (lv' := [(3, .int x5), (0, .ref (wad E ky0)), (2, .int y2), (4, .int y4)]) hx hb dX6_weightOf_23 rfl hl (by decide) rfl (fun ls hl => ?_)
    obtain ⟨x6, ex6, hf⟩ := wlet_e hf
    refine lv_iinc (v := x6) (lv' := [(4, .int x6), (3, .int x5), (0, .ref (wad E ky0)), (2, .int y2)]) hx hb dX6_weightOf_24 hl (k := 3) rfl (by rw [ex6]; rfl) (by decide) rfl (fun ls hl => ?_)
    refine lv_goto (tgt := 5) hx hb dX6_weightOf_27 (by decide) ?_
    exact hrec5 x5 x6 hf _ _ _ hW hS (lv_sub hl [2, 3, 1, 0] rfl)
set_option maxRecDepth 100000 in
set_option maxHeartbeats 4000000 in
theorem pX6_weightOf_5 (B : wB E p s m args meth c cX6_weightOf 5 RX6 (some .int)) {M : wMem} {ky0 : Nat} {y2 : Int32} {y3 : Int32} {y4 : Int32}  {res : Int32} (hky0 : wkd ky0 = 4)  (hf : fX6_weightOf_5 M  ky0 y2 y3 y4 = some res) {H : Heap} {locs : List Loc} {ls : Array Slot} (hW : wH E M H) (hS : va_S (wA E) s.heap H locs) (hl : lv_has ls 5 [(0, .ref (wad E ky0)), (2, .int y2), (3, .int y3), (4, .int y4)]) : W p l e ({ frames := 2, cells := 0, slots := 0, locals := 41 } : Room) s m args below meth c H locs 0 0 (MQ below (wQ E (some (.int res)) M) args s 0 0 (wA E)) (F0 m 5 ls []) := by
  have key := wloop_W (b := (fun rec5 t => fX6_weightOf_5_b M  rec5 ky0 y2 t.1 t.2)) (P := fun t => ∀ (H : Heap) (locs : List Loc) (ls : Array Slot), wH E M H → va_S (wA E) s.heap H locs → lv_has ls 5 [(0, .ref (wad E ky0)), (2, .int y2), (3, .int t.1), (4, .int t.2)] → W p l e ({ frames := 2, cells := 0, slots := 0, locals := 41 } : Room) s m args below meth c H locs 0 0 (MQ below (wQ E (some (.int res)) M) args s 0 0 (wA E)) (F0 m 5 ls [])) (r := res) (fun rec hrec t hf H locs ls hW hS hl => pX6_weightOf_5_b B hky0  (fun v0 v1 hf H locs ls hW hS hl => hrec (v0, v1) hf H locs ls hW hS hl) hf hW hS hl)
  exact key wfuel (y3, y4) hf H locs ls hW hS hl
set_option maxRecDepth 100000 in
set_option maxHeartbeats 4000000 in
theorem pX6_weightOf (B : wB E p s m args meth c cX6_weightOf 5 RX6 (some .int)) {M : wMem} {k0 : Nat} {a1 : Int32} {a2 : Int32} (hk0 : wkd k0 = 4) {res : Int32} (hf : fX6_weightOf M k0 a1 a2 = some res) {H : Heap} {locs : List Loc} {ls : Array Slot} (hW : wH E M H) (hS : va_S (wA E) s.heap H locs) (hl : lv_has ls 5 [(0, .ref (wad E k0)), (1, .int a1), (2, .int a2)]) : W p l e ({ frames := 2, cells := 0, slots := 0, locals := 41 } : Room) s m args below meth c H locs 0 0 (MQ below (wQ E (some (.int res)) M) args s 0 0 (wA E)) (F0 m 0 ls []) := by
  unfold fX6_weightOf at hf
  obtain ⟨hx, hb, hr, hml, hown, hts, hlocks, hG, hV, hZ⟩ := id B
  refine lv_iconst (v := 0) hx hb dX6_weightOf_0 rfl ?_
  refine lv_istore_n (lv' := [(3, .int 0), (0, .ref (wad E k0)), (1, .int a1), (2, .int a2)]) hx hb dX6_weightOf_1 rfl hl (by decide) rfl (fun ls hl => ?_)
  refine lv_iload_n hx hb dX6_weightOf_2 rfl (lv_at hl 2 rfl) ?_
  refine lv_istore (lv' := [(4, .int a1), (3, .int 0), (0, .ref (wad E k0)), (1, .int a1), (2, .int a2)]) hx hb dX6_weightOf_3 hl (by decide) rfl (fun ls hl => ?_)
  exact pX6_weightOf_5 B hk0  hf hW hS (lv_sub hl [2, 4, 1, 0] rfl)
theorem cX6_weightOf_ok (l : Launch) (E : wE) (M : wMem) (k0 : Nat) (hk0 : wkd k0 = 4) (a1 : Int32) (a2 : Int32) {res : Int32} (hf : fX6_weightOf M k0 a1 a2 = some res) : wMet l yX6_weightOf (wsM yX6_weightOf cX6_weightOf 5 (some .int)) ({ frames := 2, cells := 0, slots := 0, locals := 41 } : Room) E M [.ref (wad E k0), .int a1, .int a2] (some (.int res)) M :=
  wc_of (cc := cX6_weightOf) (maxL := 5) (ret := (some .int)) (by decide) (Nat.le_of_ble_eq_true rfl) (fun _ _ _ _ _ _ _ _ B hW hl => pX6_weightOf B hk0 hf hW va_S.rf hl)
end
theorem cdX6_costOf : yX6_costOf.cls = RX6 ∧ yX6_costOf.cls ≠ "java/lang/invoke/MethodHandle" ∧ yX6_costOf.cls ≠ "java/lang/invoke/VarHandle" ∧ (parseMethodDescriptor yX6_costOf.desc).map (fun d => d.parameters.length) = some 6 := by decide +kernel
section
variable {p : Program} {l : Launch} {e : Env} {s : State} {m : MethodId} {args : Array Value} {below : List Frame} {meth : Method} {c : Code} {E : wE}
set_option maxRecDepth 100000 in
set_option maxHeartbeats 4000000 in
theorem pX6_costOf (B : wB E p s m args meth c cX6_costOf 10 RX6 (some .int)) {M : wMem} {k1 : Nat} {a2 : Int32} {a3 : Int32} {a4 : Int32} {a5 : Int32} {a6 : Int32} (hk1 : wkd k1 = 4) {res : Int32} (hf : fX6_costOf M k1 a2 a3 a4 a5 a6 = some res) {H : Heap} {locs : List Loc} {ls : Array Slot} (hW : wH E M H) (hS : va_S (wA E) s.heap H locs) (hl : lv_has ls 10 [(0, .ref (wad E 53)), (1, .ref (wad E k1)), (2, .int a2), (3, .int a3), (4, .int a4), (5, .int a5), (6, .int a6)]) : W p l e ({ frames := 1, cells := 0, slots := 0, locals := 21 } : Room) s m args below meth c H locs 0 0 (MQ below (wQ E (some (.int res)) M) args s 0 0 (wA E)) (F0 m 0 ls []) := by
  unfold fX6_costOf at hf
  obtain ⟨hx, hb, hr, hml, hown, hts, hlocks, hG, hV, hZ⟩ := id B
  refine lv_aload_n hx hb dX6_costOf_0 rfl (lv_at hl 1 rfl) ?_
  refine wm_get hx hb hts wu_X5 hown hV hW (wlt_4 hk1) (wen_4 hk1) (C := RX5) (T := TX5) (N := 4) rfl 0 (by decide) (hts _ wA_114) rfl dX6_costOf_1 ?_
  refine lv_iload hx hb dX6_costOf_4 (lv_at hl 4 rfl) ?_
  obtain ⟨hi1, hf⟩ := wgi_e hf
  refine wm_aldL hx hb hV hW (wk4_1 hk1) hi1 dX6_costOf_6 ?_
  refine wm_get hx hb hts wu_X1 hown hV hW (wlt_0 (wk22_i (wk4_1 hk1) hi1)) (wen_0 (wk22_i (wk4_1 hk1) hi1)) (C := RX1) (T := TX1) (N := 5) rfl 2 (by decide) (hts _ wA_90) rfl dX6_costOf_7 ?_
  refine lv_topi (fun x2 ex2 => ?_)
  replace hf := wlet_y ex2 hf
  refine lv_istore (lv' := [(7, .int x2), (0, .ref (wad E 53)), (1, .ref (wad E k1)), (2, .int a2), (3, .int a3), (4, .int a4), (5, .int a5), (6, .int a6)]) hx hb dX6_costOf_10 hl (by decide) rfl (fun ls hl => ?_)
  refine lv_aload_n hx hb dX6_costOf_12 rfl (lv_at hl 1 rfl) ?_
  refine wm_get hx hb hts wu_X6 hown hV hW (wlt_5 (rfl : wkd 53 = 5)) (wen_5 (rfl : wkd 53 = 5)) (C := RX6) (T := TX6) (N := 1) rfl 0 (by decide) (hts _ wA_216) rfl dX6_costOf_13 ?_
  refine lv_iload_n hx hb dX6_costOf_16 rfl (lv_at hl 3 rfl) ?_
  obtain ⟨hi3, hf⟩ := wgi_e hf
  refine wm_aldA hx hb hV hW (rfl : wkd 54 = 23) hi3 dX6_costOf_17 ?_
  refine lv_iload hx hb dX6_costOf_18 (lv_at hl 5 rfl) ?_
  refine lv_iconst (v := 1) hx hb dX6_costOf_20 rfl ?_
  refine lv_isub hx hb dX6_costOf_21 ?_
  obtain ⟨hi4, hf⟩ := wgi_e hf
  refine wm_iald hx hb hV hW (wk23_i (rfl : wkd 54 = 23) hi3) (n := 12) (wl23_i (rfl : wkd 54 = 23) hi3) hi4 dX6_costOf_22 ?_
  refine lv_topi (fun x5 ex5 => ?_)
  replace hf := wlet_y ex5 hf
  refine lv_istore (lv' := [(8, .int x5), (7, .int x2), (0, .ref (wad E 53)), (1, .ref (wad E k1)), (2, .int a2), (3, .int a3), (4, .int a4), (5, .int a5), (6, .int a6)]) hx hb dX6_costOf_23 hl (by decide) rfl (fun ls hl => ?_)
  refine lv_aload_n hx hb dX6_costOf_25 rfl (lv_at hl 2 rfl) ?_
  refine wm_get hx hb hts wu_X6 hown hV hW (wlt_5 (rfl : wkd 53 = 5)) (wen_5 (rfl : wkd 53 = 5)) (C := RX6) (T := TX6) (N := 1) rfl 0 (by decide) (hts _ wA_216) rfl dX6_costOf_26 ?_
  refine lv_iload hx hb dX6_costOf_29 (lv_at hl 6 rfl) ?_
  obtain ⟨hi6, hf⟩ := wgi_e hf
  refine wm_aldA hx hb hV hW (rfl : wkd 54 = 23) hi6 dX6_costOf_31 ?_
  refine lv_iload_n hx hb dX6_costOf_32 rfl (lv_at hl 5 rfl) ?_
  obtain ⟨hi7, hf⟩ := wgi_e hf
  refine wm_iald hx hb hV hW (wk23_i (rfl : wkd 54 = 23) hi6) (n := 12) (wl23_i (rfl : wkd 54 = 23) hi6) hi7 dX6_costOf_33 ?_
  refine lv_topi (fun x8 ex8 => ?_)
  replace hf := wlet_y ex8 hf
  refine lv_istore (lv' := [(9, .int x8), (8, .int x5), (7, .int x2), (0, .ref (wad E 53)), (1, .ref (wad E k1)), (2, .int a2), (3, .int a3), (4, .int a4), (5, .int a5), (6, .int a6)]) hx hb dX6_costOf_34 hl (by decide) rfl (fun ls hl => ?_)
  refine lv_iload hx hb dX6_costOf_36 (lv_at hl 9 rfl) ?_
  rcases wif_e hf with ⟨hq9, hf⟩ | ⟨hq9, hf⟩
  · refine lv_if_ne (tgt := 53) hx hb dX6_costOf_38 (by decide) (fun h => absurd hq9 h) (fun _ => ?_)
    refine lv_iload hx hb dX6_costOf_41 (lv_at hl 2 rfl) ?_
    refine lv_iload hx hb dX6_costOf_43 (lv_at hl 8 rfl) ?_
    refine lv_imul hx hb dX6_costOf_45 ?_
    refine lv_iload hx hb dX6_costOf_46 (lv_at hl 1 rfl) ?_
    refine lv_iadd hx hb dX6_costOf_48 ?_
    refine lv_iload hx hb dX6_costOf_49 (lv_at hl 0 rfl) ?_
    refine lv_iadd hx hb dX6_costOf_51 ?_
    have hres := Option.some.inj hf
    subst hres
    exact W.iret hx hb hr (wr_q hG hV hZ hW hS) hS.2.2 dX6_costOf_52
  · refine lv_if_ne (tgt := 53) hx hb dX6_costOf_38 (by decide) (fun _ => ?_) (fun h => absurd h hq9)
    refine lv_iload hx hb dX6_costOf_53 (lv_at hl 2 rfl) ?_
    refine lv_iload hx hb dX6_costOf_55 (lv_at hl 1 rfl) ?_
    refine lv_iload hx hb dX6_costOf_57 (lv_at hl 0 rfl) ?_
    refine va_mmax hx hb (hml.trans hl.1.symm) hown (hts _ wA_504) (hts _ wA_505) (hts _ wA_60) (hts _ wA_506) (Nat.le_of_ble_eq_true rfl) (Nat.le_of_ble_eq_true rfl) (Nat.le_refl 0) (Nat.le_refl 0) dX6_costOf_59 ?_
    refine lv_iadd hx hb dX6_costOf_62 ?_
    have hres := Option.some.inj hf
    subst hres
    exact W.iret hx hb hr (wr_q hG hV hZ hW hS) hS.2.2 dX6_costOf_63
theorem cX6_costOf_ok (l : Launch) (E : wE) (M : wMem) (k1 : Nat) (hk1 : wkd k1 = 4) (a2 : Int32) (a3 : Int32) (a4 : Int32) (a5 : Int32) (a6 : Int32) {res : Int32} (hf : fX6_costOf M k1 a2 a3 a4 a5 a6 = some res) : wMet l yX6_costOf (wsM yX6_costOf cX6_costOf 10 (some .int)) ({ frames := 1, cells := 0, slots := 0, locals := 21 } : Room) E M [.ref (wad E 53), .ref (wad E k1), .int a2, .int a3, .int a4, .int a5, .int a6] (some (.int res)) M :=
  wc_of (cc := cX6_costOf) (maxL := 10) (ret := (some .int)) (by decide) (Nat.le_of_ble_eq_true rfl) (fun _ _ _ _ _ _ _ _ B hW hl => pX6_costOf B hk1 hf hW va_S.rf hl)
end
theorem cdX6_leastOf : yX6_leastOf.cls = RX6 ∧ yX6_leastOf.cls ≠ "java/lang/invoke/MethodHandle" ∧ yX6_leastOf.cls ≠ "java/lang/invoke/VarHandle" ∧ (parseMethodDescriptor yX6_leastOf.desc).map (fun d => d.parameters.length) = some 4 := by decide +kernel
section
variable {p : Program} {l : Launch} {e : Env} {s : State} {m : MethodId} {args : Array Value} {below : List Frame} {meth : Method} {c : Code} {E : wE}
set_option maxRecDepth 100000 in
set_option maxHeartbeats 4000000 in
theorem pX6_leastOf_29_b (B : wB E p s m args meth c cX6_leastOf 8 RX6 (some .int)) {M : wMem} {ky1 : Nat} {y2 : Int32} {y3 : Int32} {y4 : Int32} {y5 : Int32} {y6 : Int32} {y7 : Int32}  {rec29 : (Int32 × Int32 → Option (Int32))} {res : Int32} (hky1 : wkd ky1 = 4)  (hrec29 : ∀ (y6' : Int32) (y7' : Int32), rec29 (y6', y7') = some res → ∀ (H : Heap) (locs : List Loc) (ls : Array Slot), wH E M H → va_S (wA E) s.heap H locs → lv_has ls 8 [(0, .ref (wad E 53)), (1, .ref (wad E ky1)), (2, .int y2), (3, .int y3), (4, .int y4), (5, .int y5), (6, .int y6'), (7, .int y7')] → W p l e ({ frames := 3, cells := 0, slots := 0, locals := 65 } : Room) s m args below meth c H locs 0 0 (MQ below (wQ E (some (.int res)) M) args s 0 0 (wA E)) (F0 m 29 ls [])) (hf : fX6_leastOf_29_b M  rec29 ky1 y2 y3 y4 y5 y6 y7 = some res) {H : Heap} {locs : List Loc} {ls : Array Slot} (hW : wH E M H) (hS : va_S (wA E) s.heap H locs) (hl : lv_has ls 8 [(0, .ref (wad E 53)), (1, .ref (wad E ky1)), (2, .int y2), (3, .int y3), (4, .int y4), (5, .int y5), (6, .int y6), (7, .int y7)]) : W p l e ({ frames := 3, cells := 0, slots := 0, locals := 65 } : Room) s m args below meth c H locs 0 0 (MQ below (wQ E (some (.int res)) M) args s 0 0 (wA E)) (F0 m 29 ls []) := by
  unfold fX6_leastOf_29_b at hf
  obtain ⟨hx, hb, hr, hml, hown, hts, hlocks, hG, hV, hZ⟩ := id B
  refine lv_iload hx hb dX6_leastOf_29 (lv_at hl 7 rfl) ?_
  refine lv_iload_n hx hb dX6_leastOf_31 rfl (lv_at hl 3 rfl) ?_
  rcases wif_e hf with ⟨hq6, hf⟩ | ⟨hq6, hf⟩
  · refine lv_icmp_gt (tgt := 61) hx hb dX6_leastOf_32 (by decide) (fun _ => ?_) (fun h => absurd hq6 h)
    refine lv_iload hx hb dX6_leastOf_61 (lv_at hl 6 rfl) ?_
    have hres := Option.some.inj hf
    subst hres
    exact W.iret hx hb hr (wr_q hG hV hZ hW hS) hS.2.2 dX6_leastOf_63
  · refine lv_icmp_gt (tgt := 61) hx hb dX6_leastOf_32 (by decide) (fun h => absurd h hq6) (fun _ => ?_)
    refine lv_iload hx hb dX6_leastOf_35 (lv_at hl 6 rfl) ?_
    refine lv_aload_n hx hb dX6_leastOf_37 rfl (lv_at hl 0 rfl) ?_
    refine lv_aload_n hx hb dX6_leastOf_38 rfl (lv_at hl 1 rfl) ?_
    refine lv_iload_n hx hb dX6_leastOf_39 rfl (lv_at hl 2 rfl) ?_
    refine lv_iload_n hx hb dX6_leastOf_40 rfl (lv_at hl 3 rfl) ?_
    refine lv_iload hx hb dX6_leastOf_41 (lv_at hl 7 rfl) ?_
    refine lv_iload hx hb dX6_leastOf_43 (lv_at hl 5 rfl) ?_
    refine lv_iload hx hb dX6_leastOf_45 (lv_at hl 4 rfl) ?_
    obtain ⟨r8, hc7, hf⟩ := wbind_e hf
    refine wc_V (As := [.ref (wad E ky1), .int y2, .int y3, .int y7, .int y5, .int y4]) (rest := [.int y6]) hx hb hml hown hts hG hV hZ (wlt_5 (rfl : wkd 53 = 5)) (q := (RX6, TX6, 1)) (wen_5 (rfl : wkd 53 = 5)) rfl (cX6_costOf_ok l E M ky1 hky1 y2 y3 y7 y5 y4 hc7) (cwV 6 hts gl_X6_34 rfl rfl rfl cdX6_costOf ⟨Nat.le_of_ble_eq_true rfl, Nat.le_of_ble_eq_true rfl⟩) rfl hl.1 rfl (Nat.le_of_ble_eq_true rfl) dX6_leastOf_47 ⟨Nat.zero_le _, Nat.zero_le _⟩ hW hS rfl (fun H locs hW hS => ?_)
    refine va_mmin hx hb (hml.trans hl.1.symm) hown (hts _ wA_507) (hts _ wA_385) (hts _ wA_60) (hts _ wA_386) (Nat.le_of_ble_eq_true rfl) (Nat.le_of_ble_eq_true rfl) (Nat.le_refl 0) (Nat.le_refl 0) dX6_leastOf_50 ?_
    refine lv_topi (fun x9 ex9 => ?_)
    replace hf := wlet_y ex9 hf
    refine lv_istore (lv' := [(6, .int x9), (0, .ref (wad E 53)), (1, .ref (wad E ky1)), (2, .int y2), (3, .int y3), (4, .int y4), (5, .int y5), (7, .int y7)]) hx hb dX6_leastOf_53 hl (by decide) rfl (fun ls hl => ?_)
    obtain ⟨x10, ex10, hf⟩ := wlet_e hf
    refine lv_iinc (v := x10) (lv' := [(7, .int x10), (6, .int x9), (0, .ref (wad E 53)), (1, .ref (wad E ky1)), (2, .int y2), (3, .int y3), (4, .int y4), (5, .int y5)]) hx hb dX6_leastOf_55 hl (k := 7) rfl (by rw [ex10]; rfl) (by decide) rfl (fun ls hl => ?_)
    refine lv_goto (tgt := 29) hx hb dX6_leastOf_58 (by decide) ?_
    exact hrec29 x9 x10 hf _ _ _ hW hS (lv_sub hl [2, 3, 4, 5, 6, 7, 1, 0] rfl)
set_option maxRecDepth 100000 in
set_option maxHeartbeats 4000000 in
theorem pX6_leastOf_29 (B : wB E p s m args meth c cX6_leastOf 8 RX6 (some .int)) {M : wMem} {ky1 : Nat} {y2 : Int32} {y3 : Int32} {y4 : Int32} {y5 : Int32} {y6 : Int32} {y7 : Int32}  {res : Int32} (hky1 : wkd ky1 = 4)  (hf : fX6_leastOf_29 M  ky1 y2 y3 y4 y5 y6 y7 = some res) {H : Heap} {locs : List Loc} {ls : Array Slot} (hW : wH E M H) (hS : va_S (wA E) s.heap H locs) (hl : lv_has ls 8 [(0, .ref (wad E 53)), (1, .ref (wad E ky1)), (2, .int y2), (3, .int y3), (4, .int y4), (5, .int y5), (6, .int y6), (7, .int y7)]) : W p l e ({ frames := 3, cells := 0, slots := 0, locals := 65 } : Room) s m args below meth c H locs 0 0 (MQ below (wQ E (some (.int res)) M) args s 0 0 (wA E)) (F0 m 29 ls []) := by
  have key := wloop_W (b := (fun rec29 t => fX6_leastOf_29_b M  rec29 ky1 y2 y3 y4 y5 t.1 t.2)) (P := fun t => ∀ (H : Heap) (locs : List Loc) (ls : Array Slot), wH E M H → va_S (wA E) s.heap H locs → lv_has ls 8 [(0, .ref (wad E 53)), (1, .ref (wad E ky1)), (2, .int y2), (3, .int y3), (4, .int y4), (5, .int y5), (6, .int t.1), (7, .int t.2)] → W p l e ({ frames := 3, cells := 0, slots := 0, locals := 65 } : Room) s m args below meth c H locs 0 0 (MQ below (wQ E (some (.int res)) M) args s 0 0 (wA E)) (F0 m 29 ls [])) (r := res) (fun rec hrec t hf H locs ls hW hS hl => pX6_leastOf_29_b B hky1  (fun v0 v1 hf H locs ls hW hS hl => hrec (v0, v1) hf H locs ls hW hS hl) hf hW hS hl)
  exact key wfuel (y6, y7) hf H locs ls hW hS hl
set_option maxRecDepth 100000 in
set_option maxHeartbeats 4000000 in
theorem pX6_leastOf (B : wB E p s m args meth c cX6_leastOf 8 RX6 (some .int)) {M : wMem} {k1 : Nat} {a2 : Int32} {a3 : Int32} {a4 : Int32} (hk1 : wkd k1 = 4) {res : Int32} (hf : fX6_leastOf M k1 a2 a3 a4 = some res) {H : Heap} {locs : List Loc} {ls : Array Slot} (hW : wH E M H) (hS : va_S (wA E) s.heap H locs) (hl : lv_has ls 8 [(0, .ref (wad E 53)), (1, .ref (wad E k1)), (2, .int a2), (3, .int a3), (4, .int a4)]) : W p l e ({ frames := 3, cells := 0, slots := 0, locals := 65 } : Room) s m args below meth c H locs 0 0 (MQ below (wQ E (some (.int res)) M) args s 0 0 (wA E)) (F0 m 0 ls []) := by
  unfold fX6_leastOf at hf
  obtain ⟨hx, hb, hr, hml, hown, hts, hlocks, hG, hV, hZ⟩ := id B
  refine lv_aload_n hx hb dX6_leastOf_0 rfl (lv_at hl 1 rfl) ?_
  refine lv_iload_n hx hb dX6_leastOf_1 rfl (lv_at hl 2 rfl) ?_
  refine lv_iload_n hx hb dX6_leastOf_2 rfl (lv_at hl 3 rfl) ?_
  obtain ⟨r2, hc1, hf⟩ := wbind_e hf
  refine wc_S (As := [.ref (wad E k1), .int a2, .int a3]) (rest := []) hx hb hml hown hts hG hV hZ (cX6_weightOf_ok l E M k1 hk1 a2 a3 hc1) (va_cwS 3 hts gl_X6_30 rfl rfl rfl cdX6_weightOf ⟨Nat.le_of_ble_eq_true rfl, Nat.le_of_ble_eq_true rfl⟩) rfl hl.1 rfl (Nat.le_of_ble_eq_true rfl) dX6_leastOf_3 ⟨Nat.zero_le _, Nat.zero_le _⟩ hW hS rfl (fun H locs hW hS => ?_)
  refine lv_istore (lv' := [(5, .int r2), (0, .ref (wad E 53)), (1, .ref (wad E k1)), (2, .int a2), (3, .int a3), (4, .int a4)]) hx hb dX6_leastOf_6 hl (by decide) rfl (fun ls hl => ?_)
  refine lv_aload_n hx hb dX6_leastOf_8 rfl (lv_at hl 1 rfl) ?_
  refine lv_aload_n hx hb dX6_leastOf_9 rfl (lv_at hl 2 rfl) ?_
  refine lv_iload_n hx hb dX6_leastOf_10 rfl (lv_at hl 3 rfl) ?_
  refine lv_iload_n hx hb dX6_leastOf_11 rfl (lv_at hl 4 rfl) ?_
  refine lv_iload_n hx hb dX6_leastOf_12 rfl (lv_at hl 3 rfl) ?_
  refine lv_iconst (v := 1) hx hb dX6_leastOf_13 rfl ?_
  refine lv_iadd hx hb dX6_leastOf_14 ?_
  refine lv_iload hx hb dX6_leastOf_15 (lv_at hl 0 rfl) ?_
  refine lv_iload hx hb dX6_leastOf_17 (lv_at hl 5 rfl) ?_
  obtain ⟨r4, hc3, hf⟩ := wbind_e hf
  refine wc_V (As := [.ref (wad E k1), .int a2, .int a3, .int (a2 + 1), .int r2, .int a4]) (rest := []) hx hb hml hown hts hG hV hZ (wlt_5 (rfl : wkd 53 = 5)) (q := (RX6, TX6, 1)) (wen_5 (rfl : wkd 53 = 5)) rfl (cX6_costOf_ok l E M k1 hk1 a2 a3 (a2 + 1) r2 a4 hc3) (cwV 6 hts gl_X6_34 rfl rfl rfl cdX6_costOf ⟨Nat.le_of_ble_eq_true rfl, Nat.le_of_ble_eq_true rfl⟩) rfl hl.1 rfl (Nat.le_of_ble_eq_true rfl) dX6_leastOf_19 ⟨Nat.zero_le _, Nat.zero_le _⟩ hW hS rfl (fun H locs hW hS => ?_)
  refine lv_istore (lv' := [(6, .int r4), (5, .int r2), (0, .ref (wad E 53)), (1, .ref (wad E k1)), (2, .int a2), (3, .int a3), (4, .int a4)]) hx hb dX6_leastOf_22 hl (by decide) rfl (fun ls hl => ?_)
  refine lv_iload_n hx hb dX6_leastOf_24 rfl (lv_at hl 4 rfl) ?_
  refine lv_iconst (v := 2) hx hb dX6_leastOf_25 rfl ?_
  refine lv_iadd hx hb dX6_leastOf_26 ?_
  refine lv_topi (fun x5 ex5 => ?_)
  replace hf := wlet_y ex5 hf
  refine lv_istore (lv' := [(7, .int x5), (6, .int r4), (5, .int r2), (0, .ref (wad E 53)), (1, .ref (wad E k1)), (2, .int a2), (3, .int a3), (4, .int a4)]) hx hb dX6_leastOf_27 hl (by decide) rfl (fun ls hl => ?_)
  exact pX6_leastOf_29 B hk1  hf hW hS (lv_sub hl [3, 4, 5, 6, 7, 2, 1, 0] rfl)
theorem cX6_leastOf_ok (l : Launch) (E : wE) (M : wMem) (k1 : Nat) (hk1 : wkd k1 = 4) (a2 : Int32) (a3 : Int32) (a4 : Int32) {res : Int32} (hf : fX6_leastOf M k1 a2 a3 a4 = some res) : wMet l yX6_leastOf (wsM yX6_leastOf cX6_leastOf 8 (some .int)) ({ frames := 3, cells := 0, slots := 0, locals := 65 } : Room) E M [.ref (wad E 53), .ref (wad E k1), .int a2, .int a3, .int a4] (some (.int res)) M :=
  wc_of (cc := cX6_leastOf) (maxL := 8) (ret := (some .int)) (by decide) (Nat.le_of_ble_eq_true rfl) (fun _ _ _ _ _ _ _ _ B hW hl => pX6_leastOf B hk1 hf hW va_S.rf hl)
end
theorem cdX6_fill : yX6_fill.cls = RX6 ∧ yX6_fill.cls ≠ "java/lang/invoke/MethodHandle" ∧ yX6_fill.cls ≠ "java/lang/invoke/VarHandle" ∧ (parseMethodDescriptor yX6_fill.desc).map (fun d => d.parameters.length) = some 4 := by decide +kernel
section
variable {p : Program} {l : Launch} {e : Env} {s : State} {m : MethodId} {args : Array Value} {below : List Frame} {meth : Method} {c : Code} {E : wE}
set_option maxRecDepth 100000 in
set_option maxHeartbeats 4000000 in
theorem pX6_fill_40_b (B : wB E p s m args meth c cX6_fill 7 RX6 none) {M : wMem} {ky1 : Nat} {y2 : Int32} {y3 : Int32} {y4 : Int32} {y5 : Int32} {y6 : Int32} {rec29 : (Int32 × wMem → Option (wMem))} {rec40 : (Int32 × wMem → Option (wMem))} {res : wMem} (hky1 : wkd ky1 = 4) (hrec29 : ∀ (y5' : Int32) (M' : wMem), rec29 (y5', M') = some res → ∀ (H : Heap) (locs : List Loc) (ls : Array Slot), wH E M' H → va_S (wA E) s.heap H locs → lv_has ls 7 [(0, .ref (wad E 53)), (1, .ref (wad E ky1)), (2, .int y2), (3, .int y3), (4, .int y4), (5, .int y5')] → W p l e ({ frames := 4, cells := 0, slots := 0, locals := 92 } : Room) s m args below meth c H locs 0 0 (MQ below (wQ E none res) args s 0 0 (wA E)) (F0 m 29 ls [])) (hrec40 : ∀ (y6' : Int32) (M' : wMem), rec40 (y6', M') = some res → ∀ (H : Heap) (locs : List Loc) (ls : Array Slot), wH E M' H → va_S (wA E) s.heap H locs → lv_has ls 7 [(0, .ref (wad E 53)), (1, .ref (wad E ky1)), (2, .int y2), (3, .int y3), (4, .int y4), (5, .int y5), (6, .int y6')] → W p l e ({ frames := 4, cells := 0, slots := 0, locals := 92 } : Room) s m args below meth c H locs 0 0 (MQ below (wQ E none res) args s 0 0 (wA E)) (F0 m 40 ls [])) (hf : fX6_fill_40_b M rec29 rec40 ky1 y2 y3 y4 y5 y6 = some res) {H : Heap} {locs : List Loc} {ls : Array Slot} (hW : wH E M H) (hS : va_S (wA E) s.heap H locs) (hl : lv_has ls 7 [(0, .ref (wad E 53)), (1, .ref (wad E ky1)), (2, .int y2), (3, .int y3), (4, .int y4), (5, .int y5), (6, .int y6)]) : W p l e ({ frames := 4, cells := 0, slots := 0, locals := 92 } : Room) s m args below meth c H locs 0 0 (MQ below (wQ E none res) args s 0 0 (wA E)) (F0 m 40 ls []) := by
  unfold fX6_fill_40_b at hf
  obtain ⟨hx, hb, hr, hml, hown, hts, hlocks, hG, hV, hZ⟩ := id B
  refine lv_iload hx hb dX6_fill_40 (lv_at hl 6 rfl) ?_
  refine lv_iload hx hb dX6_fill_42 (lv_at hl 5 rfl) ?_
  refine lv_iadd hx hb dX6_fill_44 ?_
  refine lv_iload_n hx hb dX6_fill_45 rfl (lv_at hl 3 rfl) ?_
  rcases wif_e hf with ⟨hq3, hf⟩ | ⟨hq3, hf⟩
  · refine lv_icmp_gt (tgt := 82) hx hb dX6_fill_46 (by decide) (fun _ => ?_) (fun h => absurd hq3 h)
    obtain ⟨x4, ex4, hf⟩ := wlet_e hf
    refine lv_iinc (v := x4) (lv' := [(5, .int x4), (0, .ref (wad E 53)), (1, .ref (wad E ky1)), (2, .int y2), (3, .int y3), (4, .int y4), (6, .int y6)]) hx hb dX6_fill_82 hl (k := 5) rfl (by rw [ex4]; rfl) (by decide) rfl (fun ls hl => ?_)
    refine lv_goto (tgt := 29) hx hb dX6_fill_85 (by decide) ?_
    exact hrec29 x4 M hf _ _ _ hW hS (lv_sub hl [1, 2, 3, 4, 5, 0] rfl)
  · refine lv_icmp_gt (tgt := 82) hx hb dX6_fill_46 (by decide) (fun h => absurd h hq3) (fun _ => ?_)
    refine lv_aload_n hx hb dX6_fill_49 rfl (lv_at hl 0 rfl) ?_
    refine wm_get hx hb hts wu_X6 hown hV hW (wlt_5 (rfl : wkd 53 = 5)) (wen_5 (rfl : wkd 53 = 5)) (C := RX6) (T := TX6) (N := 1) rfl 0 (by decide) (hts _ wA_216) rfl dX6_fill_50 ?_
    refine lv_iload hx hb dX6_fill_53 (lv_at hl 6 rfl) ?_
    obtain ⟨hi5, hf⟩ := wgi_e hf
    refine wm_aldA hx hb hV hW (rfl : wkd 54 = 23) hi5 dX6_fill_55 ?_
    refine lv_iload hx hb dX6_fill_56 (lv_at hl 6 rfl) ?_
    refine lv_iload hx hb dX6_fill_58 (lv_at hl 5 rfl) ?_
    refine lv_iadd hx hb dX6_fill_60 ?_
    refine lv_aload_n hx hb dX6_fill_61 rfl (lv_at hl 0 rfl) ?_
    refine lv_aload_n hx hb dX6_fill_62 rfl (lv_at hl 1 rfl) ?_
    refine lv_iload hx hb dX6_fill_63 (lv_at hl 6 rfl) ?_
    refine lv_iload hx hb dX6_fill_65 (lv_at hl 6 rfl) ?_
    refine lv_iload hx hb dX6_fill_67 (lv_at hl 5 rfl) ?_
    refine lv_iadd hx hb dX6_fill_69 ?_
    refine lv_iload hx hb dX6_fill_70 (lv_at hl 4 rfl) ?_
    obtain ⟨r7, hc6, hf⟩ := wbind_e hf
    refine wc_V (As := [.ref (wad E ky1), .int y6, .int (y6 + y5), .int y4]) (rest := [.int (y6 + y5), .ref (wad E (54 + 1 + Int32.toNatClampNeg y6))]) hx hb hml hown hts hG hV hZ (wlt_5 (rfl : wkd 53 = 5)) (q := (RX6, TX6, 1)) (wen_5 (rfl : wkd 53 = 5)) rfl (cX6_leastOf_ok l E M ky1 hky1 y6 (y6 + y5) y4 hc6) (cwV 4 hts gl_X6_38 rfl rfl rfl cdX6_leastOf ⟨Nat.le_of_ble_eq_true rfl, Nat.le_of_ble_eq_true rfl⟩) rfl hl.1 rfl (Nat.le_of_ble_eq_true rfl) dX6_fill_72 ⟨Nat.zero_le _, Nat.zero_le _⟩ hW hS rfl (fun H locs hW hS => ?_)
    obtain ⟨hi8, hf⟩ := wgi_e hf
    refine wm_iast hx hb hG hV hW hS (wk23_i (rfl : wkd 54 = 23) hi5) (n := 12) (wl23_i (rfl : wkd 54 = 23) hi5) hi8 dX6_fill_75 (fun H locs hW hS => ?_)
    obtain ⟨M9, hW, hf⟩ := wlet_M hW hf
    obtain ⟨x10, ex10, hf⟩ := wlet_e hf
    refine lv_iinc (v := x10) (lv' := [(6, .int x10), (0, .ref (wad E 53)), (1, .ref (wad E ky1)), (2, .int y2), (3, .int y3), (4, .int y4), (5, .int y5)]) hx hb dX6_fill_76 hl (k := 6) rfl (by rw [ex10]; rfl) (by decide) rfl (fun ls hl => ?_)
    refine lv_goto (tgt := 40) hx hb dX6_fill_79 (by decide) ?_
    exact hrec40 x10 M9 hf _ _ _ hW hS (lv_sub hl [1, 2, 3, 4, 5, 6, 0] rfl)
set_option maxRecDepth 100000 in
set_option maxHeartbeats 4000000 in
theorem pX6_fill_40 (B : wB E p s m args meth c cX6_fill 7 RX6 none) {M : wMem} {ky1 : Nat} {y2 : Int32} {y3 : Int32} {y4 : Int32} {y5 : Int32} {y6 : Int32} {rec29 : (Int32 × wMem → Option (wMem))} {res : wMem} (hky1 : wkd ky1 = 4) (hrec29 : ∀ (y5' : Int32) (M' : wMem), rec29 (y5', M') = some res → ∀ (H : Heap) (locs : List Loc) (ls : Array Slot), wH E M' H → va_S (wA E) s.heap H locs → lv_has ls 7 [(0, .ref (wad E 53)), (1, .ref (wad E ky1)), (2, .int y2), (3, .int y3), (4, .int y4), (5, .int y5')] → W p l e ({ frames := 4, cells := 0, slots := 0, locals := 92 } : Room) s m args below meth c H locs 0 0 (MQ below (wQ E none res) args s 0 0 (wA E)) (F0 m 29 ls [])) (hf : fX6_fill_40 M rec29 ky1 y2 y3 y4 y5 y6 = some res) {H : Heap} {locs : List Loc} {ls : Array Slot} (hW : wH E M H) (hS : va_S (wA E) s.heap H locs) (hl : lv_has ls 7 [(0, .ref (wad E 53)), (1, .ref (wad E ky1)), (2, .int y2), (3, .int y3), (4, .int y4), (5, .int y5), (6, .int y6)]) : W p l e ({ frames := 4, cells := 0, slots := 0, locals := 92 } : Room) s m args below meth c H locs 0 0 (MQ below (wQ E none res) args s 0 0 (wA E)) (F0 m 40 ls []) := by
  have key := wloop_W (b := (fun rec40 t => fX6_fill_40_b t.2 rec29 rec40 ky1 y2 y3 y4 y5 t.1)) (P := fun t => ∀ (H : Heap) (locs : List Loc) (ls : Array Slot), wH E t.2 H → va_S (wA E) s.heap H locs → lv_has ls 7 [(0, .ref (wad E 53)), (1, .ref (wad E ky1)), (2, .int y2), (3, .int y3), (4, .int y4), (5, .int y5), (6, .int t.1)] → W p l e ({ frames := 4, cells := 0, slots := 0, locals := 92 } : Room) s m args below meth c H locs 0 0 (MQ below (wQ E none res) args s 0 0 (wA E)) (F0 m 40 ls [])) (r := res) (fun rec hrec t hf H locs ls hW hS hl => pX6_fill_40_b B hky1 hrec29 (fun v0 v1 hf H locs ls hW hS hl => hrec (v0, v1) hf H locs ls hW hS hl) hf hW hS hl)
  exact key wfuel (y6, M) hf H locs ls hW hS hl
set_option maxRecDepth 100000 in
set_option maxHeartbeats 4000000 in
theorem pX6_fill_29_b (B : wB E p s m args meth c cX6_fill 7 RX6 none) {M : wMem} {ky1 : Nat} {y2 : Int32} {y3 : Int32} {y4 : Int32} {y5 : Int32}  {rec29 : (Int32 × wMem → Option (wMem))} {res : wMem} (hky1 : wkd ky1 = 4)  (hrec29 : ∀ (y5' : Int32) (M' : wMem), rec29 (y5', M') = some res → ∀ (H : Heap) (locs : List Loc) (ls : Array Slot), wH E M' H → va_S (wA E) s.heap H locs → lv_has ls 7 [(0, .ref (wad E 53)), (1, .ref (wad E ky1)), (2, .int y2), (3, .int y3), (4, .int y4), (5, .int y5')] → W p l e ({ frames := 4, cells := 0, slots := 0, locals := 92 } : Room) s m args below meth c H locs 0 0 (MQ below (wQ E none res) args s 0 0 (wA E)) (F0 m 29 ls [])) (hf : fX6_fill_29_b M  rec29 ky1 y2 y3 y4 y5 = some res) {H : Heap} {locs : List Loc} {ls : Array Slot} (hW : wH E M H) (hS : va_S (wA E) s.heap H locs) (hl : lv_has ls 7 [(0, .ref (wad E 53)), (1, .ref (wad E ky1)), (2, .int y2), (3, .int y3), (4, .int y4), (5, .int y5)]) : W p l e ({ frames := 4, cells := 0, slots := 0, locals := 92 } : Room) s m args below meth c H locs 0 0 (MQ below (wQ E none res) args s 0 0 (wA E)) (F0 m 29 ls []) := by
  unfold fX6_fill_29_b at hf
  obtain ⟨hx, hb, hr, hml, hown, hts, hlocks, hG, hV, hZ⟩ := id B
  refine lv_iload hx hb dX6_fill_29 (lv_at hl 5 rfl) ?_
  refine lv_iload_n hx hb dX6_fill_31 rfl (lv_at hl 3 rfl) ?_
  refine lv_iload_n hx hb dX6_fill_32 rfl (lv_at hl 2 rfl) ?_
  refine lv_isub hx hb dX6_fill_33 ?_
  rcases wif_e hf with ⟨hq2, hf⟩ | ⟨hq2, hf⟩
  · refine lv_icmp_gt (tgt := 88) hx hb dX6_fill_34 (by decide) (fun _ => ?_) (fun h => absurd hq2 h)
    have hres := Option.some.inj hf
    subst hres
    exact W.vret hx hb hr (wr_q hG hV hZ hW hS) hS.2.2 dX6_fill_88
  · refine lv_icmp_gt (tgt := 88) hx hb dX6_fill_34 (by decide) (fun h => absurd h hq2) (fun _ => ?_)
    refine lv_iload_n hx hb dX6_fill_37 rfl (lv_at hl 2 rfl) ?_
    refine lv_istore (lv' := [(6, .int y2), (0, .ref (wad E 53)), (1, .ref (wad E ky1)), (2, .int y2), (3, .int y3), (4, .int y4), (5, .int y5)]) hx hb dX6_fill_38 hl (by decide) rfl (fun ls hl => ?_)
    exact pX6_fill_40 B hky1 hrec29 hf hW hS (lv_sub hl [1, 2, 3, 4, 5, 6, 0] rfl)
set_option maxRecDepth 100000 in
set_option maxHeartbeats 4000000 in
theorem pX6_fill_29 (B : wB E p s m args meth c cX6_fill 7 RX6 none) {M : wMem} {ky1 : Nat} {y2 : Int32} {y3 : Int32} {y4 : Int32} {y5 : Int32}  {res : wMem} (hky1 : wkd ky1 = 4)  (hf : fX6_fill_29 M  ky1 y2 y3 y4 y5 = some res) {H : Heap} {locs : List Loc} {ls : Array Slot} (hW : wH E M H) (hS : va_S (wA E) s.heap H locs) (hl : lv_has ls 7 [(0, .ref (wad E 53)), (1, .ref (wad E ky1)), (2, .int y2), (3, .int y3), (4, .int y4), (5, .int y5)]) : W p l e ({ frames := 4, cells := 0, slots := 0, locals := 92 } : Room) s m args below meth c H locs 0 0 (MQ below (wQ E none res) args s 0 0 (wA E)) (F0 m 29 ls []) := by
  have key := wloop_W (b := (fun rec29 t => fX6_fill_29_b t.2  rec29 ky1 y2 y3 y4 t.1)) (P := fun t => ∀ (H : Heap) (locs : List Loc) (ls : Array Slot), wH E t.2 H → va_S (wA E) s.heap H locs → lv_has ls 7 [(0, .ref (wad E 53)), (1, .ref (wad E ky1)), (2, .int y2), (3, .int y3), (4, .int y4), (5, .int t.1)] → W p l e ({ frames := 4, cells := 0, slots := 0, locals := 92 } : Room) s m args below meth c H locs 0 0 (MQ below (wQ E none res) args s 0 0 (wA E)) (F0 m 29 ls [])) (r := res) (fun rec hrec t hf H locs ls hW hS hl => pX6_fill_29_b B hky1  (fun v0 v1 hf H locs ls hW hS hl => hrec (v0, v1) hf H locs ls hW hS hl) hf hW hS hl)
  exact key wfuel (y5, M) hf H locs ls hW hS hl
set_option maxRecDepth 100000 in
set_option maxHeartbeats 4000000 in
theorem pX6_fill_3_b (B : wB E p s m args meth c cX6_fill 7 RX6 none) {M : wMem} {ky1 : Nat} {y2 : Int32} {y3 : Int32} {y4 : Int32} {y5 : Int32}  {rec3 : (Int32 × wMem → Option (wMem))} {res : wMem} (hky1 : wkd ky1 = 4)  (hrec3 : ∀ (y5' : Int32) (M' : wMem), rec3 (y5', M') = some res → ∀ (H : Heap) (locs : List Loc) (ls : Array Slot), wH E M' H → va_S (wA E) s.heap H locs → lv_has ls 7 [(0, .ref (wad E 53)), (1, .ref (wad E ky1)), (2, .int y2), (3, .int y3), (4, .int y4), (5, .int y5')] → W p l e ({ frames := 4, cells := 0, slots := 0, locals := 92 } : Room) s m args below meth c H locs 0 0 (MQ below (wQ E none res) args s 0 0 (wA E)) (F0 m 3 ls [])) (hf : fX6_fill_3_b M  rec3 ky1 y2 y3 y4 y5 = some res) {H : Heap} {locs : List Loc} {ls : Array Slot} (hW : wH E M H) (hS : va_S (wA E) s.heap H locs) (hl : lv_has ls 7 [(0, .ref (wad E 53)), (1, .ref (wad E ky1)), (2, .int y2), (3, .int y3), (4, .int y4), (5, .int y5)]) : W p l e ({ frames := 4, cells := 0, slots := 0, locals := 92 } : Room) s m args below meth c H locs 0 0 (MQ below (wQ E none res) args s 0 0 (wA E)) (F0 m 3 ls []) := by
  unfold fX6_fill_3_b at hf
  obtain ⟨hx, hb, hr, hml, hown, hts, hlocks, hG, hV, hZ⟩ := id B
  refine lv_iload hx hb dX6_fill_3 (lv_at hl 5 rfl) ?_
  refine lv_iload_n hx hb dX6_fill_5 rfl (lv_at hl 3 rfl) ?_
  rcases wif_e hf with ⟨hq1, hf⟩ | ⟨hq1, hf⟩
  · refine lv_icmp_gt (tgt := 26) hx hb dX6_fill_6 (by decide) (fun _ => ?_) (fun h => absurd hq1 h)
    refine lv_iconst (v := 1) hx hb dX6_fill_26 rfl ?_
    refine lv_istore (lv' := [(5, .int 1), (0, .ref (wad E 53)), (1, .ref (wad E ky1)), (2, .int y2), (3, .int y3), (4, .int y4)]) hx hb dX6_fill_27 hl (by decide) rfl (fun ls hl => ?_)
    exact pX6_fill_29 B hky1  hf hW hS (lv_sub hl [1, 2, 3, 4, 5, 0] rfl)
  · refine lv_icmp_gt (tgt := 26) hx hb dX6_fill_6 (by decide) (fun h => absurd h hq1) (fun _ => ?_)
    refine lv_aload_n hx hb dX6_fill_9 rfl (lv_at hl 0 rfl) ?_
    refine wm_get hx hb hts wu_X6 hown hV hW (wlt_5 (rfl : wkd 53 = 5)) (wen_5 (rfl : wkd 53 = 5)) (C := RX6) (T := TX6) (N := 1) rfl 0 (by decide) (hts _ wA_216) rfl dX6_fill_10 ?_
    refine lv_iload hx hb dX6_fill_13 (lv_at hl 5 rfl) ?_
    obtain ⟨hi11, hf⟩ := wgi_e hf
    refine wm_aldA hx hb hV hW (rfl : wkd 54 = 23) hi11 dX6_fill_15 ?_
    refine lv_iload hx hb dX6_fill_16 (lv_at hl 5 rfl) ?_
    refine lv_iconst (v := 0) hx hb dX6_fill_18 rfl ?_
    obtain ⟨hi12, hf⟩ := wgi_e hf
    refine wm_iast hx hb hG hV hW hS (wk23_i (rfl : wkd 54 = 23) hi11) (n := 12) (wl23_i (rfl : wkd 54 = 23) hi11) hi12 dX6_fill_19 (fun H locs hW hS => ?_)
    obtain ⟨M13, hW, hf⟩ := wlet_M hW hf
    obtain ⟨x14, ex14, hf⟩ := wlet_e hf
    refine lv_iinc (v := x14) (lv' := [(5, .int x14), (0, .ref (wad E 53)), (1, .ref (wad E ky1)), (2, .int y2), (3, .int y3), (4, .int y4)]) hx hb dX6_fill_20 hl (k := 5) rfl (by rw [ex14]; rfl) (by decide) rfl (fun ls hl => ?_)
    refine lv_goto (tgt := 3) hx hb dX6_fill_23 (by decide) ?_
    exact hrec3 x14 M13 hf _ _ _ hW hS (lv_sub hl [1, 2, 3, 4, 5, 0] rfl)
set_option maxRecDepth 100000 in
set_option maxHeartbeats 4000000 in
theorem pX6_fill_3 (B : wB E p s m args meth c cX6_fill 7 RX6 none) {M : wMem} {ky1 : Nat} {y2 : Int32} {y3 : Int32} {y4 : Int32} {y5 : Int32}  {res : wMem} (hky1 : wkd ky1 = 4)  (hf : fX6_fill_3 M  ky1 y2 y3 y4 y5 = some res) {H : Heap} {locs : List Loc} {ls : Array Slot} (hW : wH E M H) (hS : va_S (wA E) s.heap H locs) (hl : lv_has ls 7 [(0, .ref (wad E 53)), (1, .ref (wad E ky1)), (2, .int y2), (3, .int y3), (4, .int y4), (5, .int y5)]) : W p l e ({ frames := 4, cells := 0, slots := 0, locals := 92 } : Room) s m args below meth c H locs 0 0 (MQ below (wQ E none res) args s 0 0 (wA E)) (F0 m 3 ls []) := by
  have key := wloop_W (b := (fun rec3 t => fX6_fill_3_b t.2  rec3 ky1 y2 y3 y4 t.1)) (P := fun t => ∀ (H : Heap) (locs : List Loc) (ls : Array Slot), wH E t.2 H → va_S (wA E) s.heap H locs → lv_has ls 7 [(0, .ref (wad E 53)), (1, .ref (wad E ky1)), (2, .int y2), (3, .int y3), (4, .int y4), (5, .int t.1)] → W p l e ({ frames := 4, cells := 0, slots := 0, locals := 92 } : Room) s m args below meth c H locs 0 0 (MQ below (wQ E none res) args s 0 0 (wA E)) (F0 m 3 ls [])) (r := res) (fun rec hrec t hf H locs ls hW hS hl => pX6_fill_3_b B hky1  (fun v0 v1 hf H locs ls hW hS hl => hrec (v0, v1) hf H locs ls hW hS hl) hf hW hS hl)
  exact key wfuel (y5, M) hf H locs ls hW hS hl
set_option maxRecDepth 100000 in
set_option maxHeartbeats 4000000 in
theorem pX6_fill (B : wB E p s m args meth c cX6_fill 7 RX6 none) {M : wMem} {k1 : Nat} {a2 : Int32} {a3 : Int32} {a4 : Int32} (hk1 : wkd k1 = 4) {res : wMem} (hf : fX6_fill M k1 a2 a3 a4 = some res) {H : Heap} {locs : List Loc} {ls : Array Slot} (hW : wH E M H) (hS : va_S (wA E) s.heap H locs) (hl : lv_has ls 7 [(0, .ref (wad E 53)), (1, .ref (wad E k1)), (2, .int a2), (3, .int a3), (4, .int a4)]) : W p l e ({ frames := 4, cells := 0, slots := 0, locals := 92 } : Room) s m args below meth c H locs 0 0 (MQ below (wQ E none res) args s 0 0 (wA E)) (F0 m 0 ls []) := by
  unfold fX6_fill at hf
  obtain ⟨hx, hb, hr, hml, hown, hts, hlocks, hG, hV, hZ⟩ := id B
  refine lv_iload_n hx hb dX6_fill_0 rfl (lv_at hl 2 rfl) ?_
  refine lv_istore (lv' := [(5, .int a2), (0, .ref (wad E 53)), (1, .ref (wad E k1)), (2, .int a2), (3, .int a3), (4, .int a4)]) hx hb dX6_fill_1 hl (by decide) rfl (fun ls hl => ?_)
  exact pX6_fill_3 B hk1  hf hW hS (lv_sub hl [1, 2, 3, 4, 5, 0] rfl)
theorem cX6_fill_ok (l : Launch) (E : wE) (M : wMem) (k1 : Nat) (hk1 : wkd k1 = 4) (a2 : Int32) (a3 : Int32) (a4 : Int32) {res : wMem} (hf : fX6_fill M k1 a2 a3 a4 = some res) : wMet l yX6_fill (wsM yX6_fill cX6_fill 7 none) ({ frames := 4, cells := 0, slots := 0, locals := 92 } : Room) E M [.ref (wad E 53), .ref (wad E k1), .int a2, .int a3, .int a4] none res :=
  wc_of (cc := cX6_fill) (maxL := 7) (ret := none) (by decide) (Nat.le_of_ble_eq_true rfl) (fun _ _ _ _ _ _ _ _ B hW hl => pX6_fill B hk1 hf hW va_S.rf hl)
end
theorem cdX6_leastCost : yX6_leastCost.cls = RX6 ∧ yX6_leastCost.cls ≠ "java/lang/invoke/MethodHandle" ∧ yX6_leastCost.cls ≠ "java/lang/invoke/VarHandle" ∧ (parseMethodDescriptor yX6_leastCost.desc).map (fun d => d.parameters.length) = some 4 := by decide +kernel
section
variable {p : Program} {l : Launch} {e : Env} {s : State} {m : MethodId} {args : Array Value} {below : List Frame} {meth : Method} {c : Code} {E : wE}
set_option maxRecDepth 100000 in
set_option maxHeartbeats 4000000 in
theorem pX6_leastCost (B : wB E p s m args meth c cX6_leastCost 5 RX6 (some .int)) {M : wMem} {k1 : Nat} {a2 : Int32} {a3 : Int32} {a4 : Int32} (hk1 : wkd k1 = 4) {res : Int32 × wMem} (hf : fX6_leastCost M k1 a2 a3 a4 = some res) {H : Heap} {locs : List Loc} {ls : Array Slot} (hW : wH E M H) (hS : va_S (wA E) s.heap H locs) (hl : lv_has ls 5 [(0, .ref (wad E 53)), (1, .ref (wad E k1)), (2, .int a2), (3, .int a3), (4, .int a4)]) : W p l e ({ frames := 5, cells := 0, slots := 0, locals := 118 } : Room) s m args below meth c H locs 0 0 (MQ below (wQ E (some (.int res.1)) res.2) args s 0 0 (wA E)) (F0 m 0 ls []) := by
  unfold fX6_leastCost at hf
  obtain ⟨hx, hb, hr, hml, hown, hts, hlocks, hG, hV, hZ⟩ := id B
  refine lv_aload_n hx hb dX6_leastCost_0 rfl (lv_at hl 1 rfl) ?_
  refine lv_iload_n hx hb dX6_leastCost_1 rfl (lv_at hl 2 rfl) ?_
  refine lv_iload_n hx hb dX6_leastCost_2 rfl (lv_at hl 3 rfl) ?_
  obtain ⟨r2, hc1, hf⟩ := wbind_e hf
  refine wc_V (As := [.int a2, .int a3]) (rest := []) hx hb hml hown hts hG hV hZ (wlt_4 hk1) (q := (RX5, TX5, 4)) (wen_4 hk1) rfl (cX5_hasStretch_ok l E M k1 hk1 a2 a3 hc1) (cwV 2 hts gl_X6_16 rfl rfl rfl cdX5_hasStretch ⟨Nat.le_of_ble_eq_true rfl, Nat.le_of_ble_eq_true rfl⟩) rfl hl.1 rfl (Nat.le_of_ble_eq_true rfl) dX6_leastCost_3 ⟨Nat.zero_le _, Nat.zero_le _⟩ hW hS rfl (fun H locs hW hS => ?_)
  rcases wif_e hf with ⟨hq3, hf⟩ | ⟨hq3, hf⟩
  · refine lv_if_ne (tgt := 11) hx hb dX6_leastCost_6 (by decide) (fun h => absurd hq3 h) (fun _ => ?_)
    refine lv_iconst (v := 0) hx hb dX6_leastCost_9 rfl ?_
    have hres := Option.some.inj hf
    subst hres
    exact W.iret hx hb hr (wr_q hG hV hZ hW hS) hS.2.2 dX6_leastCost_10
  · refine lv_if_ne (tgt := 11) hx hb dX6_leastCost_6 (by decide) (fun _ => ?_) (fun h => absurd h hq3)
    refine lv_aload_n hx hb dX6_leastCost_11 rfl (lv_at hl 0 rfl) ?_
    refine lv_aload_n hx hb dX6_leastCost_12 rfl (lv_at hl 1 rfl) ?_
    refine lv_iload_n hx hb dX6_leastCost_13 rfl (lv_at hl 2 rfl) ?_
    refine lv_iload_n hx hb dX6_leastCost_14 rfl (lv_at hl 3 rfl) ?_
    refine lv_iload hx hb dX6_leastCost_15 (lv_at hl 4 rfl) ?_
    obtain ⟨M6, hc4, hf⟩ := wbind_e hf
    refine wc_V (As := [.ref (wad E k1), .int a2, .int a3, .int a4]) (rest := []) hx hb hml hown hts hG hV hZ (wlt_5 (rfl : wkd 53 = 5)) (q := (RX6, TX6, 1)) (wen_5 (rfl : wkd 53 = 5)) rfl (cX6_fill_ok l E M k1 hk1 a2 a3 a4 hc4) (cwV 4 hts gl_X6_22 rfl rfl rfl cdX6_fill ⟨Nat.le_of_ble_eq_true rfl, Nat.le_of_ble_eq_true rfl⟩) rfl hl.1 rfl (Nat.le_of_ble_eq_true rfl) dX6_leastCost_17 ⟨Nat.zero_le _, Nat.zero_le _⟩ hW hS rfl (fun H locs hW hS => ?_)
    refine lv_aload_n hx hb dX6_leastCost_20 rfl (lv_at hl 0 rfl) ?_
    refine wm_get hx hb hts wu_X6 hown hV hW (wlt_5 (rfl : wkd 53 = 5)) (wen_5 (rfl : wkd 53 = 5)) (C := RX6) (T := TX6) (N := 1) rfl 0 (by decide) (hts _ wA_216) rfl dX6_leastCost_21 ?_
    refine lv_iload_n hx hb dX6_leastCost_24 rfl (lv_at hl 2 rfl) ?_
    obtain ⟨hi7, hf⟩ := wgi_e hf
    refine wm_aldA hx hb hV hW (rfl : wkd 54 = 23) hi7 dX6_leastCost_25 ?_
    refine lv_iload_n hx hb dX6_leastCost_26 rfl (lv_at hl 3 rfl) ?_
    obtain ⟨hi8, hf⟩ := wgi_e hf
    refine wm_iald hx hb hV hW (wk23_i (rfl : wkd 54 = 23) hi7) (n := 12) (wl23_i (rfl : wkd 54 = 23) hi7) hi8 dX6_leastCost_27 ?_
    have hres := Option.some.inj hf
    subst hres
    exact W.iret hx hb hr (wr_q hG hV hZ hW hS) hS.2.2 dX6_leastCost_28
theorem cX6_leastCost_ok (l : Launch) (E : wE) (M : wMem) (k1 : Nat) (hk1 : wkd k1 = 4) (a2 : Int32) (a3 : Int32) (a4 : Int32) {res : Int32 × wMem} (hf : fX6_leastCost M k1 a2 a3 a4 = some res) : wMet l yX6_leastCost (wsM yX6_leastCost cX6_leastCost 5 (some .int)) ({ frames := 5, cells := 0, slots := 0, locals := 118 } : Room) E M [.ref (wad E 53), .ref (wad E k1), .int a2, .int a3, .int a4] (some (.int res.1)) res.2 :=
  wc_of (cc := cX6_leastCost) (maxL := 5) (ret := (some .int)) (by decide) (Nat.le_of_ble_eq_true rfl) (fun _ _ _ _ _ _ _ _ B hW hl => pX6_leastCost B hk1 hf hW va_S.rf hl)
end
theorem cdX9_find : yX9_find.cls = RX9 ∧ yX9_find.cls ≠ "java/lang/invoke/MethodHandle" ∧ yX9_find.cls ≠ "java/lang/invoke/VarHandle" ∧ (parseMethodDescriptor yX9_find.desc).map (fun d => d.parameters.length) = some 3 := by decide +kernel
section
variable {p : Program} {l : Launch} {e : Env} {s : State} {m : MethodId} {args : Array Value} {below : List Frame} {meth : Method} {c : Code} {E : wE}
set_option maxRecDepth 100000 in
set_option maxHeartbeats 4000000 in
theorem pX9_find_34 (B : wB E p s m args meth c cX9_find 4 RX9 (some .int)) {M : wMem} {y1 : Int32} {y2 : Int32} {y3 : Int32}  {res : Int32 × wMem}   (hf : fX9_find_34 M  y1 y2 y3 = some res) {H : Heap} {locs : List Loc} {ls : Array Slot} (hW : wH E M H) (hS : va_S (wA E) s.heap H locs) (hl : lv_has ls 4 [(0, .ref (wad E 0)), (1, .int y1), (2, .int y2), (3, .int y3)]) : W p l e ({ frames := 6, cells := 0, slots := 0, locals := 142 } : Room) s m args below meth c H locs 0 0 (MQ below (wQ E (some (.int res.1)) res.2) args s 0 0 (wA E)) (F0 m 34 ls []) := by
  unfold fX9_find_34 at hf
  obtain ⟨hx, hb, hr, hml, hown, hts, hlocks, hG, hV, hZ⟩ := id B
  refine lv_aload_n hx hb dX9_find_34 rfl (lv_at hl 0 rfl) ?_
  refine wm_get hx hb hts wu_X9 hown hV hW (wlt_8 (rfl : wkd 0 = 8)) (wen_8 (rfl : wkd 0 = 8)) (C := RX9) (T := TX9) (N := 10) rfl 6 (by decide) (hts _ wA_237) rfl dX9_find_35 ?_
  refine lv_aload_n hx hb dX9_find_38 rfl (lv_at hl 0 rfl) ?_
  refine wm_get hx hb hts wu_X9 hown hV hW (wlt_8 (rfl : wkd 0 = 8)) (wen_8 (rfl : wkd 0 = 8)) (C := RX9) (T := TX9) (N := 10) rfl 0 (by decide) (hts _ wA_231) rfl dX9_find_39 ?_
  refine lv_iload_n hx hb dX9_find_42 rfl (lv_at hl 1 rfl) ?_
  refine lv_iload_n hx hb dX9_find_43 rfl (lv_at hl 2 rfl) ?_
  refine lv_iload_n hx hb dX9_find_44 rfl (lv_at hl 3 rfl) ?_
  obtain ⟨r6, M7, hc5, hf⟩ := wbind_p hf
  refine wc_V (As := [.ref (wad E 1), .int y1, .int y2, .int y3]) (rest := []) hx hb hml hown hts hG hV hZ (wlt_5 (rfl : wkd 53 = 5)) (q := (RX6, TX6, 1)) (wen_5 (rfl : wkd 53 = 5)) rfl (cX6_leastCost_ok l E M 1 (rfl : wkd 1 = 4) y1 y2 y3 hc5) (cwV 4 hts gl_X9_166 rfl rfl rfl cdX6_leastCost ⟨Nat.le_of_ble_eq_true rfl, Nat.le_of_ble_eq_true rfl⟩) rfl hl.1 rfl (Nat.le_of_ble_eq_true rfl) dX9_find_45 ⟨Nat.zero_le _, Nat.zero_le _⟩ hW hS rfl (fun H locs hW hS => ?_)
  have hres := Option.some.inj hf
  subst hres
  exact W.iret hx hb hr (wr_q hG hV hZ hW hS) hS.2.2 dX9_find_48
set_option maxRecDepth 100000 in
set_option maxHeartbeats 4000000 in
theorem pX9_find (B : wB E p s m args meth c cX9_find 4 RX9 (some .int)) {M : wMem} {a1 : Int32} {a2 : Int32} {a3 : Int32}  {res : Int32 × wMem} (hf : fX9_find M a1 a2 a3 = some res) {H : Heap} {locs : List Loc} {ls : Array Slot} (hW : wH E M H) (hS : va_S (wA E) s.heap H locs) (hl : lv_has ls 4 [(0, .ref (wad E 0)), (1, .int a1), (2, .int a2), (3, .int a3)]) : W p l e ({ frames := 6, cells := 0, slots := 0, locals := 142 } : Room) s m args below meth c H locs 0 0 (MQ below (wQ E (some (.int res.1)) res.2) args s 0 0 (wA E)) (F0 m 0 ls []) := by
  unfold fX9_find at hf
  obtain ⟨hx, hb, hr, hml, hown, hts, hlocks, hG, hV, hZ⟩ := id B
  refine lv_aload_n hx hb dX9_find_0 rfl (lv_at hl 0 rfl) ?_
  refine wm_get hx hb hts wu_X9 hown hV hW (wlt_8 (rfl : wkd 0 = 8)) (wen_8 (rfl : wkd 0 = 8)) (C := RX9) (T := TX9) (N := 10) rfl 0 (by decide) (hts _ wA_231) rfl dX9_find_1 ?_
  refine lv_iload_n hx hb dX9_find_4 rfl (lv_at hl 1 rfl) ?_
  refine lv_iload_n hx hb dX9_find_5 rfl (lv_at hl 2 rfl) ?_
  obtain ⟨r2, hc1, hf⟩ := wbind_e hf
  refine wc_V (As := [.int a1, .int a2]) (rest := []) hx hb hml hown hts hG hV hZ (wlt_4 (rfl : wkd 1 = 4)) (q := (RX5, TX5, 4)) (wen_4 (rfl : wkd 1 = 4)) rfl (cX5_hasStretch_ok l E M 1 (rfl : wkd 1 = 4) a1 a2 hc1) (cwV 2 hts gl_X9_156 rfl rfl rfl cdX5_hasStretch ⟨Nat.le_of_ble_eq_true rfl, Nat.le_of_ble_eq_true rfl⟩) rfl hl.1 rfl (Nat.le_of_ble_eq_true rfl) dX9_find_6 ⟨Nat.zero_le _, Nat.zero_le _⟩ hW hS rfl (fun H locs hW hS => ?_)
  rcases wif_e hf with ⟨hq3, hf⟩ | ⟨hq3, hf⟩
  · refine lv_if_ne (tgt := 18) hx hb dX9_find_9 (by decide) (fun h => absurd hq3 h) (fun _ => ?_)
    refine lv_aload_n hx hb dX9_find_12 rfl (lv_at hl 0 rfl) ?_
    refine lv_iconst (v := (-1)) hx hb dX9_find_13 rfl ?_
    obtain ⟨r13, M14, hc12, hf⟩ := wbind_p hf
    refine wc_V (As := [.int (-1)]) (rest := []) hx hb hml hown hts hG hV hZ (wlt_8 (rfl : wkd 0 = 8)) (q := (RX9, TX9, 10)) (wen_8 (rfl : wkd 0 = 8)) rfl (cX9_refuse_ok l E M (-1) hc12) (cwV 1 hts gl_X9_65 rfl rfl rfl cdX9_refuse ⟨Nat.le_of_ble_eq_true rfl, Nat.le_of_ble_eq_true rfl⟩) rfl hl.1 rfl (Nat.le_of_ble_eq_true rfl) dX9_find_14 ⟨Nat.zero_le _, Nat.zero_le _⟩ hW hS rfl (fun H locs hW hS => ?_)
    have hres := Option.some.inj hf
    subst hres
    exact W.iret hx hb hr (wr_q hG hV hZ hW hS) hS.2.2 dX9_find_17
  · refine lv_if_ne (tgt := 18) hx hb dX9_find_9 (by decide) (fun _ => ?_) (fun h => absurd h hq3)
    refine lv_iload_n hx hb dX9_find_18 rfl (lv_at hl 3 rfl) ?_
    rcases wif_e hf with ⟨hq4, hf⟩ | ⟨hq4, hf⟩
    · refine lv_if_eq (tgt := 34) hx hb dX9_find_19 (by decide) (fun _ => ?_) (fun h => absurd hq4 h)
      exact pX9_find_34 B   hf hW hS (lv_sub hl [0, 1, 2, 3] rfl)
    · refine lv_if_eq (tgt := 34) hx hb dX9_find_19 (by decide) (fun h => absurd h hq4) (fun _ => ?_)
      refine lv_iload_n hx hb dX9_find_22 rfl (lv_at hl 3 rfl) ?_
      refine lv_iconst (v := 1) hx hb dX9_find_23 rfl ?_
      rcases wif_e hf with ⟨hq8, hf⟩ | ⟨hq8, hf⟩
      · refine lv_icmp_eq (tgt := 34) hx hb dX9_find_24 (by decide) (fun _ => ?_) (fun h => absurd hq8 h)
        exact pX9_find_34 B   hf hW hS (lv_sub hl [0, 1, 2, 3] rfl)
      · refine lv_icmp_eq (tgt := 34) hx hb dX9_find_24 (by decide) (fun h => absurd h hq8) (fun _ => ?_)
        refine lv_aload_n hx hb dX9_find_27 rfl (lv_at hl 0 rfl) ?_
        refine lv_bipush (v := (-2)) hx hb dX9_find_28 (by decide) ?_
        obtain ⟨r10, M11, hc9, hf⟩ := wbind_p hf
        refine wc_V (As := [.int (-2)]) (rest := []) hx hb hml hown hts hG hV hZ (wlt_8 (rfl : wkd 0 = 8)) (q := (RX9, TX9, 10)) (wen_8 (rfl : wkd 0 = 8)) rfl (cX9_refuse_ok l E M (-2) hc9) (cwV 1 hts gl_X9_65 rfl rfl rfl cdX9_refuse ⟨Nat.le_of_ble_eq_true rfl, Nat.le_of_ble_eq_true rfl⟩) rfl hl.1 rfl (Nat.le_of_ble_eq_true rfl) dX9_find_30 ⟨Nat.zero_le _, Nat.zero_le _⟩ hW hS rfl (fun H locs hW hS => ?_)
        have hres := Option.some.inj hf
        subst hres
        exact W.iret hx hb hr (wr_q hG hV hZ hW hS) hS.2.2 dX9_find_33
theorem cX9_find_ok (l : Launch) (E : wE) (M : wMem) (a1 : Int32) (a2 : Int32) (a3 : Int32) {res : Int32 × wMem} (hf : fX9_find M a1 a2 a3 = some res) : wMet l yX9_find (wsM yX9_find cX9_find 4 (some .int)) ({ frames := 6, cells := 0, slots := 0, locals := 142 } : Room) E M [.ref (wad E 0), .int a1, .int a2, .int a3] (some (.int res.1)) res.2 :=
  wc_of (cc := cX9_find) (maxL := 4) (ret := (some .int)) (by decide) (Nat.le_of_ble_eq_true rfl) (fun _ _ _ _ _ _ _ _ B hW hl => pX9_find B  hf hW va_S.rf hl)
end
theorem cdX6_bestPlace : yX6_bestPlace.cls = RX6 ∧ yX6_bestPlace.cls ≠ "java/lang/invoke/MethodHandle" ∧ yX6_bestPlace.cls ≠ "java/lang/invoke/VarHandle" ∧ (parseMethodDescriptor yX6_bestPlace.desc).map (fun d => d.parameters.length) = some 4 := by decide +kernel
section
variable {p : Program} {l : Launch} {e : Env} {s : State} {m : MethodId} {args : Array Value} {below : List Frame} {meth : Method} {c : Code} {E : wE}
set_option maxRecDepth 100000 in
set_option maxHeartbeats 4000000 in
theorem pX6_bestPlace_24_b (B : wB E p s m args meth c cX6_bestPlace 8 RX6 (some .int)) {M : wMem} {ky1 : Nat} {y2 : Int32} {y3 : Int32} {y4 : Int32} {y5 : Int32} {y6 : Int32} {y7 : Int32}  {rec24 : (Int32 → Option (Int32 × wMem))} {res : Int32 × wMem} (hky1 : wkd ky1 = 4)  (hrec24 : ∀ (y7' : Int32), rec24 (y7') = some res → ∀ (H : Heap) (locs : List Loc) (ls : Array Slot), wH E M H → va_S (wA E) s.heap H locs → lv_has ls 8 [(0, .ref (wad E 53)), (1, .ref (wad E ky1)), (2, .int y2), (3, .int y3), (4, .int y4), (5, .int y5), (6, .int y6), (7, .int y7')] → W p l e ({ frames := 6, cells := 0, slots := 0, locals := 142 } : Room) s m args below meth c H locs 0 0 (MQ below (wQ E (some (.int res.1)) res.2) args s 0 0 (wA E)) (F0 m 24 ls [])) (hf : fX6_bestPlace_24_b M  rec24 ky1 y2 y3 y4 y5 y6 y7 = some res) {H : Heap} {locs : List Loc} {ls : Array Slot} (hW : wH E M H) (hS : va_S (wA E) s.heap H locs) (hl : lv_has ls 8 [(0, .ref (wad E 53)), (1, .ref (wad E ky1)), (2, .int y2), (3, .int y3), (4, .int y4), (5, .int y5), (6, .int y6), (7, .int y7)]) : W p l e ({ frames := 6, cells := 0, slots := 0, locals := 142 } : Room) s m args below meth c H locs 0 0 (MQ below (wQ E (some (.int res.1)) res.2) args s 0 0 (wA E)) (F0 m 24 ls []) := by
  unfold fX6_bestPlace_24_b at hf
  obtain ⟨hx, hb, hr, hml, hown, hts, hlocks, hG, hV, hZ⟩ := id B
  refine lv_iload hx hb dX6_bestPlace_24 (lv_at hl 7 rfl) ?_
  refine lv_iload_n hx hb dX6_bestPlace_26 rfl (lv_at hl 3 rfl) ?_
  rcases wif_e hf with ⟨hq7, hf⟩ | ⟨hq7, hf⟩
  · refine lv_icmp_gt (tgt := 57) hx hb dX6_bestPlace_27 (by decide) (fun _ => ?_) (fun h => absurd hq7 h)
    refine lv_bipush (v := (-9)) hx hb dX6_bestPlace_57 (by decide) ?_
    have hres := Option.some.inj hf
    subst hres
    exact W.iret hx hb hr (wr_q hG hV hZ hW hS) hS.2.2 dX6_bestPlace_59
  · refine lv_icmp_gt (tgt := 57) hx hb dX6_bestPlace_27 (by decide) (fun h => absurd h hq7) (fun _ => ?_)
    refine lv_aload_n hx hb dX6_bestPlace_30 rfl (lv_at hl 0 rfl) ?_
    refine lv_aload_n hx hb dX6_bestPlace_31 rfl (lv_at hl 1 rfl) ?_
    refine lv_iload_n hx hb dX6_bestPlace_32 rfl (lv_at hl 2 rfl) ?_
    refine lv_iload_n hx hb dX6_bestPlace_33 rfl (lv_at hl 3 rfl) ?_
    refine lv_iload hx hb dX6_bestPlace_34 (lv_at hl 7 rfl) ?_
    refine lv_iload hx hb dX6_bestPlace_36 (lv_at hl 6 rfl) ?_
    refine lv_iload hx hb dX6_bestPlace_38 (lv_at hl 4 rfl) ?_
    obtain ⟨r9, hc8, hf⟩ := wbind_e hf
    refine wc_V (As := [.ref (wad E ky1), .int y2, .int y3, .int y7, .int y6, .int y4]) (rest := []) hx hb hml hown hts hG hV hZ (wlt_5 (rfl : wkd 53 = 5)) (q := (RX6, TX6, 1)) (wen_5 (rfl : wkd 53 = 5)) rfl (cX6_costOf_ok l E M ky1 hky1 y2 y3 y7 y6 y4 hc8) (cwV 6 hts gl_X6_34 rfl rfl rfl cdX6_costOf ⟨Nat.le_of_ble_eq_true rfl, Nat.le_of_ble_eq_true rfl⟩) rfl hl.1 rfl (Nat.le_of_ble_eq_true rfl) dX6_bestPlace_40 ⟨Nat.zero_le _, Nat.zero_le _⟩ hW hS rfl (fun H locs hW hS => ?_)
    refine lv_iload hx hb dX6_bestPlace_43 (lv_at hl 5 rfl) ?_
    rcases wif_e hf with ⟨hq10, hf⟩ | ⟨hq10, hf⟩
    · refine lv_icmp_ne (tgt := 51) hx hb dX6_bestPlace_45 (by decide) (fun h => absurd hq10 h) (fun _ => ?_)
      refine lv_iload hx hb dX6_bestPlace_48 (lv_at hl 7 rfl) ?_
      have hres := Option.some.inj hf
      subst hres
      exact W.iret hx hb hr (wr_q hG hV hZ hW hS) hS.2.2 dX6_bestPlace_50
    · refine lv_icmp_ne (tgt := 51) hx hb dX6_bestPlace_45 (by decide) (fun _ => ?_) (fun h => absurd h hq10)
      obtain ⟨x11, ex11, hf⟩ := wlet_e hf
      refine lv_iinc (v := x11) (lv' := [(7, .int x11), (0, .ref (wad E 53)), (1, .ref (wad E ky1)), (2, .int y2), (3, .int y3), (4, .int y4), (5, .int y5), (6, .int y6)]) hx hb dX6_bestPlace_51 hl (k := 7) rfl (by rw [ex11]; rfl) (by decide) rfl (fun ls hl => ?_)
      refine lv_goto (tgt := 24) hx hb dX6_bestPlace_54 (by decide) ?_
      exact hrec24 x11 hf _ _ _ hW hS (lv_sub hl [1, 2, 3, 4, 5, 6, 7, 0] rfl)
set_option maxRecDepth 100000 in
set_option maxHeartbeats 4000000 in
theorem pX6_bestPlace_24 (B : wB E p s m args meth c cX6_bestPlace 8 RX6 (some .int)) {M : wMem} {ky1 : Nat} {y2 : Int32} {y3 : Int32} {y4 : Int32} {y5 : Int32} {y6 : Int32} {y7 : Int32}  {res : Int32 × wMem} (hky1 : wkd ky1 = 4)  (hf : fX6_bestPlace_24 M  ky1 y2 y3 y4 y5 y6 y7 = some res) {H : Heap} {locs : List Loc} {ls : Array Slot} (hW : wH E M H) (hS : va_S (wA E) s.heap H locs) (hl : lv_has ls 8 [(0, .ref (wad E 53)), (1, .ref (wad E ky1)), (2, .int y2), (3, .int y3), (4, .int y4), (5, .int y5), (6, .int y6), (7, .int y7)]) : W p l e ({ frames := 6, cells := 0, slots := 0, locals := 142 } : Room) s m args below meth c H locs 0 0 (MQ below (wQ E (some (.int res.1)) res.2) args s 0 0 (wA E)) (F0 m 24 ls []) := by
  have key := wloop_W (b := (fun rec24 t => fX6_bestPlace_24_b M  rec24 ky1 y2 y3 y4 y5 y6 t)) (P := fun t => ∀ (H : Heap) (locs : List Loc) (ls : Array Slot), wH E M H → va_S (wA E) s.heap H locs → lv_has ls 8 [(0, .ref (wad E 53)), (1, .ref (wad E ky1)), (2, .int y2), (3, .int y3), (4, .int y4), (5, .int y5), (6, .int y6), (7, .int t)] → W p l e ({ frames := 6, cells := 0, slots := 0, locals := 142 } : Room) s m args below meth c H locs 0 0 (MQ below (wQ E (some (.int res.1)) res.2) args s 0 0 (wA E)) (F0 m 24 ls [])) (r := res) (fun rec hrec t hf H locs ls hW hS hl => pX6_bestPlace_24_b B hky1  (fun v0 hf H locs ls hW hS hl => hrec (v0) hf H locs ls hW hS hl) hf hW hS hl)
  exact key wfuel (y7) hf H locs ls hW hS hl
set_option maxRecDepth 100000 in
set_option maxHeartbeats 4000000 in
theorem pX6_bestPlace (B : wB E p s m args meth c cX6_bestPlace 8 RX6 (some .int)) {M : wMem} {k1 : Nat} {a2 : Int32} {a3 : Int32} {a4 : Int32} (hk1 : wkd k1 = 4) {res : Int32 × wMem} (hf : fX6_bestPlace M k1 a2 a3 a4 = some res) {H : Heap} {locs : List Loc} {ls : Array Slot} (hW : wH E M H) (hS : va_S (wA E) s.heap H locs) (hl : lv_has ls 8 [(0, .ref (wad E 53)), (1, .ref (wad E k1)), (2, .int a2), (3, .int a3), (4, .int a4)]) : W p l e ({ frames := 6, cells := 0, slots := 0, locals := 142 } : Room) s m args below meth c H locs 0 0 (MQ below (wQ E (some (.int res.1)) res.2) args s 0 0 (wA E)) (F0 m 0 ls []) := by
  unfold fX6_bestPlace at hf
  obtain ⟨hx, hb, hr, hml, hown, hts, hlocks, hG, hV, hZ⟩ := id B
  refine lv_aload_n hx hb dX6_bestPlace_0 rfl (lv_at hl 0 rfl) ?_
  refine lv_aload_n hx hb dX6_bestPlace_1 rfl (lv_at hl 1 rfl) ?_
  refine lv_iload_n hx hb dX6_bestPlace_2 rfl (lv_at hl 2 rfl) ?_
  refine lv_iload_n hx hb dX6_bestPlace_3 rfl (lv_at hl 3 rfl) ?_
  refine lv_iload hx hb dX6_bestPlace_4 (lv_at hl 4 rfl) ?_
  obtain ⟨r2, M3, hc1, hf⟩ := wbind_p hf
  refine wc_V (As := [.ref (wad E k1), .int a2, .int a3, .int a4]) (rest := []) hx hb hml hown hts hG hV hZ (wlt_5 (rfl : wkd 53 = 5)) (q := (RX6, TX6, 1)) (wen_5 (rfl : wkd 53 = 5)) rfl (cX6_leastCost_ok l E M k1 hk1 a2 a3 a4 hc1) (cwV 4 hts gl_X6_26 rfl rfl rfl cdX6_leastCost ⟨Nat.le_of_ble_eq_true rfl, Nat.le_of_ble_eq_true rfl⟩) rfl hl.1 rfl (Nat.le_of_ble_eq_true rfl) dX6_bestPlace_6 ⟨Nat.zero_le _, Nat.zero_le _⟩ hW hS rfl (fun H locs hW hS => ?_)
  refine lv_istore (lv' := [(5, .int r2), (0, .ref (wad E 53)), (1, .ref (wad E k1)), (2, .int a2), (3, .int a3), (4, .int a4)]) hx hb dX6_bestPlace_9 hl (by decide) rfl (fun ls hl => ?_)
  refine lv_aload_n hx hb dX6_bestPlace_11 rfl (lv_at hl 2 rfl) ?_
  refine lv_iload_n hx hb dX6_bestPlace_12 rfl (lv_at hl 3 rfl) ?_
  refine lv_iload_n hx hb dX6_bestPlace_13 rfl (lv_at hl 4 rfl) ?_
  obtain ⟨r5, hc4, hf⟩ := wbind_e hf
  refine wc_S (As := [.ref (wad E k1), .int a2, .int a3]) (rest := []) hx hb hml hown hts hG hV hZ (cX6_weightOf_ok l E M3 k1 hk1 a2 a3 hc4) (va_cwS 3 hts gl_X6_30 rfl rfl rfl cdX6_weightOf ⟨Nat.le_of_ble_eq_true rfl, Nat.le_of_ble_eq_true rfl⟩) rfl hl.1 rfl (Nat.le_of_ble_eq_true rfl) dX6_bestPlace_14 ⟨Nat.zero_le _, Nat.zero_le _⟩ hW hS rfl (fun H locs hW hS => ?_)
  refine lv_istore (lv' := [(6, .int r5), (5, .int r2), (0, .ref (wad E 53)), (1, .ref (wad E k1)), (2, .int a2), (3, .int a3), (4, .int a4)]) hx hb dX6_bestPlace_17 hl (by decide) rfl (fun ls hl => ?_)
  refine lv_iload_n hx hb dX6_bestPlace_19 rfl (lv_at hl 4 rfl) ?_
  refine lv_iconst (v := 1) hx hb dX6_bestPlace_20 rfl ?_
  refine lv_iadd hx hb dX6_bestPlace_21 ?_
  refine lv_topi (fun x6 ex6 => ?_)
  replace hf := wlet_y ex6 hf
  refine lv_istore (lv' := [(7, .int x6), (6, .int r5), (5, .int r2), (0, .ref (wad E 53)), (1, .ref (wad E k1)), (2, .int a2), (3, .int a3), (4, .int a4)]) hx hb dX6_bestPlace_22 hl (by decide) rfl (fun ls hl => ?_)
  exact pX6_bestPlace_24 B hk1  hf hW hS (lv_sub hl [3, 4, 5, 6, 7, 2, 1, 0] rfl)
theorem cX6_bestPlace_ok (l : Launch) (E : wE) (M : wMem) (k1 : Nat) (hk1 : wkd k1 = 4) (a2 : Int32) (a3 : Int32) (a4 : Int32) {res : Int32 × wMem} (hf : fX6_bestPlace M k1 a2 a3 a4 = some res) : wMet l yX6_bestPlace (wsM yX6_bestPlace cX6_bestPlace 8 (some .int)) ({ frames := 6, cells := 0, slots := 0, locals := 142 } : Room) E M [.ref (wad E 53), .ref (wad E k1), .int a2, .int a3, .int a4] (some (.int res.1)) res.2 :=
  wc_of (cc := cX6_bestPlace) (maxL := 8) (ret := (some .int)) (by decide) (Nat.le_of_ble_eq_true rfl) (fun _ _ _ _ _ _ _ _ B hW hl => pX6_bestPlace B hk1 hf hW va_S.rf hl)
end
