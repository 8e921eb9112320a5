theorem cdX9_refuse : yX9_refuse.cls = RX9 ∧ yX9_refuse.cls ≠ "java/lang/invoke/MethodHandle" ∧ yX9_refuse.cls ≠ "java/lang/invoke/VarHandle" ∧ (parseMethodDescriptor yX9_refuse.desc).map (fun d => d.parameters.length) = some 1 := by decide +kernel
section
variable {p : Program} {l : Launch} {e : Env} {s : State} {m : MethodId} {args : Array Value} {below : List Frame} {meth : Method} {c : Code} {E : wE}
set_option maxRecDepth 100000 in
set_option maxHeartbeats 4000000 in
theorem pX9_refuse (B : wB E p s m args meth c cX9_refuse 3 RX9 (some .int)) {M : wMem} {a1 : Int32}  {res : Int32 × wMem} (hf : fX9_refuse M a1 = some res) {H : Heap} {locs : List Loc} {ls : Array Slot} (hW : wH E M H) (hS : va_S (wA E) s.heap H locs) (hl : lv_has ls 3 [(0, .ref (wad E 0)), (1, .int a1)]) : W p l e ({ frames := 0, cells := 0, slots := 0, locals := 0 } : Room) s m args below meth c H locs 0 0 (MQ below (wQ E (some (.int res.1)) res.2) args s 0 0 (wA E)) (F0 m 0 ls []) := by
  unfold fX9_refuse at hf
  obtain ⟨hx, hb, hr, hml, hown, hts, hlocks, hG, hV, hZ⟩ := id B
  refine lv_iconst (v := (-1)) hx hb dX9_refuse_0 rfl ?_
  refine lv_iload_n hx hb dX9_refuse_1 rfl (lv_at hl 1 rfl) ?_
  refine lv_isub hx hb dX9_refuse_2 ?_
  refine lv_topi (fun x1 ex1 => ?_)
  replace hf := wlet_y ex1 hf
  refine lv_istore_n (lv' := [(2, .int x1), (0, .ref (wad E 0)), (1, .int a1)]) hx hb dX9_refuse_3 rfl hl (by decide) rfl (fun ls hl => ?_)
  refine lv_iload_n hx hb dX9_refuse_4 rfl (lv_at hl 0 rfl) ?_
  rcases wif_e hf with ⟨hq2, hf⟩ | ⟨hq2, hf⟩
  · refine lv_if_lt (tgt := 24) hx hb dX9_refuse_5 (by decide) (fun _ => ?_) (fun h => absurd hq2 h)
    refine lv_iload_n hx hb dX9_refuse_24 rfl (lv_at hl 2 rfl) ?_
    have hres := Option.some.inj hf
    subst hres
    exact W.iret hx hb hr (wr_q hG hV hZ hW hS) hS.2.2 dX9_refuse_25
  · refine lv_if_lt (tgt := 24) hx hb dX9_refuse_5 (by decide) (fun h => absurd h hq2) (fun _ => ?_)
    refine lv_iload_n hx hb dX9_refuse_8 rfl (lv_at hl 0 rfl) ?_
    refine lv_bipush (v := 6) hx hb dX9_refuse_9 (by decide) ?_
    rcases wif_e hf with ⟨hq3, hf⟩ | ⟨hq3, hf⟩
    · refine lv_icmp_ge (tgt := 24) hx hb dX9_refuse_11 (by decide) (fun _ => ?_) (fun h => absurd hq3 h)
      refine lv_iload_n hx hb dX9_refuse_24 rfl (lv_at hl 2 rfl) ?_
      have hres := Option.some.inj hf
      subst hres
      exact W.iret hx hb hr (wr_q hG hV hZ hW hS) hS.2.2 dX9_refuse_25
    · refine lv_icmp_ge (tgt := 24) hx hb dX9_refuse_11 (by decide) (fun h => absurd h hq3) (fun _ => ?_)
      refine lv_aload_n hx hb dX9_refuse_14 rfl (lv_at hl 1 rfl) ?_
      refine wm_get hx hb hts wu_X9 hown hV hW (wlt_8 (rfl : wkd 0 = 8)) (wen_8 (rfl : wkd 0 = 8)) (C := RX9) (T := TX9) (N := 10) rfl 8 (by decide) (hts _ wA_239) rfl dX9_refuse_15 ?_
      refine lv_iload_n hx hb dX9_refuse_18 rfl (lv_at hl 0 rfl) ?_
      refine lv_dup2_11 hx hb dX9_refuse_19 rfl rfl ?_
      obtain ⟨hi4, hf⟩ := wgi_e hf
      refine wm_iald hx hb hV hW (rfl : wkd 69 = 21) (n := 6) rfl hi4 dX9_refuse_20 ?_
      refine lv_iconst (v := 1) hx hb dX9_refuse_21 rfl ?_
      refine lv_iadd hx hb dX9_refuse_22 ?_
      obtain ⟨hi5, hf⟩ := wgi_e hf
      refine wm_iast hx hb hG hV hW hS (rfl : wkd 69 = 21) (n := 6) rfl hi5 dX9_refuse_23 (fun H locs hW hS => ?_)
      obtain ⟨M6, hW, hf⟩ := wlet_M hW hf
      refine lv_iload_n hx hb dX9_refuse_24 rfl (lv_at hl 2 rfl) ?_
      have hres := Option.some.inj hf
      subst hres
      exact W.iret hx hb hr (wr_q hG hV hZ hW hS) hS.2.2 dX9_refuse_25
theorem cX9_refuse_ok (l : Launch) (E : wE) (M : wMem) (a1 : Int32) {res : Int32 × wMem} (hf : fX9_refuse M a1 = some res) : wMet l yX9_refuse (wsM yX9_refuse cX9_refuse 3 (some .int)) ({ frames := 0, cells := 0, slots := 0, locals := 0 } : Room) E M [.ref (wad E 0), .int a1] (some (.int res.1)) res.2 :=
  wc_of (cc := cX9_refuse) (maxL := 3) (ret := (some .int)) (by decide) (Nat.le_of_ble_eq_true rfl) (fun _ _ _ _ _ _ _ _ B hW hl => pX9_refuse B  hf hW va_S.rf hl)
end
theorem cdX2_add : yX2_add.cls = RX2 ∧ yX2_add.cls ≠ "java/lang/invoke/MethodHandle" ∧ yX2_add.cls ≠ "java/lang/invoke/VarHandle" ∧ (parseMethodDescriptor yX2_add.desc).map (fun d => d.parameters.length) = some 1 := by decide +kernel
section
variable {p : Program} {l : Launch} {e : Env} {s : State} {m : MethodId} {args : Array Value} {below : List Frame} {meth : Method} {c : Code} {E : wE}
set_option maxRecDepth 100000 in
set_option maxHeartbeats 4000000 in
theorem pX2_add (B : wB E p s m args meth c cX2_add 2 RX2 none) {M : wMem} {a1 : Int32}  {res : wMem} (hf : fX2_add M a1 = some res) {H : Heap} {locs : List Loc} {ls : Array Slot} (hW : wH E M H) (hS : va_S (wA E) s.heap H locs) (hl : lv_has ls 2 [(0, .ref (wad E 47)), (1, .int a1)]) : W p l e ({ frames := 0, cells := 0, slots := 0, locals := 0 } : Room) s m args below meth c H locs 0 0 (MQ below (wQ E none res) args s 0 0 (wA E)) (F0 m 0 ls []) := by
  unfold fX2_add at hf
  obtain ⟨hx, hb, hr, hml, hown, hts, hlocks, hG, hV, hZ⟩ := id B
  refine lv_aload_n hx hb dX2_add_0 rfl (lv_at hl 0 rfl) ?_
  refine wm_get hx hb hts wu_X2 hown hV hW (wlt_1 (rfl : wkd 47 = 1)) (wen_1 (rfl : wkd 47 = 1)) (C := RX2) (T := TX2) (N := 2) rfl 1 (by decide) (hts _ wA_152) rfl dX2_add_1 ?_
  refine lv_bipush (v := 64) hx hb dX2_add_4 (by decide) ?_
  rcases wif_e hf with ⟨hq1, hf⟩ | ⟨hq1, hf⟩
  · refine lv_icmp_ge (tgt := 30) hx hb dX2_add_6 (by decide) (fun _ => ?_) (fun h => absurd hq1 h)
    have hres := Option.some.inj hf
    subst hres
    exact W.vret hx hb hr (wr_q hG hV hZ hW hS) hS.2.2 dX2_add_30
  · refine lv_icmp_ge (tgt := 30) hx hb dX2_add_6 (by decide) (fun h => absurd h hq1) (fun _ => ?_)
    refine lv_aload_n hx hb dX2_add_9 rfl (lv_at hl 0 rfl) ?_
    refine wm_get hx hb hts wu_X2 hown hV hW (wlt_1 (rfl : wkd 47 = 1)) (wen_1 (rfl : wkd 47 = 1)) (C := RX2) (T := TX2) (N := 2) rfl 0 (by decide) (hts _ wA_151) rfl dX2_add_10 ?_
    refine lv_aload_n hx hb dX2_add_13 rfl (lv_at hl 0 rfl) ?_
    refine wm_get hx hb hts wu_X2 hown hV hW (wlt_1 (rfl : wkd 47 = 1)) (wen_1 (rfl : wkd 47 = 1)) (C := RX2) (T := TX2) (N := 2) rfl 1 (by decide) (hts _ wA_152) rfl dX2_add_14 ?_
    refine lv_iload_n hx hb dX2_add_17 rfl (lv_at hl 1 rfl) ?_
    refine lv_i2c hx hb dX2_add_18 rfl ?_
    obtain ⟨hi2, hf⟩ := wgi_e hf
    refine wm_cast hx hb hG hV hW hS (rfl : wkd 48 = 20) (n := 64) rfl hi2 dX2_add_19 (fun H locs hW hS => ?_)
    obtain ⟨M3, hW, hf⟩ := wlet_M hW hf
    refine lv_aload_n hx hb dX2_add_20 rfl (lv_at hl 0 rfl) ?_
    refine lv_dup hx hb dX2_add_21 rfl ?_
    refine wm_get hx hb hts wu_X2 hown hV hW (wlt_1 (rfl : wkd 47 = 1)) (wen_1 (rfl : wkd 47 = 1)) (C := RX2) (T := TX2) (N := 2) rfl 1 (by decide) (hts _ wA_152) rfl dX2_add_22 ?_
    refine lv_iconst (v := 1) hx hb dX2_add_25 rfl ?_
    refine lv_iadd hx hb dX2_add_26 ?_
    refine wm_put hx hb hts wu_X2 tyX2 tyX2_ok nmX2 hown hG hV hW hS (wlt_1 (rfl : wkd 47 = 1)) (wen_1 (rfl : wkd 47 = 1)) (C := RX2) (T := TX2) (N := 2) rfl 1 (by decide) (hts _ wA_152) rfl .int _ (tyX2_ok 1 (by decide)) rfl rfl (Nat.le_of_ble_eq_true rfl) (wpt_1_1 (rfl : wkd 47 = 1)) dX2_add_27 (fun H locs hW hS => ?_)
    obtain ⟨M4, hW, hf⟩ := wlet_M hW hf
    have hres := Option.some.inj hf
    subst hres
    exact W.vret hx hb hr (wr_q hG hV hZ hW hS) hS.2.2 dX2_add_30
theorem cX2_add_ok (l : Launch) (E : wE) (M : wMem) (a1 : Int32) {res : wMem} (hf : fX2_add M a1 = some res) : wMet l yX2_add (wsM yX2_add cX2_add 2 none) ({ frames := 0, cells := 0, slots := 0, locals := 0 } : Room) E M [.ref (wad E 47), .int a1] none res :=
  wc_of (cc := cX2_add) (maxL := 2) (ret := none) (by decide) (Nat.le_of_ble_eq_true rfl) (fun _ _ _ _ _ _ _ _ B hW hl => pX2_add B  hf hW va_S.rf hl)
end
theorem cdX9_feed : yX9_feed.cls = RX9 ∧ yX9_feed.cls ≠ "java/lang/invoke/MethodHandle" ∧ yX9_feed.cls ≠ "java/lang/invoke/VarHandle" ∧ (parseMethodDescriptor yX9_feed.desc).map (fun d => d.parameters.length) = some 1 := by decide +kernel
section
variable {p : Program} {l : Launch} {e : Env} {s : State} {m : MethodId} {args : Array Value} {below : List Frame} {meth : Method} {c : Code} {E : wE}
set_option maxRecDepth 100000 in
set_option maxHeartbeats 4000000 in
theorem pX9_feed_30 (B : wB E p s m args meth c cX9_feed 2 RX9 (some .int)) {M : wMem}   {res : Int32 × wMem}   (hf : fX9_feed_30 M   = some res) {H : Heap} {locs : List Loc} {ls : Array Slot} (hW : wH E M H) (hS : va_S (wA E) s.heap H locs) (hl : lv_has ls 2 [(0, .ref (wad E 0))]) : W p l e ({ frames := 1, cells := 0, slots := 0, locals := 22 } : Room) s m args below meth c H locs 0 0 (MQ below (wQ E (some (.int res.1)) res.2) args s 0 0 (wA E)) (F0 m 30 ls []) := by
  unfold fX9_feed_30 at hf
  obtain ⟨hx, hb, hr, hml, hown, hts, hlocks, hG, hV, hZ⟩ := id B
  refine lv_aload_n hx hb dX9_feed_30 rfl (lv_at hl 0 rfl) ?_
  refine lv_bipush (v := (-6)) hx hb dX9_feed_31 (by decide) ?_
  obtain ⟨r4, M5, hc3, hf⟩ := wbind_p hf
  refine wc_V (As := [.int (-6)]) (rest := []) hx hb hml hown hts hG hV hZ (wlt_8 (rfl : wkd 0 = 8)) (q := (RX9, TX9, 10)) (wen_8 (rfl : wkd 0 = 8)) rfl (cX9_refuse_ok l E M (-6) hc3) (cwV 1 hts gl_X9_65 rfl rfl rfl cdX9_refuse ⟨Nat.le_of_ble_eq_true rfl, Nat.le_of_ble_eq_true rfl⟩) rfl hl.1 rfl (Nat.le_of_ble_eq_true rfl) dX9_feed_33 ⟨Nat.zero_le _, Nat.zero_le _⟩ hW hS rfl (fun H locs hW hS => ?_)
  have hres := Option.some.inj hf
  subst hres
  exact W.iret hx hb hr (wr_q hG hV hZ hW hS) hS.2.2 dX9_feed_36
set_option maxRecDepth 100000 in
set_option maxHeartbeats 4000000 in
theorem pX9_feed (B : wB E p s m args meth c cX9_feed 2 RX9 (some .int)) {M : wMem} {a1 : Int32}  {res : Int32 × wMem} (hf : fX9_feed M a1 = some res) {H : Heap} {locs : List Loc} {ls : Array Slot} (hW : wH E M H) (hS : va_S (wA E) s.heap H locs) (hl : lv_has ls 2 [(0, .ref (wad E 0)), (1, .int a1)]) : W p l e ({ frames := 1, cells := 0, slots := 0, locals := 22 } : Room) s m args below meth c H locs 0 0 (MQ below (wQ E (some (.int res.1)) res.2) args s 0 0 (wA E)) (F0 m 0 ls []) := by
  unfold fX9_feed at hf
  obtain ⟨hx, hb, hr, hml, hown, hts, hlocks, hG, hV, hZ⟩ := id B
  refine lv_iload_n hx hb dX9_feed_0 rfl (lv_at hl 1 rfl) ?_
  rcases wif_e hf with ⟨hq1, hf⟩ | ⟨hq1, hf⟩
  · refine lv_if_ge (tgt := 11) hx hb dX9_feed_1 (by decide) (fun _ => ?_) (fun h => absurd hq1 h)
    refine lv_iload_n hx hb dX9_feed_11 rfl (lv_at hl 1 rfl) ?_
    refine lv_sipush (v := 255) hx hb dX9_feed_12 (by decide) ?_
    rcases wif_e hf with ⟨hq2, hf⟩ | ⟨hq2, hf⟩
    · refine lv_icmp_gt (tgt := 30) hx hb dX9_feed_15 (by decide) (fun _ => ?_) (fun h => absurd hq2 h)
      exact pX9_feed_30 B   hf hW hS (lv_sub hl [0] rfl)
    · refine lv_icmp_gt (tgt := 30) hx hb dX9_feed_15 (by decide) (fun h => absurd h hq2) (fun _ => ?_)
      refine lv_aload_n hx hb dX9_feed_18 rfl (lv_at hl 0 rfl) ?_
      refine wm_get hx hb hts wu_X9 hown hV hW (wlt_8 (rfl : wkd 0 = 8)) (wen_8 (rfl : wkd 0 = 8)) (C := RX9) (T := TX9) (N := 10) rfl 3 (by decide) (hts _ wA_234) rfl dX9_feed_19 ?_
      refine wm_get hx hb hts wu_X2 hown hV hW (wlt_1 (rfl : wkd 47 = 1)) (wen_1 (rfl : wkd 47 = 1)) (C := RX2) (T := TX2) (N := 2) rfl 1 (by decide) (hts _ wA_153) rfl dX9_feed_22 ?_
      refine lv_bipush (v := 64) hx hb dX9_feed_25 (by decide) ?_
      rcases wif_e hf with ⟨hq6, hf⟩ | ⟨hq6, hf⟩
      · refine lv_icmp_lt (tgt := 37) hx hb dX9_feed_27 (by decide) (fun _ => ?_) (fun h => absurd hq6 h)
        refine lv_aload_n hx hb dX9_feed_37 rfl (lv_at hl 0 rfl) ?_
        refine wm_get hx hb hts wu_X9 hown hV hW (wlt_8 (rfl : wkd 0 = 8)) (wen_8 (rfl : wkd 0 = 8)) (C := RX9) (T := TX9) (N := 10) rfl 3 (by decide) (hts _ wA_234) rfl dX9_feed_38 ?_
        refine lv_iload_n hx hb dX9_feed_41 rfl (lv_at hl 1 rfl) ?_
        obtain ⟨M9, hc7, hf⟩ := wbind_e hf
        refine wc_V (As := [.int a1]) (rest := []) hx hb hml hown hts hG hV hZ (wlt_1 (rfl : wkd 47 = 1)) (q := (RX2, TX2, 2)) (wen_1 (rfl : wkd 47 = 1)) rfl (cX2_add_ok l E M a1 hc7) (cwV 1 hts gl_X9_73 rfl rfl rfl cdX2_add ⟨Nat.le_of_ble_eq_true rfl, Nat.le_of_ble_eq_true rfl⟩) rfl hl.1 rfl (Nat.le_of_ble_eq_true rfl) dX9_feed_42 ⟨Nat.zero_le _, Nat.zero_le _⟩ hW hS rfl (fun H locs hW hS => ?_)
        refine lv_aload_n hx hb dX9_feed_45 rfl (lv_at hl 0 rfl) ?_
        refine wm_get hx hb hts wu_X9 hown hV hW (wlt_8 (rfl : wkd 0 = 8)) (wen_8 (rfl : wkd 0 = 8)) (C := RX9) (T := TX9) (N := 10) rfl 3 (by decide) (hts _ wA_234) rfl dX9_feed_46 ?_
        refine wm_get hx hb hts wu_X2 hown hV hW (wlt_1 (rfl : wkd 47 = 1)) (wen_1 (rfl : wkd 47 = 1)) (C := RX2) (T := TX2) (N := 2) rfl 1 (by decide) (hts _ wA_153) rfl dX9_feed_49 ?_
        have hres := Option.some.inj hf
        subst hres
        exact W.iret hx hb hr (wr_q hG hV hZ hW hS) hS.2.2 dX9_feed_52
      · refine lv_icmp_lt (tgt := 37) hx hb dX9_feed_27 (by decide) (fun h => absurd h hq6) (fun _ => ?_)
        exact pX9_feed_30 B   hf hW hS (lv_sub hl [0] rfl)
  · refine lv_if_ge (tgt := 11) hx hb dX9_feed_1 (by decide) (fun h => absurd h hq1) (fun _ => ?_)
    refine lv_aload_n hx hb dX9_feed_4 rfl (lv_at hl 0 rfl) ?_
    refine lv_bipush (v := (-4)) hx hb dX9_feed_5 (by decide) ?_
    obtain ⟨r11, M12, hc10, hf⟩ := wbind_p hf
    refine wc_V (As := [.int (-4)]) (rest := []) hx hb hml hown hts hG hV hZ (wlt_8 (rfl : wkd 0 = 8)) (q := (RX9, TX9, 10)) (wen_8 (rfl : wkd 0 = 8)) rfl (cX9_refuse_ok l E M (-4) hc10) (cwV 1 hts gl_X9_65 rfl rfl rfl cdX9_refuse ⟨Nat.le_of_ble_eq_true rfl, Nat.le_of_ble_eq_true rfl⟩) rfl hl.1 rfl (Nat.le_of_ble_eq_true rfl) dX9_feed_7 ⟨Nat.zero_le _, Nat.zero_le _⟩ hW hS rfl (fun H locs hW hS => ?_)
    have hres := Option.some.inj hf
    subst hres
    exact W.iret hx hb hr (wr_q hG hV hZ hW hS) hS.2.2 dX9_feed_10
theorem cX9_feed_ok (l : Launch) (E : wE) (M : wMem) (a1 : Int32) {res : Int32 × wMem} (hf : fX9_feed M a1 = some res) : wMet l yX9_feed (wsM yX9_feed cX9_feed 2 (some .int)) ({ frames := 1, cells := 0, slots := 0, locals := 22 } : Room) E M [.ref (wad E 0), .int a1] (some (.int res.1)) res.2 :=
  wc_of (cc := cX9_feed) (maxL := 2) (ret := (some .int)) (by decide) (Nat.le_of_ble_eq_true rfl) (fun _ _ _ _ _ _ _ _ B hW hl => pX9_feed B  hf hW va_S.rf hl)
end
theorem cdX2_signAt : yX2_signAt.cls = RX2 ∧ yX2_signAt.cls ≠ "java/lang/invoke/MethodHandle" ∧ yX2_signAt.cls ≠ "java/lang/invoke/VarHandle" ∧ (parseMethodDescriptor yX2_signAt.desc).map (fun d => d.parameters.length) = some 1 := by decide +kernel
section
variable {p : Program} {l : Launch} {e : Env} {s : State} {m : MethodId} {args : Array Value} {below : List Frame} {meth : Method} {c : Code} {E : wE}
set_option maxRecDepth 100000 in
set_option maxHeartbeats 4000000 in
theorem pX2_signAt (B : wB E p s m args meth c cX2_signAt 2 RX2 (some .int)) {M : wMem} {a1 : Int32}  {res : Int32} (hf : fX2_signAt M a1 = some res) {H : Heap} {locs : List Loc} {ls : Array Slot} (hW : wH E M H) (hS : va_S (wA E) s.heap H locs) (hl : lv_has ls 2 [(0, .ref (wad E 47)), (1, .int a1)]) : W p l e ({ frames := 0, cells := 0, slots := 0, locals := 0 } : Room) s m args below meth c H locs 0 0 (MQ below (wQ E (some (.int res)) M) args s 0 0 (wA E)) (F0 m 0 ls []) := by
  unfold fX2_signAt at hf
  obtain ⟨hx, hb, hr, hml, hown, hts, hlocks, hG, hV, hZ⟩ := id B
  refine lv_iload_n hx hb dX2_signAt_0 rfl (lv_at hl 1 rfl) ?_
  rcases wif_e hf with ⟨hq1, hf⟩ | ⟨hq1, hf⟩
  · refine lv_if_lt (tgt := 21) hx hb dX2_signAt_1 (by decide) (fun _ => ?_) (fun h => absurd hq1 h)
    refine lv_iconst (v := (-1)) hx hb dX2_signAt_21 rfl ?_
    have hres := Option.some.inj hf
    subst hres
    exact W.iret hx hb hr (wr_q hG hV hZ hW hS) hS.2.2 dX2_signAt_22
  · refine lv_if_lt (tgt := 21) hx hb dX2_signAt_1 (by decide) (fun h => absurd h hq1) (fun _ => ?_)
    refine lv_iload_n hx hb dX2_signAt_4 rfl (lv_at hl 1 rfl) ?_
    refine lv_aload_n hx hb dX2_signAt_5 rfl (lv_at hl 0 rfl) ?_
    refine wm_get hx hb hts wu_X2 hown hV hW (wlt_1 (rfl : wkd 47 = 1)) (wen_1 (rfl : wkd 47 = 1)) (C := RX2) (T := TX2) (N := 2) rfl 1 (by decide) (hts _ wA_152) rfl dX2_signAt_6 ?_
    rcases wif_e hf with ⟨hq2, hf⟩ | ⟨hq2, hf⟩
    · refine lv_icmp_ge (tgt := 21) hx hb dX2_signAt_9 (by decide) (fun _ => ?_) (fun h => absurd hq2 h)
      refine lv_iconst (v := (-1)) hx hb dX2_signAt_21 rfl ?_
      have hres := Option.some.inj hf
      subst hres
      exact W.iret hx hb hr (wr_q hG hV hZ hW hS) hS.2.2 dX2_signAt_22
    · refine lv_icmp_ge (tgt := 21) hx hb dX2_signAt_9 (by decide) (fun h => absurd h hq2) (fun _ => ?_)
      refine lv_aload_n hx hb dX2_signAt_12 rfl (lv_at hl 0 rfl) ?_
      refine wm_get hx hb hts wu_X2 hown hV hW (wlt_1 (rfl : wkd 47 = 1)) (wen_1 (rfl : wkd 47 = 1)) (C := RX2) (T := TX2) (N := 2) rfl 0 (by decide) (hts _ wA_151) rfl dX2_signAt_13 ?_
      refine lv_iload_n hx hb dX2_signAt_16 rfl (lv_at hl 1 rfl) ?_
      obtain ⟨hi3, hf⟩ := wgi_e hf
      refine wm_cald hx hb hV hW (rfl : wkd 48 = 20) (n := 64) rfl hi3 dX2_signAt_17 ?_
      refine lv_goto (tgt := 22) hx hb dX2_signAt_18 (by decide) ?_
      have hres := Option.some.inj hf
      subst hres
      exact W.iret hx hb hr (wr_q hG hV hZ hW hS) hS.2.2 dX2_signAt_22
theorem cX2_signAt_ok (l : Launch) (E : wE) (M : wMem) (a1 : Int32) {res : Int32} (hf : fX2_signAt M a1 = some res) : wMet l yX2_signAt (wsM yX2_signAt cX2_signAt 2 (some .int)) ({ frames := 0, cells := 0, slots := 0, locals := 0 } : Room) E M [.ref (wad E 47), .int a1] (some (.int res)) M :=
  wc_of (cc := cX2_signAt) (maxL := 2) (ret := (some .int)) (by decide) (Nat.le_of_ble_eq_true rfl) (fun _ _ _ _ _ _ _ _ B hW hl => pX2_signAt B  hf hW va_S.rf hl)
end
theorem cdX7_isDigit : yX7_isDigit.cls ≠ "java/lang/invoke/MethodHandle" ∧ yX7_isDigit.cls ≠ "java/lang/invoke/VarHandle" ∧ (parseMethodDescriptor yX7_isDigit.desc).map (fun d => d.parameters.length) = some 1 := by decide +kernel
section
variable {p : Program} {l : Launch} {e : Env} {s : State} {m : MethodId} {args : Array Value} {below : List Frame} {meth : Method} {c : Code} {E : wE}
set_option maxRecDepth 100000 in
set_option maxHeartbeats 4000000 in
theorem pX7_isDigit (B : wB E p s m args meth c cX7_isDigit 1 RX7 (some .boolean)) {M : wMem} {a0 : Int32}  {res : Bool} (hf : fX7_isDigit M a0 = some res) {H : Heap} {locs : List Loc} {ls : Array Slot} (hW : wH E M H) (hS : va_S (wA E) s.heap H locs) (hl : lv_has ls 1 [(0, .int a0)]) : W p l e ({ frames := 0, cells := 0, slots := 0, locals := 0 } : Room) s m args below meth c H locs 0 0 (MQ below (wQ E (some (.int (wb res))) M) args s 0 0 (wA E)) (F0 m 0 ls []) := by
  unfold fX7_isDigit at hf
  obtain ⟨hx, hb, hr, hml, hown, hts, hlocks, hG, hV, hZ⟩ := id B
  refine lv_iload_n hx hb dX7_isDigit_0 rfl (lv_at hl 0 rfl) ?_
  refine lv_bipush (v := 48) hx hb dX7_isDigit_1 (by decide) ?_
  rcases wif_e hf with ⟨hq1, hf⟩ | ⟨hq1, hf⟩
  · refine lv_icmp_lt (tgt := 16) hx hb dX7_isDigit_3 (by decide) (fun _ => ?_) (fun h => absurd hq1 h)
    refine lv_iconst (v := 0) hx hb dX7_isDigit_16 rfl ?_
    have hres := Option.some.inj hf
    subst hres
    exact W.zret hx hb hr (wb_n false) (wr_q hG hV hZ hW hS) hS.2.2 dX7_isDigit_17
  · refine lv_icmp_lt (tgt := 16) hx hb dX7_isDigit_3 (by decide) (fun h => absurd h hq1) (fun _ => ?_)
    refine lv_iload_n hx hb dX7_isDigit_6 rfl (lv_at hl 0 rfl) ?_
    refine lv_bipush (v := 57) hx hb dX7_isDigit_7 (by decide) ?_
    rcases wif_e hf with ⟨hq2, hf⟩ | ⟨hq2, hf⟩
    · refine lv_icmp_gt (tgt := 16) hx hb dX7_isDigit_9 (by decide) (fun _ => ?_) (fun h => absurd hq2 h)
      refine lv_iconst (v := 0) hx hb dX7_isDigit_16 rfl ?_
      have hres := Option.some.inj hf
      subst hres
      exact W.zret hx hb hr (wb_n false) (wr_q hG hV hZ hW hS) hS.2.2 dX7_isDigit_17
    · refine lv_icmp_gt (tgt := 16) hx hb dX7_isDigit_9 (by decide) (fun h => absurd h hq2) (fun _ => ?_)
      refine lv_iconst (v := 1) hx hb dX7_isDigit_12 rfl ?_
      refine lv_goto (tgt := 17) hx hb dX7_isDigit_13 (by decide) ?_
      have hres := Option.some.inj hf
      subst hres
      exact W.zret hx hb hr (wb_n true) (wr_q hG hV hZ hW hS) hS.2.2 dX7_isDigit_17
theorem cX7_isDigit_ok (l : Launch) (E : wE) (M : wMem) (a0 : Int32) {res : Bool} (hf : fX7_isDigit M a0 = some res) : wMet l yX7_isDigit (wsM yX7_isDigit cX7_isDigit 1 (some .boolean)) ({ frames := 0, cells := 0, slots := 0, locals := 0 } : Room) E M [.int a0] (some (.int (wb res))) M :=
  wc_of (cc := cX7_isDigit) (maxL := 1) (ret := (some .boolean)) (by decide) (Nat.le_of_ble_eq_true rfl) (fun _ _ _ _ _ _ _ _ B hW hl => pX7_isDigit B  hf hW va_S.rf hl)
end
theorem cdX7_readNumber : yX7_readNumber.cls = RX7 ∧ yX7_readNumber.cls ≠ "java/lang/invoke/MethodHandle" ∧ yX7_readNumber.cls ≠ "java/lang/invoke/VarHandle" ∧ (parseMethodDescriptor yX7_readNumber.desc).map (fun d => d.parameters.length) = some 2 := by decide +kernel
section
variable {p : Program} {l : Launch} {e : Env} {s : State} {m : MethodId} {args : Array Value} {below : List Frame} {meth : Method} {c : Code} {E : wE}
set_option maxRecDepth 100000 in
set_option maxHeartbeats 4000000 in
theorem pX7_readNumber_65 (B : wB E p s m args meth c cX7_readNumber 5 RX7 (some .int)) {M : wMem} {y3 : Int32} {y4 : Int32}  {res : Int32 × wMem}   (hf : fX7_readNumber_65 M  y3 y4 = some res) {H : Heap} {locs : List Loc} {ls : Array Slot} (hW : wH E M H) (hS : va_S (wA E) s.heap H locs) (hl : lv_has ls 5 [(0, .ref (wad E 49)), (3, .int y3), (4, .int y4)]) : W p l e ({ frames := 1, cells := 0, slots := 0, locals := 21 } : Room) s m args below meth c H locs 0 0 (MQ below (wQ E (some (.int res.1)) res.2) args s 0 0 (wA E)) (F0 m 65 ls []) := by
  unfold fX7_readNumber_65 at hf
  obtain ⟨hx, hb, hr, hml, hown, hts, hlocks, hG, hV, hZ⟩ := id B
  refine lv_iload hx hb dX7_readNumber_65 (lv_at hl 2 rfl) ?_
  rcases wif_e hf with ⟨hq2, hf⟩ | ⟨hq2, hf⟩
  · refine lv_if_ne (tgt := 75) hx hb dX7_readNumber_67 (by decide) (fun h => absurd hq2 h) (fun _ => ?_)
    refine lv_aload_n hx hb dX7_readNumber_70 rfl (lv_at hl 0 rfl) ?_
    refine lv_iconst (v := 0) hx hb dX7_readNumber_71 rfl ?_
    refine wm_put hx hb hts wu_X7 tyX7 tyX7_ok nmX7 hown hG hV hW hS (wlt_6 (rfl : wkd 49 = 6)) (wen_6 (rfl : wkd 49 = 6)) (C := RX7) (T := TX7) (N := 6) rfl 5 (by decide) (hts _ wA_176) rfl .boolean _ (tyX7_ok 5 (by decide)) rfl rfl (Nat.le_of_ble_eq_true rfl) (wpt_6_5 (rfl : wkd 49 = 6)) dX7_readNumber_72 (fun H locs hW hS => ?_)
    obtain ⟨M3, hW, hf⟩ := wlet_M hW hf
    refine lv_iload_n hx hb dX7_readNumber_75 rfl (lv_at hl 1 rfl) ?_
    have hres := Option.some.inj hf
    subst hres
    exact W.iret hx hb hr (wr_q hG hV hZ hW hS) hS.2.2 dX7_readNumber_76
  · refine lv_if_ne (tgt := 75) hx hb dX7_readNumber_67 (by decide) (fun _ => ?_) (fun h => absurd h hq2)
    refine lv_iload_n hx hb dX7_readNumber_75 rfl (lv_at hl 1 rfl) ?_
    have hres := Option.some.inj hf
    subst hres
    exact W.iret hx hb hr (wr_q hG hV hZ hW hS) hS.2.2 dX7_readNumber_76
set_option maxRecDepth 100000 in
set_option maxHeartbeats 4000000 in
theorem pX7_readNumber_5_b (B : wB E p s m args meth c cX7_readNumber 5 RX7 (some .int)) {M : wMem} {y2 : Int32} {y3 : Int32} {y4 : Int32}  {rec5 : (Int32 × Int32 × wMem → Option (Int32 × wMem))} {res : Int32 × wMem}   (hrec5 : ∀ (y3' : Int32) (y4' : Int32) (M' : wMem), rec5 (y3', y4', M') = some res → ∀ (H : Heap) (locs : List Loc) (ls : Array Slot), wH E M' H → va_S (wA E) s.heap H locs → lv_has ls 5 [(0, .ref (wad E 49)), (1, .ref (wad E 47)), (2, .int y2), (3, .int y3'), (4, .int y4')] → W p l e ({ frames := 1, cells := 0, slots := 0, locals := 21 } : Room) s m args below meth c H locs 0 0 (MQ below (wQ E (some (.int res.1)) res.2) args s 0 0 (wA E)) (F0 m 5 ls [])) (hf : fX7_readNumber_5_b M  rec5 y2 y3 y4 = some res) {H : Heap} {locs : List Loc} {ls : Array Slot} (hW : wH E M H) (hS : va_S (wA E) s.heap H locs) (hl : lv_has ls 5 [(0, .ref (wad E 49)), (1, .ref (wad E 47)), (2, .int y2), (3, .int y3), (4, .int y4)]) : W p l e ({ frames := 1, cells := 0, slots := 0, locals := 21 } : Room) s m args below meth c H locs 0 0 (MQ below (wQ E (some (.int res.1)) res.2) args s 0 0 (wA E)) (F0 m 5 ls []) := by
  unfold fX7_readNumber_5_b at hf
  obtain ⟨hx, hb, hr, hml, hown, hts, hlocks, hG, hV, hZ⟩ := id B
  refine lv_aload_n hx hb dX7_readNumber_5 rfl (lv_at hl 0 rfl) ?_
  refine wm_get hx hb hts wu_X7 hown hV hW (wlt_6 (rfl : wkd 49 = 6)) (wen_6 (rfl : wkd 49 = 6)) (C := RX7) (T := TX7) (N := 6) rfl 5 (by decide) (hts _ wA_176) rfl dX7_readNumber_6 ?_
  rcases wif_e hf with ⟨hq1, hf⟩ | ⟨hq1, hf⟩
  · refine lv_if_eq (tgt := 65) hx hb dX7_readNumber_9 (by decide) (fun _ => ?_) (fun h => absurd hq1 h)
    exact pX7_readNumber_65 B   hf hW hS (lv_sub hl [0, 3, 4] rfl)
  · refine lv_if_eq (tgt := 65) hx hb dX7_readNumber_9 (by decide) (fun h => absurd h hq1) (fun _ => ?_)
    refine lv_iload hx hb dX7_readNumber_12 (lv_at hl 4 rfl) ?_
    refine lv_iload_n hx hb dX7_readNumber_14 rfl (lv_at hl 2 rfl) ?_
    rcases wif_e hf with ⟨hq4, hf⟩ | ⟨hq4, hf⟩
    · refine lv_icmp_ge (tgt := 65) hx hb dX7_readNumber_15 (by decide) (fun _ => ?_) (fun h => absurd hq4 h)
      exact pX7_readNumber_65 B   hf hW hS (lv_sub hl [0, 3, 4] rfl)
    · refine lv_icmp_ge (tgt := 65) hx hb dX7_readNumber_15 (by decide) (fun h => absurd h hq4) (fun _ => ?_)
      refine lv_aload_n hx hb dX7_readNumber_18 rfl (lv_at hl 1 rfl) ?_
      refine lv_aload_n hx hb dX7_readNumber_19 rfl (lv_at hl 0 rfl) ?_
      refine wm_get hx hb hts wu_X7 hown hV hW (wlt_6 (rfl : wkd 49 = 6)) (wen_6 (rfl : wkd 49 = 6)) (C := RX7) (T := TX7) (N := 6) rfl 4 (by decide) (hts _ wA_174) rfl dX7_readNumber_20 ?_
      obtain ⟨r6, hc5, hf⟩ := wbind_e hf
      refine wc_V (As := [.int (M 49 4)]) (rest := []) hx hb hml hown hts hG hV hZ (wlt_1 (rfl : wkd 47 = 1)) (q := (RX2, TX2, 2)) (wen_1 (rfl : wkd 47 = 1)) rfl (cX2_signAt_ok l E M (M 49 4) hc5) (cwV 1 hts gl_X7_17 rfl rfl rfl cdX2_signAt ⟨Nat.le_of_ble_eq_true rfl, Nat.le_of_ble_eq_true rfl⟩) rfl hl.1 rfl (Nat.le_of_ble_eq_true rfl) dX7_readNumber_23 ⟨Nat.zero_le _, Nat.zero_le _⟩ hW hS rfl (fun H locs hW hS => ?_)
      obtain ⟨r8, hc7, hf⟩ := wbind_e hf
      refine wc_S (As := [.int r6]) (rest := []) hx hb hml hown hts hG hV hZ (cX7_isDigit_ok l E M r6 hc7) (va_cwS 1 hts gl_X7_43 rfl rfl rfl cdX7_isDigit ⟨Nat.le_of_ble_eq_true rfl, Nat.le_of_ble_eq_true rfl⟩) rfl hl.1 rfl (Nat.le_of_ble_eq_true rfl) dX7_readNumber_26 ⟨Nat.zero_le _, Nat.zero_le _⟩ hW hS rfl (fun H locs hW hS => ?_)
      rcases wif_e hf with ⟨hq9, hf⟩ | ⟨hq9, hf⟩
      · refine lv_if_eq (tgt := 65) hx hb dX7_readNumber_29 (by decide) (fun _ => ?_) (fun h => absurd hq9 h)
        exact pX7_readNumber_65 B   hf hW hS (lv_sub hl [0, 3, 4] rfl)
      · refine lv_if_eq (tgt := 65) hx hb dX7_readNumber_29 (by decide) (fun h => absurd h hq9) (fun _ => ?_)
        refine lv_bipush (v := 10) hx hb dX7_readNumber_32 (by decide) ?_
        refine lv_iload_n hx hb dX7_readNumber_34 rfl (lv_at hl 3 rfl) ?_
        refine lv_imul hx hb dX7_readNumber_35 ?_
        refine lv_aload_n hx hb dX7_readNumber_36 rfl (lv_at hl 1 rfl) ?_
        refine lv_aload_n hx hb dX7_readNumber_37 rfl (lv_at hl 0 rfl) ?_
        refine wm_get hx hb hts wu_X7 hown hV hW (wlt_6 (rfl : wkd 49 = 6)) (wen_6 (rfl : wkd 49 = 6)) (C := RX7) (T := TX7) (N := 6) rfl 4 (by decide) (hts _ wA_174) rfl dX7_readNumber_38 ?_
        obtain ⟨r11, hc10, hf⟩ := wbind_e hf
        refine wc_V (As := [.int (M 49 4)]) (rest := [.int (10 * y3)]) hx hb hml hown hts hG hV hZ (wlt_1 (rfl : wkd 47 = 1)) (q := (RX2, TX2, 2)) (wen_1 (rfl : wkd 47 = 1)) rfl (cX2_signAt_ok l E M (M 49 4) hc10) (cwV 1 hts gl_X7_17 rfl rfl rfl cdX2_signAt ⟨Nat.le_of_ble_eq_true rfl, Nat.le_of_ble_eq_true rfl⟩) rfl hl.1 rfl (Nat.le_of_ble_eq_true rfl) dX7_readNumber_41 ⟨Nat.zero_le _, Nat.zero_le _⟩ hW hS rfl (fun H locs hW hS => ?_)
        refine lv_iadd hx hb dX7_readNumber_44 ?_
        refine lv_bipush (v := 48) hx hb dX7_readNumber_45 (by decide) ?_
        refine lv_isub hx hb dX7_readNumber_47 ?_
        refine lv_topi (fun x12 ex12 => ?_)
        replace hf := wlet_y ex12 hf
        refine lv_istore_n (lv' := [(3, .int x12), (0, .ref (wad E 49)), (1, .ref (wad E 47)), (2, .int y2), (4, .int y4)]) hx hb dX7_readNumber_48 rfl hl (by decide) rfl (fun ls hl => ?_)
        refine lv_aload_n hx hb dX7_readNumber_49 rfl (lv_at hl 1 rfl) ?_
        refine lv_dup hx hb dX7_readNumber_50 rfl ?_
        refine wm_get hx hb hts wu_X7 hown hV hW (wlt_6 (rfl : wkd 49 = 6)) (wen_6 (rfl : wkd 49 = 6)) (C := RX7) (T := TX7) (N := 6) rfl 4 (by decide) (hts _ wA_174) rfl dX7_readNumber_51 ?_
        refine lv_iconst (v := 1) hx hb dX7_readNumber_54 rfl ?_
        refine lv_iadd hx hb dX7_readNumber_55 ?_
        refine wm_put hx hb hts wu_X7 tyX7 tyX7_ok nmX7 hown hG hV hW hS (wlt_6 (rfl : wkd 49 = 6)) (wen_6 (rfl : wkd 49 = 6)) (C := RX7) (T := TX7) (N := 6) rfl 4 (by decide) (hts _ wA_174) rfl .int _ (tyX7_ok 4 (by decide)) rfl rfl (Nat.le_of_ble_eq_true rfl) (wpt_6_4 (rfl : wkd 49 = 6)) dX7_readNumber_56 (fun H locs hW hS => ?_)
        obtain ⟨M13, hW, hf⟩ := wlet_M hW hf
        obtain ⟨x14, ex14, hf⟩ := wlet_e hf
        refine lv_iinc (v := x14) (lv' := [(4, .int x14), (3, .int x12), (0, .ref (wad E 49)), (1, .ref (wad E 47)), (2, .int y2)]) hx hb dX7_readNumber_59 hl (k := 4) rfl (by rw [ex14]; rfl) (by decide) rfl (fun ls hl => ?_)
        refine lv_goto (tgt := 5) hx hb dX7_readNumber_62 (by decide) ?_
        exact hrec5 x12 x14 M13 hf _ _ _ hW hS (lv_sub hl [2, 3, 4, 1, 0] rfl)
set_option maxRecDepth 100000 in
set_option maxHeartbeats 4000000 in
theorem pX7_readNumber_5 (B : wB E p s m args meth c cX7_readNumber 5 RX7 (some .int)) {M : wMem} {y2 : Int32} {y3 : Int32} {y4 : Int32}  {res : Int32 × wMem}   (hf : fX7_readNumber_5 M  y2 y3 y4 = some res) {H : Heap} {locs : List Loc} {ls : Array Slot} (hW : wH E M H) (hS : va_S (wA E) s.heap H locs) (hl : lv_has ls 5 [(0, .ref (wad E 49)), (1, .ref (wad E 47)), (2, .int y2), (3, .int y3), (4, .int y4)]) : W p l e ({ frames := 1, cells := 0, slots := 0, locals := 21 } : Room) s m args below meth c H locs 0 0 (MQ below (wQ E (some (.int res.1)) res.2) args s 0 0 (wA E)) (F0 m 5 ls []) := by
  have key := wloop_W (b := (fun rec5 t => fX7_readNumber_5_b t.2.2  rec5 y2 t.1 t.2.1)) (P := fun t => ∀ (H : Heap) (locs : List Loc) (ls : Array Slot), wH E t.2.2 H → va_S (wA E) s.heap H locs → lv_has ls 5 [(0, .ref (wad E 49)), (1, .ref (wad E 47)), (2, .int y2), (3, .int t.1), (4, .int t.2.1)] → W p l e ({ frames := 1, cells := 0, slots := 0, locals := 21 } : Room) s m args below meth c H locs 0 0 (MQ below (wQ E (some (.int res.1)) res.2) args s 0 0 (wA E)) (F0 m 5 ls [])) (r := res) (fun rec hrec t hf H locs ls hW hS hl => pX7_readNumber_5_b B   (fun v0 v1 v2 hf H locs ls hW hS hl => hrec (v0, v1, v2) hf H locs ls hW hS hl) hf hW hS hl)
  exact key wfuel (y3, y4, M) hf H locs ls hW hS hl
set_option maxRecDepth 100000 in
set_option maxHeartbeats 4000000 in
theorem pX7_readNumber (B : wB E p s m args meth c cX7_readNumber 5 RX7 (some .int)) {M : wMem} {a2 : Int32}  {res : Int32 × wMem} (hf : fX7_readNumber M a2 = some res) {H : Heap} {locs : List Loc} {ls : Array Slot} (hW : wH E M H) (hS : va_S (wA E) s.heap H locs) (hl : lv_has ls 5 [(0, .ref (wad E 49)), (1, .ref (wad E 47)), (2, .int a2)]) : W p l e ({ frames := 1, cells := 0, slots := 0, locals := 21 } : Room) s m args below meth c H locs 0 0 (MQ below (wQ E (some (.int res.1)) res.2) args s 0 0 (wA E)) (F0 m 0 ls []) := by
  unfold fX7_readNumber at hf
  obtain ⟨hx, hb, hr, hml, hown, hts, hlocks, hG, hV, hZ⟩ := id B
  refine lv_iconst (v := 0) hx hb dX7_readNumber_0 rfl ?_
  refine lv_istore_n (lv' := [(3, .int 0), (0, .ref (wad E 49)), (1, .ref (wad E 47)), (2, .int a2)]) hx hb dX7_readNumber_1 rfl hl (by decide) rfl (fun ls hl => ?_)
  refine lv_iconst (v := 0) hx hb dX7_readNumber_2 rfl ?_
  refine lv_istore (lv' := [(4, .int 0), (3, .int 0), (0, .ref (wad E 49)), (1, .ref (wad E 47)), (2, .int a2)]) hx hb dX7_readNumber_3 hl (by decide) rfl (fun ls hl => ?_)
  exact pX7_readNumber_5 B   hf hW hS (lv_sub hl [2, 3, 4, 1, 0] rfl)
theorem cX7_readNumber_ok (l : Launch) (E : wE) (M : wMem) (a2 : Int32) {res : Int32 × wMem} (hf : fX7_readNumber M a2 = some res) : wMet l yX7_readNumber (wsM yX7_readNumber cX7_readNumber 5 (some .int)) ({ frames := 1, cells := 0, slots := 0, locals := 21 } : Room) E M [.ref (wad E 49), .ref (wad E 47), .int a2] (some (.int res.1)) res.2 :=
  wc_of (cc := cX7_readNumber) (maxL := 5) (ret := (some .int)) (by decide) (Nat.le_of_ble_eq_true rfl) (fun _ _ _ _ _ _ _ _ B hW hl => pX7_readNumber B  hf hW va_S.rf hl)
end
theorem cdX7_readSign : yX7_readSign.cls = RX7 ∧ yX7_readSign.cls ≠ "java/lang/invoke/MethodHandle" ∧ yX7_readSign.cls ≠ "java/lang/invoke/VarHandle" ∧ (parseMethodDescriptor yX7_readSign.desc).map (fun d => d.parameters.length) = some 2 := by decide +kernel
section
variable {p : Program} {l : Launch} {e : Env} {s : State} {m : MethodId} {args : Array Value} {below : List Frame} {meth : Method} {c : Code} {E : wE}
set_option maxRecDepth 100000 in
set_option maxHeartbeats 4000000 in
theorem pX7_readSign (B : wB E p s m args meth c cX7_readSign 3 RX7 none) {M : wMem} {a2 : Int32}  {res : wMem} (hf : fX7_readSign M a2 = some res) {H : Heap} {locs : List Loc} {ls : Array Slot} (hW : wH E M H) (hS : va_S (wA E) s.heap H locs) (hl : lv_has ls 3 [(0, .ref (wad E 49)), (1, .ref (wad E 47)), (2, .int a2)]) : W p l e ({ frames := 1, cells := 0, slots := 0, locals := 21 } : Room) s m args below meth c H locs 0 0 (MQ below (wQ E none res) args s 0 0 (wA E)) (F0 m 0 ls []) := by
  unfold fX7_readSign at hf
  obtain ⟨hx, hb, hr, hml, hown, hts, hlocks, hG, hV, hZ⟩ := id B
  refine lv_aload_n hx hb dX7_readSign_0 rfl (lv_at hl 0 rfl) ?_
  refine wm_get hx hb hts wu_X7 hown hV hW (wlt_6 (rfl : wkd 49 = 6)) (wen_6 (rfl : wkd 49 = 6)) (C := RX7) (T := TX7) (N := 6) rfl 5 (by decide) (hts _ wA_176) rfl dX7_readSign_1 ?_
  rcases wif_e hf with ⟨hq1, hf⟩ | ⟨hq1, hf⟩
  · refine lv_if_ne (tgt := 8) hx hb dX7_readSign_4 (by decide) (fun h => absurd hq1 h) (fun _ => ?_)
    have hres := Option.some.inj hf
    subst hres
    exact W.vret hx hb hr (wr_q hG hV hZ hW hS) hS.2.2 dX7_readSign_7
  · refine lv_if_ne (tgt := 8) hx hb dX7_readSign_4 (by decide) (fun _ => ?_) (fun h => absurd h hq1)
    refine lv_aload_n hx hb dX7_readSign_8 rfl (lv_at hl 1 rfl) ?_
    refine lv_aload_n hx hb dX7_readSign_9 rfl (lv_at hl 0 rfl) ?_
    refine wm_get hx hb hts wu_X7 hown hV hW (wlt_6 (rfl : wkd 49 = 6)) (wen_6 (rfl : wkd 49 = 6)) (C := RX7) (T := TX7) (N := 6) rfl 4 (by decide) (hts _ wA_174) rfl dX7_readSign_10 ?_
    obtain ⟨r3, hc2, hf⟩ := wbind_e hf
    refine wc_V (As := [.int (M 49 4)]) (rest := []) hx hb hml hown hts hG hV hZ (wlt_1 (rfl : wkd 47 = 1)) (q := (RX2, TX2, 2)) (wen_1 (rfl : wkd 47 = 1)) rfl (cX2_signAt_ok l E M (M 49 4) hc2) (cwV 1 hts gl_X7_17 rfl rfl rfl cdX2_signAt ⟨Nat.le_of_ble_eq_true rfl, Nat.le_of_ble_eq_true rfl⟩) rfl hl.1 rfl (Nat.le_of_ble_eq_true rfl) dX7_readSign_13 ⟨Nat.zero_le _, Nat.zero_le _⟩ hW hS rfl (fun H locs hW hS => ?_)
    refine lv_iload_n hx hb dX7_readSign_16 rfl (lv_at hl 2 rfl) ?_
    rcases wif_e hf with ⟨hq4, hf⟩ | ⟨hq4, hf⟩
    · refine lv_icmp_ne (tgt := 33) hx hb dX7_readSign_17 (by decide) (fun h => absurd hq4 h) (fun _ => ?_)
      refine lv_aload_n hx hb dX7_readSign_20 rfl (lv_at hl 0 rfl) ?_
      refine lv_dup hx hb dX7_readSign_21 rfl ?_
      refine wm_get hx hb hts wu_X7 hown hV hW (wlt_6 (rfl : wkd 49 = 6)) (wen_6 (rfl : wkd 49 = 6)) (C := RX7) (T := TX7) (N := 6) rfl 4 (by decide) (hts _ wA_174) rfl dX7_readSign_22 ?_
      refine lv_iconst (v := 1) hx hb dX7_readSign_25 rfl ?_
      refine lv_iadd hx hb dX7_readSign_26 ?_
      refine wm_put hx hb hts wu_X7 tyX7 tyX7_ok nmX7 hown hG hV hW hS (wlt_6 (rfl : wkd 49 = 6)) (wen_6 (rfl : wkd 49 = 6)) (C := RX7) (T := TX7) (N := 6) rfl 4 (by decide) (hts _ wA_174) rfl .int _ (tyX7_ok 4 (by decide)) rfl rfl (Nat.le_of_ble_eq_true rfl) (wpt_6_4 (rfl : wkd 49 = 6)) dX7_readSign_27 (fun H locs hW hS => ?_)
      obtain ⟨M6, hW, hf⟩ := wlet_M hW hf
      refine lv_goto (tgt := 38) hx hb dX7_readSign_30 (by decide) ?_
      have hres := Option.some.inj hf
      subst hres
      exact W.vret hx hb hr (wr_q hG hV hZ hW hS) hS.2.2 dX7_readSign_38
    · refine lv_icmp_ne (tgt := 33) hx hb dX7_readSign_17 (by decide) (fun _ => ?_) (fun h => absurd h hq4)
      refine lv_aload_n hx hb dX7_readSign_33 rfl (lv_at hl 0 rfl) ?_
      refine lv_iconst (v := 0) hx hb dX7_readSign_34 rfl ?_
      refine wm_put hx hb hts wu_X7 tyX7 tyX7_ok nmX7 hown hG hV hW hS (wlt_6 (rfl : wkd 49 = 6)) (wen_6 (rfl : wkd 49 = 6)) (C := RX7) (T := TX7) (N := 6) rfl 5 (by decide) (hts _ wA_176) rfl .boolean _ (tyX7_ok 5 (by decide)) rfl rfl (Nat.le_of_ble_eq_true rfl) (wpt_6_5 (rfl : wkd 49 = 6)) dX7_readSign_35 (fun H locs hW hS => ?_)
      obtain ⟨M5, hW, hf⟩ := wlet_M hW hf
      have hres := Option.some.inj hf
      subst hres
      exact W.vret hx hb hr (wr_q hG hV hZ hW hS) hS.2.2 dX7_readSign_38
theorem cX7_readSign_ok (l : Launch) (E : wE) (M : wMem) (a2 : Int32) {res : wMem} (hf : fX7_readSign M a2 = some res) : wMet l yX7_readSign (wsM yX7_readSign cX7_readSign 3 none) ({ frames := 1, cells := 0, slots := 0, locals := 21 } : Room) E M [.ref (wad E 49), .ref (wad E 47), .int a2] none res :=
  wc_of (cc := cX7_readSign) (maxL := 3) (ret := none) (by decide) (Nat.le_of_ble_eq_true rfl) (fun _ _ _ _ _ _ _ _ B hW hl => pX7_readSign B  hf hW va_S.rf hl)
end
theorem cdX7_read : yX7_read.cls = RX7 ∧ yX7_read.cls ≠ "java/lang/invoke/MethodHandle" ∧ yX7_read.cls ≠ "java/lang/invoke/VarHandle" ∧ (parseMethodDescriptor yX7_read.desc).map (fun d => d.parameters.length) = some 2 := by decide +kernel
section
variable {p : Program} {l : Launch} {e : Env} {s : State} {m : MethodId} {args : Array Value} {below : List Frame} {meth : Method} {c : Code} {E : wE}
set_option maxRecDepth 100000 in
set_option maxHeartbeats 4000000 in
theorem pX7_read_205 (B : wB E p s m args meth c cX7_read 3 RX7 none) {M : wMem}   {res : wMem}   (hf : fX7_read_205 M   = some res) {H : Heap} {locs : List Loc} {ls : Array Slot} (hW : wH E M H) (hS : va_S (wA E) s.heap H locs) (hl : lv_has ls 3 [(0, .ref (wad E 49)), (1, .ref (wad E 47))]) : W p l e ({ frames := 2, cells := 0, slots := 0, locals := 45 } : Room) s m args below meth c H locs 0 0 (MQ below (wQ E none res) args s 0 0 (wA E)) (F0 m 205 ls []) := by
  unfold fX7_read_205 at hf
  obtain ⟨hx, hb, hr, hml, hown, hts, hlocks, hG, hV, hZ⟩ := id B
  refine lv_aload_n hx hb dX7_read_205 rfl (lv_at hl 0 rfl) ?_
  refine lv_aload_n hx hb dX7_read_206 rfl (lv_at hl 1 rfl) ?_
  refine lv_bipush (v := 59) hx hb dX7_read_207 (by decide) ?_
  obtain ⟨M21, hc19, hf⟩ := wbind_e hf
  refine wc_V (As := [.ref (wad E 47), .int 59]) (rest := []) hx hb hml hown hts hG hV hZ (wlt_6 (rfl : wkd 49 = 6)) (q := (RX7, TX7, 6)) (wen_6 (rfl : wkd 49 = 6)) rfl (cX7_readSign_ok l E M 59 hc19) (cwV 2 hts gl_X7_36 rfl rfl rfl cdX7_readSign ⟨Nat.le_of_ble_eq_true rfl, Nat.le_of_ble_eq_true rfl⟩) rfl hl.1 rfl (Nat.le_of_ble_eq_true rfl) dX7_read_209 ⟨Nat.zero_le _, Nat.zero_le _⟩ hW hS rfl (fun H locs hW hS => ?_)
  have hres := Option.some.inj hf
  subst hres
  exact W.vret hx hb hr (wr_q hG hV hZ hW hS) hS.2.2 dX7_read_212
set_option maxRecDepth 100000 in
set_option maxHeartbeats 4000000 in
theorem pX7_read (B : wB E p s m args meth c cX7_read 3 RX7 none) {M : wMem} {a2 : Int32}  {res : wMem} (hf : fX7_read M a2 = some res) {H : Heap} {locs : List Loc} {ls : Array Slot} (hW : wH E M H) (hS : va_S (wA E) s.heap H locs) (hl : lv_has ls 3 [(0, .ref (wad E 49)), (1, .ref (wad E 47)), (2, .int a2)]) : W p l e ({ frames := 2, cells := 0, slots := 0, locals := 45 } : Room) s m args below meth c H locs 0 0 (MQ below (wQ E none res) args s 0 0 (wA E)) (F0 m 0 ls []) := by
  unfold fX7_read at hf
  obtain ⟨hx, hb, hr, hml, hown, hts, hlocks, hG, hV, hZ⟩ := id B
  refine lv_aload_n hx hb dX7_read_0 rfl (lv_at hl 0 rfl) ?_
  refine lv_iload_n hx hb dX7_read_1 rfl (lv_at hl 2 rfl) ?_
  refine wm_put hx hb hts wu_X7 tyX7 tyX7_ok nmX7 hown hG hV hW hS (wlt_6 (rfl : wkd 49 = 6)) (wen_6 (rfl : wkd 49 = 6)) (C := RX7) (T := TX7) (N := 6) rfl 4 (by decide) (hts _ wA_174) rfl .int _ (tyX7_ok 4 (by decide)) rfl rfl (Nat.le_of_ble_eq_true rfl) (wpt_6_4 (rfl : wkd 49 = 6)) dX7_read_2 (fun H locs hW hS => ?_)
  obtain ⟨M1, hW, hf⟩ := wlet_M hW hf
  refine lv_aload_n hx hb dX7_read_5 rfl (lv_at hl 0 rfl) ?_
  refine lv_iconst (v := 1) hx hb dX7_read_6 rfl ?_
  refine wm_put hx hb hts wu_X7 tyX7 tyX7_ok nmX7 hown hG hV hW hS (wlt_6 (rfl : wkd 49 = 6)) (wen_6 (rfl : wkd 49 = 6)) (C := RX7) (T := TX7) (N := 6) rfl 5 (by decide) (hts _ wA_176) rfl .boolean _ (tyX7_ok 5 (by decide)) rfl rfl (Nat.le_of_ble_eq_true rfl) (wpt_6_5 (rfl : wkd 49 = 6)) dX7_read_7 (fun H locs hW hS => ?_)
  obtain ⟨M2, hW, hf⟩ := wlet_M hW hf
  refine lv_aload_n hx hb dX7_read_10 rfl (lv_at hl 0 rfl) ?_
  refine lv_aload_n hx hb dX7_read_11 rfl (lv_at hl 1 rfl) ?_
  refine lv_iload_n hx hb dX7_read_12 rfl (lv_at hl 2 rfl) ?_
  obtain ⟨r4, hc3, hf⟩ := wbind_e hf
  refine wc_V (As := [.int a2]) (rest := [.ref (wad E 49)]) hx hb hml hown hts hG hV hZ (wlt_1 (rfl : wkd 47 = 1)) (q := (RX2, TX2, 2)) (wen_1 (rfl : wkd 47 = 1)) rfl (cX2_signAt_ok l E M2 a2 hc3) (cwV 1 hts gl_X7_17 rfl rfl rfl cdX2_signAt ⟨Nat.le_of_ble_eq_true rfl, Nat.le_of_ble_eq_true rfl⟩) rfl hl.1 rfl (Nat.le_of_ble_eq_true rfl) dX7_read_13 ⟨Nat.zero_le _, Nat.zero_le _⟩ hW hS rfl (fun H locs hW hS => ?_)
  refine wm_put hx hb hts wu_X7 tyX7 tyX7_ok nmX7 hown hG hV hW hS (wlt_6 (rfl : wkd 49 = 6)) (wen_6 (rfl : wkd 49 = 6)) (C := RX7) (T := TX7) (N := 6) rfl 0 (by decide) (hts _ wA_166) rfl .int _ (tyX7_ok 0 (by decide)) rfl rfl (Nat.le_of_ble_eq_true rfl) (wpt_6_0 (rfl : wkd 49 = 6)) dX7_read_16 (fun H locs hW hS => ?_)
  obtain ⟨M5, hW, hf⟩ := wlet_M hW hf
  refine lv_aload_n hx hb dX7_read_19 rfl (lv_at hl 0 rfl) ?_
  refine wm_get hx hb hts wu_X7 hown hV hW (wlt_6 (rfl : wkd 49 = 6)) (wen_6 (rfl : wkd 49 = 6)) (C := RX7) (T := TX7) (N := 6) rfl 0 (by decide) (hts _ wA_166) rfl dX7_read_20 ?_
  refine lv_topi (fun x6 ex6 => ?_)
  replace hf := wlet_y ex6 hf
  rcases wif_e hf with ⟨hq22, hf⟩ | ⟨hq22, hf⟩
  · refine lv_lookup (off := 114) (tgt := 137) hx hb dX7_read_23 (by decide) (by rw [hq22] <;> rfl) (by decide) ?_
    refine lv_aload_n hx hb dX7_read_137 rfl (lv_at hl 0 rfl) ?_
    refine lv_dup hx hb dX7_read_138 rfl ?_
    refine wm_get hx hb hts wu_X7 hown hV hW (wlt_6 (rfl : wkd 49 = 6)) (wen_6 (rfl : wkd 49 = 6)) (C := RX7) (T := TX7) (N := 6) rfl 4 (by decide) (hts _ wA_174) rfl dX7_read_139 ?_
    refine lv_iconst (v := 1) hx hb dX7_read_142 rfl ?_
    refine lv_iadd hx hb dX7_read_143 ?_
    refine wm_put hx hb hts wu_X7 tyX7 tyX7_ok nmX7 hown hG hV hW hS (wlt_6 (rfl : wkd 49 = 6)) (wen_6 (rfl : wkd 49 = 6)) (C := RX7) (T := TX7) (N := 6) rfl 4 (by decide) (hts _ wA_174) rfl .int _ (tyX7_ok 4 (by decide)) rfl rfl (Nat.le_of_ble_eq_true rfl) (wpt_6_4 (rfl : wkd 49 = 6)) dX7_read_144 (fun H locs hW hS => ?_)
    obtain ⟨M7, hW, hf⟩ := wlet_M hW hf
    refine lv_aload_n hx hb dX7_read_147 rfl (lv_at hl 0 rfl) ?_
    refine lv_aload_n hx hb dX7_read_148 rfl (lv_at hl 0 rfl) ?_
    refine lv_aload_n hx hb dX7_read_149 rfl (lv_at hl 1 rfl) ?_
    refine lv_iconst (v := 2) hx hb dX7_read_150 rfl ?_
    obtain ⟨r9, M10, hc8, hf⟩ := wbind_p hf
    refine wc_V (As := [.ref (wad E 47), .int 2]) (rest := [.ref (wad E 49)]) hx hb hml hown hts hG hV hZ (wlt_6 (rfl : wkd 49 = 6)) (q := (RX7, TX7, 6)) (wen_6 (rfl : wkd 49 = 6)) rfl (cX7_readNumber_ok l E M7 2 hc8) (cwV 2 hts gl_X7_26 rfl rfl rfl cdX7_readNumber ⟨Nat.le_of_ble_eq_true rfl, Nat.le_of_ble_eq_true rfl⟩) rfl hl.1 rfl (Nat.le_of_ble_eq_true rfl) dX7_read_151 ⟨Nat.zero_le _, Nat.zero_le _⟩ hW hS rfl (fun H locs hW hS => ?_)
    refine wm_put hx hb hts wu_X7 tyX7 tyX7_ok nmX7 hown hG hV hW hS (wlt_6 (rfl : wkd 49 = 6)) (wen_6 (rfl : wkd 49 = 6)) (C := RX7) (T := TX7) (N := 6) rfl 1 (by decide) (hts _ wA_168) rfl .int _ (tyX7_ok 1 (by decide)) rfl rfl (Nat.le_of_ble_eq_true rfl) (wpt_6_1 (rfl : wkd 49 = 6)) dX7_read_154 (fun H locs hW hS => ?_)
    obtain ⟨M11, hW, hf⟩ := wlet_M hW hf
    refine lv_aload_n hx hb dX7_read_157 rfl (lv_at hl 0 rfl) ?_
    refine lv_aload_n hx hb dX7_read_158 rfl (lv_at hl 1 rfl) ?_
    refine lv_bipush (v := 44) hx hb dX7_read_159 (by decide) ?_
    obtain ⟨M14, hc12, hf⟩ := wbind_e hf
    refine wc_V (As := [.ref (wad E 47), .int 44]) (rest := []) hx hb hml hown hts hG hV hZ (wlt_6 (rfl : wkd 49 = 6)) (q := (RX7, TX7, 6)) (wen_6 (rfl : wkd 49 = 6)) rfl (cX7_readSign_ok l E M11 44 hc12) (cwV 2 hts gl_X7_36 rfl rfl rfl cdX7_readSign ⟨Nat.le_of_ble_eq_true rfl, Nat.le_of_ble_eq_true rfl⟩) rfl hl.1 rfl (Nat.le_of_ble_eq_true rfl) dX7_read_161 ⟨Nat.zero_le _, Nat.zero_le _⟩ hW hS rfl (fun H locs hW hS => ?_)
    refine lv_aload_n hx hb dX7_read_164 rfl (lv_at hl 0 rfl) ?_
    refine lv_aload_n hx hb dX7_read_165 rfl (lv_at hl 0 rfl) ?_
    refine lv_aload_n hx hb dX7_read_166 rfl (lv_at hl 1 rfl) ?_
    refine lv_iconst (v := 1) hx hb dX7_read_167 rfl ?_
    obtain ⟨r16, M17, hc15, hf⟩ := wbind_p hf
    refine wc_V (As := [.ref (wad E 47), .int 1]) (rest := [.ref (wad E 49)]) hx hb hml hown hts hG hV hZ (wlt_6 (rfl : wkd 49 = 6)) (q := (RX7, TX7, 6)) (wen_6 (rfl : wkd 49 = 6)) rfl (cX7_readNumber_ok l E M14 1 hc15) (cwV 2 hts gl_X7_26 rfl rfl rfl cdX7_readNumber ⟨Nat.le_of_ble_eq_true rfl, Nat.le_of_ble_eq_true rfl⟩) rfl hl.1 rfl (Nat.le_of_ble_eq_true rfl) dX7_read_168 ⟨Nat.zero_le _, Nat.zero_le _⟩ hW hS rfl (fun H locs hW hS => ?_)
    refine wm_put hx hb hts wu_X7 tyX7 tyX7_ok nmX7 hown hG hV hW hS (wlt_6 (rfl : wkd 49 = 6)) (wen_6 (rfl : wkd 49 = 6)) (C := RX7) (T := TX7) (N := 6) rfl 2 (by decide) (hts _ wA_170) rfl .int _ (tyX7_ok 2 (by decide)) rfl rfl (Nat.le_of_ble_eq_true rfl) (wpt_6_2 (rfl : wkd 49 = 6)) dX7_read_171 (fun H locs hW hS => ?_)
    obtain ⟨M18, hW, hf⟩ := wlet_M hW hf
    refine lv_goto (tgt := 205) hx hb dX7_read_174 (by decide) ?_
    exact pX7_read_205 B   hf hW hS (lv_sub hl [0, 1] rfl)
  · rcases wif_e hf with ⟨hq28, hf⟩ | ⟨hq28, hf⟩
    · refine lv_lookup (off := 154) (tgt := 177) hx hb dX7_read_23 (by decide) (by rw [hq28] <;> rfl) (by decide) ?_
      refine lv_aload_n hx hb dX7_read_177 rfl (lv_at hl 0 rfl) ?_
      refine lv_dup hx hb dX7_read_178 rfl ?_
      refine wm_get hx hb hts wu_X7 hown hV hW (wlt_6 (rfl : wkd 49 = 6)) (wen_6 (rfl : wkd 49 = 6)) (C := RX7) (T := TX7) (N := 6) rfl 4 (by decide) (hts _ wA_174) rfl dX7_read_179 ?_
      refine lv_iconst (v := 1) hx hb dX7_read_182 rfl ?_
      refine lv_iadd hx hb dX7_read_183 ?_
      refine wm_put hx hb hts wu_X7 tyX7 tyX7_ok nmX7 hown hG hV hW hS (wlt_6 (rfl : wkd 49 = 6)) (wen_6 (rfl : wkd 49 = 6)) (C := RX7) (T := TX7) (N := 6) rfl 4 (by decide) (hts _ wA_174) rfl .int _ (tyX7_ok 4 (by decide)) rfl rfl (Nat.le_of_ble_eq_true rfl) (wpt_6_4 (rfl : wkd 49 = 6)) dX7_read_184 (fun H locs hW hS => ?_)
      obtain ⟨M23, hW, hf⟩ := wlet_M hW hf
      refine lv_aload_n hx hb dX7_read_187 rfl (lv_at hl 0 rfl) ?_
      refine lv_aload_n hx hb dX7_read_188 rfl (lv_at hl 0 rfl) ?_
      refine lv_aload_n hx hb dX7_read_189 rfl (lv_at hl 1 rfl) ?_
      refine lv_iconst (v := 1) hx hb dX7_read_190 rfl ?_
      obtain ⟨r25, M26, hc24, hf⟩ := wbind_p hf
      refine wc_V (As := [.ref (wad E 47), .int 1]) (rest := [.ref (wad E 49)]) hx hb hml hown hts hG hV hZ (wlt_6 (rfl : wkd 49 = 6)) (q := (RX7, TX7, 6)) (wen_6 (rfl : wkd 49 = 6)) rfl (cX7_readNumber_ok l E M23 1 hc24) (cwV 2 hts gl_X7_26 rfl rfl rfl cdX7_readNumber ⟨Nat.le_of_ble_eq_true rfl, Nat.le_of_ble_eq_true rfl⟩) rfl hl.1 rfl (Nat.le_of_ble_eq_true rfl) dX7_read_191 ⟨Nat.zero_le _, Nat.zero_le _⟩ hW hS rfl (fun H locs hW hS => ?_)
      refine wm_put hx hb hts wu_X7 tyX7 tyX7_ok nmX7 hown hG hV hW hS (wlt_6 (rfl : wkd 49 = 6)) (wen_6 (rfl : wkd 49 = 6)) (C := RX7) (T := TX7) (N := 6) rfl 1 (by decide) (hts _ wA_168) rfl .int _ (tyX7_ok 1 (by decide)) rfl rfl (Nat.le_of_ble_eq_true rfl) (wpt_6_1 (rfl : wkd 49 = 6)) dX7_read_194 (fun H locs hW hS => ?_)
      obtain ⟨M27, hW, hf⟩ := wlet_M hW hf
      refine lv_goto (tgt := 205) hx hb dX7_read_197 (by decide) ?_
      exact pX7_read_205 B   hf hW hS (lv_sub hl [0, 1] rfl)
    · rcases wif_e hf with ⟨hq45, hf⟩ | ⟨hq45, hf⟩
      · refine lv_lookup (off := 41) (tgt := 64) hx hb dX7_read_23 (by decide) (by rw [hq45] <;> rfl) (by decide) ?_
        refine lv_aload_n hx hb dX7_read_64 rfl (lv_at hl 0 rfl) ?_
        refine lv_dup hx hb dX7_read_65 rfl ?_
        refine wm_get hx hb hts wu_X7 hown hV hW (wlt_6 (rfl : wkd 49 = 6)) (wen_6 (rfl : wkd 49 = 6)) (C := RX7) (T := TX7) (N := 6) rfl 4 (by decide) (hts _ wA_174) rfl dX7_read_66 ?_
        refine lv_iconst (v := 1) hx hb dX7_read_69 rfl ?_
        refine lv_iadd hx hb dX7_read_70 ?_
        refine wm_put hx hb hts wu_X7 tyX7 tyX7_ok nmX7 hown hG hV hW hS (wlt_6 (rfl : wkd 49 = 6)) (wen_6 (rfl : wkd 49 = 6)) (C := RX7) (T := TX7) (N := 6) rfl 4 (by decide) (hts _ wA_174) rfl .int _ (tyX7_ok 4 (by decide)) rfl rfl (Nat.le_of_ble_eq_true rfl) (wpt_6_4 (rfl : wkd 49 = 6)) dX7_read_71 (fun H locs hW hS => ?_)
        obtain ⟨M29, hW, hf⟩ := wlet_M hW hf
        refine lv_aload_n hx hb dX7_read_74 rfl (lv_at hl 0 rfl) ?_
        refine lv_aload_n hx hb dX7_read_75 rfl (lv_at hl 0 rfl) ?_
        refine lv_aload_n hx hb dX7_read_76 rfl (lv_at hl 1 rfl) ?_
        refine lv_iconst (v := 1) hx hb dX7_read_77 rfl ?_
        obtain ⟨r31, M32, hc30, hf⟩ := wbind_p hf
        refine wc_V (As := [.ref (wad E 47), .int 1]) (rest := [.ref (wad E 49)]) hx hb hml hown hts hG hV hZ (wlt_6 (rfl : wkd 49 = 6)) (q := (RX7, TX7, 6)) (wen_6 (rfl : wkd 49 = 6)) rfl (cX7_readNumber_ok l E M29 1 hc30) (cwV 2 hts gl_X7_26 rfl rfl rfl cdX7_readNumber ⟨Nat.le_of_ble_eq_true rfl, Nat.le_of_ble_eq_true rfl⟩) rfl hl.1 rfl (Nat.le_of_ble_eq_true rfl) dX7_read_78 ⟨Nat.zero_le _, Nat.zero_le _⟩ hW hS rfl (fun H locs hW hS => ?_)
        refine wm_put hx hb hts wu_X7 tyX7 tyX7_ok nmX7 hown hG hV hW hS (wlt_6 (rfl : wkd 49 = 6)) (wen_6 (rfl : wkd 49 = 6)) (C := RX7) (T := TX7) (N := 6) rfl 1 (by decide) (hts _ wA_168) rfl .int _ (tyX7_ok 1 (by decide)) rfl rfl (Nat.le_of_ble_eq_true rfl) (wpt_6_1 (rfl : wkd 49 = 6)) dX7_read_81 (fun H locs hW hS => ?_)
        obtain ⟨M33, hW, hf⟩ := wlet_M hW hf
        refine lv_aload_n hx hb dX7_read_84 rfl (lv_at hl 0 rfl) ?_
        refine lv_aload_n hx hb dX7_read_85 rfl (lv_at hl 0 rfl) ?_
        refine lv_aload_n hx hb dX7_read_86 rfl (lv_at hl 1 rfl) ?_
        refine lv_iconst (v := 2) hx hb dX7_read_87 rfl ?_
        obtain ⟨r35, M36, hc34, hf⟩ := wbind_p hf
        refine wc_V (As := [.ref (wad E 47), .int 2]) (rest := [.ref (wad E 49)]) hx hb hml hown hts hG hV hZ (wlt_6 (rfl : wkd 49 = 6)) (q := (RX7, TX7, 6)) (wen_6 (rfl : wkd 49 = 6)) rfl (cX7_readNumber_ok l E M33 2 hc34) (cwV 2 hts gl_X7_26 rfl rfl rfl cdX7_readNumber ⟨Nat.le_of_ble_eq_true rfl, Nat.le_of_ble_eq_true rfl⟩) rfl hl.1 rfl (Nat.le_of_ble_eq_true rfl) dX7_read_88 ⟨Nat.zero_le _, Nat.zero_le _⟩ hW hS rfl (fun H locs hW hS => ?_)
        refine wm_put hx hb hts wu_X7 tyX7 tyX7_ok nmX7 hown hG hV hW hS (wlt_6 (rfl : wkd 49 = 6)) (wen_6 (rfl : wkd 49 = 6)) (C := RX7) (T := TX7) (N := 6) rfl 2 (by decide) (hts _ wA_170) rfl .int _ (tyX7_ok 2 (by decide)) rfl rfl (Nat.le_of_ble_eq_true rfl) (wpt_6_2 (rfl : wkd 49 = 6)) dX7_read_91 (fun H locs hW hS => ?_)
        obtain ⟨M37, hW, hf⟩ := wlet_M hW hf
        refine lv_aload_n hx hb dX7_read_94 rfl (lv_at hl 0 rfl) ?_
        refine lv_aload_n hx hb dX7_read_95 rfl (lv_at hl 1 rfl) ?_
        refine lv_bipush (v := 44) hx hb dX7_read_96 (by decide) ?_
        obtain ⟨M40, hc38, hf⟩ := wbind_e hf
        refine wc_V (As := [.ref (wad E 47), .int 44]) (rest := []) hx hb hml hown hts hG hV hZ (wlt_6 (rfl : wkd 49 = 6)) (q := (RX7, TX7, 6)) (wen_6 (rfl : wkd 49 = 6)) rfl (cX7_readSign_ok l E M37 44 hc38) (cwV 2 hts gl_X7_36 rfl rfl rfl cdX7_readSign ⟨Nat.le_of_ble_eq_true rfl, Nat.le_of_ble_eq_true rfl⟩) rfl hl.1 rfl (Nat.le_of_ble_eq_true rfl) dX7_read_98 ⟨Nat.zero_le _, Nat.zero_le _⟩ hW hS rfl (fun H locs hW hS => ?_)
        refine lv_aload_n hx hb dX7_read_101 rfl (lv_at hl 0 rfl) ?_
        refine lv_aload_n hx hb dX7_read_102 rfl (lv_at hl 0 rfl) ?_
        refine lv_aload_n hx hb dX7_read_103 rfl (lv_at hl 1 rfl) ?_
        refine lv_iconst (v := 1) hx hb dX7_read_104 rfl ?_
        obtain ⟨r42, M43, hc41, hf⟩ := wbind_p hf
        refine wc_V (As := [.ref (wad E 47), .int 1]) (rest := [.ref (wad E 49)]) hx hb hml hown hts hG hV hZ (wlt_6 (rfl : wkd 49 = 6)) (q := (RX7, TX7, 6)) (wen_6 (rfl : wkd 49 = 6)) rfl (cX7_readNumber_ok l E M40 1 hc41) (cwV 2 hts gl_X7_26 rfl rfl rfl cdX7_readNumber ⟨Nat.le_of_ble_eq_true rfl, Nat.le_of_ble_eq_true rfl⟩) rfl hl.1 rfl (Nat.le_of_ble_eq_true rfl) dX7_read_105 ⟨Nat.zero_le _, Nat.zero_le _⟩ hW hS rfl (fun H locs hW hS => ?_)
        refine wm_put hx hb hts wu_X7 tyX7 tyX7_ok nmX7 hown hG hV hW hS (wlt_6 (rfl : wkd 49 = 6)) (wen_6 (rfl : wkd 49 = 6)) (C := RX7) (T := TX7) (N := 6) rfl 3 (by decide) (hts _ wA_172) rfl .int _ (tyX7_ok 3 (by decide)) rfl rfl (Nat.le_of_ble_eq_true rfl) (wpt_6_3 (rfl : wkd 49 = 6)) dX7_read_108 (fun H locs hW hS => ?_)
        obtain ⟨M44, hW, hf⟩ := wlet_M hW hf
        refine lv_goto (tgt := 205) hx hb dX7_read_111 (by decide) ?_
        exact pX7_read_205 B   hf hW hS (lv_sub hl [0, 1] rfl)
      · rcases wif_e hf with ⟨hq51, hf⟩ | ⟨hq51, hf⟩
        · refine lv_lookup (off := 91) (tgt := 114) hx hb dX7_read_23 (by decide) (by rw [hq51] <;> rfl) (by decide) ?_
          refine lv_aload_n hx hb dX7_read_114 rfl (lv_at hl 0 rfl) ?_
          refine lv_dup hx hb dX7_read_115 rfl ?_
          refine wm_get hx hb hts wu_X7 hown hV hW (wlt_6 (rfl : wkd 49 = 6)) (wen_6 (rfl : wkd 49 = 6)) (C := RX7) (T := TX7) (N := 6) rfl 4 (by decide) (hts _ wA_174) rfl dX7_read_116 ?_
          refine lv_iconst (v := 1) hx hb dX7_read_119 rfl ?_
          refine lv_iadd hx hb dX7_read_120 ?_
          refine wm_put hx hb hts wu_X7 tyX7 tyX7_ok nmX7 hown hG hV hW hS (wlt_6 (rfl : wkd 49 = 6)) (wen_6 (rfl : wkd 49 = 6)) (C := RX7) (T := TX7) (N := 6) rfl 4 (by decide) (hts _ wA_174) rfl .int _ (tyX7_ok 4 (by decide)) rfl rfl (Nat.le_of_ble_eq_true rfl) (wpt_6_4 (rfl : wkd 49 = 6)) dX7_read_121 (fun H locs hW hS => ?_)
          obtain ⟨M46, hW, hf⟩ := wlet_M hW hf
          refine lv_aload_n hx hb dX7_read_124 rfl (lv_at hl 0 rfl) ?_
          refine lv_aload_n hx hb dX7_read_125 rfl (lv_at hl 0 rfl) ?_
          refine lv_aload_n hx hb dX7_read_126 rfl (lv_at hl 1 rfl) ?_
          refine lv_iconst (v := 3) hx hb dX7_read_127 rfl ?_
          obtain ⟨r48, M49, hc47, hf⟩ := wbind_p hf
          refine wc_V (As := [.ref (wad E 47), .int 3]) (rest := [.ref (wad E 49)]) hx hb hml hown hts hG hV hZ (wlt_6 (rfl : wkd 49 = 6)) (q := (RX7, TX7, 6)) (wen_6 (rfl : wkd 49 = 6)) rfl (cX7_readNumber_ok l E M46 3 hc47) (cwV 2 hts gl_X7_26 rfl rfl rfl cdX7_readNumber ⟨Nat.le_of_ble_eq_true rfl, Nat.le_of_ble_eq_true rfl⟩) rfl hl.1 rfl (Nat.le_of_ble_eq_true rfl) dX7_read_128 ⟨Nat.zero_le _, Nat.zero_le _⟩ hW hS rfl (fun H locs hW hS => ?_)
          refine wm_put hx hb hts wu_X7 tyX7 tyX7_ok nmX7 hown hG hV hW hS (wlt_6 (rfl : wkd 49 = 6)) (wen_6 (rfl : wkd 49 = 6)) (C := RX7) (T := TX7) (N := 6) rfl 1 (by decide) (hts _ wA_168) rfl .int _ (tyX7_ok 1 (by decide)) rfl rfl (Nat.le_of_ble_eq_true rfl) (wpt_6_1 (rfl : wkd 49 = 6)) dX7_read_131 (fun H locs hW hS => ?_)
          obtain ⟨M50, hW, hf⟩ := wlet_M hW hf
          refine lv_goto (tgt := 205) hx hb dX7_read_134 (by decide) ?_
          exact pX7_read_205 B   hf hW hS (lv_sub hl [0, 1] rfl)
        · refine lv_lookup (off := 177) (tgt := 200) hx hb dX7_read_23 (by decide) ((lv_osw (k := 100) hq22 (by decide)).trans ((lv_osw (k := 103) hq28 (by decide)).trans ((lv_osw (k := 112) hq45 (by decide)).trans ((lv_osw (k := 117) hq51 (by decide)).trans rfl)))) (by decide) ?_
          refine lv_aload_n hx hb dX7_read_200 rfl (lv_at hl 0 rfl) ?_
          refine lv_iconst (v := 0) hx hb dX7_read_201 rfl ?_
          refine wm_put hx hb hts wu_X7 tyX7 tyX7_ok nmX7 hown hG hV hW hS (wlt_6 (rfl : wkd 49 = 6)) (wen_6 (rfl : wkd 49 = 6)) (C := RX7) (T := TX7) (N := 6) rfl 5 (by decide) (hts _ wA_176) rfl .boolean _ (tyX7_ok 5 (by decide)) rfl rfl (Nat.le_of_ble_eq_true rfl) (wpt_6_5 (rfl : wkd 49 = 6)) dX7_read_202 (fun H locs hW hS => ?_)
          obtain ⟨M52, hW, hf⟩ := wlet_M hW hf
          exact pX7_read_205 B   hf hW hS (lv_sub hl [0, 1] rfl)
theorem cX7_read_ok (l : Launch) (E : wE) (M : wMem) (a2 : Int32) {res : wMem} (hf : fX7_read M a2 = some res) : wMet l yX7_read (wsM yX7_read cX7_read 3 none) ({ frames := 2, cells := 0, slots := 0, locals := 45 } : Room) E M [.ref (wad E 49), .ref (wad E 47), .int a2] none res :=
  wc_of (cc := cX7_read) (maxL := 3) (ret := none) (by decide) (Nat.le_of_ble_eq_true rfl) (fun _ _ _ _ _ _ _ _ B hW hl => pX7_read B  hf hW va_S.rf hl)
end
theorem cdX9_formOfLetters : yX9_formOfLetters.cls = RX9 ∧ yX9_formOfLetters.cls ≠ "java/lang/invoke/MethodHandle" ∧ yX9_formOfLetters.cls ≠ "java/lang/invoke/VarHandle" ∧ (parseMethodDescriptor yX9_formOfLetters.desc).map (fun d => d.parameters.length) = some 0 := by decide +kernel
section
variable {p : Program} {l : Launch} {e : Env} {s : State} {m : MethodId} {args : Array Value} {below : List Frame} {meth : Method} {c : Code} {E : wE}
set_option maxRecDepth 100000 in
set_option maxHeartbeats 4000000 in
theorem pX9_formOfLetters_63 (B : wB E p s m args meth c cX9_formOfLetters 3 RX9 (some .int)) {M : wMem} {y2 : Int32}  {res : Int32 × wMem}   (hf : fX9_formOfLetters_63 M  y2 = some res) {H : Heap} {locs : List Loc} {ls : Array Slot} (hW : wH E M H) (hS : va_S (wA E) s.heap H locs) (hl : lv_has ls 3 [(2, .int y2)]) : W p l e ({ frames := 3, cells := 0, slots := 0, locals := 67 } : Room) s m args below meth c H locs 0 0 (MQ below (wQ E (some (.int res.1)) res.2) args s 0 0 (wA E)) (F0 m 63 ls []) := by
  unfold fX9_formOfLetters_63 at hf
  obtain ⟨hx, hb, hr, hml, hown, hts, hlocks, hG, hV, hZ⟩ := id B
  refine lv_iload_n hx hb dX9_formOfLetters_63 rfl (lv_at hl 0 rfl) ?_
  rcases wif_e hf with ⟨hq2, hf⟩ | ⟨hq2, hf⟩
  · refine lv_if_ne (tgt := 73) hx hb dX9_formOfLetters_64 (by decide) (fun h => absurd hq2 h) (fun _ => ?_)
    refine lv_sipush (v := (-1000)) hx hb dX9_formOfLetters_67 (by decide) ?_
    refine lv_goto (tgt := 74) hx hb dX9_formOfLetters_70 (by decide) ?_
    have hres := Option.some.inj hf
    subst hres
    exact W.iret hx hb hr (wr_q hG hV hZ hW hS) hS.2.2 dX9_formOfLetters_74
  · refine lv_if_ne (tgt := 73) hx hb dX9_formOfLetters_64 (by decide) (fun _ => ?_) (fun h => absurd h hq2)
    refine lv_iload_n hx hb dX9_formOfLetters_73 rfl (lv_at hl 0 rfl) ?_
    have hres := Option.some.inj hf
    subst hres
    exact W.iret hx hb hr (wr_q hG hV hZ hW hS) hS.2.2 dX9_formOfLetters_74
set_option maxRecDepth 100000 in
set_option maxHeartbeats 4000000 in
theorem pX9_formOfLetters_4_b (B : wB E p s m args meth c cX9_formOfLetters 3 RX9 (some .int)) {M : wMem} {y1 : Int32} {y2 : Int32}  {rec4 : (Int32 × Int32 × wMem → Option (Int32 × wMem))} {res : Int32 × wMem}   (hrec4 : ∀ (y1' : Int32) (y2' : Int32) (M' : wMem), rec4 (y1', y2', M') = some res → ∀ (H : Heap) (locs : List Loc) (ls : Array Slot), wH E M' H → va_S (wA E) s.heap H locs → lv_has ls 3 [(0, .ref (wad E 0)), (1, .int y1'), (2, .int y2')] → W p l e ({ frames := 3, cells := 0, slots := 0, locals := 67 } : Room) s m args below meth c H locs 0 0 (MQ below (wQ E (some (.int res.1)) res.2) args s 0 0 (wA E)) (F0 m 4 ls [])) (hf : fX9_formOfLetters_4_b M  rec4 y1 y2 = some res) {H : Heap} {locs : List Loc} {ls : Array Slot} (hW : wH E M H) (hS : va_S (wA E) s.heap H locs) (hl : lv_has ls 3 [(0, .ref (wad E 0)), (1, .int y1), (2, .int y2)]) : W p l e ({ frames := 3, cells := 0, slots := 0, locals := 67 } : Room) s m args below meth c H locs 0 0 (MQ below (wQ E (some (.int res.1)) res.2) args s 0 0 (wA E)) (F0 m 4 ls []) := by
  unfold fX9_formOfLetters_4_b at hf
  obtain ⟨hx, hb, hr, hml, hown, hts, hlocks, hG, hV, hZ⟩ := id B
  refine lv_iload_n hx hb dX9_formOfLetters_4 rfl (lv_at hl 1 rfl) ?_
  refine lv_aload_n hx hb dX9_formOfLetters_5 rfl (lv_at hl 0 rfl) ?_
  refine wm_get hx hb hts wu_X9 hown hV hW (wlt_8 (rfl : wkd 0 = 8)) (wen_8 (rfl : wkd 0 = 8)) (C := RX9) (T := TX9) (N := 10) rfl 3 (by decide) (hts _ wA_234) rfl dX9_formOfLetters_6 ?_
  refine wm_get hx hb hts wu_X2 hown hV hW (wlt_1 (rfl : wkd 47 = 1)) (wen_1 (rfl : wkd 47 = 1)) (C := RX2) (T := TX2) (N := 2) rfl 1 (by decide) (hts _ wA_153) rfl dX9_formOfLetters_9 ?_
  rcases wif_e hf with ⟨hq1, hf⟩ | ⟨hq1, hf⟩
  · refine lv_icmp_ge (tgt := 63) hx hb dX9_formOfLetters_12 (by decide) (fun _ => ?_) (fun h => absurd hq1 h)
    exact pX9_formOfLetters_63 B   hf hW hS (lv_sub hl [2] rfl)
  · refine lv_icmp_ge (tgt := 63) hx hb dX9_formOfLetters_12 (by decide) (fun h => absurd h hq1) (fun _ => ?_)
    refine lv_iload_n hx hb dX9_formOfLetters_15 rfl (lv_at hl 2 rfl) ?_
    refine lv_bipush (v := 64) hx hb dX9_formOfLetters_16 (by decide) ?_
    rcases wif_e hf with ⟨hq3, hf⟩ | ⟨hq3, hf⟩
    · refine lv_icmp_ge (tgt := 63) hx hb dX9_formOfLetters_18 (by decide) (fun _ => ?_) (fun h => absurd hq3 h)
      exact pX9_formOfLetters_63 B   hf hW hS (lv_sub hl [2] rfl)
    · refine lv_icmp_ge (tgt := 63) hx hb dX9_formOfLetters_18 (by decide) (fun h => absurd h hq3) (fun _ => ?_)
      refine lv_aload_n hx hb dX9_formOfLetters_21 rfl (lv_at hl 0 rfl) ?_
      refine wm_get hx hb hts wu_X9 hown hV hW (wlt_8 (rfl : wkd 0 = 8)) (wen_8 (rfl : wkd 0 = 8)) (C := RX9) (T := TX9) (N := 10) rfl 4 (by decide) (hts _ wA_235) rfl dX9_formOfLetters_22 ?_
      refine lv_aload_n hx hb dX9_formOfLetters_25 rfl (lv_at hl 0 rfl) ?_
      refine wm_get hx hb hts wu_X9 hown hV hW (wlt_8 (rfl : wkd 0 = 8)) (wen_8 (rfl : wkd 0 = 8)) (C := RX9) (T := TX9) (N := 10) rfl 3 (by decide) (hts _ wA_234) rfl dX9_formOfLetters_26 ?_
      refine lv_iload_n hx hb dX9_formOfLetters_29 rfl (lv_at hl 1 rfl) ?_
      obtain ⟨M6, hc4, hf⟩ := wbind_e hf
      refine wc_V (As := [.ref (wad E 47), .int y1]) (rest := []) hx hb hml hown hts hG hV hZ (wlt_6 (rfl : wkd 49 = 6)) (q := (RX7, TX7, 6)) (wen_6 (rfl : wkd 49 = 6)) rfl (cX7_read_ok l E M y1 hc4) (cwV 2 hts gl_X9_245 rfl rfl rfl cdX7_read ⟨Nat.le_of_ble_eq_true rfl, Nat.le_of_ble_eq_true rfl⟩) rfl hl.1 rfl (Nat.le_of_ble_eq_true rfl) dX9_formOfLetters_30 ⟨Nat.zero_le _, Nat.zero_le _⟩ hW hS rfl (fun H locs hW hS => ?_)
      refine lv_aload_n hx hb dX9_formOfLetters_33 rfl (lv_at hl 0 rfl) ?_
      refine wm_get hx hb hts wu_X9 hown hV hW (wlt_8 (rfl : wkd 0 = 8)) (wen_8 (rfl : wkd 0 = 8)) (C := RX9) (T := TX9) (N := 10) rfl 4 (by decide) (hts _ wA_235) rfl dX9_formOfLetters_34 ?_
      refine wm_get hx hb hts wu_X7 hown hV hW (wlt_6 (rfl : wkd 49 = 6)) (wen_6 (rfl : wkd 49 = 6)) (C := RX7) (T := TX7) (N := 6) rfl 4 (by decide) (hts _ wA_175) rfl dX9_formOfLetters_37 ?_
      refine lv_topi (fun x7 ex7 => ?_)
      replace hf := wlet_y ex7 hf
      refine lv_istore_n (lv' := [(1, .int x7), (0, .ref (wad E 0)), (2, .int y2)]) hx hb dX9_formOfLetters_40 rfl hl (by decide) rfl (fun ls hl => ?_)
      refine lv_aload_n hx hb dX9_formOfLetters_41 rfl (lv_at hl 1 rfl) ?_
      refine wm_get hx hb hts wu_X9 hown hV hW (wlt_8 (rfl : wkd 0 = 8)) (wen_8 (rfl : wkd 0 = 8)) (C := RX9) (T := TX9) (N := 10) rfl 4 (by decide) (hts _ wA_235) rfl dX9_formOfLetters_42 ?_
      refine wm_get hx hb hts wu_X7 hown hV hW (wlt_6 (rfl : wkd 49 = 6)) (wen_6 (rfl : wkd 49 = 6)) (C := RX7) (T := TX7) (N := 6) rfl 5 (by decide) (hts _ wA_177) rfl dX9_formOfLetters_45 ?_
      rcases wif_e hf with ⟨hq8, hf⟩ | ⟨hq8, hf⟩
      · refine lv_if_ne (tgt := 57) hx hb dX9_formOfLetters_48 (by decide) (fun h => absurd hq8 h) (fun _ => ?_)
        refine lv_sipush (v := (-1000)) hx hb dX9_formOfLetters_51 (by decide) ?_
        refine lv_iload_n hx hb dX9_formOfLetters_54 rfl (lv_at hl 0 rfl) ?_
        refine lv_isub hx hb dX9_formOfLetters_55 ?_
        have hres := Option.some.inj hf
        subst hres
        exact W.iret hx hb hr (wr_q hG hV hZ hW hS) hS.2.2 dX9_formOfLetters_56
      · refine lv_if_ne (tgt := 57) hx hb dX9_formOfLetters_48 (by decide) (fun _ => ?_) (fun h => absurd h hq8)
        obtain ⟨x9, ex9, hf⟩ := wlet_e hf
        refine lv_iinc (v := x9) (lv' := [(2, .int x9), (1, .int x7), (0, .ref (wad E 0))]) hx hb dX9_formOfLetters_57 hl (k := 2) rfl (by rw [ex9]; rfl) (by decide) rfl (fun ls hl => ?_)
        refine lv_goto (tgt := 4) hx hb dX9_formOfLetters_60 (by decide) ?_
        exact hrec4 x7 x9 M6 hf _ _ _ hW hS (lv_sub hl [2, 1, 0] rfl)
set_option maxRecDepth 100000 in
set_option maxHeartbeats 4000000 in
theorem pX9_formOfLetters_4 (B : wB E p s m args meth c cX9_formOfLetters 3 RX9 (some .int)) {M : wMem} {y1 : Int32} {y2 : Int32}  {res : Int32 × wMem}   (hf : fX9_formOfLetters_4 M  y1 y2 = some res) {H : Heap} {locs : List Loc} {ls : Array Slot} (hW : wH E M H) (hS : va_S (wA E) s.heap H locs) (hl : lv_has ls 3 [(0, .ref (wad E 0)), (1, .int y1), (2, .int y2)]) : W p l e ({ frames := 3, cells := 0, slots := 0, locals := 67 } : Room) s m args below meth c H locs 0 0 (MQ below (wQ E (some (.int res.1)) res.2) args s 0 0 (wA E)) (F0 m 4 ls []) := by
  have key := wloop_W (b := (fun rec4 t => fX9_formOfLetters_4_b t.2.2  rec4 t.1 t.2.1)) (P := fun t => ∀ (H : Heap) (locs : List Loc) (ls : Array Slot), wH E t.2.2 H → va_S (wA E) s.heap H locs → lv_has ls 3 [(0, .ref (wad E 0)), (1, .int t.1), (2, .int t.2.1)] → W p l e ({ frames := 3, cells := 0, slots := 0, locals := 67 } : Room) s m args below meth c H locs 0 0 (MQ below (wQ E (some (.int res.1)) res.2) args s 0 0 (wA E)) (F0 m 4 ls [])) (r := res) (fun rec hrec t hf H locs ls hW hS hl => pX9_formOfLetters_4_b B   (fun v0 v1 v2 hf H locs ls hW hS hl => hrec (v0, v1, v2) hf H locs ls hW hS hl) hf hW hS hl)
  exact key wfuel (y1, y2, M) hf H locs ls hW hS hl
set_option maxRecDepth 100000 in
set_option maxHeartbeats 4000000 in
theorem pX9_formOfLetters (B : wB E p s m args meth c cX9_formOfLetters 3 RX9 (some .int)) {M : wMem}   {res : Int32 × wMem} (hf : fX9_formOfLetters M  = some res) {H : Heap} {locs : List Loc} {ls : Array Slot} (hW : wH E M H) (hS : va_S (wA E) s.heap H locs) (hl : lv_has ls 3 [(0, .ref (wad E 0))]) : W p l e ({ frames := 3, cells := 0, slots := 0, locals := 67 } : Room) s m args below meth c H locs 0 0 (MQ below (wQ E (some (.int res.1)) res.2) args s 0 0 (wA E)) (F0 m 0 ls []) := by
  unfold fX9_formOfLetters at hf
  obtain ⟨hx, hb, hr, hml, hown, hts, hlocks, hG, hV, hZ⟩ := id B
  refine lv_iconst (v := 0) hx hb dX9_formOfLetters_0 rfl ?_
  refine lv_istore_n (lv' := [(1, .int 0), (0, .ref (wad E 0))]) hx hb dX9_formOfLetters_1 rfl hl (by decide) rfl (fun ls hl => ?_)
  refine lv_iconst (v := 0) hx hb dX9_formOfLetters_2 rfl ?_
  refine lv_istore_n (lv' := [(2, .int 0), (1, .int 0), (0, .ref (wad E 0))]) hx hb dX9_formOfLetters_3 rfl hl (by decide) rfl (fun ls hl => ?_)
  exact pX9_formOfLetters_4 B   hf hW hS (lv_sub hl [2, 1, 0] rfl)
theorem cX9_formOfLetters_ok (l : Launch) (E : wE) (M : wMem)  {res : Int32 × wMem} (hf : fX9_formOfLetters M  = some res) : wMet l yX9_formOfLetters (wsM yX9_formOfLetters cX9_formOfLetters 3 (some .int)) ({ frames := 3, cells := 0, slots := 0, locals := 67 } : Room) E M [.ref (wad E 0)] (some (.int res.1)) res.2 :=
  wc_of (cc := cX9_formOfLetters) (maxL := 3) (ret := (some .int)) (by decide) (Nat.le_of_ble_eq_true rfl) (fun _ _ _ _ _ _ _ _ B hW hl => pX9_formOfLetters B  hf hW va_S.rf hl)
end
theorem cdX1_copyFrom : yX1_copyFrom.cls = RX1 ∧ yX1_copyFrom.cls ≠ "java/lang/invoke/MethodHandle" ∧ yX1_copyFrom.cls ≠ "java/lang/invoke/VarHandle" ∧ (parseMethodDescriptor yX1_copyFrom.desc).map (fun d => d.parameters.length) = some 1 := by decide +kernel
section
variable {p : Program} {l : Launch} {e : Env} {s : State} {m : MethodId} {args : Array Value} {below : List Frame} {meth : Method} {c : Code} {E : wE}
set_option maxRecDepth 100000 in
set_option maxHeartbeats 4000000 in
theorem pX1_copyFrom (B : wB E p s m args meth c cX1_copyFrom 2 RX1 none) {M : wMem} {k0 : Nat} {k1 : Nat} (hk0 : wkd k0 = 0) (hk1 : wkd k1 = 0) {res : wMem} (hf : fX1_copyFrom M k0 k1 = some res) {H : Heap} {locs : List Loc} {ls : Array Slot} (hW : wH E M H) (hS : va_S (wA E) s.heap H locs) (hl : lv_has ls 2 [(0, .ref (wad E k0)), (1, .ref (wad E k1))]) : W p l e ({ frames := 0, cells := 0, slots := 0, locals := 0 } : Room) s m args below meth c H locs 0 0 (MQ below (wQ E none res) args s 0 0 (wA E)) (F0 m 0 ls []) := by
  unfold fX1_copyFrom at hf
  obtain ⟨hx, hb, hr, hml, hown, hts, hlocks, hG, hV, hZ⟩ := id B
  refine lv_aload_n hx hb dX1_copyFrom_0 rfl (lv_at hl 0 rfl) ?_
  refine lv_aload_n hx hb dX1_copyFrom_1 rfl (lv_at hl 1 rfl) ?_
  refine wm_get hx hb hts wu_X1 hown hV hW (wlt_0 hk1) (wen_0 hk1) (C := RX1) (T := TX1) (N := 5) rfl 0 (by decide) (hts _ wA_83) rfl dX1_copyFrom_2 ?_
  refine wm_put hx hb hts wu_X1 tyX1 tyX1_ok nmX1 hown hG hV hW hS (wlt_0 hk0) (wen_0 hk0) (C := RX1) (T := TX1) (N := 5) rfl 0 (by decide) (hts _ wA_83) rfl .int _ (tyX1_ok 0 (by decide)) rfl rfl (Nat.le_of_ble_eq_true rfl) (wpt_0_0 hk0) dX1_copyFrom_5 (fun H locs hW hS => ?_)
  obtain ⟨M1, hW, hf⟩ := wlet_M hW hf
  refine lv_aload_n hx hb dX1_copyFrom_8 rfl (lv_at hl 0 rfl) ?_
  refine lv_aload_n hx hb dX1_copyFrom_9 rfl (lv_at hl 1 rfl) ?_
  refine wm_get hx hb hts wu_X1 hown hV hW (wlt_0 hk1) (wen_0 hk1) (C := RX1) (T := TX1) (N := 5) rfl 1 (by decide) (hts _ wA_85) rfl dX1_copyFrom_10 ?_
  refine wm_put hx hb hts wu_X1 tyX1 tyX1_ok nmX1 hown hG hV hW hS (wlt_0 hk0) (wen_0 hk0) (C := RX1) (T := TX1) (N := 5) rfl 1 (by decide) (hts _ wA_85) rfl .int _ (tyX1_ok 1 (by decide)) rfl rfl (Nat.le_of_ble_eq_true rfl) (wpt_0_1 hk0) dX1_copyFrom_13 (fun H locs hW hS => ?_)
  obtain ⟨M2, hW, hf⟩ := wlet_M hW hf
  refine lv_aload_n hx hb dX1_copyFrom_16 rfl (lv_at hl 0 rfl) ?_
  refine lv_aload_n hx hb dX1_copyFrom_17 rfl (lv_at hl 1 rfl) ?_
  refine wm_get hx hb hts wu_X1 hown hV hW (wlt_0 hk1) (wen_0 hk1) (C := RX1) (T := TX1) (N := 5) rfl 2 (by decide) (hts _ wA_87) rfl dX1_copyFrom_18 ?_
  refine wm_put hx hb hts wu_X1 tyX1 tyX1_ok nmX1 hown hG hV hW hS (wlt_0 hk0) (wen_0 hk0) (C := RX1) (T := TX1) (N := 5) rfl 2 (by decide) (hts _ wA_87) rfl .int _ (tyX1_ok 2 (by decide)) rfl rfl (Nat.le_of_ble_eq_true rfl) (wpt_0_2 hk0) dX1_copyFrom_21 (fun H locs hW hS => ?_)
  obtain ⟨M3, hW, hf⟩ := wlet_M hW hf
  refine lv_aload_n hx hb dX1_copyFrom_24 rfl (lv_at hl 0 rfl) ?_
  refine lv_aload_n hx hb dX1_copyFrom_25 rfl (lv_at hl 1 rfl) ?_
  refine wm_get hx hb hts wu_X1 hown hV hW (wlt_0 hk1) (wen_0 hk1) (C := RX1) (T := TX1) (N := 5) rfl 3 (by decide) (hts _ wA_91) rfl dX1_copyFrom_26 ?_
  refine wm_put hx hb hts wu_X1 tyX1 tyX1_ok nmX1 hown hG hV hW hS (wlt_0 hk0) (wen_0 hk0) (C := RX1) (T := TX1) (N := 5) rfl 3 (by decide) (hts _ wA_91) rfl .int _ (tyX1_ok 3 (by decide)) rfl rfl (Nat.le_of_ble_eq_true rfl) (wpt_0_3 hk0) dX1_copyFrom_29 (fun H locs hW hS => ?_)
  obtain ⟨M4, hW, hf⟩ := wlet_M hW hf
  refine lv_aload_n hx hb dX1_copyFrom_32 rfl (lv_at hl 0 rfl) ?_
  refine lv_aload_n hx hb dX1_copyFrom_33 rfl (lv_at hl 1 rfl) ?_
  refine wm_get hx hb hts wu_X1 hown hV hW (wlt_0 hk1) (wen_0 hk1) (C := RX1) (T := TX1) (N := 5) rfl 4 (by decide) (hts _ wA_94) rfl dX1_copyFrom_34 ?_
  refine wm_put hx hb hts wu_X1 tyX1 tyX1_ok nmX1 hown hG hV hW hS (wlt_0 hk0) (wen_0 hk0) (C := RX1) (T := TX1) (N := 5) rfl 4 (by decide) (hts _ wA_94) rfl .int _ (tyX1_ok 4 (by decide)) rfl rfl (Nat.le_of_ble_eq_true rfl) (wpt_0_4 hk0) dX1_copyFrom_37 (fun H locs hW hS => ?_)
  obtain ⟨M5, hW, hf⟩ := wlet_M hW hf
  have hres := Option.some.inj hf
  subst hres
  exact W.vret hx hb hr (wr_q hG hV hZ hW hS) hS.2.2 dX1_copyFrom_40
theorem cX1_copyFrom_ok (l : Launch) (E : wE) (M : wMem) (k0 : Nat) (hk0 : wkd k0 = 0) (k1 : Nat) (hk1 : wkd k1 = 0) {res : wMem} (hf : fX1_copyFrom M k0 k1 = some res) : wMet l yX1_copyFrom (wsM yX1_copyFrom cX1_copyFrom 2 none) ({ frames := 0, cells := 0, slots := 0, locals := 0 } : Room) E M [.ref (wad E k0), .ref (wad E k1)] none res :=
  wc_of (cc := cX1_copyFrom) (maxL := 2) (ret := none) (by decide) (Nat.le_of_ble_eq_true rfl) (fun _ _ _ _ _ _ _ _ B hW hl => pX1_copyFrom B hk0 hk1 hf hW va_S.rf hl)
end
theorem cdX5_copyFrom : yX5_copyFrom.cls = RX5 ∧ yX5_copyFrom.cls ≠ "java/lang/invoke/MethodHandle" ∧ yX5_copyFrom.cls ≠ "java/lang/invoke/VarHandle" ∧ (parseMethodDescriptor yX5_copyFrom.desc).map (fun d => d.parameters.length) = some 1 := by decide +kernel
section
variable {p : Program} {l : Launch} {e : Env} {s : State} {m : MethodId} {args : Array Value} {below : List Frame} {meth : Method} {c : Code} {E : wE}
set_option maxRecDepth 100000 in
set_option maxHeartbeats 4000000 in
theorem pX5_copyFrom_43_b (B : wB E p s m args meth c cX5_copyFrom 3 RX5 none) {M : wMem} {ky0 : Nat} {ky1 : Nat} {y2 : Int32}  {rec43 : (Int32 × wMem → Option (wMem))} {res : wMem} (hky0 : wkd ky0 = 4) (hky1 : wkd ky1 = 4)  (hrec43 : ∀ (y2' : Int32) (M' : wMem), rec43 (y2', M') = some res → ∀ (H : Heap) (locs : List Loc) (ls : Array Slot), wH E M' H → va_S (wA E) s.heap H locs → lv_has ls 3 [(0, .ref (wad E ky0)), (1, .ref (wad E ky1)), (2, .int y2')] → W p l e ({ frames := 1, cells := 0, slots := 0, locals := 21 } : Room) s m args below meth c H locs 0 0 (MQ below (wQ E none res) args s 0 0 (wA E)) (F0 m 43 ls [])) (hf : fX5_copyFrom_43_b M  rec43 ky0 ky1 y2 = some res) {H : Heap} {locs : List Loc} {ls : Array Slot} (hW : wH E M H) (hS : va_S (wA E) s.heap H locs) (hl : lv_has ls 3 [(0, .ref (wad E ky0)), (1, .ref (wad E ky1)), (2, .int y2)]) : W p l e ({ frames := 1, cells := 0, slots := 0, locals := 21 } : Room) s m args below meth c H locs 0 0 (MQ below (wQ E none res) args s 0 0 (wA E)) (F0 m 43 ls []) := by
  unfold fX5_copyFrom_43_b at hf
  obtain ⟨hx, hb, hr, hml, hown, hts, hlocks, hG, hV, hZ⟩ := id B
  refine lv_iload_n hx hb dX5_copyFrom_43 rfl (lv_at hl 2 rfl) ?_
  refine lv_aload_n hx hb dX5_copyFrom_44 rfl (lv_at hl 0 rfl) ?_
  refine wm_get hx hb hts wu_X5 hown hV hW (wlt_4 hky0) (wen_4 hky0) (C := RX5) (T := TX5) (N := 4) rfl 2 (by decide) (hts _ wA_117) rfl dX5_copyFrom_45 ?_
  rcases wif_e hf with ⟨hq4, hf⟩ | ⟨hq4, hf⟩
  · refine lv_icmp_ge (tgt := 72) hx hb dX5_copyFrom_48 (by decide) (fun _ => ?_) (fun h => absurd hq4 h)
    have hres := Option.some.inj hf
    subst hres
    exact W.vret hx hb hr (wr_q hG hV hZ hW hS) hS.2.2 dX5_copyFrom_72
  · refine lv_icmp_ge (tgt := 72) hx hb dX5_copyFrom_48 (by decide) (fun h => absurd h hq4) (fun _ => ?_)
    refine lv_aload_n hx hb dX5_copyFrom_51 rfl (lv_at hl 0 rfl) ?_
    refine wm_get hx hb hts wu_X5 hown hV hW (wlt_4 hky0) (wen_4 hky0) (C := RX5) (T := TX5) (N := 4) rfl 0 (by decide) (hts _ wA_109) rfl dX5_copyFrom_52 ?_
    refine lv_iload_n hx hb dX5_copyFrom_55 rfl (lv_at hl 2 rfl) ?_
    obtain ⟨hi5, hf⟩ := wgi_e hf
    refine wm_aldL hx hb hV hW (wk4_1 hky0) hi5 dX5_copyFrom_56 ?_
    refine lv_aload_n hx hb dX5_copyFrom_57 rfl (lv_at hl 1 rfl) ?_
    refine wm_get hx hb hts wu_X5 hown hV hW (wlt_4 hky1) (wen_4 hky1) (C := RX5) (T := TX5) (N := 4) rfl 0 (by decide) (hts _ wA_109) rfl dX5_copyFrom_58 ?_
    refine lv_iload_n hx hb dX5_copyFrom_61 rfl (lv_at hl 2 rfl) ?_
    obtain ⟨hi6, hf⟩ := wgi_e hf
    refine wm_aldL hx hb hV hW (wk4_1 hky1) hi6 dX5_copyFrom_62 ?_
    obtain ⟨M9, hc7, hf⟩ := wbind_e hf
    refine wc_V (As := [.ref (wad E ((ky1 + 1) + 2 + Int32.toNatClampNeg y2))]) (rest := []) hx hb hml hown hts hG hV hZ (wlt_0 (wk22_i (wk4_1 hky0) hi5)) (q := (RX1, TX1, 5)) (wen_0 (wk22_i (wk4_1 hky0) hi5)) rfl (cX1_copyFrom_ok l E M ((ky0 + 1) + 2 + Int32.toNatClampNeg y2) (wk22_i (wk4_1 hky0) hi5) ((ky1 + 1) + 2 + Int32.toNatClampNeg y2) (wk22_i (wk4_1 hky1) hi6) hc7) (cwV 1 hts gl_X5_29 rfl rfl rfl cdX1_copyFrom ⟨Nat.le_of_ble_eq_true rfl, Nat.le_of_ble_eq_true rfl⟩) rfl hl.1 rfl (Nat.le_of_ble_eq_true rfl) dX5_copyFrom_63 ⟨Nat.zero_le _, Nat.zero_le _⟩ hW hS rfl (fun H locs hW hS => ?_)
    obtain ⟨x10, ex10, hf⟩ := wlet_e hf
    refine lv_iinc (v := x10) (lv' := [(2, .int x10), (0, .ref (wad E ky0)), (1, .ref (wad E ky1))]) hx hb dX5_copyFrom_66 hl (k := 2) rfl (by rw [ex10]; rfl) (by decide) rfl (fun ls hl => ?_)
    refine lv_goto (tgt := 43) hx hb dX5_copyFrom_69 (by decide) ?_
    exact hrec43 x10 M9 hf _ _ _ hW hS (lv_sub hl [1, 2, 0] rfl)
set_option maxRecDepth 100000 in
set_option maxHeartbeats 4000000 in
theorem pX5_copyFrom_43 (B : wB E p s m args meth c cX5_copyFrom 3 RX5 none) {M : wMem} {ky0 : Nat} {ky1 : Nat} {y2 : Int32}  {res : wMem} (hky0 : wkd ky0 = 4) (hky1 : wkd ky1 = 4)  (hf : fX5_copyFrom_43 M  ky0 ky1 y2 = some res) {H : Heap} {locs : List Loc} {ls : Array Slot} (hW : wH E M H) (hS : va_S (wA E) s.heap H locs) (hl : lv_has ls 3 [(0, .ref (wad E ky0)), (1, .ref (wad E ky1)), (2, .int y2)]) : W p l e ({ frames := 1, cells := 0, slots := 0, locals := 21 } : Room) s m args below meth c H locs 0 0 (MQ below (wQ E none res) args s 0 0 (wA E)) (F0 m 43 ls []) := by
  have key := wloop_W (b := (fun rec43 t => fX5_copyFrom_43_b t.2  rec43 ky0 ky1 t.1)) (P := fun t => ∀ (H : Heap) (locs : List Loc) (ls : Array Slot), wH E t.2 H → va_S (wA E) s.heap H locs → lv_has ls 3 [(0, .ref (wad E ky0)), (1, .ref (wad E ky1)), (2, .int t.1)] → W p l e ({ frames := 1, cells := 0, slots := 0, locals := 21 } : Room) s m args below meth c H locs 0 0 (MQ below (wQ E none res) args s 0 0 (wA E)) (F0 m 43 ls [])) (r := res) (fun rec hrec t hf H locs ls hW hS hl => pX5_copyFrom_43_b B hky0 hky1  (fun v0 v1 hf H locs ls hW hS hl => hrec (v0, v1) hf H locs ls hW hS hl) hf hW hS hl)
  exact key wfuel (y2, M) hf H locs ls hW hS hl
set_option maxRecDepth 100000 in
set_option maxHeartbeats 4000000 in
theorem pX5_copyFrom_18_b (B : wB E p s m args meth c cX5_copyFrom 3 RX5 none) {M : wMem} {ky0 : Nat} {ky1 : Nat} {y2 : Int32}  {rec18 : (Int32 × wMem → Option (wMem))} {res : wMem} (hky0 : wkd ky0 = 4) (hky1 : wkd ky1 = 4)  (hrec18 : ∀ (y2' : Int32) (M' : wMem), rec18 (y2', M') = some res → ∀ (H : Heap) (locs : List Loc) (ls : Array Slot), wH E M' H → va_S (wA E) s.heap H locs → lv_has ls 3 [(0, .ref (wad E ky0)), (1, .ref (wad E ky1)), (2, .int y2')] → W p l e ({ frames := 1, cells := 0, slots := 0, locals := 21 } : Room) s m args below meth c H locs 0 0 (MQ below (wQ E none res) args s 0 0 (wA E)) (F0 m 18 ls [])) (hf : fX5_copyFrom_18_b M  rec18 ky0 ky1 y2 = some res) {H : Heap} {locs : List Loc} {ls : Array Slot} (hW : wH E M H) (hS : va_S (wA E) s.heap H locs) (hl : lv_has ls 3 [(0, .ref (wad E ky0)), (1, .ref (wad E ky1)), (2, .int y2)]) : W p l e ({ frames := 1, cells := 0, slots := 0, locals := 21 } : Room) s m args below meth c H locs 0 0 (MQ below (wQ E none res) args s 0 0 (wA E)) (F0 m 18 ls []) := by
  unfold fX5_copyFrom_18_b at hf
  obtain ⟨hx, hb, hr, hml, hown, hts, hlocks, hG, hV, hZ⟩ := id B
  refine lv_iload_n hx hb dX5_copyFrom_18 rfl (lv_at hl 2 rfl) ?_
  refine lv_iconst (v := 3) hx hb dX5_copyFrom_19 rfl ?_
  rcases wif_e hf with ⟨hq3, hf⟩ | ⟨hq3, hf⟩
  · refine lv_icmp_gt (tgt := 41) hx hb dX5_copyFrom_20 (by decide) (fun _ => ?_) (fun h => absurd hq3 h)
    refine lv_iconst (v := 0) hx hb dX5_copyFrom_41 rfl ?_
    refine lv_istore_n (lv' := [(2, .int 0), (0, .ref (wad E ky0)), (1, .ref (wad E ky1))]) hx hb dX5_copyFrom_42 rfl hl (by decide) rfl (fun ls hl => ?_)
    exact pX5_copyFrom_43 B hky0 hky1  hf hW hS (lv_sub hl [1, 2, 0] rfl)
  · refine lv_icmp_gt (tgt := 41) hx hb dX5_copyFrom_20 (by decide) (fun h => absurd h hq3) (fun _ => ?_)
    refine lv_aload_n hx hb dX5_copyFrom_23 rfl (lv_at hl 0 rfl) ?_
    refine wm_get hx hb hts wu_X5 hown hV hW (wlt_4 hky0) (wen_4 hky0) (C := RX5) (T := TX5) (N := 4) rfl 1 (by decide) (hts _ wA_115) rfl dX5_copyFrom_24 ?_
    refine lv_iload_n hx hb dX5_copyFrom_27 rfl (lv_at hl 2 rfl) ?_
    refine lv_aload_n hx hb dX5_copyFrom_28 rfl (lv_at hl 1 rfl) ?_
    refine wm_get hx hb hts wu_X5 hown hV hW (wlt_4 hky1) (wen_4 hky1) (C := RX5) (T := TX5) (N := 4) rfl 1 (by decide) (hts _ wA_115) rfl dX5_copyFrom_29 ?_
    refine lv_iload_n hx hb dX5_copyFrom_32 rfl (lv_at hl 2 rfl) ?_
    obtain ⟨hi11, hf⟩ := wgi_e hf
    refine wm_iald hx hb hV hW (wk4_2 hky1) (n := 4) (wl4_2 hky1) hi11 dX5_copyFrom_33 ?_
    obtain ⟨hi12, hf⟩ := wgi_e hf
    refine wm_iast hx hb hG hV hW hS (wk4_2 hky0) (n := 4) (wl4_2 hky0) hi12 dX5_copyFrom_34 (fun H locs hW hS => ?_)
    obtain ⟨M13, hW, hf⟩ := wlet_M hW hf
    obtain ⟨x14, ex14, hf⟩ := wlet_e hf
    refine lv_iinc (v := x14) (lv' := [(2, .int x14), (0, .ref (wad E ky0)), (1, .ref (wad E ky1))]) hx hb dX5_copyFrom_35 hl (k := 2) rfl (by rw [ex14]; rfl) (by decide) rfl (fun ls hl => ?_)
    refine lv_goto (tgt := 18) hx hb dX5_copyFrom_38 (by decide) ?_
    exact hrec18 x14 M13 hf _ _ _ hW hS (lv_sub hl [1, 2, 0] rfl)
set_option maxRecDepth 100000 in
set_option maxHeartbeats 4000000 in
theorem pX5_copyFrom_18 (B : wB E p s m args meth c cX5_copyFrom 3 RX5 none) {M : wMem} {ky0 : Nat} {ky1 : Nat} {y2 : Int32}  {res : wMem} (hky0 : wkd ky0 = 4) (hky1 : wkd ky1 = 4)  (hf : fX5_copyFrom_18 M  ky0 ky1 y2 = some res) {H : Heap} {locs : List Loc} {ls : Array Slot} (hW : wH E M H) (hS : va_S (wA E) s.heap H locs) (hl : lv_has ls 3 [(0, .ref (wad E ky0)), (1, .ref (wad E ky1)), (2, .int y2)]) : W p l e ({ frames := 1, cells := 0, slots := 0, locals := 21 } : Room) s m args below meth c H locs 0 0 (MQ below (wQ E none res) args s 0 0 (wA E)) (F0 m 18 ls []) := by
  have key := wloop_W (b := (fun rec18 t => fX5_copyFrom_18_b t.2  rec18 ky0 ky1 t.1)) (P := fun t => ∀ (H : Heap) (locs : List Loc) (ls : Array Slot), wH E t.2 H → va_S (wA E) s.heap H locs → lv_has ls 3 [(0, .ref (wad E ky0)), (1, .ref (wad E ky1)), (2, .int t.1)] → W p l e ({ frames := 1, cells := 0, slots := 0, locals := 21 } : Room) s m args below meth c H locs 0 0 (MQ below (wQ E none res) args s 0 0 (wA E)) (F0 m 18 ls [])) (r := res) (fun rec hrec t hf H locs ls hW hS hl => pX5_copyFrom_18_b B hky0 hky1  (fun v0 v1 hf H locs ls hW hS hl => hrec (v0, v1) hf H locs ls hW hS hl) hf hW hS hl)
  exact key wfuel (y2, M) hf H locs ls hW hS hl
set_option maxRecDepth 100000 in
set_option maxHeartbeats 4000000 in
theorem pX5_copyFrom (B : wB E p s m args meth c cX5_copyFrom 3 RX5 none) {M : wMem} {k0 : Nat} {k1 : Nat} (hk0 : wkd k0 = 4) (hk1 : wkd k1 = 4) {res : wMem} (hf : fX5_copyFrom M k0 k1 = some res) {H : Heap} {locs : List Loc} {ls : Array Slot} (hW : wH E M H) (hS : va_S (wA E) s.heap H locs) (hl : lv_has ls 3 [(0, .ref (wad E k0)), (1, .ref (wad E k1))]) : W p l e ({ frames := 1, cells := 0, slots := 0, locals := 21 } : Room) s m args below meth c H locs 0 0 (MQ below (wQ E none res) args s 0 0 (wA E)) (F0 m 0 ls []) := by
  unfold fX5_copyFrom at hf
  obtain ⟨hx, hb, hr, hml, hown, hts, hlocks, hG, hV, hZ⟩ := id B
  refine lv_aload_n hx hb dX5_copyFrom_0 rfl (lv_at hl 0 rfl) ?_
  refine lv_aload_n hx hb dX5_copyFrom_1 rfl (lv_at hl 1 rfl) ?_
  refine wm_get hx hb hts wu_X5 hown hV hW (wlt_4 hk1) (wen_4 hk1) (C := RX5) (T := TX5) (N := 4) rfl 2 (by decide) (hts _ wA_117) rfl dX5_copyFrom_2 ?_
  refine wm_put hx hb hts wu_X5 tyX5 tyX5_ok nmX5 hown hG hV hW hS (wlt_4 hk0) (wen_4 hk0) (C := RX5) (T := TX5) (N := 4) rfl 2 (by decide) (hts _ wA_117) rfl .int _ (tyX5_ok 2 (by decide)) rfl rfl (Nat.le_of_ble_eq_true rfl) (wpt_4_2 hk0) dX5_copyFrom_5 (fun H locs hW hS => ?_)
  obtain ⟨M1, hW, hf⟩ := wlet_M hW hf
  refine lv_aload_n hx hb dX5_copyFrom_8 rfl (lv_at hl 0 rfl) ?_
  refine lv_aload_n hx hb dX5_copyFrom_9 rfl (lv_at hl 1 rfl) ?_
  refine wm_get hx hb hts wu_X5 hown hV hW (wlt_4 hk1) (wen_4 hk1) (C := RX5) (T := TX5) (N := 4) rfl 3 (by decide) (hts _ wA_122) rfl dX5_copyFrom_10 ?_
  refine wm_put hx hb hts wu_X5 tyX5 tyX5_ok nmX5 hown hG hV hW hS (wlt_4 hk0) (wen_4 hk0) (C := RX5) (T := TX5) (N := 4) rfl 3 (by decide) (hts _ wA_122) rfl .int _ (tyX5_ok 3 (by decide)) rfl rfl (Nat.le_of_ble_eq_true rfl) (wpt_4_3 hk0) dX5_copyFrom_13 (fun H locs hW hS => ?_)
  obtain ⟨M2, hW, hf⟩ := wlet_M hW hf
  refine lv_iconst (v := 0) hx hb dX5_copyFrom_16 rfl ?_
  refine lv_istore_n (lv' := [(2, .int 0), (0, .ref (wad E k0)), (1, .ref (wad E k1))]) hx hb dX5_copyFrom_17 rfl hl (by decide) rfl (fun ls hl => ?_)
  exact pX5_copyFrom_18 B hk0 hk1  hf hW hS (lv_sub hl [1, 2, 0] rfl)
theorem cX5_copyFrom_ok (l : Launch) (E : wE) (M : wMem) (k0 : Nat) (hk0 : wkd k0 = 4) (k1 : Nat) (hk1 : wkd k1 = 4) {res : wMem} (hf : fX5_copyFrom M k0 k1 = some res) : wMet l yX5_copyFrom (wsM yX5_copyFrom cX5_copyFrom 3 none) ({ frames := 1, cells := 0, slots := 0, locals := 21 } : Room) E M [.ref (wad E k0), .ref (wad E k1)] none res :=
  wc_of (cc := cX5_copyFrom) (maxL := 3) (ret := none) (by decide) (Nat.le_of_ble_eq_true rfl) (fun _ _ _ _ _ _ _ _ B hW hl => pX5_copyFrom B hk0 hk1 hf hW va_S.rf hl)
end
theorem cdX4_startFrom : yX4_startFrom.cls = RX4 ∧ yX4_startFrom.cls ≠ "java/lang/invoke/MethodHandle" ∧ yX4_startFrom.cls ≠ "java/lang/invoke/VarHandle" ∧ (parseMethodDescriptor yX4_startFrom.desc).map (fun d => d.parameters.length) = some 1 := by decide +kernel
section
variable {p : Program} {l : Launch} {e : Env} {s : State} {m : MethodId} {args : Array Value} {below : List Frame} {meth : Method} {c : Code} {E : wE}
set_option maxRecDepth 100000 in
set_option maxHeartbeats 4000000 in
theorem pX4_startFrom (B : wB E p s m args meth c cX4_startFrom 2 RX4 (some (.object "OneLampAllOut$Row"))) {M : wMem} {k1 : Nat} (hk1 : wkd k1 = 4) {res : wMem} (hf : fX4_startFrom M k1 = some res) {H : Heap} {locs : List Loc} {ls : Array Slot} (hW : wH E M H) (hS : va_S (wA E) s.heap H locs) (hl : lv_has ls 2 [(0, .ref (wad E 31)), (1, .ref (wad E k1))]) : W p l e ({ frames := 2, cells := 0, slots := 0, locals := 43 } : Room) s m args below meth c H locs 0 0 (MQ below (wQ E (some (.ref (wad E 32))) res) args s 0 0 (wA E)) (F0 m 0 ls []) := by
  unfold fX4_startFrom at hf
  obtain ⟨hx, hb, hr, hml, hown, hts, hlocks, hG, hV, hZ⟩ := id B
  refine lv_aload_n hx hb dX4_startFrom_0 rfl (lv_at hl 0 rfl) ?_
  refine wm_get hx hb hts wu_X4 hown hV hW (wlt_3 (rfl : wkd 31 = 3)) (wen_3 (rfl : wkd 31 = 3)) (C := RX4) (T := TX4) (N := 1) rfl 0 (by decide) (hts _ wA_141) rfl dX4_startFrom_1 ?_
  refine lv_aload_n hx hb dX4_startFrom_4 rfl (lv_at hl 1 rfl) ?_
  obtain ⟨M3, hc1, hf⟩ := wbind_e hf
  refine wc_V (As := [.ref (wad E k1)]) (rest := []) hx hb hml hown hts hG hV hZ (wlt_4 (rfl : wkd 32 = 4)) (q := (RX5, TX5, 4)) (wen_4 (rfl : wkd 32 = 4)) rfl (cX5_copyFrom_ok l E M 32 (rfl : wkd 32 = 4) k1 hk1 hc1) (cwV 1 hts gl_X4_18 rfl rfl rfl cdX5_copyFrom ⟨Nat.le_of_ble_eq_true rfl, Nat.le_of_ble_eq_true rfl⟩) rfl hl.1 rfl (Nat.le_of_ble_eq_true rfl) dX4_startFrom_5 ⟨Nat.zero_le _, Nat.zero_le _⟩ hW hS rfl (fun H locs hW hS => ?_)
  refine lv_aload_n hx hb dX4_startFrom_8 rfl (lv_at hl 0 rfl) ?_
  refine wm_get hx hb hts wu_X4 hown hV hW (wlt_3 (rfl : wkd 31 = 3)) (wen_3 (rfl : wkd 31 = 3)) (C := RX4) (T := TX4) (N := 1) rfl 0 (by decide) (hts _ wA_141) rfl dX4_startFrom_9 ?_
  have hres := Option.some.inj hf
  subst hres
  exact W.aret hx hb hr (Or.inl ⟨_, rfl⟩) (Or.inr ⟨_, rfl⟩) (wr_q hG hV hZ hW hS) hS.2.2 dX4_startFrom_12
theorem cX4_startFrom_ok (l : Launch) (E : wE) (M : wMem) (k1 : Nat) (hk1 : wkd k1 = 4) {res : wMem} (hf : fX4_startFrom M k1 = some res) : wMet l yX4_startFrom (wsM yX4_startFrom cX4_startFrom 2 (some (.object "OneLampAllOut$Row"))) ({ frames := 2, cells := 0, slots := 0, locals := 43 } : Room) E M [.ref (wad E 31), .ref (wad E k1)] (some (.ref (wad E 32))) res :=
  wc_of (cc := cX4_startFrom) (maxL := 2) (ret := (some (.object "OneLampAllOut$Row"))) (by decide) (Nat.le_of_ble_eq_true rfl) (fun _ _ _ _ _ _ _ _ B hW hl => pX4_startFrom B hk1 hf hW va_S.rf hl)
end
theorem cdX1_putAnew : yX1_putAnew.cls = RX1 ∧ yX1_putAnew.cls ≠ "java/lang/invoke/MethodHandle" ∧ yX1_putAnew.cls ≠ "java/lang/invoke/VarHandle" ∧ (parseMethodDescriptor yX1_putAnew.desc).map (fun d => d.parameters.length) = some 0 := by decide +kernel
section
variable {p : Program} {l : Launch} {e : Env} {s : State} {m : MethodId} {args : Array Value} {below : List Frame} {meth : Method} {c : Code} {E : wE}
set_option maxRecDepth 100000 in
set_option maxHeartbeats 4000000 in
theorem pX1_putAnew (B : wB E p s m args meth c cX1_putAnew 1 RX1 none) {M : wMem} {k0 : Nat} (hk0 : wkd k0 = 0) {res : wMem} (hf : fX1_putAnew M k0 = some res) {H : Heap} {locs : List Loc} {ls : Array Slot} (hW : wH E M H) (hS : va_S (wA E) s.heap H locs) (hl : lv_has ls 1 [(0, .ref (wad E k0))]) : W p l e ({ frames := 0, cells := 0, slots := 0, locals := 0 } : Room) s m args below meth c H locs 0 0 (MQ below (wQ E none res) args s 0 0 (wA E)) (F0 m 0 ls []) := by
  unfold fX1_putAnew at hf
  obtain ⟨hx, hb, hr, hml, hown, hts, hlocks, hG, hV, hZ⟩ := id B
  refine lv_aload_n hx hb dX1_putAnew_0 rfl (lv_at hl 0 rfl) ?_
  refine lv_iconst (v := 0) hx hb dX1_putAnew_1 rfl ?_
  refine wm_put hx hb hts wu_X1 tyX1 tyX1_ok nmX1 hown hG hV hW hS (wlt_0 hk0) (wen_0 hk0) (C := RX1) (T := TX1) (N := 5) rfl 3 (by decide) (hts _ wA_91) rfl .int _ (tyX1_ok 3 (by decide)) rfl rfl (Nat.le_of_ble_eq_true rfl) (wpt_0_3 hk0) dX1_putAnew_2 (fun H locs hW hS => ?_)
  obtain ⟨M1, hW, hf⟩ := wlet_M hW hf
  refine lv_aload_n hx hb dX1_putAnew_5 rfl (lv_at hl 0 rfl) ?_
  refine lv_iconst (v := 0) hx hb dX1_putAnew_6 rfl ?_
  refine wm_put hx hb hts wu_X1 tyX1 tyX1_ok nmX1 hown hG hV hW hS (wlt_0 hk0) (wen_0 hk0) (C := RX1) (T := TX1) (N := 5) rfl 4 (by decide) (hts _ wA_94) rfl .int _ (tyX1_ok 4 (by decide)) rfl rfl (Nat.le_of_ble_eq_true rfl) (wpt_0_4 hk0) dX1_putAnew_7 (fun H locs hW hS => ?_)
  obtain ⟨M2, hW, hf⟩ := wlet_M hW hf
  have hres := Option.some.inj hf
  subst hres
  exact W.vret hx hb hr (wr_q hG hV hZ hW hS) hS.2.2 dX1_putAnew_10
theorem cX1_putAnew_ok (l : Launch) (E : wE) (M : wMem) (k0 : Nat) (hk0 : wkd k0 = 0) {res : wMem} (hf : fX1_putAnew M k0 = some res) : wMet l yX1_putAnew (wsM yX1_putAnew cX1_putAnew 1 none) ({ frames := 0, cells := 0, slots := 0, locals := 0 } : Room) E M [.ref (wad E k0)] none res :=
  wc_of (cc := cX1_putAnew) (maxL := 1) (ret := none) (by decide) (Nat.le_of_ble_eq_true rfl) (fun _ _ _ _ _ _ _ _ B hW hl => pX1_putAnew B hk0 hf hW va_S.rf hl)
end
theorem cdX1_begin : yX1_begin.cls = RX1 ∧ yX1_begin.cls ≠ "java/lang/invoke/MethodHandle" ∧ yX1_begin.cls ≠ "java/lang/invoke/VarHandle" ∧ (parseMethodDescriptor yX1_begin.desc).map (fun d => d.parameters.length) = some 3 := by decide +kernel
section
variable {p : Program} {l : Launch} {e : Env} {s : State} {m : MethodId} {args : Array Value} {below : List Frame} {meth : Method} {c : Code} {E : wE}
set_option maxRecDepth 100000 in
set_option maxHeartbeats 4000000 in
theorem pX1_begin (B : wB E p s m args meth c cX1_begin 4 RX1 none) {M : wMem} {k0 : Nat} {a1 : Int32} {a2 : Int32} {a3 : Int32} (hk0 : wkd k0 = 0) {res : wMem} (hf : fX1_begin M k0 a1 a2 a3 = some res) {H : Heap} {locs : List Loc} {ls : Array Slot} (hW : wH E M H) (hS : va_S (wA E) s.heap H locs) (hl : lv_has ls 4 [(0, .ref (wad E k0)), (1, .int a1), (2, .int a2), (3, .int a3)]) : W p l e ({ frames := 1, cells := 0, slots := 0, locals := 20 } : Room) s m args below meth c H locs 0 0 (MQ below (wQ E none res) args s 0 0 (wA E)) (F0 m 0 ls []) := by
  unfold fX1_begin at hf
  obtain ⟨hx, hb, hr, hml, hown, hts, hlocks, hG, hV, hZ⟩ := id B
  refine lv_aload_n hx hb dX1_begin_0 rfl (lv_at hl 0 rfl) ?_
  refine lv_iload_n hx hb dX1_begin_1 rfl (lv_at hl 1 rfl) ?_
  refine wm_put hx hb hts wu_X1 tyX1 tyX1_ok nmX1 hown hG hV hW hS (wlt_0 hk0) (wen_0 hk0) (C := RX1) (T := TX1) (N := 5) rfl 0 (by decide) (hts _ wA_83) rfl .int _ (tyX1_ok 0 (by decide)) rfl rfl (Nat.le_of_ble_eq_true rfl) (wpt_0_0 hk0) dX1_begin_2 (fun H locs hW hS => ?_)
  obtain ⟨M1, hW, hf⟩ := wlet_M hW hf
  refine lv_aload_n hx hb dX1_begin_5 rfl (lv_at hl 0 rfl) ?_
  refine lv_iload_n hx hb dX1_begin_6 rfl (lv_at hl 2 rfl) ?_
  refine wm_put hx hb hts wu_X1 tyX1 tyX1_ok nmX1 hown hG hV hW hS (wlt_0 hk0) (wen_0 hk0) (C := RX1) (T := TX1) (N := 5) rfl 1 (by decide) (hts _ wA_85) rfl .int _ (tyX1_ok 1 (by decide)) rfl rfl (Nat.le_of_ble_eq_true rfl) (wpt_0_1 hk0) dX1_begin_7 (fun H locs hW hS => ?_)
  obtain ⟨M2, hW, hf⟩ := wlet_M hW hf
  refine lv_aload_n hx hb dX1_begin_10 rfl (lv_at hl 0 rfl) ?_
  refine lv_iload_n hx hb dX1_begin_11 rfl (lv_at hl 3 rfl) ?_
  refine wm_put hx hb hts wu_X1 tyX1 tyX1_ok nmX1 hown hG hV hW hS (wlt_0 hk0) (wen_0 hk0) (C := RX1) (T := TX1) (N := 5) rfl 2 (by decide) (hts _ wA_87) rfl .int _ (tyX1_ok 2 (by decide)) rfl rfl (Nat.le_of_ble_eq_true rfl) (wpt_0_2 hk0) dX1_begin_12 (fun H locs hW hS => ?_)
  obtain ⟨M3, hW, hf⟩ := wlet_M hW hf
  refine lv_aload_n hx hb dX1_begin_15 rfl (lv_at hl 0 rfl) ?_
  obtain ⟨M6, hc4, hf⟩ := wbind_e hf
  refine wc_V (As := []) (rest := []) hx hb hml hown hts hG hV hZ (wlt_0 hk0) (q := (RX1, TX1, 5)) (wen_0 hk0) rfl (cX1_putAnew_ok l E M3 k0 hk0 hc4) (cwV 0 hts gl_X1_21 rfl rfl rfl cdX1_putAnew ⟨Nat.le_of_ble_eq_true rfl, Nat.le_of_ble_eq_true rfl⟩) rfl hl.1 rfl (Nat.le_of_ble_eq_true rfl) dX1_begin_16 ⟨Nat.zero_le _, Nat.zero_le _⟩ hW hS rfl (fun H locs hW hS => ?_)
  have hres := Option.some.inj hf
  subst hres
  exact W.vret hx hb hr (wr_q hG hV hZ hW hS) hS.2.2 dX1_begin_19
theorem cX1_begin_ok (l : Launch) (E : wE) (M : wMem) (k0 : Nat) (hk0 : wkd k0 = 0) (a1 : Int32) (a2 : Int32) (a3 : Int32) {res : wMem} (hf : fX1_begin M k0 a1 a2 a3 = some res) : wMet l yX1_begin (wsM yX1_begin cX1_begin 4 none) ({ frames := 1, cells := 0, slots := 0, locals := 20 } : Room) E M [.ref (wad E k0), .int a1, .int a2, .int a3] none res :=
  wc_of (cc := cX1_begin) (maxL := 4) (ret := none) (by decide) (Nat.le_of_ble_eq_true rfl) (fun _ _ _ _ _ _ _ _ B hW hl => pX1_begin B hk0 hf hW va_S.rf hl)
end
theorem cdX5_addLamp : yX5_addLamp.cls = RX5 ∧ yX5_addLamp.cls ≠ "java/lang/invoke/MethodHandle" ∧ yX5_addLamp.cls ≠ "java/lang/invoke/VarHandle" ∧ (parseMethodDescriptor yX5_addLamp.desc).map (fun d => d.parameters.length) = some 3 := by decide +kernel
section
variable {p : Program} {l : Launch} {e : Env} {s : State} {m : MethodId} {args : Array Value} {below : List Frame} {meth : Method} {c : Code} {E : wE}
set_option maxRecDepth 100000 in
set_option maxHeartbeats 4000000 in
theorem pX5_addLamp_36 (B : wB E p s m args meth c cX5_addLamp 5 RX5 (some .boolean)) {M : wMem} {ky0 : Nat} {y1 : Int32} {y2 : Int32} {y3 : Int32} {z0 : Int32}  {res : Bool × wMem} (hky0 : wkd ky0 = 4)  (hf : fX5_addLamp_36 M  ky0 y1 y2 y3 z0 = some res) {H : Heap} {locs : List Loc} {ls : Array Slot} (hW : wH E M H) (hS : va_S (wA E) s.heap H locs) (hl : lv_has ls 5 [(0, .ref (wad E ky0)), (1, .int y1), (2, .int y2), (3, .int y3)]) : W p l e ({ frames := 2, cells := 0, slots := 0, locals := 43 } : Room) s m args below meth c H locs 0 0 (MQ below (wQ E (some (.int (wb res.1))) res.2) args s 0 0 (wA E)) (F0 m 36 ls [.int z0]) := by
  unfold fX5_addLamp_36 at hf
  obtain ⟨hx, hb, hr, hml, hown, hts, hlocks, hG, hV, hZ⟩ := id B
  refine lv_istore (lv' := [(4, .int z0), (0, .ref (wad E ky0)), (1, .int y1), (2, .int y2), (3, .int y3)]) hx hb dX5_addLamp_36 hl (by decide) rfl (fun ls hl => ?_)
  refine lv_iload hx hb dX5_addLamp_38 (lv_at hl 0 rfl) ?_
  rcases wif_e hf with ⟨hq2, hf⟩ | ⟨hq2, hf⟩
  · refine lv_if_eq (tgt := 52) hx hb dX5_addLamp_40 (by decide) (fun _ => ?_) (fun h => absurd hq2 h)
    refine lv_iconst (v := 0) hx hb dX5_addLamp_52 rfl ?_
    have hres := Option.some.inj hf
    subst hres
    exact W.zret hx hb hr (wb_n false) (wr_q hG hV hZ hW hS) hS.2.2 dX5_addLamp_53
  · refine lv_if_eq (tgt := 52) hx hb dX5_addLamp_40 (by decide) (fun h => absurd h hq2) (fun _ => ?_)
    refine lv_aload_n hx hb dX5_addLamp_43 rfl (lv_at hl 1 rfl) ?_
    refine wm_get hx hb hts wu_X5 hown hV hW (wlt_4 hky0) (wen_4 hky0) (C := RX5) (T := TX5) (N := 4) rfl 2 (by decide) (hts _ wA_117) rfl dX5_addLamp_44 ?_
    refine lv_bipush (v := 12) hx hb dX5_addLamp_47 (by decide) ?_
    rcases wif_e hf with ⟨hq3, hf⟩ | ⟨hq3, hf⟩
    · refine lv_icmp_lt (tgt := 54) hx hb dX5_addLamp_49 (by decide) (fun _ => ?_) (fun h => absurd hq3 h)
      refine lv_aload_n hx hb dX5_addLamp_54 rfl (lv_at hl 1 rfl) ?_
      refine wm_get hx hb hts wu_X5 hown hV hW (wlt_4 hky0) (wen_4 hky0) (C := RX5) (T := TX5) (N := 4) rfl 0 (by decide) (hts _ wA_109) rfl dX5_addLamp_55 ?_
      refine lv_aload_n hx hb dX5_addLamp_58 rfl (lv_at hl 1 rfl) ?_
      refine wm_get hx hb hts wu_X5 hown hV hW (wlt_4 hky0) (wen_4 hky0) (C := RX5) (T := TX5) (N := 4) rfl 2 (by decide) (hts _ wA_117) rfl dX5_addLamp_59 ?_
      obtain ⟨hi4, hf⟩ := wgi_e hf
      refine wm_aldL hx hb hV hW (wk4_1 hky0) hi4 dX5_addLamp_62 ?_
      refine lv_iload_n hx hb dX5_addLamp_63 rfl (lv_at hl 2 rfl) ?_
      refine lv_iload_n hx hb dX5_addLamp_64 rfl (lv_at hl 3 rfl) ?_
      refine lv_iload_n hx hb dX5_addLamp_65 rfl (lv_at hl 4 rfl) ?_
      obtain ⟨M7, hc5, hf⟩ := wbind_e hf
      refine wc_V (As := [.int y1, .int y2, .int y3]) (rest := []) hx hb hml hown hts hG hV hZ (wlt_0 (wk22_i (wk4_1 hky0) hi4)) (q := (RX1, TX1, 5)) (wen_0 (wk22_i (wk4_1 hky0) hi4)) rfl (cX1_begin_ok l E M ((ky0 + 1) + 2 + Int32.toNatClampNeg (M ky0 2)) (wk22_i (wk4_1 hky0) hi4) y1 y2 y3 hc5) (cwV 3 hts gl_X5_62 rfl rfl rfl cdX1_begin ⟨Nat.le_of_ble_eq_true rfl, Nat.le_of_ble_eq_true rfl⟩) rfl hl.1 rfl (Nat.le_of_ble_eq_true rfl) dX5_addLamp_66 ⟨Nat.zero_le _, Nat.zero_le _⟩ hW hS rfl (fun H locs hW hS => ?_)
      refine lv_aload_n hx hb dX5_addLamp_69 rfl (lv_at hl 1 rfl) ?_
      refine lv_dup hx hb dX5_addLamp_70 rfl ?_
      refine wm_get hx hb hts wu_X5 hown hV hW (wlt_4 hky0) (wen_4 hky0) (C := RX5) (T := TX5) (N := 4) rfl 2 (by decide) (hts _ wA_117) rfl dX5_addLamp_71 ?_
      refine lv_iconst (v := 1) hx hb dX5_addLamp_74 rfl ?_
      refine lv_iadd hx hb dX5_addLamp_75 ?_
      refine wm_put hx hb hts wu_X5 tyX5 tyX5_ok nmX5 hown hG hV hW hS (wlt_4 hky0) (wen_4 hky0) (C := RX5) (T := TX5) (N := 4) rfl 2 (by decide) (hts _ wA_117) rfl .int _ (tyX5_ok 2 (by decide)) rfl rfl (Nat.le_of_ble_eq_true rfl) (wpt_4_2 hky0) dX5_addLamp_76 (fun H locs hW hS => ?_)
      obtain ⟨M8, hW, hf⟩ := wlet_M hW hf
      refine lv_iconst (v := 1) hx hb dX5_addLamp_79 rfl ?_
      have hres := Option.some.inj hf
      subst hres
      exact W.zret hx hb hr (wb_n true) (wr_q hG hV hZ hW hS) hS.2.2 dX5_addLamp_80
    · refine lv_icmp_lt (tgt := 54) hx hb dX5_addLamp_49 (by decide) (fun h => absurd h hq3) (fun _ => ?_)
      refine lv_iconst (v := 0) hx hb dX5_addLamp_52 rfl ?_
      have hres := Option.some.inj hf
      subst hres
      exact W.zret hx hb hr (wb_n false) (wr_q hG hV hZ hW hS) hS.2.2 dX5_addLamp_53
set_option maxRecDepth 100000 in
set_option maxHeartbeats 4000000 in
theorem pX5_addLamp_35 (B : wB E p s m args meth c cX5_addLamp 5 RX5 (some .boolean)) {M : wMem} {ky0 : Nat} {y1 : Int32} {y2 : Int32} {y3 : Int32}  {res : Bool × wMem} (hky0 : wkd ky0 = 4)  (hf : fX5_addLamp_35 M  ky0 y1 y2 y3 = some res) {H : Heap} {locs : List Loc} {ls : Array Slot} (hW : wH E M H) (hS : va_S (wA E) s.heap H locs) (hl : lv_has ls 5 [(0, .ref (wad E ky0)), (1, .int y1), (2, .int y2), (3, .int y3)]) : W p l e ({ frames := 2, cells := 0, slots := 0, locals := 43 } : Room) s m args below meth c H locs 0 0 (MQ below (wQ E (some (.int (wb res.1))) res.2) args s 0 0 (wA E)) (F0 m 35 ls []) := by
  unfold fX5_addLamp_35 at hf
  obtain ⟨hx, hb, hr, hml, hown, hts, hlocks, hG, hV, hZ⟩ := id B
  refine lv_iconst (v := 0) hx hb dX5_addLamp_35 rfl ?_
  exact pX5_addLamp_36 B hky0  hf hW hS (lv_sub hl [0, 1, 2, 3] rfl)
set_option maxRecDepth 100000 in
set_option maxHeartbeats 4000000 in
theorem pX5_addLamp (B : wB E p s m args meth c cX5_addLamp 5 RX5 (some .boolean)) {M : wMem} {k0 : Nat} {a1 : Int32} {a2 : Int32} {a3 : Int32} (hk0 : wkd k0 = 4) {res : Bool × wMem} (hf : fX5_addLamp M k0 a1 a2 a3 = some res) {H : Heap} {locs : List Loc} {ls : Array Slot} (hW : wH E M H) (hS : va_S (wA E) s.heap H locs) (hl : lv_has ls 5 [(0, .ref (wad E k0)), (1, .int a1), (2, .int a2), (3, .int a3)]) : W p l e ({ frames := 2, cells := 0, slots := 0, locals := 43 } : Room) s m args below meth c H locs 0 0 (MQ below (wQ E (some (.int (wb res.1))) res.2) args s 0 0 (wA E)) (F0 m 0 ls []) := by
  unfold fX5_addLamp at hf
  obtain ⟨hx, hb, hr, hml, hown, hts, hlocks, hG, hV, hZ⟩ := id B
  refine lv_iload_n hx hb dX5_addLamp_0 rfl (lv_at hl 1 rfl) ?_
  rcases wif_e hf with ⟨hq1, hf⟩ | ⟨hq1, hf⟩
  · refine lv_if_lt (tgt := 35) hx hb dX5_addLamp_1 (by decide) (fun _ => ?_) (fun h => absurd hq1 h)
    exact pX5_addLamp_35 B hk0  hf hW hS (lv_sub hl [0, 1, 2, 3] rfl)
  · refine lv_if_lt (tgt := 35) hx hb dX5_addLamp_1 (by decide) (fun h => absurd h hq1) (fun _ => ?_)
    refine lv_iload_n hx hb dX5_addLamp_4 rfl (lv_at hl 1 rfl) ?_
    refine lv_iconst (v := 5) hx hb dX5_addLamp_5 rfl ?_
    rcases wif_e hf with ⟨hq9, hf⟩ | ⟨hq9, hf⟩
    · refine lv_icmp_gt (tgt := 35) hx hb dX5_addLamp_6 (by decide) (fun _ => ?_) (fun h => absurd hq9 h)
      exact pX5_addLamp_35 B hk0  hf hW hS (lv_sub hl [0, 1, 2, 3] rfl)
    · refine lv_icmp_gt (tgt := 35) hx hb dX5_addLamp_6 (by decide) (fun h => absurd h hq9) (fun _ => ?_)
      refine lv_iload_n hx hb dX5_addLamp_9 rfl (lv_at hl 2 rfl) ?_
      refine lv_iconst (v := 1) hx hb dX5_addLamp_10 rfl ?_
      rcases wif_e hf with ⟨hq10, hf⟩ | ⟨hq10, hf⟩
      · refine lv_icmp_lt (tgt := 35) hx hb dX5_addLamp_11 (by decide) (fun _ => ?_) (fun h => absurd hq10 h)
        exact pX5_addLamp_35 B hk0  hf hW hS (lv_sub hl [0, 1, 2, 3] rfl)
      · refine lv_icmp_lt (tgt := 35) hx hb dX5_addLamp_11 (by decide) (fun h => absurd h hq10) (fun _ => ?_)
        refine lv_iload_n hx hb dX5_addLamp_14 rfl (lv_at hl 2 rfl) ?_
        refine lv_bipush (v := 99) hx hb dX5_addLamp_15 (by decide) ?_
        rcases wif_e hf with ⟨hq11, hf⟩ | ⟨hq11, hf⟩
        · refine lv_icmp_gt (tgt := 35) hx hb dX5_addLamp_17 (by decide) (fun _ => ?_) (fun h => absurd hq11 h)
          exact pX5_addLamp_35 B hk0  hf hW hS (lv_sub hl [0, 1, 2, 3] rfl)
        · refine lv_icmp_gt (tgt := 35) hx hb dX5_addLamp_17 (by decide) (fun h => absurd h hq11) (fun _ => ?_)
          refine lv_iload_n hx hb dX5_addLamp_20 rfl (lv_at hl 3 rfl) ?_
          refine lv_iconst (v := 1) hx hb dX5_addLamp_21 rfl ?_
          rcases wif_e hf with ⟨hq12, hf⟩ | ⟨hq12, hf⟩
          · refine lv_icmp_lt (tgt := 35) hx hb dX5_addLamp_22 (by decide) (fun _ => ?_) (fun h => absurd hq12 h)
            exact pX5_addLamp_35 B hk0  hf hW hS (lv_sub hl [0, 1, 2, 3] rfl)
          · refine lv_icmp_lt (tgt := 35) hx hb dX5_addLamp_22 (by decide) (fun h => absurd h hq12) (fun _ => ?_)
            refine lv_iload_n hx hb dX5_addLamp_25 rfl (lv_at hl 3 rfl) ?_
            refine lv_bipush (v := 9) hx hb dX5_addLamp_26 (by decide) ?_
            rcases wif_e hf with ⟨hq13, hf⟩ | ⟨hq13, hf⟩
            · refine lv_icmp_gt (tgt := 35) hx hb dX5_addLamp_28 (by decide) (fun _ => ?_) (fun h => absurd hq13 h)
              exact pX5_addLamp_35 B hk0  hf hW hS (lv_sub hl [0, 1, 2, 3] rfl)
            · refine lv_icmp_gt (tgt := 35) hx hb dX5_addLamp_28 (by decide) (fun h => absurd h hq13) (fun _ => ?_)
              refine lv_iconst (v := 1) hx hb dX5_addLamp_31 rfl ?_
              refine lv_goto (tgt := 36) hx hb dX5_addLamp_32 (by decide) ?_
              exact pX5_addLamp_36 B hk0  hf hW hS (lv_sub hl [0, 1, 2, 3] rfl)
theorem cX5_addLamp_ok (l : Launch) (E : wE) (M : wMem) (k0 : Nat) (hk0 : wkd k0 = 4) (a1 : Int32) (a2 : Int32) (a3 : Int32) {res : Bool × wMem} (hf : fX5_addLamp M k0 a1 a2 a3 = some res) : wMet l yX5_addLamp (wsM yX5_addLamp cX5_addLamp 5 (some .boolean)) ({ frames := 2, cells := 0, slots := 0, locals := 43 } : Room) E M [.ref (wad E k0), .int a1, .int a2, .int a3] (some (.int (wb res.1))) res.2 :=
  wc_of (cc := cX5_addLamp) (maxL := 5) (ret := (some .boolean)) (by decide) (Nat.le_of_ble_eq_true rfl) (fun _ _ _ _ _ _ _ _ B hW hl => pX5_addLamp B hk0 hf hW va_S.rf hl)
end
theorem cdX5_takeSetting : yX5_takeSetting.cls = RX5 ∧ yX5_takeSetting.cls ≠ "java/lang/invoke/MethodHandle" ∧ yX5_takeSetting.cls ≠ "java/lang/invoke/VarHandle" ∧ (parseMethodDescriptor yX5_takeSetting.desc).map (fun d => d.parameters.length) = some 2 := by decide +kernel
section
variable {p : Program} {l : Launch} {e : Env} {s : State} {m : MethodId} {args : Array Value} {below : List Frame} {meth : Method} {c : Code} {E : wE}
set_option maxRecDepth 100000 in
set_option maxHeartbeats 4000000 in
theorem pX5_takeSetting (B : wB E p s m args meth c cX5_takeSetting 3 RX5 (some .boolean)) {M : wMem} {k0 : Nat} {a1 : Int32} {a2 : Int32} (hk0 : wkd k0 = 4) {res : Bool × wMem} (hf : fX5_takeSetting M k0 a1 a2 = some res) {H : Heap} {locs : List Loc} {ls : Array Slot} (hW : wH E M H) (hS : va_S (wA E) s.heap H locs) (hl : lv_has ls 3 [(0, .ref (wad E k0)), (1, .int a1), (2, .int a2)]) : W p l e ({ frames := 0, cells := 0, slots := 0, locals := 0 } : Room) s m args below meth c H locs 0 0 (MQ below (wQ E (some (.int (wb res.1))) res.2) args s 0 0 (wA E)) (F0 m 0 ls []) := by
  unfold fX5_takeSetting at hf
  obtain ⟨hx, hb, hr, hml, hown, hts, hlocks, hG, hV, hZ⟩ := id B
  refine lv_iload_n hx hb dX5_takeSetting_0 rfl (lv_at hl 2 rfl) ?_
  refine va_getsN hx hb hZ.1.1 hS hown (va_Nw.use rfl hZ.2.2.2.2.1) (fun _ h => h) dX5_takeSetting_1 ?_
  refine lv_iload_n hx hb dX5_takeSetting_4 rfl (lv_at hl 1 rfl) ?_
  obtain ⟨hi1, hf⟩ := wgi_e hf
  refine va_ti hx hb hZ.1.2 hS hi1 rfl dX5_takeSetting_5 ?_
  rcases wif_e hf with ⟨hq2, hf⟩ | ⟨hq2, hf⟩
  · refine lv_icmp_lt (tgt := 18) hx hb dX5_takeSetting_6 (by decide) (fun _ => ?_) (fun h => absurd hq2 h)
    refine lv_iconst (v := 0) hx hb dX5_takeSetting_18 rfl ?_
    have hres := Option.some.inj hf
    subst hres
    exact W.zret hx hb hr (wb_n false) (wr_q hG hV hZ hW hS) hS.2.2 dX5_takeSetting_19
  · refine lv_icmp_lt (tgt := 18) hx hb dX5_takeSetting_6 (by decide) (fun h => absurd h hq2) (fun _ => ?_)
    refine lv_iload_n hx hb dX5_takeSetting_9 rfl (lv_at hl 2 rfl) ?_
    refine va_getsN hx hb hZ.2.1.1 hS hown (va_Nw.use rfl hZ.2.2.2.2.2) (fun _ h => h) dX5_takeSetting_10 ?_
    refine lv_iload_n hx hb dX5_takeSetting_13 rfl (lv_at hl 1 rfl) ?_
    obtain ⟨hi3, hf⟩ := wgi_e hf
    refine va_ti hx hb hZ.2.1.2 hS hi3 rfl dX5_takeSetting_14 ?_
    rcases wif_e hf with ⟨hq4, hf⟩ | ⟨hq4, hf⟩
    · refine lv_icmp_le (tgt := 20) hx hb dX5_takeSetting_15 (by decide) (fun _ => ?_) (fun h => absurd hq4 h)
      refine lv_aload_n hx hb dX5_takeSetting_20 rfl (lv_at hl 0 rfl) ?_
      refine wm_get hx hb hts wu_X5 hown hV hW (wlt_4 hk0) (wen_4 hk0) (C := RX5) (T := TX5) (N := 4) rfl 1 (by decide) (hts _ wA_115) rfl dX5_takeSetting_21 ?_
      refine lv_iload_n hx hb dX5_takeSetting_24 rfl (lv_at hl 1 rfl) ?_
      refine lv_iload_n hx hb dX5_takeSetting_25 rfl (lv_at hl 2 rfl) ?_
      obtain ⟨hi5, hf⟩ := wgi_e hf
      refine wm_iast hx hb hG hV hW hS (wk4_2 hk0) (n := 4) (wl4_2 hk0) hi5 dX5_takeSetting_26 (fun H locs hW hS => ?_)
      obtain ⟨M6, hW, hf⟩ := wlet_M hW hf
      refine lv_iconst (v := 1) hx hb dX5_takeSetting_27 rfl ?_
      have hres := Option.some.inj hf
      subst hres
      exact W.zret hx hb hr (wb_n true) (wr_q hG hV hZ hW hS) hS.2.2 dX5_takeSetting_28
    · refine lv_icmp_le (tgt := 20) hx hb dX5_takeSetting_15 (by decide) (fun h => absurd h hq4) (fun _ => ?_)
      refine lv_iconst (v := 0) hx hb dX5_takeSetting_18 rfl ?_
      have hres := Option.some.inj hf
      subst hres
      exact W.zret hx hb hr (wb_n false) (wr_q hG hV hZ hW hS) hS.2.2 dX5_takeSetting_19
theorem cX5_takeSetting_ok (l : Launch) (E : wE) (M : wMem) (k0 : Nat) (hk0 : wkd k0 = 4) (a1 : Int32) (a2 : Int32) {res : Bool × wMem} (hf : fX5_takeSetting M k0 a1 a2 = some res) : wMet l yX5_takeSetting (wsM yX5_takeSetting cX5_takeSetting 3 (some .boolean)) ({ frames := 0, cells := 0, slots := 0, locals := 0 } : Room) E M [.ref (wad E k0), .int a1, .int a2] (some (.int (wb res.1))) res.2 :=
  wc_of (cc := cX5_takeSetting) (maxL := 3) (ret := (some .boolean)) (by decide) (Nat.le_of_ble_eq_true rfl) (fun _ _ _ _ _ _ _ _ B hW hl => pX5_takeSetting B hk0 hf hW va_S.rf hl)
end
theorem cdX5_has : yX5_has.cls = RX5 ∧ yX5_has.cls ≠ "java/lang/invoke/MethodHandle" ∧ yX5_has.cls ≠ "java/lang/invoke/VarHandle" ∧ (parseMethodDescriptor yX5_has.desc).map (fun d => d.parameters.length) = some 1 := by decide +kernel
section
variable {p : Program} {l : Launch} {e : Env} {s : State} {m : MethodId} {args : Array Value} {below : List Frame} {meth : Method} {c : Code} {E : wE}
set_option maxRecDepth 100000 in
set_option maxHeartbeats 4000000 in
theorem pX5_has (B : wB E p s m args meth c cX5_has 2 RX5 (some .boolean)) {M : wMem} {k0 : Nat} {a1 : Int32} (hk0 : wkd k0 = 4) {res : Bool} (hf : fX5_has M k0 a1 = some res) {H : Heap} {locs : List Loc} {ls : Array Slot} (hW : wH E M H) (hS : va_S (wA E) s.heap H locs) (hl : lv_has ls 2 [(0, .ref (wad E k0)), (1, .int a1)]) : W p l e ({ frames := 0, cells := 0, slots := 0, locals := 0 } : Room) s m args below meth c H locs 0 0 (MQ below (wQ E (some (.int (wb res))) M) args s 0 0 (wA E)) (F0 m 0 ls []) := by
  unfold fX5_has at hf
  obtain ⟨hx, hb, hr, hml, hown, hts, hlocks, hG, hV, hZ⟩ := id B
  refine lv_iload_n hx hb dX5_has_0 rfl (lv_at hl 1 rfl) ?_
  rcases wif_e hf with ⟨hq1, hf⟩ | ⟨hq1, hf⟩
  · refine lv_if_lt (tgt := 16) hx hb dX5_has_1 (by decide) (fun _ => ?_) (fun h => absurd hq1 h)
    refine lv_iconst (v := 0) hx hb dX5_has_16 rfl ?_
    have hres := Option.some.inj hf
    subst hres
    exact W.zret hx hb hr (wb_n false) (wr_q hG hV hZ hW hS) hS.2.2 dX5_has_17
  · refine lv_if_lt (tgt := 16) hx hb dX5_has_1 (by decide) (fun h => absurd h hq1) (fun _ => ?_)
    refine lv_iload_n hx hb dX5_has_4 rfl (lv_at hl 1 rfl) ?_
    refine lv_aload_n hx hb dX5_has_5 rfl (lv_at hl 0 rfl) ?_
    refine wm_get hx hb hts wu_X5 hown hV hW (wlt_4 hk0) (wen_4 hk0) (C := RX5) (T := TX5) (N := 4) rfl 2 (by decide) (hts _ wA_117) rfl dX5_has_6 ?_
    rcases wif_e hf with ⟨hq2, hf⟩ | ⟨hq2, hf⟩
    · refine lv_icmp_ge (tgt := 16) hx hb dX5_has_9 (by decide) (fun _ => ?_) (fun h => absurd hq2 h)
      refine lv_iconst (v := 0) hx hb dX5_has_16 rfl ?_
      have hres := Option.some.inj hf
      subst hres
      exact W.zret hx hb hr (wb_n false) (wr_q hG hV hZ hW hS) hS.2.2 dX5_has_17
    · refine lv_icmp_ge (tgt := 16) hx hb dX5_has_9 (by decide) (fun h => absurd h hq2) (fun _ => ?_)
      refine lv_iconst (v := 1) hx hb dX5_has_12 rfl ?_
      refine lv_goto (tgt := 17) hx hb dX5_has_13 (by decide) ?_
      have hres := Option.some.inj hf
      subst hres
      exact W.zret hx hb hr (wb_n true) (wr_q hG hV hZ hW hS) hS.2.2 dX5_has_17
theorem cX5_has_ok (l : Launch) (E : wE) (M : wMem) (k0 : Nat) (hk0 : wkd k0 = 4) (a1 : Int32) {res : Bool} (hf : fX5_has M k0 a1 = some res) : wMet l yX5_has (wsM yX5_has cX5_has 2 (some .boolean)) ({ frames := 0, cells := 0, slots := 0, locals := 0 } : Room) E M [.ref (wad E k0), .int a1] (some (.int (wb res))) M :=
  wc_of (cc := cX5_has) (maxL := 2) (ret := (some .boolean)) (by decide) (Nat.le_of_ble_eq_true rfl) (fun _ _ _ _ _ _ _ _ B hW hl => pX5_has B hk0 hf hW va_S.rf hl)
end
theorem cdX5_takeCondition : yX5_takeCondition.cls = RX5 ∧ yX5_takeCondition.cls ≠ "java/lang/invoke/MethodHandle" ∧ yX5_takeCondition.cls ≠ "java/lang/invoke/VarHandle" ∧ (parseMethodDescriptor yX5_takeCondition.desc).map (fun d => d.parameters.length) = some 2 := by decide +kernel
section
variable {p : Program} {l : Launch} {e : Env} {s : State} {m : MethodId} {args : Array Value} {below : List Frame} {meth : Method} {c : Code} {E : wE}
set_option maxRecDepth 100000 in
set_option maxHeartbeats 4000000 in
theorem pX5_takeCondition (B : wB E p s m args meth c cX5_takeCondition 3 RX5 (some .boolean)) {M : wMem} {k0 : Nat} {a1 : Int32} {a2 : Int32} (hk0 : wkd k0 = 4) {res : Bool × wMem} (hf : fX5_takeCondition M k0 a1 a2 = some res) {H : Heap} {locs : List Loc} {ls : Array Slot} (hW : wH E M H) (hS : va_S (wA E) s.heap H locs) (hl : lv_has ls 3 [(0, .ref (wad E k0)), (1, .int a1), (2, .int a2)]) : W p l e ({ frames := 1, cells := 0, slots := 0, locals := 21 } : Room) s m args below meth c H locs 0 0 (MQ below (wQ E (some (.int (wb res.1))) res.2) args s 0 0 (wA E)) (F0 m 0 ls []) := by
  unfold fX5_takeCondition at hf
  obtain ⟨hx, hb, hr, hml, hown, hts, hlocks, hG, hV, hZ⟩ := id B
  refine lv_aload_n hx hb dX5_takeCondition_0 rfl (lv_at hl 0 rfl) ?_
  refine lv_iload_n hx hb dX5_takeCondition_1 rfl (lv_at hl 1 rfl) ?_
  obtain ⟨r2, hc1, hf⟩ := wbind_e hf
  refine wc_V (As := [.int a1]) (rest := []) hx hb hml hown hts hG hV hZ (wlt_4 hk0) (q := (RX5, TX5, 4)) (wen_4 hk0) rfl (cX5_has_ok l E M k0 hk0 a1 hc1) (cwV 1 hts gl_X5_33 rfl rfl rfl cdX5_has ⟨Nat.le_of_ble_eq_true rfl, Nat.le_of_ble_eq_true rfl⟩) rfl hl.1 rfl (Nat.le_of_ble_eq_true rfl) dX5_takeCondition_2 ⟨Nat.zero_le _, Nat.zero_le _⟩ hW hS rfl (fun H locs hW hS => ?_)
  rcases wif_e hf with ⟨hq3, hf⟩ | ⟨hq3, hf⟩
  · refine lv_if_eq (tgt := 17) hx hb dX5_takeCondition_5 (by decide) (fun _ => ?_) (fun h => absurd hq3 h)
    refine lv_iconst (v := 0) hx hb dX5_takeCondition_17 rfl ?_
    have hres := Option.some.inj hf
    subst hres
    exact W.zret hx hb hr (wb_n false) (wr_q hG hV hZ hW hS) hS.2.2 dX5_takeCondition_18
  · refine lv_if_eq (tgt := 17) hx hb dX5_takeCondition_5 (by decide) (fun h => absurd h hq3) (fun _ => ?_)
    refine lv_iload_n hx hb dX5_takeCondition_8 rfl (lv_at hl 2 rfl) ?_
    rcases wif_e hf with ⟨hq4, hf⟩ | ⟨hq4, hf⟩
    · refine lv_if_lt (tgt := 17) hx hb dX5_takeCondition_9 (by decide) (fun _ => ?_) (fun h => absurd hq4 h)
      refine lv_iconst (v := 0) hx hb dX5_takeCondition_17 rfl ?_
      have hres := Option.some.inj hf
      subst hres
      exact W.zret hx hb hr (wb_n false) (wr_q hG hV hZ hW hS) hS.2.2 dX5_takeCondition_18
    · refine lv_if_lt (tgt := 17) hx hb dX5_takeCondition_9 (by decide) (fun h => absurd h hq4) (fun _ => ?_)
      refine lv_iload_n hx hb dX5_takeCondition_12 rfl (lv_at hl 2 rfl) ?_
      refine lv_iconst (v := 3) hx hb dX5_takeCondition_13 rfl ?_
      rcases wif_e hf with ⟨hq5, hf⟩ | ⟨hq5, hf⟩
      · refine lv_icmp_le (tgt := 19) hx hb dX5_takeCondition_14 (by decide) (fun _ => ?_) (fun h => absurd hq5 h)
        refine lv_aload_n hx hb dX5_takeCondition_19 rfl (lv_at hl 0 rfl) ?_
        refine wm_get hx hb hts wu_X5 hown hV hW (wlt_4 hk0) (wen_4 hk0) (C := RX5) (T := TX5) (N := 4) rfl 0 (by decide) (hts _ wA_109) rfl dX5_takeCondition_20 ?_
        refine lv_iload_n hx hb dX5_takeCondition_23 rfl (lv_at hl 1 rfl) ?_
        obtain ⟨hi6, hf⟩ := wgi_e hf
        refine wm_aldL hx hb hV hW (wk4_1 hk0) hi6 dX5_takeCondition_24 ?_
        refine lv_iload_n hx hb dX5_takeCondition_25 rfl (lv_at hl 2 rfl) ?_
        refine wm_put hx hb hts wu_X1 tyX1 tyX1_ok nmX1 hown hG hV hW hS (wlt_0 (wk22_i (wk4_1 hk0) hi6)) (wen_0 (wk22_i (wk4_1 hk0) hi6)) (C := RX1) (T := TX1) (N := 5) rfl 4 (by decide) (hts _ wA_96) rfl .int _ (tyX1_ok 4 (by decide)) rfl rfl (Nat.le_of_ble_eq_true rfl) (wpt_0_4 (wk22_i (wk4_1 hk0) hi6)) dX5_takeCondition_26 (fun H locs hW hS => ?_)
        obtain ⟨M7, hW, hf⟩ := wlet_M hW hf
        refine lv_iconst (v := 1) hx hb dX5_takeCondition_29 rfl ?_
        have hres := Option.some.inj hf
        subst hres
        exact W.zret hx hb hr (wb_n true) (wr_q hG hV hZ hW hS) hS.2.2 dX5_takeCondition_30
      · refine lv_icmp_le (tgt := 19) hx hb dX5_takeCondition_14 (by decide) (fun h => absurd h hq5) (fun _ => ?_)
        refine lv_iconst (v := 0) hx hb dX5_takeCondition_17 rfl ?_
        have hres := Option.some.inj hf
        subst hres
        exact W.zret hx hb hr (wb_n false) (wr_q hG hV hZ hW hS) hS.2.2 dX5_takeCondition_18
theorem cX5_takeCondition_ok (l : Launch) (E : wE) (M : wMem) (k0 : Nat) (hk0 : wkd k0 = 4) (a1 : Int32) (a2 : Int32) {res : Bool × wMem} (hf : fX5_takeCondition M k0 a1 a2 = some res) : wMet l yX5_takeCondition (wsM yX5_takeCondition cX5_takeCondition 3 (some .boolean)) ({ frames := 1, cells := 0, slots := 0, locals := 21 } : Room) E M [.ref (wad E k0), .int a1, .int a2] (some (.int (wb res.1))) res.2 :=
  wc_of (cc := cX5_takeCondition) (maxL := 3) (ret := (some .boolean)) (by decide) (Nat.le_of_ble_eq_true rfl) (fun _ _ _ _ _ _ _ _ B hW hl => pX5_takeCondition B hk0 hf hW va_S.rf hl)
end
theorem cdX5_take : yX5_take.cls = RX5 ∧ yX5_take.cls ≠ "java/lang/invoke/MethodHandle" ∧ yX5_take.cls ≠ "java/lang/invoke/VarHandle" ∧ (parseMethodDescriptor yX5_take.desc).map (fun d => d.parameters.length) = some 1 := by decide +kernel
section
variable {p : Program} {l : Launch} {e : Env} {s : State} {m : MethodId} {args : Array Value} {below : List Frame} {meth : Method} {c : Code} {E : wE}
set_option maxRecDepth 100000 in
set_option maxHeartbeats 4000000 in
theorem pX5_take (B : wB E p s m args meth c cX5_take 2 RX5 (some .boolean)) {M : wMem} {k0 : Nat} (hk0 : wkd k0 = 4) {res : Bool × wMem} (hf : fX5_take M k0 = some res) {H : Heap} {locs : List Loc} {ls : Array Slot} (hW : wH E M H) (hS : va_S (wA E) s.heap H locs) (hl : lv_has ls 2 [(0, .ref (wad E k0)), (1, .ref (wad E 49))]) : W p l e ({ frames := 3, cells := 0, slots := 0, locals := 67 } : Room) s m args below meth c H locs 0 0 (MQ below (wQ E (some (.int (wb res.1))) res.2) args s 0 0 (wA E)) (F0 m 0 ls []) := by
  unfold fX5_take at hf
  obtain ⟨hx, hb, hr, hml, hown, hts, hlocks, hG, hV, hZ⟩ := id B
  refine lv_aload_n hx hb dX5_take_0 rfl (lv_at hl 1 rfl) ?_
  refine wm_get hx hb hts wu_X7 hown hV hW (wlt_6 (rfl : wkd 49 = 6)) (wen_6 (rfl : wkd 49 = 6)) (C := RX7) (T := TX7) (N := 6) rfl 0 (by decide) (hts _ wA_167) rfl dX5_take_1 ?_
  refine lv_topi (fun x1 ex1 => ?_)
  replace hf := wlet_y ex1 hf
  rcases wif_e hf with ⟨hq5, hf⟩ | ⟨hq5, hf⟩
  · refine lv_lookup (off := 71) (tgt := 75) hx hb dX5_take_4 (by decide) (by rw [hq5] <;> rfl) (by decide) ?_
    refine lv_aload_n hx hb dX5_take_75 rfl (lv_at hl 0 rfl) ?_
    refine lv_aload_n hx hb dX5_take_76 rfl (lv_at hl 1 rfl) ?_
    refine wm_get hx hb hts wu_X7 hown hV hW (wlt_6 (rfl : wkd 49 = 6)) (wen_6 (rfl : wkd 49 = 6)) (C := RX7) (T := TX7) (N := 6) rfl 1 (by decide) (hts _ wA_169) rfl dX5_take_77 ?_
    refine lv_aload_n hx hb dX5_take_80 rfl (lv_at hl 1 rfl) ?_
    refine wm_get hx hb hts wu_X7 hown hV hW (wlt_6 (rfl : wkd 49 = 6)) (wen_6 (rfl : wkd 49 = 6)) (C := RX7) (T := TX7) (N := 6) rfl 2 (by decide) (hts _ wA_171) rfl dX5_take_81 ?_
    obtain ⟨r3, M4, hc2, hf⟩ := wbind_p hf
    refine wc_V (As := [.int (M 49 1), .int (M 49 2)]) (rest := []) hx hb hml hown hts hG hV hZ (wlt_4 hk0) (q := (RX5, TX5, 4)) (wen_4 hk0) rfl (cX5_takeCondition_ok l E M k0 hk0 (M 49 1) (M 49 2) hc2) (cwV 2 hts gl_X5_59 rfl rfl rfl cdX5_takeCondition ⟨Nat.le_of_ble_eq_true rfl, Nat.le_of_ble_eq_true rfl⟩) rfl hl.1 rfl (Nat.le_of_ble_eq_true rfl) dX5_take_84 ⟨Nat.zero_le _, Nat.zero_le _⟩ hW hS rfl (fun H locs hW hS => ?_)
    have hres := Option.some.inj hf
    subst hres
    exact W.zret hx hb hr (wb_n r3) (wr_q hG hV hZ hW hS) hS.2.2 dX5_take_87
  · rcases wif_e hf with ⟨hq9, hf⟩ | ⟨hq9, hf⟩
    · refine lv_lookup (off := 84) (tgt := 88) hx hb dX5_take_4 (by decide) (by rw [hq9] <;> rfl) (by decide) ?_
      refine lv_aload_n hx hb dX5_take_88 rfl (lv_at hl 0 rfl) ?_
      refine lv_iconst (v := 3) hx hb dX5_take_89 rfl ?_
      refine lv_aload_n hx hb dX5_take_90 rfl (lv_at hl 1 rfl) ?_
      refine wm_get hx hb hts wu_X7 hown hV hW (wlt_6 (rfl : wkd 49 = 6)) (wen_6 (rfl : wkd 49 = 6)) (C := RX7) (T := TX7) (N := 6) rfl 1 (by decide) (hts _ wA_169) rfl dX5_take_91 ?_
      obtain ⟨r7, M8, hc6, hf⟩ := wbind_p hf
      refine wc_V (As := [.int 3, .int (M 49 1)]) (rest := []) hx hb hml hown hts hG hV hZ (wlt_4 hk0) (q := (RX5, TX5, 4)) (wen_4 hk0) rfl (cX5_takeSetting_ok l E M k0 hk0 3 (M 49 1) hc6) (cwV 2 hts gl_X5_55 rfl rfl rfl cdX5_takeSetting ⟨Nat.le_of_ble_eq_true rfl, Nat.le_of_ble_eq_true rfl⟩) rfl hl.1 rfl (Nat.le_of_ble_eq_true rfl) dX5_take_94 ⟨Nat.zero_le _, Nat.zero_le _⟩ hW hS rfl (fun H locs hW hS => ?_)
      have hres := Option.some.inj hf
      subst hres
      exact W.zret hx hb hr (wb_n r7) (wr_q hG hV hZ hW hS) hS.2.2 dX5_take_97
    · rcases wif_e hf with ⟨hq13, hf⟩ | ⟨hq13, hf⟩
      · refine lv_lookup (off := 44) (tgt := 48) hx hb dX5_take_4 (by decide) (by rw [hq13] <;> rfl) (by decide) ?_
        refine lv_aload_n hx hb dX5_take_48 rfl (lv_at hl 0 rfl) ?_
        refine lv_aload_n hx hb dX5_take_49 rfl (lv_at hl 1 rfl) ?_
        refine wm_get hx hb hts wu_X7 hown hV hW (wlt_6 (rfl : wkd 49 = 6)) (wen_6 (rfl : wkd 49 = 6)) (C := RX7) (T := TX7) (N := 6) rfl 1 (by decide) (hts _ wA_169) rfl dX5_take_50 ?_
        refine lv_aload_n hx hb dX5_take_53 rfl (lv_at hl 1 rfl) ?_
        refine wm_get hx hb hts wu_X7 hown hV hW (wlt_6 (rfl : wkd 49 = 6)) (wen_6 (rfl : wkd 49 = 6)) (C := RX7) (T := TX7) (N := 6) rfl 2 (by decide) (hts _ wA_171) rfl dX5_take_54 ?_
        refine lv_aload_n hx hb dX5_take_57 rfl (lv_at hl 1 rfl) ?_
        refine wm_get hx hb hts wu_X7 hown hV hW (wlt_6 (rfl : wkd 49 = 6)) (wen_6 (rfl : wkd 49 = 6)) (C := RX7) (T := TX7) (N := 6) rfl 3 (by decide) (hts _ wA_173) rfl dX5_take_58 ?_
        obtain ⟨r11, M12, hc10, hf⟩ := wbind_p hf
        refine wc_V (As := [.int (M 49 1), .int (M 49 2), .int (M 49 3)]) (rest := []) hx hb hml hown hts hG hV hZ (wlt_4 hk0) (q := (RX5, TX5, 4)) (wen_4 hk0) rfl (cX5_addLamp_ok l E M k0 hk0 (M 49 1) (M 49 2) (M 49 3) hc10) (cwV 3 hts gl_X5_51 rfl rfl rfl cdX5_addLamp ⟨Nat.le_of_ble_eq_true rfl, Nat.le_of_ble_eq_true rfl⟩) rfl hl.1 rfl (Nat.le_of_ble_eq_true rfl) dX5_take_61 ⟨Nat.zero_le _, Nat.zero_le _⟩ hW hS rfl (fun H locs hW hS => ?_)
        have hres := Option.some.inj hf
        subst hres
        exact W.zret hx hb hr (wb_n r11) (wr_q hG hV hZ hW hS) hS.2.2 dX5_take_64
      · rcases wif_e hf with ⟨hq17, hf⟩ | ⟨hq17, hf⟩
        · refine lv_lookup (off := 61) (tgt := 65) hx hb dX5_take_4 (by decide) (by rw [hq17] <;> rfl) (by decide) ?_
          refine lv_aload_n hx hb dX5_take_65 rfl (lv_at hl 0 rfl) ?_
          refine lv_iconst (v := 0) hx hb dX5_take_66 rfl ?_
          refine lv_aload_n hx hb dX5_take_67 rfl (lv_at hl 1 rfl) ?_
          refine wm_get hx hb hts wu_X7 hown hV hW (wlt_6 (rfl : wkd 49 = 6)) (wen_6 (rfl : wkd 49 = 6)) (C := RX7) (T := TX7) (N := 6) rfl 1 (by decide) (hts _ wA_169) rfl dX5_take_68 ?_
          obtain ⟨r15, M16, hc14, hf⟩ := wbind_p hf
          refine wc_V (As := [.int 0, .int (M 49 1)]) (rest := []) hx hb hml hown hts hG hV hZ (wlt_4 hk0) (q := (RX5, TX5, 4)) (wen_4 hk0) rfl (cX5_takeSetting_ok l E M k0 hk0 0 (M 49 1) hc14) (cwV 2 hts gl_X5_55 rfl rfl rfl cdX5_takeSetting ⟨Nat.le_of_ble_eq_true rfl, Nat.le_of_ble_eq_true rfl⟩) rfl hl.1 rfl (Nat.le_of_ble_eq_true rfl) dX5_take_71 ⟨Nat.zero_le _, Nat.zero_le _⟩ hW hS rfl (fun H locs hW hS => ?_)
          have hres := Option.some.inj hf
          subst hres
          exact W.zret hx hb hr (wb_n r15) (wr_q hG hV hZ hW hS) hS.2.2 dX5_take_74
        · refine lv_lookup (off := 94) (tgt := 98) hx hb dX5_take_4 (by decide) ((lv_osw (k := 100) hq5 (by decide)).trans ((lv_osw (k := 103) hq9 (by decide)).trans ((lv_osw (k := 112) hq13 (by decide)).trans ((lv_osw (k := 117) hq17 (by decide)).trans rfl)))) (by decide) ?_
          refine lv_iconst (v := 0) hx hb dX5_take_98 rfl ?_
          have hres := Option.some.inj hf
          subst hres
          exact W.zret hx hb hr (wb_n false) (wr_q hG hV hZ hW hS) hS.2.2 dX5_take_99
theorem cX5_take_ok (l : Launch) (E : wE) (M : wMem) (k0 : Nat) (hk0 : wkd k0 = 4) {res : Bool × wMem} (hf : fX5_take M k0 = some res) : wMet l yX5_take (wsM yX5_take cX5_take 2 (some .boolean)) ({ frames := 3, cells := 0, slots := 0, locals := 67 } : Room) E M [.ref (wad E k0), .ref (wad E 49)] (some (.int (wb res.1))) res.2 :=
  wc_of (cc := cX5_take) (maxL := 2) (ret := (some .boolean)) (by decide) (Nat.le_of_ble_eq_true rfl) (fun _ _ _ _ _ _ _ _ B hW hl => pX5_take B hk0 hf hW va_S.rf hl)
end
theorem cdX9_takeLetters : yX9_takeLetters.cls = RX9 ∧ yX9_takeLetters.cls ≠ "java/lang/invoke/MethodHandle" ∧ yX9_takeLetters.cls ≠ "java/lang/invoke/VarHandle" ∧ (parseMethodDescriptor yX9_takeLetters.desc).map (fun d => d.parameters.length) = some 1 := by decide +kernel
section
variable {p : Program} {l : Launch} {e : Env} {s : State} {m : MethodId} {args : Array Value} {below : List Frame} {meth : Method} {c : Code} {E : wE}
set_option maxRecDepth 100000 in
set_option maxHeartbeats 4000000 in
theorem pX9_takeLetters_4_b (B : wB E p s m args meth c cX9_takeLetters 4 RX9 (some .int)) {M : wMem} {ky1 : Nat} {y2 : Int32} {y3 : Int32}  {rec4 : (Int32 × Int32 × wMem → Option (Int32 × wMem))} {res : Int32 × wMem} (hky1 : wkd ky1 = 4)  (hrec4 : ∀ (y2' : Int32) (y3' : Int32) (M' : wMem), rec4 (y2', y3', M') = some res → ∀ (H : Heap) (locs : List Loc) (ls : Array Slot), wH E M' H → va_S (wA E) s.heap H locs → lv_has ls 4 [(0, .ref (wad E 0)), (1, .ref (wad E ky1)), (2, .int y2'), (3, .int y3')] → W p l e ({ frames := 4, cells := 0, slots := 0, locals := 88 } : Room) s m args below meth c H locs 0 0 (MQ below (wQ E (some (.int res.1)) res.2) args s 0 0 (wA E)) (F0 m 4 ls [])) (hf : fX9_takeLetters_4_b M  rec4 ky1 y2 y3 = some res) {H : Heap} {locs : List Loc} {ls : Array Slot} (hW : wH E M H) (hS : va_S (wA E) s.heap H locs) (hl : lv_has ls 4 [(0, .ref (wad E 0)), (1, .ref (wad E ky1)), (2, .int y2), (3, .int y3)]) : W p l e ({ frames := 4, cells := 0, slots := 0, locals := 88 } : Room) s m args below meth c H locs 0 0 (MQ below (wQ E (some (.int res.1)) res.2) args s 0 0 (wA E)) (F0 m 4 ls []) := by
  unfold fX9_takeLetters_4_b at hf
  obtain ⟨hx, hb, hr, hml, hown, hts, hlocks, hG, hV, hZ⟩ := id B
  refine lv_iload_n hx hb dX9_takeLetters_4 rfl (lv_at hl 3 rfl) ?_
  refine lv_bipush (v := 64) hx hb dX9_takeLetters_5 (by decide) ?_
  rcases wif_e hf with ⟨hq1, hf⟩ | ⟨hq1, hf⟩
  · refine lv_icmp_ge (tgt := 64) hx hb dX9_takeLetters_7 (by decide) (fun _ => ?_) (fun h => absurd hq1 h)
    refine lv_iconst (v := 0) hx hb dX9_takeLetters_64 rfl ?_
    have hres := Option.some.inj hf
    subst hres
    exact W.iret hx hb hr (wr_q hG hV hZ hW hS) hS.2.2 dX9_takeLetters_65
  · refine lv_icmp_ge (tgt := 64) hx hb dX9_takeLetters_7 (by decide) (fun h => absurd h hq1) (fun _ => ?_)
    refine lv_iload_n hx hb dX9_takeLetters_10 rfl (lv_at hl 2 rfl) ?_
    refine lv_aload_n hx hb dX9_takeLetters_11 rfl (lv_at hl 0 rfl) ?_
    refine wm_get hx hb hts wu_X9 hown hV hW (wlt_8 (rfl : wkd 0 = 8)) (wen_8 (rfl : wkd 0 = 8)) (C := RX9) (T := TX9) (N := 10) rfl 3 (by decide) (hts _ wA_234) rfl dX9_takeLetters_12 ?_
    refine wm_get hx hb hts wu_X2 hown hV hW (wlt_1 (rfl : wkd 47 = 1)) (wen_1 (rfl : wkd 47 = 1)) (C := RX2) (T := TX2) (N := 2) rfl 1 (by decide) (hts _ wA_153) rfl dX9_takeLetters_15 ?_
    rcases wif_e hf with ⟨hq2, hf⟩ | ⟨hq2, hf⟩
    · refine lv_icmp_ge (tgt := 64) hx hb dX9_takeLetters_18 (by decide) (fun _ => ?_) (fun h => absurd hq2 h)
      refine lv_iconst (v := 0) hx hb dX9_takeLetters_64 rfl ?_
      have hres := Option.some.inj hf
      subst hres
      exact W.iret hx hb hr (wr_q hG hV hZ hW hS) hS.2.2 dX9_takeLetters_65
    · refine lv_icmp_ge (tgt := 64) hx hb dX9_takeLetters_18 (by decide) (fun h => absurd h hq2) (fun _ => ?_)
      refine lv_aload_n hx hb dX9_takeLetters_21 rfl (lv_at hl 0 rfl) ?_
      refine wm_get hx hb hts wu_X9 hown hV hW (wlt_8 (rfl : wkd 0 = 8)) (wen_8 (rfl : wkd 0 = 8)) (C := RX9) (T := TX9) (N := 10) rfl 4 (by decide) (hts _ wA_235) rfl dX9_takeLetters_22 ?_
      refine lv_aload_n hx hb dX9_takeLetters_25 rfl (lv_at hl 0 rfl) ?_
      refine wm_get hx hb hts wu_X9 hown hV hW (wlt_8 (rfl : wkd 0 = 8)) (wen_8 (rfl : wkd 0 = 8)) (C := RX9) (T := TX9) (N := 10) rfl 3 (by decide) (hts _ wA_234) rfl dX9_takeLetters_26 ?_
      refine lv_iload_n hx hb dX9_takeLetters_29 rfl (lv_at hl 2 rfl) ?_
      obtain ⟨M5, hc3, hf⟩ := wbind_e hf
      refine wc_V (As := [.ref (wad E 47), .int y2]) (rest := []) hx hb hml hown hts hG hV hZ (wlt_6 (rfl : wkd 49 = 6)) (q := (RX7, TX7, 6)) (wen_6 (rfl : wkd 49 = 6)) rfl (cX7_read_ok l E M y2 hc3) (cwV 2 hts gl_X9_245 rfl rfl rfl cdX7_read ⟨Nat.le_of_ble_eq_true rfl, Nat.le_of_ble_eq_true rfl⟩) rfl hl.1 rfl (Nat.le_of_ble_eq_true rfl) dX9_takeLetters_30 ⟨Nat.zero_le _, Nat.zero_le _⟩ hW hS rfl (fun H locs hW hS => ?_)
      refine lv_aload_n hx hb dX9_takeLetters_33 rfl (lv_at hl 1 rfl) ?_
      refine lv_aload_n hx hb dX9_takeLetters_34 rfl (lv_at hl 0 rfl) ?_
      refine wm_get hx hb hts wu_X9 hown hV hW (wlt_8 (rfl : wkd 0 = 8)) (wen_8 (rfl : wkd 0 = 8)) (C := RX9) (T := TX9) (N := 10) rfl 4 (by decide) (hts _ wA_235) rfl dX9_takeLetters_35 ?_
      obtain ⟨r7, M8, hc6, hf⟩ := wbind_p hf
      refine wc_V (As := [.ref (wad E 49)]) (rest := []) hx hb hml hown hts hG hV hZ (wlt_4 hky1) (q := (RX5, TX5, 4)) (wen_4 hky1) rfl (cX5_take_ok l E M5 ky1 hky1 hc6) (cwV 1 hts gl_X9_255 rfl rfl rfl cdX5_take ⟨Nat.le_of_ble_eq_true rfl, Nat.le_of_ble_eq_true rfl⟩) rfl hl.1 rfl (Nat.le_of_ble_eq_true rfl) dX9_takeLetters_38 ⟨Nat.zero_le _, Nat.zero_le _⟩ hW hS rfl (fun H locs hW hS => ?_)
      rcases wif_e hf with ⟨hq9, hf⟩ | ⟨hq9, hf⟩
      · refine lv_if_ne (tgt := 50) hx hb dX9_takeLetters_41 (by decide) (fun h => absurd hq9 h) (fun _ => ?_)
        refine lv_sipush (v := (-2000)) hx hb dX9_takeLetters_44 (by decide) ?_
        refine lv_iload_n hx hb dX9_takeLetters_47 rfl (lv_at hl 2 rfl) ?_
        refine lv_isub hx hb dX9_takeLetters_48 ?_
        have hres := Option.some.inj hf
        subst hres
        exact W.iret hx hb hr (wr_q hG hV hZ hW hS) hS.2.2 dX9_takeLetters_49
      · refine lv_if_ne (tgt := 50) hx hb dX9_takeLetters_41 (by decide) (fun _ => ?_) (fun h => absurd h hq9)
        refine lv_aload_n hx hb dX9_takeLetters_50 rfl (lv_at hl 0 rfl) ?_
        refine wm_get hx hb hts wu_X9 hown hV hW (wlt_8 (rfl : wkd 0 = 8)) (wen_8 (rfl : wkd 0 = 8)) (C := RX9) (T := TX9) (N := 10) rfl 4 (by decide) (hts _ wA_235) rfl dX9_takeLetters_51 ?_
        refine wm_get hx hb hts wu_X7 hown hV hW (wlt_6 (rfl : wkd 49 = 6)) (wen_6 (rfl : wkd 49 = 6)) (C := RX7) (T := TX7) (N := 6) rfl 4 (by decide) (hts _ wA_175) rfl dX9_takeLetters_54 ?_
        refine lv_topi (fun x10 ex10 => ?_)
        replace hf := wlet_y ex10 hf
        refine lv_istore_n (lv' := [(2, .int x10), (0, .ref (wad E 0)), (1, .ref (wad E ky1)), (3, .int y3)]) hx hb dX9_takeLetters_57 rfl hl (by decide) rfl (fun ls hl => ?_)
        obtain ⟨x11, ex11, hf⟩ := wlet_e hf
        refine lv_iinc (v := x11) (lv' := [(3, .int x11), (2, .int x10), (0, .ref (wad E 0)), (1, .ref (wad E ky1))]) hx hb dX9_takeLetters_58 hl (k := 3) rfl (by rw [ex11]; rfl) (by decide) rfl (fun ls hl => ?_)
        refine lv_goto (tgt := 4) hx hb dX9_takeLetters_61 (by decide) ?_
        exact hrec4 x10 x11 M8 hf _ _ _ hW hS (lv_sub hl [2, 3, 1, 0] rfl)
set_option maxRecDepth 100000 in
set_option maxHeartbeats 4000000 in
theorem pX9_takeLetters_4 (B : wB E p s m args meth c cX9_takeLetters 4 RX9 (some .int)) {M : wMem} {ky1 : Nat} {y2 : Int32} {y3 : Int32}  {res : Int32 × wMem} (hky1 : wkd ky1 = 4)  (hf : fX9_takeLetters_4 M  ky1 y2 y3 = some res) {H : Heap} {locs : List Loc} {ls : Array Slot} (hW : wH E M H) (hS : va_S (wA E) s.heap H locs) (hl : lv_has ls 4 [(0, .ref (wad E 0)), (1, .ref (wad E ky1)), (2, .int y2), (3, .int y3)]) : W p l e ({ frames := 4, cells := 0, slots := 0, locals := 88 } : Room) s m args below meth c H locs 0 0 (MQ below (wQ E (some (.int res.1)) res.2) args s 0 0 (wA E)) (F0 m 4 ls []) := by
  have key := wloop_W (b := (fun rec4 t => fX9_takeLetters_4_b t.2.2  rec4 ky1 t.1 t.2.1)) (P := fun t => ∀ (H : Heap) (locs : List Loc) (ls : Array Slot), wH E t.2.2 H → va_S (wA E) s.heap H locs → lv_has ls 4 [(0, .ref (wad E 0)), (1, .ref (wad E ky1)), (2, .int t.1), (3, .int t.2.1)] → W p l e ({ frames := 4, cells := 0, slots := 0, locals := 88 } : Room) s m args below meth c H locs 0 0 (MQ below (wQ E (some (.int res.1)) res.2) args s 0 0 (wA E)) (F0 m 4 ls [])) (r := res) (fun rec hrec t hf H locs ls hW hS hl => pX9_takeLetters_4_b B hky1  (fun v0 v1 v2 hf H locs ls hW hS hl => hrec (v0, v1, v2) hf H locs ls hW hS hl) hf hW hS hl)
  exact key wfuel (y2, y3, M) hf H locs ls hW hS hl
set_option maxRecDepth 100000 in
set_option maxHeartbeats 4000000 in
theorem pX9_takeLetters (B : wB E p s m args meth c cX9_takeLetters 4 RX9 (some .int)) {M : wMem} {k1 : Nat} (hk1 : wkd k1 = 4) {res : Int32 × wMem} (hf : fX9_takeLetters M k1 = some res) {H : Heap} {locs : List Loc} {ls : Array Slot} (hW : wH E M H) (hS : va_S (wA E) s.heap H locs) (hl : lv_has ls 4 [(0, .ref (wad E 0)), (1, .ref (wad E k1))]) : W p l e ({ frames := 4, cells := 0, slots := 0, locals := 88 } : Room) s m args below meth c H locs 0 0 (MQ below (wQ E (some (.int res.1)) res.2) args s 0 0 (wA E)) (F0 m 0 ls []) := by
  unfold fX9_takeLetters at hf
  obtain ⟨hx, hb, hr, hml, hown, hts, hlocks, hG, hV, hZ⟩ := id B
  refine lv_iconst (v := 0) hx hb dX9_takeLetters_0 rfl ?_
  refine lv_istore_n (lv' := [(2, .int 0), (0, .ref (wad E 0)), (1, .ref (wad E k1))]) hx hb dX9_takeLetters_1 rfl hl (by decide) rfl (fun ls hl => ?_)
  refine lv_iconst (v := 0) hx hb dX9_takeLetters_2 rfl ?_
  refine lv_istore_n (lv' := [(3, .int 0), (2, .int 0), (0, .ref (wad E 0)), (1, .ref (wad E k1))]) hx hb dX9_takeLetters_3 rfl hl (by decide) rfl (fun ls hl => ?_)
  exact pX9_takeLetters_4 B hk1  hf hW hS (lv_sub hl [2, 3, 1, 0] rfl)
theorem cX9_takeLetters_ok (l : Launch) (E : wE) (M : wMem) (k1 : Nat) (hk1 : wkd k1 = 4) {res : Int32 × wMem} (hf : fX9_takeLetters M k1 = some res) : wMet l yX9_takeLetters (wsM yX9_takeLetters cX9_takeLetters 4 (some .int)) ({ frames := 4, cells := 0, slots := 0, locals := 88 } : Room) E M [.ref (wad E 0), .ref (wad E k1)] (some (.int res.1)) res.2 :=
  wc_of (cc := cX9_takeLetters) (maxL := 4) (ret := (some .int)) (by decide) (Nat.le_of_ble_eq_true rfl) (fun _ _ _ _ _ _ _ _ B hW hl => pX9_takeLetters B hk1 hf hW va_S.rf hl)
end
theorem cdX9_string : yX9_string.cls = RX9 ∧ yX9_string.cls ≠ "java/lang/invoke/MethodHandle" ∧ yX9_string.cls ≠ "java/lang/invoke/VarHandle" ∧ (parseMethodDescriptor yX9_string.desc).map (fun d => d.parameters.length) = some 0 := by decide +kernel
section
variable {p : Program} {l : Launch} {e : Env} {s : State} {m : MethodId} {args : Array Value} {below : List Frame} {meth : Method} {c : Code} {E : wE}
set_option maxRecDepth 100000 in
set_option maxHeartbeats 4000000 in
theorem pX9_string_44 (B : wB E p s m args meth c cX9_string 4 RX9 (some .int)) {M : wMem} {y1 : Int32}  {res : Int32 × wMem}   (hf : fX9_string_44 M  y1 = some res) {H : Heap} {locs : List Loc} {ls : Array Slot} (hW : wH E M H) (hS : va_S (wA E) s.heap H locs) (hl : lv_has ls 4 [(0, .ref (wad E 0)), (1, .int y1)]) : W p l e ({ frames := 5, cells := 0, slots := 0, locals := 111 } : Room) s m args below meth c H locs 0 0 (MQ below (wQ E (some (.int res.1)) res.2) args s 0 0 (wA E)) (F0 m 44 ls []) := by
  unfold fX9_string_44 at hf
  obtain ⟨hx, hb, hr, hml, hown, hts, hlocks, hG, hV, hZ⟩ := id B
  refine lv_aload_n hx hb dX9_string_44 rfl (lv_at hl 0 rfl) ?_
  refine wm_get hx hb hts wu_X9 hown hV hW (wlt_8 (rfl : wkd 0 = 8)) (wen_8 (rfl : wkd 0 = 8)) (C := RX9) (T := TX9) (N := 10) rfl 3 (by decide) (hts _ wA_234) rfl dX9_string_45 ?_
  refine lv_iconst (v := 0) hx hb dX9_string_48 rfl ?_
  refine wm_put hx hb hts wu_X2 tyX2 tyX2_ok nmX2 hown hG hV hW hS (wlt_1 (rfl : wkd 47 = 1)) (wen_1 (rfl : wkd 47 = 1)) (C := RX2) (T := TX2) (N := 2) rfl 1 (by decide) (hts _ wA_153) rfl .int _ (tyX2_ok 1 (by decide)) rfl rfl (Nat.le_of_ble_eq_true rfl) (wpt_1_1 (rfl : wkd 47 = 1)) dX9_string_49 (fun H locs hW hS => ?_)
  obtain ⟨M5, hW, hf⟩ := wlet_M hW hf
  refine lv_iload_n hx hb dX9_string_52 rfl (lv_at hl 1 rfl) ?_
  have hres := Option.some.inj hf
  subst hres
  exact W.iret hx hb hr (wr_q hG hV hZ hW hS) hS.2.2 dX9_string_53
set_option maxRecDepth 100000 in
set_option maxHeartbeats 4000000 in
theorem pX9_string (B : wB E p s m args meth c cX9_string 4 RX9 (some .int)) {M : wMem}   {res : Int32 × wMem} (hf : fX9_string M  = some res) {H : Heap} {locs : List Loc} {ls : Array Slot} (hW : wH E M H) (hS : va_S (wA E) s.heap H locs) (hl : lv_has ls 4 [(0, .ref (wad E 0))]) : W p l e ({ frames := 5, cells := 0, slots := 0, locals := 111 } : Room) s m args below meth c H locs 0 0 (MQ below (wQ E (some (.int res.1)) res.2) args s 0 0 (wA E)) (F0 m 0 ls []) := by
  unfold fX9_string at hf
  obtain ⟨hx, hb, hr, hml, hown, hts, hlocks, hG, hV, hZ⟩ := id B
  refine lv_aload_n hx hb dX9_string_0 rfl (lv_at hl 0 rfl) ?_
  obtain ⟨r2, M3, hc1, hf⟩ := wbind_p hf
  refine wc_V (As := []) (rest := []) hx hb hml hown hts hG hV hZ (wlt_8 (rfl : wkd 0 = 8)) (q := (RX9, TX9, 10)) (wen_8 (rfl : wkd 0 = 8)) rfl (cX9_formOfLetters_ok l E M  hc1) (cwV 0 hts gl_X9_77 rfl rfl rfl cdX9_formOfLetters ⟨Nat.le_of_ble_eq_true rfl, Nat.le_of_ble_eq_true rfl⟩) rfl hl.1 rfl (Nat.le_of_ble_eq_true rfl) dX9_string_1 ⟨Nat.zero_le _, Nat.zero_le _⟩ hW hS rfl (fun H locs hW hS => ?_)
  refine lv_istore_n (lv' := [(1, .int r2), (0, .ref (wad E 0))]) hx hb dX9_string_4 rfl hl (by decide) rfl (fun ls hl => ?_)
  refine lv_iload_n hx hb dX9_string_5 rfl (lv_at hl 0 rfl) ?_
  rcases wif_e hf with ⟨hq4, hf⟩ | ⟨hq4, hf⟩
  · refine lv_if_lt (tgt := 44) hx hb dX9_string_6 (by decide) (fun _ => ?_) (fun h => absurd hq4 h)
    exact pX9_string_44 B   hf hW hS (lv_sub hl [1, 0] rfl)
  · refine lv_if_lt (tgt := 44) hx hb dX9_string_6 (by decide) (fun h => absurd h hq4) (fun _ => ?_)
    refine lv_aload_n hx hb dX9_string_9 rfl (lv_at hl 1 rfl) ?_
    refine wm_get hx hb hts wu_X9 hown hV hW (wlt_8 (rfl : wkd 0 = 8)) (wen_8 (rfl : wkd 0 = 8)) (C := RX9) (T := TX9) (N := 10) rfl 2 (by decide) (hts _ wA_233) rfl dX9_string_10 ?_
    refine lv_aload_n hx hb dX9_string_13 rfl (lv_at hl 1 rfl) ?_
    refine wm_get hx hb hts wu_X9 hown hV hW (wlt_8 (rfl : wkd 0 = 8)) (wen_8 (rfl : wkd 0 = 8)) (C := RX9) (T := TX9) (N := 10) rfl 0 (by decide) (hts _ wA_231) rfl dX9_string_14 ?_
    obtain ⟨M8, hc6, hf⟩ := wbind_e hf
    refine wc_V (As := [.ref (wad E 1)]) (rest := []) hx hb hml hown hts hG hV hZ (wlt_3 (rfl : wkd 31 = 3)) (q := (RX4, TX4, 1)) (wen_3 (rfl : wkd 31 = 3)) rfl (cX4_startFrom_ok l E M3 1 (rfl : wkd 1 = 4) hc6) (cwV 1 hts gl_X9_81 rfl rfl rfl cdX4_startFrom ⟨Nat.le_of_ble_eq_true rfl, Nat.le_of_ble_eq_true rfl⟩) rfl hl.1 rfl (Nat.le_of_ble_eq_true rfl) dX9_string_17 ⟨Nat.zero_le _, Nat.zero_le _⟩ hW hS rfl (fun H locs hW hS => ?_)
    refine lv_astore_n (lv' := [(2, .ref (wad E 32)), (1, .int r2), (0, .ref (wad E 0))]) hx hb dX9_string_20 rfl hl (by decide) rfl (fun ls hl => ?_)
    refine lv_aload_n hx hb dX9_string_21 rfl (lv_at hl 2 rfl) ?_
    refine lv_aload_n hx hb dX9_string_22 rfl (lv_at hl 0 rfl) ?_
    obtain ⟨r10, M11, hc9, hf⟩ := wbind_p hf
    refine wc_V (As := [.ref (wad E 32)]) (rest := []) hx hb hml hown hts hG hV hZ (wlt_8 (rfl : wkd 0 = 8)) (q := (RX9, TX9, 10)) (wen_8 (rfl : wkd 0 = 8)) rfl (cX9_takeLetters_ok l E M8 32 (rfl : wkd 32 = 4) hc9) (cwV 1 hts gl_X9_85 rfl rfl rfl cdX9_takeLetters ⟨Nat.le_of_ble_eq_true rfl, Nat.le_of_ble_eq_true rfl⟩) rfl hl.1 rfl (Nat.le_of_ble_eq_true rfl) dX9_string_23 ⟨Nat.zero_le _, Nat.zero_le _⟩ hW hS rfl (fun H locs hW hS => ?_)
    refine lv_istore_n (lv' := [(3, .int r10), (2, .ref (wad E 32)), (1, .int r2), (0, .ref (wad E 0))]) hx hb dX9_string_26 rfl hl (by decide) rfl (fun ls hl => ?_)
    refine lv_iload_n hx hb dX9_string_27 rfl (lv_at hl 0 rfl) ?_
    rcases wif_e hf with ⟨hq12, hf⟩ | ⟨hq12, hf⟩
    · refine lv_if_ge (tgt := 36) hx hb dX9_string_28 (by decide) (fun _ => ?_) (fun h => absurd hq12 h)
      refine lv_aload_n hx hb dX9_string_36 rfl (lv_at hl 3 rfl) ?_
      refine wm_get hx hb hts wu_X9 hown hV hW (wlt_8 (rfl : wkd 0 = 8)) (wen_8 (rfl : wkd 0 = 8)) (C := RX9) (T := TX9) (N := 10) rfl 0 (by decide) (hts _ wA_231) rfl dX9_string_37 ?_
      refine lv_aload_n hx hb dX9_string_40 rfl (lv_at hl 1 rfl) ?_
      obtain ⟨M15, hc13, hf⟩ := wbind_e hf
      refine wc_V (As := [.ref (wad E 32)]) (rest := []) hx hb hml hown hts hG hV hZ (wlt_4 (rfl : wkd 1 = 4)) (q := (RX5, TX5, 4)) (wen_4 (rfl : wkd 1 = 4)) rfl (cX5_copyFrom_ok l E M11 1 (rfl : wkd 1 = 4) 32 (rfl : wkd 32 = 4) hc13) (cwV 1 hts gl_X9_89 rfl rfl rfl cdX5_copyFrom ⟨Nat.le_of_ble_eq_true rfl, Nat.le_of_ble_eq_true rfl⟩) rfl hl.1 rfl (Nat.le_of_ble_eq_true rfl) dX9_string_41 ⟨Nat.zero_le _, Nat.zero_le _⟩ hW hS rfl (fun H locs hW hS => ?_)
      exact pX9_string_44 B   hf hW hS (lv_sub hl [3, 2] rfl)
    · refine lv_if_ge (tgt := 36) hx hb dX9_string_28 (by decide) (fun h => absurd h hq12) (fun _ => ?_)
      refine lv_iload_n hx hb dX9_string_31 rfl (lv_at hl 0 rfl) ?_
      refine lv_istore_n (lv' := [(1, .int r10), (3, .int r10), (2, .ref (wad E 32)), (0, .ref (wad E 0))]) hx hb dX9_string_32 rfl hl (by decide) rfl (fun ls hl => ?_)
      refine lv_goto (tgt := 44) hx hb dX9_string_33 (by decide) ?_
      exact pX9_string_44 B   hf hW hS (lv_sub hl [3, 0] rfl)
theorem cX9_string_ok (l : Launch) (E : wE) (M : wMem)  {res : Int32 × wMem} (hf : fX9_string M  = some res) : wMet l yX9_string (wsM yX9_string cX9_string 4 (some .int)) ({ frames := 5, cells := 0, slots := 0, locals := 111 } : Room) E M [.ref (wad E 0)] (some (.int res.1)) res.2 :=
  wc_of (cc := cX9_string) (maxL := 4) (ret := (some .int)) (by decide) (Nat.le_of_ble_eq_true rfl) (fun _ _ _ _ _ _ _ _ B hW hl => pX9_string B  hf hW va_S.rf hl)
end
theorem cdX1_drag : yX1_drag.cls = RX1 ∧ yX1_drag.cls ≠ "java/lang/invoke/MethodHandle" ∧ yX1_drag.cls ≠ "java/lang/invoke/VarHandle" ∧ (parseMethodDescriptor yX1_drag.desc).map (fun d => d.parameters.length) = some 0 := by decide +kernel
section
variable {p : Program} {l : Launch} {e : Env} {s : State} {m : MethodId} {args : Array Value} {below : List Frame} {meth : Method} {c : Code} {E : wE}
set_option maxRecDepth 100000 in
set_option maxHeartbeats 4000000 in
theorem pX1_drag (B : wB E p s m args meth c cX1_drag 1 RX1 (some .int)) {M : wMem} {k0 : Nat} (hk0 : wkd k0 = 0) {res : Int32} (hf : fX1_drag M k0 = some res) {H : Heap} {locs : List Loc} {ls : Array Slot} (hW : wH E M H) (hS : va_S (wA E) s.heap H locs) (hl : lv_has ls 1 [(0, .ref (wad E k0))]) : W p l e ({ frames := 0, cells := 0, slots := 0, locals := 0 } : Room) s m args below meth c H locs 0 0 (MQ below (wQ E (some (.int res)) M) args s 0 0 (wA E)) (F0 m 0 ls []) := by
  unfold fX1_drag at hf
  obtain ⟨hx, hb, hr, hml, hown, hts, hlocks, hG, hV, hZ⟩ := id B
  refine lv_aload_n hx hb dX1_drag_0 rfl (lv_at hl 0 rfl) ?_
  refine wm_get hx hb hts wu_X1 hown hV hW (wlt_0 hk0) (wen_0 hk0) (C := RX1) (T := TX1) (N := 5) rfl 4 (by decide) (hts _ wA_94) rfl dX1_drag_1 ?_
  refine lv_iconst (v := 2) hx hb dX1_drag_4 rfl ?_
  rcases wif_e hf with ⟨hq1, hf⟩ | ⟨hq1, hf⟩
  · refine lv_icmp_ne (tgt := 10) hx hb dX1_drag_5 (by decide) (fun h => absurd hq1 h) (fun _ => ?_)
    refine lv_iconst (v := 0) hx hb dX1_drag_8 rfl ?_
    have hres := Option.some.inj hf
    subst hres
    exact W.iret hx hb hr (wr_q hG hV hZ hW hS) hS.2.2 dX1_drag_9
  · refine lv_icmp_ne (tgt := 10) hx hb dX1_drag_5 (by decide) (fun _ => ?_) (fun h => absurd h hq1)
    refine lv_aload_n hx hb dX1_drag_10 rfl (lv_at hl 0 rfl) ?_
    refine wm_get hx hb hts wu_X1 hown hV hW (wlt_0 hk0) (wen_0 hk0) (C := RX1) (T := TX1) (N := 5) rfl 0 (by decide) (hts _ wA_83) rfl dX1_drag_11 ?_
    refine lv_topi (fun x2 ex2 => ?_)
    replace hf := wlet_y ex2 hf
    rcases wif_e hf with ⟨hq3, hf⟩ | ⟨hq3, hf⟩
    · refine lv_tableIn (off := 26) (tgt := 40) hx hb dX1_drag_14 (by rw [hq3] <;> decide) (by rw [hq3] <;> decide) (by rw [hq3] <;> rfl) (by decide) ?_
      refine lv_bipush (v := 15) hx hb dX1_drag_40 (by decide) ?_
      have hres := Option.some.inj hf
      subst hres
      exact W.iret hx hb hr (wr_q hG hV hZ hW hS) hS.2.2 dX1_drag_42
    · rcases wif_e hf with ⟨hq4, hf⟩ | ⟨hq4, hf⟩
      · refine lv_tableIn (off := 29) (tgt := 43) hx hb dX1_drag_14 (by rw [hq4] <;> decide) (by rw [hq4] <;> decide) (by rw [hq4] <;> rfl) (by decide) ?_
        refine lv_bipush (v := 6) hx hb dX1_drag_43 (by decide) ?_
        have hres := Option.some.inj hf
        subst hres
        exact W.iret hx hb hr (wr_q hG hV hZ hW hS) hS.2.2 dX1_drag_45
      · rcases wif_e hf with ⟨hq5, hf⟩ | ⟨hq5, hf⟩
        · refine lv_tableIn (off := 32) (tgt := 46) hx hb dX1_drag_14 (by rw [hq5] <;> decide) (by rw [hq5] <;> decide) (by rw [hq5] <;> rfl) (by decide) ?_
          refine lv_bipush (v := 20) hx hb dX1_drag_46 (by decide) ?_
          have hres := Option.some.inj hf
          subst hres
          exact W.iret hx hb hr (wr_q hG hV hZ hW hS) hS.2.2 dX1_drag_48
        · have hodX1_drag_14 : x2.toInt < 3 ∨ 5 < x2.toInt := by
            have := lv_neT (k := 3) (a := 3) hq3 (by decide)
            have := lv_neT (k := 4) (a := 4) hq4 (by decide)
            have := lv_neT (k := 5) (a := 5) hq5 (by decide)
            omega
          refine lv_tableOut (tgt := 49) hx hb dX1_drag_14 hodX1_drag_14 (by decide) ?_
          refine lv_bipush (v := 10) hx hb dX1_drag_49 (by decide) ?_
          have hres := Option.some.inj hf
          subst hres
          exact W.iret hx hb hr (wr_q hG hV hZ hW hS) hS.2.2 dX1_drag_51
theorem cX1_drag_ok (l : Launch) (E : wE) (M : wMem) (k0 : Nat) (hk0 : wkd k0 = 0) {res : Int32} (hf : fX1_drag M k0 = some res) : wMet l yX1_drag (wsM yX1_drag cX1_drag 1 (some .int)) ({ frames := 0, cells := 0, slots := 0, locals := 0 } : Room) E M [.ref (wad E k0)] (some (.int res)) M :=
  wc_of (cc := cX1_drag) (maxL := 1) (ret := (some .int)) (by decide) (Nat.le_of_ble_eq_true rfl) (fun _ _ _ _ _ _ _ _ B hW hl => pX1_drag B hk0 hf hW va_S.rf hl)
end
theorem cdX1_breaksRow : yX1_breaksRow.cls = RX1 ∧ yX1_breaksRow.cls ≠ "java/lang/invoke/MethodHandle" ∧ yX1_breaksRow.cls ≠ "java/lang/invoke/VarHandle" ∧ (parseMethodDescriptor yX1_breaksRow.desc).map (fun d => d.parameters.length) = some 0 := by decide +kernel
section
variable {p : Program} {l : Launch} {e : Env} {s : State} {m : MethodId} {args : Array Value} {below : List Frame} {meth : Method} {c : Code} {E : wE}
set_option maxRecDepth 100000 in
set_option maxHeartbeats 4000000 in
theorem pX1_breaksRow_16 (B : wB E p s m args meth c cX1_breaksRow 1 RX1 (some .boolean)) {M : wMem}   {res : Bool}   (hf : fX1_breaksRow_16 M   = some res) {H : Heap} {locs : List Loc} {ls : Array Slot} (hW : wH E M H) (hS : va_S (wA E) s.heap H locs) (hl : lv_has ls 1 []) : W p l e ({ frames := 0, cells := 0, slots := 0, locals := 0 } : Room) s m args below meth c H locs 0 0 (MQ below (wQ E (some (.int (wb res))) M) args s 0 0 (wA E)) (F0 m 16 ls []) := by
  unfold fX1_breaksRow_16 at hf
  obtain ⟨hx, hb, hr, hml, hown, hts, hlocks, hG, hV, hZ⟩ := id B
  refine lv_iconst (v := 1) hx hb dX1_breaksRow_16 rfl ?_
  refine lv_goto (tgt := 21) hx hb dX1_breaksRow_17 (by decide) ?_
  have hres := Option.some.inj hf
  subst hres
  exact W.zret hx hb hr (wb_n true) (wr_q hG hV hZ hW hS) hS.2.2 dX1_breaksRow_21
set_option maxRecDepth 100000 in
set_option maxHeartbeats 4000000 in
theorem pX1_breaksRow (B : wB E p s m args meth c cX1_breaksRow 1 RX1 (some .boolean)) {M : wMem} {k0 : Nat} (hk0 : wkd k0 = 0) {res : Bool} (hf : fX1_breaksRow M k0 = some res) {H : Heap} {locs : List Loc} {ls : Array Slot} (hW : wH E M H) (hS : va_S (wA E) s.heap H locs) (hl : lv_has ls 1 [(0, .ref (wad E k0))]) : W p l e ({ frames := 0, cells := 0, slots := 0, locals := 0 } : Room) s m args below meth c H locs 0 0 (MQ below (wQ E (some (.int (wb res))) M) args s 0 0 (wA E)) (F0 m 0 ls []) := by
  unfold fX1_breaksRow at hf
  obtain ⟨hx, hb, hr, hml, hown, hts, hlocks, hG, hV, hZ⟩ := id B
  refine lv_aload_n hx hb dX1_breaksRow_0 rfl (lv_at hl 0 rfl) ?_
  refine wm_get hx hb hts wu_X1 hown hV hW (wlt_0 hk0) (wen_0 hk0) (C := RX1) (T := TX1) (N := 5) rfl 4 (by decide) (hts _ wA_94) rfl dX1_breaksRow_1 ?_
  refine lv_iconst (v := 1) hx hb dX1_breaksRow_4 rfl ?_
  rcases wif_e hf with ⟨hq1, hf⟩ | ⟨hq1, hf⟩
  · refine lv_icmp_eq (tgt := 16) hx hb dX1_breaksRow_5 (by decide) (fun _ => ?_) (fun h => absurd hq1 h)
    exact pX1_breaksRow_16 B   hf hW hS (lv_sub hl [] rfl)
  · refine lv_icmp_eq (tgt := 16) hx hb dX1_breaksRow_5 (by decide) (fun h => absurd h hq1) (fun _ => ?_)
    refine lv_aload_n hx hb dX1_breaksRow_8 rfl (lv_at hl 0 rfl) ?_
    refine wm_get hx hb hts wu_X1 hown hV hW (wlt_0 hk0) (wen_0 hk0) (C := RX1) (T := TX1) (N := 5) rfl 4 (by decide) (hts _ wA_94) rfl dX1_breaksRow_9 ?_
    refine lv_iconst (v := 3) hx hb dX1_breaksRow_12 rfl ?_
    rcases wif_e hf with ⟨hq2, hf⟩ | ⟨hq2, hf⟩
    · refine lv_icmp_ne (tgt := 20) hx hb dX1_breaksRow_13 (by decide) (fun h => absurd hq2 h) (fun _ => ?_)
      exact pX1_breaksRow_16 B   hf hW hS (lv_sub hl [] rfl)
    · refine lv_icmp_ne (tgt := 20) hx hb dX1_breaksRow_13 (by decide) (fun _ => ?_) (fun h => absurd h hq2)
      refine lv_iconst (v := 0) hx hb dX1_breaksRow_20 rfl ?_
      have hres := Option.some.inj hf
      subst hres
      exact W.zret hx hb hr (wb_n false) (wr_q hG hV hZ hW hS) hS.2.2 dX1_breaksRow_21
theorem cX1_breaksRow_ok (l : Launch) (E : wE) (M : wMem) (k0 : Nat) (hk0 : wkd k0 = 0) {res : Bool} (hf : fX1_breaksRow M k0 = some res) : wMet l yX1_breaksRow (wsM yX1_breaksRow cX1_breaksRow 1 (some .boolean)) ({ frames := 0, cells := 0, slots := 0, locals := 0 } : Room) E M [.ref (wad E k0)] (some (.int (wb res))) M :=
  wc_of (cc := cX1_breaksRow) (maxL := 1) (ret := (some .boolean)) (by decide) (Nat.le_of_ble_eq_true rfl) (fun _ _ _ _ _ _ _ _ B hW hl => pX1_breaksRow B hk0 hf hW va_S.rf hl)
end
theorem cdX5_isWhole : yX5_isWhole.cls = RX5 ∧ yX5_isWhole.cls ≠ "java/lang/invoke/MethodHandle" ∧ yX5_isWhole.cls ≠ "java/lang/invoke/VarHandle" ∧ (parseMethodDescriptor yX5_isWhole.desc).map (fun d => d.parameters.length) = some 2 := by decide +kernel
section
variable {p : Program} {l : Launch} {e : Env} {s : State} {m : MethodId} {args : Array Value} {below : List Frame} {meth : Method} {c : Code} {E : wE}
set_option maxRecDepth 100000 in
set_option maxHeartbeats 4000000 in
theorem pX5_isWhole_2_b (B : wB E p s m args meth c cX5_isWhole 4 RX5 (some .boolean)) {M : wMem} {ky0 : Nat} {y2 : Int32} {y3 : Int32}  {rec2 : (Int32 → Option (Bool))} {res : Bool} (hky0 : wkd ky0 = 4)  (hrec2 : ∀ (y3' : Int32), rec2 (y3') = some res → ∀ (H : Heap) (locs : List Loc) (ls : Array Slot), wH E M H → va_S (wA E) s.heap H locs → lv_has ls 4 [(0, .ref (wad E ky0)), (2, .int y2), (3, .int y3')] → W p l e ({ frames := 1, cells := 0, slots := 0, locals := 20 } : Room) s m args below meth c H locs 0 0 (MQ below (wQ E (some (.int (wb res))) M) args s 0 0 (wA E)) (F0 m 2 ls [])) (hf : fX5_isWhole_2_b M  rec2 ky0 y2 y3 = some res) {H : Heap} {locs : List Loc} {ls : Array Slot} (hW : wH E M H) (hS : va_S (wA E) s.heap H locs) (hl : lv_has ls 4 [(0, .ref (wad E ky0)), (2, .int y2), (3, .int y3)]) : W p l e ({ frames := 1, cells := 0, slots := 0, locals := 20 } : Room) s m args below meth c H locs 0 0 (MQ below (wQ E (some (.int (wb res))) M) args s 0 0 (wA E)) (F0 m 2 ls []) := by
  unfold fX5_isWhole_2_b at hf
  obtain ⟨hx, hb, hr, hml, hown, hts, hlocks, hG, hV, hZ⟩ := id B
  refine lv_iload_n hx hb dX5_isWhole_2 rfl (lv_at hl 2 rfl) ?_
  refine lv_iload_n hx hb dX5_isWhole_3 rfl (lv_at hl 1 rfl) ?_
  rcases wif_e hf with ⟨hq1, hf⟩ | ⟨hq1, hf⟩
  · refine lv_icmp_gt (tgt := 35) hx hb dX5_isWhole_4 (by decide) (fun _ => ?_) (fun h => absurd hq1 h)
    refine lv_iconst (v := 1) hx hb dX5_isWhole_35 rfl ?_
    have hres := Option.some.inj hf
    subst hres
    exact W.zret hx hb hr (wb_n true) (wr_q hG hV hZ hW hS) hS.2.2 dX5_isWhole_36
  · refine lv_icmp_gt (tgt := 35) hx hb dX5_isWhole_4 (by decide) (fun h => absurd h hq1) (fun _ => ?_)
    refine lv_iload_n hx hb dX5_isWhole_7 rfl (lv_at hl 2 rfl) ?_
    refine lv_aload_n hx hb dX5_isWhole_8 rfl (lv_at hl 0 rfl) ?_
    refine wm_get hx hb hts wu_X5 hown hV hW (wlt_4 hky0) (wen_4 hky0) (C := RX5) (T := TX5) (N := 4) rfl 2 (by decide) (hts _ wA_117) rfl dX5_isWhole_9 ?_
    rcases wif_e hf with ⟨hq2, hf⟩ | ⟨hq2, hf⟩
    · refine lv_icmp_ge (tgt := 35) hx hb dX5_isWhole_12 (by decide) (fun _ => ?_) (fun h => absurd hq2 h)
      refine lv_iconst (v := 1) hx hb dX5_isWhole_35 rfl ?_
      have hres := Option.some.inj hf
      subst hres
      exact W.zret hx hb hr (wb_n true) (wr_q hG hV hZ hW hS) hS.2.2 dX5_isWhole_36
    · refine lv_icmp_ge (tgt := 35) hx hb dX5_isWhole_12 (by decide) (fun h => absurd h hq2) (fun _ => ?_)
      refine lv_aload_n hx hb dX5_isWhole_15 rfl (lv_at hl 0 rfl) ?_
      refine wm_get hx hb hts wu_X5 hown hV hW (wlt_4 hky0) (wen_4 hky0) (C := RX5) (T := TX5) (N := 4) rfl 0 (by decide) (hts _ wA_109) rfl dX5_isWhole_16 ?_
      refine lv_iload_n hx hb dX5_isWhole_19 rfl (lv_at hl 2 rfl) ?_
      obtain ⟨hi3, hf⟩ := wgi_e hf
      refine wm_aldL hx hb hV hW (wk4_1 hky0) hi3 dX5_isWhole_20 ?_
      obtain ⟨r5, hc4, hf⟩ := wbind_e hf
      refine wc_V (As := []) (rest := []) hx hb hml hown hts hG hV hZ (wlt_0 (wk22_i (wk4_1 hky0) hi3)) (q := (RX1, TX1, 5)) (wen_0 (wk22_i (wk4_1 hky0) hi3)) rfl (cX1_breaksRow_ok l E M ((ky0 + 1) + 2 + Int32.toNatClampNeg y3) (wk22_i (wk4_1 hky0) hi3) hc4) (cwV 0 hts gl_X5_78 rfl rfl rfl cdX1_breaksRow ⟨Nat.le_of_ble_eq_true rfl, Nat.le_of_ble_eq_true rfl⟩) rfl hl.1 rfl (Nat.le_of_ble_eq_true rfl) dX5_isWhole_21 ⟨Nat.zero_le _, Nat.zero_le _⟩ hW hS rfl (fun H locs hW hS => ?_)
      rcases wif_e hf with ⟨hq6, hf⟩ | ⟨hq6, hf⟩
      · refine lv_if_eq (tgt := 29) hx hb dX5_isWhole_24 (by decide) (fun _ => ?_) (fun h => absurd hq6 h)
        obtain ⟨x7, ex7, hf⟩ := wlet_e hf
        refine lv_iinc (v := x7) (lv' := [(3, .int x7), (0, .ref (wad E ky0)), (2, .int y2)]) hx hb dX5_isWhole_29 hl (k := 2) rfl (by rw [ex7]; rfl) (by decide) rfl (fun ls hl => ?_)
        refine lv_goto (tgt := 2) hx hb dX5_isWhole_32 (by decide) ?_
        exact hrec2 x7 hf _ _ _ hW hS (lv_sub hl [1, 2, 0] rfl)
      · refine lv_if_eq (tgt := 29) hx hb dX5_isWhole_24 (by decide) (fun h => absurd h hq6) (fun _ => ?_)
        refine lv_iconst (v := 0) hx hb dX5_isWhole_27 rfl ?_
        have hres := Option.some.inj hf
        subst hres
        exact W.zret hx hb hr (wb_n false) (wr_q hG hV hZ hW hS) hS.2.2 dX5_isWhole_28
set_option maxRecDepth 100000 in
set_option maxHeartbeats 4000000 in
theorem pX5_isWhole_2 (B : wB E p s m args meth c cX5_isWhole 4 RX5 (some .boolean)) {M : wMem} {ky0 : Nat} {y2 : Int32} {y3 : Int32}  {res : Bool} (hky0 : wkd ky0 = 4)  (hf : fX5_isWhole_2 M  ky0 y2 y3 = some res) {H : Heap} {locs : List Loc} {ls : Array Slot} (hW : wH E M H) (hS : va_S (wA E) s.heap H locs) (hl : lv_has ls 4 [(0, .ref (wad E ky0)), (2, .int y2), (3, .int y3)]) : W p l e ({ frames := 1, cells := 0, slots := 0, locals := 20 } : Room) s m args below meth c H locs 0 0 (MQ below (wQ E (some (.int (wb res))) M) args s 0 0 (wA E)) (F0 m 2 ls []) := by
  have key := wloop_W (b := (fun rec2 t => fX5_isWhole_2_b M  rec2 ky0 y2 t)) (P := fun t => ∀ (H : Heap) (locs : List Loc) (ls : Array Slot), wH E M H → va_S (wA E) s.heap H locs → lv_has ls 4 [(0, .ref (wad E ky0)), (2, .int y2), (3, .int t)] → W p l e ({ frames := 1, cells := 0, slots := 0, locals := 20 } : Room) s m args below meth c H locs 0 0 (MQ below (wQ E (some (.int (wb res))) M) args s 0 0 (wA E)) (F0 m 2 ls [])) (r := res) (fun rec hrec t hf H locs ls hW hS hl => pX5_isWhole_2_b B hky0  (fun v0 hf H locs ls hW hS hl => hrec (v0) hf H locs ls hW hS hl) hf hW hS hl)
  exact key wfuel (y3) hf H locs ls hW hS hl
set_option maxRecDepth 100000 in
set_option maxHeartbeats 4000000 in
theorem pX5_isWhole (B : wB E p s m args meth c cX5_isWhole 4 RX5 (some .boolean)) {M : wMem} {k0 : Nat} {a1 : Int32} {a2 : Int32} (hk0 : wkd k0 = 4) {res : Bool} (hf : fX5_isWhole M k0 a1 a2 = some res) {H : Heap} {locs : List Loc} {ls : Array Slot} (hW : wH E M H) (hS : va_S (wA E) s.heap H locs) (hl : lv_has ls 4 [(0, .ref (wad E k0)), (1, .int a1), (2, .int a2)]) : W p l e ({ frames := 1, cells := 0, slots := 0, locals := 20 } : Room) s m args below meth c H locs 0 0 (MQ below (wQ E (some (.int (wb res))) M) args s 0 0 (wA E)) (F0 m 0 ls []) := by
  unfold fX5_isWhole at hf
  obtain ⟨hx, hb, hr, hml, hown, hts, hlocks, hG, hV, hZ⟩ := id B
  refine lv_iload_n hx hb dX5_isWhole_0 rfl (lv_at hl 1 rfl) ?_
  refine lv_istore_n (lv' := [(3, .int a1), (0, .ref (wad E k0)), (1, .int a1), (2, .int a2)]) hx hb dX5_isWhole_1 rfl hl (by decide) rfl (fun ls hl => ?_)
  exact pX5_isWhole_2 B hk0  hf hW hS (lv_sub hl [1, 3, 0] rfl)
theorem cX5_isWhole_ok (l : Launch) (E : wE) (M : wMem) (k0 : Nat) (hk0 : wkd k0 = 4) (a1 : Int32) (a2 : Int32) {res : Bool} (hf : fX5_isWhole M k0 a1 a2 = some res) : wMet l yX5_isWhole (wsM yX5_isWhole cX5_isWhole 4 (some .boolean)) ({ frames := 1, cells := 0, slots := 0, locals := 20 } : Room) E M [.ref (wad E k0), .int a1, .int a2] (some (.int (wb res))) M :=
  wc_of (cc := cX5_isWhole) (maxL := 4) (ret := (some .boolean)) (by decide) (Nat.le_of_ble_eq_true rfl) (fun _ _ _ _ _ _ _ _ B hW hl => pX5_isWhole B hk0 hf hW va_S.rf hl)
end
theorem cdX5_allDrags : yX5_allDrags.cls = RX5 ∧ yX5_allDrags.cls ≠ "java/lang/invoke/MethodHandle" ∧ yX5_allDrags.cls ≠ "java/lang/invoke/VarHandle" ∧ (parseMethodDescriptor yX5_allDrags.desc).map (fun d => d.parameters.length) = some 0 := by decide +kernel
section
variable {p : Program} {l : Launch} {e : Env} {s : State} {m : MethodId} {args : Array Value} {below : List Frame} {meth : Method} {c : Code} {E : wE}
set_option maxRecDepth 100000 in
set_option maxHeartbeats 4000000 in
theorem pX5_allDrags_4_b (B : wB E p s m args meth c cX5_allDrags 3 RX5 (some .int)) {M : wMem} {ky0 : Nat} {y1 : Int32} {y2 : Int32}  {rec4 : (Int32 × Int32 → Option (Int32))} {res : Int32} (hky0 : wkd ky0 = 4)  (hrec4 : ∀ (y1' : Int32) (y2' : Int32), rec4 (y1', y2') = some res → ∀ (H : Heap) (locs : List Loc) (ls : Array Slot), wH E M H → va_S (wA E) s.heap H locs → lv_has ls 3 [(0, .ref (wad E ky0)), (1, .int y1'), (2, .int y2')] → W p l e ({ frames := 1, cells := 0, slots := 0, locals := 20 } : Room) s m args below meth c H locs 0 0 (MQ below (wQ E (some (.int res)) M) args s 0 0 (wA E)) (F0 m 4 ls [])) (hf : fX5_allDrags_4_b M  rec4 ky0 y1 y2 = some res) {H : Heap} {locs : List Loc} {ls : Array Slot} (hW : wH E M H) (hS : va_S (wA E) s.heap H locs) (hl : lv_has ls 3 [(0, .ref (wad E ky0)), (1, .int y1), (2, .int y2)]) : W p l e ({ frames := 1, cells := 0, slots := 0, locals := 20 } : Room) s m args below meth c H locs 0 0 (MQ below (wQ E (some (.int res)) M) args s 0 0 (wA E)) (F0 m 4 ls []) := by
  unfold fX5_allDrags_4_b at hf
  obtain ⟨hx, hb, hr, hml, hown, hts, hlocks, hG, hV, hZ⟩ := id B
  refine lv_iload_n hx hb dX5_allDrags_4 rfl (lv_at hl 2 rfl) ?_
  refine lv_aload_n hx hb dX5_allDrags_5 rfl (lv_at hl 0 rfl) ?_
  refine wm_get hx hb hts wu_X5 hown hV hW (wlt_4 hky0) (wen_4 hky0) (C := RX5) (T := TX5) (N := 4) rfl 2 (by decide) (hts _ wA_117) rfl dX5_allDrags_6 ?_
  rcases wif_e hf with ⟨hq1, hf⟩ | ⟨hq1, hf⟩
  · refine lv_icmp_ge (tgt := 30) hx hb dX5_allDrags_9 (by decide) (fun _ => ?_) (fun h => absurd hq1 h)
    refine lv_iload_n hx hb dX5_allDrags_30 rfl (lv_at hl 1 rfl) ?_
    have hres := Option.some.inj hf
    subst hres
    exact W.iret hx hb hr (wr_q hG hV hZ hW hS) hS.2.2 dX5_allDrags_31
  · refine lv_icmp_ge (tgt := 30) hx hb dX5_allDrags_9 (by decide) (fun h => absurd h hq1) (fun _ => ?_)
    refine lv_iload_n hx hb dX5_allDrags_12 rfl (lv_at hl 1 rfl) ?_
    refine lv_aload_n hx hb dX5_allDrags_13 rfl (lv_at hl 0 rfl) ?_
    refine wm_get hx hb hts wu_X5 hown hV hW (wlt_4 hky0) (wen_4 hky0) (C := RX5) (T := TX5) (N := 4) rfl 0 (by decide) (hts _ wA_109) rfl dX5_allDrags_14 ?_
    refine lv_iload_n hx hb dX5_allDrags_17 rfl (lv_at hl 2 rfl) ?_
    obtain ⟨hi2, hf⟩ := wgi_e hf
    refine wm_aldL hx hb hV hW (wk4_1 hky0) hi2 dX5_allDrags_18 ?_
    obtain ⟨r4, hc3, hf⟩ := wbind_e hf
    refine wc_V (As := []) (rest := [.int y1]) hx hb hml hown hts hG hV hZ (wlt_0 (wk22_i (wk4_1 hky0) hi2)) (q := (RX1, TX1, 5)) (wen_0 (wk22_i (wk4_1 hky0) hi2)) rfl (cX1_drag_ok l E M ((ky0 + 1) + 2 + Int32.toNatClampNeg y2) (wk22_i (wk4_1 hky0) hi2) hc3) (cwV 0 hts gl_X5_82 rfl rfl rfl cdX1_drag ⟨Nat.le_of_ble_eq_true rfl, Nat.le_of_ble_eq_true rfl⟩) rfl hl.1 rfl (Nat.le_of_ble_eq_true rfl) dX5_allDrags_19 ⟨Nat.zero_le _, Nat.zero_le _⟩ hW hS rfl (fun H locs hW hS => ?_)
    refine lv_iadd hx hb dX5_allDrags_22 ?_
    refine lv_topi (fun x5 ex5 => ?_)
    replace hf := wlet_y ex5 hf
    refine lv_istore_n (lv' := [(1, .int x5), (0, .ref (wad E ky0)), (2, .int y2)]) hx hb dX5_allDrags_23 rfl hl (by decide) rfl (fun ls hl => ?_)
    obtain ⟨x6, ex6, hf⟩ := wlet_e hf
    refine lv_iinc (v := x6) (lv' := [(2, .int x6), (1, .int x5), (0, .ref (wad E ky0))]) hx hb dX5_allDrags_24 hl (k := 2) rfl (by rw [ex6]; rfl) (by decide) rfl (fun ls hl => ?_)
    refine lv_goto (tgt := 4) hx hb dX5_allDrags_27 (by decide) ?_
    exact hrec4 x5 x6 hf _ _ _ hW hS (lv_sub hl [2, 1, 0] rfl)
set_option maxRecDepth 100000 in
set_option maxHeartbeats 4000000 in
theorem pX5_allDrags_4 (B : wB E p s m args meth c cX5_allDrags 3 RX5 (some .int)) {M : wMem} {ky0 : Nat} {y1 : Int32} {y2 : Int32}  {res : Int32} (hky0 : wkd ky0 = 4)  (hf : fX5_allDrags_4 M  ky0 y1 y2 = some res) {H : Heap} {locs : List Loc} {ls : Array Slot} (hW : wH E M H) (hS : va_S (wA E) s.heap H locs) (hl : lv_has ls 3 [(0, .ref (wad E ky0)), (1, .int y1), (2, .int y2)]) : W p l e ({ frames := 1, cells := 0, slots := 0, locals := 20 } : Room) s m args below meth c H locs 0 0 (MQ below (wQ E (some (.int res)) M) args s 0 0 (wA E)) (F0 m 4 ls []) := by
  have key := wloop_W (b := (fun rec4 t => fX5_allDrags_4_b M  rec4 ky0 t.1 t.2)) (P := fun t => ∀ (H : Heap) (locs : List Loc) (ls : Array Slot), wH E M H → va_S (wA E) s.heap H locs → lv_has ls 3 [(0, .ref (wad E ky0)), (1, .int t.1), (2, .int t.2)] → W p l e ({ frames := 1, cells := 0, slots := 0, locals := 20 } : Room) s m args below meth c H locs 0 0 (MQ below (wQ E (some (.int res)) M) args s 0 0 (wA E)) (F0 m 4 ls [])) (r := res) (fun rec hrec t hf H locs ls hW hS hl => pX5_allDrags_4_b B hky0  (fun v0 v1 hf H locs ls hW hS hl => hrec (v0, v1) hf H locs ls hW hS hl) hf hW hS hl)
  exact key wfuel (y1, y2) hf H locs ls hW hS hl
set_option maxRecDepth 100000 in
set_option maxHeartbeats 4000000 in
theorem pX5_allDrags (B : wB E p s m args meth c cX5_allDrags 3 RX5 (some .int)) {M : wMem} {k0 : Nat} (hk0 : wkd k0 = 4) {res : Int32} (hf : fX5_allDrags M k0 = some res) {H : Heap} {locs : List Loc} {ls : Array Slot} (hW : wH E M H) (hS : va_S (wA E) s.heap H locs) (hl : lv_has ls 3 [(0, .ref (wad E k0))]) : W p l e ({ frames := 1, cells := 0, slots := 0, locals := 20 } : Room) s m args below meth c H locs 0 0 (MQ below (wQ E (some (.int res)) M) args s 0 0 (wA E)) (F0 m 0 ls []) := by
  unfold fX5_allDrags at hf
  obtain ⟨hx, hb, hr, hml, hown, hts, hlocks, hG, hV, hZ⟩ := id B
  refine lv_iconst (v := 0) hx hb dX5_allDrags_0 rfl ?_
  refine lv_istore_n (lv' := [(1, .int 0), (0, .ref (wad E k0))]) hx hb dX5_allDrags_1 rfl hl (by decide) rfl (fun ls hl => ?_)
  refine lv_iconst (v := 0) hx hb dX5_allDrags_2 rfl ?_
  refine lv_istore_n (lv' := [(2, .int 0), (1, .int 0), (0, .ref (wad E k0))]) hx hb dX5_allDrags_3 rfl hl (by decide) rfl (fun ls hl => ?_)
  exact pX5_allDrags_4 B hk0  hf hW hS (lv_sub hl [2, 1, 0] rfl)
theorem cX5_allDrags_ok (l : Launch) (E : wE) (M : wMem) (k0 : Nat) (hk0 : wkd k0 = 4) {res : Int32} (hf : fX5_allDrags M k0 = some res) : wMet l yX5_allDrags (wsM yX5_allDrags cX5_allDrags 3 (some .int)) ({ frames := 1, cells := 0, slots := 0, locals := 20 } : Room) E M [.ref (wad E k0)] (some (.int res)) M :=
  wc_of (cc := cX5_allDrags) (maxL := 3) (ret := (some .int)) (by decide) (Nat.le_of_ble_eq_true rfl) (fun _ _ _ _ _ _ _ _ B hW hl => pX5_allDrags B hk0 hf hW va_S.rf hl)
end
theorem cdX5_isLive : yX5_isLive.cls = RX5 ∧ yX5_isLive.cls ≠ "java/lang/invoke/MethodHandle" ∧ yX5_isLive.cls ≠ "java/lang/invoke/VarHandle" ∧ (parseMethodDescriptor yX5_isLive.desc).map (fun d => d.parameters.length) = some 0 := by decide +kernel
section
variable {p : Program} {l : Launch} {e : Env} {s : State} {m : MethodId} {args : Array Value} {below : List Frame} {meth : Method} {c : Code} {E : wE}
set_option maxRecDepth 100000 in
set_option maxHeartbeats 4000000 in
theorem pX5_isLive (B : wB E p s m args meth c cX5_isLive 1 RX5 (some .boolean)) {M : wMem} {k0 : Nat} (hk0 : wkd k0 = 4) {res : Bool} (hf : fX5_isLive M k0 = some res) {H : Heap} {locs : List Loc} {ls : Array Slot} (hW : wH E M H) (hS : va_S (wA E) s.heap H locs) (hl : lv_has ls 1 [(0, .ref (wad E k0))]) : W p l e ({ frames := 2, cells := 0, slots := 0, locals := 43 } : Room) s m args below meth c H locs 0 0 (MQ below (wQ E (some (.int (wb res))) M) args s 0 0 (wA E)) (F0 m 0 ls []) := by
  unfold fX5_isLive at hf
  obtain ⟨hx, hb, hr, hml, hown, hts, hlocks, hG, hV, hZ⟩ := id B
  refine lv_aload_n hx hb dX5_isLive_0 rfl (lv_at hl 0 rfl) ?_
  refine lv_iconst (v := 0) hx hb dX5_isLive_1 rfl ?_
  refine lv_aload_n hx hb dX5_isLive_2 rfl (lv_at hl 0 rfl) ?_
  refine wm_get hx hb hts wu_X5 hown hV hW (wlt_4 hk0) (wen_4 hk0) (C := RX5) (T := TX5) (N := 4) rfl 2 (by decide) (hts _ wA_117) rfl dX5_isLive_3 ?_
  refine lv_iconst (v := 1) hx hb dX5_isLive_6 rfl ?_
  refine lv_isub hx hb dX5_isLive_7 ?_
  obtain ⟨r2, hc1, hf⟩ := wbind_e hf
  refine wc_V (As := [.int 0, .int ((M k0 2) - 1)]) (rest := []) hx hb hml hown hts hG hV hZ (wlt_4 hk0) (q := (RX5, TX5, 4)) (wen_4 hk0) rfl (cX5_isWhole_ok l E M k0 hk0 0 ((M k0 2) - 1) hc1) (cwV 2 hts gl_X5_86 rfl rfl rfl cdX5_isWhole ⟨Nat.le_of_ble_eq_true rfl, Nat.le_of_ble_eq_true rfl⟩) rfl hl.1 rfl (Nat.le_of_ble_eq_true rfl) dX5_isLive_8 ⟨Nat.zero_le _, Nat.zero_le _⟩ hW hS rfl (fun H locs hW hS => ?_)
  rcases wif_e hf with ⟨hq3, hf⟩ | ⟨hq3, hf⟩
  · refine lv_if_eq (tgt := 25) hx hb dX5_isLive_11 (by decide) (fun _ => ?_) (fun h => absurd hq3 h)
    refine lv_iconst (v := 0) hx hb dX5_isLive_25 rfl ?_
    have hres := Option.some.inj hf
    subst hres
    exact W.zret hx hb hr (wb_n false) (wr_q hG hV hZ hW hS) hS.2.2 dX5_isLive_26
  · refine lv_if_eq (tgt := 25) hx hb dX5_isLive_11 (by decide) (fun h => absurd h hq3) (fun _ => ?_)
    refine lv_aload_n hx hb dX5_isLive_14 rfl (lv_at hl 0 rfl) ?_
    obtain ⟨r5, hc4, hf⟩ := wbind_e hf
    refine wc_V (As := []) (rest := []) hx hb hml hown hts hG hV hZ (wlt_4 hk0) (q := (RX5, TX5, 4)) (wen_4 hk0) rfl (cX5_allDrags_ok l E M k0 hk0 hc4) (cwV 0 hts gl_X5_89 rfl rfl rfl cdX5_allDrags ⟨Nat.le_of_ble_eq_true rfl, Nat.le_of_ble_eq_true rfl⟩) rfl hl.1 rfl (Nat.le_of_ble_eq_true rfl) dX5_isLive_15 ⟨Nat.zero_le _, Nat.zero_le _⟩ hW hS rfl (fun H locs hW hS => ?_)
    rcases wif_e hf with ⟨hq6, hf⟩ | ⟨hq6, hf⟩
    · refine lv_if_le (tgt := 25) hx hb dX5_isLive_18 (by decide) (fun _ => ?_) (fun h => absurd hq6 h)
      refine lv_iconst (v := 0) hx hb dX5_isLive_25 rfl ?_
      have hres := Option.some.inj hf
      subst hres
      exact W.zret hx hb hr (wb_n false) (wr_q hG hV hZ hW hS) hS.2.2 dX5_isLive_26
    · refine lv_if_le (tgt := 25) hx hb dX5_isLive_18 (by decide) (fun h => absurd h hq6) (fun _ => ?_)
      refine lv_iconst (v := 1) hx hb dX5_isLive_21 rfl ?_
      refine lv_goto (tgt := 26) hx hb dX5_isLive_22 (by decide) ?_
      have hres := Option.some.inj hf
      subst hres
      exact W.zret hx hb hr (wb_n true) (wr_q hG hV hZ hW hS) hS.2.2 dX5_isLive_26
theorem cX5_isLive_ok (l : Launch) (E : wE) (M : wMem) (k0 : Nat) (hk0 : wkd k0 = 4) {res : Bool} (hf : fX5_isLive M k0 = some res) : wMet l yX5_isLive (wsM yX5_isLive cX5_isLive 1 (some .boolean)) ({ frames := 2, cells := 0, slots := 0, locals := 43 } : Room) E M [.ref (wad E k0)] (some (.int (wb res))) M :=
  wc_of (cc := cX5_isLive) (maxL := 1) (ret := (some .boolean)) (by decide) (Nat.le_of_ble_eq_true rfl) (fun _ _ _ _ _ _ _ _ B hW hl => pX5_isLive B hk0 hf hW va_S.rf hl)
end
theorem cdX5_flowThrough : yX5_flowThrough.cls = RX5 ∧ yX5_flowThrough.cls ≠ "java/lang/invoke/MethodHandle" ∧ yX5_flowThrough.cls ≠ "java/lang/invoke/VarHandle" ∧ (parseMethodDescriptor yX5_flowThrough.desc).map (fun d => d.parameters.length) = some 1 := by decide +kernel
section
variable {p : Program} {l : Launch} {e : Env} {s : State} {m : MethodId} {args : Array Value} {below : List Frame} {meth : Method} {c : Code} {E : wE}
set_option maxRecDepth 100000 in
set_option maxHeartbeats 4000000 in
theorem pX5_flowThrough (B : wB E p s m args meth c cX5_flowThrough 2 RX5 (some .int)) {M : wMem} {k0 : Nat} {a1 : Int32} (hk0 : wkd k0 = 4) {res : Int32} (hf : fX5_flowThrough M k0 a1 = some res) {H : Heap} {locs : List Loc} {ls : Array Slot} (hW : wH E M H) (hS : va_S (wA E) s.heap H locs) (hl : lv_has ls 2 [(0, .ref (wad E k0)), (1, .int a1)]) : W p l e ({ frames := 1, cells := 0, slots := 0, locals := 21 } : Room) s m args below meth c H locs 0 0 (MQ below (wQ E (some (.int res)) M) args s 0 0 (wA E)) (F0 m 0 ls []) := by
  unfold fX5_flowThrough at hf
  obtain ⟨hx, hb, hr, hml, hown, hts, hlocks, hG, hV, hZ⟩ := id B
  refine lv_iload_n hx hb dX5_flowThrough_0 rfl (lv_at hl 1 rfl) ?_
  rcases wif_e hf with ⟨hq1, hf⟩ | ⟨hq1, hf⟩
  · refine lv_if_gt (tgt := 8) hx hb dX5_flowThrough_1 (by decide) (fun _ => ?_) (fun h => absurd hq1 h)
    refine lv_sipush (v := 9999) hx hb dX5_flowThrough_8 (by decide) ?_
    refine lv_bipush (v := 100) hx hb dX5_flowThrough_11 (by decide) ?_
    refine lv_aload_n hx hb dX5_flowThrough_13 rfl (lv_at hl 0 rfl) ?_
    refine wm_get hx hb hts wu_X5 hown hV hW (wlt_4 hk0) (wen_4 hk0) (C := RX5) (T := TX5) (N := 4) rfl 1 (by decide) (hts _ wA_115) rfl dX5_flowThrough_14 ?_
    refine lv_iconst (v := 0) hx hb dX5_flowThrough_17 rfl ?_
    obtain ⟨hi2, hf⟩ := wgi_e hf
    refine wm_iald hx hb hV hW (wk4_2 hk0) (n := 4) (wl4_2 hk0) hi2 dX5_flowThrough_18 ?_
    refine lv_imul hx hb dX5_flowThrough_19 ?_
    refine lv_iload_n hx hb dX5_flowThrough_20 rfl (lv_at hl 1 rfl) ?_
    obtain ⟨hz3, hf⟩ := wgz_e hf
    refine lv_idiv hx hb dX5_flowThrough_21 hz3 ?_
    refine va_mmin hx hb (hml.trans hl.1.symm) hown (hts _ wA_384) (hts _ wA_385) (hts _ wA_60) (hts _ wA_386) (Nat.le_of_ble_eq_true rfl) (Nat.le_of_ble_eq_true rfl) (Nat.le_refl 0) (Nat.le_refl 0) dX5_flowThrough_22 ?_
    have hres := Option.some.inj hf
    subst hres
    exact W.iret hx hb hr (wr_q hG hV hZ hW hS) hS.2.2 dX5_flowThrough_25
  · refine lv_if_gt (tgt := 8) hx hb dX5_flowThrough_1 (by decide) (fun h => absurd h hq1) (fun _ => ?_)
    refine lv_iconst (v := 0) hx hb dX5_flowThrough_4 rfl ?_
    refine lv_goto (tgt := 25) hx hb dX5_flowThrough_5 (by decide) ?_
    have hres := Option.some.inj hf
    subst hres
    exact W.iret hx hb hr (wr_q hG hV hZ hW hS) hS.2.2 dX5_flowThrough_25
theorem cX5_flowThrough_ok (l : Launch) (E : wE) (M : wMem) (k0 : Nat) (hk0 : wkd k0 = 4) (a1 : Int32) {res : Int32} (hf : fX5_flowThrough M k0 a1 = some res) : wMet l yX5_flowThrough (wsM yX5_flowThrough cX5_flowThrough 2 (some .int)) ({ frames := 1, cells := 0, slots := 0, locals := 21 } : Room) E M [.ref (wad E k0), .int a1] (some (.int res)) M :=
  wc_of (cc := cX5_flowThrough) (maxL := 2) (ret := (some .int)) (by decide) (Nat.le_of_ble_eq_true rfl) (fun _ _ _ _ _ _ _ _ B hW hl => pX5_flowThrough B hk0 hf hW va_S.rf hl)
end
theorem cdX5_flowNow : yX5_flowNow.cls = RX5 ∧ yX5_flowNow.cls ≠ "java/lang/invoke/MethodHandle" ∧ yX5_flowNow.cls ≠ "java/lang/invoke/VarHandle" ∧ (parseMethodDescriptor yX5_flowNow.desc).map (fun d => d.parameters.length) = some 0 := by decide +kernel
section
variable {p : Program} {l : Launch} {e : Env} {s : State} {m : MethodId} {args : Array Value} {below : List Frame} {meth : Method} {c : Code} {E : wE}
set_option maxRecDepth 100000 in
set_option maxHeartbeats 4000000 in
theorem pX5_flowNow (B : wB E p s m args meth c cX5_flowNow 1 RX5 (some .int)) {M : wMem} {k0 : Nat} (hk0 : wkd k0 = 4) {res : Int32} (hf : fX5_flowNow M k0 = some res) {H : Heap} {locs : List Loc} {ls : Array Slot} (hW : wH E M H) (hS : va_S (wA E) s.heap H locs) (hl : lv_has ls 1 [(0, .ref (wad E k0))]) : W p l e ({ frames := 3, cells := 0, slots := 0, locals := 63 } : Room) s m args below meth c H locs 0 0 (MQ below (wQ E (some (.int res)) M) args s 0 0 (wA E)) (F0 m 0 ls []) := by
  unfold fX5_flowNow at hf
  obtain ⟨hx, hb, hr, hml, hown, hts, hlocks, hG, hV, hZ⟩ := id B
  refine lv_aload_n hx hb dX5_flowNow_0 rfl (lv_at hl 0 rfl) ?_
  obtain ⟨r2, hc1, hf⟩ := wbind_e hf
  refine wc_V (As := []) (rest := []) hx hb hml hown hts hG hV hZ (wlt_4 hk0) (q := (RX5, TX5, 4)) (wen_4 hk0) rfl (cX5_isLive_ok l E M k0 hk0 hc1) (cwV 0 hts gl_X5_92 rfl rfl rfl cdX5_isLive ⟨Nat.le_of_ble_eq_true rfl, Nat.le_of_ble_eq_true rfl⟩) rfl hl.1 rfl (Nat.le_of_ble_eq_true rfl) dX5_flowNow_1 ⟨Nat.zero_le _, Nat.zero_le _⟩ hW hS rfl (fun H locs hW hS => ?_)
  rcases wif_e hf with ⟨hq3, hf⟩ | ⟨hq3, hf⟩
  · refine lv_if_eq (tgt := 18) hx hb dX5_flowNow_4 (by decide) (fun _ => ?_) (fun h => absurd hq3 h)
    refine lv_iconst (v := 0) hx hb dX5_flowNow_18 rfl ?_
    have hres := Option.some.inj hf
    subst hres
    exact W.iret hx hb hr (wr_q hG hV hZ hW hS) hS.2.2 dX5_flowNow_19
  · refine lv_if_eq (tgt := 18) hx hb dX5_flowNow_4 (by decide) (fun h => absurd h hq3) (fun _ => ?_)
    refine lv_aload_n hx hb dX5_flowNow_7 rfl (lv_at hl 0 rfl) ?_
    refine lv_aload_n hx hb dX5_flowNow_8 rfl (lv_at hl 0 rfl) ?_
    obtain ⟨r5, hc4, hf⟩ := wbind_e hf
    refine wc_V (As := []) (rest := [.ref (wad E k0)]) hx hb hml hown hts hG hV hZ (wlt_4 hk0) (q := (RX5, TX5, 4)) (wen_4 hk0) rfl (cX5_allDrags_ok l E M k0 hk0 hc4) (cwV 0 hts gl_X5_89 rfl rfl rfl cdX5_allDrags ⟨Nat.le_of_ble_eq_true rfl, Nat.le_of_ble_eq_true rfl⟩) rfl hl.1 rfl (Nat.le_of_ble_eq_true rfl) dX5_flowNow_9 ⟨Nat.zero_le _, Nat.zero_le _⟩ hW hS rfl (fun H locs hW hS => ?_)
    obtain ⟨r7, hc6, hf⟩ := wbind_e hf
    refine wc_V (As := [.int r5]) (rest := []) hx hb hml hown hts hG hV hZ (wlt_4 hk0) (q := (RX5, TX5, 4)) (wen_4 hk0) rfl (cX5_flowThrough_ok l E M k0 hk0 r5 hc6) (cwV 1 hts gl_X5_95 rfl rfl rfl cdX5_flowThrough ⟨Nat.le_of_ble_eq_true rfl, Nat.le_of_ble_eq_true rfl⟩) rfl hl.1 rfl (Nat.le_of_ble_eq_true rfl) dX5_flowNow_12 ⟨Nat.zero_le _, Nat.zero_le _⟩ hW hS rfl (fun H locs hW hS => ?_)
    refine lv_goto (tgt := 19) hx hb dX5_flowNow_15 (by decide) ?_
    have hres := Option.some.inj hf
    subst hres
    exact W.iret hx hb hr (wr_q hG hV hZ hW hS) hS.2.2 dX5_flowNow_19
theorem cX5_flowNow_ok (l : Launch) (E : wE) (M : wMem) (k0 : Nat) (hk0 : wkd k0 = 4) {res : Int32} (hf : fX5_flowNow M k0 = some res) : wMet l yX5_flowNow (wsM yX5_flowNow cX5_flowNow 1 (some .int)) ({ frames := 3, cells := 0, slots := 0, locals := 63 } : Room) E M [.ref (wad E k0)] (some (.int res)) M :=
  wc_of (cc := cX5_flowNow) (maxL := 1) (ret := (some .int)) (by decide) (Nat.le_of_ble_eq_true rfl) (fun _ _ _ _ _ _ _ _ B hW hl => pX5_flowNow B hk0 hf hW va_S.rf hl)
end
theorem cdX1_isWell : yX1_isWell.cls = RX1 ∧ yX1_isWell.cls ≠ "java/lang/invoke/MethodHandle" ∧ yX1_isWell.cls ≠ "java/lang/invoke/VarHandle" ∧ (parseMethodDescriptor yX1_isWell.desc).map (fun d => d.parameters.length) = some 0 := by decide +kernel
section
variable {p : Program} {l : Launch} {e : Env} {s : State} {m : MethodId} {args : Array Value} {below : List Frame} {meth : Method} {c : Code} {E : wE}
set_option maxRecDepth 100000 in
set_option maxHeartbeats 4000000 in
theorem pX1_isWell (B : wB E p s m args meth c cX1_isWell 1 RX1 (some .boolean)) {M : wMem} {k0 : Nat} (hk0 : wkd k0 = 0) {res : Bool} (hf : fX1_isWell M k0 = some res) {H : Heap} {locs : List Loc} {ls : Array Slot} (hW : wH E M H) (hS : va_S (wA E) s.heap H locs) (hl : lv_has ls 1 [(0, .ref (wad E k0))]) : W p l e ({ frames := 0, cells := 0, slots := 0, locals := 0 } : Room) s m args below meth c H locs 0 0 (MQ below (wQ E (some (.int (wb res))) M) args s 0 0 (wA E)) (F0 m 0 ls []) := by
  unfold fX1_isWell at hf
  obtain ⟨hx, hb, hr, hml, hown, hts, hlocks, hG, hV, hZ⟩ := id B
  refine lv_aload_n hx hb dX1_isWell_0 rfl (lv_at hl 0 rfl) ?_
  refine wm_get hx hb hts wu_X1 hown hV hW (wlt_0 hk0) (wen_0 hk0) (C := RX1) (T := TX1) (N := 5) rfl 4 (by decide) (hts _ wA_94) rfl dX1_isWell_1 ?_
  rcases wif_e hf with ⟨hq1, hf⟩ | ⟨hq1, hf⟩
  · refine lv_if_ne (tgt := 11) hx hb dX1_isWell_4 (by decide) (fun h => absurd hq1 h) (fun _ => ?_)
    refine lv_iconst (v := 1) hx hb dX1_isWell_7 rfl ?_
    refine lv_goto (tgt := 12) hx hb dX1_isWell_8 (by decide) ?_
    have hres := Option.some.inj hf
    subst hres
    exact W.zret hx hb hr (wb_n true) (wr_q hG hV hZ hW hS) hS.2.2 dX1_isWell_12
  · refine lv_if_ne (tgt := 11) hx hb dX1_isWell_4 (by decide) (fun _ => ?_) (fun h => absurd h hq1)
    refine lv_iconst (v := 0) hx hb dX1_isWell_11 rfl ?_
    have hres := Option.some.inj hf
    subst hres
    exact W.zret hx hb hr (wb_n false) (wr_q hG hV hZ hW hS) hS.2.2 dX1_isWell_12
theorem cX1_isWell_ok (l : Launch) (E : wE) (M : wMem) (k0 : Nat) (hk0 : wkd k0 = 0) {res : Bool} (hf : fX1_isWell M k0 = some res) : wMet l yX1_isWell (wsM yX1_isWell cX1_isWell 1 (some .boolean)) ({ frames := 0, cells := 0, slots := 0, locals := 0 } : Room) E M [.ref (wad E k0)] (some (.int (wb res))) M :=
  wc_of (cc := cX1_isWell) (maxL := 1) (ret := (some .boolean)) (by decide) (Nat.le_of_ble_eq_true rfl) (fun _ _ _ _ _ _ _ _ B hW hl => pX1_isWell B hk0 hf hW va_S.rf hl)
end
theorem cdX1_brightAt : yX1_brightAt.cls = RX1 ∧ yX1_brightAt.cls ≠ "java/lang/invoke/MethodHandle" ∧ yX1_brightAt.cls ≠ "java/lang/invoke/VarHandle" ∧ (parseMethodDescriptor yX1_brightAt.desc).map (fun d => d.parameters.length) = some 1 := by decide +kernel
section
variable {p : Program} {l : Launch} {e : Env} {s : State} {m : MethodId} {args : Array Value} {below : List Frame} {meth : Method} {c : Code} {E : wE}
set_option maxRecDepth 100000 in
set_option maxHeartbeats 4000000 in
theorem pX1_brightAt (B : wB E p s m args meth c cX1_brightAt 2 RX1 (some .int)) {M : wMem} {k0 : Nat} {a1 : Int32} (hk0 : wkd k0 = 0) {res : Int32} (hf : fX1_brightAt M k0 a1 = some res) {H : Heap} {locs : List Loc} {ls : Array Slot} (hW : wH E M H) (hS : va_S (wA E) s.heap H locs) (hl : lv_has ls 2 [(0, .ref (wad E k0)), (1, .int a1)]) : W p l e ({ frames := 1, cells := 0, slots := 0, locals := 20 } : Room) s m args below meth c H locs 0 0 (MQ below (wQ E (some (.int res)) M) args s 0 0 (wA E)) (F0 m 0 ls []) := by
  unfold fX1_brightAt at hf
  obtain ⟨hx, hb, hr, hml, hown, hts, hlocks, hG, hV, hZ⟩ := id B
  refine lv_aload_n hx hb dX1_brightAt_0 rfl (lv_at hl 0 rfl) ?_
  obtain ⟨r2, hc1, hf⟩ := wbind_e hf
  refine wc_V (As := []) (rest := []) hx hb hml hown hts hG hV hZ (wlt_0 hk0) (q := (RX1, TX1, 5)) (wen_0 hk0) rfl (cX1_isWell_ok l E M k0 hk0 hc1) (cwV 0 hts gl_X1_30 rfl rfl rfl cdX1_isWell ⟨Nat.le_of_ble_eq_true rfl, Nat.le_of_ble_eq_true rfl⟩) rfl hl.1 rfl (Nat.le_of_ble_eq_true rfl) dX1_brightAt_1 ⟨Nat.zero_le _, Nat.zero_le _⟩ hW hS rfl (fun H locs hW hS => ?_)
  rcases wif_e hf with ⟨hq3, hf⟩ | ⟨hq3, hf⟩
  · refine lv_if_eq (tgt := 19) hx hb dX1_brightAt_4 (by decide) (fun _ => ?_) (fun h => absurd hq3 h)
    refine lv_iconst (v := 0) hx hb dX1_brightAt_19 rfl ?_
    have hres := Option.some.inj hf
    subst hres
    exact W.iret hx hb hr (wr_q hG hV hZ hW hS) hS.2.2 dX1_brightAt_20
  · refine lv_if_eq (tgt := 19) hx hb dX1_brightAt_4 (by decide) (fun h => absurd h hq3) (fun _ => ?_)
    refine lv_iload_n hx hb dX1_brightAt_7 rfl (lv_at hl 1 rfl) ?_
    refine lv_aload_n hx hb dX1_brightAt_8 rfl (lv_at hl 0 rfl) ?_
    obtain ⟨r5, hc4, hf⟩ := wbind_e hf
    refine wc_V (As := []) (rest := [.int a1]) hx hb hml hown hts hG hV hZ (wlt_0 hk0) (q := (RX1, TX1, 5)) (wen_0 hk0) rfl (cX1_drag_ok l E M k0 hk0 hc4) (cwV 0 hts gl_X1_34 rfl rfl rfl cdX1_drag ⟨Nat.le_of_ble_eq_true rfl, Nat.le_of_ble_eq_true rfl⟩) rfl hl.1 rfl (Nat.le_of_ble_eq_true rfl) dX1_brightAt_9 ⟨Nat.zero_le _, Nat.zero_le _⟩ hW hS rfl (fun H locs hW hS => ?_)
    refine lv_imul hx hb dX1_brightAt_12 ?_
    refine lv_bipush (v := 100) hx hb dX1_brightAt_13 (by decide) ?_
    obtain ⟨hz6, hf⟩ := wgz_e hf
    refine lv_idiv hx hb dX1_brightAt_15 hz6 ?_
    refine lv_goto (tgt := 20) hx hb dX1_brightAt_16 (by decide) ?_
    have hres := Option.some.inj hf
    subst hres
    exact W.iret hx hb hr (wr_q hG hV hZ hW hS) hS.2.2 dX1_brightAt_20
theorem cX1_brightAt_ok (l : Launch) (E : wE) (M : wMem) (k0 : Nat) (hk0 : wkd k0 = 0) (a1 : Int32) {res : Int32} (hf : fX1_brightAt M k0 a1 = some res) : wMet l yX1_brightAt (wsM yX1_brightAt cX1_brightAt 2 (some .int)) ({ frames := 1, cells := 0, slots := 0, locals := 20 } : Room) E M [.ref (wad E k0), .int a1] (some (.int res)) M :=
  wc_of (cc := cX1_brightAt) (maxL := 2) (ret := (some .int)) (by decide) (Nat.le_of_ble_eq_true rfl) (fun _ _ _ _ _ _ _ _ B hW hl => pX1_brightAt B hk0 hf hW va_S.rf hl)
end
