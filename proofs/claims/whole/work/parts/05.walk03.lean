theorem cdX9_look : yX9_look.cls = RX9 ∧ yX9_look.cls ≠ "java/lang/invoke/MethodHandle" ∧ yX9_look.cls ≠ "java/lang/invoke/VarHandle" ∧ (parseMethodDescriptor yX9_look.desc).map (fun d => d.parameters.length) = some 3 := by decide +kernel
section
variable {p : Program} {l : Launch} {e : Env} {s : State} {m : MethodId} {args : Array Value} {below : List Frame} {meth : Method} {c : Code} {E : wE}
set_option maxRecDepth 100000 in
set_option maxHeartbeats 4000000 in
theorem pX9_look_34 (B : wB E p s m args meth c cX9_look 4 RX9 (some .int)) {M : wMem} {y1 : Int32} {y2 : Int32} {y3 : Int32}  {res : Int32 × wMem}   (hf : fX9_look_34 M  y1 y2 y3 = some res) {H : Heap} {locs : List Loc} {ls : Array Slot} (hW : wH E M H) (hS : va_S (wA E) s.heap H locs) (hl : lv_has ls 4 [(0, .ref (wad E 0)), (1, .int y1), (2, .int y2), (3, .int y3)]) : W p l e ({ frames := 7, cells := 0, slots := 0, locals := 169 } : Room) s m args below meth c H locs 0 0 (MQ below (wQ E (some (.int res.1)) res.2) args s 0 0 (wA E)) (F0 m 34 ls []) := by
  unfold fX9_look_34 at hf
  obtain ⟨hx, hb, hr, hml, hown, hts, hlocks, hG, hV, hZ⟩ := id B
  refine lv_aload_n hx hb dX9_look_34 rfl (lv_at hl 0 rfl) ?_
  refine wm_get hx hb hts wu_X9 hown hV hW (wlt_8 (rfl : wkd 0 = 8)) (wen_8 (rfl : wkd 0 = 8)) (C := RX9) (T := TX9) (N := 10) rfl 6 (by decide) (hts _ wA_237) rfl dX9_look_35 ?_
  refine lv_aload_n hx hb dX9_look_38 rfl (lv_at hl 0 rfl) ?_
  refine wm_get hx hb hts wu_X9 hown hV hW (wlt_8 (rfl : wkd 0 = 8)) (wen_8 (rfl : wkd 0 = 8)) (C := RX9) (T := TX9) (N := 10) rfl 0 (by decide) (hts _ wA_231) rfl dX9_look_39 ?_
  refine lv_iload_n hx hb dX9_look_42 rfl (lv_at hl 1 rfl) ?_
  refine lv_iload_n hx hb dX9_look_43 rfl (lv_at hl 2 rfl) ?_
  refine lv_iload_n hx hb dX9_look_44 rfl (lv_at hl 3 rfl) ?_
  obtain ⟨r6, M7, hc5, hf⟩ := wbind_p hf
  refine wc_V (As := [.ref (wad E 1), .int y1, .int y2, .int y3]) (rest := []) hx hb hml hown hts hG hV hZ (wlt_5 (rfl : wkd 53 = 5)) (q := (RX6, TX6, 1)) (wen_5 (rfl : wkd 53 = 5)) rfl (cX6_bestPlace_ok l E M 1 (rfl : wkd 1 = 4) y1 y2 y3 hc5) (cwV 4 hts gl_X9_170 rfl rfl rfl cdX6_bestPlace ⟨Nat.le_of_ble_eq_true rfl, Nat.le_of_ble_eq_true rfl⟩) rfl hl.1 rfl (Nat.le_of_ble_eq_true rfl) dX9_look_45 ⟨Nat.zero_le _, Nat.zero_le _⟩ hW hS rfl (fun H locs hW hS => ?_)
  have hres := Option.some.inj hf
  subst hres
  exact W.iret hx hb hr (wr_q hG hV hZ hW hS) hS.2.2 dX9_look_48
set_option maxRecDepth 100000 in
set_option maxHeartbeats 4000000 in
theorem pX9_look (B : wB E p s m args meth c cX9_look 4 RX9 (some .int)) {M : wMem} {a1 : Int32} {a2 : Int32} {a3 : Int32}  {res : Int32 × wMem} (hf : fX9_look M a1 a2 a3 = some res) {H : Heap} {locs : List Loc} {ls : Array Slot} (hW : wH E M H) (hS : va_S (wA E) s.heap H locs) (hl : lv_has ls 4 [(0, .ref (wad E 0)), (1, .int a1), (2, .int a2), (3, .int a3)]) : W p l e ({ frames := 7, cells := 0, slots := 0, locals := 169 } : Room) s m args below meth c H locs 0 0 (MQ below (wQ E (some (.int res.1)) res.2) args s 0 0 (wA E)) (F0 m 0 ls []) := by
  unfold fX9_look at hf
  obtain ⟨hx, hb, hr, hml, hown, hts, hlocks, hG, hV, hZ⟩ := id B
  refine lv_aload_n hx hb dX9_look_0 rfl (lv_at hl 0 rfl) ?_
  refine wm_get hx hb hts wu_X9 hown hV hW (wlt_8 (rfl : wkd 0 = 8)) (wen_8 (rfl : wkd 0 = 8)) (C := RX9) (T := TX9) (N := 10) rfl 0 (by decide) (hts _ wA_231) rfl dX9_look_1 ?_
  refine lv_iload_n hx hb dX9_look_4 rfl (lv_at hl 1 rfl) ?_
  refine lv_iload_n hx hb dX9_look_5 rfl (lv_at hl 2 rfl) ?_
  obtain ⟨r2, hc1, hf⟩ := wbind_e hf
  refine wc_V (As := [.int a1, .int a2]) (rest := []) hx hb hml hown hts hG hV hZ (wlt_4 (rfl : wkd 1 = 4)) (q := (RX5, TX5, 4)) (wen_4 (rfl : wkd 1 = 4)) rfl (cX5_hasStretch_ok l E M 1 (rfl : wkd 1 = 4) a1 a2 hc1) (cwV 2 hts gl_X9_156 rfl rfl rfl cdX5_hasStretch ⟨Nat.le_of_ble_eq_true rfl, Nat.le_of_ble_eq_true rfl⟩) rfl hl.1 rfl (Nat.le_of_ble_eq_true rfl) dX9_look_6 ⟨Nat.zero_le _, Nat.zero_le _⟩ hW hS rfl (fun H locs hW hS => ?_)
  rcases wif_e hf with ⟨hq3, hf⟩ | ⟨hq3, hf⟩
  · refine lv_if_ne (tgt := 18) hx hb dX9_look_9 (by decide) (fun h => absurd hq3 h) (fun _ => ?_)
    refine lv_aload_n hx hb dX9_look_12 rfl (lv_at hl 0 rfl) ?_
    refine lv_iconst (v := (-1)) hx hb dX9_look_13 rfl ?_
    obtain ⟨r13, M14, hc12, hf⟩ := wbind_p hf
    refine wc_V (As := [.int (-1)]) (rest := []) hx hb hml hown hts hG hV hZ (wlt_8 (rfl : wkd 0 = 8)) (q := (RX9, TX9, 10)) (wen_8 (rfl : wkd 0 = 8)) rfl (cX9_refuse_ok l E M (-1) hc12) (cwV 1 hts gl_X9_65 rfl rfl rfl cdX9_refuse ⟨Nat.le_of_ble_eq_true rfl, Nat.le_of_ble_eq_true rfl⟩) rfl hl.1 rfl (Nat.le_of_ble_eq_true rfl) dX9_look_14 ⟨Nat.zero_le _, Nat.zero_le _⟩ hW hS rfl (fun H locs hW hS => ?_)
    have hres := Option.some.inj hf
    subst hres
    exact W.iret hx hb hr (wr_q hG hV hZ hW hS) hS.2.2 dX9_look_17
  · refine lv_if_ne (tgt := 18) hx hb dX9_look_9 (by decide) (fun _ => ?_) (fun h => absurd h hq3)
    refine lv_iload_n hx hb dX9_look_18 rfl (lv_at hl 3 rfl) ?_
    rcases wif_e hf with ⟨hq4, hf⟩ | ⟨hq4, hf⟩
    · refine lv_if_eq (tgt := 34) hx hb dX9_look_19 (by decide) (fun _ => ?_) (fun h => absurd hq4 h)
      exact pX9_look_34 B   hf hW hS (lv_sub hl [0, 1, 2, 3] rfl)
    · refine lv_if_eq (tgt := 34) hx hb dX9_look_19 (by decide) (fun h => absurd h hq4) (fun _ => ?_)
      refine lv_iload_n hx hb dX9_look_22 rfl (lv_at hl 3 rfl) ?_
      refine lv_iconst (v := 1) hx hb dX9_look_23 rfl ?_
      rcases wif_e hf with ⟨hq8, hf⟩ | ⟨hq8, hf⟩
      · refine lv_icmp_eq (tgt := 34) hx hb dX9_look_24 (by decide) (fun _ => ?_) (fun h => absurd hq8 h)
        exact pX9_look_34 B   hf hW hS (lv_sub hl [0, 1, 2, 3] rfl)
      · refine lv_icmp_eq (tgt := 34) hx hb dX9_look_24 (by decide) (fun h => absurd h hq8) (fun _ => ?_)
        refine lv_aload_n hx hb dX9_look_27 rfl (lv_at hl 0 rfl) ?_
        refine lv_bipush (v := (-2)) hx hb dX9_look_28 (by decide) ?_
        obtain ⟨r10, M11, hc9, hf⟩ := wbind_p hf
        refine wc_V (As := [.int (-2)]) (rest := []) hx hb hml hown hts hG hV hZ (wlt_8 (rfl : wkd 0 = 8)) (q := (RX9, TX9, 10)) (wen_8 (rfl : wkd 0 = 8)) rfl (cX9_refuse_ok l E M (-2) hc9) (cwV 1 hts gl_X9_65 rfl rfl rfl cdX9_refuse ⟨Nat.le_of_ble_eq_true rfl, Nat.le_of_ble_eq_true rfl⟩) rfl hl.1 rfl (Nat.le_of_ble_eq_true rfl) dX9_look_30 ⟨Nat.zero_le _, Nat.zero_le _⟩ hW hS rfl (fun H locs hW hS => ?_)
        have hres := Option.some.inj hf
        subst hres
        exact W.iret hx hb hr (wr_q hG hV hZ hW hS) hS.2.2 dX9_look_33
theorem cX9_look_ok (l : Launch) (E : wE) (M : wMem) (a1 : Int32) (a2 : Int32) (a3 : Int32) {res : Int32 × wMem} (hf : fX9_look M a1 a2 a3 = some res) : wMet l yX9_look (wsM yX9_look cX9_look 4 (some .int)) ({ frames := 7, cells := 0, slots := 0, locals := 169 } : Room) E M [.ref (wad E 0), .int a1, .int a2, .int a3] (some (.int res.1)) res.2 :=
  wc_of (cc := cX9_look) (maxL := 4) (ret := (some .int)) (by decide) (Nat.le_of_ble_eq_true rfl) (fun _ _ _ _ _ _ _ _ B hW hl => pX9_look B  hf hW va_S.rf hl)
end
theorem cdX8_comesFirst : yX8_comesFirst.cls ≠ "java/lang/invoke/MethodHandle" ∧ yX8_comesFirst.cls ≠ "java/lang/invoke/VarHandle" ∧ (parseMethodDescriptor yX8_comesFirst.desc).map (fun d => d.parameters.length) = some 2 := by decide +kernel
section
variable {p : Program} {l : Launch} {e : Env} {s : State} {m : MethodId} {args : Array Value} {below : List Frame} {meth : Method} {c : Code} {E : wE}
set_option maxRecDepth 100000 in
set_option maxHeartbeats 4000000 in
theorem pX8_comesFirst (B : wB E p s m args meth c cX8_comesFirst 2 RX8 (some .boolean)) {M : wMem} {k0 : Nat} {k1 : Nat} (hk0 : wkd k0 = 0) (hk1 : wkd k1 = 0) {res : Bool} (hf : fX8_comesFirst M k0 k1 = some res) {H : Heap} {locs : List Loc} {ls : Array Slot} (hW : wH E M H) (hS : va_S (wA E) s.heap H locs) (hl : lv_has ls 2 [(0, .ref (wad E k0)), (1, .ref (wad E k1))]) : W p l e ({ frames := 2, cells := 0, slots := 0, locals := 41 } : Room) s m args below meth c H locs 0 0 (MQ below (wQ E (some (.int (wb res))) M) args s 0 0 (wA E)) (F0 m 0 ls []) := by
  unfold fX8_comesFirst at hf
  obtain ⟨hx, hb, hr, hml, hown, hts, hlocks, hG, hV, hZ⟩ := id B
  refine lv_aload_n hx hb dX8_comesFirst_0 rfl (lv_at hl 0 rfl) ?_
  refine wm_get hx hb hts wu_X1 hown hV hW (wlt_0 hk0) (wen_0 hk0) (C := RX1) (T := TX1) (N := 5) rfl 2 (by decide) (hts _ wA_88) rfl dX8_comesFirst_1 ?_
  refine lv_aload_n hx hb dX8_comesFirst_4 rfl (lv_at hl 1 rfl) ?_
  obtain ⟨r2, hc1, hf⟩ := wbind_e hf
  refine wc_V (As := []) (rest := [.int (M k0 2)]) hx hb hml hown hts hG hV hZ (wlt_0 hk1) (q := (RX1, TX1, 5)) (wen_0 hk1) rfl (cX1_likely_ok l E M k1 hk1 hc1) (cwV 0 hts gl_X8_34 rfl rfl rfl cdX1_likely ⟨Nat.le_of_ble_eq_true rfl, Nat.le_of_ble_eq_true rfl⟩) rfl hl.1 rfl (Nat.le_of_ble_eq_true rfl) dX8_comesFirst_5 ⟨Nat.zero_le _, Nat.zero_le _⟩ hW hS rfl (fun H locs hW hS => ?_)
  refine lv_imul hx hb dX8_comesFirst_8 ?_
  refine lv_aload_n hx hb dX8_comesFirst_9 rfl (lv_at hl 1 rfl) ?_
  refine wm_get hx hb hts wu_X1 hown hV hW (wlt_0 hk1) (wen_0 hk1) (C := RX1) (T := TX1) (N := 5) rfl 2 (by decide) (hts _ wA_88) rfl dX8_comesFirst_10 ?_
  refine lv_aload_n hx hb dX8_comesFirst_13 rfl (lv_at hl 0 rfl) ?_
  obtain ⟨r4, hc3, hf⟩ := wbind_e hf
  refine wc_V (As := []) (rest := [.int (M k1 2), .int ((M k0 2) * r2)]) hx hb hml hown hts hG hV hZ (wlt_0 hk0) (q := (RX1, TX1, 5)) (wen_0 hk0) rfl (cX1_likely_ok l E M k0 hk0 hc3) (cwV 0 hts gl_X8_34 rfl rfl rfl cdX1_likely ⟨Nat.le_of_ble_eq_true rfl, Nat.le_of_ble_eq_true rfl⟩) rfl hl.1 rfl (Nat.le_of_ble_eq_true rfl) dX8_comesFirst_14 ⟨Nat.zero_le _, Nat.zero_le _⟩ hW hS rfl (fun H locs hW hS => ?_)
  refine lv_imul hx hb dX8_comesFirst_17 ?_
  rcases wif_e hf with ⟨hq5, hf⟩ | ⟨hq5, hf⟩
  · refine lv_icmp_ge (tgt := 25) hx hb dX8_comesFirst_18 (by decide) (fun _ => ?_) (fun h => absurd hq5 h)
    refine lv_iconst (v := 0) hx hb dX8_comesFirst_25 rfl ?_
    have hres := Option.some.inj hf
    subst hres
    exact W.zret hx hb hr (wb_n false) (wr_q hG hV hZ hW hS) hS.2.2 dX8_comesFirst_26
  · refine lv_icmp_ge (tgt := 25) hx hb dX8_comesFirst_18 (by decide) (fun h => absurd h hq5) (fun _ => ?_)
    refine lv_iconst (v := 1) hx hb dX8_comesFirst_21 rfl ?_
    refine lv_goto (tgt := 26) hx hb dX8_comesFirst_22 (by decide) ?_
    have hres := Option.some.inj hf
    subst hres
    exact W.zret hx hb hr (wb_n true) (wr_q hG hV hZ hW hS) hS.2.2 dX8_comesFirst_26
theorem cX8_comesFirst_ok (l : Launch) (E : wE) (M : wMem) (k0 : Nat) (hk0 : wkd k0 = 0) (k1 : Nat) (hk1 : wkd k1 = 0) {res : Bool} (hf : fX8_comesFirst M k0 k1 = some res) : wMet l yX8_comesFirst (wsM yX8_comesFirst cX8_comesFirst 2 (some .boolean)) ({ frames := 2, cells := 0, slots := 0, locals := 41 } : Room) E M [.ref (wad E k0), .ref (wad E k1)] (some (.int (wb res))) M :=
  wc_of (cc := cX8_comesFirst) (maxL := 2) (ret := (some .boolean)) (by decide) (Nat.le_of_ble_eq_true rfl) (fun _ _ _ _ _ _ _ _ B hW hl => pX8_comesFirst B hk0 hk1 hf hW va_S.rf hl)
end
theorem cdX8_arrange : yX8_arrange.cls = RX8 ∧ yX8_arrange.cls ≠ "java/lang/invoke/MethodHandle" ∧ yX8_arrange.cls ≠ "java/lang/invoke/VarHandle" ∧ (parseMethodDescriptor yX8_arrange.desc).map (fun d => d.parameters.length) = some 1 := by decide +kernel
section
variable {p : Program} {l : Launch} {e : Env} {s : State} {m : MethodId} {args : Array Value} {below : List Frame} {meth : Method} {c : Code} {E : wE}
set_option maxRecDepth 100000 in
set_option maxHeartbeats 4000000 in
theorem pX8_arrange_61 (B : wB E p s m args meth c cX8_arrange 4 RX8 none) {M : wMem} {ky1 : Nat} {y2 : Int32} {y3 : Int32} {rec2 : (Int32 × wMem → Option (wMem))} {res : wMem} (hky1 : wkd ky1 = 4) (hrec2 : ∀ (y2' : Int32) (M' : wMem), rec2 (y2', M') = some res → ∀ (H : Heap) (locs : List Loc) (ls : Array Slot), wH E M' H → va_S (wA E) s.heap H locs → lv_has ls 4 [(0, .ref (wad E 67)), (1, .ref (wad E ky1)), (2, .int y2')] → W p l e ({ frames := 3, cells := 0, slots := 0, locals := 62 } : Room) s m args below meth c H locs 0 0 (MQ below (wQ E none res) args s 0 0 (wA E)) (F0 m 2 ls [])) (hf : fX8_arrange_61 M rec2 ky1 y2 y3 = some res) {H : Heap} {locs : List Loc} {ls : Array Slot} (hW : wH E M H) (hS : va_S (wA E) s.heap H locs) (hl : lv_has ls 4 [(0, .ref (wad E 67)), (1, .ref (wad E ky1)), (2, .int y2), (3, .int y3)]) : W p l e ({ frames := 3, cells := 0, slots := 0, locals := 62 } : Room) s m args below meth c H locs 0 0 (MQ below (wQ E none res) args s 0 0 (wA E)) (F0 m 61 ls []) := by
  unfold fX8_arrange_61 at hf
  obtain ⟨hx, hb, hr, hml, hown, hts, hlocks, hG, hV, hZ⟩ := id B
  refine lv_aload_n hx hb dX8_arrange_61 rfl (lv_at hl 0 rfl) ?_
  refine wm_get hx hb hts wu_X8 hown hV hW (wlt_7 (rfl : wkd 67 = 7)) (wen_7 (rfl : wkd 67 = 7)) (C := RX8) (T := TX8) (N := 1) rfl 0 (by decide) (hts _ wA_226) rfl dX8_arrange_62 ?_
  refine lv_iload_n hx hb dX8_arrange_65 rfl (lv_at hl 3 rfl) ?_
  refine lv_iload_n hx hb dX8_arrange_66 rfl (lv_at hl 2 rfl) ?_
  obtain ⟨hi3, hf⟩ := wgi_e hf
  refine wm_iast hx hb hG hV hW hS (rfl : wkd 68 = 21) (n := 12) rfl hi3 dX8_arrange_67 (fun H locs hW hS => ?_)
  obtain ⟨M4, hW, hf⟩ := wlet_M hW hf
  obtain ⟨x5, ex5, hf⟩ := wlet_e hf
  refine lv_iinc (v := x5) (lv' := [(2, .int x5), (0, .ref (wad E 67)), (1, .ref (wad E ky1)), (3, .int y3)]) hx hb dX8_arrange_68 hl (k := 2) rfl (by rw [ex5]; rfl) (by decide) rfl (fun ls hl => ?_)
  refine lv_goto (tgt := 2) hx hb dX8_arrange_71 (by decide) ?_
  exact hrec2 x5 M4 hf _ _ _ hW hS (lv_sub hl [1, 2, 0] rfl)
set_option maxRecDepth 100000 in
set_option maxHeartbeats 4000000 in
theorem pX8_arrange_12_b (B : wB E p s m args meth c cX8_arrange 4 RX8 none) {M : wMem} {ky1 : Nat} {y2 : Int32} {y3 : Int32} {rec2 : (Int32 × wMem → Option (wMem))} {rec12 : (Int32 × wMem → Option (wMem))} {res : wMem} (hky1 : wkd ky1 = 4) (hrec2 : ∀ (y2' : Int32) (M' : wMem), rec2 (y2', M') = some res → ∀ (H : Heap) (locs : List Loc) (ls : Array Slot), wH E M' H → va_S (wA E) s.heap H locs → lv_has ls 4 [(0, .ref (wad E 67)), (1, .ref (wad E ky1)), (2, .int y2')] → W p l e ({ frames := 3, cells := 0, slots := 0, locals := 62 } : Room) s m args below meth c H locs 0 0 (MQ below (wQ E none res) args s 0 0 (wA E)) (F0 m 2 ls [])) (hrec12 : ∀ (y3' : Int32) (M' : wMem), rec12 (y3', M') = some res → ∀ (H : Heap) (locs : List Loc) (ls : Array Slot), wH E M' H → va_S (wA E) s.heap H locs → lv_has ls 4 [(0, .ref (wad E 67)), (1, .ref (wad E ky1)), (2, .int y2), (3, .int y3')] → W p l e ({ frames := 3, cells := 0, slots := 0, locals := 62 } : Room) s m args below meth c H locs 0 0 (MQ below (wQ E none res) args s 0 0 (wA E)) (F0 m 12 ls [])) (hf : fX8_arrange_12_b M rec2 rec12 ky1 y2 y3 = some res) {H : Heap} {locs : List Loc} {ls : Array Slot} (hW : wH E M H) (hS : va_S (wA E) s.heap H locs) (hl : lv_has ls 4 [(0, .ref (wad E 67)), (1, .ref (wad E ky1)), (2, .int y2), (3, .int y3)]) : W p l e ({ frames := 3, cells := 0, slots := 0, locals := 62 } : Room) s m args below meth c H locs 0 0 (MQ below (wQ E none res) args s 0 0 (wA E)) (F0 m 12 ls []) := by
  unfold fX8_arrange_12_b at hf
  obtain ⟨hx, hb, hr, hml, hown, hts, hlocks, hG, hV, hZ⟩ := id B
  refine lv_iload_n hx hb dX8_arrange_12 rfl (lv_at hl 3 rfl) ?_
  rcases wif_e hf with ⟨hq2, hf⟩ | ⟨hq2, hf⟩
  · refine lv_if_le (tgt := 61) hx hb dX8_arrange_13 (by decide) (fun _ => ?_) (fun h => absurd hq2 h)
    exact pX8_arrange_61 B hky1 hrec2 hf hW hS (lv_sub hl [0, 1, 2, 3] rfl)
  · refine lv_if_le (tgt := 61) hx hb dX8_arrange_13 (by decide) (fun h => absurd h hq2) (fun _ => ?_)
    refine lv_aload_n hx hb dX8_arrange_16 rfl (lv_at hl 1 rfl) ?_
    refine wm_get hx hb hts wu_X5 hown hV hW (wlt_4 hky1) (wen_4 hky1) (C := RX5) (T := TX5) (N := 4) rfl 0 (by decide) (hts _ wA_110) rfl dX8_arrange_17 ?_
    refine lv_iload_n hx hb dX8_arrange_20 rfl (lv_at hl 2 rfl) ?_
    obtain ⟨hi6, hf⟩ := wgi_e hf
    refine wm_aldL hx hb hV hW (wk4_1 hky1) hi6 dX8_arrange_21 ?_
    refine lv_aload_n hx hb dX8_arrange_22 rfl (lv_at hl 1 rfl) ?_
    refine wm_get hx hb hts wu_X5 hown hV hW (wlt_4 hky1) (wen_4 hky1) (C := RX5) (T := TX5) (N := 4) rfl 0 (by decide) (hts _ wA_110) rfl dX8_arrange_23 ?_
    refine lv_aload_n hx hb dX8_arrange_26 rfl (lv_at hl 0 rfl) ?_
    refine wm_get hx hb hts wu_X8 hown hV hW (wlt_7 (rfl : wkd 67 = 7)) (wen_7 (rfl : wkd 67 = 7)) (C := RX8) (T := TX8) (N := 1) rfl 0 (by decide) (hts _ wA_226) rfl dX8_arrange_27 ?_
    refine lv_iload_n hx hb dX8_arrange_30 rfl (lv_at hl 3 rfl) ?_
    refine lv_iconst (v := 1) hx hb dX8_arrange_31 rfl ?_
    refine lv_isub hx hb dX8_arrange_32 ?_
    obtain ⟨hi7, hf⟩ := wgi_e hf
    refine wm_iald hx hb hV hW (rfl : wkd 68 = 21) (n := 12) rfl hi7 dX8_arrange_33 ?_
    obtain ⟨hi8, hf⟩ := wgi_e hf
    refine wm_aldL hx hb hV hW (wk4_1 hky1) hi8 dX8_arrange_34 ?_
    obtain ⟨r10, hc9, hf⟩ := wbind_e hf
    refine wc_S (As := [.ref (wad E ((ky1 + 1) + 2 + Int32.toNatClampNeg y2)), .ref (wad E ((ky1 + 1) + 2 + Int32.toNatClampNeg (M 68 (Int32.toNatClampNeg (y3 - 1)))))]) (rest := []) hx hb hml hown hts hG hV hZ (cX8_comesFirst_ok l E M ((ky1 + 1) + 2 + Int32.toNatClampNeg y2) (wk22_i (wk4_1 hky1) hi6) ((ky1 + 1) + 2 + Int32.toNatClampNeg (M 68 (Int32.toNatClampNeg (y3 - 1)))) (wk22_i (wk4_1 hky1) hi8) hc9) (va_cwS 2 hts gl_X8_25 rfl rfl rfl cdX8_comesFirst ⟨Nat.le_of_ble_eq_true rfl, Nat.le_of_ble_eq_true rfl⟩) rfl hl.1 rfl (Nat.le_of_ble_eq_true rfl) dX8_arrange_35 ⟨Nat.zero_le _, Nat.zero_le _⟩ hW hS rfl (fun H locs hW hS => ?_)
    rcases wif_e hf with ⟨hq11, hf⟩ | ⟨hq11, hf⟩
    · refine lv_if_eq (tgt := 61) hx hb dX8_arrange_38 (by decide) (fun _ => ?_) (fun h => absurd hq11 h)
      exact pX8_arrange_61 B hky1 hrec2 hf hW hS (lv_sub hl [0, 1, 2, 3] rfl)
    · refine lv_if_eq (tgt := 61) hx hb dX8_arrange_38 (by decide) (fun h => absurd h hq11) (fun _ => ?_)
      refine lv_aload_n hx hb dX8_arrange_41 rfl (lv_at hl 0 rfl) ?_
      refine wm_get hx hb hts wu_X8 hown hV hW (wlt_7 (rfl : wkd 67 = 7)) (wen_7 (rfl : wkd 67 = 7)) (C := RX8) (T := TX8) (N := 1) rfl 0 (by decide) (hts _ wA_226) rfl dX8_arrange_42 ?_
      refine lv_iload_n hx hb dX8_arrange_45 rfl (lv_at hl 3 rfl) ?_
      refine lv_aload_n hx hb dX8_arrange_46 rfl (lv_at hl 0 rfl) ?_
      refine wm_get hx hb hts wu_X8 hown hV hW (wlt_7 (rfl : wkd 67 = 7)) (wen_7 (rfl : wkd 67 = 7)) (C := RX8) (T := TX8) (N := 1) rfl 0 (by decide) (hts _ wA_226) rfl dX8_arrange_47 ?_
      refine lv_iload_n hx hb dX8_arrange_50 rfl (lv_at hl 3 rfl) ?_
      refine lv_iconst (v := 1) hx hb dX8_arrange_51 rfl ?_
      refine lv_isub hx hb dX8_arrange_52 ?_
      obtain ⟨hi12, hf⟩ := wgi_e hf
      refine wm_iald hx hb hV hW (rfl : wkd 68 = 21) (n := 12) rfl hi12 dX8_arrange_53 ?_
      obtain ⟨hi13, hf⟩ := wgi_e hf
      refine wm_iast hx hb hG hV hW hS (rfl : wkd 68 = 21) (n := 12) rfl hi13 dX8_arrange_54 (fun H locs hW hS => ?_)
      obtain ⟨M14, hW, hf⟩ := wlet_M hW hf
      obtain ⟨x15, ex15, hf⟩ := wlet_e hf
      refine lv_iinc (v := x15) (lv' := [(3, .int x15), (0, .ref (wad E 67)), (1, .ref (wad E ky1)), (2, .int y2)]) hx hb dX8_arrange_55 hl (k := 3) rfl (by rw [ex15]; rfl) (by decide) rfl (fun ls hl => ?_)
      refine lv_goto (tgt := 12) hx hb dX8_arrange_58 (by decide) ?_
      exact hrec12 x15 M14 hf _ _ _ hW hS (lv_sub hl [1, 2, 3, 0] rfl)
set_option maxRecDepth 100000 in
set_option maxHeartbeats 4000000 in
theorem pX8_arrange_12 (B : wB E p s m args meth c cX8_arrange 4 RX8 none) {M : wMem} {ky1 : Nat} {y2 : Int32} {y3 : Int32} {rec2 : (Int32 × wMem → Option (wMem))} {res : wMem} (hky1 : wkd ky1 = 4) (hrec2 : ∀ (y2' : Int32) (M' : wMem), rec2 (y2', M') = some res → ∀ (H : Heap) (locs : List Loc) (ls : Array Slot), wH E M' H → va_S (wA E) s.heap H locs → lv_has ls 4 [(0, .ref (wad E 67)), (1, .ref (wad E ky1)), (2, .int y2')] → W p l e ({ frames := 3, cells := 0, slots := 0, locals := 62 } : Room) s m args below meth c H locs 0 0 (MQ below (wQ E none res) args s 0 0 (wA E)) (F0 m 2 ls [])) (hf : fX8_arrange_12 M rec2 ky1 y2 y3 = some res) {H : Heap} {locs : List Loc} {ls : Array Slot} (hW : wH E M H) (hS : va_S (wA E) s.heap H locs) (hl : lv_has ls 4 [(0, .ref (wad E 67)), (1, .ref (wad E ky1)), (2, .int y2), (3, .int y3)]) : W p l e ({ frames := 3, cells := 0, slots := 0, locals := 62 } : Room) s m args below meth c H locs 0 0 (MQ below (wQ E none res) args s 0 0 (wA E)) (F0 m 12 ls []) := by
  have key := wloop_W (b := (fun rec12 t => fX8_arrange_12_b t.2 rec2 rec12 ky1 y2 t.1)) (P := fun t => ∀ (H : Heap) (locs : List Loc) (ls : Array Slot), wH E t.2 H → va_S (wA E) s.heap H locs → lv_has ls 4 [(0, .ref (wad E 67)), (1, .ref (wad E ky1)), (2, .int y2), (3, .int t.1)] → W p l e ({ frames := 3, cells := 0, slots := 0, locals := 62 } : Room) s m args below meth c H locs 0 0 (MQ below (wQ E none res) args s 0 0 (wA E)) (F0 m 12 ls [])) (r := res) (fun rec hrec t hf H locs ls hW hS hl => pX8_arrange_12_b B hky1 hrec2 (fun v0 v1 hf H locs ls hW hS hl => hrec (v0, v1) hf H locs ls hW hS hl) hf hW hS hl)
  exact key wfuel (y3, M) hf H locs ls hW hS hl
set_option maxRecDepth 100000 in
set_option maxHeartbeats 4000000 in
theorem pX8_arrange_2_b (B : wB E p s m args meth c cX8_arrange 4 RX8 none) {M : wMem} {ky1 : Nat} {y2 : Int32}  {rec2 : (Int32 × wMem → Option (wMem))} {res : wMem} (hky1 : wkd ky1 = 4)  (hrec2 : ∀ (y2' : Int32) (M' : wMem), rec2 (y2', M') = some res → ∀ (H : Heap) (locs : List Loc) (ls : Array Slot), wH E M' H → va_S (wA E) s.heap H locs → lv_has ls 4 [(0, .ref (wad E 67)), (1, .ref (wad E ky1)), (2, .int y2')] → W p l e ({ frames := 3, cells := 0, slots := 0, locals := 62 } : Room) s m args below meth c H locs 0 0 (MQ below (wQ E none res) args s 0 0 (wA E)) (F0 m 2 ls [])) (hf : fX8_arrange_2_b M  rec2 ky1 y2 = some res) {H : Heap} {locs : List Loc} {ls : Array Slot} (hW : wH E M H) (hS : va_S (wA E) s.heap H locs) (hl : lv_has ls 4 [(0, .ref (wad E 67)), (1, .ref (wad E ky1)), (2, .int y2)]) : W p l e ({ frames := 3, cells := 0, slots := 0, locals := 62 } : Room) s m args below meth c H locs 0 0 (MQ below (wQ E none res) args s 0 0 (wA E)) (F0 m 2 ls []) := by
  unfold fX8_arrange_2_b at hf
  obtain ⟨hx, hb, hr, hml, hown, hts, hlocks, hG, hV, hZ⟩ := id B
  refine lv_iload_n hx hb dX8_arrange_2 rfl (lv_at hl 2 rfl) ?_
  refine lv_aload_n hx hb dX8_arrange_3 rfl (lv_at hl 1 rfl) ?_
  refine wm_get hx hb hts wu_X5 hown hV hW (wlt_4 hky1) (wen_4 hky1) (C := RX5) (T := TX5) (N := 4) rfl 2 (by decide) (hts _ wA_118) rfl dX8_arrange_4 ?_
  rcases wif_e hf with ⟨hq1, hf⟩ | ⟨hq1, hf⟩
  · refine lv_icmp_ge (tgt := 74) hx hb dX8_arrange_7 (by decide) (fun _ => ?_) (fun h => absurd hq1 h)
    have hres := Option.some.inj hf
    subst hres
    exact W.vret hx hb hr (wr_q hG hV hZ hW hS) hS.2.2 dX8_arrange_74
  · refine lv_icmp_ge (tgt := 74) hx hb dX8_arrange_7 (by decide) (fun h => absurd h hq1) (fun _ => ?_)
    refine lv_iload_n hx hb dX8_arrange_10 rfl (lv_at hl 2 rfl) ?_
    refine lv_istore_n (lv' := [(3, .int y2), (0, .ref (wad E 67)), (1, .ref (wad E ky1)), (2, .int y2)]) hx hb dX8_arrange_11 rfl hl (by decide) rfl (fun ls hl => ?_)
    exact pX8_arrange_12 B hky1 hrec2 hf hW hS (lv_sub hl [1, 2, 3, 0] rfl)
set_option maxRecDepth 100000 in
set_option maxHeartbeats 4000000 in
theorem pX8_arrange_2 (B : wB E p s m args meth c cX8_arrange 4 RX8 none) {M : wMem} {ky1 : Nat} {y2 : Int32}  {res : wMem} (hky1 : wkd ky1 = 4)  (hf : fX8_arrange_2 M  ky1 y2 = some res) {H : Heap} {locs : List Loc} {ls : Array Slot} (hW : wH E M H) (hS : va_S (wA E) s.heap H locs) (hl : lv_has ls 4 [(0, .ref (wad E 67)), (1, .ref (wad E ky1)), (2, .int y2)]) : W p l e ({ frames := 3, cells := 0, slots := 0, locals := 62 } : Room) s m args below meth c H locs 0 0 (MQ below (wQ E none res) args s 0 0 (wA E)) (F0 m 2 ls []) := by
  have key := wloop_W (b := (fun rec2 t => fX8_arrange_2_b t.2  rec2 ky1 t.1)) (P := fun t => ∀ (H : Heap) (locs : List Loc) (ls : Array Slot), wH E t.2 H → va_S (wA E) s.heap H locs → lv_has ls 4 [(0, .ref (wad E 67)), (1, .ref (wad E ky1)), (2, .int t.1)] → W p l e ({ frames := 3, cells := 0, slots := 0, locals := 62 } : Room) s m args below meth c H locs 0 0 (MQ below (wQ E none res) args s 0 0 (wA E)) (F0 m 2 ls [])) (r := res) (fun rec hrec t hf H locs ls hW hS hl => pX8_arrange_2_b B hky1  (fun v0 v1 hf H locs ls hW hS hl => hrec (v0, v1) hf H locs ls hW hS hl) hf hW hS hl)
  exact key wfuel (y2, M) hf H locs ls hW hS hl
set_option maxRecDepth 100000 in
set_option maxHeartbeats 4000000 in
theorem pX8_arrange (B : wB E p s m args meth c cX8_arrange 4 RX8 none) {M : wMem} {k1 : Nat} (hk1 : wkd k1 = 4) {res : wMem} (hf : fX8_arrange M k1 = some res) {H : Heap} {locs : List Loc} {ls : Array Slot} (hW : wH E M H) (hS : va_S (wA E) s.heap H locs) (hl : lv_has ls 4 [(0, .ref (wad E 67)), (1, .ref (wad E k1))]) : W p l e ({ frames := 3, cells := 0, slots := 0, locals := 62 } : Room) s m args below meth c H locs 0 0 (MQ below (wQ E none res) args s 0 0 (wA E)) (F0 m 0 ls []) := by
  unfold fX8_arrange at hf
  obtain ⟨hx, hb, hr, hml, hown, hts, hlocks, hG, hV, hZ⟩ := id B
  refine lv_iconst (v := 0) hx hb dX8_arrange_0 rfl ?_
  refine lv_istore_n (lv' := [(2, .int 0), (0, .ref (wad E 67)), (1, .ref (wad E k1))]) hx hb dX8_arrange_1 rfl hl (by decide) rfl (fun ls hl => ?_)
  exact pX8_arrange_2 B hk1  hf hW hS (lv_sub hl [1, 2, 0] rfl)
theorem cX8_arrange_ok (l : Launch) (E : wE) (M : wMem) (k1 : Nat) (hk1 : wkd k1 = 4) {res : wMem} (hf : fX8_arrange M k1 = some res) : wMet l yX8_arrange (wsM yX8_arrange cX8_arrange 4 none) ({ frames := 3, cells := 0, slots := 0, locals := 62 } : Room) E M [.ref (wad E 67), .ref (wad E k1)] none res :=
  wc_of (cc := cX8_arrange) (maxL := 4) (ret := none) (by decide) (Nat.le_of_ble_eq_true rfl) (fun _ _ _ _ _ _ _ _ B hW hl => pX8_arrange B hk1 hf hW va_S.rf hl)
end
theorem cdX9_order : yX9_order.cls = RX9 ∧ yX9_order.cls ≠ "java/lang/invoke/MethodHandle" ∧ yX9_order.cls ≠ "java/lang/invoke/VarHandle" ∧ (parseMethodDescriptor yX9_order.desc).map (fun d => d.parameters.length) = some 1 := by decide +kernel
section
variable {p : Program} {l : Launch} {e : Env} {s : State} {m : MethodId} {args : Array Value} {below : List Frame} {meth : Method} {c : Code} {E : wE}
set_option maxRecDepth 100000 in
set_option maxHeartbeats 4000000 in
theorem pX9_order (B : wB E p s m args meth c cX9_order 2 RX9 (some .int)) {M : wMem} {a1 : Int32}  {res : Int32 × wMem} (hf : fX9_order M a1 = some res) {H : Heap} {locs : List Loc} {ls : Array Slot} (hW : wH E M H) (hS : va_S (wA E) s.heap H locs) (hl : lv_has ls 2 [(0, .ref (wad E 0)), (1, .int a1)]) : W p l e ({ frames := 4, cells := 0, slots := 0, locals := 85 } : Room) s m args below meth c H locs 0 0 (MQ below (wQ E (some (.int res.1)) res.2) args s 0 0 (wA E)) (F0 m 0 ls []) := by
  unfold fX9_order at hf
  obtain ⟨hx, hb, hr, hml, hown, hts, hlocks, hG, hV, hZ⟩ := id B
  refine lv_iload_n hx hb dX9_order_0 rfl (lv_at hl 1 rfl) ?_
  rcases wif_e hf with ⟨hq1, hf⟩ | ⟨hq1, hf⟩
  · refine lv_if_ge (tgt := 11) hx hb dX9_order_1 (by decide) (fun _ => ?_) (fun h => absurd hq1 h)
    refine lv_aload_n hx hb dX9_order_11 rfl (lv_at hl 0 rfl) ?_
    refine wm_get hx hb hts wu_X9 hown hV hW (wlt_8 (rfl : wkd 0 = 8)) (wen_8 (rfl : wkd 0 = 8)) (C := RX9) (T := TX9) (N := 10) rfl 0 (by decide) (hts _ wA_231) rfl dX9_order_12 ?_
    refine lv_iload_n hx hb dX9_order_15 rfl (lv_at hl 1 rfl) ?_
    obtain ⟨r3, hc2, hf⟩ := wbind_e hf
    refine wc_V (As := [.int a1]) (rest := []) hx hb hml hown hts hG hV hZ (wlt_4 (rfl : wkd 1 = 4)) (q := (RX5, TX5, 4)) (wen_4 (rfl : wkd 1 = 4)) rfl (cX5_has_ok l E M 1 (rfl : wkd 1 = 4) a1 hc2) (cwV 1 hts gl_X9_93 rfl rfl rfl cdX5_has ⟨Nat.le_of_ble_eq_true rfl, Nat.le_of_ble_eq_true rfl⟩) rfl hl.1 rfl (Nat.le_of_ble_eq_true rfl) dX9_order_16 ⟨Nat.zero_le _, Nat.zero_le _⟩ hW hS rfl (fun H locs hW hS => ?_)
    rcases wif_e hf with ⟨hq4, hf⟩ | ⟨hq4, hf⟩
    · refine lv_if_ne (tgt := 25) hx hb dX9_order_19 (by decide) (fun h => absurd hq4 h) (fun _ => ?_)
      refine lv_bipush (v := (-9)) hx hb dX9_order_22 (by decide) ?_
      have hres := Option.some.inj hf
      subst hres
      exact W.iret hx hb hr (wr_q hG hV hZ hW hS) hS.2.2 dX9_order_24
    · refine lv_if_ne (tgt := 25) hx hb dX9_order_19 (by decide) (fun _ => ?_) (fun h => absurd h hq4)
      refine lv_aload_n hx hb dX9_order_25 rfl (lv_at hl 0 rfl) ?_
      refine wm_get hx hb hts wu_X9 hown hV hW (wlt_8 (rfl : wkd 0 = 8)) (wen_8 (rfl : wkd 0 = 8)) (C := RX9) (T := TX9) (N := 10) rfl 7 (by decide) (hts _ wA_238) rfl dX9_order_26 ?_
      refine lv_aload_n hx hb dX9_order_29 rfl (lv_at hl 0 rfl) ?_
      refine wm_get hx hb hts wu_X9 hown hV hW (wlt_8 (rfl : wkd 0 = 8)) (wen_8 (rfl : wkd 0 = 8)) (C := RX9) (T := TX9) (N := 10) rfl 0 (by decide) (hts _ wA_231) rfl dX9_order_30 ?_
      obtain ⟨M7, hc5, hf⟩ := wbind_e hf
      refine wc_V (As := [.ref (wad E 1)]) (rest := []) hx hb hml hown hts hG hV hZ (wlt_7 (rfl : wkd 67 = 7)) (q := (RX8, TX8, 1)) (wen_7 (rfl : wkd 67 = 7)) rfl (cX8_arrange_ok l E M 1 (rfl : wkd 1 = 4) hc5) (cwV 1 hts gl_X9_173 rfl rfl rfl cdX8_arrange ⟨Nat.le_of_ble_eq_true rfl, Nat.le_of_ble_eq_true rfl⟩) rfl hl.1 rfl (Nat.le_of_ble_eq_true rfl) dX9_order_33 ⟨Nat.zero_le _, Nat.zero_le _⟩ hW hS rfl (fun H locs hW hS => ?_)
      refine lv_aload_n hx hb dX9_order_36 rfl (lv_at hl 0 rfl) ?_
      refine wm_get hx hb hts wu_X9 hown hV hW (wlt_8 (rfl : wkd 0 = 8)) (wen_8 (rfl : wkd 0 = 8)) (C := RX9) (T := TX9) (N := 10) rfl 7 (by decide) (hts _ wA_238) rfl dX9_order_37 ?_
      refine wm_get hx hb hts wu_X8 hown hV hW (wlt_7 (rfl : wkd 67 = 7)) (wen_7 (rfl : wkd 67 = 7)) (C := RX8) (T := TX8) (N := 1) rfl 0 (by decide) (hts _ wA_227) rfl dX9_order_40 ?_
      refine lv_iload_n hx hb dX9_order_43 rfl (lv_at hl 1 rfl) ?_
      obtain ⟨hi8, hf⟩ := wgi_e hf
      refine wm_iald hx hb hV hW (rfl : wkd 68 = 21) (n := 12) rfl hi8 dX9_order_44 ?_
      have hres := Option.some.inj hf
      subst hres
      exact W.iret hx hb hr (wr_q hG hV hZ hW hS) hS.2.2 dX9_order_45
  · refine lv_if_ge (tgt := 11) hx hb dX9_order_1 (by decide) (fun h => absurd h hq1) (fun _ => ?_)
    refine lv_aload_n hx hb dX9_order_4 rfl (lv_at hl 0 rfl) ?_
    refine lv_bipush (v := (-4)) hx hb dX9_order_5 (by decide) ?_
    obtain ⟨r10, M11, hc9, hf⟩ := wbind_p hf
    refine wc_V (As := [.int (-4)]) (rest := []) hx hb hml hown hts hG hV hZ (wlt_8 (rfl : wkd 0 = 8)) (q := (RX9, TX9, 10)) (wen_8 (rfl : wkd 0 = 8)) rfl (cX9_refuse_ok l E M (-4) hc9) (cwV 1 hts gl_X9_65 rfl rfl rfl cdX9_refuse ⟨Nat.le_of_ble_eq_true rfl, Nat.le_of_ble_eq_true rfl⟩) rfl hl.1 rfl (Nat.le_of_ble_eq_true rfl) dX9_order_7 ⟨Nat.zero_le _, Nat.zero_le _⟩ hW hS rfl (fun H locs hW hS => ?_)
    have hres := Option.some.inj hf
    subst hres
    exact W.iret hx hb hr (wr_q hG hV hZ hW hS) hS.2.2 dX9_order_10
theorem cX9_order_ok (l : Launch) (E : wE) (M : wMem) (a1 : Int32) {res : Int32 × wMem} (hf : fX9_order M a1 = some res) : wMet l yX9_order (wsM yX9_order cX9_order 2 (some .int)) ({ frames := 4, cells := 0, slots := 0, locals := 85 } : Room) E M [.ref (wad E 0), .int a1] (some (.int res.1)) res.2 :=
  wc_of (cc := cX9_order) (maxL := 2) (ret := (some .int)) (by decide) (Nat.le_of_ble_eq_true rfl) (fun _ _ _ _ _ _ _ _ B hW hl => pX9_order B  hf hW va_S.rf hl)
end
theorem cdX8_cost : yX8_cost.cls = RX8 ∧ yX8_cost.cls ≠ "java/lang/invoke/MethodHandle" ∧ yX8_cost.cls ≠ "java/lang/invoke/VarHandle" ∧ (parseMethodDescriptor yX8_cost.desc).map (fun d => d.parameters.length) = some 1 := by decide +kernel
section
variable {p : Program} {l : Launch} {e : Env} {s : State} {m : MethodId} {args : Array Value} {below : List Frame} {meth : Method} {c : Code} {E : wE}
set_option maxRecDepth 100000 in
set_option maxHeartbeats 4000000 in
theorem pX8_cost_7_b (B : wB E p s m args meth c cX8_cost 6 RX8 (some .int)) {M : wMem} {ky1 : Nat} {y2 : Int32} {y3 : Int32} {y4 : Int32}  {rec7 : (Int32 × Int32 × Int32 → Option (Int32))} {res : Int32} (hky1 : wkd ky1 = 4)  (hrec7 : ∀ (y2' : Int32) (y3' : Int32) (y4' : Int32), rec7 (y2', y3', y4') = some res → ∀ (H : Heap) (locs : List Loc) (ls : Array Slot), wH E M H → va_S (wA E) s.heap H locs → lv_has ls 6 [(0, .ref (wad E 67)), (1, .ref (wad E ky1)), (2, .int y2'), (3, .int y3'), (4, .int y4')] → W p l e ({ frames := 2, cells := 0, slots := 0, locals := 41 } : Room) s m args below meth c H locs 0 0 (MQ below (wQ E (some (.int res)) M) args s 0 0 (wA E)) (F0 m 7 ls [])) (hf : fX8_cost_7_b M  rec7 ky1 y2 y3 y4 = some res) {H : Heap} {locs : List Loc} {ls : Array Slot} (hW : wH E M H) (hS : va_S (wA E) s.heap H locs) (hl : lv_has ls 6 [(0, .ref (wad E 67)), (1, .ref (wad E ky1)), (2, .int y2), (3, .int y3), (4, .int y4)]) : W p l e ({ frames := 2, cells := 0, slots := 0, locals := 41 } : Room) s m args below meth c H locs 0 0 (MQ below (wQ E (some (.int res)) M) args s 0 0 (wA E)) (F0 m 7 ls []) := by
  unfold fX8_cost_7_b at hf
  obtain ⟨hx, hb, hr, hml, hown, hts, hlocks, hG, hV, hZ⟩ := id B
  refine lv_iload hx hb dX8_cost_7 (lv_at hl 4 rfl) ?_
  refine lv_aload_n hx hb dX8_cost_9 rfl (lv_at hl 1 rfl) ?_
  refine wm_get hx hb hts wu_X5 hown hV hW (wlt_4 hky1) (wen_4 hky1) (C := RX5) (T := TX5) (N := 4) rfl 2 (by decide) (hts _ wA_118) rfl dX8_cost_10 ?_
  rcases wif_e hf with ⟨hq1, hf⟩ | ⟨hq1, hf⟩
  · refine lv_icmp_ge (tgt := 54) hx hb dX8_cost_13 (by decide) (fun _ => ?_) (fun h => absurd hq1 h)
    refine lv_iload_n hx hb dX8_cost_54 rfl (lv_at hl 3 rfl) ?_
    have hres := Option.some.inj hf
    subst hres
    exact W.iret hx hb hr (wr_q hG hV hZ hW hS) hS.2.2 dX8_cost_55
  · refine lv_icmp_ge (tgt := 54) hx hb dX8_cost_13 (by decide) (fun h => absurd h hq1) (fun _ => ?_)
    refine lv_aload_n hx hb dX8_cost_16 rfl (lv_at hl 1 rfl) ?_
    refine wm_get hx hb hts wu_X5 hown hV hW (wlt_4 hky1) (wen_4 hky1) (C := RX5) (T := TX5) (N := 4) rfl 0 (by decide) (hts _ wA_110) rfl dX8_cost_17 ?_
    refine lv_aload_n hx hb dX8_cost_20 rfl (lv_at hl 0 rfl) ?_
    refine wm_get hx hb hts wu_X8 hown hV hW (wlt_7 (rfl : wkd 67 = 7)) (wen_7 (rfl : wkd 67 = 7)) (C := RX8) (T := TX8) (N := 1) rfl 0 (by decide) (hts _ wA_226) rfl dX8_cost_21 ?_
    refine lv_iload hx hb dX8_cost_24 (lv_at hl 4 rfl) ?_
    obtain ⟨hi2, hf⟩ := wgi_e hf
    refine wm_iald hx hb hV hW (rfl : wkd 68 = 21) (n := 12) rfl hi2 dX8_cost_26 ?_
    obtain ⟨hi3, hf⟩ := wgi_e hf
    refine wm_aldL hx hb hV hW (wk4_1 hky1) hi3 dX8_cost_27 ?_
    refine lv_astore (lv' := [(5, .ref (wad E ((ky1 + 1) + 2 + Int32.toNatClampNeg (M 68 (Int32.toNatClampNeg y4))))), (0, .ref (wad E 67)), (1, .ref (wad E ky1)), (2, .int y2), (3, .int y3), (4, .int y4)]) hx hb dX8_cost_28 hl (by decide) rfl (fun ls hl => ?_)
    refine lv_iload_n hx hb dX8_cost_30 rfl (lv_at hl 3 rfl) ?_
    refine lv_aload hx hb dX8_cost_31 (lv_at hl 0 rfl) ?_
    refine wm_get hx hb hts wu_X1 hown hV hW (wlt_0 (wk22_i (wk4_1 hky1) hi3)) (wen_0 (wk22_i (wk4_1 hky1) hi3)) (C := RX1) (T := TX1) (N := 5) rfl 2 (by decide) (hts _ wA_88) rfl dX8_cost_33 ?_
    refine lv_iadd hx hb dX8_cost_36 ?_
    refine lv_topi (fun x4 ex4 => ?_)
    replace hf := wlet_y ex4 hf
    refine lv_istore_n (lv' := [(2, .int x4), (5, .ref (wad E ((ky1 + 1) + 2 + Int32.toNatClampNeg (M 68 (Int32.toNatClampNeg y4))))), (0, .ref (wad E 67)), (1, .ref (wad E ky1)), (3, .int y3), (4, .int y4)]) hx hb dX8_cost_37 rfl hl (by decide) rfl (fun ls hl => ?_)
    refine lv_iload_n hx hb dX8_cost_38 rfl (lv_at hl 4 rfl) ?_
    refine lv_aload hx hb dX8_cost_39 (lv_at hl 1 rfl) ?_
    obtain ⟨r6, hc5, hf⟩ := wbind_e hf
    refine wc_V (As := []) (rest := [.int y3]) hx hb hml hown hts hG hV hZ (wlt_0 (wk22_i (wk4_1 hky1) hi3)) (q := (RX1, TX1, 5)) (wen_0 (wk22_i (wk4_1 hky1) hi3)) rfl (cX1_likely_ok l E M ((ky1 + 1) + 2 + Int32.toNatClampNeg (M 68 (Int32.toNatClampNeg y4))) (wk22_i (wk4_1 hky1) hi3) hc5) (cwV 0 hts gl_X8_34 rfl rfl rfl cdX1_likely ⟨Nat.le_of_ble_eq_true rfl, Nat.le_of_ble_eq_true rfl⟩) rfl hl.1 rfl (Nat.le_of_ble_eq_true rfl) dX8_cost_41 ⟨Nat.zero_le _, Nat.zero_le _⟩ hW hS rfl (fun H locs hW hS => ?_)
    refine lv_iload_n hx hb dX8_cost_44 rfl (lv_at hl 0 rfl) ?_
    refine lv_imul hx hb dX8_cost_45 ?_
    refine lv_iadd hx hb dX8_cost_46 ?_
    refine lv_topi (fun x7 ex7 => ?_)
    replace hf := wlet_y ex7 hf
    refine lv_istore_n (lv' := [(3, .int x7), (2, .int x4), (5, .ref (wad E ((ky1 + 1) + 2 + Int32.toNatClampNeg (M 68 (Int32.toNatClampNeg y4))))), (0, .ref (wad E 67)), (1, .ref (wad E ky1)), (4, .int y4)]) hx hb dX8_cost_47 rfl hl (by decide) rfl (fun ls hl => ?_)
    obtain ⟨x8, ex8, hf⟩ := wlet_e hf
    refine lv_iinc (v := x8) (lv' := [(4, .int x8), (3, .int x7), (2, .int x4), (5, .ref (wad E ((ky1 + 1) + 2 + Int32.toNatClampNeg (M 68 (Int32.toNatClampNeg y4))))), (0, .ref (wad E 67)), (1, .ref (wad E ky1))]) hx hb dX8_cost_48 hl (k := 5) rfl (by rw [ex8]; rfl) (by decide) rfl (fun ls hl => ?_)
    refine lv_goto (tgt := 7) hx hb dX8_cost_51 (by decide) ?_
    exact hrec7 x4 x7 x8 hf _ _ _ hW hS (lv_sub hl [4, 5, 2, 1, 0] rfl)
set_option maxRecDepth 100000 in
set_option maxHeartbeats 4000000 in
theorem pX8_cost_7 (B : wB E p s m args meth c cX8_cost 6 RX8 (some .int)) {M : wMem} {ky1 : Nat} {y2 : Int32} {y3 : Int32} {y4 : Int32}  {res : Int32} (hky1 : wkd ky1 = 4)  (hf : fX8_cost_7 M  ky1 y2 y3 y4 = some res) {H : Heap} {locs : List Loc} {ls : Array Slot} (hW : wH E M H) (hS : va_S (wA E) s.heap H locs) (hl : lv_has ls 6 [(0, .ref (wad E 67)), (1, .ref (wad E ky1)), (2, .int y2), (3, .int y3), (4, .int y4)]) : W p l e ({ frames := 2, cells := 0, slots := 0, locals := 41 } : Room) s m args below meth c H locs 0 0 (MQ below (wQ E (some (.int res)) M) args s 0 0 (wA E)) (F0 m 7 ls []) := by
  have key := wloop_W (b := (fun rec7 t => fX8_cost_7_b M  rec7 ky1 t.1 t.2.1 t.2.2)) (P := fun t => ∀ (H : Heap) (locs : List Loc) (ls : Array Slot), wH E M H → va_S (wA E) s.heap H locs → lv_has ls 6 [(0, .ref (wad E 67)), (1, .ref (wad E ky1)), (2, .int t.1), (3, .int t.2.1), (4, .int t.2.2)] → W p l e ({ frames := 2, cells := 0, slots := 0, locals := 41 } : Room) s m args below meth c H locs 0 0 (MQ below (wQ E (some (.int res)) M) args s 0 0 (wA E)) (F0 m 7 ls [])) (r := res) (fun rec hrec t hf H locs ls hW hS hl => pX8_cost_7_b B hky1  (fun v0 v1 v2 hf H locs ls hW hS hl => hrec (v0, v1, v2) hf H locs ls hW hS hl) hf hW hS hl)
  exact key wfuel (y2, y3, y4) hf H locs ls hW hS hl
set_option maxRecDepth 100000 in
set_option maxHeartbeats 4000000 in
theorem pX8_cost (B : wB E p s m args meth c cX8_cost 6 RX8 (some .int)) {M : wMem} {k1 : Nat} (hk1 : wkd k1 = 4) {res : Int32} (hf : fX8_cost M k1 = some res) {H : Heap} {locs : List Loc} {ls : Array Slot} (hW : wH E M H) (hS : va_S (wA E) s.heap H locs) (hl : lv_has ls 6 [(0, .ref (wad E 67)), (1, .ref (wad E k1))]) : W p l e ({ frames := 2, cells := 0, slots := 0, locals := 41 } : Room) s m args below meth c H locs 0 0 (MQ below (wQ E (some (.int res)) M) args s 0 0 (wA E)) (F0 m 0 ls []) := by
  unfold fX8_cost at hf
  obtain ⟨hx, hb, hr, hml, hown, hts, hlocks, hG, hV, hZ⟩ := id B
  refine lv_iconst (v := 0) hx hb dX8_cost_0 rfl ?_
  refine lv_istore_n (lv' := [(2, .int 0), (0, .ref (wad E 67)), (1, .ref (wad E k1))]) hx hb dX8_cost_1 rfl hl (by decide) rfl (fun ls hl => ?_)
  refine lv_iconst (v := 0) hx hb dX8_cost_2 rfl ?_
  refine lv_istore_n (lv' := [(3, .int 0), (2, .int 0), (0, .ref (wad E 67)), (1, .ref (wad E k1))]) hx hb dX8_cost_3 rfl hl (by decide) rfl (fun ls hl => ?_)
  refine lv_iconst (v := 0) hx hb dX8_cost_4 rfl ?_
  refine lv_istore (lv' := [(4, .int 0), (3, .int 0), (2, .int 0), (0, .ref (wad E 67)), (1, .ref (wad E k1))]) hx hb dX8_cost_5 hl (by decide) rfl (fun ls hl => ?_)
  exact pX8_cost_7 B hk1  hf hW hS (lv_sub hl [3, 4, 2, 1, 0] rfl)
theorem cX8_cost_ok (l : Launch) (E : wE) (M : wMem) (k1 : Nat) (hk1 : wkd k1 = 4) {res : Int32} (hf : fX8_cost M k1 = some res) : wMet l yX8_cost (wsM yX8_cost cX8_cost 6 (some .int)) ({ frames := 2, cells := 0, slots := 0, locals := 41 } : Room) E M [.ref (wad E 67), .ref (wad E k1)] (some (.int res)) M :=
  wc_of (cc := cX8_cost) (maxL := 6) (ret := (some .int)) (by decide) (Nat.le_of_ble_eq_true rfl) (fun _ _ _ _ _ _ _ _ B hW hl => pX8_cost B hk1 hf hW va_S.rf hl)
end
theorem cdX9_orderSum : yX9_orderSum.cls = RX9 ∧ yX9_orderSum.cls ≠ "java/lang/invoke/MethodHandle" ∧ yX9_orderSum.cls ≠ "java/lang/invoke/VarHandle" ∧ (parseMethodDescriptor yX9_orderSum.desc).map (fun d => d.parameters.length) = some 0 := by decide +kernel
section
variable {p : Program} {l : Launch} {e : Env} {s : State} {m : MethodId} {args : Array Value} {below : List Frame} {meth : Method} {c : Code} {E : wE}
set_option maxRecDepth 100000 in
set_option maxHeartbeats 4000000 in
theorem pX9_orderSum (B : wB E p s m args meth c cX9_orderSum 1 RX9 (some .int)) {M : wMem}   {res : Int32 × wMem} (hf : fX9_orderSum M  = some res) {H : Heap} {locs : List Loc} {ls : Array Slot} (hW : wH E M H) (hS : va_S (wA E) s.heap H locs) (hl : lv_has ls 1 [(0, .ref (wad E 0))]) : W p l e ({ frames := 4, cells := 0, slots := 0, locals := 85 } : Room) s m args below meth c H locs 0 0 (MQ below (wQ E (some (.int res.1)) res.2) args s 0 0 (wA E)) (F0 m 0 ls []) := by
  unfold fX9_orderSum at hf
  obtain ⟨hx, hb, hr, hml, hown, hts, hlocks, hG, hV, hZ⟩ := id B
  refine lv_aload_n hx hb dX9_orderSum_0 rfl (lv_at hl 0 rfl) ?_
  refine wm_get hx hb hts wu_X9 hown hV hW (wlt_8 (rfl : wkd 0 = 8)) (wen_8 (rfl : wkd 0 = 8)) (C := RX9) (T := TX9) (N := 10) rfl 0 (by decide) (hts _ wA_231) rfl dX9_orderSum_1 ?_
  refine wm_get hx hb hts wu_X5 hown hV hW (wlt_4 (rfl : wkd 1 = 4)) (wen_4 (rfl : wkd 1 = 4)) (C := RX5) (T := TX5) (N := 4) rfl 2 (by decide) (hts _ wA_121) rfl dX9_orderSum_4 ?_
  rcases wif_e hf with ⟨hq1, hf⟩ | ⟨hq1, hf⟩
  · refine lv_if_ne (tgt := 17) hx hb dX9_orderSum_7 (by decide) (fun h => absurd hq1 h) (fun _ => ?_)
    refine lv_aload_n hx hb dX9_orderSum_10 rfl (lv_at hl 0 rfl) ?_
    refine lv_bipush (v := (-3)) hx hb dX9_orderSum_11 (by decide) ?_
    obtain ⟨r8, M9, hc7, hf⟩ := wbind_p hf
    refine wc_V (As := [.int (-3)]) (rest := []) hx hb hml hown hts hG hV hZ (wlt_8 (rfl : wkd 0 = 8)) (q := (RX9, TX9, 10)) (wen_8 (rfl : wkd 0 = 8)) rfl (cX9_refuse_ok l E M (-3) hc7) (cwV 1 hts gl_X9_65 rfl rfl rfl cdX9_refuse ⟨Nat.le_of_ble_eq_true rfl, Nat.le_of_ble_eq_true rfl⟩) rfl hl.1 rfl (Nat.le_of_ble_eq_true rfl) dX9_orderSum_13 ⟨Nat.zero_le _, Nat.zero_le _⟩ hW hS rfl (fun H locs hW hS => ?_)
    have hres := Option.some.inj hf
    subst hres
    exact W.iret hx hb hr (wr_q hG hV hZ hW hS) hS.2.2 dX9_orderSum_16
  · refine lv_if_ne (tgt := 17) hx hb dX9_orderSum_7 (by decide) (fun _ => ?_) (fun h => absurd h hq1)
    refine lv_aload_n hx hb dX9_orderSum_17 rfl (lv_at hl 0 rfl) ?_
    refine wm_get hx hb hts wu_X9 hown hV hW (wlt_8 (rfl : wkd 0 = 8)) (wen_8 (rfl : wkd 0 = 8)) (C := RX9) (T := TX9) (N := 10) rfl 7 (by decide) (hts _ wA_238) rfl dX9_orderSum_18 ?_
    refine lv_aload_n hx hb dX9_orderSum_21 rfl (lv_at hl 0 rfl) ?_
    refine wm_get hx hb hts wu_X9 hown hV hW (wlt_8 (rfl : wkd 0 = 8)) (wen_8 (rfl : wkd 0 = 8)) (C := RX9) (T := TX9) (N := 10) rfl 0 (by decide) (hts _ wA_231) rfl dX9_orderSum_22 ?_
    obtain ⟨M4, hc2, hf⟩ := wbind_e hf
    refine wc_V (As := [.ref (wad E 1)]) (rest := []) hx hb hml hown hts hG hV hZ (wlt_7 (rfl : wkd 67 = 7)) (q := (RX8, TX8, 1)) (wen_7 (rfl : wkd 67 = 7)) rfl (cX8_arrange_ok l E M 1 (rfl : wkd 1 = 4) hc2) (cwV 1 hts gl_X9_173 rfl rfl rfl cdX8_arrange ⟨Nat.le_of_ble_eq_true rfl, Nat.le_of_ble_eq_true rfl⟩) rfl hl.1 rfl (Nat.le_of_ble_eq_true rfl) dX9_orderSum_25 ⟨Nat.zero_le _, Nat.zero_le _⟩ hW hS rfl (fun H locs hW hS => ?_)
    refine lv_aload_n hx hb dX9_orderSum_28 rfl (lv_at hl 0 rfl) ?_
    refine wm_get hx hb hts wu_X9 hown hV hW (wlt_8 (rfl : wkd 0 = 8)) (wen_8 (rfl : wkd 0 = 8)) (C := RX9) (T := TX9) (N := 10) rfl 7 (by decide) (hts _ wA_238) rfl dX9_orderSum_29 ?_
    refine lv_aload_n hx hb dX9_orderSum_32 rfl (lv_at hl 0 rfl) ?_
    refine wm_get hx hb hts wu_X9 hown hV hW (wlt_8 (rfl : wkd 0 = 8)) (wen_8 (rfl : wkd 0 = 8)) (C := RX9) (T := TX9) (N := 10) rfl 0 (by decide) (hts _ wA_231) rfl dX9_orderSum_33 ?_
    obtain ⟨r6, hc5, hf⟩ := wbind_e hf
    refine wc_V (As := [.ref (wad E 1)]) (rest := []) hx hb hml hown hts hG hV hZ (wlt_7 (rfl : wkd 67 = 7)) (q := (RX8, TX8, 1)) (wen_7 (rfl : wkd 67 = 7)) rfl (cX8_cost_ok l E M4 1 (rfl : wkd 1 = 4) hc5) (cwV 1 hts gl_X9_180 rfl rfl rfl cdX8_cost ⟨Nat.le_of_ble_eq_true rfl, Nat.le_of_ble_eq_true rfl⟩) rfl hl.1 rfl (Nat.le_of_ble_eq_true rfl) dX9_orderSum_36 ⟨Nat.zero_le _, Nat.zero_le _⟩ hW hS rfl (fun H locs hW hS => ?_)
    have hres := Option.some.inj hf
    subst hres
    exact W.iret hx hb hr (wr_q hG hV hZ hW hS) hS.2.2 dX9_orderSum_39
theorem cX9_orderSum_ok (l : Launch) (E : wE) (M : wMem)  {res : Int32 × wMem} (hf : fX9_orderSum M  = some res) : wMet l yX9_orderSum (wsM yX9_orderSum cX9_orderSum 1 (some .int)) ({ frames := 4, cells := 0, slots := 0, locals := 85 } : Room) E M [.ref (wad E 0)] (some (.int res.1)) res.2 :=
  wc_of (cc := cX9_orderSum) (maxL := 1) (ret := (some .int)) (by decide) (Nat.le_of_ble_eq_true rfl) (fun _ _ _ _ _ _ _ _ B hW hl => pX9_orderSum B  hf hW va_S.rf hl)
end
theorem cdX3_add : yX3_add.cls = RX3 ∧ yX3_add.cls ≠ "java/lang/invoke/MethodHandle" ∧ yX3_add.cls ≠ "java/lang/invoke/VarHandle" ∧ (parseMethodDescriptor yX3_add.desc).map (fun d => d.parameters.length) = some 2 := by decide +kernel
section
variable {p : Program} {l : Launch} {e : Env} {s : State} {m : MethodId} {args : Array Value} {below : List Frame} {meth : Method} {c : Code} {E : wE}
set_option maxRecDepth 100000 in
set_option maxHeartbeats 4000000 in
theorem pX3_add (B : wB E p s m args meth c cX3_add 3 RX3 none) {M : wMem} {a1 : Int32} {a2 : Int32}  {res : wMem} (hf : fX3_add M a1 a2 = some res) {H : Heap} {locs : List Loc} {ls : Array Slot} (hW : wH E M H) (hS : va_S (wA E) s.heap H locs) (hl : lv_has ls 3 [(0, .ref (wad E 50)), (1, .int a1), (2, .int a2)]) : W p l e ({ frames := 0, cells := 0, slots := 0, locals := 0 } : Room) s m args below meth c H locs 0 0 (MQ below (wQ E none res) args s 0 0 (wA E)) (F0 m 0 ls []) := by
  unfold fX3_add at hf
  obtain ⟨hx, hb, hr, hml, hown, hts, hlocks, hG, hV, hZ⟩ := id B
  refine lv_aload_n hx hb dX3_add_0 rfl (lv_at hl 0 rfl) ?_
  refine wm_get hx hb hts wu_X3 hown hV hW (wlt_2 (rfl : wkd 50 = 2)) (wen_2 (rfl : wkd 50 = 2)) (C := RX3) (T := TX3) (N := 3) rfl 2 (by decide) (hts _ wA_199) rfl dX3_add_1 ?_
  refine lv_bipush (v := 6) hx hb dX3_add_4 (by decide) ?_
  rcases wif_e hf with ⟨hq1, hf⟩ | ⟨hq1, hf⟩
  · refine lv_icmp_ge (tgt := 39) hx hb dX3_add_6 (by decide) (fun _ => ?_) (fun h => absurd hq1 h)
    have hres := Option.some.inj hf
    subst hres
    exact W.vret hx hb hr (wr_q hG hV hZ hW hS) hS.2.2 dX3_add_39
  · refine lv_icmp_ge (tgt := 39) hx hb dX3_add_6 (by decide) (fun h => absurd h hq1) (fun _ => ?_)
    refine lv_aload_n hx hb dX3_add_9 rfl (lv_at hl 0 rfl) ?_
    refine wm_get hx hb hts wu_X3 hown hV hW (wlt_2 (rfl : wkd 50 = 2)) (wen_2 (rfl : wkd 50 = 2)) (C := RX3) (T := TX3) (N := 3) rfl 0 (by decide) (hts _ wA_197) rfl dX3_add_10 ?_
    refine lv_aload_n hx hb dX3_add_13 rfl (lv_at hl 0 rfl) ?_
    refine wm_get hx hb hts wu_X3 hown hV hW (wlt_2 (rfl : wkd 50 = 2)) (wen_2 (rfl : wkd 50 = 2)) (C := RX3) (T := TX3) (N := 3) rfl 2 (by decide) (hts _ wA_199) rfl dX3_add_14 ?_
    refine lv_iload_n hx hb dX3_add_17 rfl (lv_at hl 1 rfl) ?_
    obtain ⟨hi2, hf⟩ := wgi_e hf
    refine wm_iast hx hb hG hV hW hS (rfl : wkd 51 = 21) (n := 6) rfl hi2 dX3_add_18 (fun H locs hW hS => ?_)
    obtain ⟨M3, hW, hf⟩ := wlet_M hW hf
    refine lv_aload_n hx hb dX3_add_19 rfl (lv_at hl 0 rfl) ?_
    refine wm_get hx hb hts wu_X3 hown hV hW (wlt_2 (rfl : wkd 50 = 2)) (wen_2 (rfl : wkd 50 = 2)) (C := RX3) (T := TX3) (N := 3) rfl 1 (by decide) (hts _ wA_198) rfl dX3_add_20 ?_
    refine lv_aload_n hx hb dX3_add_23 rfl (lv_at hl 0 rfl) ?_
    refine wm_get hx hb hts wu_X3 hown hV hW (wlt_2 (rfl : wkd 50 = 2)) (wen_2 (rfl : wkd 50 = 2)) (C := RX3) (T := TX3) (N := 3) rfl 2 (by decide) (hts _ wA_199) rfl dX3_add_24 ?_
    refine lv_iload_n hx hb dX3_add_27 rfl (lv_at hl 2 rfl) ?_
    obtain ⟨hi4, hf⟩ := wgi_e hf
    refine wm_iast hx hb hG hV hW hS (rfl : wkd 52 = 21) (n := 6) rfl hi4 dX3_add_28 (fun H locs hW hS => ?_)
    obtain ⟨M5, hW, hf⟩ := wlet_M hW hf
    refine lv_aload_n hx hb dX3_add_29 rfl (lv_at hl 0 rfl) ?_
    refine lv_dup hx hb dX3_add_30 rfl ?_
    refine wm_get hx hb hts wu_X3 hown hV hW (wlt_2 (rfl : wkd 50 = 2)) (wen_2 (rfl : wkd 50 = 2)) (C := RX3) (T := TX3) (N := 3) rfl 2 (by decide) (hts _ wA_199) rfl dX3_add_31 ?_
    refine lv_iconst (v := 1) hx hb dX3_add_34 rfl ?_
    refine lv_iadd hx hb dX3_add_35 ?_
    refine wm_put hx hb hts wu_X3 tyX3 tyX3_ok nmX3 hown hG hV hW hS (wlt_2 (rfl : wkd 50 = 2)) (wen_2 (rfl : wkd 50 = 2)) (C := RX3) (T := TX3) (N := 3) rfl 2 (by decide) (hts _ wA_199) rfl .int _ (tyX3_ok 2 (by decide)) rfl rfl (Nat.le_of_ble_eq_true rfl) (wpt_2_2 (rfl : wkd 50 = 2)) dX3_add_36 (fun H locs hW hS => ?_)
    obtain ⟨M6, hW, hf⟩ := wlet_M hW hf
    have hres := Option.some.inj hf
    subst hres
    exact W.vret hx hb hr (wr_q hG hV hZ hW hS) hS.2.2 dX3_add_39
theorem cX3_add_ok (l : Launch) (E : wE) (M : wMem) (a1 : Int32) (a2 : Int32) {res : wMem} (hf : fX3_add M a1 a2 = some res) : wMet l yX3_add (wsM yX3_add cX3_add 3 none) ({ frames := 0, cells := 0, slots := 0, locals := 0 } : Room) E M [.ref (wad E 50), .int a1, .int a2] none res :=
  wc_of (cc := cX3_add) (maxL := 3) (ret := none) (by decide) (Nat.le_of_ble_eq_true rfl) (fun _ _ _ _ _ _ _ _ B hW hl => pX3_add B  hf hW va_S.rf hl)
end
theorem cdX9_told : yX9_told.cls = RX9 ∧ yX9_told.cls ≠ "java/lang/invoke/MethodHandle" ∧ yX9_told.cls ≠ "java/lang/invoke/VarHandle" ∧ (parseMethodDescriptor yX9_told.desc).map (fun d => d.parameters.length) = some 2 := by decide +kernel
section
variable {p : Program} {l : Launch} {e : Env} {s : State} {m : MethodId} {args : Array Value} {below : List Frame} {meth : Method} {c : Code} {E : wE}
set_option maxRecDepth 100000 in
set_option maxHeartbeats 4000000 in
theorem pX9_told_33 (B : wB E p s m args meth c cX9_told 3 RX9 (some .int)) {M : wMem} {y1 : Int32} {y2 : Int32}  {res : Int32 × wMem}   (hf : fX9_told_33 M  y1 y2 = some res) {H : Heap} {locs : List Loc} {ls : Array Slot} (hW : wH E M H) (hS : va_S (wA E) s.heap H locs) (hl : lv_has ls 3 [(0, .ref (wad E 0)), (1, .int y1), (2, .int y2)]) : W p l e ({ frames := 1, cells := 0, slots := 0, locals := 22 } : Room) s m args below meth c H locs 0 0 (MQ below (wQ E (some (.int res.1)) res.2) args s 0 0 (wA E)) (F0 m 33 ls []) := by
  unfold fX9_told_33 at hf
  obtain ⟨hx, hb, hr, hml, hown, hts, hlocks, hG, hV, hZ⟩ := id B
  refine lv_aload_n hx hb dX9_told_33 rfl (lv_at hl 0 rfl) ?_
  refine wm_get hx hb hts wu_X9 hown hV hW (wlt_8 (rfl : wkd 0 = 8)) (wen_8 (rfl : wkd 0 = 8)) (C := RX9) (T := TX9) (N := 10) rfl 5 (by decide) (hts _ wA_236) rfl dX9_told_34 ?_
  refine wm_get hx hb hts wu_X3 hown hV hW (wlt_2 (rfl : wkd 50 = 2)) (wen_2 (rfl : wkd 50 = 2)) (C := RX3) (T := TX3) (N := 3) rfl 2 (by decide) (hts _ wA_200) rfl dX9_told_37 ?_
  refine lv_bipush (v := 6) hx hb dX9_told_40 (by decide) ?_
  rcases wif_e hf with ⟨hq5, hf⟩ | ⟨hq5, hf⟩
  · refine lv_icmp_lt (tgt := 52) hx hb dX9_told_42 (by decide) (fun _ => ?_) (fun h => absurd hq5 h)
    refine lv_aload_n hx hb dX9_told_52 rfl (lv_at hl 0 rfl) ?_
    refine wm_get hx hb hts wu_X9 hown hV hW (wlt_8 (rfl : wkd 0 = 8)) (wen_8 (rfl : wkd 0 = 8)) (C := RX9) (T := TX9) (N := 10) rfl 5 (by decide) (hts _ wA_236) rfl dX9_told_53 ?_
    refine lv_iload_n hx hb dX9_told_56 rfl (lv_at hl 1 rfl) ?_
    refine lv_iload_n hx hb dX9_told_57 rfl (lv_at hl 2 rfl) ?_
    obtain ⟨M8, hc6, hf⟩ := wbind_e hf
    refine wc_V (As := [.int y1, .int y2]) (rest := []) hx hb hml hown hts hG hV hZ (wlt_2 (rfl : wkd 50 = 2)) (q := (RX3, TX3, 3)) (wen_2 (rfl : wkd 50 = 2)) rfl (cX3_add_ok l E M y1 y2 hc6) (cwV 2 hts gl_X9_184 rfl rfl rfl cdX3_add ⟨Nat.le_of_ble_eq_true rfl, Nat.le_of_ble_eq_true rfl⟩) rfl hl.1 rfl (Nat.le_of_ble_eq_true rfl) dX9_told_58 ⟨Nat.zero_le _, Nat.zero_le _⟩ hW hS rfl (fun H locs hW hS => ?_)
    refine lv_aload_n hx hb dX9_told_61 rfl (lv_at hl 0 rfl) ?_
    refine wm_get hx hb hts wu_X9 hown hV hW (wlt_8 (rfl : wkd 0 = 8)) (wen_8 (rfl : wkd 0 = 8)) (C := RX9) (T := TX9) (N := 10) rfl 5 (by decide) (hts _ wA_236) rfl dX9_told_62 ?_
    refine wm_get hx hb hts wu_X3 hown hV hW (wlt_2 (rfl : wkd 50 = 2)) (wen_2 (rfl : wkd 50 = 2)) (C := RX3) (T := TX3) (N := 3) rfl 2 (by decide) (hts _ wA_200) rfl dX9_told_65 ?_
    have hres := Option.some.inj hf
    subst hres
    exact W.iret hx hb hr (wr_q hG hV hZ hW hS) hS.2.2 dX9_told_68
  · refine lv_icmp_lt (tgt := 52) hx hb dX9_told_42 (by decide) (fun h => absurd h hq5) (fun _ => ?_)
    refine lv_aload_n hx hb dX9_told_45 rfl (lv_at hl 0 rfl) ?_
    refine lv_bipush (v := (-6)) hx hb dX9_told_46 (by decide) ?_
    obtain ⟨r10, M11, hc9, hf⟩ := wbind_p hf
    refine wc_V (As := [.int (-6)]) (rest := []) hx hb hml hown hts hG hV hZ (wlt_8 (rfl : wkd 0 = 8)) (q := (RX9, TX9, 10)) (wen_8 (rfl : wkd 0 = 8)) rfl (cX9_refuse_ok l E M (-6) hc9) (cwV 1 hts gl_X9_65 rfl rfl rfl cdX9_refuse ⟨Nat.le_of_ble_eq_true rfl, Nat.le_of_ble_eq_true rfl⟩) rfl hl.1 rfl (Nat.le_of_ble_eq_true rfl) dX9_told_48 ⟨Nat.zero_le _, Nat.zero_le _⟩ hW hS rfl (fun H locs hW hS => ?_)
    have hres := Option.some.inj hf
    subst hres
    exact W.iret hx hb hr (wr_q hG hV hZ hW hS) hS.2.2 dX9_told_51
set_option maxRecDepth 100000 in
set_option maxHeartbeats 4000000 in
theorem pX9_told (B : wB E p s m args meth c cX9_told 3 RX9 (some .int)) {M : wMem} {a1 : Int32} {a2 : Int32}  {res : Int32 × wMem} (hf : fX9_told M a1 a2 = some res) {H : Heap} {locs : List Loc} {ls : Array Slot} (hW : wH E M H) (hS : va_S (wA E) s.heap H locs) (hl : lv_has ls 3 [(0, .ref (wad E 0)), (1, .int a1), (2, .int a2)]) : W p l e ({ frames := 1, cells := 0, slots := 0, locals := 22 } : Room) s m args below meth c H locs 0 0 (MQ below (wQ E (some (.int res.1)) res.2) args s 0 0 (wA E)) (F0 m 0 ls []) := by
  unfold fX9_told at hf
  obtain ⟨hx, hb, hr, hml, hown, hts, hlocks, hG, hV, hZ⟩ := id B
  refine lv_aload_n hx hb dX9_told_0 rfl (lv_at hl 0 rfl) ?_
  refine wm_get hx hb hts wu_X9 hown hV hW (wlt_8 (rfl : wkd 0 = 8)) (wen_8 (rfl : wkd 0 = 8)) (C := RX9) (T := TX9) (N := 10) rfl 0 (by decide) (hts _ wA_231) rfl dX9_told_1 ?_
  refine lv_iload_n hx hb dX9_told_4 rfl (lv_at hl 1 rfl) ?_
  obtain ⟨r2, hc1, hf⟩ := wbind_e hf
  refine wc_V (As := [.int a1]) (rest := []) hx hb hml hown hts hG hV hZ (wlt_4 (rfl : wkd 1 = 4)) (q := (RX5, TX5, 4)) (wen_4 (rfl : wkd 1 = 4)) rfl (cX5_has_ok l E M 1 (rfl : wkd 1 = 4) a1 hc1) (cwV 1 hts gl_X9_93 rfl rfl rfl cdX5_has ⟨Nat.le_of_ble_eq_true rfl, Nat.le_of_ble_eq_true rfl⟩) rfl hl.1 rfl (Nat.le_of_ble_eq_true rfl) dX9_told_5 ⟨Nat.zero_le _, Nat.zero_le _⟩ hW hS rfl (fun H locs hW hS => ?_)
  rcases wif_e hf with ⟨hq3, hf⟩ | ⟨hq3, hf⟩
  · refine lv_if_ne (tgt := 17) hx hb dX9_told_8 (by decide) (fun h => absurd hq3 h) (fun _ => ?_)
    refine lv_aload_n hx hb dX9_told_11 rfl (lv_at hl 0 rfl) ?_
    refine lv_iconst (v := (-1)) hx hb dX9_told_12 rfl ?_
    obtain ⟨r17, M18, hc16, hf⟩ := wbind_p hf
    refine wc_V (As := [.int (-1)]) (rest := []) hx hb hml hown hts hG hV hZ (wlt_8 (rfl : wkd 0 = 8)) (q := (RX9, TX9, 10)) (wen_8 (rfl : wkd 0 = 8)) rfl (cX9_refuse_ok l E M (-1) hc16) (cwV 1 hts gl_X9_65 rfl rfl rfl cdX9_refuse ⟨Nat.le_of_ble_eq_true rfl, Nat.le_of_ble_eq_true rfl⟩) rfl hl.1 rfl (Nat.le_of_ble_eq_true rfl) dX9_told_13 ⟨Nat.zero_le _, Nat.zero_le _⟩ hW hS rfl (fun H locs hW hS => ?_)
    have hres := Option.some.inj hf
    subst hres
    exact W.iret hx hb hr (wr_q hG hV hZ hW hS) hS.2.2 dX9_told_16
  · refine lv_if_ne (tgt := 17) hx hb dX9_told_8 (by decide) (fun _ => ?_) (fun h => absurd h hq3)
    refine lv_iload_n hx hb dX9_told_17 rfl (lv_at hl 2 rfl) ?_
    rcases wif_e hf with ⟨hq4, hf⟩ | ⟨hq4, hf⟩
    · refine lv_if_eq (tgt := 33) hx hb dX9_told_18 (by decide) (fun _ => ?_) (fun h => absurd hq4 h)
      exact pX9_told_33 B   hf hW hS (lv_sub hl [0, 1, 2] rfl)
    · refine lv_if_eq (tgt := 33) hx hb dX9_told_18 (by decide) (fun h => absurd h hq4) (fun _ => ?_)
      refine lv_iload_n hx hb dX9_told_21 rfl (lv_at hl 2 rfl) ?_
      refine lv_iconst (v := 1) hx hb dX9_told_22 rfl ?_
      rcases wif_e hf with ⟨hq12, hf⟩ | ⟨hq12, hf⟩
      · refine lv_icmp_eq (tgt := 33) hx hb dX9_told_23 (by decide) (fun _ => ?_) (fun h => absurd hq12 h)
        exact pX9_told_33 B   hf hW hS (lv_sub hl [0, 1, 2] rfl)
      · refine lv_icmp_eq (tgt := 33) hx hb dX9_told_23 (by decide) (fun h => absurd h hq12) (fun _ => ?_)
        refine lv_aload_n hx hb dX9_told_26 rfl (lv_at hl 0 rfl) ?_
        refine lv_bipush (v := (-2)) hx hb dX9_told_27 (by decide) ?_
        obtain ⟨r14, M15, hc13, hf⟩ := wbind_p hf
        refine wc_V (As := [.int (-2)]) (rest := []) hx hb hml hown hts hG hV hZ (wlt_8 (rfl : wkd 0 = 8)) (q := (RX9, TX9, 10)) (wen_8 (rfl : wkd 0 = 8)) rfl (cX9_refuse_ok l E M (-2) hc13) (cwV 1 hts gl_X9_65 rfl rfl rfl cdX9_refuse ⟨Nat.le_of_ble_eq_true rfl, Nat.le_of_ble_eq_true rfl⟩) rfl hl.1 rfl (Nat.le_of_ble_eq_true rfl) dX9_told_29 ⟨Nat.zero_le _, Nat.zero_le _⟩ hW hS rfl (fun H locs hW hS => ?_)
        have hres := Option.some.inj hf
        subst hres
        exact W.iret hx hb hr (wr_q hG hV hZ hW hS) hS.2.2 dX9_told_32
theorem cX9_told_ok (l : Launch) (E : wE) (M : wMem) (a1 : Int32) (a2 : Int32) {res : Int32 × wMem} (hf : fX9_told M a1 a2 = some res) : wMet l yX9_told (wsM yX9_told cX9_told 3 (some .int)) ({ frames := 1, cells := 0, slots := 0, locals := 22 } : Room) E M [.ref (wad E 0), .int a1, .int a2] (some (.int res.1)) res.2 :=
  wc_of (cc := cX9_told) (maxL := 3) (ret := (some .int)) (by decide) (Nat.le_of_ble_eq_true rfl) (fun _ _ _ _ _ _ _ _ B hW hl => pX9_told B  hf hW va_S.rf hl)
end
theorem cdX3_leftAfter : yX3_leftAfter.cls = RX3 ∧ yX3_leftAfter.cls ≠ "java/lang/invoke/MethodHandle" ∧ yX3_leftAfter.cls ≠ "java/lang/invoke/VarHandle" ∧ (parseMethodDescriptor yX3_leftAfter.desc).map (fun d => d.parameters.length) = some 2 := by decide +kernel
section
variable {p : Program} {l : Launch} {e : Env} {s : State} {m : MethodId} {args : Array Value} {below : List Frame} {meth : Method} {c : Code} {E : wE}
set_option maxRecDepth 100000 in
set_option maxHeartbeats 4000000 in
theorem pX3_leftAfter_58 (B : wB E p s m args meth c cX3_leftAfter 6 RX3 (some .int)) {M : wMem} {y1 : Int32} {y4 : Int32} {z0 : Int32} {z1 : Int32} {rec9 : (Int32 × Int32 → Option (Int32))} {res : Int32}  (hrec9 : ∀ (y3' : Int32) (y4' : Int32), rec9 (y3', y4') = some res → ∀ (H : Heap) (locs : List Loc) (ls : Array Slot), wH E M H → va_S (wA E) s.heap H locs → lv_has ls 6 [(0, .ref (wad E 50)), (1, .int y1), (3, .int y3'), (4, .int y4')] → W p l e ({ frames := 0, cells := 0, slots := 0, locals := 0 } : Room) s m args below meth c H locs 0 0 (MQ below (wQ E (some (.int res)) M) args s 0 0 (wA E)) (F0 m 9 ls [])) (hf : fX3_leftAfter_58 M rec9 y1 y4 z0 z1 = some res) {H : Heap} {locs : List Loc} {ls : Array Slot} (hW : wH E M H) (hS : va_S (wA E) s.heap H locs) (hl : lv_has ls 6 [(0, .ref (wad E 50)), (1, .int y1), (4, .int y4)]) : W p l e ({ frames := 0, cells := 0, slots := 0, locals := 0 } : Room) s m args below meth c H locs 0 0 (MQ below (wQ E (some (.int res)) M) args s 0 0 (wA E)) (F0 m 58 ls [.int z1, .int z0]) := by
  unfold fX3_leftAfter_58 at hf
  obtain ⟨hx, hb, hr, hml, hown, hts, hlocks, hG, hV, hZ⟩ := id B
  refine lv_iand hx hb dX3_leftAfter_58 ?_
  refine lv_topi (fun x8 ex8 => ?_)
  replace hf := wlet_y ex8 hf
  refine lv_istore_n (lv' := [(3, .int x8), (0, .ref (wad E 50)), (1, .int y1), (4, .int y4)]) hx hb dX3_leftAfter_59 rfl hl (by decide) rfl (fun ls hl => ?_)
  obtain ⟨x9, ex9, hf⟩ := wlet_e hf
  refine lv_iinc (v := x9) (lv' := [(4, .int x9), (3, .int x8), (0, .ref (wad E 50)), (1, .int y1)]) hx hb dX3_leftAfter_60 hl (k := 3) rfl (by rw [ex9]; rfl) (by decide) rfl (fun ls hl => ?_)
  refine lv_goto (tgt := 9) hx hb dX3_leftAfter_63 (by decide) ?_
  exact hrec9 x8 x9 hf _ _ _ hW hS (lv_sub hl [2, 3, 1, 0] rfl)
set_option maxRecDepth 100000 in
set_option maxHeartbeats 4000000 in
theorem pX3_leftAfter_9_b (B : wB E p s m args meth c cX3_leftAfter 6 RX3 (some .int)) {M : wMem} {y1 : Int32} {y3 : Int32} {y4 : Int32}  {rec9 : (Int32 × Int32 → Option (Int32))} {res : Int32}   (hrec9 : ∀ (y3' : Int32) (y4' : Int32), rec9 (y3', y4') = some res → ∀ (H : Heap) (locs : List Loc) (ls : Array Slot), wH E M H → va_S (wA E) s.heap H locs → lv_has ls 6 [(0, .ref (wad E 50)), (1, .int y1), (3, .int y3'), (4, .int y4')] → W p l e ({ frames := 0, cells := 0, slots := 0, locals := 0 } : Room) s m args below meth c H locs 0 0 (MQ below (wQ E (some (.int res)) M) args s 0 0 (wA E)) (F0 m 9 ls [])) (hf : fX3_leftAfter_9_b M  rec9 y1 y3 y4 = some res) {H : Heap} {locs : List Loc} {ls : Array Slot} (hW : wH E M H) (hS : va_S (wA E) s.heap H locs) (hl : lv_has ls 6 [(0, .ref (wad E 50)), (1, .int y1), (3, .int y3), (4, .int y4)]) : W p l e ({ frames := 0, cells := 0, slots := 0, locals := 0 } : Room) s m args below meth c H locs 0 0 (MQ below (wQ E (some (.int res)) M) args s 0 0 (wA E)) (F0 m 9 ls []) := by
  unfold fX3_leftAfter_9_b at hf
  obtain ⟨hx, hb, hr, hml, hown, hts, hlocks, hG, hV, hZ⟩ := id B
  refine lv_iload hx hb dX3_leftAfter_9 (lv_at hl 3 rfl) ?_
  refine lv_iload_n hx hb dX3_leftAfter_11 rfl (lv_at hl 1 rfl) ?_
  rcases wif_e hf with ⟨hq2, hf⟩ | ⟨hq2, hf⟩
  · refine lv_icmp_ge (tgt := 66) hx hb dX3_leftAfter_12 (by decide) (fun _ => ?_) (fun h => absurd hq2 h)
    refine lv_iload_n hx hb dX3_leftAfter_66 rfl (lv_at hl 2 rfl) ?_
    have hres := Option.some.inj hf
    subst hres
    exact W.iret hx hb hr (wr_q hG hV hZ hW hS) hS.2.2 dX3_leftAfter_67
  · refine lv_icmp_ge (tgt := 66) hx hb dX3_leftAfter_12 (by decide) (fun h => absurd h hq2) (fun _ => ?_)
    refine lv_iload hx hb dX3_leftAfter_15 (lv_at hl 3 rfl) ?_
    refine lv_aload_n hx hb dX3_leftAfter_17 rfl (lv_at hl 0 rfl) ?_
    refine wm_get hx hb hts wu_X3 hown hV hW (wlt_2 (rfl : wkd 50 = 2)) (wen_2 (rfl : wkd 50 = 2)) (C := RX3) (T := TX3) (N := 3) rfl 2 (by decide) (hts _ wA_199) rfl dX3_leftAfter_18 ?_
    rcases wif_e hf with ⟨hq3, hf⟩ | ⟨hq3, hf⟩
    · refine lv_icmp_ge (tgt := 66) hx hb dX3_leftAfter_21 (by decide) (fun _ => ?_) (fun h => absurd hq3 h)
      refine lv_iload_n hx hb dX3_leftAfter_66 rfl (lv_at hl 2 rfl) ?_
      have hres := Option.some.inj hf
      subst hres
      exact W.iret hx hb hr (wr_q hG hV hZ hW hS) hS.2.2 dX3_leftAfter_67
    · refine lv_icmp_ge (tgt := 66) hx hb dX3_leftAfter_21 (by decide) (fun h => absurd h hq3) (fun _ => ?_)
      refine lv_iconst (v := 1) hx hb dX3_leftAfter_24 rfl ?_
      refine lv_aload_n hx hb dX3_leftAfter_25 rfl (lv_at hl 0 rfl) ?_
      refine wm_get hx hb hts wu_X3 hown hV hW (wlt_2 (rfl : wkd 50 = 2)) (wen_2 (rfl : wkd 50 = 2)) (C := RX3) (T := TX3) (N := 3) rfl 0 (by decide) (hts _ wA_197) rfl dX3_leftAfter_26 ?_
      refine lv_iload hx hb dX3_leftAfter_29 (lv_at hl 3 rfl) ?_
      obtain ⟨hi4, hf⟩ := wgi_e hf
      refine wm_iald hx hb hV hW (rfl : wkd 51 = 21) (n := 6) rfl hi4 dX3_leftAfter_31 ?_
      refine lv_ishl hx hb dX3_leftAfter_32 ?_
      refine lv_iconst (v := 1) hx hb dX3_leftAfter_33 rfl ?_
      refine lv_isub hx hb dX3_leftAfter_34 ?_
      refine lv_topi (fun x5 ex5 => ?_)
      replace hf := wlet_y ex5 hf
      refine lv_istore (lv' := [(5, .int x5), (0, .ref (wad E 50)), (1, .int y1), (3, .int y3), (4, .int y4)]) hx hb dX3_leftAfter_35 hl (by decide) rfl (fun ls hl => ?_)
      refine lv_iload_n hx hb dX3_leftAfter_37 rfl (lv_at hl 3 rfl) ?_
      refine lv_aload_n hx hb dX3_leftAfter_38 rfl (lv_at hl 1 rfl) ?_
      refine wm_get hx hb hts wu_X3 hown hV hW (wlt_2 (rfl : wkd 50 = 2)) (wen_2 (rfl : wkd 50 = 2)) (C := RX3) (T := TX3) (N := 3) rfl 1 (by decide) (hts _ wA_198) rfl dX3_leftAfter_39 ?_
      refine lv_iload hx hb dX3_leftAfter_42 (lv_at hl 4 rfl) ?_
      obtain ⟨hi6, hf⟩ := wgi_e hf
      refine wm_iald hx hb hV hW (rfl : wkd 52 = 21) (n := 6) rfl hi6 dX3_leftAfter_44 ?_
      refine lv_iconst (v := 1) hx hb dX3_leftAfter_45 rfl ?_
      rcases wif_e hf with ⟨hq7, hf⟩ | ⟨hq7, hf⟩
      · refine lv_icmp_ne (tgt := 56) hx hb dX3_leftAfter_46 (by decide) (fun h => absurd hq7 h) (fun _ => ?_)
        refine lv_iload hx hb dX3_leftAfter_49 (lv_at hl 0 rfl) ?_
        refine lv_iconst (v := (-1)) hx hb dX3_leftAfter_51 rfl ?_
        refine lv_ixor hx hb dX3_leftAfter_52 ?_
        refine lv_goto (tgt := 58) hx hb dX3_leftAfter_53 (by decide) ?_
        exact pX3_leftAfter_58 B  hrec9 hf hW hS (lv_sub hl [1, 2, 4] rfl)
      · refine lv_icmp_ne (tgt := 56) hx hb dX3_leftAfter_46 (by decide) (fun _ => ?_) (fun h => absurd h hq7)
        refine lv_iload hx hb dX3_leftAfter_56 (lv_at hl 0 rfl) ?_
        exact pX3_leftAfter_58 B  hrec9 hf hW hS (lv_sub hl [1, 2, 4] rfl)
set_option maxRecDepth 100000 in
set_option maxHeartbeats 4000000 in
theorem pX3_leftAfter_9 (B : wB E p s m args meth c cX3_leftAfter 6 RX3 (some .int)) {M : wMem} {y1 : Int32} {y3 : Int32} {y4 : Int32}  {res : Int32}   (hf : fX3_leftAfter_9 M  y1 y3 y4 = some res) {H : Heap} {locs : List Loc} {ls : Array Slot} (hW : wH E M H) (hS : va_S (wA E) s.heap H locs) (hl : lv_has ls 6 [(0, .ref (wad E 50)), (1, .int y1), (3, .int y3), (4, .int y4)]) : W p l e ({ frames := 0, cells := 0, slots := 0, locals := 0 } : Room) s m args below meth c H locs 0 0 (MQ below (wQ E (some (.int res)) M) args s 0 0 (wA E)) (F0 m 9 ls []) := by
  have key := wloop_W (b := (fun rec9 t => fX3_leftAfter_9_b M  rec9 y1 t.1 t.2)) (P := fun t => ∀ (H : Heap) (locs : List Loc) (ls : Array Slot), wH E M H → va_S (wA E) s.heap H locs → lv_has ls 6 [(0, .ref (wad E 50)), (1, .int y1), (3, .int t.1), (4, .int t.2)] → W p l e ({ frames := 0, cells := 0, slots := 0, locals := 0 } : Room) s m args below meth c H locs 0 0 (MQ below (wQ E (some (.int res)) M) args s 0 0 (wA E)) (F0 m 9 ls [])) (r := res) (fun rec hrec t hf H locs ls hW hS hl => pX3_leftAfter_9_b B   (fun v0 v1 hf H locs ls hW hS hl => hrec (v0, v1) hf H locs ls hW hS hl) hf hW hS hl)
  exact key wfuel (y3, y4) hf H locs ls hW hS hl
set_option maxRecDepth 100000 in
set_option maxHeartbeats 4000000 in
theorem pX3_leftAfter (B : wB E p s m args meth c cX3_leftAfter 6 RX3 (some .int)) {M : wMem} {a1 : Int32} {a2 : Int32}  {res : Int32} (hf : fX3_leftAfter M a1 a2 = some res) {H : Heap} {locs : List Loc} {ls : Array Slot} (hW : wH E M H) (hS : va_S (wA E) s.heap H locs) (hl : lv_has ls 6 [(0, .ref (wad E 50)), (1, .int a1), (2, .int a2)]) : W p l e ({ frames := 0, cells := 0, slots := 0, locals := 0 } : Room) s m args below meth c H locs 0 0 (MQ below (wQ E (some (.int res)) M) args s 0 0 (wA E)) (F0 m 0 ls []) := by
  unfold fX3_leftAfter at hf
  obtain ⟨hx, hb, hr, hml, hown, hts, hlocks, hG, hV, hZ⟩ := id B
  refine lv_iconst (v := 1) hx hb dX3_leftAfter_0 rfl ?_
  refine lv_iload_n hx hb dX3_leftAfter_1 rfl (lv_at hl 2 rfl) ?_
  refine lv_ishl hx hb dX3_leftAfter_2 ?_
  refine lv_iconst (v := 1) hx hb dX3_leftAfter_3 rfl ?_
  refine lv_isub hx hb dX3_leftAfter_4 ?_
  refine lv_topi (fun x1 ex1 => ?_)
  replace hf := wlet_y ex1 hf
  refine lv_istore_n (lv' := [(3, .int x1), (0, .ref (wad E 50)), (1, .int a1), (2, .int a2)]) hx hb dX3_leftAfter_5 rfl hl (by decide) rfl (fun ls hl => ?_)
  refine lv_iconst (v := 0) hx hb dX3_leftAfter_6 rfl ?_
  refine lv_istore (lv' := [(4, .int 0), (3, .int x1), (0, .ref (wad E 50)), (1, .int a1), (2, .int a2)]) hx hb dX3_leftAfter_7 hl (by decide) rfl (fun ls hl => ?_)
  exact pX3_leftAfter_9 B   hf hW hS (lv_sub hl [2, 3, 1, 0] rfl)
theorem cX3_leftAfter_ok (l : Launch) (E : wE) (M : wMem) (a1 : Int32) (a2 : Int32) {res : Int32} (hf : fX3_leftAfter M a1 a2 = some res) : wMet l yX3_leftAfter (wsM yX3_leftAfter cX3_leftAfter 6 (some .int)) ({ frames := 0, cells := 0, slots := 0, locals := 0 } : Room) E M [.ref (wad E 50), .int a1, .int a2] (some (.int res)) M :=
  wc_of (cc := cX3_leftAfter) (maxL := 6) (ret := (some .int)) (by decide) (Nat.le_of_ble_eq_true rfl) (fun _ _ _ _ _ _ _ _ B hW hl => pX3_leftAfter B  hf hW va_S.rf hl)
end
theorem cdX9_openTo : yX9_openTo.cls = RX9 ∧ yX9_openTo.cls ≠ "java/lang/invoke/MethodHandle" ∧ yX9_openTo.cls ≠ "java/lang/invoke/VarHandle" ∧ (parseMethodDescriptor yX9_openTo.desc).map (fun d => d.parameters.length) = some 0 := by decide +kernel
section
variable {p : Program} {l : Launch} {e : Env} {s : State} {m : MethodId} {args : Array Value} {below : List Frame} {meth : Method} {c : Code} {E : wE}
set_option maxRecDepth 100000 in
set_option maxHeartbeats 4000000 in
theorem pX9_openTo (B : wB E p s m args meth c cX9_openTo 1 RX9 (some .int)) {M : wMem}   {res : Int32} (hf : fX9_openTo M  = some res) {H : Heap} {locs : List Loc} {ls : Array Slot} (hW : wH E M H) (hS : va_S (wA E) s.heap H locs) (hl : lv_has ls 1 [(0, .ref (wad E 0))]) : W p l e ({ frames := 1, cells := 0, slots := 0, locals := 25 } : Room) s m args below meth c H locs 0 0 (MQ below (wQ E (some (.int res)) M) args s 0 0 (wA E)) (F0 m 0 ls []) := by
  unfold fX9_openTo at hf
  obtain ⟨hx, hb, hr, hml, hown, hts, hlocks, hG, hV, hZ⟩ := id B
  refine lv_aload_n hx hb dX9_openTo_0 rfl (lv_at hl 0 rfl) ?_
  refine wm_get hx hb hts wu_X9 hown hV hW (wlt_8 (rfl : wkd 0 = 8)) (wen_8 (rfl : wkd 0 = 8)) (C := RX9) (T := TX9) (N := 10) rfl 5 (by decide) (hts _ wA_236) rfl dX9_openTo_1 ?_
  refine lv_aload_n hx hb dX9_openTo_4 rfl (lv_at hl 0 rfl) ?_
  refine wm_get hx hb hts wu_X9 hown hV hW (wlt_8 (rfl : wkd 0 = 8)) (wen_8 (rfl : wkd 0 = 8)) (C := RX9) (T := TX9) (N := 10) rfl 5 (by decide) (hts _ wA_236) rfl dX9_openTo_5 ?_
  refine wm_get hx hb hts wu_X3 hown hV hW (wlt_2 (rfl : wkd 50 = 2)) (wen_2 (rfl : wkd 50 = 2)) (C := RX3) (T := TX3) (N := 3) rfl 2 (by decide) (hts _ wA_200) rfl dX9_openTo_8 ?_
  refine lv_aload_n hx hb dX9_openTo_11 rfl (lv_at hl 0 rfl) ?_
  refine wm_get hx hb hts wu_X9 hown hV hW (wlt_8 (rfl : wkd 0 = 8)) (wen_8 (rfl : wkd 0 = 8)) (C := RX9) (T := TX9) (N := 10) rfl 0 (by decide) (hts _ wA_231) rfl dX9_openTo_12 ?_
  refine wm_get hx hb hts wu_X5 hown hV hW (wlt_4 (rfl : wkd 1 = 4)) (wen_4 (rfl : wkd 1 = 4)) (C := RX5) (T := TX5) (N := 4) rfl 2 (by decide) (hts _ wA_121) rfl dX9_openTo_15 ?_
  obtain ⟨r2, hc1, hf⟩ := wbind_e hf
  refine wc_V (As := [.int (M 50 2), .int (M 1 2)]) (rest := []) hx hb hml hown hts hG hV hZ (wlt_2 (rfl : wkd 50 = 2)) (q := (RX3, TX3, 3)) (wen_2 (rfl : wkd 50 = 2)) rfl (cX3_leftAfter_ok l E M (M 50 2) (M 1 2) hc1) (cwV 2 hts gl_X9_187 rfl rfl rfl cdX3_leftAfter ⟨Nat.le_of_ble_eq_true rfl, Nat.le_of_ble_eq_true rfl⟩) rfl hl.1 rfl (Nat.le_of_ble_eq_true rfl) dX9_openTo_18 ⟨Nat.zero_le _, Nat.zero_le _⟩ hW hS rfl (fun H locs hW hS => ?_)
  have hres := Option.some.inj hf
  subst hres
  exact W.iret hx hb hr (wr_q hG hV hZ hW hS) hS.2.2 dX9_openTo_21
theorem cX9_openTo_ok (l : Launch) (E : wE) (M : wMem)  {res : Int32} (hf : fX9_openTo M  = some res) : wMet l yX9_openTo (wsM yX9_openTo cX9_openTo 1 (some .int)) ({ frames := 1, cells := 0, slots := 0, locals := 25 } : Room) E M [.ref (wad E 0)] (some (.int res)) M :=
  wc_of (cc := cX9_openTo) (maxL := 1) (ret := (some .int)) (by decide) (Nat.le_of_ble_eq_true rfl) (fun _ _ _ _ _ _ _ _ B hW hl => pX9_openTo B  hf hW va_S.rf hl)
end
theorem cdX3_firstThatLeavesNone : yX3_firstThatLeavesNone.cls = RX3 ∧ yX3_firstThatLeavesNone.cls ≠ "java/lang/invoke/MethodHandle" ∧ yX3_firstThatLeavesNone.cls ≠ "java/lang/invoke/VarHandle" ∧ (parseMethodDescriptor yX3_firstThatLeavesNone.desc).map (fun d => d.parameters.length) = some 1 := by decide +kernel
section
variable {p : Program} {l : Launch} {e : Env} {s : State} {m : MethodId} {args : Array Value} {below : List Frame} {meth : Method} {c : Code} {E : wE}
set_option maxRecDepth 100000 in
set_option maxHeartbeats 4000000 in
theorem pX3_firstThatLeavesNone_2_b (B : wB E p s m args meth c cX3_firstThatLeavesNone 3 RX3 (some .int)) {M : wMem} {y1 : Int32} {y2 : Int32}  {rec2 : (Int32 → Option (Int32))} {res : Int32}   (hrec2 : ∀ (y2' : Int32), rec2 (y2') = some res → ∀ (H : Heap) (locs : List Loc) (ls : Array Slot), wH E M H → va_S (wA E) s.heap H locs → lv_has ls 3 [(0, .ref (wad E 50)), (1, .int y1), (2, .int y2')] → W p l e ({ frames := 1, cells := 0, slots := 0, locals := 25 } : Room) s m args below meth c H locs 0 0 (MQ below (wQ E (some (.int res)) M) args s 0 0 (wA E)) (F0 m 2 ls [])) (hf : fX3_firstThatLeavesNone_2_b M  rec2 y1 y2 = some res) {H : Heap} {locs : List Loc} {ls : Array Slot} (hW : wH E M H) (hS : va_S (wA E) s.heap H locs) (hl : lv_has ls 3 [(0, .ref (wad E 50)), (1, .int y1), (2, .int y2)]) : W p l e ({ frames := 1, cells := 0, slots := 0, locals := 25 } : Room) s m args below meth c H locs 0 0 (MQ below (wQ E (some (.int res)) M) args s 0 0 (wA E)) (F0 m 2 ls []) := by
  unfold fX3_firstThatLeavesNone_2_b at hf
  obtain ⟨hx, hb, hr, hml, hown, hts, hlocks, hG, hV, hZ⟩ := id B
  refine lv_iload_n hx hb dX3_firstThatLeavesNone_2 rfl (lv_at hl 2 rfl) ?_
  refine lv_aload_n hx hb dX3_firstThatLeavesNone_3 rfl (lv_at hl 0 rfl) ?_
  refine wm_get hx hb hts wu_X3 hown hV hW (wlt_2 (rfl : wkd 50 = 2)) (wen_2 (rfl : wkd 50 = 2)) (C := RX3) (T := TX3) (N := 3) rfl 2 (by decide) (hts _ wA_199) rfl dX3_firstThatLeavesNone_4 ?_
  rcases wif_e hf with ⟨hq1, hf⟩ | ⟨hq1, hf⟩
  · refine lv_icmp_ge (tgt := 29) hx hb dX3_firstThatLeavesNone_7 (by decide) (fun _ => ?_) (fun h => absurd hq1 h)
    refine lv_bipush (v := (-9)) hx hb dX3_firstThatLeavesNone_29 (by decide) ?_
    have hres := Option.some.inj hf
    subst hres
    exact W.iret hx hb hr (wr_q hG hV hZ hW hS) hS.2.2 dX3_firstThatLeavesNone_31
  · refine lv_icmp_ge (tgt := 29) hx hb dX3_firstThatLeavesNone_7 (by decide) (fun h => absurd h hq1) (fun _ => ?_)
    refine lv_aload_n hx hb dX3_firstThatLeavesNone_10 rfl (lv_at hl 0 rfl) ?_
    refine lv_iload_n hx hb dX3_firstThatLeavesNone_11 rfl (lv_at hl 2 rfl) ?_
    refine lv_iconst (v := 1) hx hb dX3_firstThatLeavesNone_12 rfl ?_
    refine lv_iadd hx hb dX3_firstThatLeavesNone_13 ?_
    refine lv_iload_n hx hb dX3_firstThatLeavesNone_14 rfl (lv_at hl 1 rfl) ?_
    obtain ⟨r3, hc2, hf⟩ := wbind_e hf
    refine wc_V (As := [.int (y2 + 1), .int y1]) (rest := []) hx hb hml hown hts hG hV hZ (wlt_2 (rfl : wkd 50 = 2)) (q := (RX3, TX3, 3)) (wen_2 (rfl : wkd 50 = 2)) rfl (cX3_leftAfter_ok l E M (y2 + 1) y1 hc2) (cwV 2 hts gl_X3_22 rfl rfl rfl cdX3_leftAfter ⟨Nat.le_of_ble_eq_true rfl, Nat.le_of_ble_eq_true rfl⟩) rfl hl.1 rfl (Nat.le_of_ble_eq_true rfl) dX3_firstThatLeavesNone_15 ⟨Nat.zero_le _, Nat.zero_le _⟩ hW hS rfl (fun H locs hW hS => ?_)
    rcases wif_e hf with ⟨hq4, hf⟩ | ⟨hq4, hf⟩
    · refine lv_if_ne (tgt := 23) hx hb dX3_firstThatLeavesNone_18 (by decide) (fun h => absurd hq4 h) (fun _ => ?_)
      refine lv_iload_n hx hb dX3_firstThatLeavesNone_21 rfl (lv_at hl 2 rfl) ?_
      have hres := Option.some.inj hf
      subst hres
      exact W.iret hx hb hr (wr_q hG hV hZ hW hS) hS.2.2 dX3_firstThatLeavesNone_22
    · refine lv_if_ne (tgt := 23) hx hb dX3_firstThatLeavesNone_18 (by decide) (fun _ => ?_) (fun h => absurd h hq4)
      obtain ⟨x5, ex5, hf⟩ := wlet_e hf
      refine lv_iinc (v := x5) (lv' := [(2, .int x5), (0, .ref (wad E 50)), (1, .int y1)]) hx hb dX3_firstThatLeavesNone_23 hl (k := 2) rfl (by rw [ex5]; rfl) (by decide) rfl (fun ls hl => ?_)
      refine lv_goto (tgt := 2) hx hb dX3_firstThatLeavesNone_26 (by decide) ?_
      exact hrec2 x5 hf _ _ _ hW hS (lv_sub hl [1, 2, 0] rfl)
set_option maxRecDepth 100000 in
set_option maxHeartbeats 4000000 in
theorem pX3_firstThatLeavesNone_2 (B : wB E p s m args meth c cX3_firstThatLeavesNone 3 RX3 (some .int)) {M : wMem} {y1 : Int32} {y2 : Int32}  {res : Int32}   (hf : fX3_firstThatLeavesNone_2 M  y1 y2 = some res) {H : Heap} {locs : List Loc} {ls : Array Slot} (hW : wH E M H) (hS : va_S (wA E) s.heap H locs) (hl : lv_has ls 3 [(0, .ref (wad E 50)), (1, .int y1), (2, .int y2)]) : W p l e ({ frames := 1, cells := 0, slots := 0, locals := 25 } : Room) s m args below meth c H locs 0 0 (MQ below (wQ E (some (.int res)) M) args s 0 0 (wA E)) (F0 m 2 ls []) := by
  have key := wloop_W (b := (fun rec2 t => fX3_firstThatLeavesNone_2_b M  rec2 y1 t)) (P := fun t => ∀ (H : Heap) (locs : List Loc) (ls : Array Slot), wH E M H → va_S (wA E) s.heap H locs → lv_has ls 3 [(0, .ref (wad E 50)), (1, .int y1), (2, .int t)] → W p l e ({ frames := 1, cells := 0, slots := 0, locals := 25 } : Room) s m args below meth c H locs 0 0 (MQ below (wQ E (some (.int res)) M) args s 0 0 (wA E)) (F0 m 2 ls [])) (r := res) (fun rec hrec t hf H locs ls hW hS hl => pX3_firstThatLeavesNone_2_b B   (fun v0 hf H locs ls hW hS hl => hrec (v0) hf H locs ls hW hS hl) hf hW hS hl)
  exact key wfuel (y2) hf H locs ls hW hS hl
set_option maxRecDepth 100000 in
set_option maxHeartbeats 4000000 in
theorem pX3_firstThatLeavesNone (B : wB E p s m args meth c cX3_firstThatLeavesNone 3 RX3 (some .int)) {M : wMem} {a1 : Int32}  {res : Int32} (hf : fX3_firstThatLeavesNone M a1 = some res) {H : Heap} {locs : List Loc} {ls : Array Slot} (hW : wH E M H) (hS : va_S (wA E) s.heap H locs) (hl : lv_has ls 3 [(0, .ref (wad E 50)), (1, .int a1)]) : W p l e ({ frames := 1, cells := 0, slots := 0, locals := 25 } : Room) s m args below meth c H locs 0 0 (MQ below (wQ E (some (.int res)) M) args s 0 0 (wA E)) (F0 m 0 ls []) := by
  unfold fX3_firstThatLeavesNone at hf
  obtain ⟨hx, hb, hr, hml, hown, hts, hlocks, hG, hV, hZ⟩ := id B
  refine lv_iconst (v := 0) hx hb dX3_firstThatLeavesNone_0 rfl ?_
  refine lv_istore_n (lv' := [(2, .int 0), (0, .ref (wad E 50)), (1, .int a1)]) hx hb dX3_firstThatLeavesNone_1 rfl hl (by decide) rfl (fun ls hl => ?_)
  exact pX3_firstThatLeavesNone_2 B   hf hW hS (lv_sub hl [1, 2, 0] rfl)
theorem cX3_firstThatLeavesNone_ok (l : Launch) (E : wE) (M : wMem) (a1 : Int32) {res : Int32} (hf : fX3_firstThatLeavesNone M a1 = some res) : wMet l yX3_firstThatLeavesNone (wsM yX3_firstThatLeavesNone cX3_firstThatLeavesNone 3 (some .int)) ({ frames := 1, cells := 0, slots := 0, locals := 25 } : Room) E M [.ref (wad E 50), .int a1] (some (.int res)) M :=
  wc_of (cc := cX3_firstThatLeavesNone) (maxL := 3) (ret := (some .int)) (by decide) (Nat.le_of_ble_eq_true rfl) (fun _ _ _ _ _ _ _ _ B hW hl => pX3_firstThatLeavesNone B  hf hW va_S.rf hl)
end
theorem cdX9_judge : yX9_judge.cls = RX9 ∧ yX9_judge.cls ≠ "java/lang/invoke/MethodHandle" ∧ yX9_judge.cls ≠ "java/lang/invoke/VarHandle" ∧ (parseMethodDescriptor yX9_judge.desc).map (fun d => d.parameters.length) = some 0 := by decide +kernel
section
variable {p : Program} {l : Launch} {e : Env} {s : State} {m : MethodId} {args : Array Value} {below : List Frame} {meth : Method} {c : Code} {E : wE}
set_option maxRecDepth 100000 in
set_option maxHeartbeats 4000000 in
theorem pX9_judge (B : wB E p s m args meth c cX9_judge 2 RX9 (some .int)) {M : wMem}   {res : Int32 × wMem} (hf : fX9_judge M  = some res) {H : Heap} {locs : List Loc} {ls : Array Slot} (hW : wH E M H) (hS : va_S (wA E) s.heap H locs) (hl : lv_has ls 2 [(0, .ref (wad E 0))]) : W p l e ({ frames := 2, cells := 0, slots := 0, locals := 47 } : Room) s m args below meth c H locs 0 0 (MQ below (wQ E (some (.int res.1)) res.2) args s 0 0 (wA E)) (F0 m 0 ls []) := by
  unfold fX9_judge at hf
  obtain ⟨hx, hb, hr, hml, hown, hts, hlocks, hG, hV, hZ⟩ := id B
  refine lv_aload_n hx hb dX9_judge_0 rfl (lv_at hl 0 rfl) ?_
  refine wm_get hx hb hts wu_X9 hown hV hW (wlt_8 (rfl : wkd 0 = 8)) (wen_8 (rfl : wkd 0 = 8)) (C := RX9) (T := TX9) (N := 10) rfl 5 (by decide) (hts _ wA_236) rfl dX9_judge_1 ?_
  refine lv_aload_n hx hb dX9_judge_4 rfl (lv_at hl 0 rfl) ?_
  refine wm_get hx hb hts wu_X9 hown hV hW (wlt_8 (rfl : wkd 0 = 8)) (wen_8 (rfl : wkd 0 = 8)) (C := RX9) (T := TX9) (N := 10) rfl 0 (by decide) (hts _ wA_231) rfl dX9_judge_5 ?_
  refine wm_get hx hb hts wu_X5 hown hV hW (wlt_4 (rfl : wkd 1 = 4)) (wen_4 (rfl : wkd 1 = 4)) (C := RX5) (T := TX5) (N := 4) rfl 2 (by decide) (hts _ wA_121) rfl dX9_judge_8 ?_
  obtain ⟨r2, hc1, hf⟩ := wbind_e hf
  refine wc_V (As := [.int (M 1 2)]) (rest := []) hx hb hml hown hts hG hV hZ (wlt_2 (rfl : wkd 50 = 2)) (q := (RX3, TX3, 3)) (wen_2 (rfl : wkd 50 = 2)) rfl (cX3_firstThatLeavesNone_ok l E M (M 1 2) hc1) (cwV 1 hts gl_X9_191 rfl rfl rfl cdX3_firstThatLeavesNone ⟨Nat.le_of_ble_eq_true rfl, Nat.le_of_ble_eq_true rfl⟩) rfl hl.1 rfl (Nat.le_of_ble_eq_true rfl) dX9_judge_11 ⟨Nat.zero_le _, Nat.zero_le _⟩ hW hS rfl (fun H locs hW hS => ?_)
  refine lv_istore_n (lv' := [(1, .int r2), (0, .ref (wad E 0))]) hx hb dX9_judge_14 rfl hl (by decide) rfl (fun ls hl => ?_)
  refine lv_aload_n hx hb dX9_judge_15 rfl (lv_at hl 1 rfl) ?_
  refine wm_get hx hb hts wu_X9 hown hV hW (wlt_8 (rfl : wkd 0 = 8)) (wen_8 (rfl : wkd 0 = 8)) (C := RX9) (T := TX9) (N := 10) rfl 5 (by decide) (hts _ wA_236) rfl dX9_judge_16 ?_
  refine lv_iconst (v := 0) hx hb dX9_judge_19 rfl ?_
  refine wm_put hx hb hts wu_X3 tyX3 tyX3_ok nmX3 hown hG hV hW hS (wlt_2 (rfl : wkd 50 = 2)) (wen_2 (rfl : wkd 50 = 2)) (C := RX3) (T := TX3) (N := 3) rfl 2 (by decide) (hts _ wA_200) rfl .int _ (tyX3_ok 2 (by decide)) rfl rfl (Nat.le_of_ble_eq_true rfl) (wpt_2_2 (rfl : wkd 50 = 2)) dX9_judge_20 (fun H locs hW hS => ?_)
  obtain ⟨M3, hW, hf⟩ := wlet_M hW hf
  refine lv_iload_n hx hb dX9_judge_23 rfl (lv_at hl 0 rfl) ?_
  have hres := Option.some.inj hf
  subst hres
  exact W.iret hx hb hr (wr_q hG hV hZ hW hS) hS.2.2 dX9_judge_24
theorem cX9_judge_ok (l : Launch) (E : wE) (M : wMem)  {res : Int32 × wMem} (hf : fX9_judge M  = some res) : wMet l yX9_judge (wsM yX9_judge cX9_judge 2 (some .int)) ({ frames := 2, cells := 0, slots := 0, locals := 47 } : Room) E M [.ref (wad E 0)] (some (.int res.1)) res.2 :=
  wc_of (cc := cX9_judge) (maxL := 2) (ret := (some .int)) (by decide) (Nat.le_of_ble_eq_true rfl) (fun _ _ _ _ _ _ _ _ B hW hl => pX9_judge B  hf hW va_S.rf hl)
end
theorem cdX4_hoursTillDark : yX4_hoursTillDark.cls = RX4 ∧ yX4_hoursTillDark.cls ≠ "java/lang/invoke/MethodHandle" ∧ yX4_hoursTillDark.cls ≠ "java/lang/invoke/VarHandle" ∧ (parseMethodDescriptor yX4_hoursTillDark.desc).map (fun d => d.parameters.length) = some 1 := by decide +kernel
section
variable {p : Program} {l : Launch} {e : Env} {s : State} {m : MethodId} {args : Array Value} {below : List Frame} {meth : Method} {c : Code} {E : wE}
set_option maxRecDepth 100000 in
set_option maxHeartbeats 4000000 in
theorem pX4_hoursTillDark_8_b (B : wB E p s m args meth c cX4_hoursTillDark 3 RX4 (some .int)) {M : wMem} {y2 : Int32}  {rec8 : (Int32 × wMem → Option (Int32 × wMem))} {res : Int32 × wMem}   (hrec8 : ∀ (y2' : Int32) (M' : wMem), rec8 (y2', M') = some res → ∀ (H : Heap) (locs : List Loc) (ls : Array Slot), wH E M' H → va_S (wA E) s.heap H locs → lv_has ls 3 [(0, .ref (wad E 31)), (2, .int y2')] → W p l e ({ frames := 4, cells := 0, slots := 0, locals := 89 } : Room) s m args below meth c H locs 0 0 (MQ below (wQ E (some (.int res.1)) res.2) args s 0 0 (wA E)) (F0 m 8 ls [])) (hf : fX4_hoursTillDark_8_b M  rec8 y2 = some res) {H : Heap} {locs : List Loc} {ls : Array Slot} (hW : wH E M H) (hS : va_S (wA E) s.heap H locs) (hl : lv_has ls 3 [(0, .ref (wad E 31)), (2, .int y2)]) : W p l e ({ frames := 4, cells := 0, slots := 0, locals := 89 } : Room) s m args below meth c H locs 0 0 (MQ below (wQ E (some (.int res.1)) res.2) args s 0 0 (wA E)) (F0 m 8 ls []) := by
  unfold fX4_hoursTillDark_8_b at hf
  obtain ⟨hx, hb, hr, hml, hown, hts, hlocks, hG, hV, hZ⟩ := id B
  refine lv_iload_n hx hb dX4_hoursTillDark_8 rfl (lv_at hl 1 rfl) ?_
  refine lv_sipush (v := 400) hx hb dX4_hoursTillDark_9 (by decide) ?_
  rcases wif_e hf with ⟨hq4, hf⟩ | ⟨hq4, hf⟩
  · refine lv_icmp_gt (tgt := 41) hx hb dX4_hoursTillDark_12 (by decide) (fun _ => ?_) (fun h => absurd hq4 h)
    refine lv_bipush (v := (-9)) hx hb dX4_hoursTillDark_41 (by decide) ?_
    have hres := Option.some.inj hf
    subst hres
    exact W.iret hx hb hr (wr_q hG hV hZ hW hS) hS.2.2 dX4_hoursTillDark_43
  · refine lv_icmp_gt (tgt := 41) hx hb dX4_hoursTillDark_12 (by decide) (fun h => absurd h hq4) (fun _ => ?_)
    refine lv_aload_n hx hb dX4_hoursTillDark_15 rfl (lv_at hl 0 rfl) ?_
    refine wm_get hx hb hts wu_X4 hown hV hW (wlt_3 (rfl : wkd 31 = 3)) (wen_3 (rfl : wkd 31 = 3)) (C := RX4) (T := TX4) (N := 1) rfl 0 (by decide) (hts _ wA_141) rfl dX4_hoursTillDark_16 ?_
    obtain ⟨r6, hc5, hf⟩ := wbind_e hf
    refine wc_V (As := []) (rest := []) hx hb hml hown hts hG hV hZ (wlt_4 (rfl : wkd 32 = 4)) (q := (RX5, TX5, 4)) (wen_4 (rfl : wkd 32 = 4)) rfl (cX5_isLive_ok l E M 32 (rfl : wkd 32 = 4) hc5) (cwV 0 hts gl_X4_26 rfl rfl rfl cdX5_isLive ⟨Nat.le_of_ble_eq_true rfl, Nat.le_of_ble_eq_true rfl⟩) rfl hl.1 rfl (Nat.le_of_ble_eq_true rfl) dX4_hoursTillDark_19 ⟨Nat.zero_le _, Nat.zero_le _⟩ hW hS rfl (fun H locs hW hS => ?_)
    rcases wif_e hf with ⟨hq7, hf⟩ | ⟨hq7, hf⟩
    · refine lv_if_ne (tgt := 27) hx hb dX4_hoursTillDark_22 (by decide) (fun h => absurd hq7 h) (fun _ => ?_)
      refine lv_iload_n hx hb dX4_hoursTillDark_25 rfl (lv_at hl 1 rfl) ?_
      have hres := Option.some.inj hf
      subst hres
      exact W.iret hx hb hr (wr_q hG hV hZ hW hS) hS.2.2 dX4_hoursTillDark_26
    · refine lv_if_ne (tgt := 27) hx hb dX4_hoursTillDark_22 (by decide) (fun _ => ?_) (fun h => absurd h hq7)
      refine lv_aload_n hx hb dX4_hoursTillDark_27 rfl (lv_at hl 0 rfl) ?_
      refine wm_get hx hb hts wu_X4 hown hV hW (wlt_3 (rfl : wkd 31 = 3)) (wen_3 (rfl : wkd 31 = 3)) (C := RX4) (T := TX4) (N := 1) rfl 0 (by decide) (hts _ wA_141) rfl dX4_hoursTillDark_28 ?_
      obtain ⟨r9, M10, hc8, hf⟩ := wbind_p hf
      refine wc_V (As := []) (rest := []) hx hb hml hown hts hG hV hZ (wlt_4 (rfl : wkd 32 = 4)) (q := (RX5, TX5, 4)) (wen_4 (rfl : wkd 32 = 4)) rfl (cX5_passHour_ok l E M 32 (rfl : wkd 32 = 4) hc8) (cwV 0 hts gl_X4_30 rfl rfl rfl cdX5_passHour ⟨Nat.le_of_ble_eq_true rfl, Nat.le_of_ble_eq_true rfl⟩) rfl hl.1 rfl (Nat.le_of_ble_eq_true rfl) dX4_hoursTillDark_31 ⟨Nat.zero_le _, Nat.zero_le _⟩ hW hS rfl (fun H locs hW hS => ?_)
      refine lv_pop hx hb dX4_hoursTillDark_34 rfl ?_
      obtain ⟨x11, ex11, hf⟩ := wlet_e hf
      refine lv_iinc (v := x11) (lv' := [(2, .int x11), (0, .ref (wad E 31))]) hx hb dX4_hoursTillDark_35 hl (k := 1) rfl (by rw [ex11]; rfl) (by decide) rfl (fun ls hl => ?_)
      refine lv_goto (tgt := 8) hx hb dX4_hoursTillDark_38 (by decide) ?_
      exact hrec8 x11 M10 hf _ _ _ hW hS (lv_sub hl [1, 0] rfl)
set_option maxRecDepth 100000 in
set_option maxHeartbeats 4000000 in
theorem pX4_hoursTillDark_8 (B : wB E p s m args meth c cX4_hoursTillDark 3 RX4 (some .int)) {M : wMem} {y2 : Int32}  {res : Int32 × wMem}   (hf : fX4_hoursTillDark_8 M  y2 = some res) {H : Heap} {locs : List Loc} {ls : Array Slot} (hW : wH E M H) (hS : va_S (wA E) s.heap H locs) (hl : lv_has ls 3 [(0, .ref (wad E 31)), (2, .int y2)]) : W p l e ({ frames := 4, cells := 0, slots := 0, locals := 89 } : Room) s m args below meth c H locs 0 0 (MQ below (wQ E (some (.int res.1)) res.2) args s 0 0 (wA E)) (F0 m 8 ls []) := by
  have key := wloop_W (b := (fun rec8 t => fX4_hoursTillDark_8_b t.2  rec8 t.1)) (P := fun t => ∀ (H : Heap) (locs : List Loc) (ls : Array Slot), wH E t.2 H → va_S (wA E) s.heap H locs → lv_has ls 3 [(0, .ref (wad E 31)), (2, .int t.1)] → W p l e ({ frames := 4, cells := 0, slots := 0, locals := 89 } : Room) s m args below meth c H locs 0 0 (MQ below (wQ E (some (.int res.1)) res.2) args s 0 0 (wA E)) (F0 m 8 ls [])) (r := res) (fun rec hrec t hf H locs ls hW hS hl => pX4_hoursTillDark_8_b B   (fun v0 v1 hf H locs ls hW hS hl => hrec (v0, v1) hf H locs ls hW hS hl) hf hW hS hl)
  exact key wfuel (y2, M) hf H locs ls hW hS hl
set_option maxRecDepth 100000 in
set_option maxHeartbeats 4000000 in
theorem pX4_hoursTillDark (B : wB E p s m args meth c cX4_hoursTillDark 3 RX4 (some .int)) {M : wMem} {k1 : Nat} (hk1 : wkd k1 = 4) {res : Int32 × wMem} (hf : fX4_hoursTillDark M k1 = some res) {H : Heap} {locs : List Loc} {ls : Array Slot} (hW : wH E M H) (hS : va_S (wA E) s.heap H locs) (hl : lv_has ls 3 [(0, .ref (wad E 31)), (1, .ref (wad E k1))]) : W p l e ({ frames := 4, cells := 0, slots := 0, locals := 89 } : Room) s m args below meth c H locs 0 0 (MQ below (wQ E (some (.int res.1)) res.2) args s 0 0 (wA E)) (F0 m 0 ls []) := by
  unfold fX4_hoursTillDark at hf
  obtain ⟨hx, hb, hr, hml, hown, hts, hlocks, hG, hV, hZ⟩ := id B
  refine lv_aload_n hx hb dX4_hoursTillDark_0 rfl (lv_at hl 0 rfl) ?_
  refine lv_aload_n hx hb dX4_hoursTillDark_1 rfl (lv_at hl 1 rfl) ?_
  obtain ⟨M3, hc1, hf⟩ := wbind_e hf
  refine wc_V (As := [.ref (wad E k1)]) (rest := []) hx hb hml hown hts hG hV hZ (wlt_3 (rfl : wkd 31 = 3)) (q := (RX4, TX4, 1)) (wen_3 (rfl : wkd 31 = 3)) rfl (cX4_startFrom_ok l E M k1 hk1 hc1) (cwV 1 hts gl_X4_22 rfl rfl rfl cdX4_startFrom ⟨Nat.le_of_ble_eq_true rfl, Nat.le_of_ble_eq_true rfl⟩) rfl hl.1 rfl (Nat.le_of_ble_eq_true rfl) dX4_hoursTillDark_2 ⟨Nat.zero_le _, Nat.zero_le _⟩ hW hS rfl (fun H locs hW hS => ?_)
  refine lv_pop hx hb dX4_hoursTillDark_5 rfl ?_
  refine lv_iconst (v := 0) hx hb dX4_hoursTillDark_6 rfl ?_
  refine lv_istore_n (lv' := [(2, .int 0), (0, .ref (wad E 31)), (1, .ref (wad E k1))]) hx hb dX4_hoursTillDark_7 rfl hl (by decide) rfl (fun ls hl => ?_)
  exact pX4_hoursTillDark_8 B   hf hW hS (lv_sub hl [1, 0] rfl)
theorem cX4_hoursTillDark_ok (l : Launch) (E : wE) (M : wMem) (k1 : Nat) (hk1 : wkd k1 = 4) {res : Int32 × wMem} (hf : fX4_hoursTillDark M k1 = some res) : wMet l yX4_hoursTillDark (wsM yX4_hoursTillDark cX4_hoursTillDark 3 (some .int)) ({ frames := 4, cells := 0, slots := 0, locals := 89 } : Room) E M [.ref (wad E 31), .ref (wad E k1)] (some (.int res.1)) res.2 :=
  wc_of (cc := cX4_hoursTillDark) (maxL := 3) (ret := (some .int)) (by decide) (Nat.le_of_ble_eq_true rfl) (fun _ _ _ _ _ _ _ _ B hW hl => pX4_hoursTillDark B hk1 hf hW va_S.rf hl)
end
theorem cdX9_lasts : yX9_lasts.cls = RX9 ∧ yX9_lasts.cls ≠ "java/lang/invoke/MethodHandle" ∧ yX9_lasts.cls ≠ "java/lang/invoke/VarHandle" ∧ (parseMethodDescriptor yX9_lasts.desc).map (fun d => d.parameters.length) = some 0 := by decide +kernel
section
variable {p : Program} {l : Launch} {e : Env} {s : State} {m : MethodId} {args : Array Value} {below : List Frame} {meth : Method} {c : Code} {E : wE}
set_option maxRecDepth 100000 in
set_option maxHeartbeats 4000000 in
theorem pX9_lasts (B : wB E p s m args meth c cX9_lasts 1 RX9 (some .int)) {M : wMem}   {res : Int32 × wMem} (hf : fX9_lasts M  = some res) {H : Heap} {locs : List Loc} {ls : Array Slot} (hW : wH E M H) (hS : va_S (wA E) s.heap H locs) (hl : lv_has ls 1 [(0, .ref (wad E 0))]) : W p l e ({ frames := 5, cells := 0, slots := 0, locals := 111 } : Room) s m args below meth c H locs 0 0 (MQ below (wQ E (some (.int res.1)) res.2) args s 0 0 (wA E)) (F0 m 0 ls []) := by
  unfold fX9_lasts at hf
  obtain ⟨hx, hb, hr, hml, hown, hts, hlocks, hG, hV, hZ⟩ := id B
  refine lv_aload_n hx hb dX9_lasts_0 rfl (lv_at hl 0 rfl) ?_
  refine wm_get hx hb hts wu_X9 hown hV hW (wlt_8 (rfl : wkd 0 = 8)) (wen_8 (rfl : wkd 0 = 8)) (C := RX9) (T := TX9) (N := 10) rfl 2 (by decide) (hts _ wA_233) rfl dX9_lasts_1 ?_
  refine lv_aload_n hx hb dX9_lasts_4 rfl (lv_at hl 0 rfl) ?_
  refine wm_get hx hb hts wu_X9 hown hV hW (wlt_8 (rfl : wkd 0 = 8)) (wen_8 (rfl : wkd 0 = 8)) (C := RX9) (T := TX9) (N := 10) rfl 0 (by decide) (hts _ wA_231) rfl dX9_lasts_5 ?_
  obtain ⟨r2, M3, hc1, hf⟩ := wbind_p hf
  refine wc_V (As := [.ref (wad E 1)]) (rest := []) hx hb hml hown hts hG hV hZ (wlt_3 (rfl : wkd 31 = 3)) (q := (RX4, TX4, 1)) (wen_3 (rfl : wkd 31 = 3)) rfl (cX4_hoursTillDark_ok l E M 1 (rfl : wkd 1 = 4) hc1) (cwV 1 hts gl_X9_194 rfl rfl rfl cdX4_hoursTillDark ⟨Nat.le_of_ble_eq_true rfl, Nat.le_of_ble_eq_true rfl⟩) rfl hl.1 rfl (Nat.le_of_ble_eq_true rfl) dX9_lasts_8 ⟨Nat.zero_le _, Nat.zero_le _⟩ hW hS rfl (fun H locs hW hS => ?_)
  have hres := Option.some.inj hf
  subst hres
  exact W.iret hx hb hr (wr_q hG hV hZ hW hS) hS.2.2 dX9_lasts_11
theorem cX9_lasts_ok (l : Launch) (E : wE) (M : wMem)  {res : Int32 × wMem} (hf : fX9_lasts M  = some res) : wMet l yX9_lasts (wsM yX9_lasts cX9_lasts 1 (some .int)) ({ frames := 5, cells := 0, slots := 0, locals := 111 } : Room) E M [.ref (wad E 0)] (some (.int res.1)) res.2 :=
  wc_of (cc := cX9_lasts) (maxL := 1) (ret := (some .int)) (by decide) (Nat.le_of_ble_eq_true rfl) (fun _ _ _ _ _ _ _ _ B hW hl => pX9_lasts B  hf hW va_S.rf hl)
end
theorem cdX4_firstGone : yX4_firstGone.cls = RX4 ∧ yX4_firstGone.cls ≠ "java/lang/invoke/MethodHandle" ∧ yX4_firstGone.cls ≠ "java/lang/invoke/VarHandle" ∧ (parseMethodDescriptor yX4_firstGone.desc).map (fun d => d.parameters.length) = some 1 := by decide +kernel
section
variable {p : Program} {l : Launch} {e : Env} {s : State} {m : MethodId} {args : Array Value} {below : List Frame} {meth : Method} {c : Code} {E : wE}
set_option maxRecDepth 100000 in
set_option maxHeartbeats 4000000 in
theorem pX4_firstGone_42 (B : wB E p s m args meth c cX4_firstGone 3 RX4 (some .int)) {M : wMem} {ky1 : Nat} {y2 : Int32} {rec2 : (Int32 → Option (Int32))} {res : Int32} (hky1 : wkd ky1 = 4) (hrec2 : ∀ (y2' : Int32), rec2 (y2') = some res → ∀ (H : Heap) (locs : List Loc) (ls : Array Slot), wH E M H → va_S (wA E) s.heap H locs → lv_has ls 3 [(0, .ref (wad E 31)), (1, .ref (wad E ky1)), (2, .int y2')] → W p l e ({ frames := 1, cells := 0, slots := 0, locals := 20 } : Room) s m args below meth c H locs 0 0 (MQ below (wQ E (some (.int res)) M) args s 0 0 (wA E)) (F0 m 2 ls [])) (hf : fX4_firstGone_42 M rec2 ky1 y2 = some res) {H : Heap} {locs : List Loc} {ls : Array Slot} (hW : wH E M H) (hS : va_S (wA E) s.heap H locs) (hl : lv_has ls 3 [(0, .ref (wad E 31)), (1, .ref (wad E ky1)), (2, .int y2)]) : W p l e ({ frames := 1, cells := 0, slots := 0, locals := 20 } : Room) s m args below meth c H locs 0 0 (MQ below (wQ E (some (.int res)) M) args s 0 0 (wA E)) (F0 m 42 ls []) := by
  unfold fX4_firstGone_42 at hf
  obtain ⟨hx, hb, hr, hml, hown, hts, hlocks, hG, hV, hZ⟩ := id B
  obtain ⟨x6, ex6, hf⟩ := wlet_e hf
  refine lv_iinc (v := x6) (lv' := [(2, .int x6), (0, .ref (wad E 31)), (1, .ref (wad E ky1))]) hx hb dX4_firstGone_42 hl (k := 2) rfl (by rw [ex6]; rfl) (by decide) rfl (fun ls hl => ?_)
  refine lv_goto (tgt := 2) hx hb dX4_firstGone_45 (by decide) ?_
  exact hrec2 x6 hf _ _ _ hW hS (lv_sub hl [1, 2, 0] rfl)
set_option maxRecDepth 100000 in
set_option maxHeartbeats 4000000 in
theorem pX4_firstGone_2_b (B : wB E p s m args meth c cX4_firstGone 3 RX4 (some .int)) {M : wMem} {ky1 : Nat} {y2 : Int32}  {rec2 : (Int32 → Option (Int32))} {res : Int32} (hky1 : wkd ky1 = 4)  (hrec2 : ∀ (y2' : Int32), rec2 (y2') = some res → ∀ (H : Heap) (locs : List Loc) (ls : Array Slot), wH E M H → va_S (wA E) s.heap H locs → lv_has ls 3 [(0, .ref (wad E 31)), (1, .ref (wad E ky1)), (2, .int y2')] → W p l e ({ frames := 1, cells := 0, slots := 0, locals := 20 } : Room) s m args below meth c H locs 0 0 (MQ below (wQ E (some (.int res)) M) args s 0 0 (wA E)) (F0 m 2 ls [])) (hf : fX4_firstGone_2_b M  rec2 ky1 y2 = some res) {H : Heap} {locs : List Loc} {ls : Array Slot} (hW : wH E M H) (hS : va_S (wA E) s.heap H locs) (hl : lv_has ls 3 [(0, .ref (wad E 31)), (1, .ref (wad E ky1)), (2, .int y2)]) : W p l e ({ frames := 1, cells := 0, slots := 0, locals := 20 } : Room) s m args below meth c H locs 0 0 (MQ below (wQ E (some (.int res)) M) args s 0 0 (wA E)) (F0 m 2 ls []) := by
  unfold fX4_firstGone_2_b at hf
  obtain ⟨hx, hb, hr, hml, hown, hts, hlocks, hG, hV, hZ⟩ := id B
  refine lv_iload_n hx hb dX4_firstGone_2 rfl (lv_at hl 2 rfl) ?_
  refine lv_aload_n hx hb dX4_firstGone_3 rfl (lv_at hl 0 rfl) ?_
  refine wm_get hx hb hts wu_X4 hown hV hW (wlt_3 (rfl : wkd 31 = 3)) (wen_3 (rfl : wkd 31 = 3)) (C := RX4) (T := TX4) (N := 1) rfl 0 (by decide) (hts _ wA_141) rfl dX4_firstGone_4 ?_
  refine wm_get hx hb hts wu_X5 hown hV hW (wlt_4 (rfl : wkd 32 = 4)) (wen_4 (rfl : wkd 32 = 4)) (C := RX5) (T := TX5) (N := 4) rfl 2 (by decide) (hts _ wA_120) rfl dX4_firstGone_7 ?_
  rcases wif_e hf with ⟨hq1, hf⟩ | ⟨hq1, hf⟩
  · refine lv_icmp_ge (tgt := 48) hx hb dX4_firstGone_10 (by decide) (fun _ => ?_) (fun h => absurd hq1 h)
    refine lv_bipush (v := (-9)) hx hb dX4_firstGone_48 (by decide) ?_
    have hres := Option.some.inj hf
    subst hres
    exact W.iret hx hb hr (wr_q hG hV hZ hW hS) hS.2.2 dX4_firstGone_50
  · refine lv_icmp_ge (tgt := 48) hx hb dX4_firstGone_10 (by decide) (fun h => absurd h hq1) (fun _ => ?_)
    refine lv_aload_n hx hb dX4_firstGone_13 rfl (lv_at hl 1 rfl) ?_
    refine wm_get hx hb hts wu_X5 hown hV hW (wlt_4 hky1) (wen_4 hky1) (C := RX5) (T := TX5) (N := 4) rfl 0 (by decide) (hts _ wA_113) rfl dX4_firstGone_14 ?_
    refine lv_iload_n hx hb dX4_firstGone_17 rfl (lv_at hl 2 rfl) ?_
    obtain ⟨hi2, hf⟩ := wgi_e hf
    refine wm_aldL hx hb hV hW (wk4_1 hky1) hi2 dX4_firstGone_18 ?_
    obtain ⟨r4, hc3, hf⟩ := wbind_e hf
    refine wc_V (As := []) (rest := []) hx hb hml hown hts hG hV hZ (wlt_0 (wk22_i (wk4_1 hky1) hi2)) (q := (RX1, TX1, 5)) (wen_0 (wk22_i (wk4_1 hky1) hi2)) rfl (cX1_isWell_ok l E M ((ky1 + 1) + 2 + Int32.toNatClampNeg y2) (wk22_i (wk4_1 hky1) hi2) hc3) (cwV 0 hts gl_X4_46 rfl rfl rfl cdX1_isWell ⟨Nat.le_of_ble_eq_true rfl, Nat.le_of_ble_eq_true rfl⟩) rfl hl.1 rfl (Nat.le_of_ble_eq_true rfl) dX4_firstGone_19 ⟨Nat.zero_le _, Nat.zero_le _⟩ hW hS rfl (fun H locs hW hS => ?_)
    rcases wif_e hf with ⟨hq5, hf⟩ | ⟨hq5, hf⟩
    · refine lv_if_eq (tgt := 42) hx hb dX4_firstGone_22 (by decide) (fun _ => ?_) (fun h => absurd hq5 h)
      exact pX4_firstGone_42 B hky1 hrec2 hf hW hS (lv_sub hl [0, 1, 2] rfl)
    · refine lv_if_eq (tgt := 42) hx hb dX4_firstGone_22 (by decide) (fun h => absurd h hq5) (fun _ => ?_)
      refine lv_aload_n hx hb dX4_firstGone_25 rfl (lv_at hl 0 rfl) ?_
      refine wm_get hx hb hts wu_X4 hown hV hW (wlt_3 (rfl : wkd 31 = 3)) (wen_3 (rfl : wkd 31 = 3)) (C := RX4) (T := TX4) (N := 1) rfl 0 (by decide) (hts _ wA_141) rfl dX4_firstGone_26 ?_
      refine wm_get hx hb hts wu_X5 hown hV hW (wlt_4 (rfl : wkd 32 = 4)) (wen_4 (rfl : wkd 32 = 4)) (C := RX5) (T := TX5) (N := 4) rfl 0 (by decide) (hts _ wA_113) rfl dX4_firstGone_29 ?_
      refine lv_iload_n hx hb dX4_firstGone_32 rfl (lv_at hl 2 rfl) ?_
      obtain ⟨hi7, hf⟩ := wgi_e hf
      refine wm_aldL hx hb hV hW (rfl : wkd 33 = 22) hi7 dX4_firstGone_33 ?_
      obtain ⟨r9, hc8, hf⟩ := wbind_e hf
      refine wc_V (As := []) (rest := []) hx hb hml hown hts hG hV hZ (wlt_0 (wk22_i (rfl : wkd 33 = 22) hi7)) (q := (RX1, TX1, 5)) (wen_0 (wk22_i (rfl : wkd 33 = 22) hi7)) rfl (cX1_isWell_ok l E M (33 + 2 + Int32.toNatClampNeg y2) (wk22_i (rfl : wkd 33 = 22) hi7) hc8) (cwV 0 hts gl_X4_46 rfl rfl rfl cdX1_isWell ⟨Nat.le_of_ble_eq_true rfl, Nat.le_of_ble_eq_true rfl⟩) rfl hl.1 rfl (Nat.le_of_ble_eq_true rfl) dX4_firstGone_34 ⟨Nat.zero_le _, Nat.zero_le _⟩ hW hS rfl (fun H locs hW hS => ?_)
      rcases wif_e hf with ⟨hq10, hf⟩ | ⟨hq10, hf⟩
      · refine lv_if_ne (tgt := 42) hx hb dX4_firstGone_37 (by decide) (fun h => absurd hq10 h) (fun _ => ?_)
        refine lv_iload_n hx hb dX4_firstGone_40 rfl (lv_at hl 2 rfl) ?_
        have hres := Option.some.inj hf
        subst hres
        exact W.iret hx hb hr (wr_q hG hV hZ hW hS) hS.2.2 dX4_firstGone_41
      · refine lv_if_ne (tgt := 42) hx hb dX4_firstGone_37 (by decide) (fun _ => ?_) (fun h => absurd h hq10)
        exact pX4_firstGone_42 B hky1 hrec2 hf hW hS (lv_sub hl [0, 1, 2] rfl)
set_option maxRecDepth 100000 in
set_option maxHeartbeats 4000000 in
theorem pX4_firstGone_2 (B : wB E p s m args meth c cX4_firstGone 3 RX4 (some .int)) {M : wMem} {ky1 : Nat} {y2 : Int32}  {res : Int32} (hky1 : wkd ky1 = 4)  (hf : fX4_firstGone_2 M  ky1 y2 = some res) {H : Heap} {locs : List Loc} {ls : Array Slot} (hW : wH E M H) (hS : va_S (wA E) s.heap H locs) (hl : lv_has ls 3 [(0, .ref (wad E 31)), (1, .ref (wad E ky1)), (2, .int y2)]) : W p l e ({ frames := 1, cells := 0, slots := 0, locals := 20 } : Room) s m args below meth c H locs 0 0 (MQ below (wQ E (some (.int res)) M) args s 0 0 (wA E)) (F0 m 2 ls []) := by
  have key := wloop_W (b := (fun rec2 t => fX4_firstGone_2_b M  rec2 ky1 t)) (P := fun t => ∀ (H : Heap) (locs : List Loc) (ls : Array Slot), wH E M H → va_S (wA E) s.heap H locs → lv_has ls 3 [(0, .ref (wad E 31)), (1, .ref (wad E ky1)), (2, .int t)] → W p l e ({ frames := 1, cells := 0, slots := 0, locals := 20 } : Room) s m args below meth c H locs 0 0 (MQ below (wQ E (some (.int res)) M) args s 0 0 (wA E)) (F0 m 2 ls [])) (r := res) (fun rec hrec t hf H locs ls hW hS hl => pX4_firstGone_2_b B hky1  (fun v0 hf H locs ls hW hS hl => hrec (v0) hf H locs ls hW hS hl) hf hW hS hl)
  exact key wfuel (y2) hf H locs ls hW hS hl
set_option maxRecDepth 100000 in
set_option maxHeartbeats 4000000 in
theorem pX4_firstGone (B : wB E p s m args meth c cX4_firstGone 3 RX4 (some .int)) {M : wMem} {k1 : Nat} (hk1 : wkd k1 = 4) {res : Int32} (hf : fX4_firstGone M k1 = some res) {H : Heap} {locs : List Loc} {ls : Array Slot} (hW : wH E M H) (hS : va_S (wA E) s.heap H locs) (hl : lv_has ls 3 [(0, .ref (wad E 31)), (1, .ref (wad E k1))]) : W p l e ({ frames := 1, cells := 0, slots := 0, locals := 20 } : Room) s m args below meth c H locs 0 0 (MQ below (wQ E (some (.int res)) M) args s 0 0 (wA E)) (F0 m 0 ls []) := by
  unfold fX4_firstGone at hf
  obtain ⟨hx, hb, hr, hml, hown, hts, hlocks, hG, hV, hZ⟩ := id B
  refine lv_iconst (v := 0) hx hb dX4_firstGone_0 rfl ?_
  refine lv_istore_n (lv' := [(2, .int 0), (0, .ref (wad E 31)), (1, .ref (wad E k1))]) hx hb dX4_firstGone_1 rfl hl (by decide) rfl (fun ls hl => ?_)
  exact pX4_firstGone_2 B hk1  hf hW hS (lv_sub hl [1, 2, 0] rfl)
theorem cX4_firstGone_ok (l : Launch) (E : wE) (M : wMem) (k1 : Nat) (hk1 : wkd k1 = 4) {res : Int32} (hf : fX4_firstGone M k1 = some res) : wMet l yX4_firstGone (wsM yX4_firstGone cX4_firstGone 3 (some .int)) ({ frames := 1, cells := 0, slots := 0, locals := 20 } : Room) E M [.ref (wad E 31), .ref (wad E k1)] (some (.int res)) M :=
  wc_of (cc := cX4_firstGone) (maxL := 3) (ret := (some .int)) (by decide) (Nat.le_of_ble_eq_true rfl) (fun _ _ _ _ _ _ _ _ B hW hl => pX4_firstGone B hk1 hf hW va_S.rf hl)
end
theorem cdX4_firstToGo : yX4_firstToGo.cls = RX4 ∧ yX4_firstToGo.cls ≠ "java/lang/invoke/MethodHandle" ∧ yX4_firstToGo.cls ≠ "java/lang/invoke/VarHandle" ∧ (parseMethodDescriptor yX4_firstToGo.desc).map (fun d => d.parameters.length) = some 2 := by decide +kernel
section
variable {p : Program} {l : Launch} {e : Env} {s : State} {m : MethodId} {args : Array Value} {below : List Frame} {meth : Method} {c : Code} {E : wE}
set_option maxRecDepth 100000 in
set_option maxHeartbeats 4000000 in
theorem pX4_firstToGo_8_b (B : wB E p s m args meth c cX4_firstToGo 5 RX4 (some .int)) {M : wMem} {ky1 : Nat} {y2 : Int32} {y3 : Int32}  {rec8 : (Int32 × wMem → Option (Int32 × wMem))} {res : Int32 × wMem} (hky1 : wkd ky1 = 4)  (hrec8 : ∀ (y3' : Int32) (M' : wMem), rec8 (y3', M') = some res → ∀ (H : Heap) (locs : List Loc) (ls : Array Slot), wH E M' H → va_S (wA E) s.heap H locs → lv_has ls 5 [(0, .ref (wad E 31)), (1, .ref (wad E ky1)), (2, .int y2), (3, .int y3')] → W p l e ({ frames := 4, cells := 0, slots := 0, locals := 89 } : Room) s m args below meth c H locs 0 0 (MQ below (wQ E (some (.int res.1)) res.2) args s 0 0 (wA E)) (F0 m 8 ls [])) (hf : fX4_firstToGo_8_b M  rec8 ky1 y2 y3 = some res) {H : Heap} {locs : List Loc} {ls : Array Slot} (hW : wH E M H) (hS : va_S (wA E) s.heap H locs) (hl : lv_has ls 5 [(0, .ref (wad E 31)), (1, .ref (wad E ky1)), (2, .int y2), (3, .int y3)]) : W p l e ({ frames := 4, cells := 0, slots := 0, locals := 89 } : Room) s m args below meth c H locs 0 0 (MQ below (wQ E (some (.int res.1)) res.2) args s 0 0 (wA E)) (F0 m 8 ls []) := by
  unfold fX4_firstToGo_8_b at hf
  obtain ⟨hx, hb, hr, hml, hown, hts, hlocks, hG, hV, hZ⟩ := id B
  refine lv_iload_n hx hb dX4_firstToGo_8 rfl (lv_at hl 3 rfl) ?_
  refine lv_sipush (v := 400) hx hb dX4_firstToGo_9 (by decide) ?_
  rcases wif_e hf with ⟨hq4, hf⟩ | ⟨hq4, hf⟩
  · refine lv_icmp_gt (tgt := 52) hx hb dX4_firstToGo_12 (by decide) (fun _ => ?_) (fun h => absurd hq4 h)
    refine lv_bipush (v := (-9)) hx hb dX4_firstToGo_52 (by decide) ?_
    have hres := Option.some.inj hf
    subst hres
    exact W.iret hx hb hr (wr_q hG hV hZ hW hS) hS.2.2 dX4_firstToGo_54
  · refine lv_icmp_gt (tgt := 52) hx hb dX4_firstToGo_12 (by decide) (fun h => absurd h hq4) (fun _ => ?_)
    refine lv_aload_n hx hb dX4_firstToGo_15 rfl (lv_at hl 0 rfl) ?_
    refine wm_get hx hb hts wu_X4 hown hV hW (wlt_3 (rfl : wkd 31 = 3)) (wen_3 (rfl : wkd 31 = 3)) (C := RX4) (T := TX4) (N := 1) rfl 0 (by decide) (hts _ wA_141) rfl dX4_firstToGo_16 ?_
    obtain ⟨r6, M7, hc5, hf⟩ := wbind_p hf
    refine wc_V (As := []) (rest := []) hx hb hml hown hts hG hV hZ (wlt_4 (rfl : wkd 32 = 4)) (q := (RX5, TX5, 4)) (wen_4 (rfl : wkd 32 = 4)) rfl (cX5_passHour_ok l E M 32 (rfl : wkd 32 = 4) hc5) (cwV 0 hts gl_X4_30 rfl rfl rfl cdX5_passHour ⟨Nat.le_of_ble_eq_true rfl, Nat.le_of_ble_eq_true rfl⟩) rfl hl.1 rfl (Nat.le_of_ble_eq_true rfl) dX4_firstToGo_19 ⟨Nat.zero_le _, Nat.zero_le _⟩ hW hS rfl (fun H locs hW hS => ?_)
    refine lv_pop hx hb dX4_firstToGo_22 rfl ?_
    refine lv_aload_n hx hb dX4_firstToGo_23 rfl (lv_at hl 0 rfl) ?_
    refine lv_aload_n hx hb dX4_firstToGo_24 rfl (lv_at hl 1 rfl) ?_
    obtain ⟨r9, hc8, hf⟩ := wbind_e hf
    refine wc_V (As := [.ref (wad E ky1)]) (rest := []) hx hb hml hown hts hG hV hZ (wlt_3 (rfl : wkd 31 = 3)) (q := (RX4, TX4, 1)) (wen_3 (rfl : wkd 31 = 3)) rfl (cX4_firstGone_ok l E M7 ky1 hky1 hc8) (cwV 1 hts gl_X4_34 rfl rfl rfl cdX4_firstGone ⟨Nat.le_of_ble_eq_true rfl, Nat.le_of_ble_eq_true rfl⟩) rfl hl.1 rfl (Nat.le_of_ble_eq_true rfl) dX4_firstToGo_25 ⟨Nat.zero_le _, Nat.zero_le _⟩ hW hS rfl (fun H locs hW hS => ?_)
    refine lv_istore (lv' := [(4, .int r9), (0, .ref (wad E 31)), (1, .ref (wad E ky1)), (2, .int y2), (3, .int y3)]) hx hb dX4_firstToGo_28 hl (by decide) rfl (fun ls hl => ?_)
    refine lv_iload hx hb dX4_firstToGo_30 (lv_at hl 0 rfl) ?_
    rcases wif_e hf with ⟨hq10, hf⟩ | ⟨hq10, hf⟩
    · refine lv_if_lt (tgt := 46) hx hb dX4_firstToGo_32 (by decide) (fun _ => ?_) (fun h => absurd hq10 h)
      obtain ⟨x11, ex11, hf⟩ := wlet_e hf
      refine lv_iinc (v := x11) (lv' := [(3, .int x11), (4, .int r9), (0, .ref (wad E 31)), (1, .ref (wad E ky1)), (2, .int y2)]) hx hb dX4_firstToGo_46 hl (k := 4) rfl (by rw [ex11]; rfl) (by decide) rfl (fun ls hl => ?_)
      refine lv_goto (tgt := 8) hx hb dX4_firstToGo_49 (by decide) ?_
      exact hrec8 x11 M7 hf _ _ _ hW hS (lv_sub hl [2, 3, 4, 0] rfl)
    · refine lv_if_lt (tgt := 46) hx hb dX4_firstToGo_32 (by decide) (fun h => absurd h hq10) (fun _ => ?_)
      refine lv_iload_n hx hb dX4_firstToGo_35 rfl (lv_at hl 3 rfl) ?_
      rcases wif_e hf with ⟨hq12, hf⟩ | ⟨hq12, hf⟩
      · refine lv_if_eq (tgt := 44) hx hb dX4_firstToGo_36 (by decide) (fun _ => ?_) (fun h => absurd hq12 h)
        refine lv_iload_n hx hb dX4_firstToGo_44 rfl (lv_at hl 4 rfl) ?_
        have hres := Option.some.inj hf
        subst hres
        exact W.iret hx hb hr (wr_q hG hV hZ hW hS) hS.2.2 dX4_firstToGo_45
      · refine lv_if_eq (tgt := 44) hx hb dX4_firstToGo_36 (by decide) (fun h => absurd h hq12) (fun _ => ?_)
        refine lv_iload hx hb dX4_firstToGo_39 (lv_at hl 0 rfl) ?_
        refine lv_goto (tgt := 45) hx hb dX4_firstToGo_41 (by decide) ?_
        have hres := Option.some.inj hf
        subst hres
        exact W.iret hx hb hr (wr_q hG hV hZ hW hS) hS.2.2 dX4_firstToGo_45
set_option maxRecDepth 100000 in
set_option maxHeartbeats 4000000 in
theorem pX4_firstToGo_8 (B : wB E p s m args meth c cX4_firstToGo 5 RX4 (some .int)) {M : wMem} {ky1 : Nat} {y2 : Int32} {y3 : Int32}  {res : Int32 × wMem} (hky1 : wkd ky1 = 4)  (hf : fX4_firstToGo_8 M  ky1 y2 y3 = some res) {H : Heap} {locs : List Loc} {ls : Array Slot} (hW : wH E M H) (hS : va_S (wA E) s.heap H locs) (hl : lv_has ls 5 [(0, .ref (wad E 31)), (1, .ref (wad E ky1)), (2, .int y2), (3, .int y3)]) : W p l e ({ frames := 4, cells := 0, slots := 0, locals := 89 } : Room) s m args below meth c H locs 0 0 (MQ below (wQ E (some (.int res.1)) res.2) args s 0 0 (wA E)) (F0 m 8 ls []) := by
  have key := wloop_W (b := (fun rec8 t => fX4_firstToGo_8_b t.2  rec8 ky1 y2 t.1)) (P := fun t => ∀ (H : Heap) (locs : List Loc) (ls : Array Slot), wH E t.2 H → va_S (wA E) s.heap H locs → lv_has ls 5 [(0, .ref (wad E 31)), (1, .ref (wad E ky1)), (2, .int y2), (3, .int t.1)] → W p l e ({ frames := 4, cells := 0, slots := 0, locals := 89 } : Room) s m args below meth c H locs 0 0 (MQ below (wQ E (some (.int res.1)) res.2) args s 0 0 (wA E)) (F0 m 8 ls [])) (r := res) (fun rec hrec t hf H locs ls hW hS hl => pX4_firstToGo_8_b B hky1  (fun v0 v1 hf H locs ls hW hS hl => hrec (v0, v1) hf H locs ls hW hS hl) hf hW hS hl)
  exact key wfuel (y3, M) hf H locs ls hW hS hl
set_option maxRecDepth 100000 in
set_option maxHeartbeats 4000000 in
theorem pX4_firstToGo (B : wB E p s m args meth c cX4_firstToGo 5 RX4 (some .int)) {M : wMem} {k1 : Nat} {a2 : Int32} (hk1 : wkd k1 = 4) {res : Int32 × wMem} (hf : fX4_firstToGo M k1 a2 = some res) {H : Heap} {locs : List Loc} {ls : Array Slot} (hW : wH E M H) (hS : va_S (wA E) s.heap H locs) (hl : lv_has ls 5 [(0, .ref (wad E 31)), (1, .ref (wad E k1)), (2, .int a2)]) : W p l e ({ frames := 4, cells := 0, slots := 0, locals := 89 } : Room) s m args below meth c H locs 0 0 (MQ below (wQ E (some (.int res.1)) res.2) args s 0 0 (wA E)) (F0 m 0 ls []) := by
  unfold fX4_firstToGo at hf
  obtain ⟨hx, hb, hr, hml, hown, hts, hlocks, hG, hV, hZ⟩ := id B
  refine lv_aload_n hx hb dX4_firstToGo_0 rfl (lv_at hl 0 rfl) ?_
  refine lv_aload_n hx hb dX4_firstToGo_1 rfl (lv_at hl 1 rfl) ?_
  obtain ⟨M3, hc1, hf⟩ := wbind_e hf
  refine wc_V (As := [.ref (wad E k1)]) (rest := []) hx hb hml hown hts hG hV hZ (wlt_3 (rfl : wkd 31 = 3)) (q := (RX4, TX4, 1)) (wen_3 (rfl : wkd 31 = 3)) rfl (cX4_startFrom_ok l E M k1 hk1 hc1) (cwV 1 hts gl_X4_22 rfl rfl rfl cdX4_startFrom ⟨Nat.le_of_ble_eq_true rfl, Nat.le_of_ble_eq_true rfl⟩) rfl hl.1 rfl (Nat.le_of_ble_eq_true rfl) dX4_firstToGo_2 ⟨Nat.zero_le _, Nat.zero_le _⟩ hW hS rfl (fun H locs hW hS => ?_)
  refine lv_pop hx hb dX4_firstToGo_5 rfl ?_
  refine lv_iconst (v := 1) hx hb dX4_firstToGo_6 rfl ?_
  refine lv_istore_n (lv' := [(3, .int 1), (0, .ref (wad E 31)), (1, .ref (wad E k1)), (2, .int a2)]) hx hb dX4_firstToGo_7 rfl hl (by decide) rfl (fun ls hl => ?_)
  exact pX4_firstToGo_8 B hk1  hf hW hS (lv_sub hl [1, 2, 3, 0] rfl)
theorem cX4_firstToGo_ok (l : Launch) (E : wE) (M : wMem) (k1 : Nat) (hk1 : wkd k1 = 4) (a2 : Int32) {res : Int32 × wMem} (hf : fX4_firstToGo M k1 a2 = some res) : wMet l yX4_firstToGo (wsM yX4_firstToGo cX4_firstToGo 5 (some .int)) ({ frames := 4, cells := 0, slots := 0, locals := 89 } : Room) E M [.ref (wad E 31), .ref (wad E k1), .int a2] (some (.int res.1)) res.2 :=
  wc_of (cc := cX4_firstToGo) (maxL := 5) (ret := (some .int)) (by decide) (Nat.le_of_ble_eq_true rfl) (fun _ _ _ _ _ _ _ _ B hW hl => pX4_firstToGo B hk1 hf hW va_S.rf hl)
end
theorem cdX9_next : yX9_next.cls = RX9 ∧ yX9_next.cls ≠ "java/lang/invoke/MethodHandle" ∧ yX9_next.cls ≠ "java/lang/invoke/VarHandle" ∧ (parseMethodDescriptor yX9_next.desc).map (fun d => d.parameters.length) = some 1 := by decide +kernel
section
variable {p : Program} {l : Launch} {e : Env} {s : State} {m : MethodId} {args : Array Value} {below : List Frame} {meth : Method} {c : Code} {E : wE}
set_option maxRecDepth 100000 in
set_option maxHeartbeats 4000000 in
theorem pX9_next_33 (B : wB E p s m args meth c cX9_next 2 RX9 (some .int)) {M : wMem} {z2 : Int32}  {res : Int32 × wMem}   (hf : fX9_next_33 M  z2 = some res) {H : Heap} {locs : List Loc} {ls : Array Slot} (hW : wH E M H) (hS : va_S (wA E) s.heap H locs) (hl : lv_has ls 2 []) : W p l e ({ frames := 5, cells := 0, slots := 0, locals := 113 } : Room) s m args below meth c H locs 0 0 (MQ below (wQ E (some (.int res.1)) res.2) args s 0 0 (wA E)) (F0 m 33 ls [.int z2, .ref (wad E 1), .ref (wad E 31)]) := by
  unfold fX9_next_33 at hf
  obtain ⟨hx, hb, hr, hml, hown, hts, hlocks, hG, hV, hZ⟩ := id B
  obtain ⟨r4, M5, hc3, hf⟩ := wbind_p hf
  refine wc_V (As := [.ref (wad E 1), .int z2]) (rest := []) hx hb hml hown hts hG hV hZ (wlt_3 (rfl : wkd 31 = 3)) (q := (RX4, TX4, 1)) (wen_3 (rfl : wkd 31 = 3)) rfl (cX4_firstToGo_ok l E M 1 (rfl : wkd 1 = 4) z2 hc3) (cwV 2 hts gl_X9_197 rfl rfl rfl cdX4_firstToGo ⟨Nat.le_of_ble_eq_true rfl, Nat.le_of_ble_eq_true rfl⟩) rfl hl.1 rfl (Nat.le_of_ble_eq_true rfl) dX9_next_33 ⟨Nat.zero_le _, Nat.zero_le _⟩ hW hS rfl (fun H locs hW hS => ?_)
  have hres := Option.some.inj hf
  subst hres
  exact W.iret hx hb hr (wr_q hG hV hZ hW hS) hS.2.2 dX9_next_36
set_option maxRecDepth 100000 in
set_option maxHeartbeats 4000000 in
theorem pX9_next_16 (B : wB E p s m args meth c cX9_next 2 RX9 (some .int)) {M : wMem} {y1 : Int32}  {res : Int32 × wMem}   (hf : fX9_next_16 M  y1 = some res) {H : Heap} {locs : List Loc} {ls : Array Slot} (hW : wH E M H) (hS : va_S (wA E) s.heap H locs) (hl : lv_has ls 2 [(0, .ref (wad E 0)), (1, .int y1)]) : W p l e ({ frames := 5, cells := 0, slots := 0, locals := 113 } : Room) s m args below meth c H locs 0 0 (MQ below (wQ E (some (.int res.1)) res.2) args s 0 0 (wA E)) (F0 m 16 ls []) := by
  unfold fX9_next_16 at hf
  obtain ⟨hx, hb, hr, hml, hown, hts, hlocks, hG, hV, hZ⟩ := id B
  refine lv_aload_n hx hb dX9_next_16 rfl (lv_at hl 0 rfl) ?_
  refine wm_get hx hb hts wu_X9 hown hV hW (wlt_8 (rfl : wkd 0 = 8)) (wen_8 (rfl : wkd 0 = 8)) (C := RX9) (T := TX9) (N := 10) rfl 2 (by decide) (hts _ wA_233) rfl dX9_next_17 ?_
  refine lv_aload_n hx hb dX9_next_20 rfl (lv_at hl 0 rfl) ?_
  refine wm_get hx hb hts wu_X9 hown hV hW (wlt_8 (rfl : wkd 0 = 8)) (wen_8 (rfl : wkd 0 = 8)) (C := RX9) (T := TX9) (N := 10) rfl 0 (by decide) (hts _ wA_231) rfl dX9_next_21 ?_
  refine lv_iload_n hx hb dX9_next_24 rfl (lv_at hl 1 rfl) ?_
  rcases wif_e hf with ⟨hq2, hf⟩ | ⟨hq2, hf⟩
  · refine lv_if_ne (tgt := 32) hx hb dX9_next_25 (by decide) (fun h => absurd hq2 h) (fun _ => ?_)
    refine lv_iconst (v := 1) hx hb dX9_next_28 rfl ?_
    refine lv_goto (tgt := 33) hx hb dX9_next_29 (by decide) ?_
    exact pX9_next_33 B   hf hW hS (lv_sub hl [] rfl)
  · refine lv_if_ne (tgt := 32) hx hb dX9_next_25 (by decide) (fun _ => ?_) (fun h => absurd h hq2)
    refine lv_iconst (v := 0) hx hb dX9_next_32 rfl ?_
    exact pX9_next_33 B   hf hW hS (lv_sub hl [] rfl)
set_option maxRecDepth 100000 in
set_option maxHeartbeats 4000000 in
theorem pX9_next (B : wB E p s m args meth c cX9_next 2 RX9 (some .int)) {M : wMem} {a1 : Int32}  {res : Int32 × wMem} (hf : fX9_next M a1 = some res) {H : Heap} {locs : List Loc} {ls : Array Slot} (hW : wH E M H) (hS : va_S (wA E) s.heap H locs) (hl : lv_has ls 2 [(0, .ref (wad E 0)), (1, .int a1)]) : W p l e ({ frames := 5, cells := 0, slots := 0, locals := 113 } : Room) s m args below meth c H locs 0 0 (MQ below (wQ E (some (.int res.1)) res.2) args s 0 0 (wA E)) (F0 m 0 ls []) := by
  unfold fX9_next at hf
  obtain ⟨hx, hb, hr, hml, hown, hts, hlocks, hG, hV, hZ⟩ := id B
  refine lv_iload_n hx hb dX9_next_0 rfl (lv_at hl 1 rfl) ?_
  rcases wif_e hf with ⟨hq1, hf⟩ | ⟨hq1, hf⟩
  · refine lv_if_eq (tgt := 16) hx hb dX9_next_1 (by decide) (fun _ => ?_) (fun h => absurd hq1 h)
    exact pX9_next_16 B   hf hW hS (lv_sub hl [0, 1] rfl)
  · refine lv_if_eq (tgt := 16) hx hb dX9_next_1 (by decide) (fun h => absurd h hq1) (fun _ => ?_)
    refine lv_iload_n hx hb dX9_next_4 rfl (lv_at hl 1 rfl) ?_
    refine lv_iconst (v := 1) hx hb dX9_next_5 rfl ?_
    rcases wif_e hf with ⟨hq6, hf⟩ | ⟨hq6, hf⟩
    · refine lv_icmp_eq (tgt := 16) hx hb dX9_next_6 (by decide) (fun _ => ?_) (fun h => absurd hq6 h)
      exact pX9_next_16 B   hf hW hS (lv_sub hl [0, 1] rfl)
    · refine lv_icmp_eq (tgt := 16) hx hb dX9_next_6 (by decide) (fun h => absurd h hq6) (fun _ => ?_)
      refine lv_aload_n hx hb dX9_next_9 rfl (lv_at hl 0 rfl) ?_
      refine lv_bipush (v := (-2)) hx hb dX9_next_10 (by decide) ?_
      obtain ⟨r8, M9, hc7, hf⟩ := wbind_p hf
      refine wc_V (As := [.int (-2)]) (rest := []) hx hb hml hown hts hG hV hZ (wlt_8 (rfl : wkd 0 = 8)) (q := (RX9, TX9, 10)) (wen_8 (rfl : wkd 0 = 8)) rfl (cX9_refuse_ok l E M (-2) hc7) (cwV 1 hts gl_X9_65 rfl rfl rfl cdX9_refuse ⟨Nat.le_of_ble_eq_true rfl, Nat.le_of_ble_eq_true rfl⟩) rfl hl.1 rfl (Nat.le_of_ble_eq_true rfl) dX9_next_12 ⟨Nat.zero_le _, Nat.zero_le _⟩ hW hS rfl (fun H locs hW hS => ?_)
      have hres := Option.some.inj hf
      subst hres
      exact W.iret hx hb hr (wr_q hG hV hZ hW hS) hS.2.2 dX9_next_15
theorem cX9_next_ok (l : Launch) (E : wE) (M : wMem) (a1 : Int32) {res : Int32 × wMem} (hf : fX9_next M a1 = some res) : wMet l yX9_next (wsM yX9_next cX9_next 2 (some .int)) ({ frames := 5, cells := 0, slots := 0, locals := 113 } : Room) E M [.ref (wad E 0), .int a1] (some (.int res.1)) res.2 :=
  wc_of (cc := cX9_next) (maxL := 2) (ret := (some .int)) (by decide) (Nat.le_of_ble_eq_true rfl) (fun _ _ _ _ _ _ _ _ B hW hl => pX9_next B  hf hW va_S.rf hl)
end
theorem cdX5_howMany : yX5_howMany.cls = RX5 ∧ yX5_howMany.cls ≠ "java/lang/invoke/MethodHandle" ∧ yX5_howMany.cls ≠ "java/lang/invoke/VarHandle" ∧ (parseMethodDescriptor yX5_howMany.desc).map (fun d => d.parameters.length) = some 1 := by decide +kernel
section
variable {p : Program} {l : Launch} {e : Env} {s : State} {m : MethodId} {args : Array Value} {below : List Frame} {meth : Method} {c : Code} {E : wE}
set_option maxRecDepth 100000 in
set_option maxHeartbeats 4000000 in
theorem pX5_howMany_28 (B : wB E p s m args meth c cX5_howMany 4 RX5 (some .int)) {M : wMem} {ky0 : Nat} {y1 : Int32} {y2 : Int32} {y3 : Int32} {rec4 : (Int32 × Int32 → Option (Int32))} {res : Int32} (hky0 : wkd ky0 = 4) (hrec4 : ∀ (y2' : Int32) (y3' : Int32), rec4 (y2', y3') = some res → ∀ (H : Heap) (locs : List Loc) (ls : Array Slot), wH E M H → va_S (wA E) s.heap H locs → lv_has ls 4 [(0, .ref (wad E ky0)), (1, .int y1), (2, .int y2'), (3, .int y3')] → W p l e ({ frames := 0, cells := 0, slots := 0, locals := 0 } : Room) s m args below meth c H locs 0 0 (MQ below (wQ E (some (.int res)) M) args s 0 0 (wA E)) (F0 m 4 ls [])) (hf : fX5_howMany_28 M rec4 ky0 y1 y2 y3 = some res) {H : Heap} {locs : List Loc} {ls : Array Slot} (hW : wH E M H) (hS : va_S (wA E) s.heap H locs) (hl : lv_has ls 4 [(0, .ref (wad E ky0)), (1, .int y1), (2, .int y2), (3, .int y3)]) : W p l e ({ frames := 0, cells := 0, slots := 0, locals := 0 } : Room) s m args below meth c H locs 0 0 (MQ below (wQ E (some (.int res)) M) args s 0 0 (wA E)) (F0 m 28 ls []) := by
  unfold fX5_howMany_28 at hf
  obtain ⟨hx, hb, hr, hml, hown, hts, hlocks, hG, hV, hZ⟩ := id B
  obtain ⟨x4, ex4, hf⟩ := wlet_e hf
  refine lv_iinc (v := x4) (lv' := [(3, .int x4), (0, .ref (wad E ky0)), (1, .int y1), (2, .int y2)]) hx hb dX5_howMany_28 hl (k := 3) rfl (by rw [ex4]; rfl) (by decide) rfl (fun ls hl => ?_)
  refine lv_goto (tgt := 4) hx hb dX5_howMany_31 (by decide) ?_
  exact hrec4 y2 x4 hf _ _ _ hW hS (lv_sub hl [1, 2, 3, 0] rfl)
set_option maxRecDepth 100000 in
set_option maxHeartbeats 4000000 in
theorem pX5_howMany_4_b (B : wB E p s m args meth c cX5_howMany 4 RX5 (some .int)) {M : wMem} {ky0 : Nat} {y1 : Int32} {y2 : Int32} {y3 : Int32}  {rec4 : (Int32 × Int32 → Option (Int32))} {res : Int32} (hky0 : wkd ky0 = 4)  (hrec4 : ∀ (y2' : Int32) (y3' : Int32), rec4 (y2', y3') = some res → ∀ (H : Heap) (locs : List Loc) (ls : Array Slot), wH E M H → va_S (wA E) s.heap H locs → lv_has ls 4 [(0, .ref (wad E ky0)), (1, .int y1), (2, .int y2'), (3, .int y3')] → W p l e ({ frames := 0, cells := 0, slots := 0, locals := 0 } : Room) s m args below meth c H locs 0 0 (MQ below (wQ E (some (.int res)) M) args s 0 0 (wA E)) (F0 m 4 ls [])) (hf : fX5_howMany_4_b M  rec4 ky0 y1 y2 y3 = some res) {H : Heap} {locs : List Loc} {ls : Array Slot} (hW : wH E M H) (hS : va_S (wA E) s.heap H locs) (hl : lv_has ls 4 [(0, .ref (wad E ky0)), (1, .int y1), (2, .int y2), (3, .int y3)]) : W p l e ({ frames := 0, cells := 0, slots := 0, locals := 0 } : Room) s m args below meth c H locs 0 0 (MQ below (wQ E (some (.int res)) M) args s 0 0 (wA E)) (F0 m 4 ls []) := by
  unfold fX5_howMany_4_b at hf
  obtain ⟨hx, hb, hr, hml, hown, hts, hlocks, hG, hV, hZ⟩ := id B
  refine lv_iload_n hx hb dX5_howMany_4 rfl (lv_at hl 3 rfl) ?_
  refine lv_aload_n hx hb dX5_howMany_5 rfl (lv_at hl 0 rfl) ?_
  refine wm_get hx hb hts wu_X5 hown hV hW (wlt_4 hky0) (wen_4 hky0) (C := RX5) (T := TX5) (N := 4) rfl 2 (by decide) (hts _ wA_117) rfl dX5_howMany_6 ?_
  rcases wif_e hf with ⟨hq1, hf⟩ | ⟨hq1, hf⟩
  · refine lv_icmp_ge (tgt := 34) hx hb dX5_howMany_9 (by decide) (fun _ => ?_) (fun h => absurd hq1 h)
    refine lv_iload_n hx hb dX5_howMany_34 rfl (lv_at hl 2 rfl) ?_
    have hres := Option.some.inj hf
    subst hres
    exact W.iret hx hb hr (wr_q hG hV hZ hW hS) hS.2.2 dX5_howMany_35
  · refine lv_icmp_ge (tgt := 34) hx hb dX5_howMany_9 (by decide) (fun h => absurd h hq1) (fun _ => ?_)
    refine lv_aload_n hx hb dX5_howMany_12 rfl (lv_at hl 0 rfl) ?_
    refine wm_get hx hb hts wu_X5 hown hV hW (wlt_4 hky0) (wen_4 hky0) (C := RX5) (T := TX5) (N := 4) rfl 0 (by decide) (hts _ wA_109) rfl dX5_howMany_13 ?_
    refine lv_iload_n hx hb dX5_howMany_16 rfl (lv_at hl 3 rfl) ?_
    obtain ⟨hi2, hf⟩ := wgi_e hf
    refine wm_aldL hx hb hV hW (wk4_1 hky0) hi2 dX5_howMany_17 ?_
    refine wm_get hx hb hts wu_X1 hown hV hW (wlt_0 (wk22_i (wk4_1 hky0) hi2)) (wen_0 (wk22_i (wk4_1 hky0) hi2)) (C := RX1) (T := TX1) (N := 5) rfl 4 (by decide) (hts _ wA_96) rfl dX5_howMany_18 ?_
    refine lv_iload_n hx hb dX5_howMany_21 rfl (lv_at hl 1 rfl) ?_
    rcases wif_e hf with ⟨hq3, hf⟩ | ⟨hq3, hf⟩
    · refine lv_icmp_ne (tgt := 28) hx hb dX5_howMany_22 (by decide) (fun h => absurd hq3 h) (fun _ => ?_)
      obtain ⟨x5, ex5, hf⟩ := wlet_e hf
      refine lv_iinc (v := x5) (lv' := [(2, .int x5), (0, .ref (wad E ky0)), (1, .int y1), (3, .int y3)]) hx hb dX5_howMany_25 hl (k := 2) rfl (by rw [ex5]; rfl) (by decide) rfl (fun ls hl => ?_)
      exact pX5_howMany_28 B hky0 hrec4 hf hW hS (lv_sub hl [1, 2, 0, 3] rfl)
    · refine lv_icmp_ne (tgt := 28) hx hb dX5_howMany_22 (by decide) (fun _ => ?_) (fun h => absurd h hq3)
      exact pX5_howMany_28 B hky0 hrec4 hf hW hS (lv_sub hl [0, 1, 2, 3] rfl)
set_option maxRecDepth 100000 in
set_option maxHeartbeats 4000000 in
theorem pX5_howMany_4 (B : wB E p s m args meth c cX5_howMany 4 RX5 (some .int)) {M : wMem} {ky0 : Nat} {y1 : Int32} {y2 : Int32} {y3 : Int32}  {res : Int32} (hky0 : wkd ky0 = 4)  (hf : fX5_howMany_4 M  ky0 y1 y2 y3 = some res) {H : Heap} {locs : List Loc} {ls : Array Slot} (hW : wH E M H) (hS : va_S (wA E) s.heap H locs) (hl : lv_has ls 4 [(0, .ref (wad E ky0)), (1, .int y1), (2, .int y2), (3, .int y3)]) : W p l e ({ frames := 0, cells := 0, slots := 0, locals := 0 } : Room) s m args below meth c H locs 0 0 (MQ below (wQ E (some (.int res)) M) args s 0 0 (wA E)) (F0 m 4 ls []) := by
  have key := wloop_W (b := (fun rec4 t => fX5_howMany_4_b M  rec4 ky0 y1 t.1 t.2)) (P := fun t => ∀ (H : Heap) (locs : List Loc) (ls : Array Slot), wH E M H → va_S (wA E) s.heap H locs → lv_has ls 4 [(0, .ref (wad E ky0)), (1, .int y1), (2, .int t.1), (3, .int t.2)] → W p l e ({ frames := 0, cells := 0, slots := 0, locals := 0 } : Room) s m args below meth c H locs 0 0 (MQ below (wQ E (some (.int res)) M) args s 0 0 (wA E)) (F0 m 4 ls [])) (r := res) (fun rec hrec t hf H locs ls hW hS hl => pX5_howMany_4_b B hky0  (fun v0 v1 hf H locs ls hW hS hl => hrec (v0, v1) hf H locs ls hW hS hl) hf hW hS hl)
  exact key wfuel (y2, y3) hf H locs ls hW hS hl
set_option maxRecDepth 100000 in
set_option maxHeartbeats 4000000 in
theorem pX5_howMany (B : wB E p s m args meth c cX5_howMany 4 RX5 (some .int)) {M : wMem} {k0 : Nat} {a1 : Int32} (hk0 : wkd k0 = 4) {res : Int32} (hf : fX5_howMany M k0 a1 = some res) {H : Heap} {locs : List Loc} {ls : Array Slot} (hW : wH E M H) (hS : va_S (wA E) s.heap H locs) (hl : lv_has ls 4 [(0, .ref (wad E k0)), (1, .int a1)]) : W p l e ({ frames := 0, cells := 0, slots := 0, locals := 0 } : Room) s m args below meth c H locs 0 0 (MQ below (wQ E (some (.int res)) M) args s 0 0 (wA E)) (F0 m 0 ls []) := by
  unfold fX5_howMany at hf
  obtain ⟨hx, hb, hr, hml, hown, hts, hlocks, hG, hV, hZ⟩ := id B
  refine lv_iconst (v := 0) hx hb dX5_howMany_0 rfl ?_
  refine lv_istore_n (lv' := [(2, .int 0), (0, .ref (wad E k0)), (1, .int a1)]) hx hb dX5_howMany_1 rfl hl (by decide) rfl (fun ls hl => ?_)
  refine lv_iconst (v := 0) hx hb dX5_howMany_2 rfl ?_
  refine lv_istore_n (lv' := [(3, .int 0), (2, .int 0), (0, .ref (wad E k0)), (1, .int a1)]) hx hb dX5_howMany_3 rfl hl (by decide) rfl (fun ls hl => ?_)
  exact pX5_howMany_4 B hk0  hf hW hS (lv_sub hl [2, 3, 1, 0] rfl)
theorem cX5_howMany_ok (l : Launch) (E : wE) (M : wMem) (k0 : Nat) (hk0 : wkd k0 = 4) (a1 : Int32) {res : Int32} (hf : fX5_howMany M k0 a1 = some res) : wMet l yX5_howMany (wsM yX5_howMany cX5_howMany 4 (some .int)) ({ frames := 0, cells := 0, slots := 0, locals := 0 } : Room) E M [.ref (wad E k0), .int a1] (some (.int res)) M :=
  wc_of (cc := cX5_howMany) (maxL := 4) (ret := (some .int)) (by decide) (Nat.le_of_ble_eq_true rfl) (fun _ _ _ _ _ _ _ _ B hW hl => pX5_howMany B hk0 hf hW va_S.rf hl)
end
theorem cdX4_hoursTillBridged : yX4_hoursTillBridged.cls = RX4 ∧ yX4_hoursTillBridged.cls ≠ "java/lang/invoke/MethodHandle" ∧ yX4_hoursTillBridged.cls ≠ "java/lang/invoke/VarHandle" ∧ (parseMethodDescriptor yX4_hoursTillBridged.desc).map (fun d => d.parameters.length) = some 2 := by decide +kernel
section
variable {p : Program} {l : Launch} {e : Env} {s : State} {m : MethodId} {args : Array Value} {below : List Frame} {meth : Method} {c : Code} {E : wE}
set_option maxRecDepth 100000 in
set_option maxHeartbeats 4000000 in
theorem pX4_hoursTillBridged_8_b (B : wB E p s m args meth c cX4_hoursTillBridged 4 RX4 (some .int)) {M : wMem} {y2 : Int32} {y3 : Int32}  {rec8 : (Int32 × wMem → Option (Int32 × wMem))} {res : Int32 × wMem}   (hrec8 : ∀ (y3' : Int32) (M' : wMem), rec8 (y3', M') = some res → ∀ (H : Heap) (locs : List Loc) (ls : Array Slot), wH E M' H → va_S (wA E) s.heap H locs → lv_has ls 4 [(0, .ref (wad E 31)), (2, .int y2), (3, .int y3')] → W p l e ({ frames := 4, cells := 0, slots := 0, locals := 89 } : Room) s m args below meth c H locs 0 0 (MQ below (wQ E (some (.int res.1)) res.2) args s 0 0 (wA E)) (F0 m 8 ls [])) (hf : fX4_hoursTillBridged_8_b M  rec8 y2 y3 = some res) {H : Heap} {locs : List Loc} {ls : Array Slot} (hW : wH E M H) (hS : va_S (wA E) s.heap H locs) (hl : lv_has ls 4 [(0, .ref (wad E 31)), (2, .int y2), (3, .int y3)]) : W p l e ({ frames := 4, cells := 0, slots := 0, locals := 89 } : Room) s m args below meth c H locs 0 0 (MQ below (wQ E (some (.int res.1)) res.2) args s 0 0 (wA E)) (F0 m 8 ls []) := by
  unfold fX4_hoursTillBridged_8_b at hf
  obtain ⟨hx, hb, hr, hml, hown, hts, hlocks, hG, hV, hZ⟩ := id B
  refine lv_iload_n hx hb dX4_hoursTillBridged_8 rfl (lv_at hl 2 rfl) ?_
  refine lv_sipush (v := 400) hx hb dX4_hoursTillBridged_9 (by decide) ?_
  rcases wif_e hf with ⟨hq4, hf⟩ | ⟨hq4, hf⟩
  · refine lv_icmp_gt (tgt := 43) hx hb dX4_hoursTillBridged_12 (by decide) (fun _ => ?_) (fun h => absurd hq4 h)
    refine lv_bipush (v := (-9)) hx hb dX4_hoursTillBridged_43 (by decide) ?_
    have hres := Option.some.inj hf
    subst hres
    exact W.iret hx hb hr (wr_q hG hV hZ hW hS) hS.2.2 dX4_hoursTillBridged_45
  · refine lv_icmp_gt (tgt := 43) hx hb dX4_hoursTillBridged_12 (by decide) (fun h => absurd h hq4) (fun _ => ?_)
    refine lv_aload_n hx hb dX4_hoursTillBridged_15 rfl (lv_at hl 0 rfl) ?_
    refine wm_get hx hb hts wu_X4 hown hV hW (wlt_3 (rfl : wkd 31 = 3)) (wen_3 (rfl : wkd 31 = 3)) (C := RX4) (T := TX4) (N := 1) rfl 0 (by decide) (hts _ wA_141) rfl dX4_hoursTillBridged_16 ?_
    refine lv_iconst (v := 2) hx hb dX4_hoursTillBridged_19 rfl ?_
    obtain ⟨r6, hc5, hf⟩ := wbind_e hf
    refine wc_V (As := [.int 2]) (rest := []) hx hb hml hown hts hG hV hZ (wlt_4 (rfl : wkd 32 = 4)) (q := (RX5, TX5, 4)) (wen_4 (rfl : wkd 32 = 4)) rfl (cX5_howMany_ok l E M 32 (rfl : wkd 32 = 4) 2 hc5) (cwV 1 hts gl_X4_51 rfl rfl rfl cdX5_howMany ⟨Nat.le_of_ble_eq_true rfl, Nat.le_of_ble_eq_true rfl⟩) rfl hl.1 rfl (Nat.le_of_ble_eq_true rfl) dX4_hoursTillBridged_20 ⟨Nat.zero_le _, Nat.zero_le _⟩ hW hS rfl (fun H locs hW hS => ?_)
    refine lv_iload_n hx hb dX4_hoursTillBridged_23 rfl (lv_at hl 1 rfl) ?_
    rcases wif_e hf with ⟨hq7, hf⟩ | ⟨hq7, hf⟩
    · refine lv_icmp_lt (tgt := 29) hx hb dX4_hoursTillBridged_24 (by decide) (fun _ => ?_) (fun h => absurd hq7 h)
      refine lv_aload_n hx hb dX4_hoursTillBridged_29 rfl (lv_at hl 0 rfl) ?_
      refine wm_get hx hb hts wu_X4 hown hV hW (wlt_3 (rfl : wkd 31 = 3)) (wen_3 (rfl : wkd 31 = 3)) (C := RX4) (T := TX4) (N := 1) rfl 0 (by decide) (hts _ wA_141) rfl dX4_hoursTillBridged_30 ?_
      obtain ⟨r9, M10, hc8, hf⟩ := wbind_p hf
      refine wc_V (As := []) (rest := []) hx hb hml hown hts hG hV hZ (wlt_4 (rfl : wkd 32 = 4)) (q := (RX5, TX5, 4)) (wen_4 (rfl : wkd 32 = 4)) rfl (cX5_passHour_ok l E M 32 (rfl : wkd 32 = 4) hc8) (cwV 0 hts gl_X4_30 rfl rfl rfl cdX5_passHour ⟨Nat.le_of_ble_eq_true rfl, Nat.le_of_ble_eq_true rfl⟩) rfl hl.1 rfl (Nat.le_of_ble_eq_true rfl) dX4_hoursTillBridged_33 ⟨Nat.zero_le _, Nat.zero_le _⟩ hW hS rfl (fun H locs hW hS => ?_)
      refine lv_pop hx hb dX4_hoursTillBridged_36 rfl ?_
      obtain ⟨x11, ex11, hf⟩ := wlet_e hf
      refine lv_iinc (v := x11) (lv' := [(3, .int x11), (0, .ref (wad E 31)), (2, .int y2)]) hx hb dX4_hoursTillBridged_37 hl (k := 2) rfl (by rw [ex11]; rfl) (by decide) rfl (fun ls hl => ?_)
      refine lv_goto (tgt := 8) hx hb dX4_hoursTillBridged_40 (by decide) ?_
      exact hrec8 x11 M10 hf _ _ _ hW hS (lv_sub hl [1, 2, 0] rfl)
    · refine lv_icmp_lt (tgt := 29) hx hb dX4_hoursTillBridged_24 (by decide) (fun h => absurd h hq7) (fun _ => ?_)
      refine lv_iload_n hx hb dX4_hoursTillBridged_27 rfl (lv_at hl 2 rfl) ?_
      have hres := Option.some.inj hf
      subst hres
      exact W.iret hx hb hr (wr_q hG hV hZ hW hS) hS.2.2 dX4_hoursTillBridged_28
set_option maxRecDepth 100000 in
set_option maxHeartbeats 4000000 in
theorem pX4_hoursTillBridged_8 (B : wB E p s m args meth c cX4_hoursTillBridged 4 RX4 (some .int)) {M : wMem} {y2 : Int32} {y3 : Int32}  {res : Int32 × wMem}   (hf : fX4_hoursTillBridged_8 M  y2 y3 = some res) {H : Heap} {locs : List Loc} {ls : Array Slot} (hW : wH E M H) (hS : va_S (wA E) s.heap H locs) (hl : lv_has ls 4 [(0, .ref (wad E 31)), (2, .int y2), (3, .int y3)]) : W p l e ({ frames := 4, cells := 0, slots := 0, locals := 89 } : Room) s m args below meth c H locs 0 0 (MQ below (wQ E (some (.int res.1)) res.2) args s 0 0 (wA E)) (F0 m 8 ls []) := by
  have key := wloop_W (b := (fun rec8 t => fX4_hoursTillBridged_8_b t.2  rec8 y2 t.1)) (P := fun t => ∀ (H : Heap) (locs : List Loc) (ls : Array Slot), wH E t.2 H → va_S (wA E) s.heap H locs → lv_has ls 4 [(0, .ref (wad E 31)), (2, .int y2), (3, .int t.1)] → W p l e ({ frames := 4, cells := 0, slots := 0, locals := 89 } : Room) s m args below meth c H locs 0 0 (MQ below (wQ E (some (.int res.1)) res.2) args s 0 0 (wA E)) (F0 m 8 ls [])) (r := res) (fun rec hrec t hf H locs ls hW hS hl => pX4_hoursTillBridged_8_b B   (fun v0 v1 hf H locs ls hW hS hl => hrec (v0, v1) hf H locs ls hW hS hl) hf hW hS hl)
  exact key wfuel (y3, M) hf H locs ls hW hS hl
set_option maxRecDepth 100000 in
set_option maxHeartbeats 4000000 in
theorem pX4_hoursTillBridged (B : wB E p s m args meth c cX4_hoursTillBridged 4 RX4 (some .int)) {M : wMem} {k1 : Nat} {a2 : Int32} (hk1 : wkd k1 = 4) {res : Int32 × wMem} (hf : fX4_hoursTillBridged M k1 a2 = some res) {H : Heap} {locs : List Loc} {ls : Array Slot} (hW : wH E M H) (hS : va_S (wA E) s.heap H locs) (hl : lv_has ls 4 [(0, .ref (wad E 31)), (1, .ref (wad E k1)), (2, .int a2)]) : W p l e ({ frames := 4, cells := 0, slots := 0, locals := 89 } : Room) s m args below meth c H locs 0 0 (MQ below (wQ E (some (.int res.1)) res.2) args s 0 0 (wA E)) (F0 m 0 ls []) := by
  unfold fX4_hoursTillBridged at hf
  obtain ⟨hx, hb, hr, hml, hown, hts, hlocks, hG, hV, hZ⟩ := id B
  refine lv_aload_n hx hb dX4_hoursTillBridged_0 rfl (lv_at hl 0 rfl) ?_
  refine lv_aload_n hx hb dX4_hoursTillBridged_1 rfl (lv_at hl 1 rfl) ?_
  obtain ⟨M3, hc1, hf⟩ := wbind_e hf
  refine wc_V (As := [.ref (wad E k1)]) (rest := []) hx hb hml hown hts hG hV hZ (wlt_3 (rfl : wkd 31 = 3)) (q := (RX4, TX4, 1)) (wen_3 (rfl : wkd 31 = 3)) rfl (cX4_startFrom_ok l E M k1 hk1 hc1) (cwV 1 hts gl_X4_22 rfl rfl rfl cdX4_startFrom ⟨Nat.le_of_ble_eq_true rfl, Nat.le_of_ble_eq_true rfl⟩) rfl hl.1 rfl (Nat.le_of_ble_eq_true rfl) dX4_hoursTillBridged_2 ⟨Nat.zero_le _, Nat.zero_le _⟩ hW hS rfl (fun H locs hW hS => ?_)
  refine lv_pop hx hb dX4_hoursTillBridged_5 rfl ?_
  refine lv_iconst (v := 0) hx hb dX4_hoursTillBridged_6 rfl ?_
  refine lv_istore_n (lv' := [(3, .int 0), (0, .ref (wad E 31)), (1, .ref (wad E k1)), (2, .int a2)]) hx hb dX4_hoursTillBridged_7 rfl hl (by decide) rfl (fun ls hl => ?_)
  exact pX4_hoursTillBridged_8 B   hf hW hS (lv_sub hl [1, 3, 0] rfl)
theorem cX4_hoursTillBridged_ok (l : Launch) (E : wE) (M : wMem) (k1 : Nat) (hk1 : wkd k1 = 4) (a2 : Int32) {res : Int32 × wMem} (hf : fX4_hoursTillBridged M k1 a2 = some res) : wMet l yX4_hoursTillBridged (wsM yX4_hoursTillBridged cX4_hoursTillBridged 4 (some .int)) ({ frames := 4, cells := 0, slots := 0, locals := 89 } : Room) E M [.ref (wad E 31), .ref (wad E k1), .int a2] (some (.int res.1)) res.2 :=
  wc_of (cc := cX4_hoursTillBridged) (maxL := 4) (ret := (some .int)) (by decide) (Nat.le_of_ble_eq_true rfl) (fun _ _ _ _ _ _ _ _ B hW hl => pX4_hoursTillBridged B hk1 hf hW va_S.rf hl)
end
theorem cdX9_bridged : yX9_bridged.cls = RX9 ∧ yX9_bridged.cls ≠ "java/lang/invoke/MethodHandle" ∧ yX9_bridged.cls ≠ "java/lang/invoke/VarHandle" ∧ (parseMethodDescriptor yX9_bridged.desc).map (fun d => d.parameters.length) = some 1 := by decide +kernel
section
variable {p : Program} {l : Launch} {e : Env} {s : State} {m : MethodId} {args : Array Value} {below : List Frame} {meth : Method} {c : Code} {E : wE}
set_option maxRecDepth 100000 in
set_option maxHeartbeats 4000000 in
theorem pX9_bridged (B : wB E p s m args meth c cX9_bridged 2 RX9 (some .int)) {M : wMem} {a1 : Int32}  {res : Int32 × wMem} (hf : fX9_bridged M a1 = some res) {H : Heap} {locs : List Loc} {ls : Array Slot} (hW : wH E M H) (hS : va_S (wA E) s.heap H locs) (hl : lv_has ls 2 [(0, .ref (wad E 0)), (1, .int a1)]) : W p l e ({ frames := 5, cells := 0, slots := 0, locals := 112 } : Room) s m args below meth c H locs 0 0 (MQ below (wQ E (some (.int res.1)) res.2) args s 0 0 (wA E)) (F0 m 0 ls []) := by
  unfold fX9_bridged at hf
  obtain ⟨hx, hb, hr, hml, hown, hts, hlocks, hG, hV, hZ⟩ := id B
  refine lv_iload_n hx hb dX9_bridged_0 rfl (lv_at hl 1 rfl) ?_
  rcases wif_e hf with ⟨hq1, hf⟩ | ⟨hq1, hf⟩
  · refine lv_if_ge (tgt := 11) hx hb dX9_bridged_1 (by decide) (fun _ => ?_) (fun h => absurd hq1 h)
    refine lv_iload_n hx hb dX9_bridged_11 rfl (lv_at hl 1 rfl) ?_
    refine lv_bipush (v := 12) hx hb dX9_bridged_12 (by decide) ?_
    rcases wif_e hf with ⟨hq2, hf⟩ | ⟨hq2, hf⟩
    · refine lv_icmp_le (tgt := 24) hx hb dX9_bridged_14 (by decide) (fun _ => ?_) (fun h => absurd hq2 h)
      refine lv_aload_n hx hb dX9_bridged_24 rfl (lv_at hl 0 rfl) ?_
      refine wm_get hx hb hts wu_X9 hown hV hW (wlt_8 (rfl : wkd 0 = 8)) (wen_8 (rfl : wkd 0 = 8)) (C := RX9) (T := TX9) (N := 10) rfl 2 (by decide) (hts _ wA_233) rfl dX9_bridged_25 ?_
      refine lv_aload_n hx hb dX9_bridged_28 rfl (lv_at hl 0 rfl) ?_
      refine wm_get hx hb hts wu_X9 hown hV hW (wlt_8 (rfl : wkd 0 = 8)) (wen_8 (rfl : wkd 0 = 8)) (C := RX9) (T := TX9) (N := 10) rfl 0 (by decide) (hts _ wA_231) rfl dX9_bridged_29 ?_
      refine lv_iload_n hx hb dX9_bridged_32 rfl (lv_at hl 1 rfl) ?_
      obtain ⟨r4, M5, hc3, hf⟩ := wbind_p hf
      refine wc_V (As := [.ref (wad E 1), .int a1]) (rest := []) hx hb hml hown hts hG hV hZ (wlt_3 (rfl : wkd 31 = 3)) (q := (RX4, TX4, 1)) (wen_3 (rfl : wkd 31 = 3)) rfl (cX4_hoursTillBridged_ok l E M 1 (rfl : wkd 1 = 4) a1 hc3) (cwV 2 hts gl_X9_201 rfl rfl rfl cdX4_hoursTillBridged ⟨Nat.le_of_ble_eq_true rfl, Nat.le_of_ble_eq_true rfl⟩) rfl hl.1 rfl (Nat.le_of_ble_eq_true rfl) dX9_bridged_33 ⟨Nat.zero_le _, Nat.zero_le _⟩ hW hS rfl (fun H locs hW hS => ?_)
      have hres := Option.some.inj hf
      subst hres
      exact W.iret hx hb hr (wr_q hG hV hZ hW hS) hS.2.2 dX9_bridged_36
    · refine lv_icmp_le (tgt := 24) hx hb dX9_bridged_14 (by decide) (fun h => absurd h hq2) (fun _ => ?_)
      refine lv_aload_n hx hb dX9_bridged_17 rfl (lv_at hl 0 rfl) ?_
      refine lv_bipush (v := (-6)) hx hb dX9_bridged_18 (by decide) ?_
      obtain ⟨r7, M8, hc6, hf⟩ := wbind_p hf
      refine wc_V (As := [.int (-6)]) (rest := []) hx hb hml hown hts hG hV hZ (wlt_8 (rfl : wkd 0 = 8)) (q := (RX9, TX9, 10)) (wen_8 (rfl : wkd 0 = 8)) rfl (cX9_refuse_ok l E M (-6) hc6) (cwV 1 hts gl_X9_65 rfl rfl rfl cdX9_refuse ⟨Nat.le_of_ble_eq_true rfl, Nat.le_of_ble_eq_true rfl⟩) rfl hl.1 rfl (Nat.le_of_ble_eq_true rfl) dX9_bridged_20 ⟨Nat.zero_le _, Nat.zero_le _⟩ hW hS rfl (fun H locs hW hS => ?_)
      have hres := Option.some.inj hf
      subst hres
      exact W.iret hx hb hr (wr_q hG hV hZ hW hS) hS.2.2 dX9_bridged_23
  · refine lv_if_ge (tgt := 11) hx hb dX9_bridged_1 (by decide) (fun h => absurd h hq1) (fun _ => ?_)
    refine lv_aload_n hx hb dX9_bridged_4 rfl (lv_at hl 0 rfl) ?_
    refine lv_bipush (v := (-4)) hx hb dX9_bridged_5 (by decide) ?_
    obtain ⟨r10, M11, hc9, hf⟩ := wbind_p hf
    refine wc_V (As := [.int (-4)]) (rest := []) hx hb hml hown hts hG hV hZ (wlt_8 (rfl : wkd 0 = 8)) (q := (RX9, TX9, 10)) (wen_8 (rfl : wkd 0 = 8)) rfl (cX9_refuse_ok l E M (-4) hc9) (cwV 1 hts gl_X9_65 rfl rfl rfl cdX9_refuse ⟨Nat.le_of_ble_eq_true rfl, Nat.le_of_ble_eq_true rfl⟩) rfl hl.1 rfl (Nat.le_of_ble_eq_true rfl) dX9_bridged_7 ⟨Nat.zero_le _, Nat.zero_le _⟩ hW hS rfl (fun H locs hW hS => ?_)
    have hres := Option.some.inj hf
    subst hres
    exact W.iret hx hb hr (wr_q hG hV hZ hW hS) hS.2.2 dX9_bridged_10
theorem cX9_bridged_ok (l : Launch) (E : wE) (M : wMem) (a1 : Int32) {res : Int32 × wMem} (hf : fX9_bridged M a1 = some res) : wMet l yX9_bridged (wsM yX9_bridged cX9_bridged 2 (some .int)) ({ frames := 5, cells := 0, slots := 0, locals := 112 } : Room) E M [.ref (wad E 0), .int a1] (some (.int res.1)) res.2 :=
  wc_of (cc := cX9_bridged) (maxL := 2) (ret := (some .int)) (by decide) (Nat.le_of_ble_eq_true rfl) (fun _ _ _ _ _ _ _ _ B hW hl => pX9_bridged B  hf hW va_S.rf hl)
end
theorem cdX5_bridgedAboveLimit : yX5_bridgedAboveLimit.cls = RX5 ∧ yX5_bridgedAboveLimit.cls ≠ "java/lang/invoke/MethodHandle" ∧ yX5_bridgedAboveLimit.cls ≠ "java/lang/invoke/VarHandle" ∧ (parseMethodDescriptor yX5_bridgedAboveLimit.desc).map (fun d => d.parameters.length) = some 0 := by decide +kernel
section
variable {p : Program} {l : Launch} {e : Env} {s : State} {m : MethodId} {args : Array Value} {below : List Frame} {meth : Method} {c : Code} {E : wE}
set_option maxRecDepth 100000 in
set_option maxHeartbeats 4000000 in
theorem pX5_bridgedAboveLimit_2_b (B : wB E p s m args meth c cX5_bridgedAboveLimit 2 RX5 (some .int)) {M : wMem} {ky0 : Nat} {y1 : Int32}  {rec2 : (Int32 → Option (Int32))} {res : Int32} (hky0 : wkd ky0 = 4)  (hrec2 : ∀ (y1' : Int32), rec2 (y1') = some res → ∀ (H : Heap) (locs : List Loc) (ls : Array Slot), wH E M H → va_S (wA E) s.heap H locs → lv_has ls 2 [(0, .ref (wad E ky0)), (1, .int y1')] → W p l e ({ frames := 2, cells := 0, slots := 0, locals := 42 } : Room) s m args below meth c H locs 0 0 (MQ below (wQ E (some (.int res)) M) args s 0 0 (wA E)) (F0 m 2 ls [])) (hf : fX5_bridgedAboveLimit_2_b M  rec2 ky0 y1 = some res) {H : Heap} {locs : List Loc} {ls : Array Slot} (hW : wH E M H) (hS : va_S (wA E) s.heap H locs) (hl : lv_has ls 2 [(0, .ref (wad E ky0)), (1, .int y1)]) : W p l e ({ frames := 2, cells := 0, slots := 0, locals := 42 } : Room) s m args below meth c H locs 0 0 (MQ below (wQ E (some (.int res)) M) args s 0 0 (wA E)) (F0 m 2 ls []) := by
  unfold fX5_bridgedAboveLimit_2_b at hf
  obtain ⟨hx, hb, hr, hml, hown, hts, hlocks, hG, hV, hZ⟩ := id B
  refine lv_iload_n hx hb dX5_bridgedAboveLimit_2 rfl (lv_at hl 1 rfl) ?_
  refine lv_aload_n hx hb dX5_bridgedAboveLimit_3 rfl (lv_at hl 0 rfl) ?_
  refine wm_get hx hb hts wu_X5 hown hV hW (wlt_4 hky0) (wen_4 hky0) (C := RX5) (T := TX5) (N := 4) rfl 2 (by decide) (hts _ wA_117) rfl dX5_bridgedAboveLimit_4 ?_
  rcases wif_e hf with ⟨hq1, hf⟩ | ⟨hq1, hf⟩
  · refine lv_icmp_ge (tgt := 40) hx hb dX5_bridgedAboveLimit_7 (by decide) (fun _ => ?_) (fun h => absurd hq1 h)
    refine lv_bipush (v := (-9)) hx hb dX5_bridgedAboveLimit_40 (by decide) ?_
    have hres := Option.some.inj hf
    subst hres
    exact W.iret hx hb hr (wr_q hG hV hZ hW hS) hS.2.2 dX5_bridgedAboveLimit_42
  · refine lv_icmp_ge (tgt := 40) hx hb dX5_bridgedAboveLimit_7 (by decide) (fun h => absurd h hq1) (fun _ => ?_)
    refine lv_aload_n hx hb dX5_bridgedAboveLimit_10 rfl (lv_at hl 0 rfl) ?_
    refine lv_bipush (v := 10) hx hb dX5_bridgedAboveLimit_11 (by decide) ?_
    refine lv_aload_n hx hb dX5_bridgedAboveLimit_13 rfl (lv_at hl 0 rfl) ?_
    refine wm_get hx hb hts wu_X5 hown hV hW (wlt_4 hky0) (wen_4 hky0) (C := RX5) (T := TX5) (N := 4) rfl 2 (by decide) (hts _ wA_117) rfl dX5_bridgedAboveLimit_14 ?_
    refine lv_iload_n hx hb dX5_bridgedAboveLimit_17 rfl (lv_at hl 1 rfl) ?_
    refine lv_isub hx hb dX5_bridgedAboveLimit_18 ?_
    refine lv_imul hx hb dX5_bridgedAboveLimit_19 ?_
    obtain ⟨r3, hc2, hf⟩ := wbind_e hf
    refine wc_V (As := [.int (10 * ((M ky0 2) - y1))]) (rest := []) hx hb hml hown hts hG hV hZ (wlt_4 hky0) (q := (RX5, TX5, 4)) (wen_4 hky0) rfl (cX5_flowThrough_ok l E M ky0 hky0 (10 * ((M ky0 2) - y1)) hc2) (cwV 1 hts gl_X5_95 rfl rfl rfl cdX5_flowThrough ⟨Nat.le_of_ble_eq_true rfl, Nat.le_of_ble_eq_true rfl⟩) rfl hl.1 rfl (Nat.le_of_ble_eq_true rfl) dX5_bridgedAboveLimit_20 ⟨Nat.zero_le _, Nat.zero_le _⟩ hW hS rfl (fun H locs hW hS => ?_)
    refine lv_aload_n hx hb dX5_bridgedAboveLimit_23 rfl (lv_at hl 0 rfl) ?_
    refine wm_get hx hb hts wu_X5 hown hV hW (wlt_4 hky0) (wen_4 hky0) (C := RX5) (T := TX5) (N := 4) rfl 1 (by decide) (hts _ wA_115) rfl dX5_bridgedAboveLimit_24 ?_
    refine lv_iconst (v := 2) hx hb dX5_bridgedAboveLimit_27 rfl ?_
    obtain ⟨hi4, hf⟩ := wgi_e hf
    refine wm_iald hx hb hV hW (wk4_2 hky0) (n := 4) (wl4_2 hky0) hi4 dX5_bridgedAboveLimit_28 ?_
    rcases wif_e hf with ⟨hq5, hf⟩ | ⟨hq5, hf⟩
    · refine lv_icmp_le (tgt := 34) hx hb dX5_bridgedAboveLimit_29 (by decide) (fun _ => ?_) (fun h => absurd hq5 h)
      obtain ⟨x6, ex6, hf⟩ := wlet_e hf
      refine lv_iinc (v := x6) (lv' := [(1, .int x6), (0, .ref (wad E ky0))]) hx hb dX5_bridgedAboveLimit_34 hl (k := 1) rfl (by rw [ex6]; rfl) (by decide) rfl (fun ls hl => ?_)
      refine lv_goto (tgt := 2) hx hb dX5_bridgedAboveLimit_37 (by decide) ?_
      exact hrec2 x6 hf _ _ _ hW hS (lv_sub hl [1, 0] rfl)
    · refine lv_icmp_le (tgt := 34) hx hb dX5_bridgedAboveLimit_29 (by decide) (fun h => absurd h hq5) (fun _ => ?_)
      refine lv_iload_n hx hb dX5_bridgedAboveLimit_32 rfl (lv_at hl 1 rfl) ?_
      have hres := Option.some.inj hf
      subst hres
      exact W.iret hx hb hr (wr_q hG hV hZ hW hS) hS.2.2 dX5_bridgedAboveLimit_33
set_option maxRecDepth 100000 in
set_option maxHeartbeats 4000000 in
theorem pX5_bridgedAboveLimit_2 (B : wB E p s m args meth c cX5_bridgedAboveLimit 2 RX5 (some .int)) {M : wMem} {ky0 : Nat} {y1 : Int32}  {res : Int32} (hky0 : wkd ky0 = 4)  (hf : fX5_bridgedAboveLimit_2 M  ky0 y1 = some res) {H : Heap} {locs : List Loc} {ls : Array Slot} (hW : wH E M H) (hS : va_S (wA E) s.heap H locs) (hl : lv_has ls 2 [(0, .ref (wad E ky0)), (1, .int y1)]) : W p l e ({ frames := 2, cells := 0, slots := 0, locals := 42 } : Room) s m args below meth c H locs 0 0 (MQ below (wQ E (some (.int res)) M) args s 0 0 (wA E)) (F0 m 2 ls []) := by
  have key := wloop_W (b := (fun rec2 t => fX5_bridgedAboveLimit_2_b M  rec2 ky0 t)) (P := fun t => ∀ (H : Heap) (locs : List Loc) (ls : Array Slot), wH E M H → va_S (wA E) s.heap H locs → lv_has ls 2 [(0, .ref (wad E ky0)), (1, .int t)] → W p l e ({ frames := 2, cells := 0, slots := 0, locals := 42 } : Room) s m args below meth c H locs 0 0 (MQ below (wQ E (some (.int res)) M) args s 0 0 (wA E)) (F0 m 2 ls [])) (r := res) (fun rec hrec t hf H locs ls hW hS hl => pX5_bridgedAboveLimit_2_b B hky0  (fun v0 hf H locs ls hW hS hl => hrec (v0) hf H locs ls hW hS hl) hf hW hS hl)
  exact key wfuel (y1) hf H locs ls hW hS hl
set_option maxRecDepth 100000 in
set_option maxHeartbeats 4000000 in
theorem pX5_bridgedAboveLimit (B : wB E p s m args meth c cX5_bridgedAboveLimit 2 RX5 (some .int)) {M : wMem} {k0 : Nat} (hk0 : wkd k0 = 4) {res : Int32} (hf : fX5_bridgedAboveLimit M k0 = some res) {H : Heap} {locs : List Loc} {ls : Array Slot} (hW : wH E M H) (hS : va_S (wA E) s.heap H locs) (hl : lv_has ls 2 [(0, .ref (wad E k0))]) : W p l e ({ frames := 2, cells := 0, slots := 0, locals := 42 } : Room) s m args below meth c H locs 0 0 (MQ below (wQ E (some (.int res)) M) args s 0 0 (wA E)) (F0 m 0 ls []) := by
  unfold fX5_bridgedAboveLimit at hf
  obtain ⟨hx, hb, hr, hml, hown, hts, hlocks, hG, hV, hZ⟩ := id B
  refine lv_iconst (v := 0) hx hb dX5_bridgedAboveLimit_0 rfl ?_
  refine lv_istore_n (lv' := [(1, .int 0), (0, .ref (wad E k0))]) hx hb dX5_bridgedAboveLimit_1 rfl hl (by decide) rfl (fun ls hl => ?_)
  exact pX5_bridgedAboveLimit_2 B hk0  hf hW hS (lv_sub hl [1, 0] rfl)
theorem cX5_bridgedAboveLimit_ok (l : Launch) (E : wE) (M : wMem) (k0 : Nat) (hk0 : wkd k0 = 4) {res : Int32} (hf : fX5_bridgedAboveLimit M k0 = some res) : wMet l yX5_bridgedAboveLimit (wsM yX5_bridgedAboveLimit cX5_bridgedAboveLimit 2 (some .int)) ({ frames := 2, cells := 0, slots := 0, locals := 42 } : Room) E M [.ref (wad E k0)] (some (.int res)) M :=
  wc_of (cc := cX5_bridgedAboveLimit) (maxL := 2) (ret := (some .int)) (by decide) (Nat.le_of_ble_eq_true rfl) (fun _ _ _ _ _ _ _ _ B hW hl => pX5_bridgedAboveLimit B hk0 hf hW va_S.rf hl)
end
theorem cdX9_stop : yX9_stop.cls = RX9 ∧ yX9_stop.cls ≠ "java/lang/invoke/MethodHandle" ∧ yX9_stop.cls ≠ "java/lang/invoke/VarHandle" ∧ (parseMethodDescriptor yX9_stop.desc).map (fun d => d.parameters.length) = some 0 := by decide +kernel
section
variable {p : Program} {l : Launch} {e : Env} {s : State} {m : MethodId} {args : Array Value} {below : List Frame} {meth : Method} {c : Code} {E : wE}
set_option maxRecDepth 100000 in
set_option maxHeartbeats 4000000 in
theorem pX9_stop (B : wB E p s m args meth c cX9_stop 1 RX9 (some .int)) {M : wMem}   {res : Int32 × wMem} (hf : fX9_stop M  = some res) {H : Heap} {locs : List Loc} {ls : Array Slot} (hW : wH E M H) (hS : va_S (wA E) s.heap H locs) (hl : lv_has ls 1 [(0, .ref (wad E 0))]) : W p l e ({ frames := 3, cells := 0, slots := 0, locals := 63 } : Room) s m args below meth c H locs 0 0 (MQ below (wQ E (some (.int res.1)) res.2) args s 0 0 (wA E)) (F0 m 0 ls []) := by
  unfold fX9_stop at hf
  obtain ⟨hx, hb, hr, hml, hown, hts, hlocks, hG, hV, hZ⟩ := id B
  refine lv_aload_n hx hb dX9_stop_0 rfl (lv_at hl 0 rfl) ?_
  refine wm_get hx hb hts wu_X9 hown hV hW (wlt_8 (rfl : wkd 0 = 8)) (wen_8 (rfl : wkd 0 = 8)) (C := RX9) (T := TX9) (N := 10) rfl 0 (by decide) (hts _ wA_231) rfl dX9_stop_1 ?_
  refine wm_get hx hb hts wu_X5 hown hV hW (wlt_4 (rfl : wkd 1 = 4)) (wen_4 (rfl : wkd 1 = 4)) (C := RX5) (T := TX5) (N := 4) rfl 2 (by decide) (hts _ wA_121) rfl dX9_stop_4 ?_
  rcases wif_e hf with ⟨hq1, hf⟩ | ⟨hq1, hf⟩
  · refine lv_if_ne (tgt := 17) hx hb dX9_stop_7 (by decide) (fun h => absurd hq1 h) (fun _ => ?_)
    refine lv_aload_n hx hb dX9_stop_10 rfl (lv_at hl 0 rfl) ?_
    refine lv_bipush (v := (-3)) hx hb dX9_stop_11 (by decide) ?_
    obtain ⟨r5, M6, hc4, hf⟩ := wbind_p hf
    refine wc_V (As := [.int (-3)]) (rest := []) hx hb hml hown hts hG hV hZ (wlt_8 (rfl : wkd 0 = 8)) (q := (RX9, TX9, 10)) (wen_8 (rfl : wkd 0 = 8)) rfl (cX9_refuse_ok l E M (-3) hc4) (cwV 1 hts gl_X9_65 rfl rfl rfl cdX9_refuse ⟨Nat.le_of_ble_eq_true rfl, Nat.le_of_ble_eq_true rfl⟩) rfl hl.1 rfl (Nat.le_of_ble_eq_true rfl) dX9_stop_13 ⟨Nat.zero_le _, Nat.zero_le _⟩ hW hS rfl (fun H locs hW hS => ?_)
    have hres := Option.some.inj hf
    subst hres
    exact W.iret hx hb hr (wr_q hG hV hZ hW hS) hS.2.2 dX9_stop_16
  · refine lv_if_ne (tgt := 17) hx hb dX9_stop_7 (by decide) (fun _ => ?_) (fun h => absurd h hq1)
    refine lv_aload_n hx hb dX9_stop_17 rfl (lv_at hl 0 rfl) ?_
    refine wm_get hx hb hts wu_X9 hown hV hW (wlt_8 (rfl : wkd 0 = 8)) (wen_8 (rfl : wkd 0 = 8)) (C := RX9) (T := TX9) (N := 10) rfl 0 (by decide) (hts _ wA_231) rfl dX9_stop_18 ?_
    obtain ⟨r3, hc2, hf⟩ := wbind_e hf
    refine wc_V (As := []) (rest := []) hx hb hml hown hts hG hV hZ (wlt_4 (rfl : wkd 1 = 4)) (q := (RX5, TX5, 4)) (wen_4 (rfl : wkd 1 = 4)) rfl (cX5_bridgedAboveLimit_ok l E M 1 (rfl : wkd 1 = 4) hc2) (cwV 0 hts gl_X9_205 rfl rfl rfl cdX5_bridgedAboveLimit ⟨Nat.le_of_ble_eq_true rfl, Nat.le_of_ble_eq_true rfl⟩) rfl hl.1 rfl (Nat.le_of_ble_eq_true rfl) dX9_stop_21 ⟨Nat.zero_le _, Nat.zero_le _⟩ hW hS rfl (fun H locs hW hS => ?_)
    have hres := Option.some.inj hf
    subst hres
    exact W.iret hx hb hr (wr_q hG hV hZ hW hS) hS.2.2 dX9_stop_24
theorem cX9_stop_ok (l : Launch) (E : wE) (M : wMem)  {res : Int32 × wMem} (hf : fX9_stop M  = some res) : wMet l yX9_stop (wsM yX9_stop cX9_stop 1 (some .int)) ({ frames := 3, cells := 0, slots := 0, locals := 63 } : Room) E M [.ref (wad E 0)] (some (.int res.1)) res.2 :=
  wc_of (cc := cX9_stop) (maxL := 1) (ret := (some .int)) (by decide) (Nat.le_of_ble_eq_true rfl) (fun _ _ _ _ _ _ _ _ B hW hl => pX9_stop B  hf hW va_S.rf hl)
end
theorem cdX5_allBright : yX5_allBright.cls = RX5 ∧ yX5_allBright.cls ≠ "java/lang/invoke/MethodHandle" ∧ yX5_allBright.cls ≠ "java/lang/invoke/VarHandle" ∧ (parseMethodDescriptor yX5_allBright.desc).map (fun d => d.parameters.length) = some 0 := by decide +kernel
section
variable {p : Program} {l : Launch} {e : Env} {s : State} {m : MethodId} {args : Array Value} {below : List Frame} {meth : Method} {c : Code} {E : wE}
set_option maxRecDepth 100000 in
set_option maxHeartbeats 4000000 in
theorem pX5_allBright_9_b (B : wB E p s m args meth c cX5_allBright 4 RX5 (some .int)) {M : wMem} {ky0 : Nat} {y1 : Int32} {y2 : Int32} {y3 : Int32}  {rec9 : (Int32 × Int32 → Option (Int32))} {res : Int32} (hky0 : wkd ky0 = 4)  (hrec9 : ∀ (y2' : Int32) (y3' : Int32), rec9 (y2', y3') = some res → ∀ (H : Heap) (locs : List Loc) (ls : Array Slot), wH E M H → va_S (wA E) s.heap H locs → lv_has ls 4 [(0, .ref (wad E ky0)), (1, .int y1), (2, .int y2'), (3, .int y3')] → W p l e ({ frames := 4, cells := 0, slots := 0, locals := 83 } : Room) s m args below meth c H locs 0 0 (MQ below (wQ E (some (.int res)) M) args s 0 0 (wA E)) (F0 m 9 ls [])) (hf : fX5_allBright_9_b M  rec9 ky0 y1 y2 y3 = some res) {H : Heap} {locs : List Loc} {ls : Array Slot} (hW : wH E M H) (hS : va_S (wA E) s.heap H locs) (hl : lv_has ls 4 [(0, .ref (wad E ky0)), (1, .int y1), (2, .int y2), (3, .int y3)]) : W p l e ({ frames := 4, cells := 0, slots := 0, locals := 83 } : Room) s m args below meth c H locs 0 0 (MQ below (wQ E (some (.int res)) M) args s 0 0 (wA E)) (F0 m 9 ls []) := by
  unfold fX5_allBright_9_b at hf
  obtain ⟨hx, hb, hr, hml, hown, hts, hlocks, hG, hV, hZ⟩ := id B
  refine lv_iload_n hx hb dX5_allBright_9 rfl (lv_at hl 3 rfl) ?_
  refine lv_aload_n hx hb dX5_allBright_10 rfl (lv_at hl 0 rfl) ?_
  refine wm_get hx hb hts wu_X5 hown hV hW (wlt_4 hky0) (wen_4 hky0) (C := RX5) (T := TX5) (N := 4) rfl 2 (by decide) (hts _ wA_117) rfl dX5_allBright_11 ?_
  rcases wif_e hf with ⟨hq3, hf⟩ | ⟨hq3, hf⟩
  · refine lv_icmp_ge (tgt := 36) hx hb dX5_allBright_14 (by decide) (fun _ => ?_) (fun h => absurd hq3 h)
    refine lv_iload_n hx hb dX5_allBright_36 rfl (lv_at hl 2 rfl) ?_
    have hres := Option.some.inj hf
    subst hres
    exact W.iret hx hb hr (wr_q hG hV hZ hW hS) hS.2.2 dX5_allBright_37
  · refine lv_icmp_ge (tgt := 36) hx hb dX5_allBright_14 (by decide) (fun h => absurd h hq3) (fun _ => ?_)
    refine lv_iload_n hx hb dX5_allBright_17 rfl (lv_at hl 2 rfl) ?_
    refine lv_aload_n hx hb dX5_allBright_18 rfl (lv_at hl 0 rfl) ?_
    refine wm_get hx hb hts wu_X5 hown hV hW (wlt_4 hky0) (wen_4 hky0) (C := RX5) (T := TX5) (N := 4) rfl 0 (by decide) (hts _ wA_109) rfl dX5_allBright_19 ?_
    refine lv_iload_n hx hb dX5_allBright_22 rfl (lv_at hl 3 rfl) ?_
    obtain ⟨hi4, hf⟩ := wgi_e hf
    refine wm_aldL hx hb hV hW (wk4_1 hky0) hi4 dX5_allBright_23 ?_
    refine lv_iload_n hx hb dX5_allBright_24 rfl (lv_at hl 1 rfl) ?_
    obtain ⟨r6, hc5, hf⟩ := wbind_e hf
    refine wc_V (As := [.int y1]) (rest := [.int y2]) hx hb hml hown hts hG hV hZ (wlt_0 (wk22_i (wk4_1 hky0) hi4)) (q := (RX1, TX1, 5)) (wen_0 (wk22_i (wk4_1 hky0) hi4)) rfl (cX1_brightAt_ok l E M ((ky0 + 1) + 2 + Int32.toNatClampNeg y3) (wk22_i (wk4_1 hky0) hi4) y1 hc5) (cwV 1 hts gl_X5_108 rfl rfl rfl cdX1_brightAt ⟨Nat.le_of_ble_eq_true rfl, Nat.le_of_ble_eq_true rfl⟩) rfl hl.1 rfl (Nat.le_of_ble_eq_true rfl) dX5_allBright_25 ⟨Nat.zero_le _, Nat.zero_le _⟩ hW hS rfl (fun H locs hW hS => ?_)
    refine lv_iadd hx hb dX5_allBright_28 ?_
    refine lv_topi (fun x7 ex7 => ?_)
    replace hf := wlet_y ex7 hf
    refine lv_istore_n (lv' := [(2, .int x7), (0, .ref (wad E ky0)), (1, .int y1), (3, .int y3)]) hx hb dX5_allBright_29 rfl hl (by decide) rfl (fun ls hl => ?_)
    obtain ⟨x8, ex8, hf⟩ := wlet_e hf
    refine lv_iinc (v := x8) (lv' := [(3, .int x8), (2, .int x7), (0, .ref (wad E ky0)), (1, .int y1)]) hx hb dX5_allBright_30 hl (k := 3) rfl (by rw [ex8]; rfl) (by decide) rfl (fun ls hl => ?_)
    refine lv_goto (tgt := 9) hx hb dX5_allBright_33 (by decide) ?_
    exact hrec9 x7 x8 hf _ _ _ hW hS (lv_sub hl [2, 3, 1, 0] rfl)
set_option maxRecDepth 100000 in
set_option maxHeartbeats 4000000 in
theorem pX5_allBright_9 (B : wB E p s m args meth c cX5_allBright 4 RX5 (some .int)) {M : wMem} {ky0 : Nat} {y1 : Int32} {y2 : Int32} {y3 : Int32}  {res : Int32} (hky0 : wkd ky0 = 4)  (hf : fX5_allBright_9 M  ky0 y1 y2 y3 = some res) {H : Heap} {locs : List Loc} {ls : Array Slot} (hW : wH E M H) (hS : va_S (wA E) s.heap H locs) (hl : lv_has ls 4 [(0, .ref (wad E ky0)), (1, .int y1), (2, .int y2), (3, .int y3)]) : W p l e ({ frames := 4, cells := 0, slots := 0, locals := 83 } : Room) s m args below meth c H locs 0 0 (MQ below (wQ E (some (.int res)) M) args s 0 0 (wA E)) (F0 m 9 ls []) := by
  have key := wloop_W (b := (fun rec9 t => fX5_allBright_9_b M  rec9 ky0 y1 t.1 t.2)) (P := fun t => ∀ (H : Heap) (locs : List Loc) (ls : Array Slot), wH E M H → va_S (wA E) s.heap H locs → lv_has ls 4 [(0, .ref (wad E ky0)), (1, .int y1), (2, .int t.1), (3, .int t.2)] → W p l e ({ frames := 4, cells := 0, slots := 0, locals := 83 } : Room) s m args below meth c H locs 0 0 (MQ below (wQ E (some (.int res)) M) args s 0 0 (wA E)) (F0 m 9 ls [])) (r := res) (fun rec hrec t hf H locs ls hW hS hl => pX5_allBright_9_b B hky0  (fun v0 v1 hf H locs ls hW hS hl => hrec (v0, v1) hf H locs ls hW hS hl) hf hW hS hl)
  exact key wfuel (y2, y3) hf H locs ls hW hS hl
set_option maxRecDepth 100000 in
set_option maxHeartbeats 4000000 in
theorem pX5_allBright (B : wB E p s m args meth c cX5_allBright 4 RX5 (some .int)) {M : wMem} {k0 : Nat} (hk0 : wkd k0 = 4) {res : Int32} (hf : fX5_allBright M k0 = some res) {H : Heap} {locs : List Loc} {ls : Array Slot} (hW : wH E M H) (hS : va_S (wA E) s.heap H locs) (hl : lv_has ls 4 [(0, .ref (wad E k0))]) : W p l e ({ frames := 4, cells := 0, slots := 0, locals := 83 } : Room) s m args below meth c H locs 0 0 (MQ below (wQ E (some (.int res)) M) args s 0 0 (wA E)) (F0 m 0 ls []) := by
  unfold fX5_allBright at hf
  obtain ⟨hx, hb, hr, hml, hown, hts, hlocks, hG, hV, hZ⟩ := id B
  refine lv_aload_n hx hb dX5_allBright_0 rfl (lv_at hl 0 rfl) ?_
  obtain ⟨r2, hc1, hf⟩ := wbind_e hf
  refine wc_V (As := []) (rest := []) hx hb hml hown hts hG hV hZ (wlt_4 hk0) (q := (RX5, TX5, 4)) (wen_4 hk0) rfl (cX5_flowNow_ok l E M k0 hk0 hc1) (cwV 0 hts gl_X5_105 rfl rfl rfl cdX5_flowNow ⟨Nat.le_of_ble_eq_true rfl, Nat.le_of_ble_eq_true rfl⟩) rfl hl.1 rfl (Nat.le_of_ble_eq_true rfl) dX5_allBright_1 ⟨Nat.zero_le _, Nat.zero_le _⟩ hW hS rfl (fun H locs hW hS => ?_)
  refine lv_istore_n (lv' := [(1, .int r2), (0, .ref (wad E k0))]) hx hb dX5_allBright_4 rfl hl (by decide) rfl (fun ls hl => ?_)
  refine lv_iconst (v := 0) hx hb dX5_allBright_5 rfl ?_
  refine lv_istore_n (lv' := [(2, .int 0), (1, .int r2), (0, .ref (wad E k0))]) hx hb dX5_allBright_6 rfl hl (by decide) rfl (fun ls hl => ?_)
  refine lv_iconst (v := 0) hx hb dX5_allBright_7 rfl ?_
  refine lv_istore_n (lv' := [(3, .int 0), (2, .int 0), (1, .int r2), (0, .ref (wad E k0))]) hx hb dX5_allBright_8 rfl hl (by decide) rfl (fun ls hl => ?_)
  exact pX5_allBright_9 B hk0  hf hW hS (lv_sub hl [3, 2, 1, 0] rfl)
theorem cX5_allBright_ok (l : Launch) (E : wE) (M : wMem) (k0 : Nat) (hk0 : wkd k0 = 4) {res : Int32} (hf : fX5_allBright M k0 = some res) : wMet l yX5_allBright (wsM yX5_allBright cX5_allBright 4 (some .int)) ({ frames := 4, cells := 0, slots := 0, locals := 83 } : Room) E M [.ref (wad E k0)] (some (.int res)) M :=
  wc_of (cc := cX5_allBright) (maxL := 4) (ret := (some .int)) (by decide) (Nat.le_of_ble_eq_true rfl) (fun _ _ _ _ _ _ _ _ B hW hl => pX5_allBright B hk0 hf hW va_S.rf hl)
end
theorem cdX4_lightOf : yX4_lightOf.cls = RX4 ∧ yX4_lightOf.cls ≠ "java/lang/invoke/MethodHandle" ∧ yX4_lightOf.cls ≠ "java/lang/invoke/VarHandle" ∧ (parseMethodDescriptor yX4_lightOf.desc).map (fun d => d.parameters.length) = some 2 := by decide +kernel
section
variable {p : Program} {l : Launch} {e : Env} {s : State} {m : MethodId} {args : Array Value} {below : List Frame} {meth : Method} {c : Code} {E : wE}
set_option maxRecDepth 100000 in
set_option maxHeartbeats 4000000 in
theorem pX4_lightOf_11_b (B : wB E p s m args meth c cX4_lightOf 5 RX4 (some .int)) {M : wMem} {y2 : Int32} {y3 : Int32} {y4 : Int32}  {rec11 : (Int32 × Int32 × wMem → Option (Int32 × wMem))} {res : Int32 × wMem}   (hrec11 : ∀ (y3' : Int32) (y4' : Int32) (M' : wMem), rec11 (y3', y4', M') = some res → ∀ (H : Heap) (locs : List Loc) (ls : Array Slot), wH E M' H → va_S (wA E) s.heap H locs → lv_has ls 5 [(0, .ref (wad E 31)), (2, .int y2), (3, .int y3'), (4, .int y4')] → W p l e ({ frames := 5, cells := 0, slots := 0, locals := 106 } : Room) s m args below meth c H locs 0 0 (MQ below (wQ E (some (.int res.1)) res.2) args s 0 0 (wA E)) (F0 m 11 ls [])) (hf : fX4_lightOf_11_b M  rec11 y2 y3 y4 = some res) {H : Heap} {locs : List Loc} {ls : Array Slot} (hW : wH E M H) (hS : va_S (wA E) s.heap H locs) (hl : lv_has ls 5 [(0, .ref (wad E 31)), (2, .int y2), (3, .int y3), (4, .int y4)]) : W p l e ({ frames := 5, cells := 0, slots := 0, locals := 106 } : Room) s m args below meth c H locs 0 0 (MQ below (wQ E (some (.int res.1)) res.2) args s 0 0 (wA E)) (F0 m 11 ls []) := by
  unfold fX4_lightOf_11_b at hf
  obtain ⟨hx, hb, hr, hml, hown, hts, hlocks, hG, hV, hZ⟩ := id B
  refine lv_iload hx hb dX4_lightOf_11 (lv_at hl 3 rfl) ?_
  refine lv_iload_n hx hb dX4_lightOf_13 rfl (lv_at hl 1 rfl) ?_
  rcases wif_e hf with ⟨hq4, hf⟩ | ⟨hq4, hf⟩
  · refine lv_icmp_ge (tgt := 41) hx hb dX4_lightOf_14 (by decide) (fun _ => ?_) (fun h => absurd hq4 h)
    refine lv_iload_n hx hb dX4_lightOf_41 rfl (lv_at hl 2 rfl) ?_
    have hres := Option.some.inj hf
    subst hres
    exact W.iret hx hb hr (wr_q hG hV hZ hW hS) hS.2.2 dX4_lightOf_42
  · refine lv_icmp_ge (tgt := 41) hx hb dX4_lightOf_14 (by decide) (fun h => absurd h hq4) (fun _ => ?_)
    refine lv_iload_n hx hb dX4_lightOf_17 rfl (lv_at hl 2 rfl) ?_
    refine lv_aload_n hx hb dX4_lightOf_18 rfl (lv_at hl 0 rfl) ?_
    refine wm_get hx hb hts wu_X4 hown hV hW (wlt_3 (rfl : wkd 31 = 3)) (wen_3 (rfl : wkd 31 = 3)) (C := RX4) (T := TX4) (N := 1) rfl 0 (by decide) (hts _ wA_141) rfl dX4_lightOf_19 ?_
    obtain ⟨r6, hc5, hf⟩ := wbind_e hf
    refine wc_V (As := []) (rest := [.int y3]) hx hb hml hown hts hG hV hZ (wlt_4 (rfl : wkd 32 = 4)) (q := (RX5, TX5, 4)) (wen_4 (rfl : wkd 32 = 4)) rfl (cX5_allBright_ok l E M 32 (rfl : wkd 32 = 4) hc5) (cwV 0 hts gl_X4_55 rfl rfl rfl cdX5_allBright ⟨Nat.le_of_ble_eq_true rfl, Nat.le_of_ble_eq_true rfl⟩) rfl hl.1 rfl (Nat.le_of_ble_eq_true rfl) dX4_lightOf_22 ⟨Nat.zero_le _, Nat.zero_le _⟩ hW hS rfl (fun H locs hW hS => ?_)
    refine lv_iadd hx hb dX4_lightOf_25 ?_
    refine lv_topi (fun x7 ex7 => ?_)
    replace hf := wlet_y ex7 hf
    refine lv_istore_n (lv' := [(3, .int x7), (0, .ref (wad E 31)), (2, .int y2), (4, .int y4)]) hx hb dX4_lightOf_26 rfl hl (by decide) rfl (fun ls hl => ?_)
    refine lv_aload_n hx hb dX4_lightOf_27 rfl (lv_at hl 1 rfl) ?_
    refine wm_get hx hb hts wu_X4 hown hV hW (wlt_3 (rfl : wkd 31 = 3)) (wen_3 (rfl : wkd 31 = 3)) (C := RX4) (T := TX4) (N := 1) rfl 0 (by decide) (hts _ wA_141) rfl dX4_lightOf_28 ?_
    obtain ⟨r9, M10, hc8, hf⟩ := wbind_p hf
    refine wc_V (As := []) (rest := []) hx hb hml hown hts hG hV hZ (wlt_4 (rfl : wkd 32 = 4)) (q := (RX5, TX5, 4)) (wen_4 (rfl : wkd 32 = 4)) rfl (cX5_passHour_ok l E M 32 (rfl : wkd 32 = 4) hc8) (cwV 0 hts gl_X4_30 rfl rfl rfl cdX5_passHour ⟨Nat.le_of_ble_eq_true rfl, Nat.le_of_ble_eq_true rfl⟩) rfl hl.1 rfl (Nat.le_of_ble_eq_true rfl) dX4_lightOf_31 ⟨Nat.zero_le _, Nat.zero_le _⟩ hW hS rfl (fun H locs hW hS => ?_)
    refine lv_pop hx hb dX4_lightOf_34 rfl ?_
    obtain ⟨x11, ex11, hf⟩ := wlet_e hf
    refine lv_iinc (v := x11) (lv' := [(4, .int x11), (3, .int x7), (0, .ref (wad E 31)), (2, .int y2)]) hx hb dX4_lightOf_35 hl (k := 3) rfl (by rw [ex11]; rfl) (by decide) rfl (fun ls hl => ?_)
    refine lv_goto (tgt := 11) hx hb dX4_lightOf_38 (by decide) ?_
    exact hrec11 x7 x11 M10 hf _ _ _ hW hS (lv_sub hl [2, 3, 1, 0] rfl)
set_option maxRecDepth 100000 in
set_option maxHeartbeats 4000000 in
theorem pX4_lightOf_11 (B : wB E p s m args meth c cX4_lightOf 5 RX4 (some .int)) {M : wMem} {y2 : Int32} {y3 : Int32} {y4 : Int32}  {res : Int32 × wMem}   (hf : fX4_lightOf_11 M  y2 y3 y4 = some res) {H : Heap} {locs : List Loc} {ls : Array Slot} (hW : wH E M H) (hS : va_S (wA E) s.heap H locs) (hl : lv_has ls 5 [(0, .ref (wad E 31)), (2, .int y2), (3, .int y3), (4, .int y4)]) : W p l e ({ frames := 5, cells := 0, slots := 0, locals := 106 } : Room) s m args below meth c H locs 0 0 (MQ below (wQ E (some (.int res.1)) res.2) args s 0 0 (wA E)) (F0 m 11 ls []) := by
  have key := wloop_W (b := (fun rec11 t => fX4_lightOf_11_b t.2.2  rec11 y2 t.1 t.2.1)) (P := fun t => ∀ (H : Heap) (locs : List Loc) (ls : Array Slot), wH E t.2.2 H → va_S (wA E) s.heap H locs → lv_has ls 5 [(0, .ref (wad E 31)), (2, .int y2), (3, .int t.1), (4, .int t.2.1)] → W p l e ({ frames := 5, cells := 0, slots := 0, locals := 106 } : Room) s m args below meth c H locs 0 0 (MQ below (wQ E (some (.int res.1)) res.2) args s 0 0 (wA E)) (F0 m 11 ls [])) (r := res) (fun rec hrec t hf H locs ls hW hS hl => pX4_lightOf_11_b B   (fun v0 v1 v2 hf H locs ls hW hS hl => hrec (v0, v1, v2) hf H locs ls hW hS hl) hf hW hS hl)
  exact key wfuel (y3, y4, M) hf H locs ls hW hS hl
set_option maxRecDepth 100000 in
set_option maxHeartbeats 4000000 in
theorem pX4_lightOf (B : wB E p s m args meth c cX4_lightOf 5 RX4 (some .int)) {M : wMem} {k1 : Nat} {a2 : Int32} (hk1 : wkd k1 = 4) {res : Int32 × wMem} (hf : fX4_lightOf M k1 a2 = some res) {H : Heap} {locs : List Loc} {ls : Array Slot} (hW : wH E M H) (hS : va_S (wA E) s.heap H locs) (hl : lv_has ls 5 [(0, .ref (wad E 31)), (1, .ref (wad E k1)), (2, .int a2)]) : W p l e ({ frames := 5, cells := 0, slots := 0, locals := 106 } : Room) s m args below meth c H locs 0 0 (MQ below (wQ E (some (.int res.1)) res.2) args s 0 0 (wA E)) (F0 m 0 ls []) := by
  unfold fX4_lightOf at hf
  obtain ⟨hx, hb, hr, hml, hown, hts, hlocks, hG, hV, hZ⟩ := id B
  refine lv_aload_n hx hb dX4_lightOf_0 rfl (lv_at hl 0 rfl) ?_
  refine lv_aload_n hx hb dX4_lightOf_1 rfl (lv_at hl 1 rfl) ?_
  obtain ⟨M3, hc1, hf⟩ := wbind_e hf
  refine wc_V (As := [.ref (wad E k1)]) (rest := []) hx hb hml hown hts hG hV hZ (wlt_3 (rfl : wkd 31 = 3)) (q := (RX4, TX4, 1)) (wen_3 (rfl : wkd 31 = 3)) rfl (cX4_startFrom_ok l E M k1 hk1 hc1) (cwV 1 hts gl_X4_22 rfl rfl rfl cdX4_startFrom ⟨Nat.le_of_ble_eq_true rfl, Nat.le_of_ble_eq_true rfl⟩) rfl hl.1 rfl (Nat.le_of_ble_eq_true rfl) dX4_lightOf_2 ⟨Nat.zero_le _, Nat.zero_le _⟩ hW hS rfl (fun H locs hW hS => ?_)
  refine lv_pop hx hb dX4_lightOf_5 rfl ?_
  refine lv_iconst (v := 0) hx hb dX4_lightOf_6 rfl ?_
  refine lv_istore_n (lv' := [(3, .int 0), (0, .ref (wad E 31)), (1, .ref (wad E k1)), (2, .int a2)]) hx hb dX4_lightOf_7 rfl hl (by decide) rfl (fun ls hl => ?_)
  refine lv_iconst (v := 0) hx hb dX4_lightOf_8 rfl ?_
  refine lv_istore (lv' := [(4, .int 0), (3, .int 0), (0, .ref (wad E 31)), (1, .ref (wad E k1)), (2, .int a2)]) hx hb dX4_lightOf_9 hl (by decide) rfl (fun ls hl => ?_)
  exact pX4_lightOf_11 B   hf hW hS (lv_sub hl [2, 4, 1, 0] rfl)
theorem cX4_lightOf_ok (l : Launch) (E : wE) (M : wMem) (k1 : Nat) (hk1 : wkd k1 = 4) (a2 : Int32) {res : Int32 × wMem} (hf : fX4_lightOf M k1 a2 = some res) : wMet l yX4_lightOf (wsM yX4_lightOf cX4_lightOf 5 (some .int)) ({ frames := 5, cells := 0, slots := 0, locals := 106 } : Room) E M [.ref (wad E 31), .ref (wad E k1), .int a2] (some (.int res.1)) res.2 :=
  wc_of (cc := cX4_lightOf) (maxL := 5) (ret := (some .int)) (by decide) (Nat.le_of_ble_eq_true rfl) (fun _ _ _ _ _ _ _ _ B hW hl => pX4_lightOf B hk1 hf hW va_S.rf hl)
end
theorem cdX9_light : yX9_light.cls = RX9 ∧ yX9_light.cls ≠ "java/lang/invoke/MethodHandle" ∧ yX9_light.cls ≠ "java/lang/invoke/VarHandle" ∧ (parseMethodDescriptor yX9_light.desc).map (fun d => d.parameters.length) = some 1 := by decide +kernel
section
variable {p : Program} {l : Launch} {e : Env} {s : State} {m : MethodId} {args : Array Value} {below : List Frame} {meth : Method} {c : Code} {E : wE}
set_option maxRecDepth 100000 in
set_option maxHeartbeats 4000000 in
theorem pX9_light (B : wB E p s m args meth c cX9_light 2 RX9 (some .int)) {M : wMem} {a1 : Int32}  {res : Int32 × wMem} (hf : fX9_light M a1 = some res) {H : Heap} {locs : List Loc} {ls : Array Slot} (hW : wH E M H) (hS : va_S (wA E) s.heap H locs) (hl : lv_has ls 2 [(0, .ref (wad E 0)), (1, .int a1)]) : W p l e ({ frames := 6, cells := 0, slots := 0, locals := 130 } : Room) s m args below meth c H locs 0 0 (MQ below (wQ E (some (.int res.1)) res.2) args s 0 0 (wA E)) (F0 m 0 ls []) := by
  unfold fX9_light at hf
  obtain ⟨hx, hb, hr, hml, hown, hts, hlocks, hG, hV, hZ⟩ := id B
  refine lv_iload_n hx hb dX9_light_0 rfl (lv_at hl 1 rfl) ?_
  rcases wif_e hf with ⟨hq1, hf⟩ | ⟨hq1, hf⟩
  · refine lv_if_ge (tgt := 11) hx hb dX9_light_1 (by decide) (fun _ => ?_) (fun h => absurd hq1 h)
    refine lv_iload_n hx hb dX9_light_11 rfl (lv_at hl 1 rfl) ?_
    refine lv_sipush (v := 200) hx hb dX9_light_12 (by decide) ?_
    rcases wif_e hf with ⟨hq2, hf⟩ | ⟨hq2, hf⟩
    · refine lv_icmp_le (tgt := 25) hx hb dX9_light_15 (by decide) (fun _ => ?_) (fun h => absurd hq2 h)
      refine lv_aload_n hx hb dX9_light_25 rfl (lv_at hl 0 rfl) ?_
      refine wm_get hx hb hts wu_X9 hown hV hW (wlt_8 (rfl : wkd 0 = 8)) (wen_8 (rfl : wkd 0 = 8)) (C := RX9) (T := TX9) (N := 10) rfl 2 (by decide) (hts _ wA_233) rfl dX9_light_26 ?_
      refine lv_aload_n hx hb dX9_light_29 rfl (lv_at hl 0 rfl) ?_
      refine wm_get hx hb hts wu_X9 hown hV hW (wlt_8 (rfl : wkd 0 = 8)) (wen_8 (rfl : wkd 0 = 8)) (C := RX9) (T := TX9) (N := 10) rfl 0 (by decide) (hts _ wA_231) rfl dX9_light_30 ?_
      refine lv_iload_n hx hb dX9_light_33 rfl (lv_at hl 1 rfl) ?_
      obtain ⟨r4, M5, hc3, hf⟩ := wbind_p hf
      refine wc_V (As := [.ref (wad E 1), .int a1]) (rest := []) hx hb hml hown hts hG hV hZ (wlt_3 (rfl : wkd 31 = 3)) (q := (RX4, TX4, 1)) (wen_3 (rfl : wkd 31 = 3)) rfl (cX4_lightOf_ok l E M 1 (rfl : wkd 1 = 4) a1 hc3) (cwV 2 hts gl_X9_208 rfl rfl rfl cdX4_lightOf ⟨Nat.le_of_ble_eq_true rfl, Nat.le_of_ble_eq_true rfl⟩) rfl hl.1 rfl (Nat.le_of_ble_eq_true rfl) dX9_light_34 ⟨Nat.zero_le _, Nat.zero_le _⟩ hW hS rfl (fun H locs hW hS => ?_)
      have hres := Option.some.inj hf
      subst hres
      exact W.iret hx hb hr (wr_q hG hV hZ hW hS) hS.2.2 dX9_light_37
    · refine lv_icmp_le (tgt := 25) hx hb dX9_light_15 (by decide) (fun h => absurd h hq2) (fun _ => ?_)
      refine lv_aload_n hx hb dX9_light_18 rfl (lv_at hl 0 rfl) ?_
      refine lv_bipush (v := (-6)) hx hb dX9_light_19 (by decide) ?_
      obtain ⟨r7, M8, hc6, hf⟩ := wbind_p hf
      refine wc_V (As := [.int (-6)]) (rest := []) hx hb hml hown hts hG hV hZ (wlt_8 (rfl : wkd 0 = 8)) (q := (RX9, TX9, 10)) (wen_8 (rfl : wkd 0 = 8)) rfl (cX9_refuse_ok l E M (-6) hc6) (cwV 1 hts gl_X9_65 rfl rfl rfl cdX9_refuse ⟨Nat.le_of_ble_eq_true rfl, Nat.le_of_ble_eq_true rfl⟩) rfl hl.1 rfl (Nat.le_of_ble_eq_true rfl) dX9_light_21 ⟨Nat.zero_le _, Nat.zero_le _⟩ hW hS rfl (fun H locs hW hS => ?_)
      have hres := Option.some.inj hf
      subst hres
      exact W.iret hx hb hr (wr_q hG hV hZ hW hS) hS.2.2 dX9_light_24
  · refine lv_if_ge (tgt := 11) hx hb dX9_light_1 (by decide) (fun h => absurd h hq1) (fun _ => ?_)
    refine lv_aload_n hx hb dX9_light_4 rfl (lv_at hl 0 rfl) ?_
    refine lv_bipush (v := (-4)) hx hb dX9_light_5 (by decide) ?_
    obtain ⟨r10, M11, hc9, hf⟩ := wbind_p hf
    refine wc_V (As := [.int (-4)]) (rest := []) hx hb hml hown hts hG hV hZ (wlt_8 (rfl : wkd 0 = 8)) (q := (RX9, TX9, 10)) (wen_8 (rfl : wkd 0 = 8)) rfl (cX9_refuse_ok l E M (-4) hc9) (cwV 1 hts gl_X9_65 rfl rfl rfl cdX9_refuse ⟨Nat.le_of_ble_eq_true rfl, Nat.le_of_ble_eq_true rfl⟩) rfl hl.1 rfl (Nat.le_of_ble_eq_true rfl) dX9_light_7 ⟨Nat.zero_le _, Nat.zero_le _⟩ hW hS rfl (fun H locs hW hS => ?_)
    have hres := Option.some.inj hf
    subst hres
    exact W.iret hx hb hr (wr_q hG hV hZ hW hS) hS.2.2 dX9_light_10
theorem cX9_light_ok (l : Launch) (E : wE) (M : wMem) (a1 : Int32) {res : Int32 × wMem} (hf : fX9_light M a1 = some res) : wMet l yX9_light (wsM yX9_light cX9_light 2 (some .int)) ({ frames := 6, cells := 0, slots := 0, locals := 130 } : Room) E M [.ref (wad E 0), .int a1] (some (.int res.1)) res.2 :=
  wc_of (cc := cX9_light) (maxL := 2) (ret := (some .int)) (by decide) (Nat.le_of_ble_eq_true rfl) (fun _ _ _ _ _ _ _ _ B hW hl => pX9_light B  hf hW va_S.rf hl)
end
theorem cdX5_mendAll : yX5_mendAll.cls = RX5 ∧ yX5_mendAll.cls ≠ "java/lang/invoke/MethodHandle" ∧ yX5_mendAll.cls ≠ "java/lang/invoke/VarHandle" ∧ (parseMethodDescriptor yX5_mendAll.desc).map (fun d => d.parameters.length) = some 0 := by decide +kernel
section
variable {p : Program} {l : Launch} {e : Env} {s : State} {m : MethodId} {args : Array Value} {below : List Frame} {meth : Method} {c : Code} {E : wE}
set_option maxRecDepth 100000 in
set_option maxHeartbeats 4000000 in
theorem pX5_mendAll_36 (B : wB E p s m args meth c cX5_mendAll 3 RX5 (some .int)) {M : wMem} {ky0 : Nat} {y1 : Int32} {y2 : Int32} {rec4 : (Int32 × Int32 × wMem → Option (Int32 × wMem))} {res : Int32 × wMem} (hky0 : wkd ky0 = 4) (hrec4 : ∀ (y1' : Int32) (y2' : Int32) (M' : wMem), rec4 (y1', y2', M') = some res → ∀ (H : Heap) (locs : List Loc) (ls : Array Slot), wH E M' H → va_S (wA E) s.heap H locs → lv_has ls 3 [(0, .ref (wad E ky0)), (1, .int y1'), (2, .int y2')] → W p l e ({ frames := 1, cells := 0, slots := 0, locals := 20 } : Room) s m args below meth c H locs 0 0 (MQ below (wQ E (some (.int res.1)) res.2) args s 0 0 (wA E)) (F0 m 4 ls [])) (hf : fX5_mendAll_36 M rec4 ky0 y1 y2 = some res) {H : Heap} {locs : List Loc} {ls : Array Slot} (hW : wH E M H) (hS : va_S (wA E) s.heap H locs) (hl : lv_has ls 3 [(0, .ref (wad E ky0)), (1, .int y1), (2, .int y2)]) : W p l e ({ frames := 1, cells := 0, slots := 0, locals := 20 } : Room) s m args below meth c H locs 0 0 (MQ below (wQ E (some (.int res.1)) res.2) args s 0 0 (wA E)) (F0 m 36 ls []) := by
  unfold fX5_mendAll_36 at hf
  obtain ⟨hx, hb, hr, hml, hown, hts, hlocks, hG, hV, hZ⟩ := id B
  obtain ⟨x6, ex6, hf⟩ := wlet_e hf
  refine lv_iinc (v := x6) (lv' := [(2, .int x6), (0, .ref (wad E ky0)), (1, .int y1)]) hx hb dX5_mendAll_36 hl (k := 2) rfl (by rw [ex6]; rfl) (by decide) rfl (fun ls hl => ?_)
  refine lv_goto (tgt := 4) hx hb dX5_mendAll_39 (by decide) ?_
  exact hrec4 y1 x6 M hf _ _ _ hW hS (lv_sub hl [1, 2, 0] rfl)
set_option maxRecDepth 100000 in
set_option maxHeartbeats 4000000 in
theorem pX5_mendAll_4_b (B : wB E p s m args meth c cX5_mendAll 3 RX5 (some .int)) {M : wMem} {ky0 : Nat} {y1 : Int32} {y2 : Int32}  {rec4 : (Int32 × Int32 × wMem → Option (Int32 × wMem))} {res : Int32 × wMem} (hky0 : wkd ky0 = 4)  (hrec4 : ∀ (y1' : Int32) (y2' : Int32) (M' : wMem), rec4 (y1', y2', M') = some res → ∀ (H : Heap) (locs : List Loc) (ls : Array Slot), wH E M' H → va_S (wA E) s.heap H locs → lv_has ls 3 [(0, .ref (wad E ky0)), (1, .int y1'), (2, .int y2')] → W p l e ({ frames := 1, cells := 0, slots := 0, locals := 20 } : Room) s m args below meth c H locs 0 0 (MQ below (wQ E (some (.int res.1)) res.2) args s 0 0 (wA E)) (F0 m 4 ls [])) (hf : fX5_mendAll_4_b M  rec4 ky0 y1 y2 = some res) {H : Heap} {locs : List Loc} {ls : Array Slot} (hW : wH E M H) (hS : va_S (wA E) s.heap H locs) (hl : lv_has ls 3 [(0, .ref (wad E ky0)), (1, .int y1), (2, .int y2)]) : W p l e ({ frames := 1, cells := 0, slots := 0, locals := 20 } : Room) s m args below meth c H locs 0 0 (MQ below (wQ E (some (.int res.1)) res.2) args s 0 0 (wA E)) (F0 m 4 ls []) := by
  unfold fX5_mendAll_4_b at hf
  obtain ⟨hx, hb, hr, hml, hown, hts, hlocks, hG, hV, hZ⟩ := id B
  refine lv_iload_n hx hb dX5_mendAll_4 rfl (lv_at hl 2 rfl) ?_
  refine lv_aload_n hx hb dX5_mendAll_5 rfl (lv_at hl 0 rfl) ?_
  refine wm_get hx hb hts wu_X5 hown hV hW (wlt_4 hky0) (wen_4 hky0) (C := RX5) (T := TX5) (N := 4) rfl 2 (by decide) (hts _ wA_117) rfl dX5_mendAll_6 ?_
  rcases wif_e hf with ⟨hq1, hf⟩ | ⟨hq1, hf⟩
  · refine lv_icmp_ge (tgt := 42) hx hb dX5_mendAll_9 (by decide) (fun _ => ?_) (fun h => absurd hq1 h)
    refine lv_iload_n hx hb dX5_mendAll_42 rfl (lv_at hl 1 rfl) ?_
    have hres := Option.some.inj hf
    subst hres
    exact W.iret hx hb hr (wr_q hG hV hZ hW hS) hS.2.2 dX5_mendAll_43
  · refine lv_icmp_ge (tgt := 42) hx hb dX5_mendAll_9 (by decide) (fun h => absurd h hq1) (fun _ => ?_)
    refine lv_aload_n hx hb dX5_mendAll_12 rfl (lv_at hl 0 rfl) ?_
    refine wm_get hx hb hts wu_X5 hown hV hW (wlt_4 hky0) (wen_4 hky0) (C := RX5) (T := TX5) (N := 4) rfl 0 (by decide) (hts _ wA_109) rfl dX5_mendAll_13 ?_
    refine lv_iload_n hx hb dX5_mendAll_16 rfl (lv_at hl 2 rfl) ?_
    obtain ⟨hi2, hf⟩ := wgi_e hf
    refine wm_aldL hx hb hV hW (wk4_1 hky0) hi2 dX5_mendAll_17 ?_
    obtain ⟨r4, hc3, hf⟩ := wbind_e hf
    refine wc_V (As := []) (rest := []) hx hb hml hown hts hG hV hZ (wlt_0 (wk22_i (wk4_1 hky0) hi2)) (q := (RX1, TX1, 5)) (wen_0 (wk22_i (wk4_1 hky0) hi2)) rfl (cX1_isWell_ok l E M ((ky0 + 1) + 2 + Int32.toNatClampNeg y2) (wk22_i (wk4_1 hky0) hi2) hc3) (cwV 0 hts gl_X5_111 rfl rfl rfl cdX1_isWell ⟨Nat.le_of_ble_eq_true rfl, Nat.le_of_ble_eq_true rfl⟩) rfl hl.1 rfl (Nat.le_of_ble_eq_true rfl) dX5_mendAll_18 ⟨Nat.zero_le _, Nat.zero_le _⟩ hW hS rfl (fun H locs hW hS => ?_)
    rcases wif_e hf with ⟨hq5, hf⟩ | ⟨hq5, hf⟩
    · refine lv_if_ne (tgt := 36) hx hb dX5_mendAll_21 (by decide) (fun h => absurd hq5 h) (fun _ => ?_)
      refine lv_aload_n hx hb dX5_mendAll_24 rfl (lv_at hl 0 rfl) ?_
      refine wm_get hx hb hts wu_X5 hown hV hW (wlt_4 hky0) (wen_4 hky0) (C := RX5) (T := TX5) (N := 4) rfl 0 (by decide) (hts _ wA_109) rfl dX5_mendAll_25 ?_
      refine lv_iload_n hx hb dX5_mendAll_28 rfl (lv_at hl 2 rfl) ?_
      obtain ⟨hi7, hf⟩ := wgi_e hf
      refine wm_aldL hx hb hV hW (wk4_1 hky0) hi7 dX5_mendAll_29 ?_
      obtain ⟨M10, hc8, hf⟩ := wbind_e hf
      refine wc_V (As := []) (rest := []) hx hb hml hown hts hG hV hZ (wlt_0 (wk22_i (wk4_1 hky0) hi7)) (q := (RX1, TX1, 5)) (wen_0 (wk22_i (wk4_1 hky0) hi7)) rfl (cX1_putAnew_ok l E M ((ky0 + 1) + 2 + Int32.toNatClampNeg y2) (wk22_i (wk4_1 hky0) hi7) hc8) (cwV 0 hts gl_X5_124 rfl rfl rfl cdX1_putAnew ⟨Nat.le_of_ble_eq_true rfl, Nat.le_of_ble_eq_true rfl⟩) rfl hl.1 rfl (Nat.le_of_ble_eq_true rfl) dX5_mendAll_30 ⟨Nat.zero_le _, Nat.zero_le _⟩ hW hS rfl (fun H locs hW hS => ?_)
      obtain ⟨x11, ex11, hf⟩ := wlet_e hf
      refine lv_iinc (v := x11) (lv' := [(1, .int x11), (0, .ref (wad E ky0)), (2, .int y2)]) hx hb dX5_mendAll_33 hl (k := 1) rfl (by rw [ex11]; rfl) (by decide) rfl (fun ls hl => ?_)
      exact pX5_mendAll_36 B hky0 hrec4 hf hW hS (lv_sub hl [1, 0, 2] rfl)
    · refine lv_if_ne (tgt := 36) hx hb dX5_mendAll_21 (by decide) (fun _ => ?_) (fun h => absurd h hq5)
      exact pX5_mendAll_36 B hky0 hrec4 hf hW hS (lv_sub hl [0, 1, 2] rfl)
set_option maxRecDepth 100000 in
set_option maxHeartbeats 4000000 in
theorem pX5_mendAll_4 (B : wB E p s m args meth c cX5_mendAll 3 RX5 (some .int)) {M : wMem} {ky0 : Nat} {y1 : Int32} {y2 : Int32}  {res : Int32 × wMem} (hky0 : wkd ky0 = 4)  (hf : fX5_mendAll_4 M  ky0 y1 y2 = some res) {H : Heap} {locs : List Loc} {ls : Array Slot} (hW : wH E M H) (hS : va_S (wA E) s.heap H locs) (hl : lv_has ls 3 [(0, .ref (wad E ky0)), (1, .int y1), (2, .int y2)]) : W p l e ({ frames := 1, cells := 0, slots := 0, locals := 20 } : Room) s m args below meth c H locs 0 0 (MQ below (wQ E (some (.int res.1)) res.2) args s 0 0 (wA E)) (F0 m 4 ls []) := by
  have key := wloop_W (b := (fun rec4 t => fX5_mendAll_4_b t.2.2  rec4 ky0 t.1 t.2.1)) (P := fun t => ∀ (H : Heap) (locs : List Loc) (ls : Array Slot), wH E t.2.2 H → va_S (wA E) s.heap H locs → lv_has ls 3 [(0, .ref (wad E ky0)), (1, .int t.1), (2, .int t.2.1)] → W p l e ({ frames := 1, cells := 0, slots := 0, locals := 20 } : Room) s m args below meth c H locs 0 0 (MQ below (wQ E (some (.int res.1)) res.2) args s 0 0 (wA E)) (F0 m 4 ls [])) (r := res) (fun rec hrec t hf H locs ls hW hS hl => pX5_mendAll_4_b B hky0  (fun v0 v1 v2 hf H locs ls hW hS hl => hrec (v0, v1, v2) hf H locs ls hW hS hl) hf hW hS hl)
  exact key wfuel (y1, y2, M) hf H locs ls hW hS hl
set_option maxRecDepth 100000 in
set_option maxHeartbeats 4000000 in
theorem pX5_mendAll (B : wB E p s m args meth c cX5_mendAll 3 RX5 (some .int)) {M : wMem} {k0 : Nat} (hk0 : wkd k0 = 4) {res : Int32 × wMem} (hf : fX5_mendAll M k0 = some res) {H : Heap} {locs : List Loc} {ls : Array Slot} (hW : wH E M H) (hS : va_S (wA E) s.heap H locs) (hl : lv_has ls 3 [(0, .ref (wad E k0))]) : W p l e ({ frames := 1, cells := 0, slots := 0, locals := 20 } : Room) s m args below meth c H locs 0 0 (MQ below (wQ E (some (.int res.1)) res.2) args s 0 0 (wA E)) (F0 m 0 ls []) := by
  unfold fX5_mendAll at hf
  obtain ⟨hx, hb, hr, hml, hown, hts, hlocks, hG, hV, hZ⟩ := id B
  refine lv_iconst (v := 0) hx hb dX5_mendAll_0 rfl ?_
  refine lv_istore_n (lv' := [(1, .int 0), (0, .ref (wad E k0))]) hx hb dX5_mendAll_1 rfl hl (by decide) rfl (fun ls hl => ?_)
  refine lv_iconst (v := 0) hx hb dX5_mendAll_2 rfl ?_
  refine lv_istore_n (lv' := [(2, .int 0), (1, .int 0), (0, .ref (wad E k0))]) hx hb dX5_mendAll_3 rfl hl (by decide) rfl (fun ls hl => ?_)
  exact pX5_mendAll_4 B hk0  hf hW hS (lv_sub hl [2, 1, 0] rfl)
theorem cX5_mendAll_ok (l : Launch) (E : wE) (M : wMem) (k0 : Nat) (hk0 : wkd k0 = 4) {res : Int32 × wMem} (hf : fX5_mendAll M k0 = some res) : wMet l yX5_mendAll (wsM yX5_mendAll cX5_mendAll 3 (some .int)) ({ frames := 1, cells := 0, slots := 0, locals := 20 } : Room) E M [.ref (wad E k0)] (some (.int res.1)) res.2 :=
  wc_of (cc := cX5_mendAll) (maxL := 3) (ret := (some .int)) (by decide) (Nat.le_of_ble_eq_true rfl) (fun _ _ _ _ _ _ _ _ B hW hl => pX5_mendAll B hk0 hf hW va_S.rf hl)
end
theorem cdX4_sparesTaken : yX4_sparesTaken.cls = RX4 ∧ yX4_sparesTaken.cls ≠ "java/lang/invoke/MethodHandle" ∧ yX4_sparesTaken.cls ≠ "java/lang/invoke/VarHandle" ∧ (parseMethodDescriptor yX4_sparesTaken.desc).map (fun d => d.parameters.length) = some 2 := by decide +kernel
section
variable {p : Program} {l : Launch} {e : Env} {s : State} {m : MethodId} {args : Array Value} {below : List Frame} {meth : Method} {c : Code} {E : wE}
set_option maxRecDepth 100000 in
set_option maxHeartbeats 4000000 in
theorem pX4_sparesTaken_11_b (B : wB E p s m args meth c cX4_sparesTaken 5 RX4 (some .int)) {M : wMem} {y2 : Int32} {y3 : Int32} {y4 : Int32}  {rec11 : (Int32 × Int32 × wMem → Option (Int32 × wMem))} {res : Int32 × wMem}   (hrec11 : ∀ (y3' : Int32) (y4' : Int32) (M' : wMem), rec11 (y3', y4', M') = some res → ∀ (H : Heap) (locs : List Loc) (ls : Array Slot), wH E M' H → va_S (wA E) s.heap H locs → lv_has ls 5 [(0, .ref (wad E 31)), (2, .int y2), (3, .int y3'), (4, .int y4')] → W p l e ({ frames := 4, cells := 0, slots := 0, locals := 89 } : Room) s m args below meth c H locs 0 0 (MQ below (wQ E (some (.int res.1)) res.2) args s 0 0 (wA E)) (F0 m 11 ls [])) (hf : fX4_sparesTaken_11_b M  rec11 y2 y3 y4 = some res) {H : Heap} {locs : List Loc} {ls : Array Slot} (hW : wH E M H) (hS : va_S (wA E) s.heap H locs) (hl : lv_has ls 5 [(0, .ref (wad E 31)), (2, .int y2), (3, .int y3), (4, .int y4)]) : W p l e ({ frames := 4, cells := 0, slots := 0, locals := 89 } : Room) s m args below meth c H locs 0 0 (MQ below (wQ E (some (.int res.1)) res.2) args s 0 0 (wA E)) (F0 m 11 ls []) := by
  unfold fX4_sparesTaken_11_b at hf
  obtain ⟨hx, hb, hr, hml, hown, hts, hlocks, hG, hV, hZ⟩ := id B
  refine lv_iload hx hb dX4_sparesTaken_11 (lv_at hl 3 rfl) ?_
  refine lv_iload_n hx hb dX4_sparesTaken_13 rfl (lv_at hl 1 rfl) ?_
  rcases wif_e hf with ⟨hq4, hf⟩ | ⟨hq4, hf⟩
  · refine lv_icmp_ge (tgt := 41) hx hb dX4_sparesTaken_14 (by decide) (fun _ => ?_) (fun h => absurd hq4 h)
    refine lv_iload_n hx hb dX4_sparesTaken_41 rfl (lv_at hl 2 rfl) ?_
    have hres := Option.some.inj hf
    subst hres
    exact W.iret hx hb hr (wr_q hG hV hZ hW hS) hS.2.2 dX4_sparesTaken_42
  · refine lv_icmp_ge (tgt := 41) hx hb dX4_sparesTaken_14 (by decide) (fun h => absurd h hq4) (fun _ => ?_)
    refine lv_iload_n hx hb dX4_sparesTaken_17 rfl (lv_at hl 2 rfl) ?_
    refine lv_aload_n hx hb dX4_sparesTaken_18 rfl (lv_at hl 0 rfl) ?_
    refine wm_get hx hb hts wu_X4 hown hV hW (wlt_3 (rfl : wkd 31 = 3)) (wen_3 (rfl : wkd 31 = 3)) (C := RX4) (T := TX4) (N := 1) rfl 0 (by decide) (hts _ wA_141) rfl dX4_sparesTaken_19 ?_
    obtain ⟨r6, M7, hc5, hf⟩ := wbind_p hf
    refine wc_V (As := []) (rest := [.int y3]) hx hb hml hown hts hG hV hZ (wlt_4 (rfl : wkd 32 = 4)) (q := (RX5, TX5, 4)) (wen_4 (rfl : wkd 32 = 4)) rfl (cX5_mendAll_ok l E M 32 (rfl : wkd 32 = 4) hc5) (cwV 0 hts gl_X4_58 rfl rfl rfl cdX5_mendAll ⟨Nat.le_of_ble_eq_true rfl, Nat.le_of_ble_eq_true rfl⟩) rfl hl.1 rfl (Nat.le_of_ble_eq_true rfl) dX4_sparesTaken_22 ⟨Nat.zero_le _, Nat.zero_le _⟩ hW hS rfl (fun H locs hW hS => ?_)
    refine lv_iadd hx hb dX4_sparesTaken_25 ?_
    refine lv_topi (fun x8 ex8 => ?_)
    replace hf := wlet_y ex8 hf
    refine lv_istore_n (lv' := [(3, .int x8), (0, .ref (wad E 31)), (2, .int y2), (4, .int y4)]) hx hb dX4_sparesTaken_26 rfl hl (by decide) rfl (fun ls hl => ?_)
    refine lv_aload_n hx hb dX4_sparesTaken_27 rfl (lv_at hl 1 rfl) ?_
    refine wm_get hx hb hts wu_X4 hown hV hW (wlt_3 (rfl : wkd 31 = 3)) (wen_3 (rfl : wkd 31 = 3)) (C := RX4) (T := TX4) (N := 1) rfl 0 (by decide) (hts _ wA_141) rfl dX4_sparesTaken_28 ?_
    obtain ⟨r10, M11, hc9, hf⟩ := wbind_p hf
    refine wc_V (As := []) (rest := []) hx hb hml hown hts hG hV hZ (wlt_4 (rfl : wkd 32 = 4)) (q := (RX5, TX5, 4)) (wen_4 (rfl : wkd 32 = 4)) rfl (cX5_passHour_ok l E M7 32 (rfl : wkd 32 = 4) hc9) (cwV 0 hts gl_X4_30 rfl rfl rfl cdX5_passHour ⟨Nat.le_of_ble_eq_true rfl, Nat.le_of_ble_eq_true rfl⟩) rfl hl.1 rfl (Nat.le_of_ble_eq_true rfl) dX4_sparesTaken_31 ⟨Nat.zero_le _, Nat.zero_le _⟩ hW hS rfl (fun H locs hW hS => ?_)
    refine lv_pop hx hb dX4_sparesTaken_34 rfl ?_
    obtain ⟨x12, ex12, hf⟩ := wlet_e hf
    refine lv_iinc (v := x12) (lv' := [(4, .int x12), (3, .int x8), (0, .ref (wad E 31)), (2, .int y2)]) hx hb dX4_sparesTaken_35 hl (k := 3) rfl (by rw [ex12]; rfl) (by decide) rfl (fun ls hl => ?_)
    refine lv_goto (tgt := 11) hx hb dX4_sparesTaken_38 (by decide) ?_
    exact hrec11 x8 x12 M11 hf _ _ _ hW hS (lv_sub hl [2, 3, 1, 0] rfl)
set_option maxRecDepth 100000 in
set_option maxHeartbeats 4000000 in
theorem pX4_sparesTaken_11 (B : wB E p s m args meth c cX4_sparesTaken 5 RX4 (some .int)) {M : wMem} {y2 : Int32} {y3 : Int32} {y4 : Int32}  {res : Int32 × wMem}   (hf : fX4_sparesTaken_11 M  y2 y3 y4 = some res) {H : Heap} {locs : List Loc} {ls : Array Slot} (hW : wH E M H) (hS : va_S (wA E) s.heap H locs) (hl : lv_has ls 5 [(0, .ref (wad E 31)), (2, .int y2), (3, .int y3), (4, .int y4)]) : W p l e ({ frames := 4, cells := 0, slots := 0, locals := 89 } : Room) s m args below meth c H locs 0 0 (MQ below (wQ E (some (.int res.1)) res.2) args s 0 0 (wA E)) (F0 m 11 ls []) := by
  have key := wloop_W (b := (fun rec11 t => fX4_sparesTaken_11_b t.2.2  rec11 y2 t.1 t.2.1)) (P := fun t => ∀ (H : Heap) (locs : List Loc) (ls : Array Slot), wH E t.2.2 H → va_S (wA E) s.heap H locs → lv_has ls 5 [(0, .ref (wad E 31)), (2, .int y2), (3, .int t.1), (4, .int t.2.1)] → W p l e ({ frames := 4, cells := 0, slots := 0, locals := 89 } : Room) s m args below meth c H locs 0 0 (MQ below (wQ E (some (.int res.1)) res.2) args s 0 0 (wA E)) (F0 m 11 ls [])) (r := res) (fun rec hrec t hf H locs ls hW hS hl => pX4_sparesTaken_11_b B   (fun v0 v1 v2 hf H locs ls hW hS hl => hrec (v0, v1, v2) hf H locs ls hW hS hl) hf hW hS hl)
  exact key wfuel (y3, y4, M) hf H locs ls hW hS hl
set_option maxRecDepth 100000 in
set_option maxHeartbeats 4000000 in
theorem pX4_sparesTaken (B : wB E p s m args meth c cX4_sparesTaken 5 RX4 (some .int)) {M : wMem} {k1 : Nat} {a2 : Int32} (hk1 : wkd k1 = 4) {res : Int32 × wMem} (hf : fX4_sparesTaken M k1 a2 = some res) {H : Heap} {locs : List Loc} {ls : Array Slot} (hW : wH E M H) (hS : va_S (wA E) s.heap H locs) (hl : lv_has ls 5 [(0, .ref (wad E 31)), (1, .ref (wad E k1)), (2, .int a2)]) : W p l e ({ frames := 4, cells := 0, slots := 0, locals := 89 } : Room) s m args below meth c H locs 0 0 (MQ below (wQ E (some (.int res.1)) res.2) args s 0 0 (wA E)) (F0 m 0 ls []) := by
  unfold fX4_sparesTaken at hf
  obtain ⟨hx, hb, hr, hml, hown, hts, hlocks, hG, hV, hZ⟩ := id B
  refine lv_aload_n hx hb dX4_sparesTaken_0 rfl (lv_at hl 0 rfl) ?_
  refine lv_aload_n hx hb dX4_sparesTaken_1 rfl (lv_at hl 1 rfl) ?_
  obtain ⟨M3, hc1, hf⟩ := wbind_e hf
  refine wc_V (As := [.ref (wad E k1)]) (rest := []) hx hb hml hown hts hG hV hZ (wlt_3 (rfl : wkd 31 = 3)) (q := (RX4, TX4, 1)) (wen_3 (rfl : wkd 31 = 3)) rfl (cX4_startFrom_ok l E M k1 hk1 hc1) (cwV 1 hts gl_X4_22 rfl rfl rfl cdX4_startFrom ⟨Nat.le_of_ble_eq_true rfl, Nat.le_of_ble_eq_true rfl⟩) rfl hl.1 rfl (Nat.le_of_ble_eq_true rfl) dX4_sparesTaken_2 ⟨Nat.zero_le _, Nat.zero_le _⟩ hW hS rfl (fun H locs hW hS => ?_)
  refine lv_pop hx hb dX4_sparesTaken_5 rfl ?_
  refine lv_iconst (v := 0) hx hb dX4_sparesTaken_6 rfl ?_
  refine lv_istore_n (lv' := [(3, .int 0), (0, .ref (wad E 31)), (1, .ref (wad E k1)), (2, .int a2)]) hx hb dX4_sparesTaken_7 rfl hl (by decide) rfl (fun ls hl => ?_)
  refine lv_iconst (v := 0) hx hb dX4_sparesTaken_8 rfl ?_
  refine lv_istore (lv' := [(4, .int 0), (3, .int 0), (0, .ref (wad E 31)), (1, .ref (wad E k1)), (2, .int a2)]) hx hb dX4_sparesTaken_9 hl (by decide) rfl (fun ls hl => ?_)
  exact pX4_sparesTaken_11 B   hf hW hS (lv_sub hl [2, 4, 1, 0] rfl)
theorem cX4_sparesTaken_ok (l : Launch) (E : wE) (M : wMem) (k1 : Nat) (hk1 : wkd k1 = 4) (a2 : Int32) {res : Int32 × wMem} (hf : fX4_sparesTaken M k1 a2 = some res) : wMet l yX4_sparesTaken (wsM yX4_sparesTaken cX4_sparesTaken 5 (some .int)) ({ frames := 4, cells := 0, slots := 0, locals := 89 } : Room) E M [.ref (wad E 31), .ref (wad E k1), .int a2] (some (.int res.1)) res.2 :=
  wc_of (cc := cX4_sparesTaken) (maxL := 5) (ret := (some .int)) (by decide) (Nat.le_of_ble_eq_true rfl) (fun _ _ _ _ _ _ _ _ B hW hl => pX4_sparesTaken B hk1 hf hW va_S.rf hl)
end
theorem cdX9_keeps : yX9_keeps.cls = RX9 ∧ yX9_keeps.cls ≠ "java/lang/invoke/MethodHandle" ∧ yX9_keeps.cls ≠ "java/lang/invoke/VarHandle" ∧ (parseMethodDescriptor yX9_keeps.desc).map (fun d => d.parameters.length) = some 1 := by decide +kernel
section
variable {p : Program} {l : Launch} {e : Env} {s : State} {m : MethodId} {args : Array Value} {below : List Frame} {meth : Method} {c : Code} {E : wE}
set_option maxRecDepth 100000 in
set_option maxHeartbeats 4000000 in
theorem pX9_keeps (B : wB E p s m args meth c cX9_keeps 2 RX9 (some .int)) {M : wMem} {a1 : Int32}  {res : Int32 × wMem} (hf : fX9_keeps M a1 = some res) {H : Heap} {locs : List Loc} {ls : Array Slot} (hW : wH E M H) (hS : va_S (wA E) s.heap H locs) (hl : lv_has ls 2 [(0, .ref (wad E 0)), (1, .int a1)]) : W p l e ({ frames := 5, cells := 0, slots := 0, locals := 113 } : Room) s m args below meth c H locs 0 0 (MQ below (wQ E (some (.int res.1)) res.2) args s 0 0 (wA E)) (F0 m 0 ls []) := by
  unfold fX9_keeps at hf
  obtain ⟨hx, hb, hr, hml, hown, hts, hlocks, hG, hV, hZ⟩ := id B
  refine lv_iload_n hx hb dX9_keeps_0 rfl (lv_at hl 1 rfl) ?_
  refine lv_iconst (v := 1) hx hb dX9_keeps_1 rfl ?_
  rcases wif_e hf with ⟨hq1, hf⟩ | ⟨hq1, hf⟩
  · refine lv_icmp_ge (tgt := 12) hx hb dX9_keeps_2 (by decide) (fun _ => ?_) (fun h => absurd hq1 h)
    refine lv_iload_n hx hb dX9_keeps_12 rfl (lv_at hl 1 rfl) ?_
    refine lv_sipush (v := 200) hx hb dX9_keeps_13 (by decide) ?_
    rcases wif_e hf with ⟨hq2, hf⟩ | ⟨hq2, hf⟩
    · refine lv_icmp_le (tgt := 26) hx hb dX9_keeps_16 (by decide) (fun _ => ?_) (fun h => absurd hq2 h)
      refine lv_aload_n hx hb dX9_keeps_26 rfl (lv_at hl 0 rfl) ?_
      refine wm_get hx hb hts wu_X9 hown hV hW (wlt_8 (rfl : wkd 0 = 8)) (wen_8 (rfl : wkd 0 = 8)) (C := RX9) (T := TX9) (N := 10) rfl 2 (by decide) (hts _ wA_233) rfl dX9_keeps_27 ?_
      refine lv_aload_n hx hb dX9_keeps_30 rfl (lv_at hl 0 rfl) ?_
      refine wm_get hx hb hts wu_X9 hown hV hW (wlt_8 (rfl : wkd 0 = 8)) (wen_8 (rfl : wkd 0 = 8)) (C := RX9) (T := TX9) (N := 10) rfl 0 (by decide) (hts _ wA_231) rfl dX9_keeps_31 ?_
      refine lv_iload_n hx hb dX9_keeps_34 rfl (lv_at hl 1 rfl) ?_
      obtain ⟨r4, M5, hc3, hf⟩ := wbind_p hf
      refine wc_V (As := [.ref (wad E 1), .int a1]) (rest := []) hx hb hml hown hts hG hV hZ (wlt_3 (rfl : wkd 31 = 3)) (q := (RX4, TX4, 1)) (wen_3 (rfl : wkd 31 = 3)) rfl (cX4_sparesTaken_ok l E M 1 (rfl : wkd 1 = 4) a1 hc3) (cwV 2 hts gl_X9_211 rfl rfl rfl cdX4_sparesTaken ⟨Nat.le_of_ble_eq_true rfl, Nat.le_of_ble_eq_true rfl⟩) rfl hl.1 rfl (Nat.le_of_ble_eq_true rfl) dX9_keeps_35 ⟨Nat.zero_le _, Nat.zero_le _⟩ hW hS rfl (fun H locs hW hS => ?_)
      have hres := Option.some.inj hf
      subst hres
      exact W.iret hx hb hr (wr_q hG hV hZ hW hS) hS.2.2 dX9_keeps_38
    · refine lv_icmp_le (tgt := 26) hx hb dX9_keeps_16 (by decide) (fun h => absurd h hq2) (fun _ => ?_)
      refine lv_aload_n hx hb dX9_keeps_19 rfl (lv_at hl 0 rfl) ?_
      refine lv_bipush (v := (-6)) hx hb dX9_keeps_20 (by decide) ?_
      obtain ⟨r7, M8, hc6, hf⟩ := wbind_p hf
      refine wc_V (As := [.int (-6)]) (rest := []) hx hb hml hown hts hG hV hZ (wlt_8 (rfl : wkd 0 = 8)) (q := (RX9, TX9, 10)) (wen_8 (rfl : wkd 0 = 8)) rfl (cX9_refuse_ok l E M (-6) hc6) (cwV 1 hts gl_X9_65 rfl rfl rfl cdX9_refuse ⟨Nat.le_of_ble_eq_true rfl, Nat.le_of_ble_eq_true rfl⟩) rfl hl.1 rfl (Nat.le_of_ble_eq_true rfl) dX9_keeps_22 ⟨Nat.zero_le _, Nat.zero_le _⟩ hW hS rfl (fun H locs hW hS => ?_)
      have hres := Option.some.inj hf
      subst hres
      exact W.iret hx hb hr (wr_q hG hV hZ hW hS) hS.2.2 dX9_keeps_25
  · refine lv_icmp_ge (tgt := 12) hx hb dX9_keeps_2 (by decide) (fun h => absurd h hq1) (fun _ => ?_)
    refine lv_aload_n hx hb dX9_keeps_5 rfl (lv_at hl 0 rfl) ?_
    refine lv_bipush (v := (-4)) hx hb dX9_keeps_6 (by decide) ?_
    obtain ⟨r10, M11, hc9, hf⟩ := wbind_p hf
    refine wc_V (As := [.int (-4)]) (rest := []) hx hb hml hown hts hG hV hZ (wlt_8 (rfl : wkd 0 = 8)) (q := (RX9, TX9, 10)) (wen_8 (rfl : wkd 0 = 8)) rfl (cX9_refuse_ok l E M (-4) hc9) (cwV 1 hts gl_X9_65 rfl rfl rfl cdX9_refuse ⟨Nat.le_of_ble_eq_true rfl, Nat.le_of_ble_eq_true rfl⟩) rfl hl.1 rfl (Nat.le_of_ble_eq_true rfl) dX9_keeps_8 ⟨Nat.zero_le _, Nat.zero_le _⟩ hW hS rfl (fun H locs hW hS => ?_)
    have hres := Option.some.inj hf
    subst hres
    exact W.iret hx hb hr (wr_q hG hV hZ hW hS) hS.2.2 dX9_keeps_11
theorem cX9_keeps_ok (l : Launch) (E : wE) (M : wMem) (a1 : Int32) {res : Int32 × wMem} (hf : fX9_keeps M a1 = some res) : wMet l yX9_keeps (wsM yX9_keeps cX9_keeps 2 (some .int)) ({ frames := 5, cells := 0, slots := 0, locals := 113 } : Room) E M [.ref (wad E 0), .int a1] (some (.int res.1)) res.2 :=
  wc_of (cc := cX9_keeps) (maxL := 2) (ret := (some .int)) (by decide) (Nat.le_of_ble_eq_true rfl) (fun _ _ _ _ _ _ _ _ B hW hl => pX9_keeps B  hf hW va_S.rf hl)
end
theorem cdX5_putAllAnew : yX5_putAllAnew.cls = RX5 ∧ yX5_putAllAnew.cls ≠ "java/lang/invoke/MethodHandle" ∧ yX5_putAllAnew.cls ≠ "java/lang/invoke/VarHandle" ∧ (parseMethodDescriptor yX5_putAllAnew.desc).map (fun d => d.parameters.length) = some 0 := by decide +kernel
section
variable {p : Program} {l : Launch} {e : Env} {s : State} {m : MethodId} {args : Array Value} {below : List Frame} {meth : Method} {c : Code} {E : wE}
set_option maxRecDepth 100000 in
set_option maxHeartbeats 4000000 in
theorem pX5_putAllAnew_2_b (B : wB E p s m args meth c cX5_putAllAnew 2 RX5 none) {M : wMem} {ky0 : Nat} {y1 : Int32}  {rec2 : (Int32 × wMem → Option (wMem))} {res : wMem} (hky0 : wkd ky0 = 4)  (hrec2 : ∀ (y1' : Int32) (M' : wMem), rec2 (y1', M') = some res → ∀ (H : Heap) (locs : List Loc) (ls : Array Slot), wH E M' H → va_S (wA E) s.heap H locs → lv_has ls 2 [(0, .ref (wad E ky0)), (1, .int y1')] → W p l e ({ frames := 1, cells := 0, slots := 0, locals := 20 } : Room) s m args below meth c H locs 0 0 (MQ below (wQ E none res) args s 0 0 (wA E)) (F0 m 2 ls [])) (hf : fX5_putAllAnew_2_b M  rec2 ky0 y1 = some res) {H : Heap} {locs : List Loc} {ls : Array Slot} (hW : wH E M H) (hS : va_S (wA E) s.heap H locs) (hl : lv_has ls 2 [(0, .ref (wad E ky0)), (1, .int y1)]) : W p l e ({ frames := 1, cells := 0, slots := 0, locals := 20 } : Room) s m args below meth c H locs 0 0 (MQ below (wQ E none res) args s 0 0 (wA E)) (F0 m 2 ls []) := by
  unfold fX5_putAllAnew_2_b at hf
  obtain ⟨hx, hb, hr, hml, hown, hts, hlocks, hG, hV, hZ⟩ := id B
  refine lv_iload_n hx hb dX5_putAllAnew_2 rfl (lv_at hl 1 rfl) ?_
  refine lv_aload_n hx hb dX5_putAllAnew_3 rfl (lv_at hl 0 rfl) ?_
  refine wm_get hx hb hts wu_X5 hown hV hW (wlt_4 hky0) (wen_4 hky0) (C := RX5) (T := TX5) (N := 4) rfl 2 (by decide) (hts _ wA_117) rfl dX5_putAllAnew_4 ?_
  rcases wif_e hf with ⟨hq1, hf⟩ | ⟨hq1, hf⟩
  · refine lv_icmp_ge (tgt := 25) hx hb dX5_putAllAnew_7 (by decide) (fun _ => ?_) (fun h => absurd hq1 h)
    have hres := Option.some.inj hf
    subst hres
    exact W.vret hx hb hr (wr_q hG hV hZ hW hS) hS.2.2 dX5_putAllAnew_25
  · refine lv_icmp_ge (tgt := 25) hx hb dX5_putAllAnew_7 (by decide) (fun h => absurd h hq1) (fun _ => ?_)
    refine lv_aload_n hx hb dX5_putAllAnew_10 rfl (lv_at hl 0 rfl) ?_
    refine wm_get hx hb hts wu_X5 hown hV hW (wlt_4 hky0) (wen_4 hky0) (C := RX5) (T := TX5) (N := 4) rfl 0 (by decide) (hts _ wA_109) rfl dX5_putAllAnew_11 ?_
    refine lv_iload_n hx hb dX5_putAllAnew_14 rfl (lv_at hl 1 rfl) ?_
    obtain ⟨hi2, hf⟩ := wgi_e hf
    refine wm_aldL hx hb hV hW (wk4_1 hky0) hi2 dX5_putAllAnew_15 ?_
    obtain ⟨M5, hc3, hf⟩ := wbind_e hf
    refine wc_V (As := []) (rest := []) hx hb hml hown hts hG hV hZ (wlt_0 (wk22_i (wk4_1 hky0) hi2)) (q := (RX1, TX1, 5)) (wen_0 (wk22_i (wk4_1 hky0) hi2)) rfl (cX1_putAnew_ok l E M ((ky0 + 1) + 2 + Int32.toNatClampNeg y1) (wk22_i (wk4_1 hky0) hi2) hc3) (cwV 0 hts gl_X5_124 rfl rfl rfl cdX1_putAnew ⟨Nat.le_of_ble_eq_true rfl, Nat.le_of_ble_eq_true rfl⟩) rfl hl.1 rfl (Nat.le_of_ble_eq_true rfl) dX5_putAllAnew_16 ⟨Nat.zero_le _, Nat.zero_le _⟩ hW hS rfl (fun H locs hW hS => ?_)
    obtain ⟨x6, ex6, hf⟩ := wlet_e hf
    refine lv_iinc (v := x6) (lv' := [(1, .int x6), (0, .ref (wad E ky0))]) hx hb dX5_putAllAnew_19 hl (k := 1) rfl (by rw [ex6]; rfl) (by decide) rfl (fun ls hl => ?_)
    refine lv_goto (tgt := 2) hx hb dX5_putAllAnew_22 (by decide) ?_
    exact hrec2 x6 M5 hf _ _ _ hW hS (lv_sub hl [1, 0] rfl)
set_option maxRecDepth 100000 in
set_option maxHeartbeats 4000000 in
theorem pX5_putAllAnew_2 (B : wB E p s m args meth c cX5_putAllAnew 2 RX5 none) {M : wMem} {ky0 : Nat} {y1 : Int32}  {res : wMem} (hky0 : wkd ky0 = 4)  (hf : fX5_putAllAnew_2 M  ky0 y1 = some res) {H : Heap} {locs : List Loc} {ls : Array Slot} (hW : wH E M H) (hS : va_S (wA E) s.heap H locs) (hl : lv_has ls 2 [(0, .ref (wad E ky0)), (1, .int y1)]) : W p l e ({ frames := 1, cells := 0, slots := 0, locals := 20 } : Room) s m args below meth c H locs 0 0 (MQ below (wQ E none res) args s 0 0 (wA E)) (F0 m 2 ls []) := by
  have key := wloop_W (b := (fun rec2 t => fX5_putAllAnew_2_b t.2  rec2 ky0 t.1)) (P := fun t => ∀ (H : Heap) (locs : List Loc) (ls : Array Slot), wH E t.2 H → va_S (wA E) s.heap H locs → lv_has ls 2 [(0, .ref (wad E ky0)), (1, .int t.1)] → W p l e ({ frames := 1, cells := 0, slots := 0, locals := 20 } : Room) s m args below meth c H locs 0 0 (MQ below (wQ E none res) args s 0 0 (wA E)) (F0 m 2 ls [])) (r := res) (fun rec hrec t hf H locs ls hW hS hl => pX5_putAllAnew_2_b B hky0  (fun v0 v1 hf H locs ls hW hS hl => hrec (v0, v1) hf H locs ls hW hS hl) hf hW hS hl)
  exact key wfuel (y1, M) hf H locs ls hW hS hl
set_option maxRecDepth 100000 in
set_option maxHeartbeats 4000000 in
theorem pX5_putAllAnew (B : wB E p s m args meth c cX5_putAllAnew 2 RX5 none) {M : wMem} {k0 : Nat} (hk0 : wkd k0 = 4) {res : wMem} (hf : fX5_putAllAnew M k0 = some res) {H : Heap} {locs : List Loc} {ls : Array Slot} (hW : wH E M H) (hS : va_S (wA E) s.heap H locs) (hl : lv_has ls 2 [(0, .ref (wad E k0))]) : W p l e ({ frames := 1, cells := 0, slots := 0, locals := 20 } : Room) s m args below meth c H locs 0 0 (MQ below (wQ E none res) args s 0 0 (wA E)) (F0 m 0 ls []) := by
  unfold fX5_putAllAnew at hf
  obtain ⟨hx, hb, hr, hml, hown, hts, hlocks, hG, hV, hZ⟩ := id B
  refine lv_iconst (v := 0) hx hb dX5_putAllAnew_0 rfl ?_
  refine lv_istore_n (lv' := [(1, .int 0), (0, .ref (wad E k0))]) hx hb dX5_putAllAnew_1 rfl hl (by decide) rfl (fun ls hl => ?_)
  exact pX5_putAllAnew_2 B hk0  hf hW hS (lv_sub hl [1, 0] rfl)
theorem cX5_putAllAnew_ok (l : Launch) (E : wE) (M : wMem) (k0 : Nat) (hk0 : wkd k0 = 4) {res : wMem} (hf : fX5_putAllAnew M k0 = some res) : wMet l yX5_putAllAnew (wsM yX5_putAllAnew cX5_putAllAnew 2 none) ({ frames := 1, cells := 0, slots := 0, locals := 20 } : Room) E M [.ref (wad E k0)] none res :=
  wc_of (cc := cX5_putAllAnew) (maxL := 2) (ret := none) (by decide) (Nat.le_of_ble_eq_true rfl) (fun _ _ _ _ _ _ _ _ B hW hl => pX5_putAllAnew B hk0 hf hW va_S.rf hl)
end
theorem cdX4_staysLive : yX4_staysLive.cls = RX4 ∧ yX4_staysLive.cls ≠ "java/lang/invoke/MethodHandle" ∧ yX4_staysLive.cls ≠ "java/lang/invoke/VarHandle" ∧ (parseMethodDescriptor yX4_staysLive.desc).map (fun d => d.parameters.length) = some 1 := by decide +kernel
section
variable {p : Program} {l : Launch} {e : Env} {s : State} {m : MethodId} {args : Array Value} {below : List Frame} {meth : Method} {c : Code} {E : wE}
set_option maxRecDepth 100000 in
set_option maxHeartbeats 4000000 in
theorem pX4_staysLive_23 (B : wB E p s m args meth c cX4_staysLive 4 RX4 (some .boolean)) {M : wMem} {y1 : Int32} {y2 : Int32} {y3 : Int32} {rec4 : (Int32 × Int32 × wMem → Option (Bool × wMem))} {res : Bool × wMem}  (hrec4 : ∀ (y2' : Int32) (y3' : Int32) (M' : wMem), rec4 (y2', y3', M') = some res → ∀ (H : Heap) (locs : List Loc) (ls : Array Slot), wH E M' H → va_S (wA E) s.heap H locs → lv_has ls 4 [(0, .ref (wad E 31)), (1, .int y1), (2, .int y2'), (3, .int y3')] → W p l e ({ frames := 4, cells := 0, slots := 0, locals := 89 } : Room) s m args below meth c H locs 0 0 (MQ below (wQ E (some (.int (wb res.1))) res.2) args s 0 0 (wA E)) (F0 m 4 ls [])) (hf : fX4_staysLive_23 M rec4 y1 y2 y3 = some res) {H : Heap} {locs : List Loc} {ls : Array Slot} (hW : wH E M H) (hS : va_S (wA E) s.heap H locs) (hl : lv_has ls 4 [(0, .ref (wad E 31)), (1, .int y1), (2, .int y2), (3, .int y3)]) : W p l e ({ frames := 4, cells := 0, slots := 0, locals := 89 } : Room) s m args below meth c H locs 0 0 (MQ below (wQ E (some (.int (wb res.1))) res.2) args s 0 0 (wA E)) (F0 m 23 ls []) := by
  unfold fX4_staysLive_23 at hf
  obtain ⟨hx, hb, hr, hml, hown, hts, hlocks, hG, hV, hZ⟩ := id B
  refine lv_aload_n hx hb dX4_staysLive_23 rfl (lv_at hl 0 rfl) ?_
  refine wm_get hx hb hts wu_X4 hown hV hW (wlt_3 (rfl : wkd 31 = 3)) (wen_3 (rfl : wkd 31 = 3)) (C := RX4) (T := TX4) (N := 1) rfl 0 (by decide) (hts _ wA_141) rfl dX4_staysLive_24 ?_
  obtain ⟨r4, hc3, hf⟩ := wbind_e hf
  refine wc_V (As := []) (rest := []) hx hb hml hown hts hG hV hZ (wlt_4 (rfl : wkd 32 = 4)) (q := (RX5, TX5, 4)) (wen_4 (rfl : wkd 32 = 4)) rfl (cX5_isLive_ok l E M 32 (rfl : wkd 32 = 4) hc3) (cwV 0 hts gl_X4_26 rfl rfl rfl cdX5_isLive ⟨Nat.le_of_ble_eq_true rfl, Nat.le_of_ble_eq_true rfl⟩) rfl hl.1 rfl (Nat.le_of_ble_eq_true rfl) dX4_staysLive_27 ⟨Nat.zero_le _, Nat.zero_le _⟩ hW hS rfl (fun H locs hW hS => ?_)
  rcases wif_e hf with ⟨hq5, hf⟩ | ⟨hq5, hf⟩
  · refine lv_if_ne (tgt := 35) hx hb dX4_staysLive_30 (by decide) (fun h => absurd hq5 h) (fun _ => ?_)
    refine lv_iconst (v := 0) hx hb dX4_staysLive_33 rfl ?_
    have hres := Option.some.inj hf
    subst hres
    exact W.zret hx hb hr (wb_n false) (wr_q hG hV hZ hW hS) hS.2.2 dX4_staysLive_34
  · refine lv_if_ne (tgt := 35) hx hb dX4_staysLive_30 (by decide) (fun _ => ?_) (fun h => absurd h hq5)
    refine lv_aload_n hx hb dX4_staysLive_35 rfl (lv_at hl 0 rfl) ?_
    refine wm_get hx hb hts wu_X4 hown hV hW (wlt_3 (rfl : wkd 31 = 3)) (wen_3 (rfl : wkd 31 = 3)) (C := RX4) (T := TX4) (N := 1) rfl 0 (by decide) (hts _ wA_141) rfl dX4_staysLive_36 ?_
    obtain ⟨r7, M8, hc6, hf⟩ := wbind_p hf
    refine wc_V (As := []) (rest := []) hx hb hml hown hts hG hV hZ (wlt_4 (rfl : wkd 32 = 4)) (q := (RX5, TX5, 4)) (wen_4 (rfl : wkd 32 = 4)) rfl (cX5_passHour_ok l E M 32 (rfl : wkd 32 = 4) hc6) (cwV 0 hts gl_X4_30 rfl rfl rfl cdX5_passHour ⟨Nat.le_of_ble_eq_true rfl, Nat.le_of_ble_eq_true rfl⟩) rfl hl.1 rfl (Nat.le_of_ble_eq_true rfl) dX4_staysLive_39 ⟨Nat.zero_le _, Nat.zero_le _⟩ hW hS rfl (fun H locs hW hS => ?_)
    refine lv_pop hx hb dX4_staysLive_42 rfl ?_
    obtain ⟨x9, ex9, hf⟩ := wlet_e hf
    refine lv_iinc (v := x9) (lv' := [(2, .int x9), (0, .ref (wad E 31)), (1, .int y1), (3, .int y3)]) hx hb dX4_staysLive_43 hl (k := 2) rfl (by rw [ex9]; rfl) (by decide) rfl (fun ls hl => ?_)
    obtain ⟨x10, ex10, hf⟩ := wlet_e hf
    refine lv_iinc (v := x10) (lv' := [(3, .int x10), (2, .int x9), (0, .ref (wad E 31)), (1, .int y1)]) hx hb dX4_staysLive_46 hl (k := 3) rfl (by rw [ex10]; rfl) (by decide) rfl (fun ls hl => ?_)
    refine lv_goto (tgt := 4) hx hb dX4_staysLive_49 (by decide) ?_
    exact hrec4 x9 x10 M8 hf _ _ _ hW hS (lv_sub hl [2, 3, 1, 0] rfl)
set_option maxRecDepth 100000 in
set_option maxHeartbeats 4000000 in
theorem pX4_staysLive_4_b (B : wB E p s m args meth c cX4_staysLive 4 RX4 (some .boolean)) {M : wMem} {y1 : Int32} {y2 : Int32} {y3 : Int32}  {rec4 : (Int32 × Int32 × wMem → Option (Bool × wMem))} {res : Bool × wMem}   (hrec4 : ∀ (y2' : Int32) (y3' : Int32) (M' : wMem), rec4 (y2', y3', M') = some res → ∀ (H : Heap) (locs : List Loc) (ls : Array Slot), wH E M' H → va_S (wA E) s.heap H locs → lv_has ls 4 [(0, .ref (wad E 31)), (1, .int y1), (2, .int y2'), (3, .int y3')] → W p l e ({ frames := 4, cells := 0, slots := 0, locals := 89 } : Room) s m args below meth c H locs 0 0 (MQ below (wQ E (some (.int (wb res.1))) res.2) args s 0 0 (wA E)) (F0 m 4 ls [])) (hf : fX4_staysLive_4_b M  rec4 y1 y2 y3 = some res) {H : Heap} {locs : List Loc} {ls : Array Slot} (hW : wH E M H) (hS : va_S (wA E) s.heap H locs) (hl : lv_has ls 4 [(0, .ref (wad E 31)), (1, .int y1), (2, .int y2), (3, .int y3)]) : W p l e ({ frames := 4, cells := 0, slots := 0, locals := 89 } : Room) s m args below meth c H locs 0 0 (MQ below (wQ E (some (.int (wb res.1))) res.2) args s 0 0 (wA E)) (F0 m 4 ls []) := by
  unfold fX4_staysLive_4_b at hf
  obtain ⟨hx, hb, hr, hml, hown, hts, hlocks, hG, hV, hZ⟩ := id B
  refine lv_iload_n hx hb dX4_staysLive_4 rfl (lv_at hl 3 rfl) ?_
  refine lv_bipush (v := 60) hx hb dX4_staysLive_5 (by decide) ?_
  rcases wif_e hf with ⟨hq1, hf⟩ | ⟨hq1, hf⟩
  · refine lv_icmp_ge (tgt := 52) hx hb dX4_staysLive_7 (by decide) (fun _ => ?_) (fun h => absurd hq1 h)
    refine lv_iconst (v := 1) hx hb dX4_staysLive_52 rfl ?_
    have hres := Option.some.inj hf
    subst hres
    exact W.zret hx hb hr (wb_n true) (wr_q hG hV hZ hW hS) hS.2.2 dX4_staysLive_53
  · refine lv_icmp_ge (tgt := 52) hx hb dX4_staysLive_7 (by decide) (fun h => absurd h hq1) (fun _ => ?_)
    refine lv_iload_n hx hb dX4_staysLive_10 rfl (lv_at hl 2 rfl) ?_
    rcases wif_e hf with ⟨hq2, hf⟩ | ⟨hq2, hf⟩
    · refine lv_if_ne (tgt := 23) hx hb dX4_staysLive_11 (by decide) (fun h => absurd hq2 h) (fun _ => ?_)
      refine lv_aload_n hx hb dX4_staysLive_14 rfl (lv_at hl 0 rfl) ?_
      refine wm_get hx hb hts wu_X4 hown hV hW (wlt_3 (rfl : wkd 31 = 3)) (wen_3 (rfl : wkd 31 = 3)) (C := RX4) (T := TX4) (N := 1) rfl 0 (by decide) (hts _ wA_141) rfl dX4_staysLive_15 ?_
      obtain ⟨M13, hc11, hf⟩ := wbind_e hf
      refine wc_V (As := []) (rest := []) hx hb hml hown hts hG hV hZ (wlt_4 (rfl : wkd 32 = 4)) (q := (RX5, TX5, 4)) (wen_4 (rfl : wkd 32 = 4)) rfl (cX5_putAllAnew_ok l E M 32 (rfl : wkd 32 = 4) hc11) (cwV 0 hts gl_X4_65 rfl rfl rfl cdX5_putAllAnew ⟨Nat.le_of_ble_eq_true rfl, Nat.le_of_ble_eq_true rfl⟩) rfl hl.1 rfl (Nat.le_of_ble_eq_true rfl) dX4_staysLive_18 ⟨Nat.zero_le _, Nat.zero_le _⟩ hW hS rfl (fun H locs hW hS => ?_)
      refine lv_iload_n hx hb dX4_staysLive_21 rfl (lv_at hl 1 rfl) ?_
      refine lv_istore_n (lv' := [(2, .int y1), (0, .ref (wad E 31)), (1, .int y1), (3, .int y3)]) hx hb dX4_staysLive_22 rfl hl (by decide) rfl (fun ls hl => ?_)
      exact pX4_staysLive_23 B  hrec4 hf hW hS (lv_sub hl [1, 2, 0, 3] rfl)
    · refine lv_if_ne (tgt := 23) hx hb dX4_staysLive_11 (by decide) (fun _ => ?_) (fun h => absurd h hq2)
      exact pX4_staysLive_23 B  hrec4 hf hW hS (lv_sub hl [0, 1, 2, 3] rfl)
set_option maxRecDepth 100000 in
set_option maxHeartbeats 4000000 in
theorem pX4_staysLive_4 (B : wB E p s m args meth c cX4_staysLive 4 RX4 (some .boolean)) {M : wMem} {y1 : Int32} {y2 : Int32} {y3 : Int32}  {res : Bool × wMem}   (hf : fX4_staysLive_4 M  y1 y2 y3 = some res) {H : Heap} {locs : List Loc} {ls : Array Slot} (hW : wH E M H) (hS : va_S (wA E) s.heap H locs) (hl : lv_has ls 4 [(0, .ref (wad E 31)), (1, .int y1), (2, .int y2), (3, .int y3)]) : W p l e ({ frames := 4, cells := 0, slots := 0, locals := 89 } : Room) s m args below meth c H locs 0 0 (MQ below (wQ E (some (.int (wb res.1))) res.2) args s 0 0 (wA E)) (F0 m 4 ls []) := by
  have key := wloop_W (b := (fun rec4 t => fX4_staysLive_4_b t.2.2  rec4 y1 t.1 t.2.1)) (P := fun t => ∀ (H : Heap) (locs : List Loc) (ls : Array Slot), wH E t.2.2 H → va_S (wA E) s.heap H locs → lv_has ls 4 [(0, .ref (wad E 31)), (1, .int y1), (2, .int t.1), (3, .int t.2.1)] → W p l e ({ frames := 4, cells := 0, slots := 0, locals := 89 } : Room) s m args below meth c H locs 0 0 (MQ below (wQ E (some (.int (wb res.1))) res.2) args s 0 0 (wA E)) (F0 m 4 ls [])) (r := res) (fun rec hrec t hf H locs ls hW hS hl => pX4_staysLive_4_b B   (fun v0 v1 v2 hf H locs ls hW hS hl => hrec (v0, v1, v2) hf H locs ls hW hS hl) hf hW hS hl)
  exact key wfuel (y2, y3, M) hf H locs ls hW hS hl
set_option maxRecDepth 100000 in
set_option maxHeartbeats 4000000 in
theorem pX4_staysLive (B : wB E p s m args meth c cX4_staysLive 4 RX4 (some .boolean)) {M : wMem} {a1 : Int32}  {res : Bool × wMem} (hf : fX4_staysLive M a1 = some res) {H : Heap} {locs : List Loc} {ls : Array Slot} (hW : wH E M H) (hS : va_S (wA E) s.heap H locs) (hl : lv_has ls 4 [(0, .ref (wad E 31)), (1, .int a1)]) : W p l e ({ frames := 4, cells := 0, slots := 0, locals := 89 } : Room) s m args below meth c H locs 0 0 (MQ below (wQ E (some (.int (wb res.1))) res.2) args s 0 0 (wA E)) (F0 m 0 ls []) := by
  unfold fX4_staysLive at hf
  obtain ⟨hx, hb, hr, hml, hown, hts, hlocks, hG, hV, hZ⟩ := id B
  refine lv_iconst (v := 0) hx hb dX4_staysLive_0 rfl ?_
  refine lv_istore_n (lv' := [(2, .int 0), (0, .ref (wad E 31)), (1, .int a1)]) hx hb dX4_staysLive_1 rfl hl (by decide) rfl (fun ls hl => ?_)
  refine lv_iconst (v := 0) hx hb dX4_staysLive_2 rfl ?_
  refine lv_istore_n (lv' := [(3, .int 0), (2, .int 0), (0, .ref (wad E 31)), (1, .int a1)]) hx hb dX4_staysLive_3 rfl hl (by decide) rfl (fun ls hl => ?_)
  exact pX4_staysLive_4 B   hf hW hS (lv_sub hl [2, 3, 1, 0] rfl)
theorem cX4_staysLive_ok (l : Launch) (E : wE) (M : wMem) (a1 : Int32) {res : Bool × wMem} (hf : fX4_staysLive M a1 = some res) : wMet l yX4_staysLive (wsM yX4_staysLive cX4_staysLive 4 (some .boolean)) ({ frames := 4, cells := 0, slots := 0, locals := 89 } : Room) E M [.ref (wad E 31), .int a1] (some (.int (wb res.1))) res.2 :=
  wc_of (cc := cX4_staysLive) (maxL := 4) (ret := (some .boolean)) (by decide) (Nat.le_of_ble_eq_true rfl) (fun _ _ _ _ _ _ _ _ B hW hl => pX4_staysLive B  hf hW va_S.rf hl)
end
