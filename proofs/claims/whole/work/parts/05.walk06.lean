theorem cdX10_doesHang : yX10_doesHang.cls = RX10 ∧ yX10_doesHang.cls ≠ "java/lang/invoke/MethodHandle" ∧ yX10_doesHang.cls ≠ "java/lang/invoke/VarHandle" ∧ (parseMethodDescriptor yX10_doesHang.desc).map (fun d => d.parameters.length) = some 1 := by decide +kernel
section
variable {p : Program} {l : Launch} {e : Env} {s : State} {m : MethodId} {args : Array Value} {below : List Frame} {meth : Method} {c : Code} {E : wE}
set_option maxRecDepth 100000 in
set_option maxHeartbeats 4000000 in
theorem pX10_doesHang_53 (B : wB E p s m args meth c cX10_doesHang 2 RX10 (some .boolean)) {M : wMem}   {res : Bool}   (hf : fX10_doesHang_53 M   = some res) {H : Heap} {locs : List Loc} {ls : Array Slot} (hW : wH E M H) (hS : va_S (wA E) s.heap H locs) (hl : lv_has ls 2 []) : W p l e ({ frames := 0, cells := 0, slots := 0, locals := 0 } : Room) s m args below meth c H locs 0 0 (MQ below (wQ E (some (.int (wb res))) M) args s 0 0 (wA E)) (F0 m 53 ls []) := by
  unfold fX10_doesHang_53 at hf
  obtain ⟨hx, hb, hr, hml, hown, hts, hlocks, hG, hV, hZ⟩ := id B
  refine lv_iconst (v := 1) hx hb dX10_doesHang_53 rfl ?_
  refine lv_goto (tgt := 58) hx hb dX10_doesHang_54 (by decide) ?_
  have hres := Option.some.inj hf
  subst hres
  exact W.zret hx hb hr (wb_n true) (wr_q hG hV hZ hW hS) hS.2.2 dX10_doesHang_58
set_option maxRecDepth 100000 in
set_option maxHeartbeats 4000000 in
theorem pX10_doesHang_26 (B : wB E p s m args meth c cX10_doesHang 2 RX10 (some .boolean)) {M : wMem} {y1 : Int32}  {res : Bool}   (hf : fX10_doesHang_26 M  y1 = some res) {H : Heap} {locs : List Loc} {ls : Array Slot} (hW : wH E M H) (hS : va_S (wA E) s.heap H locs) (hl : lv_has ls 2 [(0, .ref (wad E 70)), (1, .int y1)]) : W p l e ({ frames := 0, cells := 0, slots := 0, locals := 0 } : Room) s m args below meth c H locs 0 0 (MQ below (wQ E (some (.int (wb res))) M) args s 0 0 (wA E)) (F0 m 26 ls []) := by
  unfold fX10_doesHang_26 at hf
  obtain ⟨hx, hb, hr, hml, hown, hts, hlocks, hG, hV, hZ⟩ := id B
  refine lv_aload_n hx hb dX10_doesHang_26 rfl (lv_at hl 0 rfl) ?_
  refine wm_get hx hb hts wu_X10 hown hV hW (wlt_9 (rfl : wkd 70 = 9)) (wen_9 (rfl : wkd 70 = 9)) (C := RX10) (T := TX10) (N := 31) rfl 1 (by decide) (hts _ wA_715) rfl dX10_doesHang_27 ?_
  refine lv_iload_n hx hb dX10_doesHang_30 rfl (lv_at hl 1 rfl) ?_
  obtain ⟨hi3, hf⟩ := wgi_e hf
  refine wm_iald hx hb hV hW (rfl : wkd 72 = 21) (n := 12) rfl hi3 dX10_doesHang_31 ?_
  refine lv_iconst (v := 3) hx hb dX10_doesHang_32 rfl ?_
  rcases wif_e hf with ⟨hq4, hf⟩ | ⟨hq4, hf⟩
  · refine lv_icmp_ne (tgt := 57) hx hb dX10_doesHang_33 (by decide) (fun h => absurd hq4 h) (fun _ => ?_)
    refine lv_aload_n hx hb dX10_doesHang_36 rfl (lv_at hl 0 rfl) ?_
    refine wm_get hx hb hts wu_X10 hown hV hW (wlt_9 (rfl : wkd 70 = 9)) (wen_9 (rfl : wkd 70 = 9)) (C := RX10) (T := TX10) (N := 31) rfl 8 (by decide) (hts _ wA_722) rfl dX10_doesHang_37 ?_
    refine lv_iconst (v := 5) hx hb dX10_doesHang_40 rfl ?_
    obtain ⟨hz5, hf⟩ := wgz_e hf
    refine lv_irem hx hb dX10_doesHang_41 hz5 ?_
    refine lv_aload_n hx hb dX10_doesHang_42 rfl (lv_at hl 0 rfl) ?_
    refine wm_get hx hb hts wu_X10 hown hV hW (wlt_9 (rfl : wkd 70 = 9)) (wen_9 (rfl : wkd 70 = 9)) (C := RX10) (T := TX10) (N := 31) rfl 6 (by decide) (hts _ wA_720) rfl dX10_doesHang_43 ?_
    refine lv_iconst (v := 3) hx hb dX10_doesHang_46 rfl ?_
    obtain ⟨hi6, hf⟩ := wgi_e hf
    refine wm_iald hx hb hV hW (rfl : wkd 77 = 21) (n := 4) rfl hi6 dX10_doesHang_47 ?_
    refine lv_iconst (v := 5) hx hb dX10_doesHang_48 rfl ?_
    obtain ⟨hz7, hf⟩ := wgz_e hf
    refine lv_irem hx hb dX10_doesHang_49 hz7 ?_
    rcases wif_e hf with ⟨hq8, hf⟩ | ⟨hq8, hf⟩
    · refine lv_icmp_ne (tgt := 57) hx hb dX10_doesHang_50 (by decide) (fun h => absurd hq8 h) (fun _ => ?_)
      exact pX10_doesHang_53 B   hf hW hS (lv_sub hl [] rfl)
    · refine lv_icmp_ne (tgt := 57) hx hb dX10_doesHang_50 (by decide) (fun _ => ?_) (fun h => absurd h hq8)
      refine lv_iconst (v := 0) hx hb dX10_doesHang_57 rfl ?_
      have hres := Option.some.inj hf
      subst hres
      exact W.zret hx hb hr (wb_n false) (wr_q hG hV hZ hW hS) hS.2.2 dX10_doesHang_58
  · refine lv_icmp_ne (tgt := 57) hx hb dX10_doesHang_33 (by decide) (fun _ => ?_) (fun h => absurd h hq4)
    refine lv_iconst (v := 0) hx hb dX10_doesHang_57 rfl ?_
    have hres := Option.some.inj hf
    subst hres
    exact W.zret hx hb hr (wb_n false) (wr_q hG hV hZ hW hS) hS.2.2 dX10_doesHang_58
set_option maxRecDepth 100000 in
set_option maxHeartbeats 4000000 in
theorem pX10_doesHang (B : wB E p s m args meth c cX10_doesHang 2 RX10 (some .boolean)) {M : wMem} {a1 : Int32}  {res : Bool} (hf : fX10_doesHang M a1 = some res) {H : Heap} {locs : List Loc} {ls : Array Slot} (hW : wH E M H) (hS : va_S (wA E) s.heap H locs) (hl : lv_has ls 2 [(0, .ref (wad E 70)), (1, .int a1)]) : W p l e ({ frames := 0, cells := 0, slots := 0, locals := 0 } : Room) s m args below meth c H locs 0 0 (MQ below (wQ E (some (.int (wb res))) M) args s 0 0 (wA E)) (F0 m 0 ls []) := by
  unfold fX10_doesHang at hf
  obtain ⟨hx, hb, hr, hml, hown, hts, hlocks, hG, hV, hZ⟩ := id B
  refine lv_aload_n hx hb dX10_doesHang_0 rfl (lv_at hl 0 rfl) ?_
  refine wm_get hx hb hts wu_X10 hown hV hW (wlt_9 (rfl : wkd 70 = 9)) (wen_9 (rfl : wkd 70 = 9)) (C := RX10) (T := TX10) (N := 31) rfl 1 (by decide) (hts _ wA_715) rfl dX10_doesHang_1 ?_
  refine lv_iload_n hx hb dX10_doesHang_4 rfl (lv_at hl 1 rfl) ?_
  obtain ⟨hi1, hf⟩ := wgi_e hf
  refine wm_iald hx hb hV hW (rfl : wkd 72 = 21) (n := 12) rfl hi1 dX10_doesHang_5 ?_
  refine lv_iconst (v := 2) hx hb dX10_doesHang_6 rfl ?_
  rcases wif_e hf with ⟨hq2, hf⟩ | ⟨hq2, hf⟩
  · refine lv_icmp_ne (tgt := 26) hx hb dX10_doesHang_7 (by decide) (fun h => absurd hq2 h) (fun _ => ?_)
    refine lv_aload_n hx hb dX10_doesHang_10 rfl (lv_at hl 0 rfl) ?_
    refine wm_get hx hb hts wu_X10 hown hV hW (wlt_9 (rfl : wkd 70 = 9)) (wen_9 (rfl : wkd 70 = 9)) (C := RX10) (T := TX10) (N := 31) rfl 8 (by decide) (hts _ wA_722) rfl dX10_doesHang_11 ?_
    refine lv_bipush (v := 10) hx hb dX10_doesHang_14 (by decide) ?_
    obtain ⟨hz9, hf⟩ := wgz_e hf
    refine lv_irem hx hb dX10_doesHang_16 hz9 ?_
    refine lv_aload_n hx hb dX10_doesHang_17 rfl (lv_at hl 0 rfl) ?_
    refine wm_get hx hb hts wu_X10 hown hV hW (wlt_9 (rfl : wkd 70 = 9)) (wen_9 (rfl : wkd 70 = 9)) (C := RX10) (T := TX10) (N := 31) rfl 6 (by decide) (hts _ wA_720) rfl dX10_doesHang_18 ?_
    refine lv_iconst (v := 3) hx hb dX10_doesHang_21 rfl ?_
    obtain ⟨hi10, hf⟩ := wgi_e hf
    refine wm_iald hx hb hV hW (rfl : wkd 77 = 21) (n := 4) rfl hi10 dX10_doesHang_22 ?_
    rcases wif_e hf with ⟨hq11, hf⟩ | ⟨hq11, hf⟩
    · refine lv_icmp_eq (tgt := 53) hx hb dX10_doesHang_23 (by decide) (fun _ => ?_) (fun h => absurd hq11 h)
      exact pX10_doesHang_53 B   hf hW hS (lv_sub hl [] rfl)
    · refine lv_icmp_eq (tgt := 53) hx hb dX10_doesHang_23 (by decide) (fun h => absurd h hq11) (fun _ => ?_)
      exact pX10_doesHang_26 B   hf hW hS (lv_sub hl [0, 1] rfl)
  · refine lv_icmp_ne (tgt := 26) hx hb dX10_doesHang_7 (by decide) (fun _ => ?_) (fun h => absurd h hq2)
    exact pX10_doesHang_26 B   hf hW hS (lv_sub hl [0, 1] rfl)
theorem cX10_doesHang_ok (l : Launch) (E : wE) (M : wMem) (a1 : Int32) {res : Bool} (hf : fX10_doesHang M a1 = some res) : wMet l yX10_doesHang (wsM yX10_doesHang cX10_doesHang 2 (some .boolean)) ({ frames := 0, cells := 0, slots := 0, locals := 0 } : Room) E M [.ref (wad E 70), .int a1] (some (.int (wb res))) M :=
  wc_of (cc := cX10_doesHang) (maxL := 2) (ret := (some .boolean)) (by decide) (Nat.le_of_ble_eq_true rfl) (fun _ _ _ _ _ _ _ _ B hW hl => pX10_doesHang B  hf hW va_S.rf hl)
end
theorem cdX10_goesHour : yX10_goesHour.cls = RX10 ∧ yX10_goesHour.cls ≠ "java/lang/invoke/MethodHandle" ∧ yX10_goesHour.cls ≠ "java/lang/invoke/VarHandle" ∧ (parseMethodDescriptor yX10_goesHour.desc).map (fun d => d.parameters.length) = some 0 := by decide +kernel
section
variable {p : Program} {l : Launch} {e : Env} {s : State} {m : MethodId} {args : Array Value} {below : List Frame} {meth : Method} {c : Code} {E : wE}
set_option maxRecDepth 100000 in
set_option maxHeartbeats 4000000 in
theorem pX10_goesHour_203 (B : wB E p s m args meth c cX10_goesHour 5 RX10 (some .int)) {M : wMem} {y1 : Int32} {y2 : Int32} {y3 : Int32} {y4 : Int32} {rec58 : (Int32 × Int32 × wMem → Option (Int32 × wMem))} {res : Int32 × wMem}  (hrec58 : ∀ (y3' : Int32) (y4' : Int32) (M' : wMem), rec58 (y3', y4', M') = some res → ∀ (H : Heap) (locs : List Loc) (ls : Array Slot), wH E M' H → va_S (wA E) s.heap H locs → lv_has ls 5 [(0, .ref (wad E 70)), (1, .int y1), (2, .int y2), (3, .int y3'), (4, .int y4')] → W p l e ({ frames := 4, cells := 0, slots := 0, locals := 83 } : Room) s m args below meth c H locs 0 0 (MQ below (wQ E (some (.int res.1)) res.2) args s 0 0 (wA E)) (F0 m 58 ls [])) (hf : fX10_goesHour_203 M rec58 y1 y2 y3 y4 = some res) {H : Heap} {locs : List Loc} {ls : Array Slot} (hW : wH E M H) (hS : va_S (wA E) s.heap H locs) (hl : lv_has ls 5 [(0, .ref (wad E 70)), (1, .int y1), (2, .int y2), (3, .int y3), (4, .int y4)]) : W p l e ({ frames := 4, cells := 0, slots := 0, locals := 83 } : Room) s m args below meth c H locs 0 0 (MQ below (wQ E (some (.int res.1)) res.2) args s 0 0 (wA E)) (F0 m 203 ls []) := by
  unfold fX10_goesHour_203 at hf
  obtain ⟨hx, hb, hr, hml, hown, hts, hlocks, hG, hV, hZ⟩ := id B
  obtain ⟨x23, ex23, hf⟩ := wlet_e hf
  refine lv_iinc (v := x23) (lv' := [(4, .int x23), (0, .ref (wad E 70)), (1, .int y1), (2, .int y2), (3, .int y3)]) hx hb dX10_goesHour_203 hl (k := 4) rfl (by rw [ex23]; rfl) (by decide) rfl (fun ls hl => ?_)
  refine lv_goto (tgt := 58) hx hb dX10_goesHour_206 (by decide) ?_
  exact hrec58 y3 x23 M hf _ _ _ hW hS (lv_sub hl [1, 2, 3, 4, 0] rfl)
set_option maxRecDepth 100000 in
set_option maxHeartbeats 4000000 in
theorem pX10_goesHour_201 (B : wB E p s m args meth c cX10_goesHour 5 RX10 (some .int)) {M : wMem} {y1 : Int32} {y2 : Int32} {y4 : Int32} {z0 : Int32} {z1 : Int32} {rec58 : (Int32 × Int32 × wMem → Option (Int32 × wMem))} {res : Int32 × wMem}  (hrec58 : ∀ (y3' : Int32) (y4' : Int32) (M' : wMem), rec58 (y3', y4', M') = some res → ∀ (H : Heap) (locs : List Loc) (ls : Array Slot), wH E M' H → va_S (wA E) s.heap H locs → lv_has ls 5 [(0, .ref (wad E 70)), (1, .int y1), (2, .int y2), (3, .int y3'), (4, .int y4')] → W p l e ({ frames := 4, cells := 0, slots := 0, locals := 83 } : Room) s m args below meth c H locs 0 0 (MQ below (wQ E (some (.int res.1)) res.2) args s 0 0 (wA E)) (F0 m 58 ls [])) (hf : fX10_goesHour_201 M rec58 y1 y2 y4 z0 z1 = some res) {H : Heap} {locs : List Loc} {ls : Array Slot} (hW : wH E M H) (hS : va_S (wA E) s.heap H locs) (hl : lv_has ls 5 [(0, .ref (wad E 70)), (1, .int y1), (2, .int y2), (4, .int y4)]) : W p l e ({ frames := 4, cells := 0, slots := 0, locals := 83 } : Room) s m args below meth c H locs 0 0 (MQ below (wQ E (some (.int res.1)) res.2) args s 0 0 (wA E)) (F0 m 201 ls [.int z1, .int z0]) := by
  unfold fX10_goesHour_201 at hf
  obtain ⟨hx, hb, hr, hml, hown, hts, hlocks, hG, hV, hZ⟩ := id B
  refine lv_iadd hx hb dX10_goesHour_201 ?_
  refine lv_topi (fun x22 ex22 => ?_)
  replace hf := wlet_y ex22 hf
  refine lv_istore_n (lv' := [(3, .int x22), (0, .ref (wad E 70)), (1, .int y1), (2, .int y2), (4, .int y4)]) hx hb dX10_goesHour_202 rfl hl (by decide) rfl (fun ls hl => ?_)
  exact pX10_goesHour_203 B  hrec58 hf hW hS (lv_sub hl [1, 2, 3, 0, 4] rfl)
set_option maxRecDepth 100000 in
set_option maxHeartbeats 4000000 in
theorem pX10_goesHour_185 (B : wB E p s m args meth c cX10_goesHour 5 RX10 (some .int)) {M : wMem} {y1 : Int32} {y2 : Int32} {y3 : Int32} {y4 : Int32} {rec58 : (Int32 × Int32 × wMem → Option (Int32 × wMem))} {res : Int32 × wMem}  (hrec58 : ∀ (y3' : Int32) (y4' : Int32) (M' : wMem), rec58 (y3', y4', M') = some res → ∀ (H : Heap) (locs : List Loc) (ls : Array Slot), wH E M' H → va_S (wA E) s.heap H locs → lv_has ls 5 [(0, .ref (wad E 70)), (1, .int y1), (2, .int y2), (3, .int y3'), (4, .int y4')] → W p l e ({ frames := 4, cells := 0, slots := 0, locals := 83 } : Room) s m args below meth c H locs 0 0 (MQ below (wQ E (some (.int res.1)) res.2) args s 0 0 (wA E)) (F0 m 58 ls [])) (hf : fX10_goesHour_185 M rec58 y1 y2 y3 y4 = some res) {H : Heap} {locs : List Loc} {ls : Array Slot} (hW : wH E M H) (hS : va_S (wA E) s.heap H locs) (hl : lv_has ls 5 [(0, .ref (wad E 70)), (1, .int y1), (2, .int y2), (3, .int y3), (4, .int y4)]) : W p l e ({ frames := 4, cells := 0, slots := 0, locals := 83 } : Room) s m args below meth c H locs 0 0 (MQ below (wQ E (some (.int res.1)) res.2) args s 0 0 (wA E)) (F0 m 185 ls []) := by
  unfold fX10_goesHour_185 at hf
  obtain ⟨hx, hb, hr, hml, hown, hts, hlocks, hG, hV, hZ⟩ := id B
  refine lv_iload_n hx hb dX10_goesHour_185 rfl (lv_at hl 3 rfl) ?_
  refine lv_aload_n hx hb dX10_goesHour_186 rfl (lv_at hl 0 rfl) ?_
  refine wm_get hx hb hts wu_X10 hown hV hW (wlt_9 (rfl : wkd 70 = 9)) (wen_9 (rfl : wkd 70 = 9)) (C := RX10) (T := TX10) (N := 31) rfl 5 (by decide) (hts _ wA_719) rfl dX10_goesHour_187 ?_
  refine lv_iload hx hb dX10_goesHour_190 (lv_at hl 4 rfl) ?_
  obtain ⟨hi20, hf⟩ := wgi_e hf
  refine wm_iald hx hb hV hW (rfl : wkd 76 = 21) (n := 12) rfl hi20 dX10_goesHour_192 ?_
  rcases wif_e hf with ⟨hq21, hf⟩ | ⟨hq21, hf⟩
  · refine lv_if_ne (tgt := 200) hx hb dX10_goesHour_193 (by decide) (fun h => absurd hq21 h) (fun _ => ?_)
    refine lv_iconst (v := 0) hx hb dX10_goesHour_196 rfl ?_
    refine lv_goto (tgt := 201) hx hb dX10_goesHour_197 (by decide) ?_
    exact pX10_goesHour_201 B  hrec58 hf hW hS (lv_sub hl [0, 1, 2, 4] rfl)
  · refine lv_if_ne (tgt := 200) hx hb dX10_goesHour_193 (by decide) (fun _ => ?_) (fun h => absurd h hq21)
    refine lv_iconst (v := 1) hx hb dX10_goesHour_200 rfl ?_
    exact pX10_goesHour_201 B  hrec58 hf hW hS (lv_sub hl [0, 1, 2, 4] rfl)
set_option maxRecDepth 100000 in
set_option maxHeartbeats 4000000 in
theorem pX10_goesHour_158 (B : wB E p s m args meth c cX10_goesHour 5 RX10 (some .int)) {M : wMem} {y1 : Int32} {y2 : Int32} {y3 : Int32} {y4 : Int32} {rec58 : (Int32 × Int32 × wMem → Option (Int32 × wMem))} {res : Int32 × wMem}  (hrec58 : ∀ (y3' : Int32) (y4' : Int32) (M' : wMem), rec58 (y3', y4', M') = some res → ∀ (H : Heap) (locs : List Loc) (ls : Array Slot), wH E M' H → va_S (wA E) s.heap H locs → lv_has ls 5 [(0, .ref (wad E 70)), (1, .int y1), (2, .int y2), (3, .int y3'), (4, .int y4')] → W p l e ({ frames := 4, cells := 0, slots := 0, locals := 83 } : Room) s m args below meth c H locs 0 0 (MQ below (wQ E (some (.int res.1)) res.2) args s 0 0 (wA E)) (F0 m 58 ls [])) (hf : fX10_goesHour_158 M rec58 y1 y2 y3 y4 = some res) {H : Heap} {locs : List Loc} {ls : Array Slot} (hW : wH E M H) (hS : va_S (wA E) s.heap H locs) (hl : lv_has ls 5 [(0, .ref (wad E 70)), (1, .int y1), (2, .int y2), (3, .int y3), (4, .int y4)]) : W p l e ({ frames := 4, cells := 0, slots := 0, locals := 83 } : Room) s m args below meth c H locs 0 0 (MQ below (wQ E (some (.int res.1)) res.2) args s 0 0 (wA E)) (F0 m 158 ls []) := by
  unfold fX10_goesHour_158 at hf
  obtain ⟨hx, hb, hr, hml, hown, hts, hlocks, hG, hV, hZ⟩ := id B
  refine lv_aload_n hx hb dX10_goesHour_158 rfl (lv_at hl 0 rfl) ?_
  refine wm_get hx hb hts wu_X10 hown hV hW (wlt_9 (rfl : wkd 70 = 9)) (wen_9 (rfl : wkd 70 = 9)) (C := RX10) (T := TX10) (N := 31) rfl 5 (by decide) (hts _ wA_719) rfl dX10_goesHour_159 ?_
  refine lv_iload hx hb dX10_goesHour_162 (lv_at hl 4 rfl) ?_
  obtain ⟨hi18, hf⟩ := wgi_e hf
  refine wm_iald hx hb hV hW (rfl : wkd 76 = 21) (n := 12) rfl hi18 dX10_goesHour_164 ?_
  rcases wif_e hf with ⟨hq19, hf⟩ | ⟨hq19, hf⟩
  · refine lv_if_ne (tgt := 185) hx hb dX10_goesHour_165 (by decide) (fun h => absurd hq19 h) (fun _ => ?_)
    refine lv_aload_n hx hb dX10_goesHour_168 rfl (lv_at hl 0 rfl) ?_
    refine lv_iload hx hb dX10_goesHour_169 (lv_at hl 4 rfl) ?_
    obtain ⟨r25, hc24, hf⟩ := wbind_e hf
    refine wc_V (As := [.int y4]) (rest := []) hx hb hml hown hts hG hV hZ (wlt_9 (rfl : wkd 70 = 9)) (q := (RX10, TX10, 31)) (wen_9 (rfl : wkd 70 = 9)) rfl (cX10_doesHang_ok l E M y4 hc24) (cwV 1 hts gl_X10_186 rfl rfl rfl cdX10_doesHang ⟨Nat.le_of_ble_eq_true rfl, Nat.le_of_ble_eq_true rfl⟩) rfl hl.1 rfl (Nat.le_of_ble_eq_true rfl) dX10_goesHour_171 ⟨Nat.zero_le _, Nat.zero_le _⟩ hW hS rfl (fun H locs hW hS => ?_)
    rcases wif_e hf with ⟨hq26, hf⟩ | ⟨hq26, hf⟩
    · refine lv_if_eq (tgt := 185) hx hb dX10_goesHour_174 (by decide) (fun _ => ?_) (fun h => absurd hq26 h)
      exact pX10_goesHour_185 B  hrec58 hf hW hS (lv_sub hl [0, 1, 2, 3, 4] rfl)
    · refine lv_if_eq (tgt := 185) hx hb dX10_goesHour_174 (by decide) (fun h => absurd h hq26) (fun _ => ?_)
      refine lv_aload_n hx hb dX10_goesHour_177 rfl (lv_at hl 0 rfl) ?_
      refine wm_get hx hb hts wu_X10 hown hV hW (wlt_9 (rfl : wkd 70 = 9)) (wen_9 (rfl : wkd 70 = 9)) (C := RX10) (T := TX10) (N := 31) rfl 5 (by decide) (hts _ wA_719) rfl dX10_goesHour_178 ?_
      refine lv_iload hx hb dX10_goesHour_181 (lv_at hl 4 rfl) ?_
      refine lv_iconst (v := 3) hx hb dX10_goesHour_183 rfl ?_
      obtain ⟨hi27, hf⟩ := wgi_e hf
      refine wm_iast hx hb hG hV hW hS (rfl : wkd 76 = 21) (n := 12) rfl hi27 dX10_goesHour_184 (fun H locs hW hS => ?_)
      obtain ⟨M28, hW, hf⟩ := wlet_M hW hf
      exact pX10_goesHour_185 B  hrec58 hf hW hS (lv_sub hl [0, 1, 2, 3, 4] rfl)
  · refine lv_if_ne (tgt := 185) hx hb dX10_goesHour_165 (by decide) (fun _ => ?_) (fun h => absurd h hq19)
    exact pX10_goesHour_185 B  hrec58 hf hW hS (lv_sub hl [0, 1, 2, 3, 4] rfl)
set_option maxRecDepth 100000 in
set_option maxHeartbeats 4000000 in
theorem pX10_goesHour_157 (B : wB E p s m args meth c cX10_goesHour 5 RX10 (some .int)) {M : wMem} {y1 : Int32} {y2 : Int32} {y3 : Int32} {y4 : Int32} {z1 : Int32} {z2 : Int32} {rec58 : (Int32 × Int32 × wMem → Option (Int32 × wMem))} {res : Int32 × wMem}  (hrec58 : ∀ (y3' : Int32) (y4' : Int32) (M' : wMem), rec58 (y3', y4', M') = some res → ∀ (H : Heap) (locs : List Loc) (ls : Array Slot), wH E M' H → va_S (wA E) s.heap H locs → lv_has ls 5 [(0, .ref (wad E 70)), (1, .int y1), (2, .int y2), (3, .int y3'), (4, .int y4')] → W p l e ({ frames := 4, cells := 0, slots := 0, locals := 83 } : Room) s m args below meth c H locs 0 0 (MQ below (wQ E (some (.int res.1)) res.2) args s 0 0 (wA E)) (F0 m 58 ls [])) (hf : fX10_goesHour_157 M rec58 y1 y2 y3 y4 z1 z2 = some res) {H : Heap} {locs : List Loc} {ls : Array Slot} (hW : wH E M H) (hS : va_S (wA E) s.heap H locs) (hl : lv_has ls 5 [(0, .ref (wad E 70)), (1, .int y1), (2, .int y2), (3, .int y3), (4, .int y4)]) : W p l e ({ frames := 4, cells := 0, slots := 0, locals := 83 } : Room) s m args below meth c H locs 0 0 (MQ below (wQ E (some (.int res.1)) res.2) args s 0 0 (wA E)) (F0 m 157 ls [.int z2, .int z1, .ref (wad E 76)]) := by
  unfold fX10_goesHour_157 at hf
  obtain ⟨hx, hb, hr, hml, hown, hts, hlocks, hG, hV, hZ⟩ := id B
  obtain ⟨hi37, hf⟩ := wgi_e hf
  refine wm_iast hx hb hG hV hW hS (rfl : wkd 76 = 21) (n := 12) rfl hi37 dX10_goesHour_157 (fun H locs hW hS => ?_)
  obtain ⟨M38, hW, hf⟩ := wlet_M hW hf
  exact pX10_goesHour_158 B  hrec58 hf hW hS (lv_sub hl [0, 1, 2, 3, 4] rfl)
set_option maxRecDepth 100000 in
set_option maxHeartbeats 4000000 in
theorem pX10_goesHour_58_b (B : wB E p s m args meth c cX10_goesHour 5 RX10 (some .int)) {M : wMem} {y1 : Int32} {y2 : Int32} {y3 : Int32} {y4 : Int32}  {rec58 : (Int32 × Int32 × wMem → Option (Int32 × wMem))} {res : Int32 × wMem}   (hrec58 : ∀ (y3' : Int32) (y4' : Int32) (M' : wMem), rec58 (y3', y4', M') = some res → ∀ (H : Heap) (locs : List Loc) (ls : Array Slot), wH E M' H → va_S (wA E) s.heap H locs → lv_has ls 5 [(0, .ref (wad E 70)), (1, .int y1), (2, .int y2), (3, .int y3'), (4, .int y4')] → W p l e ({ frames := 4, cells := 0, slots := 0, locals := 83 } : Room) s m args below meth c H locs 0 0 (MQ below (wQ E (some (.int res.1)) res.2) args s 0 0 (wA E)) (F0 m 58 ls [])) (hf : fX10_goesHour_58_b M  rec58 y1 y2 y3 y4 = some res) {H : Heap} {locs : List Loc} {ls : Array Slot} (hW : wH E M H) (hS : va_S (wA E) s.heap H locs) (hl : lv_has ls 5 [(0, .ref (wad E 70)), (1, .int y1), (2, .int y2), (3, .int y3), (4, .int y4)]) : W p l e ({ frames := 4, cells := 0, slots := 0, locals := 83 } : Room) s m args below meth c H locs 0 0 (MQ below (wQ E (some (.int res.1)) res.2) args s 0 0 (wA E)) (F0 m 58 ls []) := by
  unfold fX10_goesHour_58_b at hf
  obtain ⟨hx, hb, hr, hml, hown, hts, hlocks, hG, hV, hZ⟩ := id B
  refine lv_iload hx hb dX10_goesHour_58 (lv_at hl 4 rfl) ?_
  refine lv_aload_n hx hb dX10_goesHour_60 rfl (lv_at hl 0 rfl) ?_
  refine wm_get hx hb hts wu_X10 hown hV hW (wlt_9 (rfl : wkd 70 = 9)) (wen_9 (rfl : wkd 70 = 9)) (C := RX10) (T := TX10) (N := 31) rfl 7 (by decide) (hts _ wA_721) rfl dX10_goesHour_61 ?_
  rcases wif_e hf with ⟨hq7, hf⟩ | ⟨hq7, hf⟩
  · refine lv_icmp_ge (tgt := 209) hx hb dX10_goesHour_64 (by decide) (fun _ => ?_) (fun h => absurd hq7 h)
    refine lv_aload_n hx hb dX10_goesHour_209 rfl (lv_at hl 0 rfl) ?_
    refine lv_dup hx hb dX10_goesHour_210 rfl ?_
    refine wm_get hx hb hts wu_X10 hown hV hW (wlt_9 (rfl : wkd 70 = 9)) (wen_9 (rfl : wkd 70 = 9)) (C := RX10) (T := TX10) (N := 31) rfl 8 (by decide) (hts _ wA_722) rfl dX10_goesHour_211 ?_
    refine lv_iconst (v := 1) hx hb dX10_goesHour_214 rfl ?_
    refine lv_iadd hx hb dX10_goesHour_215 ?_
    refine wm_put hx hb hts wu_X10 tyX10 tyX10_ok nmX10 hown hG hV hW hS (wlt_9 (rfl : wkd 70 = 9)) (wen_9 (rfl : wkd 70 = 9)) (C := RX10) (T := TX10) (N := 31) rfl 8 (by decide) (hts _ wA_722) rfl .int _ (tyX10_ok 8 (by decide)) rfl rfl (Nat.le_of_ble_eq_true rfl) (wpt_9_8 (rfl : wkd 70 = 9)) dX10_goesHour_216 (fun H locs hW hS => ?_)
    obtain ⟨M8, hW, hf⟩ := wlet_M hW hf
    refine lv_iload_n hx hb dX10_goesHour_219 rfl (lv_at hl 3 rfl) ?_
    have hres := Option.some.inj hf
    subst hres
    exact W.iret hx hb hr (wr_q hG hV hZ hW hS) hS.2.2 dX10_goesHour_220
  · refine lv_icmp_ge (tgt := 209) hx hb dX10_goesHour_64 (by decide) (fun h => absurd h hq7) (fun _ => ?_)
    refine lv_aload_n hx hb dX10_goesHour_67 rfl (lv_at hl 0 rfl) ?_
    refine wm_get hx hb hts wu_X10 hown hV hW (wlt_9 (rfl : wkd 70 = 9)) (wen_9 (rfl : wkd 70 = 9)) (C := RX10) (T := TX10) (N := 31) rfl 5 (by decide) (hts _ wA_719) rfl dX10_goesHour_68 ?_
    refine lv_iload hx hb dX10_goesHour_71 (lv_at hl 4 rfl) ?_
    obtain ⟨hi9, hf⟩ := wgi_e hf
    refine wm_iald hx hb hV hW (rfl : wkd 76 = 21) (n := 12) rfl hi9 dX10_goesHour_73 ?_
    rcases wif_e hf with ⟨hq10, hf⟩ | ⟨hq10, hf⟩
    · refine lv_if_eq (tgt := 80) hx hb dX10_goesHour_74 (by decide) (fun _ => ?_) (fun h => absurd hq10 h)
      refine lv_aload_n hx hb dX10_goesHour_80 rfl (lv_at hl 0 rfl) ?_
      refine wm_get hx hb hts wu_X10 hown hV hW (wlt_9 (rfl : wkd 70 = 9)) (wen_9 (rfl : wkd 70 = 9)) (C := RX10) (T := TX10) (N := 31) rfl 4 (by decide) (hts _ wA_718) rfl dX10_goesHour_81 ?_
      refine lv_iload hx hb dX10_goesHour_84 (lv_at hl 4 rfl) ?_
      refine lv_sipush (v := 9999) hx hb dX10_goesHour_86 (by decide) ?_
      refine lv_aload_n hx hb dX10_goesHour_89 rfl (lv_at hl 0 rfl) ?_
      refine wm_get hx hb hts wu_X10 hown hV hW (wlt_9 (rfl : wkd 70 = 9)) (wen_9 (rfl : wkd 70 = 9)) (C := RX10) (T := TX10) (N := 31) rfl 4 (by decide) (hts _ wA_718) rfl dX10_goesHour_90 ?_
      refine lv_iload hx hb dX10_goesHour_93 (lv_at hl 4 rfl) ?_
      obtain ⟨hi11, hf⟩ := wgi_e hf
      refine wm_iald hx hb hV hW (rfl : wkd 75 = 21) (n := 12) rfl hi11 dX10_goesHour_95 ?_
      refine lv_aload_n hx hb dX10_goesHour_96 rfl (lv_at hl 0 rfl) ?_
      refine wm_get hx hb hts wu_X10 hown hV hW (wlt_9 (rfl : wkd 70 = 9)) (wen_9 (rfl : wkd 70 = 9)) (C := RX10) (T := TX10) (N := 31) rfl 20 (by decide) (hts _ wA_734) rfl dX10_goesHour_97 ?_
      refine lv_iload hx hb dX10_goesHour_100 (lv_at hl 4 rfl) ?_
      obtain ⟨hi12, hf⟩ := wgi_e hf
      refine wm_iald hx hb hV hW (rfl : wkd 83 = 21) (n := 12) rfl hi12 dX10_goesHour_102 ?_
      refine lv_iadd hx hb dX10_goesHour_103 ?_
      obtain ⟨r14, hc13, hf⟩ := wbind_e hf
      refine wc_S (As := [.int 9999, .int ((M 75 (Int32.toNatClampNeg y4)) + (M 83 (Int32.toNatClampNeg y4)))]) (rest := [.int y4, .ref (wad E 75)]) hx hb hml hown hts hG hV hZ (cX10_least_ok l E M 9999 ((M 75 (Int32.toNatClampNeg y4)) + (M 83 (Int32.toNatClampNeg y4))) hc13) (va_cwS 2 hts gl_X10_158 rfl rfl rfl cdX10_least ⟨Nat.le_of_ble_eq_true rfl, Nat.le_of_ble_eq_true rfl⟩) rfl hl.1 rfl (Nat.le_of_ble_eq_true rfl) dX10_goesHour_104 ⟨Nat.zero_le _, Nat.zero_le _⟩ hW hS rfl (fun H locs hW hS => ?_)
      obtain ⟨hi15, hf⟩ := wgi_e hf
      refine wm_iast hx hb hG hV hW hS (rfl : wkd 75 = 21) (n := 12) rfl hi15 dX10_goesHour_107 (fun H locs hW hS => ?_)
      obtain ⟨M16, hW, hf⟩ := wlet_M hW hf
      refine lv_iload_n hx hb dX10_goesHour_108 rfl (lv_at hl 2 rfl) ?_
      rcases wif_e hf with ⟨hq17, hf⟩ | ⟨hq17, hf⟩
      · refine lv_if_eq (tgt := 158) hx hb dX10_goesHour_109 (by decide) (fun _ => ?_) (fun h => absurd hq17 h)
        exact pX10_goesHour_158 B  hrec58 hf hW hS (lv_sub hl [0, 1, 2, 3, 4] rfl)
      · refine lv_if_eq (tgt := 158) hx hb dX10_goesHour_109 (by decide) (fun h => absurd h hq17) (fun _ => ?_)
        refine lv_aload_n hx hb dX10_goesHour_112 rfl (lv_at hl 0 rfl) ?_
        refine lv_iload hx hb dX10_goesHour_113 (lv_at hl 4 rfl) ?_
        refine lv_iload_n hx hb dX10_goesHour_115 rfl (lv_at hl 1 rfl) ?_
        obtain ⟨r30, hc29, hf⟩ := wbind_e hf
        refine wc_V (As := [.int y4, .int y1]) (rest := []) hx hb hml hown hts hG hV hZ (wlt_9 (rfl : wkd 70 = 9)) (q := (RX10, TX10, 31)) (wen_9 (rfl : wkd 70 = 9)) rfl (cX10_doesDie_ok l E M16 y4 y1 hc29) (cwV 2 hts gl_X10_183 rfl rfl rfl cdX10_doesDie ⟨Nat.le_of_ble_eq_true rfl, Nat.le_of_ble_eq_true rfl⟩) rfl hl.1 rfl (Nat.le_of_ble_eq_true rfl) dX10_goesHour_116 ⟨Nat.zero_le _, Nat.zero_le _⟩ hW hS rfl (fun H locs hW hS => ?_)
        rcases wif_e hf with ⟨hq31, hf⟩ | ⟨hq31, hf⟩
        · refine lv_if_eq (tgt := 158) hx hb dX10_goesHour_119 (by decide) (fun _ => ?_) (fun h => absurd hq31 h)
          exact pX10_goesHour_158 B  hrec58 hf hW hS (lv_sub hl [0, 1, 2, 3, 4] rfl)
        · refine lv_if_eq (tgt := 158) hx hb dX10_goesHour_119 (by decide) (fun h => absurd h hq31) (fun _ => ?_)
          refine lv_aload_n hx hb dX10_goesHour_122 rfl (lv_at hl 0 rfl) ?_
          refine wm_get hx hb hts wu_X10 hown hV hW (wlt_9 (rfl : wkd 70 = 9)) (wen_9 (rfl : wkd 70 = 9)) (C := RX10) (T := TX10) (N := 31) rfl 5 (by decide) (hts _ wA_719) rfl dX10_goesHour_123 ?_
          refine lv_iload hx hb dX10_goesHour_126 (lv_at hl 4 rfl) ?_
          refine lv_aload_n hx hb dX10_goesHour_128 rfl (lv_at hl 0 rfl) ?_
          refine lv_iload hx hb dX10_goesHour_129 (lv_at hl 4 rfl) ?_
          obtain ⟨r33, hc32, hf⟩ := wbind_e hf
          refine wc_V (As := [.int y4]) (rest := [.int y4, .ref (wad E 76)]) hx hb hml hown hts hG hV hZ (wlt_9 (rfl : wkd 70 = 9)) (q := (RX10, TX10, 31)) (wen_9 (rfl : wkd 70 = 9)) rfl (cX10_doesBridge_ok l E M16 y4 hc32) (cwV 1 hts gl_X10_162 rfl rfl rfl cdX10_doesBridge ⟨Nat.le_of_ble_eq_true rfl, Nat.le_of_ble_eq_true rfl⟩) rfl hl.1 rfl (Nat.le_of_ble_eq_true rfl) dX10_goesHour_131 ⟨Nat.zero_le _, Nat.zero_le _⟩ hW hS rfl (fun H locs hW hS => ?_)
          rcases wif_e hf with ⟨hq34, hf⟩ | ⟨hq34, hf⟩
          · refine lv_if_eq (tgt := 141) hx hb dX10_goesHour_134 (by decide) (fun _ => ?_) (fun h => absurd hq34 h)
            refine lv_aload_n hx hb dX10_goesHour_141 rfl (lv_at hl 0 rfl) ?_
            refine wm_get hx hb hts wu_X10 hown hV hW (wlt_9 (rfl : wkd 70 = 9)) (wen_9 (rfl : wkd 70 = 9)) (C := RX10) (T := TX10) (N := 31) rfl 1 (by decide) (hts _ wA_715) rfl dX10_goesHour_142 ?_
            refine lv_iload hx hb dX10_goesHour_145 (lv_at hl 4 rfl) ?_
            obtain ⟨hi35, hf⟩ := wgi_e hf
            refine wm_iald hx hb hV hW (rfl : wkd 72 = 21) (n := 12) rfl hi35 dX10_goesHour_147 ?_
            refine lv_iconst (v := 3) hx hb dX10_goesHour_148 rfl ?_
            rcases wif_e hf with ⟨hq36, hf⟩ | ⟨hq36, hf⟩
            · refine lv_icmp_ne (tgt := 156) hx hb dX10_goesHour_149 (by decide) (fun h => absurd hq36 h) (fun _ => ?_)
              refine lv_iconst (v := 3) hx hb dX10_goesHour_152 rfl ?_
              refine lv_goto (tgt := 157) hx hb dX10_goesHour_153 (by decide) ?_
              exact pX10_goesHour_157 B  hrec58 hf hW hS (lv_sub hl [0, 1, 2, 3, 4] rfl)
            · refine lv_icmp_ne (tgt := 156) hx hb dX10_goesHour_149 (by decide) (fun _ => ?_) (fun h => absurd h hq36)
              refine lv_iconst (v := 1) hx hb dX10_goesHour_156 rfl ?_
              exact pX10_goesHour_157 B  hrec58 hf hW hS (lv_sub hl [0, 1, 2, 3, 4] rfl)
          · refine lv_if_eq (tgt := 141) hx hb dX10_goesHour_134 (by decide) (fun h => absurd h hq34) (fun _ => ?_)
            refine lv_iconst (v := 2) hx hb dX10_goesHour_137 rfl ?_
            refine lv_goto (tgt := 157) hx hb dX10_goesHour_138 (by decide) ?_
            exact pX10_goesHour_157 B  hrec58 hf hW hS (lv_sub hl [0, 1, 2, 3, 4] rfl)
    · refine lv_if_eq (tgt := 80) hx hb dX10_goesHour_74 (by decide) (fun h => absurd h hq10) (fun _ => ?_)
      refine lv_goto (tgt := 203) hx hb dX10_goesHour_77 (by decide) ?_
      exact pX10_goesHour_203 B  hrec58 hf hW hS (lv_sub hl [0, 1, 2, 3, 4] rfl)
set_option maxRecDepth 100000 in
set_option maxHeartbeats 4000000 in
theorem pX10_goesHour_58 (B : wB E p s m args meth c cX10_goesHour 5 RX10 (some .int)) {M : wMem} {y1 : Int32} {y2 : Int32} {y3 : Int32} {y4 : Int32}  {res : Int32 × wMem}   (hf : fX10_goesHour_58 M  y1 y2 y3 y4 = some res) {H : Heap} {locs : List Loc} {ls : Array Slot} (hW : wH E M H) (hS : va_S (wA E) s.heap H locs) (hl : lv_has ls 5 [(0, .ref (wad E 70)), (1, .int y1), (2, .int y2), (3, .int y3), (4, .int y4)]) : W p l e ({ frames := 4, cells := 0, slots := 0, locals := 83 } : Room) s m args below meth c H locs 0 0 (MQ below (wQ E (some (.int res.1)) res.2) args s 0 0 (wA E)) (F0 m 58 ls []) := by
  have key := wloop_W (b := (fun rec58 t => fX10_goesHour_58_b t.2.2  rec58 y1 y2 t.1 t.2.1)) (P := fun t => ∀ (H : Heap) (locs : List Loc) (ls : Array Slot), wH E t.2.2 H → va_S (wA E) s.heap H locs → lv_has ls 5 [(0, .ref (wad E 70)), (1, .int y1), (2, .int y2), (3, .int t.1), (4, .int t.2.1)] → W p l e ({ frames := 4, cells := 0, slots := 0, locals := 83 } : Room) s m args below meth c H locs 0 0 (MQ below (wQ E (some (.int res.1)) res.2) args s 0 0 (wA E)) (F0 m 58 ls [])) (r := res) (fun rec hrec t hf H locs ls hW hS hl => pX10_goesHour_58_b B   (fun v0 v1 v2 hf H locs ls hW hS hl => hrec (v0, v1, v2) hf H locs ls hW hS hl) hf hW hS hl)
  exact key wfuel (y3, y4, M) hf H locs ls hW hS hl
set_option maxRecDepth 100000 in
set_option maxHeartbeats 4000000 in
theorem pX10_goesHour_48 (B : wB E p s m args meth c cX10_goesHour 5 RX10 (some .int)) {M : wMem} {y1 : Int32} {y2 : Int32} {y3 : Int32} {y4 : Int32} {z1 : Int32} {z2 : Int32} {rec15 : (Int32 × wMem → Option (Int32 × wMem))} {res : Int32 × wMem}  (hrec15 : ∀ (y4' : Int32) (M' : wMem), rec15 (y4', M') = some res → ∀ (H : Heap) (locs : List Loc) (ls : Array Slot), wH E M' H → va_S (wA E) s.heap H locs → lv_has ls 5 [(0, .ref (wad E 70)), (1, .int y1), (2, .int y2), (3, .int y3), (4, .int y4')] → W p l e ({ frames := 4, cells := 0, slots := 0, locals := 83 } : Room) s m args below meth c H locs 0 0 (MQ below (wQ E (some (.int res.1)) res.2) args s 0 0 (wA E)) (F0 m 15 ls [])) (hf : fX10_goesHour_48 M rec15 y1 y2 y3 y4 z1 z2 = some res) {H : Heap} {locs : List Loc} {ls : Array Slot} (hW : wH E M H) (hS : va_S (wA E) s.heap H locs) (hl : lv_has ls 5 [(0, .ref (wad E 70)), (1, .int y1), (2, .int y2), (3, .int y3), (4, .int y4)]) : W p l e ({ frames := 4, cells := 0, slots := 0, locals := 83 } : Room) s m args below meth c H locs 0 0 (MQ below (wQ E (some (.int res.1)) res.2) args s 0 0 (wA E)) (F0 m 48 ls [.int z2, .int z1, .ref (wad E 83)]) := by
  unfold fX10_goesHour_48 at hf
  obtain ⟨hx, hb, hr, hml, hown, hts, hlocks, hG, hV, hZ⟩ := id B
  obtain ⟨hi40, hf⟩ := wgi_e hf
  refine wm_iast hx hb hG hV hW hS (rfl : wkd 83 = 21) (n := 12) rfl hi40 dX10_goesHour_48 (fun H locs hW hS => ?_)
  obtain ⟨M41, hW, hf⟩ := wlet_M hW hf
  obtain ⟨x42, ex42, hf⟩ := wlet_e hf
  refine lv_iinc (v := x42) (lv' := [(4, .int x42), (0, .ref (wad E 70)), (1, .int y1), (2, .int y2), (3, .int y3)]) hx hb dX10_goesHour_49 hl (k := 4) rfl (by rw [ex42]; rfl) (by decide) rfl (fun ls hl => ?_)
  refine lv_goto (tgt := 15) hx hb dX10_goesHour_52 (by decide) ?_
  exact hrec15 x42 M41 hf _ _ _ hW hS (lv_sub hl [1, 2, 3, 4, 0] rfl)
set_option maxRecDepth 100000 in
set_option maxHeartbeats 4000000 in
theorem pX10_goesHour_15_b (B : wB E p s m args meth c cX10_goesHour 5 RX10 (some .int)) {M : wMem} {y1 : Int32} {y2 : Int32} {y3 : Int32} {y4 : Int32}  {rec15 : (Int32 × wMem → Option (Int32 × wMem))} {res : Int32 × wMem}   (hrec15 : ∀ (y4' : Int32) (M' : wMem), rec15 (y4', M') = some res → ∀ (H : Heap) (locs : List Loc) (ls : Array Slot), wH E M' H → va_S (wA E) s.heap H locs → lv_has ls 5 [(0, .ref (wad E 70)), (1, .int y1), (2, .int y2), (3, .int y3), (4, .int y4')] → W p l e ({ frames := 4, cells := 0, slots := 0, locals := 83 } : Room) s m args below meth c H locs 0 0 (MQ below (wQ E (some (.int res.1)) res.2) args s 0 0 (wA E)) (F0 m 15 ls [])) (hf : fX10_goesHour_15_b M  rec15 y1 y2 y3 y4 = some res) {H : Heap} {locs : List Loc} {ls : Array Slot} (hW : wH E M H) (hS : va_S (wA E) s.heap H locs) (hl : lv_has ls 5 [(0, .ref (wad E 70)), (1, .int y1), (2, .int y2), (3, .int y3), (4, .int y4)]) : W p l e ({ frames := 4, cells := 0, slots := 0, locals := 83 } : Room) s m args below meth c H locs 0 0 (MQ below (wQ E (some (.int res.1)) res.2) args s 0 0 (wA E)) (F0 m 15 ls []) := by
  unfold fX10_goesHour_15_b at hf
  obtain ⟨hx, hb, hr, hml, hown, hts, hlocks, hG, hV, hZ⟩ := id B
  refine lv_iload hx hb dX10_goesHour_15 (lv_at hl 4 rfl) ?_
  refine lv_aload_n hx hb dX10_goesHour_17 rfl (lv_at hl 0 rfl) ?_
  refine wm_get hx hb hts wu_X10 hown hV hW (wlt_9 (rfl : wkd 70 = 9)) (wen_9 (rfl : wkd 70 = 9)) (C := RX10) (T := TX10) (N := 31) rfl 7 (by decide) (hts _ wA_721) rfl dX10_goesHour_18 ?_
  rcases wif_e hf with ⟨hq6, hf⟩ | ⟨hq6, hf⟩
  · refine lv_icmp_ge (tgt := 55) hx hb dX10_goesHour_21 (by decide) (fun _ => ?_) (fun h => absurd hq6 h)
    refine lv_iconst (v := 0) hx hb dX10_goesHour_55 rfl ?_
    refine lv_istore (lv' := [(4, .int 0), (0, .ref (wad E 70)), (1, .int y1), (2, .int y2), (3, .int y3)]) hx hb dX10_goesHour_56 hl (by decide) rfl (fun ls hl => ?_)
    exact pX10_goesHour_58 B   hf hW hS (lv_sub hl [1, 2, 3, 4, 0] rfl)
  · refine lv_icmp_ge (tgt := 55) hx hb dX10_goesHour_21 (by decide) (fun h => absurd h hq6) (fun _ => ?_)
    refine lv_aload_n hx hb dX10_goesHour_24 rfl (lv_at hl 0 rfl) ?_
    refine wm_get hx hb hts wu_X10 hown hV hW (wlt_9 (rfl : wkd 70 = 9)) (wen_9 (rfl : wkd 70 = 9)) (C := RX10) (T := TX10) (N := 31) rfl 20 (by decide) (hts _ wA_734) rfl dX10_goesHour_25 ?_
    refine lv_iload hx hb dX10_goesHour_28 (lv_at hl 4 rfl) ?_
    refine lv_iload_n hx hb dX10_goesHour_30 rfl (lv_at hl 2 rfl) ?_
    rcases wif_e hf with ⟨hq39, hf⟩ | ⟨hq39, hf⟩
    · refine lv_if_eq (tgt := 47) hx hb dX10_goesHour_31 (by decide) (fun _ => ?_) (fun h => absurd hq39 h)
      refine lv_iconst (v := 0) hx hb dX10_goesHour_47 rfl ?_
      exact pX10_goesHour_48 B  hrec15 hf hW hS (lv_sub hl [0, 1, 2, 3, 4] rfl)
    · refine lv_if_eq (tgt := 47) hx hb dX10_goesHour_31 (by decide) (fun h => absurd h hq39) (fun _ => ?_)
      refine lv_aload_n hx hb dX10_goesHour_34 rfl (lv_at hl 0 rfl) ?_
      refine lv_iload hx hb dX10_goesHour_35 (lv_at hl 4 rfl) ?_
      refine lv_iload_n hx hb dX10_goesHour_37 rfl (lv_at hl 1 rfl) ?_
      obtain ⟨r44, hc43, hf⟩ := wbind_e hf
      refine wc_V (As := [.int y4, .int y1]) (rest := [.int y4, .ref (wad E 83)]) hx hb hml hown hts hG hV hZ (wlt_9 (rfl : wkd 70 = 9)) (q := (RX10, TX10, 31)) (wen_9 (rfl : wkd 70 = 9)) rfl (cX10_brightBy_ok l E M y4 y1 hc43) (cwV 2 hts gl_X10_171 rfl rfl rfl cdX10_brightBy ⟨Nat.le_of_ble_eq_true rfl, Nat.le_of_ble_eq_true rfl⟩) rfl hl.1 rfl (Nat.le_of_ble_eq_true rfl) dX10_goesHour_38 ⟨Nat.zero_le _, Nat.zero_le _⟩ hW hS rfl (fun H locs hW hS => ?_)
      refine lv_bipush (v := 10) hx hb dX10_goesHour_41 (by decide) ?_
      obtain ⟨hz45, hf⟩ := wgz_e hf
      refine lv_idiv hx hb dX10_goesHour_43 hz45 ?_
      refine lv_goto (tgt := 48) hx hb dX10_goesHour_44 (by decide) ?_
      exact pX10_goesHour_48 B  hrec15 hf hW hS (lv_sub hl [0, 1, 2, 3, 4] rfl)
set_option maxRecDepth 100000 in
set_option maxHeartbeats 4000000 in
theorem pX10_goesHour_15 (B : wB E p s m args meth c cX10_goesHour 5 RX10 (some .int)) {M : wMem} {y1 : Int32} {y2 : Int32} {y3 : Int32} {y4 : Int32}  {res : Int32 × wMem}   (hf : fX10_goesHour_15 M  y1 y2 y3 y4 = some res) {H : Heap} {locs : List Loc} {ls : Array Slot} (hW : wH E M H) (hS : va_S (wA E) s.heap H locs) (hl : lv_has ls 5 [(0, .ref (wad E 70)), (1, .int y1), (2, .int y2), (3, .int y3), (4, .int y4)]) : W p l e ({ frames := 4, cells := 0, slots := 0, locals := 83 } : Room) s m args below meth c H locs 0 0 (MQ below (wQ E (some (.int res.1)) res.2) args s 0 0 (wA E)) (F0 m 15 ls []) := by
  have key := wloop_W (b := (fun rec15 t => fX10_goesHour_15_b t.2  rec15 y1 y2 y3 t.1)) (P := fun t => ∀ (H : Heap) (locs : List Loc) (ls : Array Slot), wH E t.2 H → va_S (wA E) s.heap H locs → lv_has ls 5 [(0, .ref (wad E 70)), (1, .int y1), (2, .int y2), (3, .int y3), (4, .int t.1)] → W p l e ({ frames := 4, cells := 0, slots := 0, locals := 83 } : Room) s m args below meth c H locs 0 0 (MQ below (wQ E (some (.int res.1)) res.2) args s 0 0 (wA E)) (F0 m 15 ls [])) (r := res) (fun rec hrec t hf H locs ls hW hS hl => pX10_goesHour_15_b B   (fun v0 v1 hf H locs ls hW hS hl => hrec (v0, v1) hf H locs ls hW hS hl) hf hW hS hl)
  exact key wfuel (y4, M) hf H locs ls hW hS hl
set_option maxRecDepth 100000 in
set_option maxHeartbeats 4000000 in
theorem pX10_goesHour (B : wB E p s m args meth c cX10_goesHour 5 RX10 (some .int)) {M : wMem}   {res : Int32 × wMem} (hf : fX10_goesHour M  = some res) {H : Heap} {locs : List Loc} {ls : Array Slot} (hW : wH E M H) (hS : va_S (wA E) s.heap H locs) (hl : lv_has ls 5 [(0, .ref (wad E 70))]) : W p l e ({ frames := 4, cells := 0, slots := 0, locals := 83 } : Room) s m args below meth c H locs 0 0 (MQ below (wQ E (some (.int res.1)) res.2) args s 0 0 (wA E)) (F0 m 0 ls []) := by
  unfold fX10_goesHour at hf
  obtain ⟨hx, hb, hr, hml, hown, hts, hlocks, hG, hV, hZ⟩ := id B
  refine lv_aload_n hx hb dX10_goesHour_0 rfl (lv_at hl 0 rfl) ?_
  obtain ⟨r2, hc1, hf⟩ := wbind_e hf
  refine wc_V (As := []) (rest := []) hx hb hml hown hts hG hV hZ (wlt_9 (rfl : wkd 70 = 9)) (q := (RX10, TX10, 31)) (wen_9 (rfl : wkd 70 = 9)) rfl (cX10_flowNow_ok l E M  hc1) (cwV 0 hts gl_X10_168 rfl rfl rfl cdX10_flowNow ⟨Nat.le_of_ble_eq_true rfl, Nat.le_of_ble_eq_true rfl⟩) rfl hl.1 rfl (Nat.le_of_ble_eq_true rfl) dX10_goesHour_1 ⟨Nat.zero_le _, Nat.zero_le _⟩ hW hS rfl (fun H locs hW hS => ?_)
  refine lv_istore_n (lv' := [(1, .int r2), (0, .ref (wad E 70))]) hx hb dX10_goesHour_4 rfl hl (by decide) rfl (fun ls hl => ?_)
  refine lv_aload_n hx hb dX10_goesHour_5 rfl (lv_at hl 1 rfl) ?_
  obtain ⟨r4, hc3, hf⟩ := wbind_e hf
  refine wc_V (As := []) (rest := []) hx hb hml hown hts hG hV hZ (wlt_9 (rfl : wkd 70 = 9)) (q := (RX10, TX10, 31)) (wen_9 (rfl : wkd 70 = 9)) rfl (cX10_isLive_ok l E M  hc3) (cwV 0 hts gl_X10_155 rfl rfl rfl cdX10_isLive ⟨Nat.le_of_ble_eq_true rfl, Nat.le_of_ble_eq_true rfl⟩) rfl hl.1 rfl (Nat.le_of_ble_eq_true rfl) dX10_goesHour_6 ⟨Nat.zero_le _, Nat.zero_le _⟩ hW hS rfl (fun H locs hW hS => ?_)
  refine lv_topi (fun x5 ex5 => ?_)
  replace hf := wlet_y ex5 hf
  refine lv_istore_n (lv' := [(2, .int x5), (1, .int r2), (0, .ref (wad E 70))]) hx hb dX10_goesHour_9 rfl hl (by decide) rfl (fun ls hl => ?_)
  refine lv_iconst (v := 0) hx hb dX10_goesHour_10 rfl ?_
  refine lv_istore_n (lv' := [(3, .int 0), (2, .int x5), (1, .int r2), (0, .ref (wad E 70))]) hx hb dX10_goesHour_11 rfl hl (by decide) rfl (fun ls hl => ?_)
  refine lv_iconst (v := 0) hx hb dX10_goesHour_12 rfl ?_
  refine lv_istore (lv' := [(4, .int 0), (3, .int 0), (2, .int x5), (1, .int r2), (0, .ref (wad E 70))]) hx hb dX10_goesHour_13 hl (by decide) rfl (fun ls hl => ?_)
  exact pX10_goesHour_15 B   hf hW hS (lv_sub hl [4, 3, 2, 1, 0] rfl)
theorem cX10_goesHour_ok (l : Launch) (E : wE) (M : wMem)  {res : Int32 × wMem} (hf : fX10_goesHour M  = some res) : wMet l yX10_goesHour (wsM yX10_goesHour cX10_goesHour 5 (some .int)) ({ frames := 4, cells := 0, slots := 0, locals := 83 } : Room) E M [.ref (wad E 70)] (some (.int res.1)) res.2 :=
  wc_of (cc := cX10_goesHour) (maxL := 5) (ret := (some .int)) (by decide) (Nat.le_of_ble_eq_true rfl) (fun _ _ _ _ _ _ _ _ B hW hl => pX10_goesHour B  hf hW va_S.rf hl)
end
theorem cdX10_hour : yX10_hour.cls = RX10 ∧ yX10_hour.cls ≠ "java/lang/invoke/MethodHandle" ∧ yX10_hour.cls ≠ "java/lang/invoke/VarHandle" ∧ (parseMethodDescriptor yX10_hour.desc).map (fun d => d.parameters.length) = some 0 := by decide +kernel
section
variable {p : Program} {l : Launch} {e : Env} {s : State} {m : MethodId} {args : Array Value} {below : List Frame} {meth : Method} {c : Code} {E : wE}
set_option maxRecDepth 100000 in
set_option maxHeartbeats 4000000 in
theorem pX10_hour (B : wB E p s m args meth c cX10_hour 1 RX10 (some .int)) {M : wMem}   {res : Int32 × wMem} (hf : fX10_hour M  = some res) {H : Heap} {locs : List Loc} {ls : Array Slot} (hW : wH E M H) (hS : va_S (wA E) s.heap H locs) (hl : lv_has ls 1 [(0, .ref (wad E 70))]) : W p l e ({ frames := 5, cells := 0, slots := 0, locals := 107 } : Room) s m args below meth c H locs 0 0 (MQ below (wQ E (some (.int res.1)) res.2) args s 0 0 (wA E)) (F0 m 0 ls []) := by
  unfold fX10_hour at hf
  obtain ⟨hx, hb, hr, hml, hown, hts, hlocks, hG, hV, hZ⟩ := id B
  refine lv_aload_n hx hb dX10_hour_0 rfl (lv_at hl 0 rfl) ?_
  refine wm_get hx hb hts wu_X10 hown hV hW (wlt_9 (rfl : wkd 70 = 9)) (wen_9 (rfl : wkd 70 = 9)) (C := RX10) (T := TX10) (N := 31) rfl 8 (by decide) (hts _ wA_722) rfl dX10_hour_1 ?_
  refine lv_sipush (v := 9999) hx hb dX10_hour_4 (by decide) ?_
  rcases wif_e hf with ⟨hq1, hf⟩ | ⟨hq1, hf⟩
  · refine lv_icmp_ne (tgt := 19) hx hb dX10_hour_7 (by decide) (fun h => absurd hq1 h) (fun _ => ?_)
    refine lv_aload_n hx hb dX10_hour_10 rfl (lv_at hl 0 rfl) ?_
    refine lv_bipush (v := (-6)) hx hb dX10_hour_11 (by decide) ?_
    obtain ⟨r6, M7, hc5, hf⟩ := wbind_p hf
    refine wc_V (As := [.int (-6)]) (rest := []) hx hb hml hown hts hG hV hZ (wlt_9 (rfl : wkd 70 = 9)) (q := (RX10, TX10, 31)) (wen_9 (rfl : wkd 70 = 9)) rfl (cX10_no_ok l E M (-6) hc5) (cwV 1 hts gl_X10_83 rfl rfl rfl cdX10_no ⟨Nat.le_of_ble_eq_true rfl, Nat.le_of_ble_eq_true rfl⟩) rfl hl.1 rfl (Nat.le_of_ble_eq_true rfl) dX10_hour_13 ⟨Nat.zero_le _, Nat.zero_le _⟩ hW hS rfl (fun H locs hW hS => ?_)
    refine lv_goto (tgt := 23) hx hb dX10_hour_16 (by decide) ?_
    have hres := Option.some.inj hf
    subst hres
    exact W.iret hx hb hr (wr_q hG hV hZ hW hS) hS.2.2 dX10_hour_23
  · refine lv_icmp_ne (tgt := 19) hx hb dX10_hour_7 (by decide) (fun _ => ?_) (fun h => absurd h hq1)
    refine lv_aload_n hx hb dX10_hour_19 rfl (lv_at hl 0 rfl) ?_
    obtain ⟨r3, M4, hc2, hf⟩ := wbind_p hf
    refine wc_V (As := []) (rest := []) hx hb hml hown hts hG hV hZ (wlt_9 (rfl : wkd 70 = 9)) (q := (RX10, TX10, 31)) (wen_9 (rfl : wkd 70 = 9)) rfl (cX10_goesHour_ok l E M  hc2) (cwV 0 hts gl_X10_189 rfl rfl rfl cdX10_goesHour ⟨Nat.le_of_ble_eq_true rfl, Nat.le_of_ble_eq_true rfl⟩) rfl hl.1 rfl (Nat.le_of_ble_eq_true rfl) dX10_hour_20 ⟨Nat.zero_le _, Nat.zero_le _⟩ hW hS rfl (fun H locs hW hS => ?_)
    have hres := Option.some.inj hf
    subst hres
    exact W.iret hx hb hr (wr_q hG hV hZ hW hS) hS.2.2 dX10_hour_23
theorem cX10_hour_ok (l : Launch) (E : wE) (M : wMem)  {res : Int32 × wMem} (hf : fX10_hour M  = some res) : wMet l yX10_hour (wsM yX10_hour cX10_hour 1 (some .int)) ({ frames := 5, cells := 0, slots := 0, locals := 107 } : Room) E M [.ref (wad E 70)] (some (.int res.1)) res.2 :=
  wc_of (cc := cX10_hour) (maxL := 1) (ret := (some .int)) (by decide) (Nat.le_of_ble_eq_true rfl) (fun _ _ _ _ _ _ _ _ B hW hl => pX10_hour B  hf hW va_S.rf hl)
end
theorem cdX10_putsAnew : yX10_putsAnew.cls = RX10 ∧ yX10_putsAnew.cls ≠ "java/lang/invoke/MethodHandle" ∧ yX10_putsAnew.cls ≠ "java/lang/invoke/VarHandle" ∧ (parseMethodDescriptor yX10_putsAnew.desc).map (fun d => d.parameters.length) = some 1 := by decide +kernel
section
variable {p : Program} {l : Launch} {e : Env} {s : State} {m : MethodId} {args : Array Value} {below : List Frame} {meth : Method} {c : Code} {E : wE}
set_option maxRecDepth 100000 in
set_option maxHeartbeats 4000000 in
theorem pX10_putsAnew (B : wB E p s m args meth c cX10_putsAnew 2 RX10 none) {M : wMem} {a1 : Int32}  {res : wMem} (hf : fX10_putsAnew M a1 = some res) {H : Heap} {locs : List Loc} {ls : Array Slot} (hW : wH E M H) (hS : va_S (wA E) s.heap H locs) (hl : lv_has ls 2 [(0, .ref (wad E 70)), (1, .int a1)]) : W p l e ({ frames := 0, cells := 0, slots := 0, locals := 0 } : Room) s m args below meth c H locs 0 0 (MQ below (wQ E none res) args s 0 0 (wA E)) (F0 m 0 ls []) := by
  unfold fX10_putsAnew at hf
  obtain ⟨hx, hb, hr, hml, hown, hts, hlocks, hG, hV, hZ⟩ := id B
  refine lv_aload_n hx hb dX10_putsAnew_0 rfl (lv_at hl 0 rfl) ?_
  refine wm_get hx hb hts wu_X10 hown hV hW (wlt_9 (rfl : wkd 70 = 9)) (wen_9 (rfl : wkd 70 = 9)) (C := RX10) (T := TX10) (N := 31) rfl 5 (by decide) (hts _ wA_719) rfl dX10_putsAnew_1 ?_
  refine lv_iload_n hx hb dX10_putsAnew_4 rfl (lv_at hl 1 rfl) ?_
  refine lv_iconst (v := 0) hx hb dX10_putsAnew_5 rfl ?_
  obtain ⟨hi1, hf⟩ := wgi_e hf
  refine wm_iast hx hb hG hV hW hS (rfl : wkd 76 = 21) (n := 12) rfl hi1 dX10_putsAnew_6 (fun H locs hW hS => ?_)
  obtain ⟨M2, hW, hf⟩ := wlet_M hW hf
  refine lv_aload_n hx hb dX10_putsAnew_7 rfl (lv_at hl 0 rfl) ?_
  refine wm_get hx hb hts wu_X10 hown hV hW (wlt_9 (rfl : wkd 70 = 9)) (wen_9 (rfl : wkd 70 = 9)) (C := RX10) (T := TX10) (N := 31) rfl 4 (by decide) (hts _ wA_718) rfl dX10_putsAnew_8 ?_
  refine lv_iload_n hx hb dX10_putsAnew_11 rfl (lv_at hl 1 rfl) ?_
  refine lv_iconst (v := 0) hx hb dX10_putsAnew_12 rfl ?_
  obtain ⟨hi3, hf⟩ := wgi_e hf
  refine wm_iast hx hb hG hV hW hS (rfl : wkd 75 = 21) (n := 12) rfl hi3 dX10_putsAnew_13 (fun H locs hW hS => ?_)
  obtain ⟨M4, hW, hf⟩ := wlet_M hW hf
  have hres := Option.some.inj hf
  subst hres
  exact W.vret hx hb hr (wr_q hG hV hZ hW hS) hS.2.2 dX10_putsAnew_14
theorem cX10_putsAnew_ok (l : Launch) (E : wE) (M : wMem) (a1 : Int32) {res : wMem} (hf : fX10_putsAnew M a1 = some res) : wMet l yX10_putsAnew (wsM yX10_putsAnew cX10_putsAnew 2 none) ({ frames := 0, cells := 0, slots := 0, locals := 0 } : Room) E M [.ref (wad E 70), .int a1] none res :=
  wc_of (cc := cX10_putsAnew) (maxL := 2) (ret := none) (by decide) (Nat.le_of_ble_eq_true rfl) (fun _ _ _ _ _ _ _ _ B hW hl => pX10_putsAnew B  hf hW va_S.rf hl)
end
theorem cdX10_swap : yX10_swap.cls = RX10 ∧ yX10_swap.cls ≠ "java/lang/invoke/MethodHandle" ∧ yX10_swap.cls ≠ "java/lang/invoke/VarHandle" ∧ (parseMethodDescriptor yX10_swap.desc).map (fun d => d.parameters.length) = some 1 := by decide +kernel
section
variable {p : Program} {l : Launch} {e : Env} {s : State} {m : MethodId} {args : Array Value} {below : List Frame} {meth : Method} {c : Code} {E : wE}
set_option maxRecDepth 100000 in
set_option maxHeartbeats 4000000 in
theorem pX10_swap (B : wB E p s m args meth c cX10_swap 2 RX10 (some .int)) {M : wMem} {a1 : Int32}  {res : Int32 × wMem} (hf : fX10_swap M a1 = some res) {H : Heap} {locs : List Loc} {ls : Array Slot} (hW : wH E M H) (hS : va_S (wA E) s.heap H locs) (hl : lv_has ls 2 [(0, .ref (wad E 70)), (1, .int a1)]) : W p l e ({ frames := 3, cells := 0, slots := 0, locals := 63 } : Room) s m args below meth c H locs 0 0 (MQ below (wQ E (some (.int res.1)) res.2) args s 0 0 (wA E)) (F0 m 0 ls []) := by
  unfold fX10_swap at hf
  obtain ⟨hx, hb, hr, hml, hown, hts, hlocks, hG, hV, hZ⟩ := id B
  refine lv_aload_n hx hb dX10_swap_0 rfl (lv_at hl 0 rfl) ?_
  refine lv_iload_n hx hb dX10_swap_1 rfl (lv_at hl 1 rfl) ?_
  obtain ⟨r2, hc1, hf⟩ := wbind_e hf
  refine wc_V (As := [.int a1]) (rest := []) hx hb hml hown hts hG hV hZ (wlt_9 (rfl : wkd 70 = 9)) (q := (RX10, TX10, 31)) (wen_9 (rfl : wkd 70 = 9)) rfl (cX10_isLamp_ok l E M a1 hc1) (cwV 1 hts gl_X10_112 rfl rfl rfl cdX10_isLamp ⟨Nat.le_of_ble_eq_true rfl, Nat.le_of_ble_eq_true rfl⟩) rfl hl.1 rfl (Nat.le_of_ble_eq_true rfl) dX10_swap_2 ⟨Nat.zero_le _, Nat.zero_le _⟩ hW hS rfl (fun H locs hW hS => ?_)
  rcases wif_e hf with ⟨hq3, hf⟩ | ⟨hq3, hf⟩
  · refine lv_if_ne (tgt := 14) hx hb dX10_swap_5 (by decide) (fun h => absurd hq3 h) (fun _ => ?_)
    refine lv_aload_n hx hb dX10_swap_8 rfl (lv_at hl 0 rfl) ?_
    refine lv_iconst (v := (-1)) hx hb dX10_swap_9 rfl ?_
    obtain ⟨r19, M20, hc18, hf⟩ := wbind_p hf
    refine wc_V (As := [.int (-1)]) (rest := []) hx hb hml hown hts hG hV hZ (wlt_9 (rfl : wkd 70 = 9)) (q := (RX10, TX10, 31)) (wen_9 (rfl : wkd 70 = 9)) rfl (cX10_no_ok l E M (-1) hc18) (cwV 1 hts gl_X10_83 rfl rfl rfl cdX10_no ⟨Nat.le_of_ble_eq_true rfl, Nat.le_of_ble_eq_true rfl⟩) rfl hl.1 rfl (Nat.le_of_ble_eq_true rfl) dX10_swap_10 ⟨Nat.zero_le _, Nat.zero_le _⟩ hW hS rfl (fun H locs hW hS => ?_)
    have hres := Option.some.inj hf
    subst hres
    exact W.iret hx hb hr (wr_q hG hV hZ hW hS) hS.2.2 dX10_swap_13
  · refine lv_if_ne (tgt := 14) hx hb dX10_swap_5 (by decide) (fun _ => ?_) (fun h => absurd h hq3)
    refine lv_aload_n hx hb dX10_swap_14 rfl (lv_at hl 0 rfl) ?_
    refine wm_get hx hb hts wu_X10 hown hV hW (wlt_9 (rfl : wkd 70 = 9)) (wen_9 (rfl : wkd 70 = 9)) (C := RX10) (T := TX10) (N := 31) rfl 6 (by decide) (hts _ wA_720) rfl dX10_swap_15 ?_
    refine lv_iconst (v := 1) hx hb dX10_swap_18 rfl ?_
    obtain ⟨hi4, hf⟩ := wgi_e hf
    refine wm_iald hx hb hV hW (rfl : wkd 77 = 21) (n := 4) rfl hi4 dX10_swap_19 ?_
    rcases wif_e hf with ⟨hq5, hf⟩ | ⟨hq5, hf⟩
    · refine lv_if_ne (tgt := 30) hx hb dX10_swap_20 (by decide) (fun h => absurd hq5 h) (fun _ => ?_)
      refine lv_aload_n hx hb dX10_swap_23 rfl (lv_at hl 0 rfl) ?_
      refine lv_bipush (v := (-3)) hx hb dX10_swap_24 (by decide) ?_
      obtain ⟨r16, M17, hc15, hf⟩ := wbind_p hf
      refine wc_V (As := [.int (-3)]) (rest := []) hx hb hml hown hts hG hV hZ (wlt_9 (rfl : wkd 70 = 9)) (q := (RX10, TX10, 31)) (wen_9 (rfl : wkd 70 = 9)) rfl (cX10_no_ok l E M (-3) hc15) (cwV 1 hts gl_X10_83 rfl rfl rfl cdX10_no ⟨Nat.le_of_ble_eq_true rfl, Nat.le_of_ble_eq_true rfl⟩) rfl hl.1 rfl (Nat.le_of_ble_eq_true rfl) dX10_swap_26 ⟨Nat.zero_le _, Nat.zero_le _⟩ hW hS rfl (fun H locs hW hS => ?_)
      have hres := Option.some.inj hf
      subst hres
      exact W.iret hx hb hr (wr_q hG hV hZ hW hS) hS.2.2 dX10_swap_29
    · refine lv_if_ne (tgt := 30) hx hb dX10_swap_20 (by decide) (fun _ => ?_) (fun h => absurd h hq5)
      refine lv_aload_n hx hb dX10_swap_30 rfl (lv_at hl 0 rfl) ?_
      refine wm_get hx hb hts wu_X10 hown hV hW (wlt_9 (rfl : wkd 70 = 9)) (wen_9 (rfl : wkd 70 = 9)) (C := RX10) (T := TX10) (N := 31) rfl 6 (by decide) (hts _ wA_720) rfl dX10_swap_31 ?_
      refine lv_iconst (v := 1) hx hb dX10_swap_34 rfl ?_
      refine lv_dup2_11 hx hb dX10_swap_35 rfl rfl ?_
      obtain ⟨hi6, hf⟩ := wgi_e hf
      refine wm_iald hx hb hV hW (rfl : wkd 77 = 21) (n := 4) rfl hi6 dX10_swap_36 ?_
      refine lv_iconst (v := 1) hx hb dX10_swap_37 rfl ?_
      refine lv_isub hx hb dX10_swap_38 ?_
      obtain ⟨hi7, hf⟩ := wgi_e hf
      refine wm_iast hx hb hG hV hW hS (rfl : wkd 77 = 21) (n := 4) rfl hi7 dX10_swap_39 (fun H locs hW hS => ?_)
      obtain ⟨M8, hW, hf⟩ := wlet_M hW hf
      refine lv_aload_n hx hb dX10_swap_40 rfl (lv_at hl 0 rfl) ?_
      refine lv_iload_n hx hb dX10_swap_41 rfl (lv_at hl 1 rfl) ?_
      obtain ⟨M11, hc9, hf⟩ := wbind_e hf
      refine wc_V (As := [.int a1]) (rest := []) hx hb hml hown hts hG hV hZ (wlt_9 (rfl : wkd 70 = 9)) (q := (RX10, TX10, 31)) (wen_9 (rfl : wkd 70 = 9)) rfl (cX10_putsAnew_ok l E M8 a1 hc9) (cwV 1 hts gl_X10_192 rfl rfl rfl cdX10_putsAnew ⟨Nat.le_of_ble_eq_true rfl, Nat.le_of_ble_eq_true rfl⟩) rfl hl.1 rfl (Nat.le_of_ble_eq_true rfl) dX10_swap_42 ⟨Nat.zero_le _, Nat.zero_le _⟩ hW hS rfl (fun H locs hW hS => ?_)
      refine lv_aload_n hx hb dX10_swap_45 rfl (lv_at hl 0 rfl) ?_
      obtain ⟨r13, hc12, hf⟩ := wbind_e hf
      refine wc_V (As := []) (rest := []) hx hb hml hown hts hG hV hZ (wlt_9 (rfl : wkd 70 = 9)) (q := (RX10, TX10, 31)) (wen_9 (rfl : wkd 70 = 9)) rfl (cX10_isLive_ok l E M11  hc12) (cwV 0 hts gl_X10_155 rfl rfl rfl cdX10_isLive ⟨Nat.le_of_ble_eq_true rfl, Nat.le_of_ble_eq_true rfl⟩) rfl hl.1 rfl (Nat.le_of_ble_eq_true rfl) dX10_swap_46 ⟨Nat.zero_le _, Nat.zero_le _⟩ hW hS rfl (fun H locs hW hS => ?_)
      rcases wif_e hf with ⟨hq14, hf⟩ | ⟨hq14, hf⟩
      · refine lv_if_eq (tgt := 56) hx hb dX10_swap_49 (by decide) (fun _ => ?_) (fun h => absurd hq14 h)
        refine lv_iconst (v := 0) hx hb dX10_swap_56 rfl ?_
        have hres := Option.some.inj hf
        subst hres
        exact W.iret hx hb hr (wr_q hG hV hZ hW hS) hS.2.2 dX10_swap_57
      · refine lv_if_eq (tgt := 56) hx hb dX10_swap_49 (by decide) (fun h => absurd h hq14) (fun _ => ?_)
        refine lv_iconst (v := 1) hx hb dX10_swap_52 rfl ?_
        refine lv_goto (tgt := 57) hx hb dX10_swap_53 (by decide) ?_
        have hres := Option.some.inj hf
        subst hres
        exact W.iret hx hb hr (wr_q hG hV hZ hW hS) hS.2.2 dX10_swap_57
theorem cX10_swap_ok (l : Launch) (E : wE) (M : wMem) (a1 : Int32) {res : Int32 × wMem} (hf : fX10_swap M a1 = some res) : wMet l yX10_swap (wsM yX10_swap cX10_swap 2 (some .int)) ({ frames := 3, cells := 0, slots := 0, locals := 63 } : Room) E M [.ref (wad E 70), .int a1] (some (.int res.1)) res.2 :=
  wc_of (cc := cX10_swap) (maxL := 2) (ret := (some .int)) (by decide) (Nat.le_of_ble_eq_true rfl) (fun _ _ _ _ _ _ _ _ B hW hl => pX10_swap B  hf hW va_S.rf hl)
end
theorem cdX10_areLamps : yX10_areLamps.cls = RX10 ∧ yX10_areLamps.cls ≠ "java/lang/invoke/MethodHandle" ∧ yX10_areLamps.cls ≠ "java/lang/invoke/VarHandle" ∧ (parseMethodDescriptor yX10_areLamps.desc).map (fun d => d.parameters.length) = some 2 := by decide +kernel
section
variable {p : Program} {l : Launch} {e : Env} {s : State} {m : MethodId} {args : Array Value} {below : List Frame} {meth : Method} {c : Code} {E : wE}
set_option maxRecDepth 100000 in
set_option maxHeartbeats 4000000 in
theorem pX10_areLamps (B : wB E p s m args meth c cX10_areLamps 3 RX10 (some .boolean)) {M : wMem} {a1 : Int32} {a2 : Int32}  {res : Bool} (hf : fX10_areLamps M a1 a2 = some res) {H : Heap} {locs : List Loc} {ls : Array Slot} (hW : wH E M H) (hS : va_S (wA E) s.heap H locs) (hl : lv_has ls 3 [(0, .ref (wad E 70)), (1, .int a1), (2, .int a2)]) : W p l e ({ frames := 1, cells := 0, slots := 0, locals := 21 } : Room) s m args below meth c H locs 0 0 (MQ below (wQ E (some (.int (wb res))) M) args s 0 0 (wA E)) (F0 m 0 ls []) := by
  unfold fX10_areLamps at hf
  obtain ⟨hx, hb, hr, hml, hown, hts, hlocks, hG, hV, hZ⟩ := id B
  refine lv_aload_n hx hb dX10_areLamps_0 rfl (lv_at hl 0 rfl) ?_
  refine lv_iload_n hx hb dX10_areLamps_1 rfl (lv_at hl 1 rfl) ?_
  obtain ⟨r2, hc1, hf⟩ := wbind_e hf
  refine wc_V (As := [.int a1]) (rest := []) hx hb hml hown hts hG hV hZ (wlt_9 (rfl : wkd 70 = 9)) (q := (RX10, TX10, 31)) (wen_9 (rfl : wkd 70 = 9)) rfl (cX10_isLamp_ok l E M a1 hc1) (cwV 1 hts gl_X10_112 rfl rfl rfl cdX10_isLamp ⟨Nat.le_of_ble_eq_true rfl, Nat.le_of_ble_eq_true rfl⟩) rfl hl.1 rfl (Nat.le_of_ble_eq_true rfl) dX10_areLamps_2 ⟨Nat.zero_le _, Nat.zero_le _⟩ hW hS rfl (fun H locs hW hS => ?_)
  rcases wif_e hf with ⟨hq3, hf⟩ | ⟨hq3, hf⟩
  · refine lv_if_eq (tgt := 25) hx hb dX10_areLamps_5 (by decide) (fun _ => ?_) (fun h => absurd hq3 h)
    refine lv_iconst (v := 0) hx hb dX10_areLamps_25 rfl ?_
    have hres := Option.some.inj hf
    subst hres
    exact W.zret hx hb hr (wb_n false) (wr_q hG hV hZ hW hS) hS.2.2 dX10_areLamps_26
  · refine lv_if_eq (tgt := 25) hx hb dX10_areLamps_5 (by decide) (fun h => absurd h hq3) (fun _ => ?_)
    refine lv_aload_n hx hb dX10_areLamps_8 rfl (lv_at hl 0 rfl) ?_
    refine lv_iload_n hx hb dX10_areLamps_9 rfl (lv_at hl 2 rfl) ?_
    obtain ⟨r5, hc4, hf⟩ := wbind_e hf
    refine wc_V (As := [.int a2]) (rest := []) hx hb hml hown hts hG hV hZ (wlt_9 (rfl : wkd 70 = 9)) (q := (RX10, TX10, 31)) (wen_9 (rfl : wkd 70 = 9)) rfl (cX10_isLamp_ok l E M a2 hc4) (cwV 1 hts gl_X10_112 rfl rfl rfl cdX10_isLamp ⟨Nat.le_of_ble_eq_true rfl, Nat.le_of_ble_eq_true rfl⟩) rfl hl.1 rfl (Nat.le_of_ble_eq_true rfl) dX10_areLamps_10 ⟨Nat.zero_le _, Nat.zero_le _⟩ hW hS rfl (fun H locs hW hS => ?_)
    rcases wif_e hf with ⟨hq6, hf⟩ | ⟨hq6, hf⟩
    · refine lv_if_eq (tgt := 25) hx hb dX10_areLamps_13 (by decide) (fun _ => ?_) (fun h => absurd hq6 h)
      refine lv_iconst (v := 0) hx hb dX10_areLamps_25 rfl ?_
      have hres := Option.some.inj hf
      subst hres
      exact W.zret hx hb hr (wb_n false) (wr_q hG hV hZ hW hS) hS.2.2 dX10_areLamps_26
    · refine lv_if_eq (tgt := 25) hx hb dX10_areLamps_13 (by decide) (fun h => absurd h hq6) (fun _ => ?_)
      refine lv_iload_n hx hb dX10_areLamps_16 rfl (lv_at hl 1 rfl) ?_
      refine lv_iload_n hx hb dX10_areLamps_17 rfl (lv_at hl 2 rfl) ?_
      rcases wif_e hf with ⟨hq7, hf⟩ | ⟨hq7, hf⟩
      · refine lv_icmp_gt (tgt := 25) hx hb dX10_areLamps_18 (by decide) (fun _ => ?_) (fun h => absurd hq7 h)
        refine lv_iconst (v := 0) hx hb dX10_areLamps_25 rfl ?_
        have hres := Option.some.inj hf
        subst hres
        exact W.zret hx hb hr (wb_n false) (wr_q hG hV hZ hW hS) hS.2.2 dX10_areLamps_26
      · refine lv_icmp_gt (tgt := 25) hx hb dX10_areLamps_18 (by decide) (fun h => absurd h hq7) (fun _ => ?_)
        refine lv_iconst (v := 1) hx hb dX10_areLamps_21 rfl ?_
        refine lv_goto (tgt := 26) hx hb dX10_areLamps_22 (by decide) ?_
        have hres := Option.some.inj hf
        subst hres
        exact W.zret hx hb hr (wb_n true) (wr_q hG hV hZ hW hS) hS.2.2 dX10_areLamps_26
theorem cX10_areLamps_ok (l : Launch) (E : wE) (M : wMem) (a1 : Int32) (a2 : Int32) {res : Bool} (hf : fX10_areLamps M a1 a2 = some res) : wMet l yX10_areLamps (wsM yX10_areLamps cX10_areLamps 3 (some .boolean)) ({ frames := 1, cells := 0, slots := 0, locals := 21 } : Room) E M [.ref (wad E 70), .int a1, .int a2] (some (.int (wb res))) M :=
  wc_of (cc := cX10_areLamps) (maxL := 3) (ret := (some .boolean)) (by decide) (Nat.le_of_ble_eq_true rfl) (fun _ _ _ _ _ _ _ _ B hW hl => pX10_areLamps B  hf hW va_S.rf hl)
end
theorem cdX10_meter : yX10_meter.cls = RX10 ∧ yX10_meter.cls ≠ "java/lang/invoke/MethodHandle" ∧ yX10_meter.cls ≠ "java/lang/invoke/VarHandle" ∧ (parseMethodDescriptor yX10_meter.desc).map (fun d => d.parameters.length) = some 2 := by decide +kernel
section
variable {p : Program} {l : Launch} {e : Env} {s : State} {m : MethodId} {args : Array Value} {below : List Frame} {meth : Method} {c : Code} {E : wE}
set_option maxRecDepth 100000 in
set_option maxHeartbeats 4000000 in
theorem pX10_meter (B : wB E p s m args meth c cX10_meter 3 RX10 (some .int)) {M : wMem} {a1 : Int32} {a2 : Int32}  {res : Int32 × wMem} (hf : fX10_meter M a1 a2 = some res) {H : Heap} {locs : List Loc} {ls : Array Slot} (hW : wH E M H) (hS : va_S (wA E) s.heap H locs) (hl : lv_has ls 3 [(0, .ref (wad E 70)), (1, .int a1), (2, .int a2)]) : W p l e ({ frames := 2, cells := 0, slots := 0, locals := 43 } : Room) s m args below meth c H locs 0 0 (MQ below (wQ E (some (.int res.1)) res.2) args s 0 0 (wA E)) (F0 m 0 ls []) := by
  unfold fX10_meter at hf
  obtain ⟨hx, hb, hr, hml, hown, hts, hlocks, hG, hV, hZ⟩ := id B
  refine lv_aload_n hx hb dX10_meter_0 rfl (lv_at hl 0 rfl) ?_
  refine lv_iload_n hx hb dX10_meter_1 rfl (lv_at hl 1 rfl) ?_
  refine lv_iload_n hx hb dX10_meter_2 rfl (lv_at hl 2 rfl) ?_
  obtain ⟨r2, hc1, hf⟩ := wbind_e hf
  refine wc_V (As := [.int a1, .int a2]) (rest := []) hx hb hml hown hts hG hV hZ (wlt_9 (rfl : wkd 70 = 9)) (q := (RX10, TX10, 31)) (wen_9 (rfl : wkd 70 = 9)) rfl (cX10_areLamps_ok l E M a1 a2 hc1) (cwV 2 hts gl_X10_196 rfl rfl rfl cdX10_areLamps ⟨Nat.le_of_ble_eq_true rfl, Nat.le_of_ble_eq_true rfl⟩) rfl hl.1 rfl (Nat.le_of_ble_eq_true rfl) dX10_meter_3 ⟨Nat.zero_le _, Nat.zero_le _⟩ hW hS rfl (fun H locs hW hS => ?_)
  rcases wif_e hf with ⟨hq3, hf⟩ | ⟨hq3, hf⟩
  · refine lv_if_ne (tgt := 17) hx hb dX10_meter_6 (by decide) (fun h => absurd hq3 h) (fun _ => ?_)
    refine lv_aload_n hx hb dX10_meter_9 rfl (lv_at hl 0 rfl) ?_
    refine lv_iconst (v := (-1)) hx hb dX10_meter_10 rfl ?_
    obtain ⟨r8, M9, hc7, hf⟩ := wbind_p hf
    refine wc_V (As := [.int (-1)]) (rest := []) hx hb hml hown hts hG hV hZ (wlt_9 (rfl : wkd 70 = 9)) (q := (RX10, TX10, 31)) (wen_9 (rfl : wkd 70 = 9)) rfl (cX10_no_ok l E M (-1) hc7) (cwV 1 hts gl_X10_83 rfl rfl rfl cdX10_no ⟨Nat.le_of_ble_eq_true rfl, Nat.le_of_ble_eq_true rfl⟩) rfl hl.1 rfl (Nat.le_of_ble_eq_true rfl) dX10_meter_11 ⟨Nat.zero_le _, Nat.zero_le _⟩ hW hS rfl (fun H locs hW hS => ?_)
    refine lv_goto (tgt := 31) hx hb dX10_meter_14 (by decide) ?_
    have hres := Option.some.inj hf
    subst hres
    exact W.iret hx hb hr (wr_q hG hV hZ hW hS) hS.2.2 dX10_meter_31
  · refine lv_if_ne (tgt := 17) hx hb dX10_meter_6 (by decide) (fun _ => ?_) (fun h => absurd h hq3)
    refine lv_aload_n hx hb dX10_meter_17 rfl (lv_at hl 0 rfl) ?_
    refine lv_iload_n hx hb dX10_meter_18 rfl (lv_at hl 1 rfl) ?_
    refine lv_iload_n hx hb dX10_meter_19 rfl (lv_at hl 2 rfl) ?_
    obtain ⟨r5, hc4, hf⟩ := wbind_e hf
    refine wc_V (As := [.int a1, .int a2]) (rest := []) hx hb hml hown hts hG hV hZ (wlt_9 (rfl : wkd 70 = 9)) (q := (RX10, TX10, 31)) (wen_9 (rfl : wkd 70 = 9)) rfl (cX10_isWhole_ok l E M a1 a2 hc4) (cwV 2 hts gl_X10_149 rfl rfl rfl cdX10_isWhole ⟨Nat.le_of_ble_eq_true rfl, Nat.le_of_ble_eq_true rfl⟩) rfl hl.1 rfl (Nat.le_of_ble_eq_true rfl) dX10_meter_20 ⟨Nat.zero_le _, Nat.zero_le _⟩ hW hS rfl (fun H locs hW hS => ?_)
    rcases wif_e hf with ⟨hq6, hf⟩ | ⟨hq6, hf⟩
    · refine lv_if_eq (tgt := 30) hx hb dX10_meter_23 (by decide) (fun _ => ?_) (fun h => absurd hq6 h)
      refine lv_iconst (v := 0) hx hb dX10_meter_30 rfl ?_
      have hres := Option.some.inj hf
      subst hres
      exact W.iret hx hb hr (wr_q hG hV hZ hW hS) hS.2.2 dX10_meter_31
    · refine lv_if_eq (tgt := 30) hx hb dX10_meter_23 (by decide) (fun h => absurd h hq6) (fun _ => ?_)
      refine lv_iconst (v := 1) hx hb dX10_meter_26 rfl ?_
      refine lv_goto (tgt := 31) hx hb dX10_meter_27 (by decide) ?_
      have hres := Option.some.inj hf
      subst hres
      exact W.iret hx hb hr (wr_q hG hV hZ hW hS) hS.2.2 dX10_meter_31
theorem cX10_meter_ok (l : Launch) (E : wE) (M : wMem) (a1 : Int32) (a2 : Int32) {res : Int32 × wMem} (hf : fX10_meter M a1 a2 = some res) : wMet l yX10_meter (wsM yX10_meter cX10_meter 3 (some .int)) ({ frames := 2, cells := 0, slots := 0, locals := 43 } : Room) E M [.ref (wad E 70), .int a1, .int a2] (some (.int res.1)) res.2 :=
  wc_of (cc := cX10_meter) (maxL := 3) (ret := (some .int)) (by decide) (Nat.le_of_ble_eq_true rfl) (fun _ _ _ _ _ _ _ _ B hW hl => pX10_meter B  hf hW va_S.rf hl)
end
theorem cdX10_finder : yX10_finder.cls = RX10 ∧ yX10_finder.cls ≠ "java/lang/invoke/MethodHandle" ∧ yX10_finder.cls ≠ "java/lang/invoke/VarHandle" ∧ (parseMethodDescriptor yX10_finder.desc).map (fun d => d.parameters.length) = some 1 := by decide +kernel
section
variable {p : Program} {l : Launch} {e : Env} {s : State} {m : MethodId} {args : Array Value} {below : List Frame} {meth : Method} {c : Code} {E : wE}
set_option maxRecDepth 100000 in
set_option maxHeartbeats 4000000 in
theorem pX10_finder (B : wB E p s m args meth c cX10_finder 2 RX10 (some .int)) {M : wMem} {a1 : Int32}  {res : Int32 × wMem} (hf : fX10_finder M a1 = some res) {H : Heap} {locs : List Loc} {ls : Array Slot} (hW : wH E M H) (hS : va_S (wA E) s.heap H locs) (hl : lv_has ls 2 [(0, .ref (wad E 70)), (1, .int a1)]) : W p l e ({ frames := 1, cells := 0, slots := 0, locals := 23 } : Room) s m args below meth c H locs 0 0 (MQ below (wQ E (some (.int res.1)) res.2) args s 0 0 (wA E)) (F0 m 0 ls []) := by
  unfold fX10_finder at hf
  obtain ⟨hx, hb, hr, hml, hown, hts, hlocks, hG, hV, hZ⟩ := id B
  refine lv_aload_n hx hb dX10_finder_0 rfl (lv_at hl 0 rfl) ?_
  refine lv_iload_n hx hb dX10_finder_1 rfl (lv_at hl 1 rfl) ?_
  obtain ⟨r2, hc1, hf⟩ := wbind_e hf
  refine wc_V (As := [.int a1]) (rest := []) hx hb hml hown hts hG hV hZ (wlt_9 (rfl : wkd 70 = 9)) (q := (RX10, TX10, 31)) (wen_9 (rfl : wkd 70 = 9)) rfl (cX10_isLamp_ok l E M a1 hc1) (cwV 1 hts gl_X10_112 rfl rfl rfl cdX10_isLamp ⟨Nat.le_of_ble_eq_true rfl, Nat.le_of_ble_eq_true rfl⟩) rfl hl.1 rfl (Nat.le_of_ble_eq_true rfl) dX10_finder_2 ⟨Nat.zero_le _, Nat.zero_le _⟩ hW hS rfl (fun H locs hW hS => ?_)
  rcases wif_e hf with ⟨hq3, hf⟩ | ⟨hq3, hf⟩
  · refine lv_if_ne (tgt := 16) hx hb dX10_finder_5 (by decide) (fun h => absurd hq3 h) (fun _ => ?_)
    refine lv_aload_n hx hb dX10_finder_8 rfl (lv_at hl 0 rfl) ?_
    refine lv_iconst (v := (-1)) hx hb dX10_finder_9 rfl ?_
    obtain ⟨r8, M9, hc7, hf⟩ := wbind_p hf
    refine wc_V (As := [.int (-1)]) (rest := []) hx hb hml hown hts hG hV hZ (wlt_9 (rfl : wkd 70 = 9)) (q := (RX10, TX10, 31)) (wen_9 (rfl : wkd 70 = 9)) rfl (cX10_no_ok l E M (-1) hc7) (cwV 1 hts gl_X10_83 rfl rfl rfl cdX10_no ⟨Nat.le_of_ble_eq_true rfl, Nat.le_of_ble_eq_true rfl⟩) rfl hl.1 rfl (Nat.le_of_ble_eq_true rfl) dX10_finder_10 ⟨Nat.zero_le _, Nat.zero_le _⟩ hW hS rfl (fun H locs hW hS => ?_)
    refine lv_goto (tgt := 32) hx hb dX10_finder_13 (by decide) ?_
    have hres := Option.some.inj hf
    subst hres
    exact W.iret hx hb hr (wr_q hG hV hZ hW hS) hS.2.2 dX10_finder_32
  · refine lv_if_ne (tgt := 16) hx hb dX10_finder_5 (by decide) (fun _ => ?_) (fun h => absurd h hq3)
    refine lv_aload_n hx hb dX10_finder_16 rfl (lv_at hl 0 rfl) ?_
    refine lv_iconst (v := 0) hx hb dX10_finder_17 rfl ?_
    refine lv_iload_n hx hb dX10_finder_18 rfl (lv_at hl 1 rfl) ?_
    refine lv_iconst (v := 1) hx hb dX10_finder_19 rfl ?_
    refine lv_isub hx hb dX10_finder_20 ?_
    obtain ⟨r5, hc4, hf⟩ := wbind_e hf
    refine wc_V (As := [.int 0, .int (a1 - 1)]) (rest := []) hx hb hml hown hts hG hV hZ (wlt_9 (rfl : wkd 70 = 9)) (q := (RX10, TX10, 31)) (wen_9 (rfl : wkd 70 = 9)) rfl (cX10_isWhole_ok l E M 0 (a1 - 1) hc4) (cwV 2 hts gl_X10_149 rfl rfl rfl cdX10_isWhole ⟨Nat.le_of_ble_eq_true rfl, Nat.le_of_ble_eq_true rfl⟩) rfl hl.1 rfl (Nat.le_of_ble_eq_true rfl) dX10_finder_21 ⟨Nat.zero_le _, Nat.zero_le _⟩ hW hS rfl (fun H locs hW hS => ?_)
    rcases wif_e hf with ⟨hq6, hf⟩ | ⟨hq6, hf⟩
    · refine lv_if_eq (tgt := 31) hx hb dX10_finder_24 (by decide) (fun _ => ?_) (fun h => absurd hq6 h)
      refine lv_iconst (v := 0) hx hb dX10_finder_31 rfl ?_
      have hres := Option.some.inj hf
      subst hres
      exact W.iret hx hb hr (wr_q hG hV hZ hW hS) hS.2.2 dX10_finder_32
    · refine lv_if_eq (tgt := 31) hx hb dX10_finder_24 (by decide) (fun h => absurd h hq6) (fun _ => ?_)
      refine lv_iconst (v := 1) hx hb dX10_finder_27 rfl ?_
      refine lv_goto (tgt := 32) hx hb dX10_finder_28 (by decide) ?_
      have hres := Option.some.inj hf
      subst hres
      exact W.iret hx hb hr (wr_q hG hV hZ hW hS) hS.2.2 dX10_finder_32
theorem cX10_finder_ok (l : Launch) (E : wE) (M : wMem) (a1 : Int32) {res : Int32 × wMem} (hf : fX10_finder M a1 = some res) : wMet l yX10_finder (wsM yX10_finder cX10_finder 2 (some .int)) ({ frames := 1, cells := 0, slots := 0, locals := 23 } : Room) E M [.ref (wad E 70), .int a1] (some (.int res.1)) res.2 :=
  wc_of (cc := cX10_finder) (maxL := 2) (ret := (some .int)) (by decide) (Nat.le_of_ble_eq_true rfl) (fun _ _ _ _ _ _ _ _ B hW hl => pX10_finder B  hf hW va_S.rf hl)
end
theorem cdX10_touches : yX10_touches.cls = RX10 ∧ yX10_touches.cls ≠ "java/lang/invoke/MethodHandle" ∧ yX10_touches.cls ≠ "java/lang/invoke/VarHandle" ∧ (parseMethodDescriptor yX10_touches.desc).map (fun d => d.parameters.length) = some 1 := by decide +kernel
section
variable {p : Program} {l : Launch} {e : Env} {s : State} {m : MethodId} {args : Array Value} {below : List Frame} {meth : Method} {c : Code} {E : wE}
set_option maxRecDepth 100000 in
set_option maxHeartbeats 4000000 in
theorem pX10_touches (B : wB E p s m args meth c cX10_touches 2 RX10 none) {M : wMem} {a1 : Int32}  {res : wMem} (hf : fX10_touches M a1 = some res) {H : Heap} {locs : List Loc} {ls : Array Slot} (hW : wH E M H) (hS : va_S (wA E) s.heap H locs) (hl : lv_has ls 2 [(0, .ref (wad E 70)), (1, .int a1)]) : W p l e ({ frames := 1, cells := 0, slots := 0, locals := 21 } : Room) s m args below meth c H locs 0 0 (MQ below (wQ E none res) args s 0 0 (wA E)) (F0 m 0 ls []) := by
  unfold fX10_touches at hf
  obtain ⟨hx, hb, hr, hml, hown, hts, hlocks, hG, hV, hZ⟩ := id B
  refine lv_aload_n hx hb dX10_touches_0 rfl (lv_at hl 0 rfl) ?_
  refine wm_get hx hb hts wu_X10 hown hV hW (wlt_9 (rfl : wkd 70 = 9)) (wen_9 (rfl : wkd 70 = 9)) (C := RX10) (T := TX10) (N := 31) rfl 5 (by decide) (hts _ wA_719) rfl dX10_touches_1 ?_
  refine lv_iload_n hx hb dX10_touches_4 rfl (lv_at hl 1 rfl) ?_
  obtain ⟨hi1, hf⟩ := wgi_e hf
  refine wm_iald hx hb hV hW (rfl : wkd 76 = 21) (n := 12) rfl hi1 dX10_touches_5 ?_
  refine lv_iconst (v := 3) hx hb dX10_touches_6 rfl ?_
  rcases wif_e hf with ⟨hq2, hf⟩ | ⟨hq2, hf⟩
  · refine lv_icmp_ne (tgt := 20) hx hb dX10_touches_7 (by decide) (fun h => absurd hq2 h) (fun _ => ?_)
    refine lv_aload_n hx hb dX10_touches_10 rfl (lv_at hl 0 rfl) ?_
    refine wm_get hx hb hts wu_X10 hown hV hW (wlt_9 (rfl : wkd 70 = 9)) (wen_9 (rfl : wkd 70 = 9)) (C := RX10) (T := TX10) (N := 31) rfl 5 (by decide) (hts _ wA_719) rfl dX10_touches_11 ?_
    refine lv_iload_n hx hb dX10_touches_14 rfl (lv_at hl 1 rfl) ?_
    refine lv_iconst (v := 0) hx hb dX10_touches_15 rfl ?_
    obtain ⟨hi12, hf⟩ := wgi_e hf
    refine wm_iast hx hb hG hV hW hS (rfl : wkd 76 = 21) (n := 12) rfl hi12 dX10_touches_16 (fun H locs hW hS => ?_)
    obtain ⟨M13, hW, hf⟩ := wlet_M hW hf
    refine lv_goto (tgt := 54) hx hb dX10_touches_17 (by decide) ?_
    have hres := Option.some.inj hf
    subst hres
    exact W.vret hx hb hr (wr_q hG hV hZ hW hS) hS.2.2 dX10_touches_54
  · refine lv_icmp_ne (tgt := 20) hx hb dX10_touches_7 (by decide) (fun _ => ?_) (fun h => absurd h hq2)
    refine lv_aload_n hx hb dX10_touches_20 rfl (lv_at hl 0 rfl) ?_
    refine wm_get hx hb hts wu_X10 hown hV hW (wlt_9 (rfl : wkd 70 = 9)) (wen_9 (rfl : wkd 70 = 9)) (C := RX10) (T := TX10) (N := 31) rfl 5 (by decide) (hts _ wA_719) rfl dX10_touches_21 ?_
    refine lv_iload_n hx hb dX10_touches_24 rfl (lv_at hl 1 rfl) ?_
    obtain ⟨hi3, hf⟩ := wgi_e hf
    refine wm_iald hx hb hV hW (rfl : wkd 76 = 21) (n := 12) rfl hi3 dX10_touches_25 ?_
    rcases wif_e hf with ⟨hq4, hf⟩ | ⟨hq4, hf⟩
    · refine lv_if_ne (tgt := 54) hx hb dX10_touches_26 (by decide) (fun h => absurd hq4 h) (fun _ => ?_)
      refine lv_aload_n hx hb dX10_touches_29 rfl (lv_at hl 0 rfl) ?_
      refine lv_iload_n hx hb dX10_touches_30 rfl (lv_at hl 1 rfl) ?_
      obtain ⟨r6, hc5, hf⟩ := wbind_e hf
      refine wc_V (As := [.int a1]) (rest := []) hx hb hml hown hts hG hV hZ (wlt_9 (rfl : wkd 70 = 9)) (q := (RX10, TX10, 31)) (wen_9 (rfl : wkd 70 = 9)) rfl (cX10_isLoose_ok l E M a1 hc5) (cwV 1 hts gl_X10_165 rfl rfl rfl cdX10_isLoose ⟨Nat.le_of_ble_eq_true rfl, Nat.le_of_ble_eq_true rfl⟩) rfl hl.1 rfl (Nat.le_of_ble_eq_true rfl) dX10_touches_31 ⟨Nat.zero_le _, Nat.zero_le _⟩ hW hS rfl (fun H locs hW hS => ?_)
      rcases wif_e hf with ⟨hq7, hf⟩ | ⟨hq7, hf⟩
      · refine lv_if_eq (tgt := 54) hx hb dX10_touches_34 (by decide) (fun _ => ?_) (fun h => absurd hq7 h)
        have hres := Option.some.inj hf
        subst hres
        exact W.vret hx hb hr (wr_q hG hV hZ hW hS) hS.2.2 dX10_touches_54
      · refine lv_if_eq (tgt := 54) hx hb dX10_touches_34 (by decide) (fun h => absurd h hq7) (fun _ => ?_)
        refine lv_aload_n hx hb dX10_touches_37 rfl (lv_at hl 0 rfl) ?_
        refine wm_get hx hb hts wu_X10 hown hV hW (wlt_9 (rfl : wkd 70 = 9)) (wen_9 (rfl : wkd 70 = 9)) (C := RX10) (T := TX10) (N := 31) rfl 6 (by decide) (hts _ wA_720) rfl dX10_touches_38 ?_
        refine lv_iconst (v := 3) hx hb dX10_touches_41 rfl ?_
        obtain ⟨hi8, hf⟩ := wgi_e hf
        refine wm_iald hx hb hV hW (rfl : wkd 77 = 21) (n := 4) rfl hi8 dX10_touches_42 ?_
        refine lv_iconst (v := 3) hx hb dX10_touches_43 rfl ?_
        rcases wif_e hf with ⟨hq9, hf⟩ | ⟨hq9, hf⟩
        · refine lv_icmp_gt (tgt := 54) hx hb dX10_touches_44 (by decide) (fun _ => ?_) (fun h => absurd hq9 h)
          have hres := Option.some.inj hf
          subst hres
          exact W.vret hx hb hr (wr_q hG hV hZ hW hS) hS.2.2 dX10_touches_54
        · refine lv_icmp_gt (tgt := 54) hx hb dX10_touches_44 (by decide) (fun h => absurd h hq9) (fun _ => ?_)
          refine lv_aload_n hx hb dX10_touches_47 rfl (lv_at hl 0 rfl) ?_
          refine wm_get hx hb hts wu_X10 hown hV hW (wlt_9 (rfl : wkd 70 = 9)) (wen_9 (rfl : wkd 70 = 9)) (C := RX10) (T := TX10) (N := 31) rfl 5 (by decide) (hts _ wA_719) rfl dX10_touches_48 ?_
          refine lv_iload_n hx hb dX10_touches_51 rfl (lv_at hl 1 rfl) ?_
          refine lv_iconst (v := 3) hx hb dX10_touches_52 rfl ?_
          obtain ⟨hi10, hf⟩ := wgi_e hf
          refine wm_iast hx hb hG hV hW hS (rfl : wkd 76 = 21) (n := 12) rfl hi10 dX10_touches_53 (fun H locs hW hS => ?_)
          obtain ⟨M11, hW, hf⟩ := wlet_M hW hf
          have hres := Option.some.inj hf
          subst hres
          exact W.vret hx hb hr (wr_q hG hV hZ hW hS) hS.2.2 dX10_touches_54
    · refine lv_if_ne (tgt := 54) hx hb dX10_touches_26 (by decide) (fun _ => ?_) (fun h => absurd h hq4)
      have hres := Option.some.inj hf
      subst hres
      exact W.vret hx hb hr (wr_q hG hV hZ hW hS) hS.2.2 dX10_touches_54
theorem cX10_touches_ok (l : Launch) (E : wE) (M : wMem) (a1 : Int32) {res : wMem} (hf : fX10_touches M a1 = some res) : wMet l yX10_touches (wsM yX10_touches cX10_touches 2 none) ({ frames := 1, cells := 0, slots := 0, locals := 21 } : Room) E M [.ref (wad E 70), .int a1] none res :=
  wc_of (cc := cX10_touches) (maxL := 2) (ret := none) (by decide) (Nat.le_of_ble_eq_true rfl) (fun _ _ _ _ _ _ _ _ B hW hl => pX10_touches B  hf hW va_S.rf hl)
end
theorem cdX10_touch : yX10_touch.cls = RX10 ∧ yX10_touch.cls ≠ "java/lang/invoke/MethodHandle" ∧ yX10_touch.cls ≠ "java/lang/invoke/VarHandle" ∧ (parseMethodDescriptor yX10_touch.desc).map (fun d => d.parameters.length) = some 1 := by decide +kernel
section
variable {p : Program} {l : Launch} {e : Env} {s : State} {m : MethodId} {args : Array Value} {below : List Frame} {meth : Method} {c : Code} {E : wE}
set_option maxRecDepth 100000 in
set_option maxHeartbeats 4000000 in
theorem pX10_touch (B : wB E p s m args meth c cX10_touch 2 RX10 (some .int)) {M : wMem} {a1 : Int32}  {res : Int32 × wMem} (hf : fX10_touch M a1 = some res) {H : Heap} {locs : List Loc} {ls : Array Slot} (hW : wH E M H) (hS : va_S (wA E) s.heap H locs) (hl : lv_has ls 2 [(0, .ref (wad E 70)), (1, .int a1)]) : W p l e ({ frames := 2, cells := 0, slots := 0, locals := 42 } : Room) s m args below meth c H locs 0 0 (MQ below (wQ E (some (.int res.1)) res.2) args s 0 0 (wA E)) (F0 m 0 ls []) := by
  unfold fX10_touch at hf
  obtain ⟨hx, hb, hr, hml, hown, hts, hlocks, hG, hV, hZ⟩ := id B
  refine lv_aload_n hx hb dX10_touch_0 rfl (lv_at hl 0 rfl) ?_
  refine lv_iload_n hx hb dX10_touch_1 rfl (lv_at hl 1 rfl) ?_
  obtain ⟨r2, hc1, hf⟩ := wbind_e hf
  refine wc_V (As := [.int a1]) (rest := []) hx hb hml hown hts hG hV hZ (wlt_9 (rfl : wkd 70 = 9)) (q := (RX10, TX10, 31)) (wen_9 (rfl : wkd 70 = 9)) rfl (cX10_isLamp_ok l E M a1 hc1) (cwV 1 hts gl_X10_112 rfl rfl rfl cdX10_isLamp ⟨Nat.le_of_ble_eq_true rfl, Nat.le_of_ble_eq_true rfl⟩) rfl hl.1 rfl (Nat.le_of_ble_eq_true rfl) dX10_touch_2 ⟨Nat.zero_le _, Nat.zero_le _⟩ hW hS rfl (fun H locs hW hS => ?_)
  rcases wif_e hf with ⟨hq3, hf⟩ | ⟨hq3, hf⟩
  · refine lv_if_ne (tgt := 14) hx hb dX10_touch_5 (by decide) (fun h => absurd hq3 h) (fun _ => ?_)
    refine lv_aload_n hx hb dX10_touch_8 rfl (lv_at hl 0 rfl) ?_
    refine lv_iconst (v := (-1)) hx hb dX10_touch_9 rfl ?_
    obtain ⟨r9, M10, hc8, hf⟩ := wbind_p hf
    refine wc_V (As := [.int (-1)]) (rest := []) hx hb hml hown hts hG hV hZ (wlt_9 (rfl : wkd 70 = 9)) (q := (RX10, TX10, 31)) (wen_9 (rfl : wkd 70 = 9)) rfl (cX10_no_ok l E M (-1) hc8) (cwV 1 hts gl_X10_83 rfl rfl rfl cdX10_no ⟨Nat.le_of_ble_eq_true rfl, Nat.le_of_ble_eq_true rfl⟩) rfl hl.1 rfl (Nat.le_of_ble_eq_true rfl) dX10_touch_10 ⟨Nat.zero_le _, Nat.zero_le _⟩ hW hS rfl (fun H locs hW hS => ?_)
    have hres := Option.some.inj hf
    subst hres
    exact W.iret hx hb hr (wr_q hG hV hZ hW hS) hS.2.2 dX10_touch_13
  · refine lv_if_ne (tgt := 14) hx hb dX10_touch_5 (by decide) (fun _ => ?_) (fun h => absurd h hq3)
    refine lv_aload_n hx hb dX10_touch_14 rfl (lv_at hl 0 rfl) ?_
    refine lv_iload_n hx hb dX10_touch_15 rfl (lv_at hl 1 rfl) ?_
    obtain ⟨M6, hc4, hf⟩ := wbind_e hf
    refine wc_V (As := [.int a1]) (rest := []) hx hb hml hown hts hG hV hZ (wlt_9 (rfl : wkd 70 = 9)) (q := (RX10, TX10, 31)) (wen_9 (rfl : wkd 70 = 9)) rfl (cX10_touches_ok l E M a1 hc4) (cwV 1 hts gl_X10_199 rfl rfl rfl cdX10_touches ⟨Nat.le_of_ble_eq_true rfl, Nat.le_of_ble_eq_true rfl⟩) rfl hl.1 rfl (Nat.le_of_ble_eq_true rfl) dX10_touch_16 ⟨Nat.zero_le _, Nat.zero_le _⟩ hW hS rfl (fun H locs hW hS => ?_)
    refine lv_aload_n hx hb dX10_touch_19 rfl (lv_at hl 0 rfl) ?_
    refine wm_get hx hb hts wu_X10 hown hV hW (wlt_9 (rfl : wkd 70 = 9)) (wen_9 (rfl : wkd 70 = 9)) (C := RX10) (T := TX10) (N := 31) rfl 5 (by decide) (hts _ wA_719) rfl dX10_touch_20 ?_
    refine lv_iload_n hx hb dX10_touch_23 rfl (lv_at hl 1 rfl) ?_
    obtain ⟨hi7, hf⟩ := wgi_e hf
    refine wm_iald hx hb hV hW (rfl : wkd 76 = 21) (n := 12) rfl hi7 dX10_touch_24 ?_
    have hres := Option.some.inj hf
    subst hres
    exact W.iret hx hb hr (wr_q hG hV hZ hW hS) hS.2.2 dX10_touch_25
theorem cX10_touch_ok (l : Launch) (E : wE) (M : wMem) (a1 : Int32) {res : Int32 × wMem} (hf : fX10_touch M a1 = some res) : wMet l yX10_touch (wsM yX10_touch cX10_touch 2 (some .int)) ({ frames := 2, cells := 0, slots := 0, locals := 42 } : Room) E M [.ref (wad E 70), .int a1] (some (.int res.1)) res.2 :=
  wc_of (cc := cX10_touch) (maxL := 2) (ret := (some .int)) (by decide) (Nat.le_of_ble_eq_true rfl) (fun _ _ _ _ _ _ _ _ B hW hl => pX10_touch B  hf hW va_S.rf hl)
end
theorem cdX10_weightOf : yX10_weightOf.cls = RX10 ∧ yX10_weightOf.cls ≠ "java/lang/invoke/MethodHandle" ∧ yX10_weightOf.cls ≠ "java/lang/invoke/VarHandle" ∧ (parseMethodDescriptor yX10_weightOf.desc).map (fun d => d.parameters.length) = some 2 := by decide +kernel
section
variable {p : Program} {l : Launch} {e : Env} {s : State} {m : MethodId} {args : Array Value} {below : List Frame} {meth : Method} {c : Code} {E : wE}
set_option maxRecDepth 100000 in
set_option maxHeartbeats 4000000 in
theorem pX10_weightOf_5_b (B : wB E p s m args meth c cX10_weightOf 5 RX10 (some .int)) {M : wMem} {y2 : Int32} {y3 : Int32} {y4 : Int32}  {rec5 : (Int32 × Int32 → Option (Int32))} {res : Int32}   (hrec5 : ∀ (y3' : Int32) (y4' : Int32), rec5 (y3', y4') = some res → ∀ (H : Heap) (locs : List Loc) (ls : Array Slot), wH E M H → va_S (wA E) s.heap H locs → lv_has ls 5 [(0, .ref (wad E 70)), (2, .int y2), (3, .int y3'), (4, .int y4')] → W p l e ({ frames := 2, cells := 0, slots := 0, locals := 42 } : Room) s m args below meth c H locs 0 0 (MQ below (wQ E (some (.int res)) M) args s 0 0 (wA E)) (F0 m 5 ls [])) (hf : fX10_weightOf_5_b M  rec5 y2 y3 y4 = some res) {H : Heap} {locs : List Loc} {ls : Array Slot} (hW : wH E M H) (hS : va_S (wA E) s.heap H locs) (hl : lv_has ls 5 [(0, .ref (wad E 70)), (2, .int y2), (3, .int y3), (4, .int y4)]) : W p l e ({ frames := 2, cells := 0, slots := 0, locals := 42 } : Room) s m args below meth c H locs 0 0 (MQ below (wQ E (some (.int res)) M) args s 0 0 (wA E)) (F0 m 5 ls []) := by
  unfold fX10_weightOf_5_b at hf
  obtain ⟨hx, hb, hr, hml, hown, hts, hlocks, hG, hV, hZ⟩ := id B
  refine lv_iload hx hb dX10_weightOf_5 (lv_at hl 3 rfl) ?_
  refine lv_iload_n hx hb dX10_weightOf_7 rfl (lv_at hl 1 rfl) ?_
  rcases wif_e hf with ⟨hq1, hf⟩ | ⟨hq1, hf⟩
  · refine lv_icmp_gt (tgt := 26) hx hb dX10_weightOf_8 (by decide) (fun _ => ?_) (fun h => absurd hq1 h)
    refine lv_iload_n hx hb dX10_weightOf_26 rfl (lv_at hl 2 rfl) ?_
    have hres := Option.some.inj hf
    subst hres
    exact W.iret hx hb hr (wr_q hG hV hZ hW hS) hS.2.2 dX10_weightOf_27
  · refine lv_icmp_gt (tgt := 26) hx hb dX10_weightOf_8 (by decide) (fun h => absurd h hq1) (fun _ => ?_)
    refine lv_iload_n hx hb dX10_weightOf_11 rfl (lv_at hl 2 rfl) ?_
    refine lv_aload_n hx hb dX10_weightOf_12 rfl (lv_at hl 0 rfl) ?_
    refine lv_iload hx hb dX10_weightOf_13 (lv_at hl 3 rfl) ?_
    obtain ⟨r3, hc2, hf⟩ := wbind_e hf
    refine wc_V (As := [.int y4]) (rest := [.int y3]) hx hb hml hown hts hG hV hZ (wlt_9 (rfl : wkd 70 = 9)) (q := (RX10, TX10, 31)) (wen_9 (rfl : wkd 70 = 9)) rfl (cX10_likelyOf_ok l E M y4 hc2) (cwV 1 hts gl_X10_174 rfl rfl rfl cdX10_likelyOf ⟨Nat.le_of_ble_eq_true rfl, Nat.le_of_ble_eq_true rfl⟩) rfl hl.1 rfl (Nat.le_of_ble_eq_true rfl) dX10_weightOf_15 ⟨Nat.zero_le _, Nat.zero_le _⟩ hW hS rfl (fun H locs hW hS => ?_)
    refine lv_iadd hx hb dX10_weightOf_18 ?_
    refine lv_topi (fun x4 ex4 => ?_)
    replace hf := wlet_y ex4 hf
    refine lv_istore_n (lv' := [(3, .int x4), (0, .ref (wad E 70)), (2, .int y2), (4, .int y4)]) hx hb dX10_weightOf_19 rfl hl (by decide) rfl (fun ls hl => ?_)
    obtain ⟨x5, ex5, hf⟩ := wlet_e hf
    refine lv_iinc (v := x5) (lv' := [(4, .int x5), (3, .int x4), (0, .ref (wad E 70)), (2, .int y2)]) hx hb dX10_weightOf_20 hl (k := 3) rfl (by rw [ex5]; rfl) (by decide) rfl (fun ls hl => ?_)
    refine lv_goto (tgt := 5) hx hb dX10_weightOf_23 (by decide) ?_
    exact hrec5 x4 x5 hf _ _ _ hW hS (lv_sub hl [2, 3, 1, 0] rfl)
set_option maxRecDepth 100000 in
set_option maxHeartbeats 4000000 in
theorem pX10_weightOf_5 (B : wB E p s m args meth c cX10_weightOf 5 RX10 (some .int)) {M : wMem} {y2 : Int32} {y3 : Int32} {y4 : Int32}  {res : Int32}   (hf : fX10_weightOf_5 M  y2 y3 y4 = some res) {H : Heap} {locs : List Loc} {ls : Array Slot} (hW : wH E M H) (hS : va_S (wA E) s.heap H locs) (hl : lv_has ls 5 [(0, .ref (wad E 70)), (2, .int y2), (3, .int y3), (4, .int y4)]) : W p l e ({ frames := 2, cells := 0, slots := 0, locals := 42 } : Room) s m args below meth c H locs 0 0 (MQ below (wQ E (some (.int res)) M) args s 0 0 (wA E)) (F0 m 5 ls []) := by
  have key := wloop_W (b := (fun rec5 t => fX10_weightOf_5_b M  rec5 y2 t.1 t.2)) (P := fun t => ∀ (H : Heap) (locs : List Loc) (ls : Array Slot), wH E M H → va_S (wA E) s.heap H locs → lv_has ls 5 [(0, .ref (wad E 70)), (2, .int y2), (3, .int t.1), (4, .int t.2)] → W p l e ({ frames := 2, cells := 0, slots := 0, locals := 42 } : Room) s m args below meth c H locs 0 0 (MQ below (wQ E (some (.int res)) M) args s 0 0 (wA E)) (F0 m 5 ls [])) (r := res) (fun rec hrec t hf H locs ls hW hS hl => pX10_weightOf_5_b B   (fun v0 v1 hf H locs ls hW hS hl => hrec (v0, v1) hf H locs ls hW hS hl) hf hW hS hl)
  exact key wfuel (y3, y4) hf H locs ls hW hS hl
set_option maxRecDepth 100000 in
set_option maxHeartbeats 4000000 in
theorem pX10_weightOf (B : wB E p s m args meth c cX10_weightOf 5 RX10 (some .int)) {M : wMem} {a1 : Int32} {a2 : Int32}  {res : Int32} (hf : fX10_weightOf M a1 a2 = some res) {H : Heap} {locs : List Loc} {ls : Array Slot} (hW : wH E M H) (hS : va_S (wA E) s.heap H locs) (hl : lv_has ls 5 [(0, .ref (wad E 70)), (1, .int a1), (2, .int a2)]) : W p l e ({ frames := 2, cells := 0, slots := 0, locals := 42 } : Room) s m args below meth c H locs 0 0 (MQ below (wQ E (some (.int res)) M) args s 0 0 (wA E)) (F0 m 0 ls []) := by
  unfold fX10_weightOf at hf
  obtain ⟨hx, hb, hr, hml, hown, hts, hlocks, hG, hV, hZ⟩ := id B
  refine lv_iconst (v := 0) hx hb dX10_weightOf_0 rfl ?_
  refine lv_istore_n (lv' := [(3, .int 0), (0, .ref (wad E 70)), (1, .int a1), (2, .int a2)]) hx hb dX10_weightOf_1 rfl hl (by decide) rfl (fun ls hl => ?_)
  refine lv_iload_n hx hb dX10_weightOf_2 rfl (lv_at hl 2 rfl) ?_
  refine lv_istore (lv' := [(4, .int a1), (3, .int 0), (0, .ref (wad E 70)), (1, .int a1), (2, .int a2)]) hx hb dX10_weightOf_3 hl (by decide) rfl (fun ls hl => ?_)
  exact pX10_weightOf_5 B   hf hW hS (lv_sub hl [2, 4, 1, 0] rfl)
theorem cX10_weightOf_ok (l : Launch) (E : wE) (M : wMem) (a1 : Int32) (a2 : Int32) {res : Int32} (hf : fX10_weightOf M a1 a2 = some res) : wMet l yX10_weightOf (wsM yX10_weightOf cX10_weightOf 5 (some .int)) ({ frames := 2, cells := 0, slots := 0, locals := 42 } : Room) E M [.ref (wad E 70), .int a1, .int a2] (some (.int res)) M :=
  wc_of (cc := cX10_weightOf) (maxL := 5) (ret := (some .int)) (by decide) (Nat.le_of_ble_eq_true rfl) (fun _ _ _ _ _ _ _ _ B hW hl => pX10_weightOf B  hf hW va_S.rf hl)
end
theorem cdX10_findStretch : yX10_findStretch.cls = RX10 ∧ yX10_findStretch.cls ≠ "java/lang/invoke/MethodHandle" ∧ yX10_findStretch.cls ≠ "java/lang/invoke/VarHandle" ∧ (parseMethodDescriptor yX10_findStretch.desc).map (fun d => d.parameters.length) = some 2 := by decide +kernel
section
variable {p : Program} {l : Launch} {e : Env} {s : State} {m : MethodId} {args : Array Value} {below : List Frame} {meth : Method} {c : Code} {E : wE}
set_option maxRecDepth 100000 in
set_option maxHeartbeats 4000000 in
theorem pX10_findStretch_190 (B : wB E p s m args meth c cX10_findStretch 10 RX10 none) {M : wMem} {y1 : Int32} {y2 : Int32} {y3 : Int32} {y4 : Int32} {y5 : Int32} {rec20 : (Int32 × wMem → Option (wMem))} {res : wMem}  (hrec20 : ∀ (y5' : Int32) (M' : wMem), rec20 (y5', M') = some res → ∀ (H : Heap) (locs : List Loc) (ls : Array Slot), wH E M' H → va_S (wA E) s.heap H locs → lv_has ls 10 [(0, .ref (wad E 70)), (1, .int y1), (2, .int y2), (3, .int y3), (4, .int y4), (5, .int y5')] → W p l e ({ frames := 3, cells := 0, slots := 0, locals := 66 } : Room) s m args below meth c H locs 0 0 (MQ below (wQ E none res) args s 0 0 (wA E)) (F0 m 20 ls [])) (hf : fX10_findStretch_190 M rec20 y1 y2 y3 y4 y5 = some res) {H : Heap} {locs : List Loc} {ls : Array Slot} (hW : wH E M H) (hS : va_S (wA E) s.heap H locs) (hl : lv_has ls 10 [(0, .ref (wad E 70)), (1, .int y1), (2, .int y2), (3, .int y3), (4, .int y4), (5, .int y5)]) : W p l e ({ frames := 3, cells := 0, slots := 0, locals := 66 } : Room) s m args below meth c H locs 0 0 (MQ below (wQ E none res) args s 0 0 (wA E)) (F0 m 190 ls []) := by
  unfold fX10_findStretch_190 at hf
  obtain ⟨hx, hb, hr, hml, hown, hts, hlocks, hG, hV, hZ⟩ := id B
  obtain ⟨x27, ex27, hf⟩ := wlet_e hf
  refine lv_iinc (v := x27) (lv' := [(5, .int x27), (0, .ref (wad E 70)), (1, .int y1), (2, .int y2), (3, .int y3), (4, .int y4)]) hx hb dX10_findStretch_190 hl (k := 5) rfl (by rw [ex27]; rfl) (by decide) rfl (fun ls hl => ?_)
  refine lv_goto (tgt := 20) hx hb dX10_findStretch_193 (by decide) ?_
  exact hrec20 x27 M hf _ _ _ hW hS (lv_sub hl [1, 2, 3, 4, 5, 0] rfl)
set_option maxRecDepth 100000 in
set_option maxHeartbeats 4000000 in
theorem pX10_findStretch_174 (B : wB E p s m args meth c cX10_findStretch 10 RX10 none) {M : wMem} {y1 : Int32} {y2 : Int32} {y3 : Int32} {y4 : Int32} {y5 : Int32} {y9 : Int32} {rec20 : (Int32 × wMem → Option (wMem))} {res : wMem}  (hrec20 : ∀ (y5' : Int32) (M' : wMem), rec20 (y5', M') = some res → ∀ (H : Heap) (locs : List Loc) (ls : Array Slot), wH E M' H → va_S (wA E) s.heap H locs → lv_has ls 10 [(0, .ref (wad E 70)), (1, .int y1), (2, .int y2), (3, .int y3), (4, .int y4), (5, .int y5')] → W p l e ({ frames := 3, cells := 0, slots := 0, locals := 66 } : Room) s m args below meth c H locs 0 0 (MQ below (wQ E none res) args s 0 0 (wA E)) (F0 m 20 ls [])) (hf : fX10_findStretch_174 M rec20 y1 y2 y3 y4 y5 y9 = some res) {H : Heap} {locs : List Loc} {ls : Array Slot} (hW : wH E M H) (hS : va_S (wA E) s.heap H locs) (hl : lv_has ls 10 [(0, .ref (wad E 70)), (1, .int y1), (2, .int y2), (3, .int y3), (4, .int y4), (5, .int y5), (9, .int y9)]) : W p l e ({ frames := 3, cells := 0, slots := 0, locals := 66 } : Room) s m args below meth c H locs 0 0 (MQ below (wQ E none res) args s 0 0 (wA E)) (F0 m 174 ls []) := by
  unfold fX10_findStretch_174 at hf
  obtain ⟨hx, hb, hr, hml, hown, hts, hlocks, hG, hV, hZ⟩ := id B
  refine lv_aload_n hx hb dX10_findStretch_174 rfl (lv_at hl 0 rfl) ?_
  refine wm_get hx hb hts wu_X10 hown hV hW (wlt_9 (rfl : wkd 70 = 9)) (wen_9 (rfl : wkd 70 = 9)) (C := RX10) (T := TX10) (N := 31) rfl 22 (by decide) (hts _ wA_736) rfl dX10_findStretch_175 ?_
  refine lv_iload_n hx hb dX10_findStretch_178 rfl (lv_at hl 3 rfl) ?_
  refine lv_iload hx hb dX10_findStretch_179 (lv_at hl 6 rfl) ?_
  obtain ⟨hi23, hf⟩ := wgi_e hf
  refine wm_iast hx hb hG hV hW hS (rfl : wkd 85 = 21) (n := 144) rfl hi23 dX10_findStretch_181 (fun H locs hW hS => ?_)
  obtain ⟨M24, hW, hf⟩ := wlet_M hW hf
  refine lv_aload_n hx hb dX10_findStretch_182 rfl (lv_at hl 0 rfl) ?_
  refine wm_get hx hb hts wu_X10 hown hV hW (wlt_9 (rfl : wkd 70 = 9)) (wen_9 (rfl : wkd 70 = 9)) (C := RX10) (T := TX10) (N := 31) rfl 24 (by decide) (hts _ wA_738) rfl dX10_findStretch_183 ?_
  refine lv_iload_n hx hb dX10_findStretch_186 rfl (lv_at hl 3 rfl) ?_
  refine lv_iload hx hb dX10_findStretch_187 (lv_at hl 5 rfl) ?_
  obtain ⟨hi25, hf⟩ := wgi_e hf
  refine wm_iast hx hb hG hV hW hS (rfl : wkd 87 = 21) (n := 144) rfl hi25 dX10_findStretch_189 (fun H locs hW hS => ?_)
  obtain ⟨M26, hW, hf⟩ := wlet_M hW hf
  exact pX10_findStretch_190 B  hrec20 hf hW hS (lv_sub hl [0, 1, 2, 3, 4, 5] rfl)
set_option maxRecDepth 100000 in
set_option maxHeartbeats 4000000 in
theorem pX10_findStretch_155 (B : wB E p s m args meth c cX10_findStretch 10 RX10 none) {M : wMem} {y1 : Int32} {y2 : Int32} {y3 : Int32} {y4 : Int32} {y5 : Int32} {y9 : Int32} {rec20 : (Int32 × wMem → Option (wMem))} {res : wMem}  (hrec20 : ∀ (y5' : Int32) (M' : wMem), rec20 (y5', M') = some res → ∀ (H : Heap) (locs : List Loc) (ls : Array Slot), wH E M' H → va_S (wA E) s.heap H locs → lv_has ls 10 [(0, .ref (wad E 70)), (1, .int y1), (2, .int y2), (3, .int y3), (4, .int y4), (5, .int y5')] → W p l e ({ frames := 3, cells := 0, slots := 0, locals := 66 } : Room) s m args below meth c H locs 0 0 (MQ below (wQ E none res) args s 0 0 (wA E)) (F0 m 20 ls [])) (hf : fX10_findStretch_155 M rec20 y1 y2 y3 y4 y5 y9 = some res) {H : Heap} {locs : List Loc} {ls : Array Slot} (hW : wH E M H) (hS : va_S (wA E) s.heap H locs) (hl : lv_has ls 10 [(0, .ref (wad E 70)), (1, .int y1), (2, .int y2), (3, .int y3), (4, .int y4), (5, .int y5), (9, .int y9)]) : W p l e ({ frames := 3, cells := 0, slots := 0, locals := 66 } : Room) s m args below meth c H locs 0 0 (MQ below (wQ E none res) args s 0 0 (wA E)) (F0 m 155 ls []) := by
  unfold fX10_findStretch_155 at hf
  obtain ⟨hx, hb, hr, hml, hown, hts, hlocks, hG, hV, hZ⟩ := id B
  refine lv_iload hx hb dX10_findStretch_155 (lv_at hl 5 rfl) ?_
  refine lv_iload_n hx hb dX10_findStretch_157 rfl (lv_at hl 1 rfl) ?_
  refine lv_iconst (v := 1) hx hb dX10_findStretch_158 rfl ?_
  refine lv_iadd hx hb dX10_findStretch_159 ?_
  rcases wif_e hf with ⟨hq22, hf⟩ | ⟨hq22, hf⟩
  · refine lv_icmp_eq (tgt := 174) hx hb dX10_findStretch_160 (by decide) (fun _ => ?_) (fun h => absurd hq22 h)
    exact pX10_findStretch_174 B  hrec20 hf hW hS (lv_sub hl [0, 1, 2, 3, 4, 5, 6] rfl)
  · refine lv_icmp_eq (tgt := 174) hx hb dX10_findStretch_160 (by decide) (fun h => absurd h hq22) (fun _ => ?_)
    refine lv_iload hx hb dX10_findStretch_163 (lv_at hl 6 rfl) ?_
    refine lv_aload_n hx hb dX10_findStretch_165 rfl (lv_at hl 0 rfl) ?_
    refine wm_get hx hb hts wu_X10 hown hV hW (wlt_9 (rfl : wkd 70 = 9)) (wen_9 (rfl : wkd 70 = 9)) (C := RX10) (T := TX10) (N := 31) rfl 22 (by decide) (hts _ wA_736) rfl dX10_findStretch_166 ?_
    refine lv_iload_n hx hb dX10_findStretch_169 rfl (lv_at hl 3 rfl) ?_
    obtain ⟨hi28, hf⟩ := wgi_e hf
    refine wm_iald hx hb hV hW (rfl : wkd 85 = 21) (n := 144) rfl hi28 dX10_findStretch_170 ?_
    rcases wif_e hf with ⟨hq29, hf⟩ | ⟨hq29, hf⟩
    · refine lv_icmp_ge (tgt := 190) hx hb dX10_findStretch_171 (by decide) (fun _ => ?_) (fun h => absurd hq29 h)
      exact pX10_findStretch_190 B  hrec20 hf hW hS (lv_sub hl [0, 1, 2, 3, 4, 5] rfl)
    · refine lv_icmp_ge (tgt := 190) hx hb dX10_findStretch_171 (by decide) (fun h => absurd h hq29) (fun _ => ?_)
      exact pX10_findStretch_174 B  hrec20 hf hW hS (lv_sub hl [0, 1, 2, 3, 4, 5, 6] rfl)
set_option maxRecDepth 100000 in
set_option maxHeartbeats 4000000 in
theorem pX10_findStretch_139 (B : wB E p s m args meth c cX10_findStretch 10 RX10 none) {M : wMem} {y1 : Int32} {y2 : Int32} {y3 : Int32} {y4 : Int32} {y5 : Int32} {y6 : Int32} {y9 : Int32} {rec20 : (Int32 × wMem → Option (wMem))} {res : wMem}  (hrec20 : ∀ (y5' : Int32) (M' : wMem), rec20 (y5', M') = some res → ∀ (H : Heap) (locs : List Loc) (ls : Array Slot), wH E M' H → va_S (wA E) s.heap H locs → lv_has ls 10 [(0, .ref (wad E 70)), (1, .int y1), (2, .int y2), (3, .int y3), (4, .int y4), (5, .int y5')] → W p l e ({ frames := 3, cells := 0, slots := 0, locals := 66 } : Room) s m args below meth c H locs 0 0 (MQ below (wQ E none res) args s 0 0 (wA E)) (F0 m 20 ls [])) (hf : fX10_findStretch_139 M rec20 y1 y2 y3 y4 y5 y6 y9 = some res) {H : Heap} {locs : List Loc} {ls : Array Slot} (hW : wH E M H) (hS : va_S (wA E) s.heap H locs) (hl : lv_has ls 10 [(0, .ref (wad E 70)), (1, .int y1), (2, .int y2), (3, .int y3), (4, .int y4), (5, .int y5), (6, .int y6), (9, .int y9)]) : W p l e ({ frames := 3, cells := 0, slots := 0, locals := 66 } : Room) s m args below meth c H locs 0 0 (MQ below (wQ E none res) args s 0 0 (wA E)) (F0 m 139 ls []) := by
  unfold fX10_findStretch_139 at hf
  obtain ⟨hx, hb, hr, hml, hown, hts, hlocks, hG, hV, hZ⟩ := id B
  refine lv_aload_n hx hb dX10_findStretch_139 rfl (lv_at hl 0 rfl) ?_
  refine wm_get hx hb hts wu_X10 hown hV hW (wlt_9 (rfl : wkd 70 = 9)) (wen_9 (rfl : wkd 70 = 9)) (C := RX10) (T := TX10) (N := 31) rfl 21 (by decide) (hts _ wA_735) rfl dX10_findStretch_140 ?_
  refine lv_iload_n hx hb dX10_findStretch_143 rfl (lv_at hl 3 rfl) ?_
  refine lv_iload hx hb dX10_findStretch_144 (lv_at hl 6 rfl) ?_
  obtain ⟨hi18, hf⟩ := wgi_e hf
  refine wm_iast hx hb hG hV hW hS (rfl : wkd 84 = 21) (n := 144) rfl hi18 dX10_findStretch_146 (fun H locs hW hS => ?_)
  obtain ⟨M19, hW, hf⟩ := wlet_M hW hf
  refine lv_aload_n hx hb dX10_findStretch_147 rfl (lv_at hl 0 rfl) ?_
  refine wm_get hx hb hts wu_X10 hown hV hW (wlt_9 (rfl : wkd 70 = 9)) (wen_9 (rfl : wkd 70 = 9)) (C := RX10) (T := TX10) (N := 31) rfl 23 (by decide) (hts _ wA_737) rfl dX10_findStretch_148 ?_
  refine lv_iload_n hx hb dX10_findStretch_151 rfl (lv_at hl 3 rfl) ?_
  refine lv_iload hx hb dX10_findStretch_152 (lv_at hl 5 rfl) ?_
  obtain ⟨hi20, hf⟩ := wgi_e hf
  refine wm_iast hx hb hG hV hW hS (rfl : wkd 86 = 21) (n := 144) rfl hi20 dX10_findStretch_154 (fun H locs hW hS => ?_)
  obtain ⟨M21, hW, hf⟩ := wlet_M hW hf
  exact pX10_findStretch_155 B  hrec20 hf hW hS (lv_sub hl [0, 1, 2, 3, 4, 5, 7] rfl)
set_option maxRecDepth 100000 in
set_option maxHeartbeats 4000000 in
theorem pX10_findStretch_117 (B : wB E p s m args meth c cX10_findStretch 10 RX10 none) {M : wMem} {y1 : Int32} {y2 : Int32} {y3 : Int32} {y4 : Int32} {y5 : Int32} {y6 : Int32} {z0 : Int32} {z1 : Int32} {rec20 : (Int32 × wMem → Option (wMem))} {res : wMem}  (hrec20 : ∀ (y5' : Int32) (M' : wMem), rec20 (y5', M') = some res → ∀ (H : Heap) (locs : List Loc) (ls : Array Slot), wH E M' H → va_S (wA E) s.heap H locs → lv_has ls 10 [(0, .ref (wad E 70)), (1, .int y1), (2, .int y2), (3, .int y3), (4, .int y4), (5, .int y5')] → W p l e ({ frames := 3, cells := 0, slots := 0, locals := 66 } : Room) s m args below meth c H locs 0 0 (MQ below (wQ E none res) args s 0 0 (wA E)) (F0 m 20 ls [])) (hf : fX10_findStretch_117 M rec20 y1 y2 y3 y4 y5 y6 z0 z1 = some res) {H : Heap} {locs : List Loc} {ls : Array Slot} (hW : wH E M H) (hS : va_S (wA E) s.heap H locs) (hl : lv_has ls 10 [(0, .ref (wad E 70)), (1, .int y1), (2, .int y2), (3, .int y3), (4, .int y4), (5, .int y5), (6, .int y6)]) : W p l e ({ frames := 3, cells := 0, slots := 0, locals := 66 } : Room) s m args below meth c H locs 0 0 (MQ below (wQ E none res) args s 0 0 (wA E)) (F0 m 117 ls [.int z1, .int z0]) := by
  unfold fX10_findStretch_117 at hf
  obtain ⟨hx, hb, hr, hml, hown, hts, hlocks, hG, hV, hZ⟩ := id B
  refine lv_iadd hx hb dX10_findStretch_117 ?_
  refine lv_topi (fun x16 ex16 => ?_)
  replace hf := wlet_y ex16 hf
  refine lv_istore (lv' := [(9, .int x16), (0, .ref (wad E 70)), (1, .int y1), (2, .int y2), (3, .int y3), (4, .int y4), (5, .int y5), (6, .int y6)]) hx hb dX10_findStretch_118 hl (by decide) rfl (fun ls hl => ?_)
  refine lv_iload hx hb dX10_findStretch_120 (lv_at hl 6 rfl) ?_
  refine lv_iload_n hx hb dX10_findStretch_122 rfl (lv_at hl 2 rfl) ?_
  refine lv_iconst (v := 1) hx hb dX10_findStretch_123 rfl ?_
  refine lv_iadd hx hb dX10_findStretch_124 ?_
  rcases wif_e hf with ⟨hq17, hf⟩ | ⟨hq17, hf⟩
  · refine lv_icmp_eq (tgt := 139) hx hb dX10_findStretch_125 (by decide) (fun _ => ?_) (fun h => absurd hq17 h)
    exact pX10_findStretch_139 B  hrec20 hf hW hS (lv_sub hl [1, 2, 3, 4, 5, 6, 7, 0] rfl)
  · refine lv_icmp_eq (tgt := 139) hx hb dX10_findStretch_125 (by decide) (fun h => absurd h hq17) (fun _ => ?_)
    refine lv_iload hx hb dX10_findStretch_128 (lv_at hl 7 rfl) ?_
    refine lv_aload_n hx hb dX10_findStretch_130 rfl (lv_at hl 1 rfl) ?_
    refine wm_get hx hb hts wu_X10 hown hV hW (wlt_9 (rfl : wkd 70 = 9)) (wen_9 (rfl : wkd 70 = 9)) (C := RX10) (T := TX10) (N := 31) rfl 21 (by decide) (hts _ wA_735) rfl dX10_findStretch_131 ?_
    refine lv_iload_n hx hb dX10_findStretch_134 rfl (lv_at hl 4 rfl) ?_
    obtain ⟨hi30, hf⟩ := wgi_e hf
    refine wm_iald hx hb hV hW (rfl : wkd 84 = 21) (n := 144) rfl hi30 dX10_findStretch_135 ?_
    rcases wif_e hf with ⟨hq31, hf⟩ | ⟨hq31, hf⟩
    · refine lv_icmp_ge (tgt := 155) hx hb dX10_findStretch_136 (by decide) (fun _ => ?_) (fun h => absurd hq31 h)
      exact pX10_findStretch_155 B  hrec20 hf hW hS (lv_sub hl [1, 2, 3, 4, 5, 6, 0] rfl)
    · refine lv_icmp_ge (tgt := 155) hx hb dX10_findStretch_136 (by decide) (fun h => absurd h hq31) (fun _ => ?_)
      exact pX10_findStretch_139 B  hrec20 hf hW hS (lv_sub hl [1, 2, 3, 4, 5, 6, 7, 0] rfl)
set_option maxRecDepth 100000 in
set_option maxHeartbeats 4000000 in
theorem pX10_findStretch_20_b (B : wB E p s m args meth c cX10_findStretch 10 RX10 none) {M : wMem} {y1 : Int32} {y2 : Int32} {y3 : Int32} {y4 : Int32} {y5 : Int32}  {rec20 : (Int32 × wMem → Option (wMem))} {res : wMem}   (hrec20 : ∀ (y5' : Int32) (M' : wMem), rec20 (y5', M') = some res → ∀ (H : Heap) (locs : List Loc) (ls : Array Slot), wH E M' H → va_S (wA E) s.heap H locs → lv_has ls 10 [(0, .ref (wad E 70)), (1, .int y1), (2, .int y2), (3, .int y3), (4, .int y4), (5, .int y5')] → W p l e ({ frames := 3, cells := 0, slots := 0, locals := 66 } : Room) s m args below meth c H locs 0 0 (MQ below (wQ E none res) args s 0 0 (wA E)) (F0 m 20 ls [])) (hf : fX10_findStretch_20_b M  rec20 y1 y2 y3 y4 y5 = some res) {H : Heap} {locs : List Loc} {ls : Array Slot} (hW : wH E M H) (hS : va_S (wA E) s.heap H locs) (hl : lv_has ls 10 [(0, .ref (wad E 70)), (1, .int y1), (2, .int y2), (3, .int y3), (4, .int y4), (5, .int y5)]) : W p l e ({ frames := 3, cells := 0, slots := 0, locals := 66 } : Room) s m args below meth c H locs 0 0 (MQ below (wQ E none res) args s 0 0 (wA E)) (F0 m 20 ls []) := by
  unfold fX10_findStretch_20_b at hf
  obtain ⟨hx, hb, hr, hml, hown, hts, hlocks, hG, hV, hZ⟩ := id B
  refine lv_iload hx hb dX10_findStretch_20 (lv_at hl 5 rfl) ?_
  refine lv_iload_n hx hb dX10_findStretch_22 rfl (lv_at hl 2 rfl) ?_
  rcases wif_e hf with ⟨hq5, hf⟩ | ⟨hq5, hf⟩
  · refine lv_icmp_gt (tgt := 196) hx hb dX10_findStretch_23 (by decide) (fun _ => ?_) (fun h => absurd hq5 h)
    have hres := Option.some.inj hf
    subst hres
    exact W.vret hx hb hr (wr_q hG hV hZ hW hS) hS.2.2 dX10_findStretch_196
  · refine lv_icmp_gt (tgt := 196) hx hb dX10_findStretch_23 (by decide) (fun h => absurd h hq5) (fun _ => ?_)
    refine lv_aload_n hx hb dX10_findStretch_26 rfl (lv_at hl 0 rfl) ?_
    refine wm_get hx hb hts wu_X10 hown hV hW (wlt_9 (rfl : wkd 70 = 9)) (wen_9 (rfl : wkd 70 = 9)) (C := RX10) (T := TX10) (N := 31) rfl 3 (by decide) (hts _ wA_717) rfl dX10_findStretch_27 ?_
    refine lv_iload hx hb dX10_findStretch_30 (lv_at hl 5 rfl) ?_
    obtain ⟨hi6, hf⟩ := wgi_e hf
    refine wm_iald hx hb hV hW (rfl : wkd 74 = 21) (n := 12) rfl hi6 dX10_findStretch_32 ?_
    refine lv_iload hx hb dX10_findStretch_33 (lv_at hl 4 rfl) ?_
    refine lv_imul hx hb dX10_findStretch_35 ?_
    refine lv_aload_n hx hb dX10_findStretch_36 rfl (lv_at hl 0 rfl) ?_
    refine wm_get hx hb hts wu_X10 hown hV hW (wlt_9 (rfl : wkd 70 = 9)) (wen_9 (rfl : wkd 70 = 9)) (C := RX10) (T := TX10) (N := 31) rfl 21 (by decide) (hts _ wA_735) rfl dX10_findStretch_37 ?_
    refine lv_bipush (v := 12) hx hb dX10_findStretch_40 (by decide) ?_
    refine lv_iload_n hx hb dX10_findStretch_42 rfl (lv_at hl 1 rfl) ?_
    refine lv_imul hx hb dX10_findStretch_43 ?_
    refine lv_iload hx hb dX10_findStretch_44 (lv_at hl 5 rfl) ?_
    refine lv_iadd hx hb dX10_findStretch_46 ?_
    refine lv_iconst (v := 1) hx hb dX10_findStretch_47 rfl ?_
    refine lv_isub hx hb dX10_findStretch_48 ?_
    obtain ⟨hi7, hf⟩ := wgi_e hf
    refine wm_iald hx hb hV hW (rfl : wkd 84 = 21) (n := 144) rfl hi7 dX10_findStretch_49 ?_
    refine lv_iadd hx hb dX10_findStretch_50 ?_
    refine lv_aload_n hx hb dX10_findStretch_51 rfl (lv_at hl 0 rfl) ?_
    refine wm_get hx hb hts wu_X10 hown hV hW (wlt_9 (rfl : wkd 70 = 9)) (wen_9 (rfl : wkd 70 = 9)) (C := RX10) (T := TX10) (N := 31) rfl 21 (by decide) (hts _ wA_735) rfl dX10_findStretch_52 ?_
    refine lv_bipush (v := 12) hx hb dX10_findStretch_55 (by decide) ?_
    refine lv_iload hx hb dX10_findStretch_57 (lv_at hl 5 rfl) ?_
    refine lv_imul hx hb dX10_findStretch_59 ?_
    refine lv_iload_n hx hb dX10_findStretch_60 rfl (lv_at hl 2 rfl) ?_
    refine lv_iadd hx hb dX10_findStretch_61 ?_
    obtain ⟨hi8, hf⟩ := wgi_e hf
    refine wm_iald hx hb hV hW (rfl : wkd 84 = 21) (n := 144) rfl hi8 dX10_findStretch_62 ?_
    refine lv_iadd hx hb dX10_findStretch_63 ?_
    refine lv_topi (fun x9 ex9 => ?_)
    replace hf := wlet_y ex9 hf
    refine lv_istore (lv' := [(6, .int x9), (0, .ref (wad E 70)), (1, .int y1), (2, .int y2), (3, .int y3), (4, .int y4), (5, .int y5)]) hx hb dX10_findStretch_64 hl (by decide) rfl (fun ls hl => ?_)
    refine lv_aload_n hx hb dX10_findStretch_66 rfl (lv_at hl 1 rfl) ?_
    refine wm_get hx hb hts wu_X10 hown hV hW (wlt_9 (rfl : wkd 70 = 9)) (wen_9 (rfl : wkd 70 = 9)) (C := RX10) (T := TX10) (N := 31) rfl 22 (by decide) (hts _ wA_736) rfl dX10_findStretch_67 ?_
    refine lv_bipush (v := 12) hx hb dX10_findStretch_70 (by decide) ?_
    refine lv_iload_n hx hb dX10_findStretch_72 rfl (lv_at hl 2 rfl) ?_
    refine lv_imul hx hb dX10_findStretch_73 ?_
    refine lv_iload hx hb dX10_findStretch_74 (lv_at hl 6 rfl) ?_
    refine lv_iadd hx hb dX10_findStretch_76 ?_
    refine lv_iconst (v := 1) hx hb dX10_findStretch_77 rfl ?_
    refine lv_isub hx hb dX10_findStretch_78 ?_
    obtain ⟨hi10, hf⟩ := wgi_e hf
    refine wm_iald hx hb hV hW (rfl : wkd 85 = 21) (n := 144) rfl hi10 dX10_findStretch_79 ?_
    refine lv_topi (fun x11 ex11 => ?_)
    replace hf := wlet_y ex11 hf
    refine lv_istore (lv' := [(7, .int x11), (6, .int x9), (0, .ref (wad E 70)), (1, .int y1), (2, .int y2), (3, .int y3), (4, .int y4), (5, .int y5)]) hx hb dX10_findStretch_80 hl (by decide) rfl (fun ls hl => ?_)
    refine lv_aload_n hx hb dX10_findStretch_82 rfl (lv_at hl 2 rfl) ?_
    refine wm_get hx hb hts wu_X10 hown hV hW (wlt_9 (rfl : wkd 70 = 9)) (wen_9 (rfl : wkd 70 = 9)) (C := RX10) (T := TX10) (N := 31) rfl 22 (by decide) (hts _ wA_736) rfl dX10_findStretch_83 ?_
    refine lv_bipush (v := 12) hx hb dX10_findStretch_86 (by decide) ?_
    refine lv_iload hx hb dX10_findStretch_88 (lv_at hl 7 rfl) ?_
    refine lv_imul hx hb dX10_findStretch_90 ?_
    refine lv_iload_n hx hb dX10_findStretch_91 rfl (lv_at hl 4 rfl) ?_
    refine lv_iadd hx hb dX10_findStretch_92 ?_
    obtain ⟨hi12, hf⟩ := wgi_e hf
    refine wm_iald hx hb hV hW (rfl : wkd 85 = 21) (n := 144) rfl hi12 dX10_findStretch_93 ?_
    refine lv_topi (fun x13 ex13 => ?_)
    replace hf := wlet_y ex13 hf
    refine lv_istore (lv' := [(8, .int x13), (7, .int x11), (6, .int x9), (0, .ref (wad E 70)), (1, .int y1), (2, .int y2), (3, .int y3), (4, .int y4), (5, .int y5)]) hx hb dX10_findStretch_94 hl (by decide) rfl (fun ls hl => ?_)
    refine lv_aload_n hx hb dX10_findStretch_96 rfl (lv_at hl 3 rfl) ?_
    refine wm_get hx hb hts wu_X10 hown hV hW (wlt_9 (rfl : wkd 70 = 9)) (wen_9 (rfl : wkd 70 = 9)) (C := RX10) (T := TX10) (N := 31) rfl 3 (by decide) (hts _ wA_717) rfl dX10_findStretch_97 ?_
    refine lv_iload hx hb dX10_findStretch_100 (lv_at hl 8 rfl) ?_
    obtain ⟨hi14, hf⟩ := wgi_e hf
    refine wm_iald hx hb hV hW (rfl : wkd 74 = 21) (n := 12) rfl hi14 dX10_findStretch_102 ?_
    refine lv_iload hx hb dX10_findStretch_103 (lv_at hl 1 rfl) ?_
    refine lv_iload hx hb dX10_findStretch_105 (lv_at hl 0 rfl) ?_
    rcases wif_e hf with ⟨hq15, hf⟩ | ⟨hq15, hf⟩
    · refine lv_icmp_le (tgt := 115) hx hb dX10_findStretch_107 (by decide) (fun _ => ?_) (fun h => absurd hq15 h)
      refine lv_iload hx hb dX10_findStretch_115 (lv_at hl 0 rfl) ?_
      exact pX10_findStretch_117 B  hrec20 hf hW hS (lv_sub hl [3, 4, 5, 6, 7, 8, 2] rfl)
    · refine lv_icmp_le (tgt := 115) hx hb dX10_findStretch_107 (by decide) (fun h => absurd h hq15) (fun _ => ?_)
      refine lv_iload hx hb dX10_findStretch_110 (lv_at hl 1 rfl) ?_
      refine lv_goto (tgt := 117) hx hb dX10_findStretch_112 (by decide) ?_
      exact pX10_findStretch_117 B  hrec20 hf hW hS (lv_sub hl [3, 4, 5, 6, 7, 8, 2] rfl)
set_option maxRecDepth 100000 in
set_option maxHeartbeats 4000000 in
theorem pX10_findStretch_20 (B : wB E p s m args meth c cX10_findStretch 10 RX10 none) {M : wMem} {y1 : Int32} {y2 : Int32} {y3 : Int32} {y4 : Int32} {y5 : Int32}  {res : wMem}   (hf : fX10_findStretch_20 M  y1 y2 y3 y4 y5 = some res) {H : Heap} {locs : List Loc} {ls : Array Slot} (hW : wH E M H) (hS : va_S (wA E) s.heap H locs) (hl : lv_has ls 10 [(0, .ref (wad E 70)), (1, .int y1), (2, .int y2), (3, .int y3), (4, .int y4), (5, .int y5)]) : W p l e ({ frames := 3, cells := 0, slots := 0, locals := 66 } : Room) s m args below meth c H locs 0 0 (MQ below (wQ E none res) args s 0 0 (wA E)) (F0 m 20 ls []) := by
  have key := wloop_W (b := (fun rec20 t => fX10_findStretch_20_b t.2  rec20 y1 y2 y3 y4 t.1)) (P := fun t => ∀ (H : Heap) (locs : List Loc) (ls : Array Slot), wH E t.2 H → va_S (wA E) s.heap H locs → lv_has ls 10 [(0, .ref (wad E 70)), (1, .int y1), (2, .int y2), (3, .int y3), (4, .int y4), (5, .int t.1)] → W p l e ({ frames := 3, cells := 0, slots := 0, locals := 66 } : Room) s m args below meth c H locs 0 0 (MQ below (wQ E none res) args s 0 0 (wA E)) (F0 m 20 ls [])) (r := res) (fun rec hrec t hf H locs ls hW hS hl => pX10_findStretch_20_b B   (fun v0 v1 hf H locs ls hW hS hl => hrec (v0, v1) hf H locs ls hW hS hl) hf hW hS hl)
  exact key wfuel (y5, M) hf H locs ls hW hS hl
set_option maxRecDepth 100000 in
set_option maxHeartbeats 4000000 in
theorem pX10_findStretch (B : wB E p s m args meth c cX10_findStretch 10 RX10 none) {M : wMem} {a1 : Int32} {a2 : Int32}  {res : wMem} (hf : fX10_findStretch M a1 a2 = some res) {H : Heap} {locs : List Loc} {ls : Array Slot} (hW : wH E M H) (hS : va_S (wA E) s.heap H locs) (hl : lv_has ls 10 [(0, .ref (wad E 70)), (1, .int a1), (2, .int a2)]) : W p l e ({ frames := 3, cells := 0, slots := 0, locals := 66 } : Room) s m args below meth c H locs 0 0 (MQ below (wQ E none res) args s 0 0 (wA E)) (F0 m 0 ls []) := by
  unfold fX10_findStretch at hf
  obtain ⟨hx, hb, hr, hml, hown, hts, hlocks, hG, hV, hZ⟩ := id B
  refine lv_bipush (v := 12) hx hb dX10_findStretch_0 (by decide) ?_
  refine lv_iload_n hx hb dX10_findStretch_2 rfl (lv_at hl 1 rfl) ?_
  refine lv_imul hx hb dX10_findStretch_3 ?_
  refine lv_iload_n hx hb dX10_findStretch_4 rfl (lv_at hl 2 rfl) ?_
  refine lv_iadd hx hb dX10_findStretch_5 ?_
  refine lv_topi (fun x1 ex1 => ?_)
  replace hf := wlet_y ex1 hf
  refine lv_istore_n (lv' := [(3, .int x1), (0, .ref (wad E 70)), (1, .int a1), (2, .int a2)]) hx hb dX10_findStretch_6 rfl hl (by decide) rfl (fun ls hl => ?_)
  refine lv_aload_n hx hb dX10_findStretch_7 rfl (lv_at hl 1 rfl) ?_
  refine lv_iload_n hx hb dX10_findStretch_8 rfl (lv_at hl 2 rfl) ?_
  refine lv_iload_n hx hb dX10_findStretch_9 rfl (lv_at hl 3 rfl) ?_
  obtain ⟨r3, hc2, hf⟩ := wbind_e hf
  refine wc_V (As := [.int a1, .int a2]) (rest := []) hx hb hml hown hts hG hV hZ (wlt_9 (rfl : wkd 70 = 9)) (q := (RX10, TX10, 31)) (wen_9 (rfl : wkd 70 = 9)) rfl (cX10_weightOf_ok l E M a1 a2 hc2) (cwV 2 hts gl_X10_202 rfl rfl rfl cdX10_weightOf ⟨Nat.le_of_ble_eq_true rfl, Nat.le_of_ble_eq_true rfl⟩) rfl hl.1 rfl (Nat.le_of_ble_eq_true rfl) dX10_findStretch_10 ⟨Nat.zero_le _, Nat.zero_le _⟩ hW hS rfl (fun H locs hW hS => ?_)
  refine lv_istore (lv' := [(4, .int r3), (3, .int x1), (0, .ref (wad E 70)), (1, .int a1), (2, .int a2)]) hx hb dX10_findStretch_13 hl (by decide) rfl (fun ls hl => ?_)
  refine lv_iload_n hx hb dX10_findStretch_15 rfl (lv_at hl 3 rfl) ?_
  refine lv_iconst (v := 1) hx hb dX10_findStretch_16 rfl ?_
  refine lv_iadd hx hb dX10_findStretch_17 ?_
  refine lv_topi (fun x4 ex4 => ?_)
  replace hf := wlet_y ex4 hf
  refine lv_istore (lv' := [(5, .int x4), (4, .int r3), (3, .int x1), (0, .ref (wad E 70)), (1, .int a1), (2, .int a2)]) hx hb dX10_findStretch_18 hl (by decide) rfl (fun ls hl => ?_)
  exact pX10_findStretch_20 B   hf hW hS (lv_sub hl [3, 4, 5, 2, 1, 0] rfl)
theorem cX10_findStretch_ok (l : Launch) (E : wE) (M : wMem) (a1 : Int32) (a2 : Int32) {res : wMem} (hf : fX10_findStretch M a1 a2 = some res) : wMet l yX10_findStretch (wsM yX10_findStretch cX10_findStretch 10 none) ({ frames := 3, cells := 0, slots := 0, locals := 66 } : Room) E M [.ref (wad E 70), .int a1, .int a2] none res :=
  wc_of (cc := cX10_findStretch) (maxL := 10) (ret := none) (by decide) (Nat.le_of_ble_eq_true rfl) (fun _ _ _ _ _ _ _ _ B hW hl => pX10_findStretch B  hf hW va_S.rf hl)
end
theorem cdX10_findStretches : yX10_findStretches.cls = RX10 ∧ yX10_findStretches.cls ≠ "java/lang/invoke/MethodHandle" ∧ yX10_findStretches.cls ≠ "java/lang/invoke/VarHandle" ∧ (parseMethodDescriptor yX10_findStretches.desc).map (fun d => d.parameters.length) = some 0 := by decide +kernel
section
variable {p : Program} {l : Launch} {e : Env} {s : State} {m : MethodId} {args : Array Value} {below : List Frame} {meth : Method} {c : Code} {E : wE}
set_option maxRecDepth 100000 in
set_option maxHeartbeats 4000000 in
theorem pX10_findStretches_70_b (B : wB E p s m args meth c cX10_findStretches 3 RX10 none) {M : wMem} {y1 : Int32} {y2 : Int32} {rec60 : (Int32 × wMem → Option (wMem))} {rec70 : (Int32 × wMem → Option (wMem))} {res : wMem}  (hrec60 : ∀ (y1' : Int32) (M' : wMem), rec60 (y1', M') = some res → ∀ (H : Heap) (locs : List Loc) (ls : Array Slot), wH E M' H → va_S (wA E) s.heap H locs → lv_has ls 3 [(0, .ref (wad E 70)), (1, .int y1')] → W p l e ({ frames := 4, cells := 0, slots := 0, locals := 95 } : Room) s m args below meth c H locs 0 0 (MQ below (wQ E none res) args s 0 0 (wA E)) (F0 m 60 ls [])) (hrec70 : ∀ (y2' : Int32) (M' : wMem), rec70 (y2', M') = some res → ∀ (H : Heap) (locs : List Loc) (ls : Array Slot), wH E M' H → va_S (wA E) s.heap H locs → lv_has ls 3 [(0, .ref (wad E 70)), (1, .int y1), (2, .int y2')] → W p l e ({ frames := 4, cells := 0, slots := 0, locals := 95 } : Room) s m args below meth c H locs 0 0 (MQ below (wQ E none res) args s 0 0 (wA E)) (F0 m 70 ls [])) (hf : fX10_findStretches_70_b M rec60 rec70 y1 y2 = some res) {H : Heap} {locs : List Loc} {ls : Array Slot} (hW : wH E M H) (hS : va_S (wA E) s.heap H locs) (hl : lv_has ls 3 [(0, .ref (wad E 70)), (1, .int y1), (2, .int y2)]) : W p l e ({ frames := 4, cells := 0, slots := 0, locals := 95 } : Room) s m args below meth c H locs 0 0 (MQ below (wQ E none res) args s 0 0 (wA E)) (F0 m 70 ls []) := by
  unfold fX10_findStretches_70_b at hf
  obtain ⟨hx, hb, hr, hml, hown, hts, hlocks, hG, hV, hZ⟩ := id B
  refine lv_iload_n hx hb dX10_findStretches_70 rfl (lv_at hl 2 rfl) ?_
  refine lv_iload_n hx hb dX10_findStretches_71 rfl (lv_at hl 1 rfl) ?_
  refine lv_iadd hx hb dX10_findStretches_72 ?_
  refine lv_aload_n hx hb dX10_findStretches_73 rfl (lv_at hl 0 rfl) ?_
  refine wm_get hx hb hts wu_X10 hown hV hW (wlt_9 (rfl : wkd 70 = 9)) (wen_9 (rfl : wkd 70 = 9)) (C := RX10) (T := TX10) (N := 31) rfl 7 (by decide) (hts _ wA_721) rfl dX10_findStretches_74 ?_
  rcases wif_e hf with ⟨hq3, hf⟩ | ⟨hq3, hf⟩
  · refine lv_icmp_ge (tgt := 94) hx hb dX10_findStretches_77 (by decide) (fun _ => ?_) (fun h => absurd hq3 h)
    obtain ⟨x4, ex4, hf⟩ := wlet_e hf
    refine lv_iinc (v := x4) (lv' := [(1, .int x4), (0, .ref (wad E 70)), (2, .int y2)]) hx hb dX10_findStretches_94 hl (k := 1) rfl (by rw [ex4]; rfl) (by decide) rfl (fun ls hl => ?_)
    refine lv_goto (tgt := 60) hx hb dX10_findStretches_97 (by decide) ?_
    exact hrec60 x4 M hf _ _ _ hW hS (lv_sub hl [1, 0] rfl)
  · refine lv_icmp_ge (tgt := 94) hx hb dX10_findStretches_77 (by decide) (fun h => absurd h hq3) (fun _ => ?_)
    refine lv_aload_n hx hb dX10_findStretches_80 rfl (lv_at hl 0 rfl) ?_
    refine lv_iload_n hx hb dX10_findStretches_81 rfl (lv_at hl 2 rfl) ?_
    refine lv_iload_n hx hb dX10_findStretches_82 rfl (lv_at hl 2 rfl) ?_
    refine lv_iload_n hx hb dX10_findStretches_83 rfl (lv_at hl 1 rfl) ?_
    refine lv_iadd hx hb dX10_findStretches_84 ?_
    obtain ⟨M7, hc5, hf⟩ := wbind_e hf
    refine wc_V (As := [.int y2, .int (y2 + y1)]) (rest := []) hx hb hml hown hts hG hV hZ (wlt_9 (rfl : wkd 70 = 9)) (q := (RX10, TX10, 31)) (wen_9 (rfl : wkd 70 = 9)) rfl (cX10_findStretch_ok l E M y2 (y2 + y1) hc5) (cwV 2 hts gl_X10_205 rfl rfl rfl cdX10_findStretch ⟨Nat.le_of_ble_eq_true rfl, Nat.le_of_ble_eq_true rfl⟩) rfl hl.1 rfl (Nat.le_of_ble_eq_true rfl) dX10_findStretches_85 ⟨Nat.zero_le _, Nat.zero_le _⟩ hW hS rfl (fun H locs hW hS => ?_)
    obtain ⟨x8, ex8, hf⟩ := wlet_e hf
    refine lv_iinc (v := x8) (lv' := [(2, .int x8), (0, .ref (wad E 70)), (1, .int y1)]) hx hb dX10_findStretches_88 hl (k := 2) rfl (by rw [ex8]; rfl) (by decide) rfl (fun ls hl => ?_)
    refine lv_goto (tgt := 70) hx hb dX10_findStretches_91 (by decide) ?_
    exact hrec70 x8 M7 hf _ _ _ hW hS (lv_sub hl [1, 2, 0] rfl)
set_option maxRecDepth 100000 in
set_option maxHeartbeats 4000000 in
theorem pX10_findStretches_70 (B : wB E p s m args meth c cX10_findStretches 3 RX10 none) {M : wMem} {y1 : Int32} {y2 : Int32} {rec60 : (Int32 × wMem → Option (wMem))} {res : wMem}  (hrec60 : ∀ (y1' : Int32) (M' : wMem), rec60 (y1', M') = some res → ∀ (H : Heap) (locs : List Loc) (ls : Array Slot), wH E M' H → va_S (wA E) s.heap H locs → lv_has ls 3 [(0, .ref (wad E 70)), (1, .int y1')] → W p l e ({ frames := 4, cells := 0, slots := 0, locals := 95 } : Room) s m args below meth c H locs 0 0 (MQ below (wQ E none res) args s 0 0 (wA E)) (F0 m 60 ls [])) (hf : fX10_findStretches_70 M rec60 y1 y2 = some res) {H : Heap} {locs : List Loc} {ls : Array Slot} (hW : wH E M H) (hS : va_S (wA E) s.heap H locs) (hl : lv_has ls 3 [(0, .ref (wad E 70)), (1, .int y1), (2, .int y2)]) : W p l e ({ frames := 4, cells := 0, slots := 0, locals := 95 } : Room) s m args below meth c H locs 0 0 (MQ below (wQ E none res) args s 0 0 (wA E)) (F0 m 70 ls []) := by
  have key := wloop_W (b := (fun rec70 t => fX10_findStretches_70_b t.2 rec60 rec70 y1 t.1)) (P := fun t => ∀ (H : Heap) (locs : List Loc) (ls : Array Slot), wH E t.2 H → va_S (wA E) s.heap H locs → lv_has ls 3 [(0, .ref (wad E 70)), (1, .int y1), (2, .int t.1)] → W p l e ({ frames := 4, cells := 0, slots := 0, locals := 95 } : Room) s m args below meth c H locs 0 0 (MQ below (wQ E none res) args s 0 0 (wA E)) (F0 m 70 ls [])) (r := res) (fun rec hrec t hf H locs ls hW hS hl => pX10_findStretches_70_b B  hrec60 (fun v0 v1 hf H locs ls hW hS hl => hrec (v0, v1) hf H locs ls hW hS hl) hf hW hS hl)
  exact key wfuel (y2, M) hf H locs ls hW hS hl
set_option maxRecDepth 100000 in
set_option maxHeartbeats 4000000 in
theorem pX10_findStretches_60_b (B : wB E p s m args meth c cX10_findStretches 3 RX10 none) {M : wMem} {y1 : Int32}  {rec60 : (Int32 × wMem → Option (wMem))} {res : wMem}   (hrec60 : ∀ (y1' : Int32) (M' : wMem), rec60 (y1', M') = some res → ∀ (H : Heap) (locs : List Loc) (ls : Array Slot), wH E M' H → va_S (wA E) s.heap H locs → lv_has ls 3 [(0, .ref (wad E 70)), (1, .int y1')] → W p l e ({ frames := 4, cells := 0, slots := 0, locals := 95 } : Room) s m args below meth c H locs 0 0 (MQ below (wQ E none res) args s 0 0 (wA E)) (F0 m 60 ls [])) (hf : fX10_findStretches_60_b M  rec60 y1 = some res) {H : Heap} {locs : List Loc} {ls : Array Slot} (hW : wH E M H) (hS : va_S (wA E) s.heap H locs) (hl : lv_has ls 3 [(0, .ref (wad E 70)), (1, .int y1)]) : W p l e ({ frames := 4, cells := 0, slots := 0, locals := 95 } : Room) s m args below meth c H locs 0 0 (MQ below (wQ E none res) args s 0 0 (wA E)) (F0 m 60 ls []) := by
  unfold fX10_findStretches_60_b at hf
  obtain ⟨hx, hb, hr, hml, hown, hts, hlocks, hG, hV, hZ⟩ := id B
  refine lv_iload_n hx hb dX10_findStretches_60 rfl (lv_at hl 1 rfl) ?_
  refine lv_aload_n hx hb dX10_findStretches_61 rfl (lv_at hl 0 rfl) ?_
  refine wm_get hx hb hts wu_X10 hown hV hW (wlt_9 (rfl : wkd 70 = 9)) (wen_9 (rfl : wkd 70 = 9)) (C := RX10) (T := TX10) (N := 31) rfl 7 (by decide) (hts _ wA_721) rfl dX10_findStretches_62 ?_
  rcases wif_e hf with ⟨hq2, hf⟩ | ⟨hq2, hf⟩
  · refine lv_icmp_ge (tgt := 100) hx hb dX10_findStretches_65 (by decide) (fun _ => ?_) (fun h => absurd hq2 h)
    have hres := Option.some.inj hf
    subst hres
    exact W.vret hx hb hr (wr_q hG hV hZ hW hS) hS.2.2 dX10_findStretches_100
  · refine lv_icmp_ge (tgt := 100) hx hb dX10_findStretches_65 (by decide) (fun h => absurd h hq2) (fun _ => ?_)
    refine lv_iconst (v := 0) hx hb dX10_findStretches_68 rfl ?_
    refine lv_istore_n (lv' := [(2, .int 0), (0, .ref (wad E 70)), (1, .int y1)]) hx hb dX10_findStretches_69 rfl hl (by decide) rfl (fun ls hl => ?_)
    exact pX10_findStretches_70 B  hrec60 hf hW hS (lv_sub hl [1, 2, 0] rfl)
set_option maxRecDepth 100000 in
set_option maxHeartbeats 4000000 in
theorem pX10_findStretches_60 (B : wB E p s m args meth c cX10_findStretches 3 RX10 none) {M : wMem} {y1 : Int32}  {res : wMem}   (hf : fX10_findStretches_60 M  y1 = some res) {H : Heap} {locs : List Loc} {ls : Array Slot} (hW : wH E M H) (hS : va_S (wA E) s.heap H locs) (hl : lv_has ls 3 [(0, .ref (wad E 70)), (1, .int y1)]) : W p l e ({ frames := 4, cells := 0, slots := 0, locals := 95 } : Room) s m args below meth c H locs 0 0 (MQ below (wQ E none res) args s 0 0 (wA E)) (F0 m 60 ls []) := by
  have key := wloop_W (b := (fun rec60 t => fX10_findStretches_60_b t.2  rec60 t.1)) (P := fun t => ∀ (H : Heap) (locs : List Loc) (ls : Array Slot), wH E t.2 H → va_S (wA E) s.heap H locs → lv_has ls 3 [(0, .ref (wad E 70)), (1, .int t.1)] → W p l e ({ frames := 4, cells := 0, slots := 0, locals := 95 } : Room) s m args below meth c H locs 0 0 (MQ below (wQ E none res) args s 0 0 (wA E)) (F0 m 60 ls [])) (r := res) (fun rec hrec t hf H locs ls hW hS hl => pX10_findStretches_60_b B   (fun v0 v1 hf H locs ls hW hS hl => hrec (v0, v1) hf H locs ls hW hS hl) hf hW hS hl)
  exact key wfuel (y1, M) hf H locs ls hW hS hl
set_option maxRecDepth 100000 in
set_option maxHeartbeats 4000000 in
theorem pX10_findStretches_2_b (B : wB E p s m args meth c cX10_findStretches 3 RX10 none) {M : wMem} {y1 : Int32}  {rec2 : (Int32 × wMem → Option (wMem))} {res : wMem}   (hrec2 : ∀ (y1' : Int32) (M' : wMem), rec2 (y1', M') = some res → ∀ (H : Heap) (locs : List Loc) (ls : Array Slot), wH E M' H → va_S (wA E) s.heap H locs → lv_has ls 3 [(0, .ref (wad E 70)), (1, .int y1')] → W p l e ({ frames := 4, cells := 0, slots := 0, locals := 95 } : Room) s m args below meth c H locs 0 0 (MQ below (wQ E none res) args s 0 0 (wA E)) (F0 m 2 ls [])) (hf : fX10_findStretches_2_b M  rec2 y1 = some res) {H : Heap} {locs : List Loc} {ls : Array Slot} (hW : wH E M H) (hS : va_S (wA E) s.heap H locs) (hl : lv_has ls 3 [(0, .ref (wad E 70)), (1, .int y1)]) : W p l e ({ frames := 4, cells := 0, slots := 0, locals := 95 } : Room) s m args below meth c H locs 0 0 (MQ below (wQ E none res) args s 0 0 (wA E)) (F0 m 2 ls []) := by
  unfold fX10_findStretches_2_b at hf
  obtain ⟨hx, hb, hr, hml, hown, hts, hlocks, hG, hV, hZ⟩ := id B
  refine lv_iload_n hx hb dX10_findStretches_2 rfl (lv_at hl 1 rfl) ?_
  refine lv_aload_n hx hb dX10_findStretches_3 rfl (lv_at hl 0 rfl) ?_
  refine wm_get hx hb hts wu_X10 hown hV hW (wlt_9 (rfl : wkd 70 = 9)) (wen_9 (rfl : wkd 70 = 9)) (C := RX10) (T := TX10) (N := 31) rfl 7 (by decide) (hts _ wA_721) rfl dX10_findStretches_4 ?_
  rcases wif_e hf with ⟨hq1, hf⟩ | ⟨hq1, hf⟩
  · refine lv_icmp_ge (tgt := 58) hx hb dX10_findStretches_7 (by decide) (fun _ => ?_) (fun h => absurd hq1 h)
    refine lv_iconst (v := 1) hx hb dX10_findStretches_58 rfl ?_
    refine lv_istore_n (lv' := [(1, .int 1), (0, .ref (wad E 70))]) hx hb dX10_findStretches_59 rfl hl (by decide) rfl (fun ls hl => ?_)
    exact pX10_findStretches_60 B   hf hW hS (lv_sub hl [1, 0] rfl)
  · refine lv_icmp_ge (tgt := 58) hx hb dX10_findStretches_7 (by decide) (fun h => absurd h hq1) (fun _ => ?_)
    refine lv_aload_n hx hb dX10_findStretches_10 rfl (lv_at hl 0 rfl) ?_
    refine wm_get hx hb hts wu_X10 hown hV hW (wlt_9 (rfl : wkd 70 = 9)) (wen_9 (rfl : wkd 70 = 9)) (C := RX10) (T := TX10) (N := 31) rfl 21 (by decide) (hts _ wA_735) rfl dX10_findStretches_11 ?_
    refine lv_bipush (v := 13) hx hb dX10_findStretches_14 (by decide) ?_
    refine lv_iload_n hx hb dX10_findStretches_16 rfl (lv_at hl 1 rfl) ?_
    refine lv_imul hx hb dX10_findStretches_17 ?_
    refine lv_iconst (v := 0) hx hb dX10_findStretches_18 rfl ?_
    obtain ⟨hi9, hf⟩ := wgi_e hf
    refine wm_iast hx hb hG hV hW hS (rfl : wkd 84 = 21) (n := 144) rfl hi9 dX10_findStretches_19 (fun H locs hW hS => ?_)
    obtain ⟨M10, hW, hf⟩ := wlet_M hW hf
    refine lv_aload_n hx hb dX10_findStretches_20 rfl (lv_at hl 0 rfl) ?_
    refine wm_get hx hb hts wu_X10 hown hV hW (wlt_9 (rfl : wkd 70 = 9)) (wen_9 (rfl : wkd 70 = 9)) (C := RX10) (T := TX10) (N := 31) rfl 22 (by decide) (hts _ wA_736) rfl dX10_findStretches_21 ?_
    refine lv_bipush (v := 13) hx hb dX10_findStretches_24 (by decide) ?_
    refine lv_iload_n hx hb dX10_findStretches_26 rfl (lv_at hl 1 rfl) ?_
    refine lv_imul hx hb dX10_findStretches_27 ?_
    refine lv_iconst (v := 0) hx hb dX10_findStretches_28 rfl ?_
    obtain ⟨hi11, hf⟩ := wgi_e hf
    refine wm_iast hx hb hG hV hW hS (rfl : wkd 85 = 21) (n := 144) rfl hi11 dX10_findStretches_29 (fun H locs hW hS => ?_)
    obtain ⟨M12, hW, hf⟩ := wlet_M hW hf
    refine lv_aload_n hx hb dX10_findStretches_30 rfl (lv_at hl 0 rfl) ?_
    refine wm_get hx hb hts wu_X10 hown hV hW (wlt_9 (rfl : wkd 70 = 9)) (wen_9 (rfl : wkd 70 = 9)) (C := RX10) (T := TX10) (N := 31) rfl 23 (by decide) (hts _ wA_737) rfl dX10_findStretches_31 ?_
    refine lv_bipush (v := 13) hx hb dX10_findStretches_34 (by decide) ?_
    refine lv_iload_n hx hb dX10_findStretches_36 rfl (lv_at hl 1 rfl) ?_
    refine lv_imul hx hb dX10_findStretches_37 ?_
    refine lv_bipush (v := (-9)) hx hb dX10_findStretches_38 (by decide) ?_
    obtain ⟨hi13, hf⟩ := wgi_e hf
    refine wm_iast hx hb hG hV hW hS (rfl : wkd 86 = 21) (n := 144) rfl hi13 dX10_findStretches_40 (fun H locs hW hS => ?_)
    obtain ⟨M14, hW, hf⟩ := wlet_M hW hf
    refine lv_aload_n hx hb dX10_findStretches_41 rfl (lv_at hl 0 rfl) ?_
    refine wm_get hx hb hts wu_X10 hown hV hW (wlt_9 (rfl : wkd 70 = 9)) (wen_9 (rfl : wkd 70 = 9)) (C := RX10) (T := TX10) (N := 31) rfl 24 (by decide) (hts _ wA_738) rfl dX10_findStretches_42 ?_
    refine lv_bipush (v := 13) hx hb dX10_findStretches_45 (by decide) ?_
    refine lv_iload_n hx hb dX10_findStretches_47 rfl (lv_at hl 1 rfl) ?_
    refine lv_imul hx hb dX10_findStretches_48 ?_
    refine lv_bipush (v := (-9)) hx hb dX10_findStretches_49 (by decide) ?_
    obtain ⟨hi15, hf⟩ := wgi_e hf
    refine wm_iast hx hb hG hV hW hS (rfl : wkd 87 = 21) (n := 144) rfl hi15 dX10_findStretches_51 (fun H locs hW hS => ?_)
    obtain ⟨M16, hW, hf⟩ := wlet_M hW hf
    obtain ⟨x17, ex17, hf⟩ := wlet_e hf
    refine lv_iinc (v := x17) (lv' := [(1, .int x17), (0, .ref (wad E 70))]) hx hb dX10_findStretches_52 hl (k := 1) rfl (by rw [ex17]; rfl) (by decide) rfl (fun ls hl => ?_)
    refine lv_goto (tgt := 2) hx hb dX10_findStretches_55 (by decide) ?_
    exact hrec2 x17 M16 hf _ _ _ hW hS (lv_sub hl [1, 0] rfl)
set_option maxRecDepth 100000 in
set_option maxHeartbeats 4000000 in
theorem pX10_findStretches_2 (B : wB E p s m args meth c cX10_findStretches 3 RX10 none) {M : wMem} {y1 : Int32}  {res : wMem}   (hf : fX10_findStretches_2 M  y1 = some res) {H : Heap} {locs : List Loc} {ls : Array Slot} (hW : wH E M H) (hS : va_S (wA E) s.heap H locs) (hl : lv_has ls 3 [(0, .ref (wad E 70)), (1, .int y1)]) : W p l e ({ frames := 4, cells := 0, slots := 0, locals := 95 } : Room) s m args below meth c H locs 0 0 (MQ below (wQ E none res) args s 0 0 (wA E)) (F0 m 2 ls []) := by
  have key := wloop_W (b := (fun rec2 t => fX10_findStretches_2_b t.2  rec2 t.1)) (P := fun t => ∀ (H : Heap) (locs : List Loc) (ls : Array Slot), wH E t.2 H → va_S (wA E) s.heap H locs → lv_has ls 3 [(0, .ref (wad E 70)), (1, .int t.1)] → W p l e ({ frames := 4, cells := 0, slots := 0, locals := 95 } : Room) s m args below meth c H locs 0 0 (MQ below (wQ E none res) args s 0 0 (wA E)) (F0 m 2 ls [])) (r := res) (fun rec hrec t hf H locs ls hW hS hl => pX10_findStretches_2_b B   (fun v0 v1 hf H locs ls hW hS hl => hrec (v0, v1) hf H locs ls hW hS hl) hf hW hS hl)
  exact key wfuel (y1, M) hf H locs ls hW hS hl
set_option maxRecDepth 100000 in
set_option maxHeartbeats 4000000 in
theorem pX10_findStretches (B : wB E p s m args meth c cX10_findStretches 3 RX10 none) {M : wMem}   {res : wMem} (hf : fX10_findStretches M  = some res) {H : Heap} {locs : List Loc} {ls : Array Slot} (hW : wH E M H) (hS : va_S (wA E) s.heap H locs) (hl : lv_has ls 3 [(0, .ref (wad E 70))]) : W p l e ({ frames := 4, cells := 0, slots := 0, locals := 95 } : Room) s m args below meth c H locs 0 0 (MQ below (wQ E none res) args s 0 0 (wA E)) (F0 m 0 ls []) := by
  unfold fX10_findStretches at hf
  obtain ⟨hx, hb, hr, hml, hown, hts, hlocks, hG, hV, hZ⟩ := id B
  refine lv_iconst (v := 0) hx hb dX10_findStretches_0 rfl ?_
  refine lv_istore_n (lv' := [(1, .int 0), (0, .ref (wad E 70))]) hx hb dX10_findStretches_1 rfl hl (by decide) rfl (fun ls hl => ?_)
  exact pX10_findStretches_2 B   hf hW hS (lv_sub hl [1, 0] rfl)
theorem cX10_findStretches_ok (l : Launch) (E : wE) (M : wMem)  {res : wMem} (hf : fX10_findStretches M  = some res) : wMet l yX10_findStretches (wsM yX10_findStretches cX10_findStretches 3 none) ({ frames := 4, cells := 0, slots := 0, locals := 95 } : Room) E M [.ref (wad E 70)] none res :=
  wc_of (cc := cX10_findStretches) (maxL := 3) (ret := none) (by decide) (Nat.le_of_ble_eq_true rfl) (fun _ _ _ _ _ _ _ _ B hW hl => pX10_findStretches B  hf hW va_S.rf hl)
end
theorem cdX10_find : yX10_find.cls = RX10 ∧ yX10_find.cls ≠ "java/lang/invoke/MethodHandle" ∧ yX10_find.cls ≠ "java/lang/invoke/VarHandle" ∧ (parseMethodDescriptor yX10_find.desc).map (fun d => d.parameters.length) = some 3 := by decide +kernel
section
variable {p : Program} {l : Launch} {e : Env} {s : State} {m : MethodId} {args : Array Value} {below : List Frame} {meth : Method} {c : Code} {E : wE}
set_option maxRecDepth 100000 in
set_option maxHeartbeats 4000000 in
theorem pX10_find (B : wB E p s m args meth c cX10_find 4 RX10 (some .int)) {M : wMem} {a1 : Int32} {a2 : Int32} {a3 : Int32}  {res : Int32 × wMem} (hf : fX10_find M a1 a2 a3 = some res) {H : Heap} {locs : List Loc} {ls : Array Slot} (hW : wH E M H) (hS : va_S (wA E) s.heap H locs) (hl : lv_has ls 4 [(0, .ref (wad E 70)), (1, .int a1), (2, .int a2), (3, .int a3)]) : W p l e ({ frames := 5, cells := 0, slots := 0, locals := 117 } : Room) s m args below meth c H locs 0 0 (MQ below (wQ E (some (.int res.1)) res.2) args s 0 0 (wA E)) (F0 m 0 ls []) := by
  unfold fX10_find at hf
  obtain ⟨hx, hb, hr, hml, hown, hts, hlocks, hG, hV, hZ⟩ := id B
  refine lv_aload_n hx hb dX10_find_0 rfl (lv_at hl 0 rfl) ?_
  refine lv_iload_n hx hb dX10_find_1 rfl (lv_at hl 1 rfl) ?_
  refine lv_iload_n hx hb dX10_find_2 rfl (lv_at hl 2 rfl) ?_
  obtain ⟨r2, hc1, hf⟩ := wbind_e hf
  refine wc_V (As := [.int a1, .int a2]) (rest := []) hx hb hml hown hts hG hV hZ (wlt_9 (rfl : wkd 70 = 9)) (q := (RX10, TX10, 31)) (wen_9 (rfl : wkd 70 = 9)) rfl (cX10_areLamps_ok l E M a1 a2 hc1) (cwV 2 hts gl_X10_196 rfl rfl rfl cdX10_areLamps ⟨Nat.le_of_ble_eq_true rfl, Nat.le_of_ble_eq_true rfl⟩) rfl hl.1 rfl (Nat.le_of_ble_eq_true rfl) dX10_find_3 ⟨Nat.zero_le _, Nat.zero_le _⟩ hW hS rfl (fun H locs hW hS => ?_)
  rcases wif_e hf with ⟨hq3, hf⟩ | ⟨hq3, hf⟩
  · refine lv_if_ne (tgt := 15) hx hb dX10_find_6 (by decide) (fun h => absurd hq3 h) (fun _ => ?_)
    refine lv_aload_n hx hb dX10_find_9 rfl (lv_at hl 0 rfl) ?_
    refine lv_iconst (v := (-1)) hx hb dX10_find_10 rfl ?_
    obtain ⟨r17, M18, hc16, hf⟩ := wbind_p hf
    refine wc_V (As := [.int (-1)]) (rest := []) hx hb hml hown hts hG hV hZ (wlt_9 (rfl : wkd 70 = 9)) (q := (RX10, TX10, 31)) (wen_9 (rfl : wkd 70 = 9)) rfl (cX10_no_ok l E M (-1) hc16) (cwV 1 hts gl_X10_83 rfl rfl rfl cdX10_no ⟨Nat.le_of_ble_eq_true rfl, Nat.le_of_ble_eq_true rfl⟩) rfl hl.1 rfl (Nat.le_of_ble_eq_true rfl) dX10_find_11 ⟨Nat.zero_le _, Nat.zero_le _⟩ hW hS rfl (fun H locs hW hS => ?_)
    have hres := Option.some.inj hf
    subst hres
    exact W.iret hx hb hr (wr_q hG hV hZ hW hS) hS.2.2 dX10_find_14
  · refine lv_if_ne (tgt := 15) hx hb dX10_find_6 (by decide) (fun _ => ?_) (fun h => absurd h hq3)
    refine lv_iload_n hx hb dX10_find_15 rfl (lv_at hl 3 rfl) ?_
    refine lv_iconst (v := 0) hx hb dX10_find_16 rfl ?_
    refine lv_iconst (v := 1) hx hb dX10_find_17 rfl ?_
    obtain ⟨r5, hc4, hf⟩ := wbind_e hf
    refine wc_S (As := [.int a3, .int 0, .int 1]) (rest := []) hx hb hml hown hts hG hV hZ (cX10_isIn_ok l E M a3 0 1 hc4) (va_cwS 3 hts gl_X10_94 rfl rfl rfl cdX10_isIn ⟨Nat.le_of_ble_eq_true rfl, Nat.le_of_ble_eq_true rfl⟩) rfl hl.1 rfl (Nat.le_of_ble_eq_true rfl) dX10_find_18 ⟨Nat.zero_le _, Nat.zero_le _⟩ hW hS rfl (fun H locs hW hS => ?_)
    rcases wif_e hf with ⟨hq6, hf⟩ | ⟨hq6, hf⟩
    · refine lv_if_ne (tgt := 31) hx hb dX10_find_21 (by decide) (fun h => absurd hq6 h) (fun _ => ?_)
      refine lv_aload_n hx hb dX10_find_24 rfl (lv_at hl 0 rfl) ?_
      refine lv_bipush (v := (-2)) hx hb dX10_find_25 (by decide) ?_
      obtain ⟨r14, M15, hc13, hf⟩ := wbind_p hf
      refine wc_V (As := [.int (-2)]) (rest := []) hx hb hml hown hts hG hV hZ (wlt_9 (rfl : wkd 70 = 9)) (q := (RX10, TX10, 31)) (wen_9 (rfl : wkd 70 = 9)) rfl (cX10_no_ok l E M (-2) hc13) (cwV 1 hts gl_X10_83 rfl rfl rfl cdX10_no ⟨Nat.le_of_ble_eq_true rfl, Nat.le_of_ble_eq_true rfl⟩) rfl hl.1 rfl (Nat.le_of_ble_eq_true rfl) dX10_find_27 ⟨Nat.zero_le _, Nat.zero_le _⟩ hW hS rfl (fun H locs hW hS => ?_)
      have hres := Option.some.inj hf
      subst hres
      exact W.iret hx hb hr (wr_q hG hV hZ hW hS) hS.2.2 dX10_find_30
    · refine lv_if_ne (tgt := 31) hx hb dX10_find_21 (by decide) (fun _ => ?_) (fun h => absurd h hq6)
      refine lv_aload_n hx hb dX10_find_31 rfl (lv_at hl 0 rfl) ?_
      obtain ⟨M9, hc7, hf⟩ := wbind_e hf
      refine wc_V (As := []) (rest := []) hx hb hml hown hts hG hV hZ (wlt_9 (rfl : wkd 70 = 9)) (q := (RX10, TX10, 31)) (wen_9 (rfl : wkd 70 = 9)) rfl (cX10_findStretches_ok l E M  hc7) (cwV 0 hts gl_X10_209 rfl rfl rfl cdX10_findStretches ⟨Nat.le_of_ble_eq_true rfl, Nat.le_of_ble_eq_true rfl⟩) rfl hl.1 rfl (Nat.le_of_ble_eq_true rfl) dX10_find_32 ⟨Nat.zero_le _, Nat.zero_le _⟩ hW hS rfl (fun H locs hW hS => ?_)
      refine lv_iload_n hx hb dX10_find_35 rfl (lv_at hl 3 rfl) ?_
      rcases wif_e hf with ⟨hq10, hf⟩ | ⟨hq10, hf⟩
      · refine lv_if_ne (tgt := 53) hx hb dX10_find_36 (by decide) (fun h => absurd hq10 h) (fun _ => ?_)
        refine lv_aload_n hx hb dX10_find_39 rfl (lv_at hl 0 rfl) ?_
        refine wm_get hx hb hts wu_X10 hown hV hW (wlt_9 (rfl : wkd 70 = 9)) (wen_9 (rfl : wkd 70 = 9)) (C := RX10) (T := TX10) (N := 31) rfl 21 (by decide) (hts _ wA_735) rfl dX10_find_40 ?_
        refine lv_bipush (v := 12) hx hb dX10_find_43 (by decide) ?_
        refine lv_iload_n hx hb dX10_find_45 rfl (lv_at hl 1 rfl) ?_
        refine lv_imul hx hb dX10_find_46 ?_
        refine lv_iload_n hx hb dX10_find_47 rfl (lv_at hl 2 rfl) ?_
        refine lv_iadd hx hb dX10_find_48 ?_
        obtain ⟨hi12, hf⟩ := wgi_e hf
        refine wm_iald hx hb hV hW (rfl : wkd 84 = 21) (n := 144) rfl hi12 dX10_find_49 ?_
        refine lv_goto (tgt := 64) hx hb dX10_find_50 (by decide) ?_
        have hres := Option.some.inj hf
        subst hres
        exact W.iret hx hb hr (wr_q hG hV hZ hW hS) hS.2.2 dX10_find_64
      · refine lv_if_ne (tgt := 53) hx hb dX10_find_36 (by decide) (fun _ => ?_) (fun h => absurd h hq10)
        refine lv_aload_n hx hb dX10_find_53 rfl (lv_at hl 0 rfl) ?_
        refine wm_get hx hb hts wu_X10 hown hV hW (wlt_9 (rfl : wkd 70 = 9)) (wen_9 (rfl : wkd 70 = 9)) (C := RX10) (T := TX10) (N := 31) rfl 22 (by decide) (hts _ wA_736) rfl dX10_find_54 ?_
        refine lv_bipush (v := 12) hx hb dX10_find_57 (by decide) ?_
        refine lv_iload_n hx hb dX10_find_59 rfl (lv_at hl 1 rfl) ?_
        refine lv_imul hx hb dX10_find_60 ?_
        refine lv_iload_n hx hb dX10_find_61 rfl (lv_at hl 2 rfl) ?_
        refine lv_iadd hx hb dX10_find_62 ?_
        obtain ⟨hi11, hf⟩ := wgi_e hf
        refine wm_iald hx hb hV hW (rfl : wkd 85 = 21) (n := 144) rfl hi11 dX10_find_63 ?_
        have hres := Option.some.inj hf
        subst hres
        exact W.iret hx hb hr (wr_q hG hV hZ hW hS) hS.2.2 dX10_find_64
theorem cX10_find_ok (l : Launch) (E : wE) (M : wMem) (a1 : Int32) (a2 : Int32) (a3 : Int32) {res : Int32 × wMem} (hf : fX10_find M a1 a2 a3 = some res) : wMet l yX10_find (wsM yX10_find cX10_find 4 (some .int)) ({ frames := 5, cells := 0, slots := 0, locals := 117 } : Room) E M [.ref (wad E 70), .int a1, .int a2, .int a3] (some (.int res.1)) res.2 :=
  wc_of (cc := cX10_find) (maxL := 4) (ret := (some .int)) (by decide) (Nat.le_of_ble_eq_true rfl) (fun _ _ _ _ _ _ _ _ B hW hl => pX10_find B  hf hW va_S.rf hl)
end
theorem cdX10_look : yX10_look.cls = RX10 ∧ yX10_look.cls ≠ "java/lang/invoke/MethodHandle" ∧ yX10_look.cls ≠ "java/lang/invoke/VarHandle" ∧ (parseMethodDescriptor yX10_look.desc).map (fun d => d.parameters.length) = some 3 := by decide +kernel
section
variable {p : Program} {l : Launch} {e : Env} {s : State} {m : MethodId} {args : Array Value} {below : List Frame} {meth : Method} {c : Code} {E : wE}
set_option maxRecDepth 100000 in
set_option maxHeartbeats 4000000 in
theorem pX10_look (B : wB E p s m args meth c cX10_look 4 RX10 (some .int)) {M : wMem} {a1 : Int32} {a2 : Int32} {a3 : Int32}  {res : Int32 × wMem} (hf : fX10_look M a1 a2 a3 = some res) {H : Heap} {locs : List Loc} {ls : Array Slot} (hW : wH E M H) (hS : va_S (wA E) s.heap H locs) (hl : lv_has ls 4 [(0, .ref (wad E 70)), (1, .int a1), (2, .int a2), (3, .int a3)]) : W p l e ({ frames := 5, cells := 0, slots := 0, locals := 117 } : Room) s m args below meth c H locs 0 0 (MQ below (wQ E (some (.int res.1)) res.2) args s 0 0 (wA E)) (F0 m 0 ls []) := by
  unfold fX10_look at hf
  obtain ⟨hx, hb, hr, hml, hown, hts, hlocks, hG, hV, hZ⟩ := id B
  refine lv_aload_n hx hb dX10_look_0 rfl (lv_at hl 0 rfl) ?_
  refine lv_iload_n hx hb dX10_look_1 rfl (lv_at hl 1 rfl) ?_
  refine lv_iload_n hx hb dX10_look_2 rfl (lv_at hl 2 rfl) ?_
  obtain ⟨r2, hc1, hf⟩ := wbind_e hf
  refine wc_V (As := [.int a1, .int a2]) (rest := []) hx hb hml hown hts hG hV hZ (wlt_9 (rfl : wkd 70 = 9)) (q := (RX10, TX10, 31)) (wen_9 (rfl : wkd 70 = 9)) rfl (cX10_areLamps_ok l E M a1 a2 hc1) (cwV 2 hts gl_X10_196 rfl rfl rfl cdX10_areLamps ⟨Nat.le_of_ble_eq_true rfl, Nat.le_of_ble_eq_true rfl⟩) rfl hl.1 rfl (Nat.le_of_ble_eq_true rfl) dX10_look_3 ⟨Nat.zero_le _, Nat.zero_le _⟩ hW hS rfl (fun H locs hW hS => ?_)
  rcases wif_e hf with ⟨hq3, hf⟩ | ⟨hq3, hf⟩
  · refine lv_if_ne (tgt := 15) hx hb dX10_look_6 (by decide) (fun h => absurd hq3 h) (fun _ => ?_)
    refine lv_aload_n hx hb dX10_look_9 rfl (lv_at hl 0 rfl) ?_
    refine lv_iconst (v := (-1)) hx hb dX10_look_10 rfl ?_
    obtain ⟨r17, M18, hc16, hf⟩ := wbind_p hf
    refine wc_V (As := [.int (-1)]) (rest := []) hx hb hml hown hts hG hV hZ (wlt_9 (rfl : wkd 70 = 9)) (q := (RX10, TX10, 31)) (wen_9 (rfl : wkd 70 = 9)) rfl (cX10_no_ok l E M (-1) hc16) (cwV 1 hts gl_X10_83 rfl rfl rfl cdX10_no ⟨Nat.le_of_ble_eq_true rfl, Nat.le_of_ble_eq_true rfl⟩) rfl hl.1 rfl (Nat.le_of_ble_eq_true rfl) dX10_look_11 ⟨Nat.zero_le _, Nat.zero_le _⟩ hW hS rfl (fun H locs hW hS => ?_)
    have hres := Option.some.inj hf
    subst hres
    exact W.iret hx hb hr (wr_q hG hV hZ hW hS) hS.2.2 dX10_look_14
  · refine lv_if_ne (tgt := 15) hx hb dX10_look_6 (by decide) (fun _ => ?_) (fun h => absurd h hq3)
    refine lv_iload_n hx hb dX10_look_15 rfl (lv_at hl 3 rfl) ?_
    refine lv_iconst (v := 0) hx hb dX10_look_16 rfl ?_
    refine lv_iconst (v := 1) hx hb dX10_look_17 rfl ?_
    obtain ⟨r5, hc4, hf⟩ := wbind_e hf
    refine wc_S (As := [.int a3, .int 0, .int 1]) (rest := []) hx hb hml hown hts hG hV hZ (cX10_isIn_ok l E M a3 0 1 hc4) (va_cwS 3 hts gl_X10_94 rfl rfl rfl cdX10_isIn ⟨Nat.le_of_ble_eq_true rfl, Nat.le_of_ble_eq_true rfl⟩) rfl hl.1 rfl (Nat.le_of_ble_eq_true rfl) dX10_look_18 ⟨Nat.zero_le _, Nat.zero_le _⟩ hW hS rfl (fun H locs hW hS => ?_)
    rcases wif_e hf with ⟨hq6, hf⟩ | ⟨hq6, hf⟩
    · refine lv_if_ne (tgt := 31) hx hb dX10_look_21 (by decide) (fun h => absurd hq6 h) (fun _ => ?_)
      refine lv_aload_n hx hb dX10_look_24 rfl (lv_at hl 0 rfl) ?_
      refine lv_bipush (v := (-2)) hx hb dX10_look_25 (by decide) ?_
      obtain ⟨r14, M15, hc13, hf⟩ := wbind_p hf
      refine wc_V (As := [.int (-2)]) (rest := []) hx hb hml hown hts hG hV hZ (wlt_9 (rfl : wkd 70 = 9)) (q := (RX10, TX10, 31)) (wen_9 (rfl : wkd 70 = 9)) rfl (cX10_no_ok l E M (-2) hc13) (cwV 1 hts gl_X10_83 rfl rfl rfl cdX10_no ⟨Nat.le_of_ble_eq_true rfl, Nat.le_of_ble_eq_true rfl⟩) rfl hl.1 rfl (Nat.le_of_ble_eq_true rfl) dX10_look_27 ⟨Nat.zero_le _, Nat.zero_le _⟩ hW hS rfl (fun H locs hW hS => ?_)
      have hres := Option.some.inj hf
      subst hres
      exact W.iret hx hb hr (wr_q hG hV hZ hW hS) hS.2.2 dX10_look_30
    · refine lv_if_ne (tgt := 31) hx hb dX10_look_21 (by decide) (fun _ => ?_) (fun h => absurd h hq6)
      refine lv_aload_n hx hb dX10_look_31 rfl (lv_at hl 0 rfl) ?_
      obtain ⟨M9, hc7, hf⟩ := wbind_e hf
      refine wc_V (As := []) (rest := []) hx hb hml hown hts hG hV hZ (wlt_9 (rfl : wkd 70 = 9)) (q := (RX10, TX10, 31)) (wen_9 (rfl : wkd 70 = 9)) rfl (cX10_findStretches_ok l E M  hc7) (cwV 0 hts gl_X10_209 rfl rfl rfl cdX10_findStretches ⟨Nat.le_of_ble_eq_true rfl, Nat.le_of_ble_eq_true rfl⟩) rfl hl.1 rfl (Nat.le_of_ble_eq_true rfl) dX10_look_32 ⟨Nat.zero_le _, Nat.zero_le _⟩ hW hS rfl (fun H locs hW hS => ?_)
      refine lv_iload_n hx hb dX10_look_35 rfl (lv_at hl 3 rfl) ?_
      rcases wif_e hf with ⟨hq10, hf⟩ | ⟨hq10, hf⟩
      · refine lv_if_ne (tgt := 53) hx hb dX10_look_36 (by decide) (fun h => absurd hq10 h) (fun _ => ?_)
        refine lv_aload_n hx hb dX10_look_39 rfl (lv_at hl 0 rfl) ?_
        refine wm_get hx hb hts wu_X10 hown hV hW (wlt_9 (rfl : wkd 70 = 9)) (wen_9 (rfl : wkd 70 = 9)) (C := RX10) (T := TX10) (N := 31) rfl 23 (by decide) (hts _ wA_737) rfl dX10_look_40 ?_
        refine lv_bipush (v := 12) hx hb dX10_look_43 (by decide) ?_
        refine lv_iload_n hx hb dX10_look_45 rfl (lv_at hl 1 rfl) ?_
        refine lv_imul hx hb dX10_look_46 ?_
        refine lv_iload_n hx hb dX10_look_47 rfl (lv_at hl 2 rfl) ?_
        refine lv_iadd hx hb dX10_look_48 ?_
        obtain ⟨hi12, hf⟩ := wgi_e hf
        refine wm_iald hx hb hV hW (rfl : wkd 86 = 21) (n := 144) rfl hi12 dX10_look_49 ?_
        refine lv_goto (tgt := 64) hx hb dX10_look_50 (by decide) ?_
        have hres := Option.some.inj hf
        subst hres
        exact W.iret hx hb hr (wr_q hG hV hZ hW hS) hS.2.2 dX10_look_64
      · refine lv_if_ne (tgt := 53) hx hb dX10_look_36 (by decide) (fun _ => ?_) (fun h => absurd h hq10)
        refine lv_aload_n hx hb dX10_look_53 rfl (lv_at hl 0 rfl) ?_
        refine wm_get hx hb hts wu_X10 hown hV hW (wlt_9 (rfl : wkd 70 = 9)) (wen_9 (rfl : wkd 70 = 9)) (C := RX10) (T := TX10) (N := 31) rfl 24 (by decide) (hts _ wA_738) rfl dX10_look_54 ?_
        refine lv_bipush (v := 12) hx hb dX10_look_57 (by decide) ?_
        refine lv_iload_n hx hb dX10_look_59 rfl (lv_at hl 1 rfl) ?_
        refine lv_imul hx hb dX10_look_60 ?_
        refine lv_iload_n hx hb dX10_look_61 rfl (lv_at hl 2 rfl) ?_
        refine lv_iadd hx hb dX10_look_62 ?_
        obtain ⟨hi11, hf⟩ := wgi_e hf
        refine wm_iald hx hb hV hW (rfl : wkd 87 = 21) (n := 144) rfl hi11 dX10_look_63 ?_
        have hres := Option.some.inj hf
        subst hres
        exact W.iret hx hb hr (wr_q hG hV hZ hW hS) hS.2.2 dX10_look_64
theorem cX10_look_ok (l : Launch) (E : wE) (M : wMem) (a1 : Int32) (a2 : Int32) (a3 : Int32) {res : Int32 × wMem} (hf : fX10_look M a1 a2 a3 = some res) : wMet l yX10_look (wsM yX10_look cX10_look 4 (some .int)) ({ frames := 5, cells := 0, slots := 0, locals := 117 } : Room) E M [.ref (wad E 70), .int a1, .int a2, .int a3] (some (.int res.1)) res.2 :=
  wc_of (cc := cX10_look) (maxL := 4) (ret := (some .int)) (by decide) (Nat.le_of_ble_eq_true rfl) (fun _ _ _ _ _ _ _ _ B hW hl => pX10_look B  hf hW va_S.rf hl)
end
theorem cdX10_findOrder : yX10_findOrder.cls = RX10 ∧ yX10_findOrder.cls ≠ "java/lang/invoke/MethodHandle" ∧ yX10_findOrder.cls ≠ "java/lang/invoke/VarHandle" ∧ (parseMethodDescriptor yX10_findOrder.desc).map (fun d => d.parameters.length) = some 0 := by decide +kernel
section
variable {p : Program} {l : Launch} {e : Env} {s : State} {m : MethodId} {args : Array Value} {below : List Frame} {meth : Method} {c : Code} {E : wE}
set_option maxRecDepth 100000 in
set_option maxHeartbeats 4000000 in
theorem pX10_findOrder_77 (B : wB E p s m args meth c cX10_findOrder 3 RX10 none) {M : wMem} {y1 : Int32} {y2 : Int32} {rec2 : (Int32 × wMem → Option (wMem))} {res : wMem}  (hrec2 : ∀ (y1' : Int32) (M' : wMem), rec2 (y1', M') = some res → ∀ (H : Heap) (locs : List Loc) (ls : Array Slot), wH E M' H → va_S (wA E) s.heap H locs → lv_has ls 3 [(0, .ref (wad E 70)), (1, .int y1')] → W p l e ({ frames := 2, cells := 0, slots := 0, locals := 42 } : Room) s m args below meth c H locs 0 0 (MQ below (wQ E none res) args s 0 0 (wA E)) (F0 m 2 ls [])) (hf : fX10_findOrder_77 M rec2 y1 y2 = some res) {H : Heap} {locs : List Loc} {ls : Array Slot} (hW : wH E M H) (hS : va_S (wA E) s.heap H locs) (hl : lv_has ls 3 [(0, .ref (wad E 70)), (1, .int y1), (2, .int y2)]) : W p l e ({ frames := 2, cells := 0, slots := 0, locals := 42 } : Room) s m args below meth c H locs 0 0 (MQ below (wQ E none res) args s 0 0 (wA E)) (F0 m 77 ls []) := by
  unfold fX10_findOrder_77 at hf
  obtain ⟨hx, hb, hr, hml, hown, hts, hlocks, hG, hV, hZ⟩ := id B
  refine lv_aload_n hx hb dX10_findOrder_77 rfl (lv_at hl 0 rfl) ?_
  refine wm_get hx hb hts wu_X10 hown hV hW (wlt_9 (rfl : wkd 70 = 9)) (wen_9 (rfl : wkd 70 = 9)) (C := RX10) (T := TX10) (N := 31) rfl 25 (by decide) (hts _ wA_739) rfl dX10_findOrder_78 ?_
  refine lv_iload_n hx hb dX10_findOrder_81 rfl (lv_at hl 2 rfl) ?_
  refine lv_iload_n hx hb dX10_findOrder_82 rfl (lv_at hl 1 rfl) ?_
  obtain ⟨hi3, hf⟩ := wgi_e hf
  refine wm_iast hx hb hG hV hW hS (rfl : wkd 88 = 21) (n := 12) rfl hi3 dX10_findOrder_83 (fun H locs hW hS => ?_)
  obtain ⟨M4, hW, hf⟩ := wlet_M hW hf
  obtain ⟨x5, ex5, hf⟩ := wlet_e hf
  refine lv_iinc (v := x5) (lv' := [(1, .int x5), (0, .ref (wad E 70)), (2, .int y2)]) hx hb dX10_findOrder_84 hl (k := 1) rfl (by rw [ex5]; rfl) (by decide) rfl (fun ls hl => ?_)
  refine lv_goto (tgt := 2) hx hb dX10_findOrder_87 (by decide) ?_
  exact hrec2 x5 M4 hf _ _ _ hW hS (lv_sub hl [1, 0] rfl)
set_option maxRecDepth 100000 in
set_option maxHeartbeats 4000000 in
theorem pX10_findOrder_12_b (B : wB E p s m args meth c cX10_findOrder 3 RX10 none) {M : wMem} {y1 : Int32} {y2 : Int32} {rec2 : (Int32 × wMem → Option (wMem))} {rec12 : (Int32 × wMem → Option (wMem))} {res : wMem}  (hrec2 : ∀ (y1' : Int32) (M' : wMem), rec2 (y1', M') = some res → ∀ (H : Heap) (locs : List Loc) (ls : Array Slot), wH E M' H → va_S (wA E) s.heap H locs → lv_has ls 3 [(0, .ref (wad E 70)), (1, .int y1')] → W p l e ({ frames := 2, cells := 0, slots := 0, locals := 42 } : Room) s m args below meth c H locs 0 0 (MQ below (wQ E none res) args s 0 0 (wA E)) (F0 m 2 ls [])) (hrec12 : ∀ (y2' : Int32) (M' : wMem), rec12 (y2', M') = some res → ∀ (H : Heap) (locs : List Loc) (ls : Array Slot), wH E M' H → va_S (wA E) s.heap H locs → lv_has ls 3 [(0, .ref (wad E 70)), (1, .int y1), (2, .int y2')] → W p l e ({ frames := 2, cells := 0, slots := 0, locals := 42 } : Room) s m args below meth c H locs 0 0 (MQ below (wQ E none res) args s 0 0 (wA E)) (F0 m 12 ls [])) (hf : fX10_findOrder_12_b M rec2 rec12 y1 y2 = some res) {H : Heap} {locs : List Loc} {ls : Array Slot} (hW : wH E M H) (hS : va_S (wA E) s.heap H locs) (hl : lv_has ls 3 [(0, .ref (wad E 70)), (1, .int y1), (2, .int y2)]) : W p l e ({ frames := 2, cells := 0, slots := 0, locals := 42 } : Room) s m args below meth c H locs 0 0 (MQ below (wQ E none res) args s 0 0 (wA E)) (F0 m 12 ls []) := by
  unfold fX10_findOrder_12_b at hf
  obtain ⟨hx, hb, hr, hml, hown, hts, hlocks, hG, hV, hZ⟩ := id B
  refine lv_iload_n hx hb dX10_findOrder_12 rfl (lv_at hl 2 rfl) ?_
  rcases wif_e hf with ⟨hq2, hf⟩ | ⟨hq2, hf⟩
  · refine lv_if_le (tgt := 77) hx hb dX10_findOrder_13 (by decide) (fun _ => ?_) (fun h => absurd hq2 h)
    exact pX10_findOrder_77 B  hrec2 hf hW hS (lv_sub hl [0, 1, 2] rfl)
  · refine lv_if_le (tgt := 77) hx hb dX10_findOrder_13 (by decide) (fun h => absurd h hq2) (fun _ => ?_)
    refine lv_aload_n hx hb dX10_findOrder_16 rfl (lv_at hl 0 rfl) ?_
    refine wm_get hx hb hts wu_X10 hown hV hW (wlt_9 (rfl : wkd 70 = 9)) (wen_9 (rfl : wkd 70 = 9)) (C := RX10) (T := TX10) (N := 31) rfl 3 (by decide) (hts _ wA_717) rfl dX10_findOrder_17 ?_
    refine lv_iload_n hx hb dX10_findOrder_20 rfl (lv_at hl 1 rfl) ?_
    obtain ⟨hi6, hf⟩ := wgi_e hf
    refine wm_iald hx hb hV hW (rfl : wkd 74 = 21) (n := 12) rfl hi6 dX10_findOrder_21 ?_
    refine lv_aload_n hx hb dX10_findOrder_22 rfl (lv_at hl 0 rfl) ?_
    refine lv_aload_n hx hb dX10_findOrder_23 rfl (lv_at hl 0 rfl) ?_
    refine wm_get hx hb hts wu_X10 hown hV hW (wlt_9 (rfl : wkd 70 = 9)) (wen_9 (rfl : wkd 70 = 9)) (C := RX10) (T := TX10) (N := 31) rfl 25 (by decide) (hts _ wA_739) rfl dX10_findOrder_24 ?_
    refine lv_iload_n hx hb dX10_findOrder_27 rfl (lv_at hl 2 rfl) ?_
    refine lv_iconst (v := 1) hx hb dX10_findOrder_28 rfl ?_
    refine lv_isub hx hb dX10_findOrder_29 ?_
    obtain ⟨hi7, hf⟩ := wgi_e hf
    refine wm_iald hx hb hV hW (rfl : wkd 88 = 21) (n := 12) rfl hi7 dX10_findOrder_30 ?_
    obtain ⟨r9, hc8, hf⟩ := wbind_e hf
    refine wc_V (As := [.int (M 88 (Int32.toNatClampNeg (y2 - 1)))]) (rest := [.int (M 74 (Int32.toNatClampNeg y1))]) hx hb hml hown hts hG hV hZ (wlt_9 (rfl : wkd 70 = 9)) (q := (RX10, TX10, 31)) (wen_9 (rfl : wkd 70 = 9)) rfl (cX10_likelyOf_ok l E M (M 88 (Int32.toNatClampNeg (y2 - 1))) hc8) (cwV 1 hts gl_X10_174 rfl rfl rfl cdX10_likelyOf ⟨Nat.le_of_ble_eq_true rfl, Nat.le_of_ble_eq_true rfl⟩) rfl hl.1 rfl (Nat.le_of_ble_eq_true rfl) dX10_findOrder_31 ⟨Nat.zero_le _, Nat.zero_le _⟩ hW hS rfl (fun H locs hW hS => ?_)
    refine lv_imul hx hb dX10_findOrder_34 ?_
    refine lv_aload_n hx hb dX10_findOrder_35 rfl (lv_at hl 0 rfl) ?_
    refine wm_get hx hb hts wu_X10 hown hV hW (wlt_9 (rfl : wkd 70 = 9)) (wen_9 (rfl : wkd 70 = 9)) (C := RX10) (T := TX10) (N := 31) rfl 3 (by decide) (hts _ wA_717) rfl dX10_findOrder_36 ?_
    refine lv_aload_n hx hb dX10_findOrder_39 rfl (lv_at hl 0 rfl) ?_
    refine wm_get hx hb hts wu_X10 hown hV hW (wlt_9 (rfl : wkd 70 = 9)) (wen_9 (rfl : wkd 70 = 9)) (C := RX10) (T := TX10) (N := 31) rfl 25 (by decide) (hts _ wA_739) rfl dX10_findOrder_40 ?_
    refine lv_iload_n hx hb dX10_findOrder_43 rfl (lv_at hl 2 rfl) ?_
    refine lv_iconst (v := 1) hx hb dX10_findOrder_44 rfl ?_
    refine lv_isub hx hb dX10_findOrder_45 ?_
    obtain ⟨hi10, hf⟩ := wgi_e hf
    refine wm_iald hx hb hV hW (rfl : wkd 88 = 21) (n := 12) rfl hi10 dX10_findOrder_46 ?_
    obtain ⟨hi11, hf⟩ := wgi_e hf
    refine wm_iald hx hb hV hW (rfl : wkd 74 = 21) (n := 12) rfl hi11 dX10_findOrder_47 ?_
    refine lv_aload_n hx hb dX10_findOrder_48 rfl (lv_at hl 0 rfl) ?_
    refine lv_iload_n hx hb dX10_findOrder_49 rfl (lv_at hl 1 rfl) ?_
    obtain ⟨r13, hc12, hf⟩ := wbind_e hf
    refine wc_V (As := [.int y1]) (rest := [.int (M 74 (Int32.toNatClampNeg (M 88 (Int32.toNatClampNeg (y2 - 1))))), .int ((M 74 (Int32.toNatClampNeg y1)) * r9)]) hx hb hml hown hts hG hV hZ (wlt_9 (rfl : wkd 70 = 9)) (q := (RX10, TX10, 31)) (wen_9 (rfl : wkd 70 = 9)) rfl (cX10_likelyOf_ok l E M y1 hc12) (cwV 1 hts gl_X10_174 rfl rfl rfl cdX10_likelyOf ⟨Nat.le_of_ble_eq_true rfl, Nat.le_of_ble_eq_true rfl⟩) rfl hl.1 rfl (Nat.le_of_ble_eq_true rfl) dX10_findOrder_50 ⟨Nat.zero_le _, Nat.zero_le _⟩ hW hS rfl (fun H locs hW hS => ?_)
    refine lv_imul hx hb dX10_findOrder_53 ?_
    rcases wif_e hf with ⟨hq14, hf⟩ | ⟨hq14, hf⟩
    · refine lv_icmp_ge (tgt := 77) hx hb dX10_findOrder_54 (by decide) (fun _ => ?_) (fun h => absurd hq14 h)
      exact pX10_findOrder_77 B  hrec2 hf hW hS (lv_sub hl [0, 1, 2] rfl)
    · refine lv_icmp_ge (tgt := 77) hx hb dX10_findOrder_54 (by decide) (fun h => absurd h hq14) (fun _ => ?_)
      refine lv_aload_n hx hb dX10_findOrder_57 rfl (lv_at hl 0 rfl) ?_
      refine wm_get hx hb hts wu_X10 hown hV hW (wlt_9 (rfl : wkd 70 = 9)) (wen_9 (rfl : wkd 70 = 9)) (C := RX10) (T := TX10) (N := 31) rfl 25 (by decide) (hts _ wA_739) rfl dX10_findOrder_58 ?_
      refine lv_iload_n hx hb dX10_findOrder_61 rfl (lv_at hl 2 rfl) ?_
      refine lv_aload_n hx hb dX10_findOrder_62 rfl (lv_at hl 0 rfl) ?_
      refine wm_get hx hb hts wu_X10 hown hV hW (wlt_9 (rfl : wkd 70 = 9)) (wen_9 (rfl : wkd 70 = 9)) (C := RX10) (T := TX10) (N := 31) rfl 25 (by decide) (hts _ wA_739) rfl dX10_findOrder_63 ?_
      refine lv_iload_n hx hb dX10_findOrder_66 rfl (lv_at hl 2 rfl) ?_
      refine lv_iconst (v := 1) hx hb dX10_findOrder_67 rfl ?_
      refine lv_isub hx hb dX10_findOrder_68 ?_
      obtain ⟨hi15, hf⟩ := wgi_e hf
      refine wm_iald hx hb hV hW (rfl : wkd 88 = 21) (n := 12) rfl hi15 dX10_findOrder_69 ?_
      obtain ⟨hi16, hf⟩ := wgi_e hf
      refine wm_iast hx hb hG hV hW hS (rfl : wkd 88 = 21) (n := 12) rfl hi16 dX10_findOrder_70 (fun H locs hW hS => ?_)
      obtain ⟨M17, hW, hf⟩ := wlet_M hW hf
      obtain ⟨x18, ex18, hf⟩ := wlet_e hf
      refine lv_iinc (v := x18) (lv' := [(2, .int x18), (0, .ref (wad E 70)), (1, .int y1)]) hx hb dX10_findOrder_71 hl (k := 2) rfl (by rw [ex18]; rfl) (by decide) rfl (fun ls hl => ?_)
      refine lv_goto (tgt := 12) hx hb dX10_findOrder_74 (by decide) ?_
      exact hrec12 x18 M17 hf _ _ _ hW hS (lv_sub hl [1, 2, 0] rfl)
set_option maxRecDepth 100000 in
set_option maxHeartbeats 4000000 in
theorem pX10_findOrder_12 (B : wB E p s m args meth c cX10_findOrder 3 RX10 none) {M : wMem} {y1 : Int32} {y2 : Int32} {rec2 : (Int32 × wMem → Option (wMem))} {res : wMem}  (hrec2 : ∀ (y1' : Int32) (M' : wMem), rec2 (y1', M') = some res → ∀ (H : Heap) (locs : List Loc) (ls : Array Slot), wH E M' H → va_S (wA E) s.heap H locs → lv_has ls 3 [(0, .ref (wad E 70)), (1, .int y1')] → W p l e ({ frames := 2, cells := 0, slots := 0, locals := 42 } : Room) s m args below meth c H locs 0 0 (MQ below (wQ E none res) args s 0 0 (wA E)) (F0 m 2 ls [])) (hf : fX10_findOrder_12 M rec2 y1 y2 = some res) {H : Heap} {locs : List Loc} {ls : Array Slot} (hW : wH E M H) (hS : va_S (wA E) s.heap H locs) (hl : lv_has ls 3 [(0, .ref (wad E 70)), (1, .int y1), (2, .int y2)]) : W p l e ({ frames := 2, cells := 0, slots := 0, locals := 42 } : Room) s m args below meth c H locs 0 0 (MQ below (wQ E none res) args s 0 0 (wA E)) (F0 m 12 ls []) := by
  have key := wloop_W (b := (fun rec12 t => fX10_findOrder_12_b t.2 rec2 rec12 y1 t.1)) (P := fun t => ∀ (H : Heap) (locs : List Loc) (ls : Array Slot), wH E t.2 H → va_S (wA E) s.heap H locs → lv_has ls 3 [(0, .ref (wad E 70)), (1, .int y1), (2, .int t.1)] → W p l e ({ frames := 2, cells := 0, slots := 0, locals := 42 } : Room) s m args below meth c H locs 0 0 (MQ below (wQ E none res) args s 0 0 (wA E)) (F0 m 12 ls [])) (r := res) (fun rec hrec t hf H locs ls hW hS hl => pX10_findOrder_12_b B  hrec2 (fun v0 v1 hf H locs ls hW hS hl => hrec (v0, v1) hf H locs ls hW hS hl) hf hW hS hl)
  exact key wfuel (y2, M) hf H locs ls hW hS hl
set_option maxRecDepth 100000 in
set_option maxHeartbeats 4000000 in
theorem pX10_findOrder_2_b (B : wB E p s m args meth c cX10_findOrder 3 RX10 none) {M : wMem} {y1 : Int32}  {rec2 : (Int32 × wMem → Option (wMem))} {res : wMem}   (hrec2 : ∀ (y1' : Int32) (M' : wMem), rec2 (y1', M') = some res → ∀ (H : Heap) (locs : List Loc) (ls : Array Slot), wH E M' H → va_S (wA E) s.heap H locs → lv_has ls 3 [(0, .ref (wad E 70)), (1, .int y1')] → W p l e ({ frames := 2, cells := 0, slots := 0, locals := 42 } : Room) s m args below meth c H locs 0 0 (MQ below (wQ E none res) args s 0 0 (wA E)) (F0 m 2 ls [])) (hf : fX10_findOrder_2_b M  rec2 y1 = some res) {H : Heap} {locs : List Loc} {ls : Array Slot} (hW : wH E M H) (hS : va_S (wA E) s.heap H locs) (hl : lv_has ls 3 [(0, .ref (wad E 70)), (1, .int y1)]) : W p l e ({ frames := 2, cells := 0, slots := 0, locals := 42 } : Room) s m args below meth c H locs 0 0 (MQ below (wQ E none res) args s 0 0 (wA E)) (F0 m 2 ls []) := by
  unfold fX10_findOrder_2_b at hf
  obtain ⟨hx, hb, hr, hml, hown, hts, hlocks, hG, hV, hZ⟩ := id B
  refine lv_iload_n hx hb dX10_findOrder_2 rfl (lv_at hl 1 rfl) ?_
  refine lv_aload_n hx hb dX10_findOrder_3 rfl (lv_at hl 0 rfl) ?_
  refine wm_get hx hb hts wu_X10 hown hV hW (wlt_9 (rfl : wkd 70 = 9)) (wen_9 (rfl : wkd 70 = 9)) (C := RX10) (T := TX10) (N := 31) rfl 7 (by decide) (hts _ wA_721) rfl dX10_findOrder_4 ?_
  rcases wif_e hf with ⟨hq1, hf⟩ | ⟨hq1, hf⟩
  · refine lv_icmp_ge (tgt := 90) hx hb dX10_findOrder_7 (by decide) (fun _ => ?_) (fun h => absurd hq1 h)
    have hres := Option.some.inj hf
    subst hres
    exact W.vret hx hb hr (wr_q hG hV hZ hW hS) hS.2.2 dX10_findOrder_90
  · refine lv_icmp_ge (tgt := 90) hx hb dX10_findOrder_7 (by decide) (fun h => absurd h hq1) (fun _ => ?_)
    refine lv_iload_n hx hb dX10_findOrder_10 rfl (lv_at hl 1 rfl) ?_
    refine lv_istore_n (lv' := [(2, .int y1), (0, .ref (wad E 70)), (1, .int y1)]) hx hb dX10_findOrder_11 rfl hl (by decide) rfl (fun ls hl => ?_)
    exact pX10_findOrder_12 B  hrec2 hf hW hS (lv_sub hl [1, 2, 0] rfl)
set_option maxRecDepth 100000 in
set_option maxHeartbeats 4000000 in
theorem pX10_findOrder_2 (B : wB E p s m args meth c cX10_findOrder 3 RX10 none) {M : wMem} {y1 : Int32}  {res : wMem}   (hf : fX10_findOrder_2 M  y1 = some res) {H : Heap} {locs : List Loc} {ls : Array Slot} (hW : wH E M H) (hS : va_S (wA E) s.heap H locs) (hl : lv_has ls 3 [(0, .ref (wad E 70)), (1, .int y1)]) : W p l e ({ frames := 2, cells := 0, slots := 0, locals := 42 } : Room) s m args below meth c H locs 0 0 (MQ below (wQ E none res) args s 0 0 (wA E)) (F0 m 2 ls []) := by
  have key := wloop_W (b := (fun rec2 t => fX10_findOrder_2_b t.2  rec2 t.1)) (P := fun t => ∀ (H : Heap) (locs : List Loc) (ls : Array Slot), wH E t.2 H → va_S (wA E) s.heap H locs → lv_has ls 3 [(0, .ref (wad E 70)), (1, .int t.1)] → W p l e ({ frames := 2, cells := 0, slots := 0, locals := 42 } : Room) s m args below meth c H locs 0 0 (MQ below (wQ E none res) args s 0 0 (wA E)) (F0 m 2 ls [])) (r := res) (fun rec hrec t hf H locs ls hW hS hl => pX10_findOrder_2_b B   (fun v0 v1 hf H locs ls hW hS hl => hrec (v0, v1) hf H locs ls hW hS hl) hf hW hS hl)
  exact key wfuel (y1, M) hf H locs ls hW hS hl
set_option maxRecDepth 100000 in
set_option maxHeartbeats 4000000 in
theorem pX10_findOrder (B : wB E p s m args meth c cX10_findOrder 3 RX10 none) {M : wMem}   {res : wMem} (hf : fX10_findOrder M  = some res) {H : Heap} {locs : List Loc} {ls : Array Slot} (hW : wH E M H) (hS : va_S (wA E) s.heap H locs) (hl : lv_has ls 3 [(0, .ref (wad E 70))]) : W p l e ({ frames := 2, cells := 0, slots := 0, locals := 42 } : Room) s m args below meth c H locs 0 0 (MQ below (wQ E none res) args s 0 0 (wA E)) (F0 m 0 ls []) := by
  unfold fX10_findOrder at hf
  obtain ⟨hx, hb, hr, hml, hown, hts, hlocks, hG, hV, hZ⟩ := id B
  refine lv_iconst (v := 0) hx hb dX10_findOrder_0 rfl ?_
  refine lv_istore_n (lv' := [(1, .int 0), (0, .ref (wad E 70))]) hx hb dX10_findOrder_1 rfl hl (by decide) rfl (fun ls hl => ?_)
  exact pX10_findOrder_2 B   hf hW hS (lv_sub hl [1, 0] rfl)
theorem cX10_findOrder_ok (l : Launch) (E : wE) (M : wMem)  {res : wMem} (hf : fX10_findOrder M  = some res) : wMet l yX10_findOrder (wsM yX10_findOrder cX10_findOrder 3 none) ({ frames := 2, cells := 0, slots := 0, locals := 42 } : Room) E M [.ref (wad E 70)] none res :=
  wc_of (cc := cX10_findOrder) (maxL := 3) (ret := none) (by decide) (Nat.le_of_ble_eq_true rfl) (fun _ _ _ _ _ _ _ _ B hW hl => pX10_findOrder B  hf hW va_S.rf hl)
end
theorem cdX10_order : yX10_order.cls = RX10 ∧ yX10_order.cls ≠ "java/lang/invoke/MethodHandle" ∧ yX10_order.cls ≠ "java/lang/invoke/VarHandle" ∧ (parseMethodDescriptor yX10_order.desc).map (fun d => d.parameters.length) = some 1 := by decide +kernel
section
variable {p : Program} {l : Launch} {e : Env} {s : State} {m : MethodId} {args : Array Value} {below : List Frame} {meth : Method} {c : Code} {E : wE}
set_option maxRecDepth 100000 in
set_option maxHeartbeats 4000000 in
theorem pX10_order (B : wB E p s m args meth c cX10_order 2 RX10 (some .int)) {M : wMem} {a1 : Int32}  {res : Int32 × wMem} (hf : fX10_order M a1 = some res) {H : Heap} {locs : List Loc} {ls : Array Slot} (hW : wH E M H) (hS : va_S (wA E) s.heap H locs) (hl : lv_has ls 2 [(0, .ref (wad E 70)), (1, .int a1)]) : W p l e ({ frames := 3, cells := 0, slots := 0, locals := 64 } : Room) s m args below meth c H locs 0 0 (MQ below (wQ E (some (.int res.1)) res.2) args s 0 0 (wA E)) (F0 m 0 ls []) := by
  unfold fX10_order at hf
  obtain ⟨hx, hb, hr, hml, hown, hts, hlocks, hG, hV, hZ⟩ := id B
  refine lv_iload_n hx hb dX10_order_0 rfl (lv_at hl 1 rfl) ?_
  rcases wif_e hf with ⟨hq1, hf⟩ | ⟨hq1, hf⟩
  · refine lv_if_ge (tgt := 11) hx hb dX10_order_1 (by decide) (fun _ => ?_) (fun h => absurd hq1 h)
    refine lv_aload_n hx hb dX10_order_11 rfl (lv_at hl 0 rfl) ?_
    obtain ⟨M4, hc2, hf⟩ := wbind_e hf
    refine wc_V (As := []) (rest := []) hx hb hml hown hts hG hV hZ (wlt_9 (rfl : wkd 70 = 9)) (q := (RX10, TX10, 31)) (wen_9 (rfl : wkd 70 = 9)) rfl (cX10_findOrder_ok l E M  hc2) (cwV 0 hts gl_X10_212 rfl rfl rfl cdX10_findOrder ⟨Nat.le_of_ble_eq_true rfl, Nat.le_of_ble_eq_true rfl⟩) rfl hl.1 rfl (Nat.le_of_ble_eq_true rfl) dX10_order_12 ⟨Nat.zero_le _, Nat.zero_le _⟩ hW hS rfl (fun H locs hW hS => ?_)
    refine lv_iload_n hx hb dX10_order_15 rfl (lv_at hl 1 rfl) ?_
    refine lv_aload_n hx hb dX10_order_16 rfl (lv_at hl 0 rfl) ?_
    refine wm_get hx hb hts wu_X10 hown hV hW (wlt_9 (rfl : wkd 70 = 9)) (wen_9 (rfl : wkd 70 = 9)) (C := RX10) (T := TX10) (N := 31) rfl 7 (by decide) (hts _ wA_721) rfl dX10_order_17 ?_
    rcases wif_e hf with ⟨hq5, hf⟩ | ⟨hq5, hf⟩
    · refine lv_icmp_ge (tgt := 32) hx hb dX10_order_20 (by decide) (fun _ => ?_) (fun h => absurd hq5 h)
      refine lv_bipush (v := (-9)) hx hb dX10_order_32 (by decide) ?_
      have hres := Option.some.inj hf
      subst hres
      exact W.iret hx hb hr (wr_q hG hV hZ hW hS) hS.2.2 dX10_order_34
    · refine lv_icmp_ge (tgt := 32) hx hb dX10_order_20 (by decide) (fun h => absurd h hq5) (fun _ => ?_)
      refine lv_aload_n hx hb dX10_order_23 rfl (lv_at hl 0 rfl) ?_
      refine wm_get hx hb hts wu_X10 hown hV hW (wlt_9 (rfl : wkd 70 = 9)) (wen_9 (rfl : wkd 70 = 9)) (C := RX10) (T := TX10) (N := 31) rfl 25 (by decide) (hts _ wA_739) rfl dX10_order_24 ?_
      refine lv_iload_n hx hb dX10_order_27 rfl (lv_at hl 1 rfl) ?_
      obtain ⟨hi6, hf⟩ := wgi_e hf
      refine wm_iald hx hb hV hW (rfl : wkd 88 = 21) (n := 12) rfl hi6 dX10_order_28 ?_
      refine lv_goto (tgt := 34) hx hb dX10_order_29 (by decide) ?_
      have hres := Option.some.inj hf
      subst hres
      exact W.iret hx hb hr (wr_q hG hV hZ hW hS) hS.2.2 dX10_order_34
  · refine lv_if_ge (tgt := 11) hx hb dX10_order_1 (by decide) (fun h => absurd h hq1) (fun _ => ?_)
    refine lv_aload_n hx hb dX10_order_4 rfl (lv_at hl 0 rfl) ?_
    refine lv_bipush (v := (-4)) hx hb dX10_order_5 (by decide) ?_
    obtain ⟨r8, M9, hc7, hf⟩ := wbind_p hf
    refine wc_V (As := [.int (-4)]) (rest := []) hx hb hml hown hts hG hV hZ (wlt_9 (rfl : wkd 70 = 9)) (q := (RX10, TX10, 31)) (wen_9 (rfl : wkd 70 = 9)) rfl (cX10_no_ok l E M (-4) hc7) (cwV 1 hts gl_X10_83 rfl rfl rfl cdX10_no ⟨Nat.le_of_ble_eq_true rfl, Nat.le_of_ble_eq_true rfl⟩) rfl hl.1 rfl (Nat.le_of_ble_eq_true rfl) dX10_order_7 ⟨Nat.zero_le _, Nat.zero_le _⟩ hW hS rfl (fun H locs hW hS => ?_)
    have hres := Option.some.inj hf
    subst hres
    exact W.iret hx hb hr (wr_q hG hV hZ hW hS) hS.2.2 dX10_order_10
theorem cX10_order_ok (l : Launch) (E : wE) (M : wMem) (a1 : Int32) {res : Int32 × wMem} (hf : fX10_order M a1 = some res) : wMet l yX10_order (wsM yX10_order cX10_order 2 (some .int)) ({ frames := 3, cells := 0, slots := 0, locals := 64 } : Room) E M [.ref (wad E 70), .int a1] (some (.int res.1)) res.2 :=
  wc_of (cc := cX10_order) (maxL := 2) (ret := (some .int)) (by decide) (Nat.le_of_ble_eq_true rfl) (fun _ _ _ _ _ _ _ _ B hW hl => pX10_order B  hf hW va_S.rf hl)
end
