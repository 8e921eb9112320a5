theorem cdX10_seeds : yX10_seeds.cls = RX10 ∧ yX10_seeds.cls ≠ "java/lang/invoke/MethodHandle" ∧ yX10_seeds.cls ≠ "java/lang/invoke/VarHandle" ∧ (parseMethodDescriptor yX10_seeds.desc).map (fun d => d.parameters.length) = some 2 := by decide +kernel
section
variable {p : Program} {l : Launch} {e : Env} {s : State} {m : MethodId} {args : Array Value} {below : List Frame} {meth : Method} {c : Code} {E : wE}
set_option maxRecDepth 100000 in
set_option maxHeartbeats 4000000 in
theorem pX10_seeds_44_b (B : wB E p s m args meth c cX10_seeds 6 RX10 (some .int)) {M : wMem} {y1 : Int32} {y4 : Int32} {y5 : Int32}  {rec44 : (Int32 × Int32 × wMem → Option (Int32 × wMem))} {res : Int32 × wMem}   (hrec44 : ∀ (y4' : Int32) (y5' : Int32) (M' : wMem), rec44 (y4', y5', M') = some res → ∀ (H : Heap) (locs : List Loc) (ls : Array Slot), wH E M' H → va_S (wA E) s.heap H locs → lv_has ls 6 [(0, .ref (wad E 70)), (1, .int y1), (4, .int y4'), (5, .int y5')] → W p l e ({ frames := 5, cells := 0, slots := 0, locals := 107 } : Room) s m args below meth c H locs 0 0 (MQ below (wQ E (some (.int res.1)) res.2) args s 0 0 (wA E)) (F0 m 44 ls [])) (hf : fX10_seeds_44_b M  rec44 y1 y4 y5 = some res) {H : Heap} {locs : List Loc} {ls : Array Slot} (hW : wH E M H) (hS : va_S (wA E) s.heap H locs) (hl : lv_has ls 6 [(0, .ref (wad E 70)), (1, .int y1), (4, .int y4), (5, .int y5)]) : W p l e ({ frames := 5, cells := 0, slots := 0, locals := 107 } : Room) s m args below meth c H locs 0 0 (MQ below (wQ E (some (.int res.1)) res.2) args s 0 0 (wA E)) (F0 m 44 ls []) := by
  unfold fX10_seeds_44_b at hf
  obtain ⟨hx, hb, hr, hml, hown, hts, hlocks, hG, hV, hZ⟩ := id B
  refine lv_iload hx hb dX10_seeds_44 (lv_at hl 3 rfl) ?_
  refine lv_iload_n hx hb dX10_seeds_46 rfl (lv_at hl 1 rfl) ?_
  rcases wif_e hf with ⟨hq8, hf⟩ | ⟨hq8, hf⟩
  · refine lv_icmp_ge (tgt := 89) hx hb dX10_seeds_47 (by decide) (fun _ => ?_) (fun h => absurd hq8 h)
    refine lv_aload_n hx hb dX10_seeds_89 rfl (lv_at hl 0 rfl) ?_
    refine lv_iconst (v := 0) hx hb dX10_seeds_90 rfl ?_
    obtain ⟨r10, hc9, hf⟩ := wbind_e hf
    refine wc_V (As := [.int 0]) (rest := []) hx hb hml hown hts hG hV hZ (wlt_9 (rfl : wkd 70 = 9)) (q := (RX10, TX10, 31)) (wen_9 (rfl : wkd 70 = 9)) rfl (cX10_stateMany_ok l E M 0 hc9) (cwV 1 hts gl_X10_230 rfl rfl rfl cdX10_stateMany ⟨Nat.le_of_ble_eq_true rfl, Nat.le_of_ble_eq_true rfl⟩) rfl hl.1 rfl (Nat.le_of_ble_eq_true rfl) dX10_seeds_91 ⟨Nat.zero_le _, Nat.zero_le _⟩ hW hS rfl (fun H locs hW hS => ?_)
    refine lv_istore (lv' := [(5, .int r10), (0, .ref (wad E 70)), (1, .int y1), (4, .int y4)]) hx hb dX10_seeds_94 hl (by decide) rfl (fun ls hl => ?_)
    refine lv_aload_n hx hb dX10_seeds_96 rfl (lv_at hl 1 rfl) ?_
    refine lv_iconst (v := 1) hx hb dX10_seeds_97 rfl ?_
    refine lv_iconst (v := 0) hx hb dX10_seeds_98 rfl ?_
    obtain ⟨M13, hc11, hf⟩ := wbind_e hf
    refine wc_V (As := [.int 1, .int 0]) (rest := []) hx hb hml hown hts hG hV hZ (wlt_9 (rfl : wkd 70 = 9)) (q := (RX10, TX10, 31)) (wen_9 (rfl : wkd 70 = 9)) rfl (cX10_passesAll_ok l E M 1 0 hc11) (cwV 2 hts gl_X10_119 rfl rfl rfl cdX10_passesAll ⟨Nat.le_of_ble_eq_true rfl, Nat.le_of_ble_eq_true rfl⟩) rfl hl.1 rfl (Nat.le_of_ble_eq_true rfl) dX10_seeds_99 ⟨Nat.zero_le _, Nat.zero_le _⟩ hW hS rfl (fun H locs hW hS => ?_)
    refine lv_iload hx hb dX10_seeds_102 (lv_at hl 0 rfl) ?_
    have hres := Option.some.inj hf
    subst hres
    exact W.iret hx hb hr (wr_q hG hV hZ hW hS) hS.2.2 dX10_seeds_104
  · refine lv_icmp_ge (tgt := 89) hx hb dX10_seeds_47 (by decide) (fun h => absurd h hq8) (fun _ => ?_)
    refine lv_iload hx hb dX10_seeds_50 (lv_at hl 2 rfl) ?_
    refine lv_ldc (v := 1103515245) hx hb hown (hts _ wA_1082) dX10_seeds_52 ?_
    refine lv_imul hx hb dX10_seeds_54 ?_
    refine lv_sipush (v := 12345) hx hb dX10_seeds_55 (by decide) ?_
    refine lv_iadd hx hb dX10_seeds_58 ?_
    refine lv_topi (fun x14 ex14 => ?_)
    replace hf := wlet_y ex14 hf
    refine lv_istore (lv' := [(4, .int x14), (0, .ref (wad E 70)), (1, .int y1), (5, .int y5)]) hx hb dX10_seeds_59 hl (by decide) rfl (fun ls hl => ?_)
    refine lv_aload_n hx hb dX10_seeds_61 rfl (lv_at hl 1 rfl) ?_
    refine lv_iload hx hb dX10_seeds_62 (lv_at hl 0 rfl) ?_
    refine lv_ldc (v := 2147483647) hx hb hown (hts _ wA_1083) dX10_seeds_64 ?_
    refine lv_iand hx hb dX10_seeds_66 ?_
    refine lv_ldc (v := 65536) hx hb hown (hts _ wA_1084) dX10_seeds_67 ?_
    obtain ⟨hz15, hf⟩ := wgz_e hf
    refine lv_idiv hx hb dX10_seeds_69 hz15 ?_
    refine lv_aload_n hx hb dX10_seeds_70 rfl (lv_at hl 1 rfl) ?_
    refine wm_get hx hb hts wu_X10 hown hV hW (wlt_9 (rfl : wkd 70 = 9)) (wen_9 (rfl : wkd 70 = 9)) (C := RX10) (T := TX10) (N := 31) rfl 7 (by decide) (hts _ wA_721) rfl dX10_seeds_71 ?_
    obtain ⟨hz16, hf⟩ := wgz_e hf
    refine lv_irem hx hb dX10_seeds_74 hz16 ?_
    obtain ⟨M19, hc17, hf⟩ := wbind_e hf
    refine wc_V (As := [.int (((x14 &&& 2147483647) / 65536) - ((x14 &&& 2147483647) / 65536) / (M 70 7) * (M 70 7))]) (rest := []) hx hb hml hown hts hG hV hZ (wlt_9 (rfl : wkd 70 = 9)) (q := (RX10, TX10, 31)) (wen_9 (rfl : wkd 70 = 9)) rfl (cX10_touches_ok l E M (((x14 &&& 2147483647) / 65536) - ((x14 &&& 2147483647) / 65536) / (M 70 7) * (M 70 7)) hc17) (cwV 1 hts gl_X10_199 rfl rfl rfl cdX10_touches ⟨Nat.le_of_ble_eq_true rfl, Nat.le_of_ble_eq_true rfl⟩) rfl hl.1 rfl (Nat.le_of_ble_eq_true rfl) dX10_seeds_75 ⟨Nat.zero_le _, Nat.zero_le _⟩ hW hS rfl (fun H locs hW hS => ?_)
    refine lv_aload_n hx hb dX10_seeds_78 rfl (lv_at hl 1 rfl) ?_
    obtain ⟨r21, M22, hc20, hf⟩ := wbind_p hf
    refine wc_V (As := []) (rest := []) hx hb hml hown hts hG hV hZ (wlt_9 (rfl : wkd 70 = 9)) (q := (RX10, TX10, 31)) (wen_9 (rfl : wkd 70 = 9)) rfl (cX10_goesHour_ok l E M19  hc20) (cwV 0 hts gl_X10_189 rfl rfl rfl cdX10_goesHour ⟨Nat.le_of_ble_eq_true rfl, Nat.le_of_ble_eq_true rfl⟩) rfl hl.1 rfl (Nat.le_of_ble_eq_true rfl) dX10_seeds_79 ⟨Nat.zero_le _, Nat.zero_le _⟩ hW hS rfl (fun H locs hW hS => ?_)
    refine lv_pop hx hb dX10_seeds_82 rfl ?_
    obtain ⟨x23, ex23, hf⟩ := wlet_e hf
    refine lv_iinc (v := x23) (lv' := [(5, .int x23), (4, .int x14), (0, .ref (wad E 70)), (1, .int y1)]) hx hb dX10_seeds_83 hl (k := 3) rfl (by rw [ex23]; rfl) (by decide) rfl (fun ls hl => ?_)
    refine lv_goto (tgt := 44) hx hb dX10_seeds_86 (by decide) ?_
    exact hrec44 x14 x23 M22 hf _ _ _ hW hS (lv_sub hl [2, 3, 1, 0] rfl)
set_option maxRecDepth 100000 in
set_option maxHeartbeats 4000000 in
theorem pX10_seeds_44 (B : wB E p s m args meth c cX10_seeds 6 RX10 (some .int)) {M : wMem} {y1 : Int32} {y4 : Int32} {y5 : Int32}  {res : Int32 × wMem}   (hf : fX10_seeds_44 M  y1 y4 y5 = some res) {H : Heap} {locs : List Loc} {ls : Array Slot} (hW : wH E M H) (hS : va_S (wA E) s.heap H locs) (hl : lv_has ls 6 [(0, .ref (wad E 70)), (1, .int y1), (4, .int y4), (5, .int y5)]) : W p l e ({ frames := 5, cells := 0, slots := 0, locals := 107 } : Room) s m args below meth c H locs 0 0 (MQ below (wQ E (some (.int res.1)) res.2) args s 0 0 (wA E)) (F0 m 44 ls []) := by
  have key := wloop_W (b := (fun rec44 t => fX10_seeds_44_b t.2.2  rec44 y1 t.1 t.2.1)) (P := fun t => ∀ (H : Heap) (locs : List Loc) (ls : Array Slot), wH E t.2.2 H → va_S (wA E) s.heap H locs → lv_has ls 6 [(0, .ref (wad E 70)), (1, .int y1), (4, .int t.1), (5, .int t.2.1)] → W p l e ({ frames := 5, cells := 0, slots := 0, locals := 107 } : Room) s m args below meth c H locs 0 0 (MQ below (wQ E (some (.int res.1)) res.2) args s 0 0 (wA E)) (F0 m 44 ls [])) (r := res) (fun rec hrec t hf H locs ls hW hS hl => pX10_seeds_44_b B   (fun v0 v1 v2 hf H locs ls hW hS hl => hrec (v0, v1, v2) hf H locs ls hW hS hl) hf hW hS hl)
  exact key wfuel (y4, y5, M) hf H locs ls hW hS hl
set_option maxRecDepth 100000 in
set_option maxHeartbeats 4000000 in
theorem pX10_seeds_22 (B : wB E p s m args meth c cX10_seeds 6 RX10 (some .int)) {M : wMem} {y1 : Int32} {y2 : Int32} {y3 : Int32}  {res : Int32 × wMem}   (hf : fX10_seeds_22 M  y1 y2 y3 = some res) {H : Heap} {locs : List Loc} {ls : Array Slot} (hW : wH E M H) (hS : va_S (wA E) s.heap H locs) (hl : lv_has ls 6 [(0, .ref (wad E 70)), (1, .int y1), (2, .int y2), (3, .int y3)]) : W p l e ({ frames := 5, cells := 0, slots := 0, locals := 107 } : Room) s m args below meth c H locs 0 0 (MQ below (wQ E (some (.int res.1)) res.2) args s 0 0 (wA E)) (F0 m 22 ls []) := by
  unfold fX10_seeds_22 at hf
  obtain ⟨hx, hb, hr, hml, hown, hts, hlocks, hG, hV, hZ⟩ := id B
  refine lv_iload_n hx hb dX10_seeds_22 rfl (lv_at hl 3 rfl) ?_
  rcases wif_e hf with ⟨hq4, hf⟩ | ⟨hq4, hf⟩
  · refine lv_if_eq (tgt := 32) hx hb dX10_seeds_23 (by decide) (fun _ => ?_) (fun h => absurd hq4 h)
    refine lv_aload_n hx hb dX10_seeds_32 rfl (lv_at hl 0 rfl) ?_
    refine lv_iconst (v := 1) hx hb dX10_seeds_33 rfl ?_
    refine lv_iconst (v := 1) hx hb dX10_seeds_34 rfl ?_
    obtain ⟨M7, hc5, hf⟩ := wbind_e hf
    refine wc_V (As := [.int 1, .int 1]) (rest := []) hx hb hml hown hts hG hV hZ (wlt_9 (rfl : wkd 70 = 9)) (q := (RX10, TX10, 31)) (wen_9 (rfl : wkd 70 = 9)) rfl (cX10_passesAll_ok l E M 1 1 hc5) (cwV 2 hts gl_X10_119 rfl rfl rfl cdX10_passesAll ⟨Nat.le_of_ble_eq_true rfl, Nat.le_of_ble_eq_true rfl⟩) rfl hl.1 rfl (Nat.le_of_ble_eq_true rfl) dX10_seeds_35 ⟨Nat.zero_le _, Nat.zero_le _⟩ hW hS rfl (fun H locs hW hS => ?_)
    refine lv_iload_n hx hb dX10_seeds_38 rfl (lv_at hl 2 rfl) ?_
    refine lv_istore (lv' := [(4, .int y2), (0, .ref (wad E 70)), (1, .int y1), (2, .int y2), (3, .int y3)]) hx hb dX10_seeds_39 hl (by decide) rfl (fun ls hl => ?_)
    refine lv_iconst (v := 0) hx hb dX10_seeds_41 rfl ?_
    refine lv_istore (lv' := [(5, .int 0), (4, .int y2), (0, .ref (wad E 70)), (1, .int y1), (2, .int y2), (3, .int y3)]) hx hb dX10_seeds_42 hl (by decide) rfl (fun ls hl => ?_)
    exact pX10_seeds_44 B   hf hW hS (lv_sub hl [2, 3, 1, 0] rfl)
  · refine lv_if_eq (tgt := 32) hx hb dX10_seeds_23 (by decide) (fun h => absurd h hq4) (fun _ => ?_)
    refine lv_aload_n hx hb dX10_seeds_26 rfl (lv_at hl 0 rfl) ?_
    refine lv_iload_n hx hb dX10_seeds_27 rfl (lv_at hl 3 rfl) ?_
    obtain ⟨r25, M26, hc24, hf⟩ := wbind_p hf
    refine wc_V (As := [.int y3]) (rest := []) hx hb hml hown hts hG hV hZ (wlt_9 (rfl : wkd 70 = 9)) (q := (RX10, TX10, 31)) (wen_9 (rfl : wkd 70 = 9)) rfl (cX10_no_ok l E M y3 hc24) (cwV 1 hts gl_X10_83 rfl rfl rfl cdX10_no ⟨Nat.le_of_ble_eq_true rfl, Nat.le_of_ble_eq_true rfl⟩) rfl hl.1 rfl (Nat.le_of_ble_eq_true rfl) dX10_seeds_28 ⟨Nat.zero_le _, Nat.zero_le _⟩ hW hS rfl (fun H locs hW hS => ?_)
    have hres := Option.some.inj hf
    subst hres
    exact W.iret hx hb hr (wr_q hG hV hZ hW hS) hS.2.2 dX10_seeds_31
set_option maxRecDepth 100000 in
set_option maxHeartbeats 4000000 in
theorem pX10_seeds (B : wB E p s m args meth c cX10_seeds 6 RX10 (some .int)) {M : wMem} {a1 : Int32} {a2 : Int32}  {res : Int32 × wMem} (hf : fX10_seeds M a1 a2 = some res) {H : Heap} {locs : List Loc} {ls : Array Slot} (hW : wH E M H) (hS : va_S (wA E) s.heap H locs) (hl : lv_has ls 6 [(0, .ref (wad E 70)), (1, .int a1), (2, .int a2)]) : W p l e ({ frames := 5, cells := 0, slots := 0, locals := 107 } : Room) s m args below meth c H locs 0 0 (MQ below (wQ E (some (.int res.1)) res.2) args s 0 0 (wA E)) (F0 m 0 ls []) := by
  unfold fX10_seeds at hf
  obtain ⟨hx, hb, hr, hml, hown, hts, hlocks, hG, hV, hZ⟩ := id B
  refine lv_iload_n hx hb dX10_seeds_0 rfl (lv_at hl 1 rfl) ?_
  refine lv_iconst (v := 1) hx hb dX10_seeds_1 rfl ?_
  refine lv_bipush (v := 50) hx hb dX10_seeds_2 (by decide) ?_
  obtain ⟨r2, hc1, hf⟩ := wbind_e hf
  refine wc_S (As := [.int a1, .int 1, .int 50]) (rest := []) hx hb hml hown hts hG hV hZ (cX10_bound_ok l E M a1 1 50 hc1) (va_cwS 3 hts gl_X10_76 rfl rfl rfl cdX10_bound ⟨Nat.le_of_ble_eq_true rfl, Nat.le_of_ble_eq_true rfl⟩) rfl hl.1 rfl (Nat.le_of_ble_eq_true rfl) dX10_seeds_4 ⟨Nat.zero_le _, Nat.zero_le _⟩ hW hS rfl (fun H locs hW hS => ?_)
  refine lv_istore_n (lv' := [(3, .int r2), (0, .ref (wad E 70)), (1, .int a1), (2, .int a2)]) hx hb dX10_seeds_7 rfl hl (by decide) rfl (fun ls hl => ?_)
  refine lv_iload_n hx hb dX10_seeds_8 rfl (lv_at hl 0 rfl) ?_
  rcases wif_e hf with ⟨hq3, hf⟩ | ⟨hq3, hf⟩
  · refine lv_if_ne (tgt := 22) hx hb dX10_seeds_9 (by decide) (fun h => absurd hq3 h) (fun _ => ?_)
    refine lv_aload_n hx hb dX10_seeds_12 rfl (lv_at hl 1 rfl) ?_
    refine wm_get hx hb hts wu_X10 hown hV hW (wlt_9 (rfl : wkd 70 = 9)) (wen_9 (rfl : wkd 70 = 9)) (C := RX10) (T := TX10) (N := 31) rfl 7 (by decide) (hts _ wA_721) rfl dX10_seeds_13 ?_
    rcases wif_e hf with ⟨hq27, hf⟩ | ⟨hq27, hf⟩
    · refine lv_if_ne (tgt := 22) hx hb dX10_seeds_16 (by decide) (fun h => absurd hq27 h) (fun _ => ?_)
      refine lv_bipush (v := (-3)) hx hb dX10_seeds_19 (by decide) ?_
      refine lv_istore_n (lv' := [(3, .int (-3)), (0, .ref (wad E 70)), (1, .int a1), (2, .int a2)]) hx hb dX10_seeds_21 rfl hl (by decide) rfl (fun ls hl => ?_)
      exact pX10_seeds_22 B   hf hW hS (lv_sub hl [1, 2, 3, 0] rfl)
    · refine lv_if_ne (tgt := 22) hx hb dX10_seeds_16 (by decide) (fun _ => ?_) (fun h => absurd h hq27)
      exact pX10_seeds_22 B   hf hW hS (lv_sub hl [1, 2, 3, 0] rfl)
  · refine lv_if_ne (tgt := 22) hx hb dX10_seeds_9 (by decide) (fun _ => ?_) (fun h => absurd h hq3)
    exact pX10_seeds_22 B   hf hW hS (lv_sub hl [1, 2, 3, 0] rfl)
theorem cX10_seeds_ok (l : Launch) (E : wE) (M : wMem) (a1 : Int32) (a2 : Int32) {res : Int32 × wMem} (hf : fX10_seeds M a1 a2 = some res) : wMet l yX10_seeds (wsM yX10_seeds cX10_seeds 6 (some .int)) ({ frames := 5, cells := 0, slots := 0, locals := 107 } : Room) E M [.ref (wad E 70), .int a1, .int a2] (some (.int res.1)) res.2 :=
  wc_of (cc := cX10_seeds) (maxL := 6) (ret := (some .int)) (by decide) (Nat.le_of_ble_eq_true rfl) (fun _ _ _ _ _ _ _ _ B hW hl => pX10_seeds B  hf hW va_S.rf hl)
end
theorem cdX10_count : yX10_count.cls = RX10 ∧ yX10_count.cls ≠ "java/lang/invoke/MethodHandle" ∧ yX10_count.cls ≠ "java/lang/invoke/VarHandle" ∧ (parseMethodDescriptor yX10_count.desc).map (fun d => d.parameters.length) = some 1 := by decide +kernel
section
variable {p : Program} {l : Launch} {e : Env} {s : State} {m : MethodId} {args : Array Value} {below : List Frame} {meth : Method} {c : Code} {E : wE}
set_option maxRecDepth 100000 in
set_option maxHeartbeats 4000000 in
theorem pX10_count_131_b (B : wB E p s m args meth c cX10_count 4 RX10 (some .int)) {M : wMem} {y2 : Int32} {y3 : Int32}  {rec131 : (Int32 × Int32 → Option (Int32))} {res : Int32}   (hrec131 : ∀ (y2' : Int32) (y3' : Int32), rec131 (y2', y3') = some res → ∀ (H : Heap) (locs : List Loc) (ls : Array Slot), wH E M H → va_S (wA E) s.heap H locs → lv_has ls 4 [(0, .ref (wad E 70)), (2, .int y2'), (3, .int y3')] → W p l e ({ frames := 3, cells := 0, slots := 0, locals := 63 } : Room) s m args below meth c H locs 0 0 (MQ below (wQ E (some (.int res)) M) args s 0 0 (wA E)) (F0 m 131 ls [])) (hf : fX10_count_131_b M  rec131 y2 y3 = some res) {H : Heap} {locs : List Loc} {ls : Array Slot} (hW : wH E M H) (hS : va_S (wA E) s.heap H locs) (hl : lv_has ls 4 [(0, .ref (wad E 70)), (2, .int y2), (3, .int y3)]) : W p l e ({ frames := 3, cells := 0, slots := 0, locals := 63 } : Room) s m args below meth c H locs 0 0 (MQ below (wQ E (some (.int res)) M) args s 0 0 (wA E)) (F0 m 131 ls []) := by
  unfold fX10_count_131_b at hf
  obtain ⟨hx, hb, hr, hml, hown, hts, hlocks, hG, hV, hZ⟩ := id B
  refine lv_iload_n hx hb dX10_count_131 rfl (lv_at hl 2 rfl) ?_
  refine lv_aload_n hx hb dX10_count_132 rfl (lv_at hl 0 rfl) ?_
  refine wm_get hx hb hts wu_X10 hown hV hW (wlt_9 (rfl : wkd 70 = 9)) (wen_9 (rfl : wkd 70 = 9)) (C := RX10) (T := TX10) (N := 31) rfl 7 (by decide) (hts _ wA_721) rfl dX10_count_133 ?_
  rcases wif_e hf with ⟨hq20, hf⟩ | ⟨hq20, hf⟩
  · refine lv_icmp_ge (tgt := 154) hx hb dX10_count_136 (by decide) (fun _ => ?_) (fun h => absurd hq20 h)
    refine lv_iload_n hx hb dX10_count_154 rfl (lv_at hl 1 rfl) ?_
    have hres := Option.some.inj hf
    subst hres
    exact W.iret hx hb hr (wr_q hG hV hZ hW hS) hS.2.2 dX10_count_155
  · refine lv_icmp_ge (tgt := 154) hx hb dX10_count_136 (by decide) (fun h => absurd h hq20) (fun _ => ?_)
    refine lv_iload_n hx hb dX10_count_139 rfl (lv_at hl 1 rfl) ?_
    refine lv_aload_n hx hb dX10_count_140 rfl (lv_at hl 0 rfl) ?_
    refine wm_get hx hb hts wu_X10 hown hV hW (wlt_9 (rfl : wkd 70 = 9)) (wen_9 (rfl : wkd 70 = 9)) (C := RX10) (T := TX10) (N := 31) rfl 4 (by decide) (hts _ wA_718) rfl dX10_count_141 ?_
    refine lv_iload_n hx hb dX10_count_144 rfl (lv_at hl 2 rfl) ?_
    obtain ⟨hi21, hf⟩ := wgi_e hf
    refine wm_iald hx hb hV hW (rfl : wkd 75 = 21) (n := 12) rfl hi21 dX10_count_145 ?_
    refine lv_iadd hx hb dX10_count_146 ?_
    refine lv_topi (fun x22 ex22 => ?_)
    replace hf := wlet_y ex22 hf
    refine lv_istore_n (lv' := [(2, .int x22), (0, .ref (wad E 70)), (3, .int y3)]) hx hb dX10_count_147 rfl hl (by decide) rfl (fun ls hl => ?_)
    obtain ⟨x23, ex23, hf⟩ := wlet_e hf
    refine lv_iinc (v := x23) (lv' := [(3, .int x23), (2, .int x22), (0, .ref (wad E 70))]) hx hb dX10_count_148 hl (k := 2) rfl (by rw [ex23]; rfl) (by decide) rfl (fun ls hl => ?_)
    refine lv_goto (tgt := 131) hx hb dX10_count_151 (by decide) ?_
    exact hrec131 x22 x23 hf _ _ _ hW hS (lv_sub hl [2, 1, 0] rfl)
set_option maxRecDepth 100000 in
set_option maxHeartbeats 4000000 in
theorem pX10_count_131 (B : wB E p s m args meth c cX10_count 4 RX10 (some .int)) {M : wMem} {y2 : Int32} {y3 : Int32}  {res : Int32}   (hf : fX10_count_131 M  y2 y3 = some res) {H : Heap} {locs : List Loc} {ls : Array Slot} (hW : wH E M H) (hS : va_S (wA E) s.heap H locs) (hl : lv_has ls 4 [(0, .ref (wad E 70)), (2, .int y2), (3, .int y3)]) : W p l e ({ frames := 3, cells := 0, slots := 0, locals := 63 } : Room) s m args below meth c H locs 0 0 (MQ below (wQ E (some (.int res)) M) args s 0 0 (wA E)) (F0 m 131 ls []) := by
  have key := wloop_W (b := (fun rec131 t => fX10_count_131_b M  rec131 t.1 t.2)) (P := fun t => ∀ (H : Heap) (locs : List Loc) (ls : Array Slot), wH E M H → va_S (wA E) s.heap H locs → lv_has ls 4 [(0, .ref (wad E 70)), (2, .int t.1), (3, .int t.2)] → W p l e ({ frames := 3, cells := 0, slots := 0, locals := 63 } : Room) s m args below meth c H locs 0 0 (MQ below (wQ E (some (.int res)) M) args s 0 0 (wA E)) (F0 m 131 ls [])) (r := res) (fun rec hrec t hf H locs ls hW hS hl => pX10_count_131_b B   (fun v0 v1 hf H locs ls hW hS hl => hrec (v0, v1) hf H locs ls hW hS hl) hf hW hS hl)
  exact key wfuel (y2, y3) hf H locs ls hW hS hl
set_option maxRecDepth 100000 in
set_option maxHeartbeats 4000000 in
theorem pX10_count (B : wB E p s m args meth c cX10_count 4 RX10 (some .int)) {M : wMem} {a1 : Int32}  {res : Int32} (hf : fX10_count M a1 = some res) {H : Heap} {locs : List Loc} {ls : Array Slot} (hW : wH E M H) (hS : va_S (wA E) s.heap H locs) (hl : lv_has ls 4 [(0, .ref (wad E 70)), (1, .int a1)]) : W p l e ({ frames := 3, cells := 0, slots := 0, locals := 63 } : Room) s m args below meth c H locs 0 0 (MQ below (wQ E (some (.int res)) M) args s 0 0 (wA E)) (F0 m 0 ls []) := by
  unfold fX10_count at hf
  obtain ⟨hx, hb, hr, hml, hown, hts, hlocks, hG, hV, hZ⟩ := id B
  refine lv_iload_n hx hb dX10_count_0 rfl (lv_at hl 1 rfl) ?_
  refine lv_bipush (v := 11) hx hb dX10_count_1 (by decide) ?_
  refine lv_bipush (v := 16) hx hb dX10_count_3 (by decide) ?_
  obtain ⟨r2, hc1, hf⟩ := wbind_e hf
  refine wc_S (As := [.int a1, .int 11, .int 16]) (rest := []) hx hb hml hown hts hG hV hZ (cX10_isIn_ok l E M a1 11 16 hc1) (va_cwS 3 hts gl_X10_94 rfl rfl rfl cdX10_isIn ⟨Nat.le_of_ble_eq_true rfl, Nat.le_of_ble_eq_true rfl⟩) rfl hl.1 rfl (Nat.le_of_ble_eq_true rfl) dX10_count_5 ⟨Nat.zero_le _, Nat.zero_le _⟩ hW hS rfl (fun H locs hW hS => ?_)
  rcases wif_e hf with ⟨hq3, hf⟩ | ⟨hq3, hf⟩
  · refine lv_if_eq (tgt := 21) hx hb dX10_count_8 (by decide) (fun _ => ?_) (fun h => absurd hq3 h)
    refine lv_iload_n hx hb dX10_count_21 rfl (lv_at hl 1 rfl) ?_
    refine lv_iconst (v := 1) hx hb dX10_count_22 rfl ?_
    refine lv_iconst (v := 4) hx hb dX10_count_23 rfl ?_
    obtain ⟨r5, hc4, hf⟩ := wbind_e hf
    refine wc_S (As := [.int a1, .int 1, .int 4]) (rest := []) hx hb hml hown hts hG hV hZ (cX10_isIn_ok l E M a1 1 4 hc4) (va_cwS 3 hts gl_X10_94 rfl rfl rfl cdX10_isIn ⟨Nat.le_of_ble_eq_true rfl, Nat.le_of_ble_eq_true rfl⟩) rfl hl.1 rfl (Nat.le_of_ble_eq_true rfl) dX10_count_24 ⟨Nat.zero_le _, Nat.zero_le _⟩ hW hS rfl (fun H locs hW hS => ?_)
    rcases wif_e hf with ⟨hq6, hf⟩ | ⟨hq6, hf⟩
    · refine lv_if_eq (tgt := 38) hx hb dX10_count_27 (by decide) (fun _ => ?_) (fun h => absurd hq6 h)
      refine lv_iconst (v := 0) hx hb dX10_count_38 rfl ?_
      refine lv_istore_n (lv' := [(2, .int 0), (0, .ref (wad E 70)), (1, .int a1)]) hx hb dX10_count_39 rfl hl (by decide) rfl (fun ls hl => ?_)
      refine lv_iload_n hx hb dX10_count_40 rfl (lv_at hl 2 rfl) ?_
      rcases wif_e hf with ⟨hq8, hf⟩ | ⟨hq8, hf⟩
      · refine lv_tableIn (off := 55) (tgt := 96) hx hb dX10_count_41 (by rw [hq8] <;> decide) (by rw [hq8] <;> decide) (by rw [hq8] <;> rfl) (by decide) ?_
        refine lv_aload_n hx hb dX10_count_96 rfl (lv_at hl 1 rfl) ?_
        refine wm_get hx hb hts wu_X10 hown hV hW (wlt_9 (rfl : wkd 70 = 9)) (wen_9 (rfl : wkd 70 = 9)) (C := RX10) (T := TX10) (N := 31) rfl 7 (by decide) (hts _ wA_721) rfl dX10_count_97 ?_
        have hres := Option.some.inj hf
        subst hres
        exact W.iret hx hb hr (wr_q hG hV hZ hW hS) hS.2.2 dX10_count_100
      · rcases wif_e hf with ⟨hq9, hf⟩ | ⟨hq9, hf⟩
        · refine lv_tableIn (off := 115) (tgt := 156) hx hb dX10_count_41 (by rw [hq9] <;> decide) (by rw [hq9] <;> decide) (by rw [hq9] <;> rfl) (by decide) ?_
          refine lv_bipush (v := (-9)) hx hb dX10_count_156 (by decide) ?_
          have hres := Option.some.inj hf
          subst hres
          exact W.iret hx hb hr (wr_q hG hV hZ hW hS) hS.2.2 dX10_count_158
        · rcases wif_e hf with ⟨hq10, hf⟩ | ⟨hq10, hf⟩
          · refine lv_tableIn (off := 115) (tgt := 156) hx hb dX10_count_41 (by rw [hq10] <;> decide) (by rw [hq10] <;> decide) (by rw [hq10] <;> rfl) (by decide) ?_
            refine lv_bipush (v := (-9)) hx hb dX10_count_156 (by decide) ?_
            have hres := Option.some.inj hf
            subst hres
            exact W.iret hx hb hr (wr_q hG hV hZ hW hS) hS.2.2 dX10_count_158
          · rcases wif_e hf with ⟨hq11, hf⟩ | ⟨hq11, hf⟩
            · refine lv_tableIn (off := 115) (tgt := 156) hx hb dX10_count_41 (by rw [hq11] <;> decide) (by rw [hq11] <;> decide) (by rw [hq11] <;> rfl) (by decide) ?_
              refine lv_bipush (v := (-9)) hx hb dX10_count_156 (by decide) ?_
              have hres := Option.some.inj hf
              subst hres
              exact W.iret hx hb hr (wr_q hG hV hZ hW hS) hS.2.2 dX10_count_158
            · rcases wif_e hf with ⟨hq12, hf⟩ | ⟨hq12, hf⟩
              · refine lv_tableIn (off := 115) (tgt := 156) hx hb dX10_count_41 (by rw [hq12] <;> decide) (by rw [hq12] <;> decide) (by rw [hq12] <;> rfl) (by decide) ?_
                refine lv_bipush (v := (-9)) hx hb dX10_count_156 (by decide) ?_
                have hres := Option.some.inj hf
                subst hres
                exact W.iret hx hb hr (wr_q hG hV hZ hW hS) hS.2.2 dX10_count_158
              · rcases wif_e hf with ⟨hq13, hf⟩ | ⟨hq13, hf⟩
                · refine lv_tableIn (off := 60) (tgt := 101) hx hb dX10_count_41 (by rw [hq13] <;> decide) (by rw [hq13] <;> decide) (by rw [hq13] <;> rfl) (by decide) ?_
                  refine lv_aload_n hx hb dX10_count_101 rfl (lv_at hl 1 rfl) ?_
                  refine wm_get hx hb hts wu_X10 hown hV hW (wlt_9 (rfl : wkd 70 = 9)) (wen_9 (rfl : wkd 70 = 9)) (C := RX10) (T := TX10) (N := 31) rfl 8 (by decide) (hts _ wA_722) rfl dX10_count_102 ?_
                  have hres := Option.some.inj hf
                  subst hres
                  exact W.iret hx hb hr (wr_q hG hV hZ hW hS) hS.2.2 dX10_count_105
                · rcases wif_e hf with ⟨hq17, hf⟩ | ⟨hq17, hf⟩
                  · refine lv_tableIn (off := 65) (tgt := 106) hx hb dX10_count_41 (by rw [hq17] <;> decide) (by rw [hq17] <;> decide) (by rw [hq17] <;> rfl) (by decide) ?_
                    refine lv_aload_n hx hb dX10_count_106 rfl (lv_at hl 1 rfl) ?_
                    obtain ⟨r15, hc14, hf⟩ := wbind_e hf
                    refine wc_V (As := []) (rest := []) hx hb hml hown hts hG hV hZ (wlt_9 (rfl : wkd 70 = 9)) (q := (RX10, TX10, 31)) (wen_9 (rfl : wkd 70 = 9)) rfl (cX10_isLive_ok l E M  hc14) (cwV 0 hts gl_X10_155 rfl rfl rfl cdX10_isLive ⟨Nat.le_of_ble_eq_true rfl, Nat.le_of_ble_eq_true rfl⟩) rfl hl.1 rfl (Nat.le_of_ble_eq_true rfl) dX10_count_107 ⟨Nat.zero_le _, Nat.zero_le _⟩ hW hS rfl (fun H locs hW hS => ?_)
                    rcases wif_e hf with ⟨hq16, hf⟩ | ⟨hq16, hf⟩
                    · refine lv_if_eq (tgt := 117) hx hb dX10_count_110 (by decide) (fun _ => ?_) (fun h => absurd hq16 h)
                      refine lv_iconst (v := 0) hx hb dX10_count_117 rfl ?_
                      have hres := Option.some.inj hf
                      subst hres
                      exact W.iret hx hb hr (wr_q hG hV hZ hW hS) hS.2.2 dX10_count_118
                    · refine lv_if_eq (tgt := 117) hx hb dX10_count_110 (by decide) (fun h => absurd h hq16) (fun _ => ?_)
                      refine lv_iconst (v := 1) hx hb dX10_count_113 rfl ?_
                      refine lv_goto (tgt := 118) hx hb dX10_count_114 (by decide) ?_
                      have hres := Option.some.inj hf
                      subst hres
                      exact W.iret hx hb hr (wr_q hG hV hZ hW hS) hS.2.2 dX10_count_118
                  · rcases wif_e hf with ⟨hq18, hf⟩ | ⟨hq18, hf⟩
                    · refine lv_tableIn (off := 78) (tgt := 119) hx hb dX10_count_41 (by rw [hq18] <;> decide) (by rw [hq18] <;> decide) (by rw [hq18] <;> rfl) (by decide) ?_
                      refine lv_aload_n hx hb dX10_count_119 rfl (lv_at hl 1 rfl) ?_
                      refine wm_get hx hb hts wu_X10 hown hV hW (wlt_9 (rfl : wkd 70 = 9)) (wen_9 (rfl : wkd 70 = 9)) (C := RX10) (T := TX10) (N := 31) rfl 13 (by decide) (hts _ wA_727) rfl dX10_count_120 ?_
                      have hres := Option.some.inj hf
                      subst hres
                      exact W.iret hx hb hr (wr_q hG hV hZ hW hS) hS.2.2 dX10_count_123
                    · rcases wif_e hf with ⟨hq19, hf⟩ | ⟨hq19, hf⟩
                      · refine lv_tableIn (off := 83) (tgt := 124) hx hb dX10_count_41 (by rw [hq19] <;> decide) (by rw [hq19] <;> decide) (by rw [hq19] <;> rfl) (by decide) ?_
                        refine lv_aload_n hx hb dX10_count_124 rfl (lv_at hl 1 rfl) ?_
                        refine wm_get hx hb hts wu_X10 hown hV hW (wlt_9 (rfl : wkd 70 = 9)) (wen_9 (rfl : wkd 70 = 9)) (C := RX10) (T := TX10) (N := 31) rfl 28 (by decide) (hts _ wA_742) rfl dX10_count_125 ?_
                        have hres := Option.some.inj hf
                        subst hres
                        exact W.iret hx hb hr (wr_q hG hV hZ hW hS) hS.2.2 dX10_count_128
                      · rcases wif_e hf with ⟨hq24, hf⟩ | ⟨hq24, hf⟩
                        · refine lv_tableIn (off := 88) (tgt := 129) hx hb dX10_count_41 (by rw [hq24] <;> decide) (by rw [hq24] <;> decide) (by rw [hq24] <;> rfl) (by decide) ?_
                          refine lv_iconst (v := 0) hx hb dX10_count_129 rfl ?_
                          refine lv_istore_n (lv' := [(3, .int 0), (2, .int 0), (0, .ref (wad E 70)), (1, .int a1)]) hx hb dX10_count_130 rfl hl (by decide) rfl (fun ls hl => ?_)
                          exact pX10_count_131 B   hf hW hS (lv_sub hl [2, 1, 0] rfl)
                        · have hodX10_count_41 : a1.toInt < 0 ∨ 9 < a1.toInt := by
                            have := lv_neT (k := 0) (a := 0) hq8 (by decide)
                            have := lv_neT (k := 1) (a := 1) hq9 (by decide)
                            have := lv_neT (k := 2) (a := 2) hq10 (by decide)
                            have := lv_neT (k := 3) (a := 3) hq11 (by decide)
                            have := lv_neT (k := 4) (a := 4) hq12 (by decide)
                            have := lv_neT (k := 5) (a := 5) hq13 (by decide)
                            have := lv_neT (k := 6) (a := 6) hq17 (by decide)
                            have := lv_neT (k := 7) (a := 7) hq18 (by decide)
                            have := lv_neT (k := 8) (a := 8) hq19 (by decide)
                            have := lv_neT (k := 9) (a := 9) hq24 (by decide)
                            omega
                          refine lv_tableOut (tgt := 156) hx hb dX10_count_41 hodX10_count_41 (by decide) ?_
                          refine lv_bipush (v := (-9)) hx hb dX10_count_156 (by decide) ?_
                          have hres := Option.some.inj hf
                          subst hres
                          exact W.iret hx hb hr (wr_q hG hV hZ hW hS) hS.2.2 dX10_count_158
    · refine lv_if_eq (tgt := 38) hx hb dX10_count_27 (by decide) (fun h => absurd h hq6) (fun _ => ?_)
      refine lv_aload_n hx hb dX10_count_30 rfl (lv_at hl 0 rfl) ?_
      refine lv_iload_n hx hb dX10_count_31 rfl (lv_at hl 1 rfl) ?_
      refine lv_iconst (v := 1) hx hb dX10_count_32 rfl ?_
      refine lv_isub hx hb dX10_count_33 ?_
      obtain ⟨r26, hc25, hf⟩ := wbind_e hf
      refine wc_V (As := [.int (a1 - 1)]) (rest := []) hx hb hml hown hts hG hV hZ (wlt_9 (rfl : wkd 70 = 9)) (q := (RX10, TX10, 31)) (wen_9 (rfl : wkd 70 = 9)) rfl (cX10_stateMany_ok l E M (a1 - 1) hc25) (cwV 1 hts gl_X10_230 rfl rfl rfl cdX10_stateMany ⟨Nat.le_of_ble_eq_true rfl, Nat.le_of_ble_eq_true rfl⟩) rfl hl.1 rfl (Nat.le_of_ble_eq_true rfl) dX10_count_34 ⟨Nat.zero_le _, Nat.zero_le _⟩ hW hS rfl (fun H locs hW hS => ?_)
      have hres := Option.some.inj hf
      subst hres
      exact W.iret hx hb hr (wr_q hG hV hZ hW hS) hS.2.2 dX10_count_37
  · refine lv_if_eq (tgt := 21) hx hb dX10_count_8 (by decide) (fun h => absurd h hq3) (fun _ => ?_)
    refine lv_aload_n hx hb dX10_count_11 rfl (lv_at hl 0 rfl) ?_
    refine wm_get hx hb hts wu_X10 hown hV hW (wlt_9 (rfl : wkd 70 = 9)) (wen_9 (rfl : wkd 70 = 9)) (C := RX10) (T := TX10) (N := 31) rfl 0 (by decide) (hts _ wA_714) rfl dX10_count_12 ?_
    refine lv_iload_n hx hb dX10_count_15 rfl (lv_at hl 1 rfl) ?_
    refine lv_bipush (v := 10) hx hb dX10_count_16 (by decide) ?_
    refine lv_isub hx hb dX10_count_18 ?_
    obtain ⟨hi27, hf⟩ := wgi_e hf
    refine wm_iald hx hb hV hW (rfl : wkd 71 = 21) (n := 7) rfl hi27 dX10_count_19 ?_
    have hres := Option.some.inj hf
    subst hres
    exact W.iret hx hb hr (wr_q hG hV hZ hW hS) hS.2.2 dX10_count_20
theorem cX10_count_ok (l : Launch) (E : wE) (M : wMem) (a1 : Int32) {res : Int32} (hf : fX10_count M a1 = some res) : wMet l yX10_count (wsM yX10_count cX10_count 4 (some .int)) ({ frames := 3, cells := 0, slots := 0, locals := 63 } : Room) E M [.ref (wad E 70), .int a1] (some (.int res)) M :=
  wc_of (cc := cX10_count) (maxL := 4) (ret := (some .int)) (by decide) (Nat.le_of_ble_eq_true rfl) (fun _ _ _ _ _ _ _ _ B hW hl => pX10_count B  hf hW va_S.rf hl)
end
