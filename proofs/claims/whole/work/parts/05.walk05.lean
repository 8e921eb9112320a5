theorem cdX10_comesLamp : yX10_comesLamp.cls = RX10 ∧ yX10_comesLamp.cls ≠ "java/lang/invoke/MethodHandle" ∧ yX10_comesLamp.cls ≠ "java/lang/invoke/VarHandle" ∧ (parseMethodDescriptor yX10_comesLamp.desc).map (fun d => d.parameters.length) = some 1 := by decide +kernel
section
variable {p : Program} {l : Launch} {e : Env} {s : State} {m : MethodId} {args : Array Value} {below : List Frame} {meth : Method} {c : Code} {E : wE}
set_option maxRecDepth 100000 in
set_option maxHeartbeats 4000000 in
theorem pX10_comesLamp (B : wB E p s m args meth c cX10_comesLamp 2 RX10 (some .boolean)) {M : wMem} {a1 : Int32}  {res : Bool × wMem} (hf : fX10_comesLamp M a1 = some res) {H : Heap} {locs : List Loc} {ls : Array Slot} (hW : wH E M H) (hS : va_S (wA E) s.heap H locs) (hl : lv_has ls 2 [(0, .ref (wad E 70)), (1, .int a1)]) : W p l e ({ frames := 0, cells := 0, slots := 0, locals := 0 } : Room) s m args below meth c H locs 0 0 (MQ below (wQ E (some (.int (wb res.1))) res.2) args s 0 0 (wA E)) (F0 m 0 ls []) := by
  unfold fX10_comesLamp at hf
  obtain ⟨hx, hb, hr, hml, hown, hts, hlocks, hG, hV, hZ⟩ := id B
  refine lv_aload_n hx hb dX10_comesLamp_0 rfl (lv_at hl 0 rfl) ?_
  refine wm_get hx hb hts wu_X10 hown hV hW (wlt_9 (rfl : wkd 70 = 9)) (wen_9 (rfl : wkd 70 = 9)) (C := RX10) (T := TX10) (N := 31) rfl 12 (by decide) (hts _ wA_726) rfl dX10_comesLamp_1 ?_
  refine lv_iload_n hx hb dX10_comesLamp_4 rfl (lv_at hl 1 rfl) ?_
  obtain ⟨hi1, hf⟩ := wgi_e hf
  refine wm_iald hx hb hV hW (rfl : wkd 81 = 21) (n := 96) rfl hi1 dX10_comesLamp_5 ?_
  refine lv_iconst (v := 5) hx hb dX10_comesLamp_6 rfl ?_
  rcases wif_e hf with ⟨hq2, hf⟩ | ⟨hq2, hf⟩
  · refine lv_icmp_gt (tgt := 41) hx hb dX10_comesLamp_7 (by decide) (fun _ => ?_) (fun h => absurd hq2 h)
    refine lv_iconst (v := 0) hx hb dX10_comesLamp_41 rfl ?_
    have hres := Option.some.inj hf
    subst hres
    exact W.zret hx hb hr (wb_n false) (wr_q hG hV hZ hW hS) hS.2.2 dX10_comesLamp_42
  · refine lv_icmp_gt (tgt := 41) hx hb dX10_comesLamp_7 (by decide) (fun h => absurd h hq2) (fun _ => ?_)
    refine lv_aload_n hx hb dX10_comesLamp_10 rfl (lv_at hl 0 rfl) ?_
    refine wm_get hx hb hts wu_X10 hown hV hW (wlt_9 (rfl : wkd 70 = 9)) (wen_9 (rfl : wkd 70 = 9)) (C := RX10) (T := TX10) (N := 31) rfl 12 (by decide) (hts _ wA_726) rfl dX10_comesLamp_11 ?_
    refine lv_iload_n hx hb dX10_comesLamp_14 rfl (lv_at hl 1 rfl) ?_
    refine lv_iconst (v := 1) hx hb dX10_comesLamp_15 rfl ?_
    refine lv_iadd hx hb dX10_comesLamp_16 ?_
    obtain ⟨hi3, hf⟩ := wgi_e hf
    refine wm_iald hx hb hV hW (rfl : wkd 81 = 21) (n := 96) rfl hi3 dX10_comesLamp_17 ?_
    rcases wif_e hf with ⟨hq4, hf⟩ | ⟨hq4, hf⟩
    · refine lv_if_eq (tgt := 41) hx hb dX10_comesLamp_18 (by decide) (fun _ => ?_) (fun h => absurd hq4 h)
      refine lv_iconst (v := 0) hx hb dX10_comesLamp_41 rfl ?_
      have hres := Option.some.inj hf
      subst hres
      exact W.zret hx hb hr (wb_n false) (wr_q hG hV hZ hW hS) hS.2.2 dX10_comesLamp_42
    · refine lv_if_eq (tgt := 41) hx hb dX10_comesLamp_18 (by decide) (fun h => absurd h hq4) (fun _ => ?_)
      refine lv_aload_n hx hb dX10_comesLamp_21 rfl (lv_at hl 0 rfl) ?_
      refine wm_get hx hb hts wu_X10 hown hV hW (wlt_9 (rfl : wkd 70 = 9)) (wen_9 (rfl : wkd 70 = 9)) (C := RX10) (T := TX10) (N := 31) rfl 12 (by decide) (hts _ wA_726) rfl dX10_comesLamp_22 ?_
      refine lv_iload_n hx hb dX10_comesLamp_25 rfl (lv_at hl 1 rfl) ?_
      refine lv_iconst (v := 2) hx hb dX10_comesLamp_26 rfl ?_
      refine lv_iadd hx hb dX10_comesLamp_27 ?_
      obtain ⟨hi5, hf⟩ := wgi_e hf
      refine wm_iald hx hb hV hW (rfl : wkd 81 = 21) (n := 96) rfl hi5 dX10_comesLamp_28 ?_
      rcases wif_e hf with ⟨hq6, hf⟩ | ⟨hq6, hf⟩
      · refine lv_if_eq (tgt := 41) hx hb dX10_comesLamp_29 (by decide) (fun _ => ?_) (fun h => absurd hq6 h)
        refine lv_iconst (v := 0) hx hb dX10_comesLamp_41 rfl ?_
        have hres := Option.some.inj hf
        subst hres
        exact W.zret hx hb hr (wb_n false) (wr_q hG hV hZ hW hS) hS.2.2 dX10_comesLamp_42
      · refine lv_if_eq (tgt := 41) hx hb dX10_comesLamp_29 (by decide) (fun h => absurd h hq6) (fun _ => ?_)
        refine lv_aload_n hx hb dX10_comesLamp_32 rfl (lv_at hl 0 rfl) ?_
        refine wm_get hx hb hts wu_X10 hown hV hW (wlt_9 (rfl : wkd 70 = 9)) (wen_9 (rfl : wkd 70 = 9)) (C := RX10) (T := TX10) (N := 31) rfl 7 (by decide) (hts _ wA_721) rfl dX10_comesLamp_33 ?_
        refine lv_bipush (v := 12) hx hb dX10_comesLamp_36 (by decide) ?_
        rcases wif_e hf with ⟨hq7, hf⟩ | ⟨hq7, hf⟩
        · refine lv_icmp_ne (tgt := 43) hx hb dX10_comesLamp_38 (by decide) (fun h => absurd hq7 h) (fun _ => ?_)
          refine lv_iconst (v := 0) hx hb dX10_comesLamp_41 rfl ?_
          have hres := Option.some.inj hf
          subst hres
          exact W.zret hx hb hr (wb_n false) (wr_q hG hV hZ hW hS) hS.2.2 dX10_comesLamp_42
        · refine lv_icmp_ne (tgt := 43) hx hb dX10_comesLamp_38 (by decide) (fun _ => ?_) (fun h => absurd h hq7)
          refine lv_aload_n hx hb dX10_comesLamp_43 rfl (lv_at hl 0 rfl) ?_
          refine wm_get hx hb hts wu_X10 hown hV hW (wlt_9 (rfl : wkd 70 = 9)) (wen_9 (rfl : wkd 70 = 9)) (C := RX10) (T := TX10) (N := 31) rfl 1 (by decide) (hts _ wA_715) rfl dX10_comesLamp_44 ?_
          refine lv_aload_n hx hb dX10_comesLamp_47 rfl (lv_at hl 0 rfl) ?_
          refine wm_get hx hb hts wu_X10 hown hV hW (wlt_9 (rfl : wkd 70 = 9)) (wen_9 (rfl : wkd 70 = 9)) (C := RX10) (T := TX10) (N := 31) rfl 7 (by decide) (hts _ wA_721) rfl dX10_comesLamp_48 ?_
          refine lv_aload_n hx hb dX10_comesLamp_51 rfl (lv_at hl 0 rfl) ?_
          refine wm_get hx hb hts wu_X10 hown hV hW (wlt_9 (rfl : wkd 70 = 9)) (wen_9 (rfl : wkd 70 = 9)) (C := RX10) (T := TX10) (N := 31) rfl 12 (by decide) (hts _ wA_726) rfl dX10_comesLamp_52 ?_
          refine lv_iload_n hx hb dX10_comesLamp_55 rfl (lv_at hl 1 rfl) ?_
          obtain ⟨hi8, hf⟩ := wgi_e hf
          refine wm_iald hx hb hV hW (rfl : wkd 81 = 21) (n := 96) rfl hi8 dX10_comesLamp_56 ?_
          obtain ⟨hi9, hf⟩ := wgi_e hf
          refine wm_iast hx hb hG hV hW hS (rfl : wkd 72 = 21) (n := 12) rfl hi9 dX10_comesLamp_57 (fun H locs hW hS => ?_)
          obtain ⟨M10, hW, hf⟩ := wlet_M hW hf
          refine lv_aload_n hx hb dX10_comesLamp_58 rfl (lv_at hl 0 rfl) ?_
          refine wm_get hx hb hts wu_X10 hown hV hW (wlt_9 (rfl : wkd 70 = 9)) (wen_9 (rfl : wkd 70 = 9)) (C := RX10) (T := TX10) (N := 31) rfl 2 (by decide) (hts _ wA_716) rfl dX10_comesLamp_59 ?_
          refine lv_aload_n hx hb dX10_comesLamp_62 rfl (lv_at hl 0 rfl) ?_
          refine wm_get hx hb hts wu_X10 hown hV hW (wlt_9 (rfl : wkd 70 = 9)) (wen_9 (rfl : wkd 70 = 9)) (C := RX10) (T := TX10) (N := 31) rfl 7 (by decide) (hts _ wA_721) rfl dX10_comesLamp_63 ?_
          refine lv_aload_n hx hb dX10_comesLamp_66 rfl (lv_at hl 0 rfl) ?_
          refine wm_get hx hb hts wu_X10 hown hV hW (wlt_9 (rfl : wkd 70 = 9)) (wen_9 (rfl : wkd 70 = 9)) (C := RX10) (T := TX10) (N := 31) rfl 12 (by decide) (hts _ wA_726) rfl dX10_comesLamp_67 ?_
          refine lv_iload_n hx hb dX10_comesLamp_70 rfl (lv_at hl 1 rfl) ?_
          refine lv_iconst (v := 1) hx hb dX10_comesLamp_71 rfl ?_
          refine lv_iadd hx hb dX10_comesLamp_72 ?_
          obtain ⟨hi11, hf⟩ := wgi_e hf
          refine wm_iald hx hb hV hW (rfl : wkd 81 = 21) (n := 96) rfl hi11 dX10_comesLamp_73 ?_
          obtain ⟨hi12, hf⟩ := wgi_e hf
          refine wm_iast hx hb hG hV hW hS (rfl : wkd 73 = 21) (n := 12) rfl hi12 dX10_comesLamp_74 (fun H locs hW hS => ?_)
          obtain ⟨M13, hW, hf⟩ := wlet_M hW hf
          refine lv_aload_n hx hb dX10_comesLamp_75 rfl (lv_at hl 0 rfl) ?_
          refine wm_get hx hb hts wu_X10 hown hV hW (wlt_9 (rfl : wkd 70 = 9)) (wen_9 (rfl : wkd 70 = 9)) (C := RX10) (T := TX10) (N := 31) rfl 3 (by decide) (hts _ wA_717) rfl dX10_comesLamp_76 ?_
          refine lv_aload_n hx hb dX10_comesLamp_79 rfl (lv_at hl 0 rfl) ?_
          refine wm_get hx hb hts wu_X10 hown hV hW (wlt_9 (rfl : wkd 70 = 9)) (wen_9 (rfl : wkd 70 = 9)) (C := RX10) (T := TX10) (N := 31) rfl 7 (by decide) (hts _ wA_721) rfl dX10_comesLamp_80 ?_
          refine lv_aload_n hx hb dX10_comesLamp_83 rfl (lv_at hl 0 rfl) ?_
          refine wm_get hx hb hts wu_X10 hown hV hW (wlt_9 (rfl : wkd 70 = 9)) (wen_9 (rfl : wkd 70 = 9)) (C := RX10) (T := TX10) (N := 31) rfl 12 (by decide) (hts _ wA_726) rfl dX10_comesLamp_84 ?_
          refine lv_iload_n hx hb dX10_comesLamp_87 rfl (lv_at hl 1 rfl) ?_
          refine lv_iconst (v := 2) hx hb dX10_comesLamp_88 rfl ?_
          refine lv_iadd hx hb dX10_comesLamp_89 ?_
          obtain ⟨hi14, hf⟩ := wgi_e hf
          refine wm_iald hx hb hV hW (rfl : wkd 81 = 21) (n := 96) rfl hi14 dX10_comesLamp_90 ?_
          obtain ⟨hi15, hf⟩ := wgi_e hf
          refine wm_iast hx hb hG hV hW hS (rfl : wkd 74 = 21) (n := 12) rfl hi15 dX10_comesLamp_91 (fun H locs hW hS => ?_)
          obtain ⟨M16, hW, hf⟩ := wlet_M hW hf
          refine lv_aload_n hx hb dX10_comesLamp_92 rfl (lv_at hl 0 rfl) ?_
          refine wm_get hx hb hts wu_X10 hown hV hW (wlt_9 (rfl : wkd 70 = 9)) (wen_9 (rfl : wkd 70 = 9)) (C := RX10) (T := TX10) (N := 31) rfl 4 (by decide) (hts _ wA_718) rfl dX10_comesLamp_93 ?_
          refine lv_aload_n hx hb dX10_comesLamp_96 rfl (lv_at hl 0 rfl) ?_
          refine wm_get hx hb hts wu_X10 hown hV hW (wlt_9 (rfl : wkd 70 = 9)) (wen_9 (rfl : wkd 70 = 9)) (C := RX10) (T := TX10) (N := 31) rfl 7 (by decide) (hts _ wA_721) rfl dX10_comesLamp_97 ?_
          refine lv_iconst (v := 0) hx hb dX10_comesLamp_100 rfl ?_
          obtain ⟨hi17, hf⟩ := wgi_e hf
          refine wm_iast hx hb hG hV hW hS (rfl : wkd 75 = 21) (n := 12) rfl hi17 dX10_comesLamp_101 (fun H locs hW hS => ?_)
          obtain ⟨M18, hW, hf⟩ := wlet_M hW hf
          refine lv_aload_n hx hb dX10_comesLamp_102 rfl (lv_at hl 0 rfl) ?_
          refine wm_get hx hb hts wu_X10 hown hV hW (wlt_9 (rfl : wkd 70 = 9)) (wen_9 (rfl : wkd 70 = 9)) (C := RX10) (T := TX10) (N := 31) rfl 5 (by decide) (hts _ wA_719) rfl dX10_comesLamp_103 ?_
          refine lv_aload_n hx hb dX10_comesLamp_106 rfl (lv_at hl 0 rfl) ?_
          refine wm_get hx hb hts wu_X10 hown hV hW (wlt_9 (rfl : wkd 70 = 9)) (wen_9 (rfl : wkd 70 = 9)) (C := RX10) (T := TX10) (N := 31) rfl 7 (by decide) (hts _ wA_721) rfl dX10_comesLamp_107 ?_
          refine lv_iconst (v := 0) hx hb dX10_comesLamp_110 rfl ?_
          obtain ⟨hi19, hf⟩ := wgi_e hf
          refine wm_iast hx hb hG hV hW hS (rfl : wkd 76 = 21) (n := 12) rfl hi19 dX10_comesLamp_111 (fun H locs hW hS => ?_)
          obtain ⟨M20, hW, hf⟩ := wlet_M hW hf
          refine lv_aload_n hx hb dX10_comesLamp_112 rfl (lv_at hl 0 rfl) ?_
          refine lv_dup hx hb dX10_comesLamp_113 rfl ?_
          refine wm_get hx hb hts wu_X10 hown hV hW (wlt_9 (rfl : wkd 70 = 9)) (wen_9 (rfl : wkd 70 = 9)) (C := RX10) (T := TX10) (N := 31) rfl 7 (by decide) (hts _ wA_721) rfl dX10_comesLamp_114 ?_
          refine lv_iconst (v := 1) hx hb dX10_comesLamp_117 rfl ?_
          refine lv_iadd hx hb dX10_comesLamp_118 ?_
          refine wm_put hx hb hts wu_X10 tyX10 tyX10_ok nmX10 hown hG hV hW hS (wlt_9 (rfl : wkd 70 = 9)) (wen_9 (rfl : wkd 70 = 9)) (C := RX10) (T := TX10) (N := 31) rfl 7 (by decide) (hts _ wA_721) rfl .int _ (tyX10_ok 7 (by decide)) rfl rfl (Nat.le_of_ble_eq_true rfl) (wpt_9_7 (rfl : wkd 70 = 9)) dX10_comesLamp_119 (fun H locs hW hS => ?_)
          obtain ⟨M21, hW, hf⟩ := wlet_M hW hf
          refine lv_iconst (v := 1) hx hb dX10_comesLamp_122 rfl ?_
          have hres := Option.some.inj hf
          subst hres
          exact W.zret hx hb hr (wb_n true) (wr_q hG hV hZ hW hS) hS.2.2 dX10_comesLamp_123
theorem cX10_comesLamp_ok (l : Launch) (E : wE) (M : wMem) (a1 : Int32) {res : Bool × wMem} (hf : fX10_comesLamp M a1 = some res) : wMet l yX10_comesLamp (wsM yX10_comesLamp cX10_comesLamp 2 (some .boolean)) ({ frames := 0, cells := 0, slots := 0, locals := 0 } : Room) E M [.ref (wad E 70), .int a1] (some (.int (wb res.1))) res.2 :=
  wc_of (cc := cX10_comesLamp) (maxL := 2) (ret := (some .boolean)) (by decide) (Nat.le_of_ble_eq_true rfl) (fun _ _ _ _ _ _ _ _ B hW hl => pX10_comesLamp B  hf hW va_S.rf hl)
end
theorem cdX10_comes : yX10_comes.cls = RX10 ∧ yX10_comes.cls ≠ "java/lang/invoke/MethodHandle" ∧ yX10_comes.cls ≠ "java/lang/invoke/VarHandle" ∧ (parseMethodDescriptor yX10_comes.desc).map (fun d => d.parameters.length) = some 1 := by decide +kernel
section
variable {p : Program} {l : Launch} {e : Env} {s : State} {m : MethodId} {args : Array Value} {below : List Frame} {meth : Method} {c : Code} {E : wE}
set_option maxRecDepth 100000 in
set_option maxHeartbeats 4000000 in
theorem pX10_comes (B : wB E p s m args meth c cX10_comes 3 RX10 (some .boolean)) {M : wMem} {a1 : Int32}  {res : Bool × wMem} (hf : fX10_comes M a1 = some res) {H : Heap} {locs : List Loc} {ls : Array Slot} (hW : wH E M H) (hS : va_S (wA E) s.heap H locs) (hl : lv_has ls 3 [(0, .ref (wad E 70)), (1, .int a1)]) : W p l e ({ frames := 1, cells := 0, slots := 0, locals := 21 } : Room) s m args below meth c H locs 0 0 (MQ below (wQ E (some (.int (wb res.1))) res.2) args s 0 0 (wA E)) (F0 m 0 ls []) := by
  unfold fX10_comes at hf
  obtain ⟨hx, hb, hr, hml, hown, hts, hlocks, hG, hV, hZ⟩ := id B
  refine lv_iconst (v := 3) hx hb dX10_comes_0 rfl ?_
  refine lv_iload_n hx hb dX10_comes_1 rfl (lv_at hl 1 rfl) ?_
  refine lv_imul hx hb dX10_comes_2 ?_
  refine lv_topi (fun x1 ex1 => ?_)
  replace hf := wlet_y ex1 hf
  refine lv_istore_n (lv' := [(2, .int x1), (0, .ref (wad E 70)), (1, .int a1)]) hx hb dX10_comes_3 rfl hl (by decide) rfl (fun ls hl => ?_)
  refine lv_aload_n hx hb dX10_comes_4 rfl (lv_at hl 1 rfl) ?_
  refine wm_get hx hb hts wu_X10 hown hV hW (wlt_9 (rfl : wkd 70 = 9)) (wen_9 (rfl : wkd 70 = 9)) (C := RX10) (T := TX10) (N := 31) rfl 10 (by decide) (hts _ wA_724) rfl dX10_comes_5 ?_
  refine lv_iload_n hx hb dX10_comes_8 rfl (lv_at hl 2 rfl) ?_
  obtain ⟨hi2, hf⟩ := wgi_e hf
  refine wm_iald hx hb hV hW (rfl : wkd 79 = 21) (n := 32) rfl hi2 dX10_comes_9 ?_
  refine lv_topi (fun x3 ex3 => ?_)
  replace hf := wlet_y ex3 hf
  rcases wif_e hf with ⟨hq9, hf⟩ | ⟨hq9, hf⟩
  · refine lv_lookup (off := 67) (tgt := 77) hx hb dX10_comes_10 (by decide) (by rw [hq9] <;> rfl) (by decide) ?_
    refine lv_aload_n hx hb dX10_comes_77 rfl (lv_at hl 1 rfl) ?_
    refine wm_get hx hb hts wu_X10 hown hV hW (wlt_9 (rfl : wkd 70 = 9)) (wen_9 (rfl : wkd 70 = 9)) (C := RX10) (T := TX10) (N := 31) rfl 6 (by decide) (hts _ wA_720) rfl dX10_comes_78 ?_
    refine lv_iconst (v := 3) hx hb dX10_comes_81 rfl ?_
    refine lv_aload_n hx hb dX10_comes_82 rfl (lv_at hl 1 rfl) ?_
    refine wm_get hx hb hts wu_X10 hown hV hW (wlt_9 (rfl : wkd 70 = 9)) (wen_9 (rfl : wkd 70 = 9)) (C := RX10) (T := TX10) (N := 31) rfl 12 (by decide) (hts _ wA_726) rfl dX10_comes_83 ?_
    refine lv_iload_n hx hb dX10_comes_86 rfl (lv_at hl 0 rfl) ?_
    obtain ⟨hi4, hf⟩ := wgi_e hf
    refine wm_iald hx hb hV hW (rfl : wkd 81 = 21) (n := 96) rfl hi4 dX10_comes_87 ?_
    obtain ⟨hi5, hf⟩ := wgi_e hf
    refine wm_iast hx hb hG hV hW hS (rfl : wkd 77 = 21) (n := 4) rfl hi5 dX10_comes_88 (fun H locs hW hS => ?_)
    obtain ⟨M6, hW, hf⟩ := wlet_M hW hf
    refine lv_aload_n hx hb dX10_comes_89 rfl (lv_at hl 1 rfl) ?_
    refine wm_get hx hb hts wu_X10 hown hV hW (wlt_9 (rfl : wkd 70 = 9)) (wen_9 (rfl : wkd 70 = 9)) (C := RX10) (T := TX10) (N := 31) rfl 12 (by decide) (hts _ wA_726) rfl dX10_comes_90 ?_
    refine lv_iload_n hx hb dX10_comes_93 rfl (lv_at hl 0 rfl) ?_
    obtain ⟨hi7, hf⟩ := wgi_e hf
    refine wm_iald hx hb hV hW (rfl : wkd 81 = 21) (n := 96) rfl hi7 dX10_comes_94 ?_
    rcases wif_e hf with ⟨hq8, hf⟩ | ⟨hq8, hf⟩
    · refine lv_if_le (tgt := 102) hx hb dX10_comes_95 (by decide) (fun _ => ?_) (fun h => absurd hq8 h)
      refine lv_iconst (v := 0) hx hb dX10_comes_102 rfl ?_
      have hres := Option.some.inj hf
      subst hres
      exact W.zret hx hb hr (wb_n false) (wr_q hG hV hZ hW hS) hS.2.2 dX10_comes_103
    · refine lv_if_le (tgt := 102) hx hb dX10_comes_95 (by decide) (fun h => absurd h hq8) (fun _ => ?_)
      refine lv_iconst (v := 1) hx hb dX10_comes_98 rfl ?_
      refine lv_goto (tgt := 103) hx hb dX10_comes_99 (by decide) ?_
      have hres := Option.some.inj hf
      subst hres
      exact W.zret hx hb hr (wb_n true) (wr_q hG hV hZ hW hS) hS.2.2 dX10_comes_103
  · rcases wif_e hf with ⟨hq13, hf⟩ | ⟨hq13, hf⟩
    · refine lv_lookup (off := 34) (tgt := 44) hx hb dX10_comes_10 (by decide) (by rw [hq13] <;> rfl) (by decide) ?_
      refine lv_aload_n hx hb dX10_comes_44 rfl (lv_at hl 1 rfl) ?_
      refine lv_iload_n hx hb dX10_comes_45 rfl (lv_at hl 0 rfl) ?_
      obtain ⟨r11, M12, hc10, hf⟩ := wbind_p hf
      refine wc_V (As := [.int x1]) (rest := []) hx hb hml hown hts hG hV hZ (wlt_9 (rfl : wkd 70 = 9)) (q := (RX10, TX10, 31)) (wen_9 (rfl : wkd 70 = 9)) rfl (cX10_comesLamp_ok l E M x1 hc10) (cwV 1 hts gl_X10_109 rfl rfl rfl cdX10_comesLamp ⟨Nat.le_of_ble_eq_true rfl, Nat.le_of_ble_eq_true rfl⟩) rfl hl.1 rfl (Nat.le_of_ble_eq_true rfl) dX10_comes_46 ⟨Nat.zero_le _, Nat.zero_le _⟩ hW hS rfl (fun H locs hW hS => ?_)
      have hres := Option.some.inj hf
      subst hres
      exact W.zret hx hb hr (wb_n r11) (wr_q hG hV hZ hW hS) hS.2.2 dX10_comes_49
    · rcases wif_e hf with ⟨hq19, hf⟩ | ⟨hq19, hf⟩
      · refine lv_lookup (off := 40) (tgt := 50) hx hb dX10_comes_10 (by decide) (by rw [hq19] <;> rfl) (by decide) ?_
        refine lv_aload_n hx hb dX10_comes_50 rfl (lv_at hl 1 rfl) ?_
        refine wm_get hx hb hts wu_X10 hown hV hW (wlt_9 (rfl : wkd 70 = 9)) (wen_9 (rfl : wkd 70 = 9)) (C := RX10) (T := TX10) (N := 31) rfl 6 (by decide) (hts _ wA_720) rfl dX10_comes_51 ?_
        refine lv_iconst (v := 0) hx hb dX10_comes_54 rfl ?_
        refine lv_aload_n hx hb dX10_comes_55 rfl (lv_at hl 1 rfl) ?_
        refine wm_get hx hb hts wu_X10 hown hV hW (wlt_9 (rfl : wkd 70 = 9)) (wen_9 (rfl : wkd 70 = 9)) (C := RX10) (T := TX10) (N := 31) rfl 12 (by decide) (hts _ wA_726) rfl dX10_comes_56 ?_
        refine lv_iload_n hx hb dX10_comes_59 rfl (lv_at hl 0 rfl) ?_
        obtain ⟨hi14, hf⟩ := wgi_e hf
        refine wm_iald hx hb hV hW (rfl : wkd 81 = 21) (n := 96) rfl hi14 dX10_comes_60 ?_
        obtain ⟨hi15, hf⟩ := wgi_e hf
        refine wm_iast hx hb hG hV hW hS (rfl : wkd 77 = 21) (n := 4) rfl hi15 dX10_comes_61 (fun H locs hW hS => ?_)
        obtain ⟨M16, hW, hf⟩ := wlet_M hW hf
        refine lv_aload_n hx hb dX10_comes_62 rfl (lv_at hl 1 rfl) ?_
        refine wm_get hx hb hts wu_X10 hown hV hW (wlt_9 (rfl : wkd 70 = 9)) (wen_9 (rfl : wkd 70 = 9)) (C := RX10) (T := TX10) (N := 31) rfl 12 (by decide) (hts _ wA_726) rfl dX10_comes_63 ?_
        refine lv_iload_n hx hb dX10_comes_66 rfl (lv_at hl 0 rfl) ?_
        obtain ⟨hi17, hf⟩ := wgi_e hf
        refine wm_iald hx hb hV hW (rfl : wkd 81 = 21) (n := 96) rfl hi17 dX10_comes_67 ?_
        rcases wif_e hf with ⟨hq18, hf⟩ | ⟨hq18, hf⟩
        · refine lv_if_le (tgt := 75) hx hb dX10_comes_68 (by decide) (fun _ => ?_) (fun h => absurd hq18 h)
          refine lv_iconst (v := 0) hx hb dX10_comes_75 rfl ?_
          have hres := Option.some.inj hf
          subst hres
          exact W.zret hx hb hr (wb_n false) (wr_q hG hV hZ hW hS) hS.2.2 dX10_comes_76
        · refine lv_if_le (tgt := 75) hx hb dX10_comes_68 (by decide) (fun h => absurd h hq18) (fun _ => ?_)
          refine lv_iconst (v := 1) hx hb dX10_comes_71 rfl ?_
          refine lv_goto (tgt := 76) hx hb dX10_comes_72 (by decide) ?_
          have hres := Option.some.inj hf
          subst hres
          exact W.zret hx hb hr (wb_n true) (wr_q hG hV hZ hW hS) hS.2.2 dX10_comes_76
      · refine lv_lookup (off := 94) (tgt := 104) hx hb dX10_comes_10 (by decide) ((lv_osw (k := 103) hq9 (by decide)).trans ((lv_osw (k := 112) hq13 (by decide)).trans ((lv_osw (k := 117) hq19 (by decide)).trans rfl))) (by decide) ?_
        refine lv_aload_n hx hb dX10_comes_104 rfl (lv_at hl 1 rfl) ?_
        refine lv_aload_n hx hb dX10_comes_105 rfl (lv_at hl 1 rfl) ?_
        refine wm_get hx hb hts wu_X10 hown hV hW (wlt_9 (rfl : wkd 70 = 9)) (wen_9 (rfl : wkd 70 = 9)) (C := RX10) (T := TX10) (N := 31) rfl 12 (by decide) (hts _ wA_726) rfl dX10_comes_106 ?_
        refine lv_iload_n hx hb dX10_comes_109 rfl (lv_at hl 0 rfl) ?_
        obtain ⟨hi20, hf⟩ := wgi_e hf
        refine wm_iald hx hb hV hW (rfl : wkd 81 = 21) (n := 96) rfl hi20 dX10_comes_110 ?_
        obtain ⟨r22, hc21, hf⟩ := wbind_e hf
        refine wc_V (As := [.int (M 81 (Int32.toNatClampNeg x1))]) (rest := []) hx hb hml hown hts hG hV hZ (wlt_9 (rfl : wkd 70 = 9)) (q := (RX10, TX10, 31)) (wen_9 (rfl : wkd 70 = 9)) rfl (cX10_isLamp_ok l E M (M 81 (Int32.toNatClampNeg x1)) hc21) (cwV 1 hts gl_X10_112 rfl rfl rfl cdX10_isLamp ⟨Nat.le_of_ble_eq_true rfl, Nat.le_of_ble_eq_true rfl⟩) rfl hl.1 rfl (Nat.le_of_ble_eq_true rfl) dX10_comes_111 ⟨Nat.zero_le _, Nat.zero_le _⟩ hW hS rfl (fun H locs hW hS => ?_)
        rcases wif_e hf with ⟨hq23, hf⟩ | ⟨hq23, hf⟩
        · refine lv_if_eq (tgt := 129) hx hb dX10_comes_114 (by decide) (fun _ => ?_) (fun h => absurd hq23 h)
          refine lv_iconst (v := 0) hx hb dX10_comes_129 rfl ?_
          have hres := Option.some.inj hf
          subst hres
          exact W.zret hx hb hr (wb_n false) (wr_q hG hV hZ hW hS) hS.2.2 dX10_comes_130
        · refine lv_if_eq (tgt := 129) hx hb dX10_comes_114 (by decide) (fun h => absurd h hq23) (fun _ => ?_)
          refine lv_aload_n hx hb dX10_comes_117 rfl (lv_at hl 1 rfl) ?_
          refine wm_get hx hb hts wu_X10 hown hV hW (wlt_9 (rfl : wkd 70 = 9)) (wen_9 (rfl : wkd 70 = 9)) (C := RX10) (T := TX10) (N := 31) rfl 12 (by decide) (hts _ wA_726) rfl dX10_comes_118 ?_
          refine lv_iload_n hx hb dX10_comes_121 rfl (lv_at hl 0 rfl) ?_
          refine lv_iconst (v := 1) hx hb dX10_comes_122 rfl ?_
          refine lv_iadd hx hb dX10_comes_123 ?_
          obtain ⟨hi24, hf⟩ := wgi_e hf
          refine wm_iald hx hb hV hW (rfl : wkd 81 = 21) (n := 96) rfl hi24 dX10_comes_124 ?_
          refine lv_iconst (v := 3) hx hb dX10_comes_125 rfl ?_
          rcases wif_e hf with ⟨hq25, hf⟩ | ⟨hq25, hf⟩
          · refine lv_icmp_le (tgt := 131) hx hb dX10_comes_126 (by decide) (fun _ => ?_) (fun h => absurd hq25 h)
            refine lv_aload_n hx hb dX10_comes_131 rfl (lv_at hl 1 rfl) ?_
            refine wm_get hx hb hts wu_X10 hown hV hW (wlt_9 (rfl : wkd 70 = 9)) (wen_9 (rfl : wkd 70 = 9)) (C := RX10) (T := TX10) (N := 31) rfl 5 (by decide) (hts _ wA_719) rfl dX10_comes_132 ?_
            refine lv_aload_n hx hb dX10_comes_135 rfl (lv_at hl 1 rfl) ?_
            refine wm_get hx hb hts wu_X10 hown hV hW (wlt_9 (rfl : wkd 70 = 9)) (wen_9 (rfl : wkd 70 = 9)) (C := RX10) (T := TX10) (N := 31) rfl 12 (by decide) (hts _ wA_726) rfl dX10_comes_136 ?_
            refine lv_iload_n hx hb dX10_comes_139 rfl (lv_at hl 0 rfl) ?_
            obtain ⟨hi26, hf⟩ := wgi_e hf
            refine wm_iald hx hb hV hW (rfl : wkd 81 = 21) (n := 96) rfl hi26 dX10_comes_140 ?_
            refine lv_aload_n hx hb dX10_comes_141 rfl (lv_at hl 1 rfl) ?_
            refine wm_get hx hb hts wu_X10 hown hV hW (wlt_9 (rfl : wkd 70 = 9)) (wen_9 (rfl : wkd 70 = 9)) (C := RX10) (T := TX10) (N := 31) rfl 12 (by decide) (hts _ wA_726) rfl dX10_comes_142 ?_
            refine lv_iload_n hx hb dX10_comes_145 rfl (lv_at hl 0 rfl) ?_
            refine lv_iconst (v := 1) hx hb dX10_comes_146 rfl ?_
            refine lv_iadd hx hb dX10_comes_147 ?_
            obtain ⟨hi27, hf⟩ := wgi_e hf
            refine wm_iald hx hb hV hW (rfl : wkd 81 = 21) (n := 96) rfl hi27 dX10_comes_148 ?_
            obtain ⟨hi28, hf⟩ := wgi_e hf
            refine wm_iast hx hb hG hV hW hS (rfl : wkd 76 = 21) (n := 12) rfl hi28 dX10_comes_149 (fun H locs hW hS => ?_)
            obtain ⟨M29, hW, hf⟩ := wlet_M hW hf
            refine lv_iconst (v := 1) hx hb dX10_comes_150 rfl ?_
            have hres := Option.some.inj hf
            subst hres
            exact W.zret hx hb hr (wb_n true) (wr_q hG hV hZ hW hS) hS.2.2 dX10_comes_151
          · refine lv_icmp_le (tgt := 131) hx hb dX10_comes_126 (by decide) (fun h => absurd h hq25) (fun _ => ?_)
            refine lv_iconst (v := 0) hx hb dX10_comes_129 rfl ?_
            have hres := Option.some.inj hf
            subst hres
            exact W.zret hx hb hr (wb_n false) (wr_q hG hV hZ hW hS) hS.2.2 dX10_comes_130
theorem cX10_comes_ok (l : Launch) (E : wE) (M : wMem) (a1 : Int32) {res : Bool × wMem} (hf : fX10_comes M a1 = some res) : wMet l yX10_comes (wsM yX10_comes cX10_comes 3 (some .boolean)) ({ frames := 1, cells := 0, slots := 0, locals := 21 } : Room) E M [.ref (wad E 70), .int a1] (some (.int (wb res.1))) res.2 :=
  wc_of (cc := cX10_comes) (maxL := 3) (ret := (some .boolean)) (by decide) (Nat.le_of_ble_eq_true rfl) (fun _ _ _ _ _ _ _ _ B hW hl => pX10_comes B  hf hW va_S.rf hl)
end
theorem cdX10_passes : yX10_passes.cls = RX10 ∧ yX10_passes.cls ≠ "java/lang/invoke/MethodHandle" ∧ yX10_passes.cls ≠ "java/lang/invoke/VarHandle" ∧ (parseMethodDescriptor yX10_passes.desc).map (fun d => d.parameters.length) = some 1 := by decide +kernel
section
variable {p : Program} {l : Launch} {e : Env} {s : State} {m : MethodId} {args : Array Value} {below : List Frame} {meth : Method} {c : Code} {E : wE}
set_option maxRecDepth 100000 in
set_option maxHeartbeats 4000000 in
theorem pX10_passes_42 (B : wB E p s m args meth c cX10_passes 3 RX10 none) {M : wMem} {ky1 : Nat} {y2 : Int32} {rec2 : (Int32 × wMem → Option (wMem))} {res : wMem} (hky1 : wkd ky1 = 21) (hrec2 : ∀ (y2' : Int32) (M' : wMem), rec2 (y2', M') = some res → ∀ (H : Heap) (locs : List Loc) (ls : Array Slot), wH E M' H → va_S (wA E) s.heap H locs → lv_has ls 3 [(0, .ref (wad E 70)), (1, .ref (wad E ky1)), (2, .int y2')] → W p l e ({ frames := 0, cells := 0, slots := 0, locals := 0 } : Room) s m args below meth c H locs 0 0 (MQ below (wQ E none res) args s 0 0 (wA E)) (F0 m 2 ls [])) (hf : fX10_passes_42 M rec2 ky1 y2 = some res) {H : Heap} {locs : List Loc} {ls : Array Slot} (hW : wH E M H) (hS : va_S (wA E) s.heap H locs) (hl : lv_has ls 3 [(0, .ref (wad E 70)), (1, .ref (wad E ky1)), (2, .int y2)]) : W p l e ({ frames := 0, cells := 0, slots := 0, locals := 0 } : Room) s m args below meth c H locs 0 0 (MQ below (wQ E none res) args s 0 0 (wA E)) (F0 m 42 ls []) := by
  unfold fX10_passes_42 at hf
  obtain ⟨hx, hb, hr, hml, hown, hts, hlocks, hG, hV, hZ⟩ := id B
  refine lv_aload_n hx hb dX10_passes_42 rfl (lv_at hl 0 rfl) ?_
  refine lv_dup hx hb dX10_passes_43 rfl ?_
  refine wm_get hx hb hts wu_X10 hown hV hW (wlt_9 (rfl : wkd 70 = 9)) (wen_9 (rfl : wkd 70 = 9)) (C := RX10) (T := TX10) (N := 31) rfl 19 (by decide) (hts _ wA_733) rfl dX10_passes_44 ?_
  refine lv_iconst (v := 1) hx hb dX10_passes_47 rfl ?_
  refine lv_iadd hx hb dX10_passes_48 ?_
  refine wm_put hx hb hts wu_X10 tyX10 tyX10_ok nmX10 hown hG hV hW hS (wlt_9 (rfl : wkd 70 = 9)) (wen_9 (rfl : wkd 70 = 9)) (C := RX10) (T := TX10) (N := 31) rfl 19 (by decide) (hts _ wA_733) rfl .int _ (tyX10_ok 19 (by decide)) rfl rfl (Nat.le_of_ble_eq_true rfl) (wpt_9_19 (rfl : wkd 70 = 9)) dX10_passes_49 (fun H locs hW hS => ?_)
  obtain ⟨M6, hW, hf⟩ := wlet_M hW hf
  obtain ⟨x7, ex7, hf⟩ := wlet_e hf
  refine lv_iinc (v := x7) (lv' := [(2, .int x7), (0, .ref (wad E 70)), (1, .ref (wad E ky1))]) hx hb dX10_passes_52 hl (k := 2) rfl (by rw [ex7]; rfl) (by decide) rfl (fun ls hl => ?_)
  refine lv_goto (tgt := 2) hx hb dX10_passes_55 (by decide) ?_
  exact hrec2 x7 M6 hf _ _ _ hW hS (lv_sub hl [1, 2, 0] rfl)
set_option maxRecDepth 100000 in
set_option maxHeartbeats 4000000 in
theorem pX10_passes_2_b (B : wB E p s m args meth c cX10_passes 3 RX10 none) {M : wMem} {ky1 : Nat} {y2 : Int32}  {rec2 : (Int32 × wMem → Option (wMem))} {res : wMem} (hky1 : wkd ky1 = 21)  (hrec2 : ∀ (y2' : Int32) (M' : wMem), rec2 (y2', M') = some res → ∀ (H : Heap) (locs : List Loc) (ls : Array Slot), wH E M' H → va_S (wA E) s.heap H locs → lv_has ls 3 [(0, .ref (wad E 70)), (1, .ref (wad E ky1)), (2, .int y2')] → W p l e ({ frames := 0, cells := 0, slots := 0, locals := 0 } : Room) s m args below meth c H locs 0 0 (MQ below (wQ E none res) args s 0 0 (wA E)) (F0 m 2 ls [])) (hf : fX10_passes_2_b M  rec2 ky1 y2 = some res) {H : Heap} {locs : List Loc} {ls : Array Slot} (hW : wH E M H) (hS : va_S (wA E) s.heap H locs) (hl : lv_has ls 3 [(0, .ref (wad E 70)), (1, .ref (wad E ky1)), (2, .int y2)]) : W p l e ({ frames := 0, cells := 0, slots := 0, locals := 0 } : Room) s m args below meth c H locs 0 0 (MQ below (wQ E none res) args s 0 0 (wA E)) (F0 m 2 ls []) := by
  unfold fX10_passes_2_b at hf
  obtain ⟨hx, hb, hr, hml, hown, hts, hlocks, hG, hV, hZ⟩ := id B
  refine lv_iload_n hx hb dX10_passes_2 rfl (lv_at hl 2 rfl) ?_
  refine lv_aload_n hx hb dX10_passes_3 rfl (lv_at hl 1 rfl) ?_
  refine wm_alen hx hb hV hW hky1 dX10_passes_4 ?_
  rcases wif_e hf with ⟨hq1, hf⟩ | ⟨hq1, hf⟩
  · refine lv_icmp_ge (tgt := 58) hx hb dX10_passes_5 (by decide) (fun _ => ?_) (fun h => absurd hq1 h)
    have hres := Option.some.inj hf
    subst hres
    exact W.vret hx hb hr (wr_q hG hV hZ hW hS) hS.2.2 dX10_passes_58
  · refine lv_icmp_ge (tgt := 58) hx hb dX10_passes_5 (by decide) (fun h => absurd h hq1) (fun _ => ?_)
    refine lv_aload_n hx hb dX10_passes_8 rfl (lv_at hl 0 rfl) ?_
    refine wm_get hx hb hts wu_X10 hown hV hW (wlt_9 (rfl : wkd 70 = 9)) (wen_9 (rfl : wkd 70 = 9)) (C := RX10) (T := TX10) (N := 31) rfl 18 (by decide) (hts _ wA_732) rfl dX10_passes_9 ?_
    rcases wif_e hf with ⟨hq2, hf⟩ | ⟨hq2, hf⟩
    · refine lv_if_eq (tgt := 30) hx hb dX10_passes_12 (by decide) (fun _ => ?_) (fun h => absurd hq2 h)
      refine lv_aload_n hx hb dX10_passes_30 rfl (lv_at hl 1 rfl) ?_
      refine lv_iload_n hx hb dX10_passes_31 rfl (lv_at hl 2 rfl) ?_
      refine lv_aload_n hx hb dX10_passes_32 rfl (lv_at hl 0 rfl) ?_
      refine wm_get hx hb hts wu_X10 hown hV hW (wlt_9 (rfl : wkd 70 = 9)) (wen_9 (rfl : wkd 70 = 9)) (C := RX10) (T := TX10) (N := 31) rfl 16 (by decide) (hts _ wA_730) rfl dX10_passes_33 ?_
      refine lv_aload_n hx hb dX10_passes_36 rfl (lv_at hl 0 rfl) ?_
      refine wm_get hx hb hts wu_X10 hown hV hW (wlt_9 (rfl : wkd 70 = 9)) (wen_9 (rfl : wkd 70 = 9)) (C := RX10) (T := TX10) (N := 31) rfl 19 (by decide) (hts _ wA_733) rfl dX10_passes_37 ?_
      obtain ⟨hi3, hf⟩ := wgi_e hf
      refine wm_iald hx hb hV hW (rfl : wkd 82 = 21) (n := 160) rfl hi3 dX10_passes_40 ?_
      obtain ⟨hi4, hf⟩ := wgi_e hf
      refine wm_iast hx hb hG hV hW hS hky1 (n := (wln ky1)) rfl hi4 dX10_passes_41 (fun H locs hW hS => ?_)
      obtain ⟨M5, hW, hf⟩ := wlet_M hW hf
      exact pX10_passes_42 B hky1 hrec2 hf hW hS (lv_sub hl [0, 1, 2] rfl)
    · refine lv_if_eq (tgt := 30) hx hb dX10_passes_12 (by decide) (fun h => absurd h hq2) (fun _ => ?_)
      refine lv_aload_n hx hb dX10_passes_15 rfl (lv_at hl 0 rfl) ?_
      refine wm_get hx hb hts wu_X10 hown hV hW (wlt_9 (rfl : wkd 70 = 9)) (wen_9 (rfl : wkd 70 = 9)) (C := RX10) (T := TX10) (N := 31) rfl 16 (by decide) (hts _ wA_730) rfl dX10_passes_16 ?_
      refine lv_aload_n hx hb dX10_passes_19 rfl (lv_at hl 0 rfl) ?_
      refine wm_get hx hb hts wu_X10 hown hV hW (wlt_9 (rfl : wkd 70 = 9)) (wen_9 (rfl : wkd 70 = 9)) (C := RX10) (T := TX10) (N := 31) rfl 19 (by decide) (hts _ wA_733) rfl dX10_passes_20 ?_
      refine lv_aload_n hx hb dX10_passes_23 rfl (lv_at hl 1 rfl) ?_
      refine lv_iload_n hx hb dX10_passes_24 rfl (lv_at hl 2 rfl) ?_
      obtain ⟨hi8, hf⟩ := wgi_e hf
      refine wm_iald hx hb hV hW hky1 (n := (wln ky1)) rfl hi8 dX10_passes_25 ?_
      obtain ⟨hi9, hf⟩ := wgi_e hf
      refine wm_iast hx hb hG hV hW hS (rfl : wkd 82 = 21) (n := 160) rfl hi9 dX10_passes_26 (fun H locs hW hS => ?_)
      obtain ⟨M10, hW, hf⟩ := wlet_M hW hf
      refine lv_goto (tgt := 42) hx hb dX10_passes_27 (by decide) ?_
      exact pX10_passes_42 B hky1 hrec2 hf hW hS (lv_sub hl [0, 1, 2] rfl)
set_option maxRecDepth 100000 in
set_option maxHeartbeats 4000000 in
theorem pX10_passes_2 (B : wB E p s m args meth c cX10_passes 3 RX10 none) {M : wMem} {ky1 : Nat} {y2 : Int32}  {res : wMem} (hky1 : wkd ky1 = 21)  (hf : fX10_passes_2 M  ky1 y2 = some res) {H : Heap} {locs : List Loc} {ls : Array Slot} (hW : wH E M H) (hS : va_S (wA E) s.heap H locs) (hl : lv_has ls 3 [(0, .ref (wad E 70)), (1, .ref (wad E ky1)), (2, .int y2)]) : W p l e ({ frames := 0, cells := 0, slots := 0, locals := 0 } : Room) s m args below meth c H locs 0 0 (MQ below (wQ E none res) args s 0 0 (wA E)) (F0 m 2 ls []) := by
  have key := wloop_W (b := (fun rec2 t => fX10_passes_2_b t.2  rec2 ky1 t.1)) (P := fun t => ∀ (H : Heap) (locs : List Loc) (ls : Array Slot), wH E t.2 H → va_S (wA E) s.heap H locs → lv_has ls 3 [(0, .ref (wad E 70)), (1, .ref (wad E ky1)), (2, .int t.1)] → W p l e ({ frames := 0, cells := 0, slots := 0, locals := 0 } : Room) s m args below meth c H locs 0 0 (MQ below (wQ E none res) args s 0 0 (wA E)) (F0 m 2 ls [])) (r := res) (fun rec hrec t hf H locs ls hW hS hl => pX10_passes_2_b B hky1  (fun v0 v1 hf H locs ls hW hS hl => hrec (v0, v1) hf H locs ls hW hS hl) hf hW hS hl)
  exact key wfuel (y2, M) hf H locs ls hW hS hl
set_option maxRecDepth 100000 in
set_option maxHeartbeats 4000000 in
theorem pX10_passes (B : wB E p s m args meth c cX10_passes 3 RX10 none) {M : wMem} {k1 : Nat} (hk1 : wkd k1 = 21) {res : wMem} (hf : fX10_passes M k1 = some res) {H : Heap} {locs : List Loc} {ls : Array Slot} (hW : wH E M H) (hS : va_S (wA E) s.heap H locs) (hl : lv_has ls 3 [(0, .ref (wad E 70)), (1, .ref (wad E k1))]) : W p l e ({ frames := 0, cells := 0, slots := 0, locals := 0 } : Room) s m args below meth c H locs 0 0 (MQ below (wQ E none res) args s 0 0 (wA E)) (F0 m 0 ls []) := by
  unfold fX10_passes at hf
  obtain ⟨hx, hb, hr, hml, hown, hts, hlocks, hG, hV, hZ⟩ := id B
  refine lv_iconst (v := 0) hx hb dX10_passes_0 rfl ?_
  refine lv_istore_n (lv' := [(2, .int 0), (0, .ref (wad E 70)), (1, .ref (wad E k1))]) hx hb dX10_passes_1 rfl hl (by decide) rfl (fun ls hl => ?_)
  exact pX10_passes_2 B hk1  hf hW hS (lv_sub hl [1, 2, 0] rfl)
theorem cX10_passes_ok (l : Launch) (E : wE) (M : wMem) (k1 : Nat) (hk1 : wkd k1 = 21) {res : wMem} (hf : fX10_passes M k1 = some res) : wMet l yX10_passes (wsM yX10_passes cX10_passes 3 none) ({ frames := 0, cells := 0, slots := 0, locals := 0 } : Room) E M [.ref (wad E 70), .ref (wad E k1)] none res :=
  wc_of (cc := cX10_passes) (maxL := 3) (ret := none) (by decide) (Nat.le_of_ble_eq_true rfl) (fun _ _ _ _ _ _ _ _ B hW hl => pX10_passes B hk1 hf hW va_S.rf hl)
end
theorem cdX10_passOne : yX10_passOne.cls = RX10 ∧ yX10_passOne.cls ≠ "java/lang/invoke/MethodHandle" ∧ yX10_passOne.cls ≠ "java/lang/invoke/VarHandle" ∧ (parseMethodDescriptor yX10_passOne.desc).map (fun d => d.parameters.length) = some 1 := by decide +kernel
section
variable {p : Program} {l : Launch} {e : Env} {s : State} {m : MethodId} {args : Array Value} {below : List Frame} {meth : Method} {c : Code} {E : wE}
set_option maxRecDepth 100000 in
set_option maxHeartbeats 4000000 in
theorem pX10_passOne_38 (B : wB E p s m args meth c cX10_passOne 3 RX10 (some .int)) {M : wMem} {y2 : Int32}  {res : Int32 × wMem}   (hf : fX10_passOne_38 M  y2 = some res) {H : Heap} {locs : List Loc} {ls : Array Slot} (hW : wH E M H) (hS : va_S (wA E) s.heap H locs) (hl : lv_has ls 3 [(0, .ref (wad E 70)), (2, .int y2)]) : W p l e ({ frames := 0, cells := 0, slots := 0, locals := 0 } : Room) s m args below meth c H locs 0 0 (MQ below (wQ E (some (.int res.1)) res.2) args s 0 0 (wA E)) (F0 m 38 ls []) := by
  unfold fX10_passOne_38 at hf
  obtain ⟨hx, hb, hr, hml, hown, hts, hlocks, hG, hV, hZ⟩ := id B
  refine lv_aload_n hx hb dX10_passOne_38 rfl (lv_at hl 0 rfl) ?_
  refine lv_dup hx hb dX10_passOne_39 rfl ?_
  refine wm_get hx hb hts wu_X10 hown hV hW (wlt_9 (rfl : wkd 70 = 9)) (wen_9 (rfl : wkd 70 = 9)) (C := RX10) (T := TX10) (N := 31) rfl 19 (by decide) (hts _ wA_733) rfl dX10_passOne_40 ?_
  refine lv_iconst (v := 1) hx hb dX10_passOne_43 rfl ?_
  refine lv_iadd hx hb dX10_passOne_44 ?_
  refine wm_put hx hb hts wu_X10 tyX10 tyX10_ok nmX10 hown hG hV hW hS (wlt_9 (rfl : wkd 70 = 9)) (wen_9 (rfl : wkd 70 = 9)) (C := RX10) (T := TX10) (N := 31) rfl 19 (by decide) (hts _ wA_733) rfl .int _ (tyX10_ok 19 (by decide)) rfl rfl (Nat.le_of_ble_eq_true rfl) (wpt_9_19 (rfl : wkd 70 = 9)) dX10_passOne_45 (fun H locs hW hS => ?_)
  obtain ⟨M4, hW, hf⟩ := wlet_M hW hf
  refine lv_iload_n hx hb dX10_passOne_48 rfl (lv_at hl 1 rfl) ?_
  have hres := Option.some.inj hf
  subst hres
  exact W.iret hx hb hr (wr_q hG hV hZ hW hS) hS.2.2 dX10_passOne_49
set_option maxRecDepth 100000 in
set_option maxHeartbeats 4000000 in
theorem pX10_passOne_20 (B : wB E p s m args meth c cX10_passOne 3 RX10 (some .int)) {M : wMem} {y1 : Int32} {z0 : Int32}  {res : Int32 × wMem}   (hf : fX10_passOne_20 M  y1 z0 = some res) {H : Heap} {locs : List Loc} {ls : Array Slot} (hW : wH E M H) (hS : va_S (wA E) s.heap H locs) (hl : lv_has ls 3 [(0, .ref (wad E 70)), (1, .int y1)]) : W p l e ({ frames := 0, cells := 0, slots := 0, locals := 0 } : Room) s m args below meth c H locs 0 0 (MQ below (wQ E (some (.int res.1)) res.2) args s 0 0 (wA E)) (F0 m 20 ls [.int z0]) := by
  unfold fX10_passOne_20 at hf
  obtain ⟨hx, hb, hr, hml, hown, hts, hlocks, hG, hV, hZ⟩ := id B
  refine lv_istore_n (lv' := [(2, .int z0), (0, .ref (wad E 70)), (1, .int y1)]) hx hb dX10_passOne_20 rfl hl (by decide) rfl (fun ls hl => ?_)
  refine lv_aload_n hx hb dX10_passOne_21 rfl (lv_at hl 1 rfl) ?_
  refine wm_get hx hb hts wu_X10 hown hV hW (wlt_9 (rfl : wkd 70 = 9)) (wen_9 (rfl : wkd 70 = 9)) (C := RX10) (T := TX10) (N := 31) rfl 18 (by decide) (hts _ wA_732) rfl dX10_passOne_22 ?_
  rcases wif_e hf with ⟨hq3, hf⟩ | ⟨hq3, hf⟩
  · refine lv_if_eq (tgt := 38) hx hb dX10_passOne_25 (by decide) (fun _ => ?_) (fun h => absurd hq3 h)
    exact pX10_passOne_38 B   hf hW hS (lv_sub hl [1, 0] rfl)
  · refine lv_if_eq (tgt := 38) hx hb dX10_passOne_25 (by decide) (fun h => absurd h hq3) (fun _ => ?_)
    refine lv_aload_n hx hb dX10_passOne_28 rfl (lv_at hl 1 rfl) ?_
    refine wm_get hx hb hts wu_X10 hown hV hW (wlt_9 (rfl : wkd 70 = 9)) (wen_9 (rfl : wkd 70 = 9)) (C := RX10) (T := TX10) (N := 31) rfl 16 (by decide) (hts _ wA_730) rfl dX10_passOne_29 ?_
    refine lv_aload_n hx hb dX10_passOne_32 rfl (lv_at hl 1 rfl) ?_
    refine wm_get hx hb hts wu_X10 hown hV hW (wlt_9 (rfl : wkd 70 = 9)) (wen_9 (rfl : wkd 70 = 9)) (C := RX10) (T := TX10) (N := 31) rfl 19 (by decide) (hts _ wA_733) rfl dX10_passOne_33 ?_
    refine lv_iload_n hx hb dX10_passOne_36 rfl (lv_at hl 2 rfl) ?_
    obtain ⟨hi5, hf⟩ := wgi_e hf
    refine wm_iast hx hb hG hV hW hS (rfl : wkd 82 = 21) (n := 160) rfl hi5 dX10_passOne_37 (fun H locs hW hS => ?_)
    obtain ⟨M6, hW, hf⟩ := wlet_M hW hf
    exact pX10_passOne_38 B   hf hW hS (lv_sub hl [1, 0] rfl)
set_option maxRecDepth 100000 in
set_option maxHeartbeats 4000000 in
theorem pX10_passOne (B : wB E p s m args meth c cX10_passOne 3 RX10 (some .int)) {M : wMem} {a1 : Int32}  {res : Int32 × wMem} (hf : fX10_passOne M a1 = some res) {H : Heap} {locs : List Loc} {ls : Array Slot} (hW : wH E M H) (hS : va_S (wA E) s.heap H locs) (hl : lv_has ls 3 [(0, .ref (wad E 70)), (1, .int a1)]) : W p l e ({ frames := 0, cells := 0, slots := 0, locals := 0 } : Room) s m args below meth c H locs 0 0 (MQ below (wQ E (some (.int res.1)) res.2) args s 0 0 (wA E)) (F0 m 0 ls []) := by
  unfold fX10_passOne at hf
  obtain ⟨hx, hb, hr, hml, hown, hts, hlocks, hG, hV, hZ⟩ := id B
  refine lv_aload_n hx hb dX10_passOne_0 rfl (lv_at hl 0 rfl) ?_
  refine wm_get hx hb hts wu_X10 hown hV hW (wlt_9 (rfl : wkd 70 = 9)) (wen_9 (rfl : wkd 70 = 9)) (C := RX10) (T := TX10) (N := 31) rfl 18 (by decide) (hts _ wA_732) rfl dX10_passOne_1 ?_
  rcases wif_e hf with ⟨hq1, hf⟩ | ⟨hq1, hf⟩
  · refine lv_if_eq (tgt := 11) hx hb dX10_passOne_4 (by decide) (fun _ => ?_) (fun h => absurd hq1 h)
    refine lv_aload_n hx hb dX10_passOne_11 rfl (lv_at hl 0 rfl) ?_
    refine wm_get hx hb hts wu_X10 hown hV hW (wlt_9 (rfl : wkd 70 = 9)) (wen_9 (rfl : wkd 70 = 9)) (C := RX10) (T := TX10) (N := 31) rfl 16 (by decide) (hts _ wA_730) rfl dX10_passOne_12 ?_
    refine lv_aload_n hx hb dX10_passOne_15 rfl (lv_at hl 0 rfl) ?_
    refine wm_get hx hb hts wu_X10 hown hV hW (wlt_9 (rfl : wkd 70 = 9)) (wen_9 (rfl : wkd 70 = 9)) (C := RX10) (T := TX10) (N := 31) rfl 19 (by decide) (hts _ wA_733) rfl dX10_passOne_16 ?_
    obtain ⟨hi2, hf⟩ := wgi_e hf
    refine wm_iald hx hb hV hW (rfl : wkd 82 = 21) (n := 160) rfl hi2 dX10_passOne_19 ?_
    exact pX10_passOne_20 B   hf hW hS (lv_sub hl [0, 1] rfl)
  · refine lv_if_eq (tgt := 11) hx hb dX10_passOne_4 (by decide) (fun h => absurd h hq1) (fun _ => ?_)
    refine lv_iload_n hx hb dX10_passOne_7 rfl (lv_at hl 1 rfl) ?_
    refine lv_goto (tgt := 20) hx hb dX10_passOne_8 (by decide) ?_
    exact pX10_passOne_20 B   hf hW hS (lv_sub hl [0, 1] rfl)
theorem cX10_passOne_ok (l : Launch) (E : wE) (M : wMem) (a1 : Int32) {res : Int32 × wMem} (hf : fX10_passOne M a1 = some res) : wMet l yX10_passOne (wsM yX10_passOne cX10_passOne 3 (some .int)) ({ frames := 0, cells := 0, slots := 0, locals := 0 } : Room) E M [.ref (wad E 70), .int a1] (some (.int res.1)) res.2 :=
  wc_of (cc := cX10_passOne) (maxL := 3) (ret := (some .int)) (by decide) (Nat.le_of_ble_eq_true rfl) (fun _ _ _ _ _ _ _ _ B hW hl => pX10_passOne B  hf hW va_S.rf hl)
end
theorem cdX10_passesAll : yX10_passesAll.cls = RX10 ∧ yX10_passesAll.cls ≠ "java/lang/invoke/MethodHandle" ∧ yX10_passesAll.cls ≠ "java/lang/invoke/VarHandle" ∧ (parseMethodDescriptor yX10_passesAll.desc).map (fun d => d.parameters.length) = some 2 := by decide +kernel
section
variable {p : Program} {l : Launch} {e : Env} {s : State} {m : MethodId} {args : Array Value} {below : List Frame} {meth : Method} {c : Code} {E : wE}
set_option maxRecDepth 100000 in
set_option maxHeartbeats 4000000 in
theorem pX10_passesAll (B : wB E p s m args meth c cX10_passesAll 3 RX10 none) {M : wMem} {a1 : Int32} {a2 : Int32}  {res : wMem} (hf : fX10_passesAll M a1 a2 = some res) {H : Heap} {locs : List Loc} {ls : Array Slot} (hW : wH E M H) (hS : va_S (wA E) s.heap H locs) (hl : lv_has ls 3 [(0, .ref (wad E 70)), (1, .int a1), (2, .int a2)]) : W p l e ({ frames := 1, cells := 0, slots := 0, locals := 22 } : Room) s m args below meth c H locs 0 0 (MQ below (wQ E none res) args s 0 0 (wA E)) (F0 m 0 ls []) := by
  unfold fX10_passesAll at hf
  obtain ⟨hx, hb, hr, hml, hown, hts, hlocks, hG, hV, hZ⟩ := id B
  refine lv_aload_n hx hb dX10_passesAll_0 rfl (lv_at hl 0 rfl) ?_
  refine lv_bipush (v := 80) hx hb dX10_passesAll_1 (by decide) ?_
  refine lv_iload_n hx hb dX10_passesAll_3 rfl (lv_at hl 1 rfl) ?_
  refine lv_imul hx hb dX10_passesAll_4 ?_
  refine wm_put hx hb hts wu_X10 tyX10 tyX10_ok nmX10 hown hG hV hW hS (wlt_9 (rfl : wkd 70 = 9)) (wen_9 (rfl : wkd 70 = 9)) (C := RX10) (T := TX10) (N := 31) rfl 19 (by decide) (hts _ wA_733) rfl .int _ (tyX10_ok 19 (by decide)) rfl rfl (Nat.le_of_ble_eq_true rfl) (wpt_9_19 (rfl : wkd 70 = 9)) dX10_passesAll_5 (fun H locs hW hS => ?_)
  obtain ⟨M1, hW, hf⟩ := wlet_M hW hf
  refine lv_aload_n hx hb dX10_passesAll_8 rfl (lv_at hl 0 rfl) ?_
  refine lv_iload_n hx hb dX10_passesAll_9 rfl (lv_at hl 2 rfl) ?_
  refine lv_topi (fun x2 ex2 => ?_)
  replace hf := wlet_y ex2 hf
  clear ex2
  obtain ⟨b3, eb3, hg⟩ := wrb_e hf
  clear hf
  subst eb3
  have hf := hg
  refine wm_put hx hb hts wu_X10 tyX10 tyX10_ok nmX10 hown hG hV hW hS (wlt_9 (rfl : wkd 70 = 9)) (wen_9 (rfl : wkd 70 = 9)) (C := RX10) (T := TX10) (N := 31) rfl 18 (by decide) (hts _ wA_732) rfl .boolean _ (tyX10_ok 18 (by decide)) (wb_n _) (wb_f _) (Nat.le_of_ble_eq_true rfl) (wpt_9_18 (rfl : wkd 70 = 9)) dX10_passesAll_10 (fun H locs hW hS => ?_)
  obtain ⟨M4, hW, hf⟩ := wlet_M hW hf
  refine lv_aload_n hx hb dX10_passesAll_13 rfl (lv_at hl 0 rfl) ?_
  refine lv_aload_n hx hb dX10_passesAll_14 rfl (lv_at hl 0 rfl) ?_
  refine wm_get hx hb hts wu_X10 hown hV hW (wlt_9 (rfl : wkd 70 = 9)) (wen_9 (rfl : wkd 70 = 9)) (C := RX10) (T := TX10) (N := 31) rfl 1 (by decide) (hts _ wA_715) rfl dX10_passesAll_15 ?_
  obtain ⟨M7, hc5, hf⟩ := wbind_e hf
  refine wc_V (As := [.ref (wad E 72)]) (rest := []) hx hb hml hown hts hG hV hZ (wlt_9 (rfl : wkd 70 = 9)) (q := (RX10, TX10, 31)) (wen_9 (rfl : wkd 70 = 9)) rfl (cX10_passes_ok l E M4 72 (rfl : wkd 72 = 21) hc5) (cwV 1 hts gl_X10_133 rfl rfl rfl cdX10_passes ⟨Nat.le_of_ble_eq_true rfl, Nat.le_of_ble_eq_true rfl⟩) rfl hl.1 rfl (Nat.le_of_ble_eq_true rfl) dX10_passesAll_18 ⟨Nat.zero_le _, Nat.zero_le _⟩ hW hS rfl (fun H locs hW hS => ?_)
  refine lv_aload_n hx hb dX10_passesAll_21 rfl (lv_at hl 0 rfl) ?_
  refine lv_aload_n hx hb dX10_passesAll_22 rfl (lv_at hl 0 rfl) ?_
  refine wm_get hx hb hts wu_X10 hown hV hW (wlt_9 (rfl : wkd 70 = 9)) (wen_9 (rfl : wkd 70 = 9)) (C := RX10) (T := TX10) (N := 31) rfl 2 (by decide) (hts _ wA_716) rfl dX10_passesAll_23 ?_
  obtain ⟨M10, hc8, hf⟩ := wbind_e hf
  refine wc_V (As := [.ref (wad E 73)]) (rest := []) hx hb hml hown hts hG hV hZ (wlt_9 (rfl : wkd 70 = 9)) (q := (RX10, TX10, 31)) (wen_9 (rfl : wkd 70 = 9)) rfl (cX10_passes_ok l E M7 73 (rfl : wkd 73 = 21) hc8) (cwV 1 hts gl_X10_133 rfl rfl rfl cdX10_passes ⟨Nat.le_of_ble_eq_true rfl, Nat.le_of_ble_eq_true rfl⟩) rfl hl.1 rfl (Nat.le_of_ble_eq_true rfl) dX10_passesAll_26 ⟨Nat.zero_le _, Nat.zero_le _⟩ hW hS rfl (fun H locs hW hS => ?_)
  refine lv_aload_n hx hb dX10_passesAll_29 rfl (lv_at hl 0 rfl) ?_
  refine lv_aload_n hx hb dX10_passesAll_30 rfl (lv_at hl 0 rfl) ?_
  refine wm_get hx hb hts wu_X10 hown hV hW (wlt_9 (rfl : wkd 70 = 9)) (wen_9 (rfl : wkd 70 = 9)) (C := RX10) (T := TX10) (N := 31) rfl 3 (by decide) (hts _ wA_717) rfl dX10_passesAll_31 ?_
  obtain ⟨M13, hc11, hf⟩ := wbind_e hf
  refine wc_V (As := [.ref (wad E 74)]) (rest := []) hx hb hml hown hts hG hV hZ (wlt_9 (rfl : wkd 70 = 9)) (q := (RX10, TX10, 31)) (wen_9 (rfl : wkd 70 = 9)) rfl (cX10_passes_ok l E M10 74 (rfl : wkd 74 = 21) hc11) (cwV 1 hts gl_X10_133 rfl rfl rfl cdX10_passes ⟨Nat.le_of_ble_eq_true rfl, Nat.le_of_ble_eq_true rfl⟩) rfl hl.1 rfl (Nat.le_of_ble_eq_true rfl) dX10_passesAll_34 ⟨Nat.zero_le _, Nat.zero_le _⟩ hW hS rfl (fun H locs hW hS => ?_)
  refine lv_aload_n hx hb dX10_passesAll_37 rfl (lv_at hl 0 rfl) ?_
  refine lv_aload_n hx hb dX10_passesAll_38 rfl (lv_at hl 0 rfl) ?_
  refine wm_get hx hb hts wu_X10 hown hV hW (wlt_9 (rfl : wkd 70 = 9)) (wen_9 (rfl : wkd 70 = 9)) (C := RX10) (T := TX10) (N := 31) rfl 4 (by decide) (hts _ wA_718) rfl dX10_passesAll_39 ?_
  obtain ⟨M16, hc14, hf⟩ := wbind_e hf
  refine wc_V (As := [.ref (wad E 75)]) (rest := []) hx hb hml hown hts hG hV hZ (wlt_9 (rfl : wkd 70 = 9)) (q := (RX10, TX10, 31)) (wen_9 (rfl : wkd 70 = 9)) rfl (cX10_passes_ok l E M13 75 (rfl : wkd 75 = 21) hc14) (cwV 1 hts gl_X10_133 rfl rfl rfl cdX10_passes ⟨Nat.le_of_ble_eq_true rfl, Nat.le_of_ble_eq_true rfl⟩) rfl hl.1 rfl (Nat.le_of_ble_eq_true rfl) dX10_passesAll_42 ⟨Nat.zero_le _, Nat.zero_le _⟩ hW hS rfl (fun H locs hW hS => ?_)
  refine lv_aload_n hx hb dX10_passesAll_45 rfl (lv_at hl 0 rfl) ?_
  refine lv_aload_n hx hb dX10_passesAll_46 rfl (lv_at hl 0 rfl) ?_
  refine wm_get hx hb hts wu_X10 hown hV hW (wlt_9 (rfl : wkd 70 = 9)) (wen_9 (rfl : wkd 70 = 9)) (C := RX10) (T := TX10) (N := 31) rfl 5 (by decide) (hts _ wA_719) rfl dX10_passesAll_47 ?_
  obtain ⟨M19, hc17, hf⟩ := wbind_e hf
  refine wc_V (As := [.ref (wad E 76)]) (rest := []) hx hb hml hown hts hG hV hZ (wlt_9 (rfl : wkd 70 = 9)) (q := (RX10, TX10, 31)) (wen_9 (rfl : wkd 70 = 9)) rfl (cX10_passes_ok l E M16 76 (rfl : wkd 76 = 21) hc17) (cwV 1 hts gl_X10_133 rfl rfl rfl cdX10_passes ⟨Nat.le_of_ble_eq_true rfl, Nat.le_of_ble_eq_true rfl⟩) rfl hl.1 rfl (Nat.le_of_ble_eq_true rfl) dX10_passesAll_50 ⟨Nat.zero_le _, Nat.zero_le _⟩ hW hS rfl (fun H locs hW hS => ?_)
  refine lv_aload_n hx hb dX10_passesAll_53 rfl (lv_at hl 0 rfl) ?_
  refine lv_aload_n hx hb dX10_passesAll_54 rfl (lv_at hl 0 rfl) ?_
  refine wm_get hx hb hts wu_X10 hown hV hW (wlt_9 (rfl : wkd 70 = 9)) (wen_9 (rfl : wkd 70 = 9)) (C := RX10) (T := TX10) (N := 31) rfl 6 (by decide) (hts _ wA_720) rfl dX10_passesAll_55 ?_
  obtain ⟨M22, hc20, hf⟩ := wbind_e hf
  refine wc_V (As := [.ref (wad E 77)]) (rest := []) hx hb hml hown hts hG hV hZ (wlt_9 (rfl : wkd 70 = 9)) (q := (RX10, TX10, 31)) (wen_9 (rfl : wkd 70 = 9)) rfl (cX10_passes_ok l E M19 77 (rfl : wkd 77 = 21) hc20) (cwV 1 hts gl_X10_133 rfl rfl rfl cdX10_passes ⟨Nat.le_of_ble_eq_true rfl, Nat.le_of_ble_eq_true rfl⟩) rfl hl.1 rfl (Nat.le_of_ble_eq_true rfl) dX10_passesAll_58 ⟨Nat.zero_le _, Nat.zero_le _⟩ hW hS rfl (fun H locs hW hS => ?_)
  refine lv_aload_n hx hb dX10_passesAll_61 rfl (lv_at hl 0 rfl) ?_
  refine lv_aload_n hx hb dX10_passesAll_62 rfl (lv_at hl 0 rfl) ?_
  refine lv_aload_n hx hb dX10_passesAll_63 rfl (lv_at hl 0 rfl) ?_
  refine wm_get hx hb hts wu_X10 hown hV hW (wlt_9 (rfl : wkd 70 = 9)) (wen_9 (rfl : wkd 70 = 9)) (C := RX10) (T := TX10) (N := 31) rfl 7 (by decide) (hts _ wA_721) rfl dX10_passesAll_64 ?_
  obtain ⟨r24, M25, hc23, hf⟩ := wbind_p hf
  refine wc_V (As := [.int (M22 70 7)]) (rest := [.ref (wad E 70)]) hx hb hml hown hts hG hV hZ (wlt_9 (rfl : wkd 70 = 9)) (q := (RX10, TX10, 31)) (wen_9 (rfl : wkd 70 = 9)) rfl (cX10_passOne_ok l E M22 (M22 70 7) hc23) (cwV 1 hts gl_X10_137 rfl rfl rfl cdX10_passOne ⟨Nat.le_of_ble_eq_true rfl, Nat.le_of_ble_eq_true rfl⟩) rfl hl.1 rfl (Nat.le_of_ble_eq_true rfl) dX10_passesAll_67 ⟨Nat.zero_le _, Nat.zero_le _⟩ hW hS rfl (fun H locs hW hS => ?_)
  refine wm_put hx hb hts wu_X10 tyX10 tyX10_ok nmX10 hown hG hV hW hS (wlt_9 (rfl : wkd 70 = 9)) (wen_9 (rfl : wkd 70 = 9)) (C := RX10) (T := TX10) (N := 31) rfl 7 (by decide) (hts _ wA_721) rfl .int _ (tyX10_ok 7 (by decide)) rfl rfl (Nat.le_of_ble_eq_true rfl) (wpt_9_7 (rfl : wkd 70 = 9)) dX10_passesAll_70 (fun H locs hW hS => ?_)
  obtain ⟨M26, hW, hf⟩ := wlet_M hW hf
  refine lv_aload_n hx hb dX10_passesAll_73 rfl (lv_at hl 0 rfl) ?_
  refine lv_aload_n hx hb dX10_passesAll_74 rfl (lv_at hl 0 rfl) ?_
  refine lv_aload_n hx hb dX10_passesAll_75 rfl (lv_at hl 0 rfl) ?_
  refine wm_get hx hb hts wu_X10 hown hV hW (wlt_9 (rfl : wkd 70 = 9)) (wen_9 (rfl : wkd 70 = 9)) (C := RX10) (T := TX10) (N := 31) rfl 8 (by decide) (hts _ wA_722) rfl dX10_passesAll_76 ?_
  obtain ⟨r28, M29, hc27, hf⟩ := wbind_p hf
  refine wc_V (As := [.int (M26 70 8)]) (rest := [.ref (wad E 70)]) hx hb hml hown hts hG hV hZ (wlt_9 (rfl : wkd 70 = 9)) (q := (RX10, TX10, 31)) (wen_9 (rfl : wkd 70 = 9)) rfl (cX10_passOne_ok l E M26 (M26 70 8) hc27) (cwV 1 hts gl_X10_137 rfl rfl rfl cdX10_passOne ⟨Nat.le_of_ble_eq_true rfl, Nat.le_of_ble_eq_true rfl⟩) rfl hl.1 rfl (Nat.le_of_ble_eq_true rfl) dX10_passesAll_79 ⟨Nat.zero_le _, Nat.zero_le _⟩ hW hS rfl (fun H locs hW hS => ?_)
  refine wm_put hx hb hts wu_X10 tyX10 tyX10_ok nmX10 hown hG hV hW hS (wlt_9 (rfl : wkd 70 = 9)) (wen_9 (rfl : wkd 70 = 9)) (C := RX10) (T := TX10) (N := 31) rfl 8 (by decide) (hts _ wA_722) rfl .int _ (tyX10_ok 8 (by decide)) rfl rfl (Nat.le_of_ble_eq_true rfl) (wpt_9_8 (rfl : wkd 70 = 9)) dX10_passesAll_82 (fun H locs hW hS => ?_)
  obtain ⟨M30, hW, hf⟩ := wlet_M hW hf
  have hres := Option.some.inj hf
  subst hres
  exact W.vret hx hb hr (wr_q hG hV hZ hW hS) hS.2.2 dX10_passesAll_85
theorem cX10_passesAll_ok (l : Launch) (E : wE) (M : wMem) (a1 : Int32) (a2 : Int32) {res : wMem} (hf : fX10_passesAll M a1 a2 = some res) : wMet l yX10_passesAll (wsM yX10_passesAll cX10_passesAll 3 none) ({ frames := 1, cells := 0, slots := 0, locals := 22 } : Room) E M [.ref (wad E 70), .int a1, .int a2] none res :=
  wc_of (cc := cX10_passesAll) (maxL := 3) (ret := none) (by decide) (Nat.le_of_ble_eq_true rfl) (fun _ _ _ _ _ _ _ _ B hW hl => pX10_passesAll B  hf hW va_S.rf hl)
end
theorem cdX10_string : yX10_string.cls = RX10 ∧ yX10_string.cls ≠ "java/lang/invoke/MethodHandle" ∧ yX10_string.cls ≠ "java/lang/invoke/VarHandle" ∧ (parseMethodDescriptor yX10_string.desc).map (fun d => d.parameters.length) = some 0 := by decide +kernel
section
variable {p : Program} {l : Launch} {e : Env} {s : State} {m : MethodId} {args : Array Value} {below : List Frame} {meth : Method} {c : Code} {E : wE}
set_option maxRecDepth 100000 in
set_option maxHeartbeats 4000000 in
theorem pX10_string_86_b (B : wB E p s m args meth c cX10_string 3 RX10 (some .int)) {M : wMem} {y2 : Int32}  {rec86 : (Int32 × wMem → Option (Int32 × wMem))} {res : Int32 × wMem}   (hrec86 : ∀ (y2' : Int32) (M' : wMem), rec86 (y2', M') = some res → ∀ (H : Heap) (locs : List Loc) (ls : Array Slot), wH E M' H → va_S (wA E) s.heap H locs → lv_has ls 3 [(0, .ref (wad E 70)), (2, .int y2')] → W p l e ({ frames := 3, cells := 0, slots := 0, locals := 68 } : Room) s m args below meth c H locs 0 0 (MQ below (wQ E (some (.int res.1)) res.2) args s 0 0 (wA E)) (F0 m 86 ls [])) (hf : fX10_string_86_b M  rec86 y2 = some res) {H : Heap} {locs : List Loc} {ls : Array Slot} (hW : wH E M H) (hS : va_S (wA E) s.heap H locs) (hl : lv_has ls 3 [(0, .ref (wad E 70)), (2, .int y2)]) : W p l e ({ frames := 3, cells := 0, slots := 0, locals := 68 } : Room) s m args below meth c H locs 0 0 (MQ below (wQ E (some (.int res.1)) res.2) args s 0 0 (wA E)) (F0 m 86 ls []) := by
  unfold fX10_string_86_b at hf
  obtain ⟨hx, hb, hr, hml, hown, hts, hlocks, hG, hV, hZ⟩ := id B
  refine lv_iload_n hx hb dX10_string_86 rfl (lv_at hl 1 rfl) ?_
  refine lv_aload_n hx hb dX10_string_87 rfl (lv_at hl 0 rfl) ?_
  refine wm_get hx hb hts wu_X10 hown hV hW (wlt_9 (rfl : wkd 70 = 9)) (wen_9 (rfl : wkd 70 = 9)) (C := RX10) (T := TX10) (N := 31) rfl 15 (by decide) (hts _ wA_729) rfl dX10_string_88 ?_
  rcases wif_e hf with ⟨hq9, hf⟩ | ⟨hq9, hf⟩
  · refine lv_icmp_ge (tgt := 128) hx hb dX10_string_91 (by decide) (fun _ => ?_) (fun h => absurd hq9 h)
    refine lv_aload_n hx hb dX10_string_128 rfl (lv_at hl 0 rfl) ?_
    refine wm_get hx hb hts wu_X10 hown hV hW (wlt_9 (rfl : wkd 70 = 9)) (wen_9 (rfl : wkd 70 = 9)) (C := RX10) (T := TX10) (N := 31) rfl 15 (by decide) (hts _ wA_729) rfl dX10_string_129 ?_
    have hres := Option.some.inj hf
    subst hres
    exact W.iret hx hb hr (wr_q hG hV hZ hW hS) hS.2.2 dX10_string_132
  · refine lv_icmp_ge (tgt := 128) hx hb dX10_string_91 (by decide) (fun h => absurd h hq9) (fun _ => ?_)
    refine lv_aload_n hx hb dX10_string_94 rfl (lv_at hl 0 rfl) ?_
    refine lv_iload_n hx hb dX10_string_95 rfl (lv_at hl 1 rfl) ?_
    obtain ⟨r11, M12, hc10, hf⟩ := wbind_p hf
    refine wc_V (As := [.int y2]) (rest := []) hx hb hml hown hts hG hV hZ (wlt_9 (rfl : wkd 70 = 9)) (q := (RX10, TX10, 31)) (wen_9 (rfl : wkd 70 = 9)) rfl (cX10_comes_ok l E M y2 hc10) (cwV 1 hts gl_X10_123 rfl rfl rfl cdX10_comes ⟨Nat.le_of_ble_eq_true rfl, Nat.le_of_ble_eq_true rfl⟩) rfl hl.1 rfl (Nat.le_of_ble_eq_true rfl) dX10_string_96 ⟨Nat.zero_le _, Nat.zero_le _⟩ hW hS rfl (fun H locs hW hS => ?_)
    rcases wif_e hf with ⟨hq13, hf⟩ | ⟨hq13, hf⟩
    · refine lv_if_eq (tgt := 105) hx hb dX10_string_99 (by decide) (fun _ => ?_) (fun h => absurd hq13 h)
      refine lv_aload_n hx hb dX10_string_105 rfl (lv_at hl 0 rfl) ?_
      refine lv_iconst (v := 1) hx hb dX10_string_106 rfl ?_
      refine lv_iconst (v := 0) hx hb dX10_string_107 rfl ?_
      obtain ⟨M16, hc14, hf⟩ := wbind_e hf
      refine wc_V (As := [.int 1, .int 0]) (rest := []) hx hb hml hown hts hG hV hZ (wlt_9 (rfl : wkd 70 = 9)) (q := (RX10, TX10, 31)) (wen_9 (rfl : wkd 70 = 9)) rfl (cX10_passesAll_ok l E M12 1 0 hc14) (cwV 2 hts gl_X10_119 rfl rfl rfl cdX10_passesAll ⟨Nat.le_of_ble_eq_true rfl, Nat.le_of_ble_eq_true rfl⟩) rfl hl.1 rfl (Nat.le_of_ble_eq_true rfl) dX10_string_108 ⟨Nat.zero_le _, Nat.zero_le _⟩ hW hS rfl (fun H locs hW hS => ?_)
      refine lv_sipush (v := (-2000)) hx hb dX10_string_111 (by decide) ?_
      refine lv_aload_n hx hb dX10_string_114 rfl (lv_at hl 0 rfl) ?_
      refine wm_get hx hb hts wu_X10 hown hV hW (wlt_9 (rfl : wkd 70 = 9)) (wen_9 (rfl : wkd 70 = 9)) (C := RX10) (T := TX10) (N := 31) rfl 11 (by decide) (hts _ wA_725) rfl dX10_string_115 ?_
      refine lv_iload_n hx hb dX10_string_118 rfl (lv_at hl 1 rfl) ?_
      obtain ⟨hi17, hf⟩ := wgi_e hf
      refine wm_iald hx hb hV hW (rfl : wkd 80 = 21) (n := 32) rfl hi17 dX10_string_119 ?_
      refine lv_isub hx hb dX10_string_120 ?_
      have hres := Option.some.inj hf
      subst hres
      exact W.iret hx hb hr (wr_q hG hV hZ hW hS) hS.2.2 dX10_string_121
    · refine lv_if_eq (tgt := 105) hx hb dX10_string_99 (by decide) (fun h => absurd h hq13) (fun _ => ?_)
      refine lv_goto (tgt := 122) hx hb dX10_string_102 (by decide) ?_
      obtain ⟨x18, ex18, hf⟩ := wlet_e hf
      refine lv_iinc (v := x18) (lv' := [(2, .int x18), (0, .ref (wad E 70))]) hx hb dX10_string_122 hl (k := 1) rfl (by rw [ex18]; rfl) (by decide) rfl (fun ls hl => ?_)
      refine lv_goto (tgt := 86) hx hb dX10_string_125 (by decide) ?_
      exact hrec86 x18 M12 hf _ _ _ hW hS (lv_sub hl [1, 0] rfl)
set_option maxRecDepth 100000 in
set_option maxHeartbeats 4000000 in
theorem pX10_string_86 (B : wB E p s m args meth c cX10_string 3 RX10 (some .int)) {M : wMem} {y2 : Int32}  {res : Int32 × wMem}   (hf : fX10_string_86 M  y2 = some res) {H : Heap} {locs : List Loc} {ls : Array Slot} (hW : wH E M H) (hS : va_S (wA E) s.heap H locs) (hl : lv_has ls 3 [(0, .ref (wad E 70)), (2, .int y2)]) : W p l e ({ frames := 3, cells := 0, slots := 0, locals := 68 } : Room) s m args below meth c H locs 0 0 (MQ below (wQ E (some (.int res.1)) res.2) args s 0 0 (wA E)) (F0 m 86 ls []) := by
  have key := wloop_W (b := (fun rec86 t => fX10_string_86_b t.2  rec86 t.1)) (P := fun t => ∀ (H : Heap) (locs : List Loc) (ls : Array Slot), wH E t.2 H → va_S (wA E) s.heap H locs → lv_has ls 3 [(0, .ref (wad E 70)), (2, .int t.1)] → W p l e ({ frames := 3, cells := 0, slots := 0, locals := 68 } : Room) s m args below meth c H locs 0 0 (MQ below (wQ E (some (.int res.1)) res.2) args s 0 0 (wA E)) (F0 m 86 ls [])) (r := res) (fun rec hrec t hf H locs ls hW hS hl => pX10_string_86_b B   (fun v0 v1 hf H locs ls hW hS hl => hrec (v0, v1) hf H locs ls hW hS hl) hf hW hS hl)
  exact key wfuel (y2, M) hf H locs ls hW hS hl
set_option maxRecDepth 100000 in
set_option maxHeartbeats 4000000 in
theorem pX10_string_60 (B : wB E p s m args meth c cX10_string 3 RX10 (some .int)) {M : wMem} {y1 : Int32}  {res : Int32 × wMem}   (hf : fX10_string_60 M  y1 = some res) {H : Heap} {locs : List Loc} {ls : Array Slot} (hW : wH E M H) (hS : va_S (wA E) s.heap H locs) (hl : lv_has ls 3 [(0, .ref (wad E 70)), (1, .int y1)]) : W p l e ({ frames := 3, cells := 0, slots := 0, locals := 68 } : Room) s m args below meth c H locs 0 0 (MQ below (wQ E (some (.int res.1)) res.2) args s 0 0 (wA E)) (F0 m 60 ls []) := by
  unfold fX10_string_60 at hf
  obtain ⟨hx, hb, hr, hml, hown, hts, hlocks, hG, hV, hZ⟩ := id B
  refine lv_aload_n hx hb dX10_string_60 rfl (lv_at hl 0 rfl) ?_
  refine lv_iconst (v := 0) hx hb dX10_string_61 rfl ?_
  refine wm_put hx hb hts wu_X10 tyX10 tyX10_ok nmX10 hown hG hV hW hS (wlt_9 (rfl : wkd 70 = 9)) (wen_9 (rfl : wkd 70 = 9)) (C := RX10) (T := TX10) (N := 31) rfl 13 (by decide) (hts _ wA_727) rfl .int _ (tyX10_ok 13 (by decide)) rfl rfl (Nat.le_of_ble_eq_true rfl) (wpt_9_13 (rfl : wkd 70 = 9)) dX10_string_62 (fun H locs hW hS => ?_)
  obtain ⟨M4, hW, hf⟩ := wlet_M hW hf
  refine lv_iload_n hx hb dX10_string_65 rfl (lv_at hl 1 rfl) ?_
  rcases wif_e hf with ⟨hq5, hf⟩ | ⟨hq5, hf⟩
  · refine lv_if_ne (tgt := 78) hx hb dX10_string_66 (by decide) (fun h => absurd hq5 h) (fun _ => ?_)
    refine lv_sipush (v := (-1000)) hx hb dX10_string_69 (by decide) ?_
    refine lv_aload_n hx hb dX10_string_72 rfl (lv_at hl 0 rfl) ?_
    refine wm_get hx hb hts wu_X10 hown hV hW (wlt_9 (rfl : wkd 70 = 9)) (wen_9 (rfl : wkd 70 = 9)) (C := RX10) (T := TX10) (N := 31) rfl 14 (by decide) (hts _ wA_728) rfl dX10_string_73 ?_
    refine lv_isub hx hb dX10_string_76 ?_
    have hres := Option.some.inj hf
    subst hres
    exact W.iret hx hb hr (wr_q hG hV hZ hW hS) hS.2.2 dX10_string_77
  · refine lv_if_ne (tgt := 78) hx hb dX10_string_66 (by decide) (fun _ => ?_) (fun h => absurd h hq5)
    refine lv_aload_n hx hb dX10_string_78 rfl (lv_at hl 0 rfl) ?_
    refine lv_iconst (v := 1) hx hb dX10_string_79 rfl ?_
    refine lv_iconst (v := 1) hx hb dX10_string_80 rfl ?_
    obtain ⟨M8, hc6, hf⟩ := wbind_e hf
    refine wc_V (As := [.int 1, .int 1]) (rest := []) hx hb hml hown hts hG hV hZ (wlt_9 (rfl : wkd 70 = 9)) (q := (RX10, TX10, 31)) (wen_9 (rfl : wkd 70 = 9)) rfl (cX10_passesAll_ok l E M4 1 1 hc6) (cwV 2 hts gl_X10_119 rfl rfl rfl cdX10_passesAll ⟨Nat.le_of_ble_eq_true rfl, Nat.le_of_ble_eq_true rfl⟩) rfl hl.1 rfl (Nat.le_of_ble_eq_true rfl) dX10_string_81 ⟨Nat.zero_le _, Nat.zero_le _⟩ hW hS rfl (fun H locs hW hS => ?_)
    refine lv_iconst (v := 0) hx hb dX10_string_84 rfl ?_
    refine lv_istore_n (lv' := [(2, .int 0), (0, .ref (wad E 70)), (1, .int y1)]) hx hb dX10_string_85 rfl hl (by decide) rfl (fun ls hl => ?_)
    exact pX10_string_86 B   hf hW hS (lv_sub hl [1, 0] rfl)
set_option maxRecDepth 100000 in
set_option maxHeartbeats 4000000 in
theorem pX10_string_53 (B : wB E p s m args meth c cX10_string 3 RX10 (some .int)) {M : wMem} {y1 : Int32} {z1 : Int32} {z2 : Int32} {rec12 : (Int32 × wMem → Option (Int32 × wMem))} {res : Int32 × wMem}  (hrec12 : ∀ (y1' : Int32) (M' : wMem), rec12 (y1', M') = some res → ∀ (H : Heap) (locs : List Loc) (ls : Array Slot), wH E M' H → va_S (wA E) s.heap H locs → lv_has ls 3 [(0, .ref (wad E 70)), (1, .int y1')] → W p l e ({ frames := 3, cells := 0, slots := 0, locals := 68 } : Room) s m args below meth c H locs 0 0 (MQ below (wQ E (some (.int res.1)) res.2) args s 0 0 (wA E)) (F0 m 12 ls [])) (hf : fX10_string_53 M rec12 y1 z1 z2 = some res) {H : Heap} {locs : List Loc} {ls : Array Slot} (hW : wH E M H) (hS : va_S (wA E) s.heap H locs) (hl : lv_has ls 3 [(0, .ref (wad E 70)), (1, .int y1)]) : W p l e ({ frames := 3, cells := 0, slots := 0, locals := 68 } : Room) s m args below meth c H locs 0 0 (MQ below (wQ E (some (.int res.1)) res.2) args s 0 0 (wA E)) (F0 m 53 ls [.int z2, .int z1, .ref (wad E 70)]) := by
  unfold fX10_string_53 at hf
  obtain ⟨hx, hb, hr, hml, hown, hts, hlocks, hG, hV, hZ⟩ := id B
  refine lv_iadd hx hb dX10_string_53 ?_
  refine wm_put hx hb hts wu_X10 tyX10 tyX10_ok nmX10 hown hG hV hW hS (wlt_9 (rfl : wkd 70 = 9)) (wen_9 (rfl : wkd 70 = 9)) (C := RX10) (T := TX10) (N := 31) rfl 15 (by decide) (hts _ wA_729) rfl .int _ (tyX10_ok 15 (by decide)) rfl rfl (Nat.le_of_ble_eq_true rfl) (wpt_9_15 (rfl : wkd 70 = 9)) dX10_string_54 (fun H locs hW hS => ?_)
  obtain ⟨M25, hW, hf⟩ := wlet_M hW hf
  refine lv_goto (tgt := 12) hx hb dX10_string_57 (by decide) ?_
  exact hrec12 y1 M25 hf _ _ _ hW hS (lv_sub hl [0, 1] rfl)
set_option maxRecDepth 100000 in
set_option maxHeartbeats 4000000 in
theorem pX10_string_34 (B : wB E p s m args meth c cX10_string 3 RX10 (some .int)) {M : wMem}  {rec12 : (Int32 × wMem → Option (Int32 × wMem))} {res : Int32 × wMem}  (hrec12 : ∀ (y1' : Int32) (M' : wMem), rec12 (y1', M') = some res → ∀ (H : Heap) (locs : List Loc) (ls : Array Slot), wH E M' H → va_S (wA E) s.heap H locs → lv_has ls 3 [(0, .ref (wad E 70)), (1, .int y1')] → W p l e ({ frames := 3, cells := 0, slots := 0, locals := 68 } : Room) s m args below meth c H locs 0 0 (MQ below (wQ E (some (.int res.1)) res.2) args s 0 0 (wA E)) (F0 m 12 ls [])) (hf : fX10_string_34 M rec12  = some res) {H : Heap} {locs : List Loc} {ls : Array Slot} (hW : wH E M H) (hS : va_S (wA E) s.heap H locs) (hl : lv_has ls 3 [(0, .ref (wad E 70))]) : W p l e ({ frames := 3, cells := 0, slots := 0, locals := 68 } : Room) s m args below meth c H locs 0 0 (MQ below (wQ E (some (.int res.1)) res.2) args s 0 0 (wA E)) (F0 m 34 ls []) := by
  unfold fX10_string_34 at hf
  obtain ⟨hx, hb, hr, hml, hown, hts, hlocks, hG, hV, hZ⟩ := id B
  refine lv_aload_n hx hb dX10_string_34 rfl (lv_at hl 0 rfl) ?_
  obtain ⟨r21, M22, hc20, hf⟩ := wbind_p hf
  refine wc_V (As := []) (rest := []) hx hb hml hown hts hG hV hZ (wlt_9 (rfl : wkd 70 = 9)) (q := (RX10, TX10, 31)) (wen_9 (rfl : wkd 70 = 9)) rfl (cX10_statement_ok l E M  hc20) (cwV 0 hts gl_X10_115 rfl rfl rfl cdX10_statement ⟨Nat.le_of_ble_eq_true rfl, Nat.le_of_ble_eq_true rfl⟩) rfl hl.1 rfl (Nat.le_of_ble_eq_true rfl) dX10_string_35 ⟨Nat.zero_le _, Nat.zero_le _⟩ hW hS rfl (fun H locs hW hS => ?_)
  refine lv_topi (fun x23 ex23 => ?_)
  replace hf := wlet_y ex23 hf
  refine lv_istore_n (lv' := [(1, .int x23), (0, .ref (wad E 70))]) hx hb dX10_string_38 rfl hl (by decide) rfl (fun ls hl => ?_)
  refine lv_aload_n hx hb dX10_string_39 rfl (lv_at hl 1 rfl) ?_
  refine lv_dup hx hb dX10_string_40 rfl ?_
  refine wm_get hx hb hts wu_X10 hown hV hW (wlt_9 (rfl : wkd 70 = 9)) (wen_9 (rfl : wkd 70 = 9)) (C := RX10) (T := TX10) (N := 31) rfl 15 (by decide) (hts _ wA_729) rfl dX10_string_41 ?_
  refine lv_iload_n hx hb dX10_string_44 rfl (lv_at hl 0 rfl) ?_
  rcases wif_e hf with ⟨hq24, hf⟩ | ⟨hq24, hf⟩
  · refine lv_if_eq (tgt := 52) hx hb dX10_string_45 (by decide) (fun _ => ?_) (fun h => absurd hq24 h)
    refine lv_iconst (v := 0) hx hb dX10_string_52 rfl ?_
    exact pX10_string_53 B  hrec12 hf hW hS (lv_sub hl [1, 0] rfl)
  · refine lv_if_eq (tgt := 52) hx hb dX10_string_45 (by decide) (fun h => absurd h hq24) (fun _ => ?_)
    refine lv_iconst (v := 1) hx hb dX10_string_48 rfl ?_
    refine lv_goto (tgt := 53) hx hb dX10_string_49 (by decide) ?_
    exact pX10_string_53 B  hrec12 hf hW hS (lv_sub hl [1, 0] rfl)
set_option maxRecDepth 100000 in
set_option maxHeartbeats 4000000 in
theorem pX10_string_12_b (B : wB E p s m args meth c cX10_string 3 RX10 (some .int)) {M : wMem} {y1 : Int32}  {rec12 : (Int32 × wMem → Option (Int32 × wMem))} {res : Int32 × wMem}   (hrec12 : ∀ (y1' : Int32) (M' : wMem), rec12 (y1', M') = some res → ∀ (H : Heap) (locs : List Loc) (ls : Array Slot), wH E M' H → va_S (wA E) s.heap H locs → lv_has ls 3 [(0, .ref (wad E 70)), (1, .int y1')] → W p l e ({ frames := 3, cells := 0, slots := 0, locals := 68 } : Room) s m args below meth c H locs 0 0 (MQ below (wQ E (some (.int res.1)) res.2) args s 0 0 (wA E)) (F0 m 12 ls [])) (hf : fX10_string_12_b M  rec12 y1 = some res) {H : Heap} {locs : List Loc} {ls : Array Slot} (hW : wH E M H) (hS : va_S (wA E) s.heap H locs) (hl : lv_has ls 3 [(0, .ref (wad E 70)), (1, .int y1)]) : W p l e ({ frames := 3, cells := 0, slots := 0, locals := 68 } : Room) s m args below meth c H locs 0 0 (MQ below (wQ E (some (.int res.1)) res.2) args s 0 0 (wA E)) (F0 m 12 ls []) := by
  unfold fX10_string_12_b at hf
  obtain ⟨hx, hb, hr, hml, hown, hts, hlocks, hG, hV, hZ⟩ := id B
  refine lv_iload_n hx hb dX10_string_12 rfl (lv_at hl 1 rfl) ?_
  rcases wif_e hf with ⟨hq3, hf⟩ | ⟨hq3, hf⟩
  · refine lv_if_eq (tgt := 60) hx hb dX10_string_13 (by decide) (fun _ => ?_) (fun h => absurd hq3 h)
    exact pX10_string_60 B   hf hW hS (lv_sub hl [0, 1] rfl)
  · refine lv_if_eq (tgt := 60) hx hb dX10_string_13 (by decide) (fun h => absurd h hq3) (fun _ => ?_)
    refine lv_aload_n hx hb dX10_string_16 rfl (lv_at hl 0 rfl) ?_
    refine wm_get hx hb hts wu_X10 hown hV hW (wlt_9 (rfl : wkd 70 = 9)) (wen_9 (rfl : wkd 70 = 9)) (C := RX10) (T := TX10) (N := 31) rfl 14 (by decide) (hts _ wA_728) rfl dX10_string_17 ?_
    refine lv_aload_n hx hb dX10_string_20 rfl (lv_at hl 0 rfl) ?_
    refine wm_get hx hb hts wu_X10 hown hV hW (wlt_9 (rfl : wkd 70 = 9)) (wen_9 (rfl : wkd 70 = 9)) (C := RX10) (T := TX10) (N := 31) rfl 13 (by decide) (hts _ wA_727) rfl dX10_string_21 ?_
    rcases wif_e hf with ⟨hq19, hf⟩ | ⟨hq19, hf⟩
    · refine lv_icmp_lt (tgt := 34) hx hb dX10_string_24 (by decide) (fun _ => ?_) (fun h => absurd hq19 h)
      exact pX10_string_34 B  hrec12 hf hW hS (lv_sub hl [0] rfl)
    · refine lv_icmp_lt (tgt := 34) hx hb dX10_string_24 (by decide) (fun h => absurd h hq19) (fun _ => ?_)
      refine lv_aload_n hx hb dX10_string_27 rfl (lv_at hl 0 rfl) ?_
      refine wm_get hx hb hts wu_X10 hown hV hW (wlt_9 (rfl : wkd 70 = 9)) (wen_9 (rfl : wkd 70 = 9)) (C := RX10) (T := TX10) (N := 31) rfl 15 (by decide) (hts _ wA_729) rfl dX10_string_28 ?_
      rcases wif_e hf with ⟨hq26, hf⟩ | ⟨hq26, hf⟩
      · refine lv_if_ne (tgt := 60) hx hb dX10_string_31 (by decide) (fun h => absurd hq26 h) (fun _ => ?_)
        exact pX10_string_34 B  hrec12 hf hW hS (lv_sub hl [0] rfl)
      · refine lv_if_ne (tgt := 60) hx hb dX10_string_31 (by decide) (fun _ => ?_) (fun h => absurd h hq26)
        exact pX10_string_60 B   hf hW hS (lv_sub hl [0, 1] rfl)
set_option maxRecDepth 100000 in
set_option maxHeartbeats 4000000 in
theorem pX10_string_12 (B : wB E p s m args meth c cX10_string 3 RX10 (some .int)) {M : wMem} {y1 : Int32}  {res : Int32 × wMem}   (hf : fX10_string_12 M  y1 = some res) {H : Heap} {locs : List Loc} {ls : Array Slot} (hW : wH E M H) (hS : va_S (wA E) s.heap H locs) (hl : lv_has ls 3 [(0, .ref (wad E 70)), (1, .int y1)]) : W p l e ({ frames := 3, cells := 0, slots := 0, locals := 68 } : Room) s m args below meth c H locs 0 0 (MQ below (wQ E (some (.int res.1)) res.2) args s 0 0 (wA E)) (F0 m 12 ls []) := by
  have key := wloop_W (b := (fun rec12 t => fX10_string_12_b t.2  rec12 t.1)) (P := fun t => ∀ (H : Heap) (locs : List Loc) (ls : Array Slot), wH E t.2 H → va_S (wA E) s.heap H locs → lv_has ls 3 [(0, .ref (wad E 70)), (1, .int t.1)] → W p l e ({ frames := 3, cells := 0, slots := 0, locals := 68 } : Room) s m args below meth c H locs 0 0 (MQ below (wQ E (some (.int res.1)) res.2) args s 0 0 (wA E)) (F0 m 12 ls [])) (r := res) (fun rec hrec t hf H locs ls hW hS hl => pX10_string_12_b B   (fun v0 v1 hf H locs ls hW hS hl => hrec (v0, v1) hf H locs ls hW hS hl) hf hW hS hl)
  exact key wfuel (y1, M) hf H locs ls hW hS hl
set_option maxRecDepth 100000 in
set_option maxHeartbeats 4000000 in
theorem pX10_string (B : wB E p s m args meth c cX10_string 3 RX10 (some .int)) {M : wMem}   {res : Int32 × wMem} (hf : fX10_string M  = some res) {H : Heap} {locs : List Loc} {ls : Array Slot} (hW : wH E M H) (hS : va_S (wA E) s.heap H locs) (hl : lv_has ls 3 [(0, .ref (wad E 70))]) : W p l e ({ frames := 3, cells := 0, slots := 0, locals := 68 } : Room) s m args below meth c H locs 0 0 (MQ below (wQ E (some (.int res.1)) res.2) args s 0 0 (wA E)) (F0 m 0 ls []) := by
  unfold fX10_string at hf
  obtain ⟨hx, hb, hr, hml, hown, hts, hlocks, hG, hV, hZ⟩ := id B
  refine lv_aload_n hx hb dX10_string_0 rfl (lv_at hl 0 rfl) ?_
  refine lv_iconst (v := 0) hx hb dX10_string_1 rfl ?_
  refine wm_put hx hb hts wu_X10 tyX10 tyX10_ok nmX10 hown hG hV hW hS (wlt_9 (rfl : wkd 70 = 9)) (wen_9 (rfl : wkd 70 = 9)) (C := RX10) (T := TX10) (N := 31) rfl 14 (by decide) (hts _ wA_728) rfl .int _ (tyX10_ok 14 (by decide)) rfl rfl (Nat.le_of_ble_eq_true rfl) (wpt_9_14 (rfl : wkd 70 = 9)) dX10_string_2 (fun H locs hW hS => ?_)
  obtain ⟨M1, hW, hf⟩ := wlet_M hW hf
  refine lv_aload_n hx hb dX10_string_5 rfl (lv_at hl 0 rfl) ?_
  refine lv_iconst (v := 0) hx hb dX10_string_6 rfl ?_
  refine wm_put hx hb hts wu_X10 tyX10 tyX10_ok nmX10 hown hG hV hW hS (wlt_9 (rfl : wkd 70 = 9)) (wen_9 (rfl : wkd 70 = 9)) (C := RX10) (T := TX10) (N := 31) rfl 15 (by decide) (hts _ wA_729) rfl .int _ (tyX10_ok 15 (by decide)) rfl rfl (Nat.le_of_ble_eq_true rfl) (wpt_9_15 (rfl : wkd 70 = 9)) dX10_string_7 (fun H locs hW hS => ?_)
  obtain ⟨M2, hW, hf⟩ := wlet_M hW hf
  refine lv_iconst (v := 1) hx hb dX10_string_10 rfl ?_
  refine lv_istore_n (lv' := [(1, .int 1), (0, .ref (wad E 70))]) hx hb dX10_string_11 rfl hl (by decide) rfl (fun ls hl => ?_)
  exact pX10_string_12 B   hf hW hS (lv_sub hl [1, 0] rfl)
theorem cX10_string_ok (l : Launch) (E : wE) (M : wMem)  {res : Int32 × wMem} (hf : fX10_string M  = some res) : wMet l yX10_string (wsM yX10_string cX10_string 3 (some .int)) ({ frames := 3, cells := 0, slots := 0, locals := 68 } : Room) E M [.ref (wad E 70)] (some (.int res.1)) res.2 :=
  wc_of (cc := cX10_string) (maxL := 3) (ret := (some .int)) (by decide) (Nat.le_of_ble_eq_true rfl) (fun _ _ _ _ _ _ _ _ B hW hl => pX10_string B  hf hW va_S.rf hl)
end
theorem cdX10_image : yX10_image.cls = RX10 ∧ yX10_image.cls ≠ "java/lang/invoke/MethodHandle" ∧ yX10_image.cls ≠ "java/lang/invoke/VarHandle" ∧ (parseMethodDescriptor yX10_image.desc).map (fun d => d.parameters.length) = some 0 := by decide +kernel
section
variable {p : Program} {l : Launch} {e : Env} {s : State} {m : MethodId} {args : Array Value} {below : List Frame} {meth : Method} {c : Code} {E : wE}
set_option maxRecDepth 100000 in
set_option maxHeartbeats 4000000 in
theorem pX10_image (B : wB E p s m args meth c cX10_image 1 RX10 (some .int)) {M : wMem}   {res : Int32 × wMem} (hf : fX10_image M  = some res) {H : Heap} {locs : List Loc} {ls : Array Slot} (hW : wH E M H) (hS : va_S (wA E) s.heap H locs) (hl : lv_has ls 1 [(0, .ref (wad E 70))]) : W p l e ({ frames := 2, cells := 0, slots := 0, locals := 44 } : Room) s m args below meth c H locs 0 0 (MQ below (wQ E (some (.int res.1)) res.2) args s 0 0 (wA E)) (F0 m 0 ls []) := by
  unfold fX10_image at hf
  obtain ⟨hx, hb, hr, hml, hown, hts, hlocks, hG, hV, hZ⟩ := id B
  refine lv_aload_n hx hb dX10_image_0 rfl (lv_at hl 0 rfl) ?_
  refine lv_iconst (v := 1) hx hb dX10_image_1 rfl ?_
  refine wm_put hx hb hts wu_X10 tyX10 tyX10_ok nmX10 hown hG hV hW hS (wlt_9 (rfl : wkd 70 = 9)) (wen_9 (rfl : wkd 70 = 9)) (C := RX10) (T := TX10) (N := 31) rfl 17 (by decide) (hts _ wA_731) rfl .boolean _ (tyX10_ok 17 (by decide)) rfl rfl (Nat.le_of_ble_eq_true rfl) (wpt_9_17 (rfl : wkd 70 = 9)) dX10_image_2 (fun H locs hW hS => ?_)
  obtain ⟨M1, hW, hf⟩ := wlet_M hW hf
  refine lv_aload_n hx hb dX10_image_5 rfl (lv_at hl 0 rfl) ?_
  refine lv_iconst (v := 0) hx hb dX10_image_6 rfl ?_
  refine lv_iconst (v := 1) hx hb dX10_image_7 rfl ?_
  obtain ⟨M4, hc2, hf⟩ := wbind_e hf
  refine wc_V (As := [.int 0, .int 1]) (rest := []) hx hb hml hown hts hG hV hZ (wlt_9 (rfl : wkd 70 = 9)) (q := (RX10, TX10, 31)) (wen_9 (rfl : wkd 70 = 9)) rfl (cX10_passesAll_ok l E M1 0 1 hc2) (cwV 2 hts gl_X10_119 rfl rfl rfl cdX10_passesAll ⟨Nat.le_of_ble_eq_true rfl, Nat.le_of_ble_eq_true rfl⟩) rfl hl.1 rfl (Nat.le_of_ble_eq_true rfl) dX10_image_8 ⟨Nat.zero_le _, Nat.zero_le _⟩ hW hS rfl (fun H locs hW hS => ?_)
  refine lv_aload_n hx hb dX10_image_11 rfl (lv_at hl 0 rfl) ?_
  refine wm_get hx hb hts wu_X10 hown hV hW (wlt_9 (rfl : wkd 70 = 9)) (wen_9 (rfl : wkd 70 = 9)) (C := RX10) (T := TX10) (N := 31) rfl 8 (by decide) (hts _ wA_722) rfl dX10_image_12 ?_
  have hres := Option.some.inj hf
  subst hres
  exact W.iret hx hb hr (wr_q hG hV hZ hW hS) hS.2.2 dX10_image_15
theorem cX10_image_ok (l : Launch) (E : wE) (M : wMem)  {res : Int32 × wMem} (hf : fX10_image M  = some res) : wMet l yX10_image (wsM yX10_image cX10_image 1 (some .int)) ({ frames := 2, cells := 0, slots := 0, locals := 44 } : Room) E M [.ref (wad E 70)] (some (.int res.1)) res.2 :=
  wc_of (cc := cX10_image) (maxL := 1) (ret := (some .int)) (by decide) (Nat.le_of_ble_eq_true rfl) (fun _ _ _ _ _ _ _ _ B hW hl => pX10_image B  hf hW va_S.rf hl)
end
theorem cdX10_restore : yX10_restore.cls = RX10 ∧ yX10_restore.cls ≠ "java/lang/invoke/MethodHandle" ∧ yX10_restore.cls ≠ "java/lang/invoke/VarHandle" ∧ (parseMethodDescriptor yX10_restore.desc).map (fun d => d.parameters.length) = some 0 := by decide +kernel
section
variable {p : Program} {l : Launch} {e : Env} {s : State} {m : MethodId} {args : Array Value} {below : List Frame} {meth : Method} {c : Code} {E : wE}
set_option maxRecDepth 100000 in
set_option maxHeartbeats 4000000 in
theorem pX10_restore (B : wB E p s m args meth c cX10_restore 1 RX10 (some .int)) {M : wMem}   {res : Int32 × wMem} (hf : fX10_restore M  = some res) {H : Heap} {locs : List Loc} {ls : Array Slot} (hW : wH E M H) (hS : va_S (wA E) s.heap H locs) (hl : lv_has ls 1 [(0, .ref (wad E 70))]) : W p l e ({ frames := 2, cells := 0, slots := 0, locals := 44 } : Room) s m args below meth c H locs 0 0 (MQ below (wQ E (some (.int res.1)) res.2) args s 0 0 (wA E)) (F0 m 0 ls []) := by
  unfold fX10_restore at hf
  obtain ⟨hx, hb, hr, hml, hown, hts, hlocks, hG, hV, hZ⟩ := id B
  refine lv_aload_n hx hb dX10_restore_0 rfl (lv_at hl 0 rfl) ?_
  refine wm_get hx hb hts wu_X10 hown hV hW (wlt_9 (rfl : wkd 70 = 9)) (wen_9 (rfl : wkd 70 = 9)) (C := RX10) (T := TX10) (N := 31) rfl 17 (by decide) (hts _ wA_731) rfl dX10_restore_1 ?_
  rcases wif_e hf with ⟨hq1, hf⟩ | ⟨hq1, hf⟩
  · refine lv_if_ne (tgt := 14) hx hb dX10_restore_4 (by decide) (fun h => absurd hq1 h) (fun _ => ?_)
    refine lv_aload_n hx hb dX10_restore_7 rfl (lv_at hl 0 rfl) ?_
    refine lv_bipush (v := (-3)) hx hb dX10_restore_8 (by decide) ?_
    obtain ⟨r6, M7, hc5, hf⟩ := wbind_p hf
    refine wc_V (As := [.int (-3)]) (rest := []) hx hb hml hown hts hG hV hZ (wlt_9 (rfl : wkd 70 = 9)) (q := (RX10, TX10, 31)) (wen_9 (rfl : wkd 70 = 9)) rfl (cX10_no_ok l E M (-3) hc5) (cwV 1 hts gl_X10_83 rfl rfl rfl cdX10_no ⟨Nat.le_of_ble_eq_true rfl, Nat.le_of_ble_eq_true rfl⟩) rfl hl.1 rfl (Nat.le_of_ble_eq_true rfl) dX10_restore_10 ⟨Nat.zero_le _, Nat.zero_le _⟩ hW hS rfl (fun H locs hW hS => ?_)
    have hres := Option.some.inj hf
    subst hres
    exact W.iret hx hb hr (wr_q hG hV hZ hW hS) hS.2.2 dX10_restore_13
  · refine lv_if_ne (tgt := 14) hx hb dX10_restore_4 (by decide) (fun _ => ?_) (fun h => absurd h hq1)
    refine lv_aload_n hx hb dX10_restore_14 rfl (lv_at hl 0 rfl) ?_
    refine lv_iconst (v := 0) hx hb dX10_restore_15 rfl ?_
    refine lv_iconst (v := 0) hx hb dX10_restore_16 rfl ?_
    obtain ⟨M4, hc2, hf⟩ := wbind_e hf
    refine wc_V (As := [.int 0, .int 0]) (rest := []) hx hb hml hown hts hG hV hZ (wlt_9 (rfl : wkd 70 = 9)) (q := (RX10, TX10, 31)) (wen_9 (rfl : wkd 70 = 9)) rfl (cX10_passesAll_ok l E M 0 0 hc2) (cwV 2 hts gl_X10_119 rfl rfl rfl cdX10_passesAll ⟨Nat.le_of_ble_eq_true rfl, Nat.le_of_ble_eq_true rfl⟩) rfl hl.1 rfl (Nat.le_of_ble_eq_true rfl) dX10_restore_17 ⟨Nat.zero_le _, Nat.zero_le _⟩ hW hS rfl (fun H locs hW hS => ?_)
    refine lv_aload_n hx hb dX10_restore_20 rfl (lv_at hl 0 rfl) ?_
    refine wm_get hx hb hts wu_X10 hown hV hW (wlt_9 (rfl : wkd 70 = 9)) (wen_9 (rfl : wkd 70 = 9)) (C := RX10) (T := TX10) (N := 31) rfl 8 (by decide) (hts _ wA_722) rfl dX10_restore_21 ?_
    have hres := Option.some.inj hf
    subst hres
    exact W.iret hx hb hr (wr_q hG hV hZ hW hS) hS.2.2 dX10_restore_24
theorem cX10_restore_ok (l : Launch) (E : wE) (M : wMem)  {res : Int32 × wMem} (hf : fX10_restore M  = some res) : wMet l yX10_restore (wsM yX10_restore cX10_restore 1 (some .int)) ({ frames := 2, cells := 0, slots := 0, locals := 44 } : Room) E M [.ref (wad E 70)] (some (.int res.1)) res.2 :=
  wc_of (cc := cX10_restore) (maxL := 1) (ret := (some .int)) (by decide) (Nat.le_of_ble_eq_true rfl) (fun _ _ _ _ _ _ _ _ B hW hl => pX10_restore B  hf hW va_S.rf hl)
end
theorem cdX10_dragOf : yX10_dragOf.cls = RX10 ∧ yX10_dragOf.cls ≠ "java/lang/invoke/MethodHandle" ∧ yX10_dragOf.cls ≠ "java/lang/invoke/VarHandle" ∧ (parseMethodDescriptor yX10_dragOf.desc).map (fun d => d.parameters.length) = some 1 := by decide +kernel
section
variable {p : Program} {l : Launch} {e : Env} {s : State} {m : MethodId} {args : Array Value} {below : List Frame} {meth : Method} {c : Code} {E : wE}
set_option maxRecDepth 100000 in
set_option maxHeartbeats 4000000 in
theorem pX10_dragOf (B : wB E p s m args meth c cX10_dragOf 2 RX10 (some .int)) {M : wMem} {a1 : Int32}  {res : Int32} (hf : fX10_dragOf M a1 = some res) {H : Heap} {locs : List Loc} {ls : Array Slot} (hW : wH E M H) (hS : va_S (wA E) s.heap H locs) (hl : lv_has ls 2 [(0, .ref (wad E 70)), (1, .int a1)]) : W p l e ({ frames := 0, cells := 0, slots := 0, locals := 0 } : Room) s m args below meth c H locs 0 0 (MQ below (wQ E (some (.int res)) M) args s 0 0 (wA E)) (F0 m 0 ls []) := by
  unfold fX10_dragOf at hf
  obtain ⟨hx, hb, hr, hml, hown, hts, hlocks, hG, hV, hZ⟩ := id B
  refine lv_aload_n hx hb dX10_dragOf_0 rfl (lv_at hl 0 rfl) ?_
  refine wm_get hx hb hts wu_X10 hown hV hW (wlt_9 (rfl : wkd 70 = 9)) (wen_9 (rfl : wkd 70 = 9)) (C := RX10) (T := TX10) (N := 31) rfl 5 (by decide) (hts _ wA_719) rfl dX10_dragOf_1 ?_
  refine lv_iload_n hx hb dX10_dragOf_4 rfl (lv_at hl 1 rfl) ?_
  obtain ⟨hi1, hf⟩ := wgi_e hf
  refine wm_iald hx hb hV hW (rfl : wkd 76 = 21) (n := 12) rfl hi1 dX10_dragOf_5 ?_
  refine lv_iconst (v := 2) hx hb dX10_dragOf_6 rfl ?_
  rcases wif_e hf with ⟨hq2, hf⟩ | ⟨hq2, hf⟩
  · refine lv_icmp_ne (tgt := 12) hx hb dX10_dragOf_7 (by decide) (fun h => absurd hq2 h) (fun _ => ?_)
    refine lv_iconst (v := 0) hx hb dX10_dragOf_10 rfl ?_
    have hres := Option.some.inj hf
    subst hres
    exact W.iret hx hb hr (wr_q hG hV hZ hW hS) hS.2.2 dX10_dragOf_11
  · refine lv_icmp_ne (tgt := 12) hx hb dX10_dragOf_7 (by decide) (fun _ => ?_) (fun h => absurd h hq2)
    refine lv_aload_n hx hb dX10_dragOf_12 rfl (lv_at hl 0 rfl) ?_
    refine wm_get hx hb hts wu_X10 hown hV hW (wlt_9 (rfl : wkd 70 = 9)) (wen_9 (rfl : wkd 70 = 9)) (C := RX10) (T := TX10) (N := 31) rfl 1 (by decide) (hts _ wA_715) rfl dX10_dragOf_13 ?_
    refine lv_iload_n hx hb dX10_dragOf_16 rfl (lv_at hl 1 rfl) ?_
    obtain ⟨hi3, hf⟩ := wgi_e hf
    refine wm_iald hx hb hV hW (rfl : wkd 72 = 21) (n := 12) rfl hi3 dX10_dragOf_17 ?_
    refine lv_iconst (v := 3) hx hb dX10_dragOf_18 rfl ?_
    rcases wif_e hf with ⟨hq4, hf⟩ | ⟨hq4, hf⟩
    · refine lv_icmp_ne (tgt := 27) hx hb dX10_dragOf_19 (by decide) (fun h => absurd hq4 h) (fun _ => ?_)
      refine lv_bipush (v := 15) hx hb dX10_dragOf_22 (by decide) ?_
      refine lv_goto (tgt := 59) hx hb dX10_dragOf_24 (by decide) ?_
      have hres := Option.some.inj hf
      subst hres
      exact W.iret hx hb hr (wr_q hG hV hZ hW hS) hS.2.2 dX10_dragOf_59
    · refine lv_icmp_ne (tgt := 27) hx hb dX10_dragOf_19 (by decide) (fun _ => ?_) (fun h => absurd h hq4)
      refine lv_aload_n hx hb dX10_dragOf_27 rfl (lv_at hl 0 rfl) ?_
      refine wm_get hx hb hts wu_X10 hown hV hW (wlt_9 (rfl : wkd 70 = 9)) (wen_9 (rfl : wkd 70 = 9)) (C := RX10) (T := TX10) (N := 31) rfl 1 (by decide) (hts _ wA_715) rfl dX10_dragOf_28 ?_
      refine lv_iload_n hx hb dX10_dragOf_31 rfl (lv_at hl 1 rfl) ?_
      obtain ⟨hi5, hf⟩ := wgi_e hf
      refine wm_iald hx hb hV hW (rfl : wkd 72 = 21) (n := 12) rfl hi5 dX10_dragOf_32 ?_
      refine lv_iconst (v := 4) hx hb dX10_dragOf_33 rfl ?_
      rcases wif_e hf with ⟨hq6, hf⟩ | ⟨hq6, hf⟩
      · refine lv_icmp_ne (tgt := 42) hx hb dX10_dragOf_34 (by decide) (fun h => absurd hq6 h) (fun _ => ?_)
        refine lv_bipush (v := 6) hx hb dX10_dragOf_37 (by decide) ?_
        refine lv_goto (tgt := 59) hx hb dX10_dragOf_39 (by decide) ?_
        have hres := Option.some.inj hf
        subst hres
        exact W.iret hx hb hr (wr_q hG hV hZ hW hS) hS.2.2 dX10_dragOf_59
      · refine lv_icmp_ne (tgt := 42) hx hb dX10_dragOf_34 (by decide) (fun _ => ?_) (fun h => absurd h hq6)
        refine lv_aload_n hx hb dX10_dragOf_42 rfl (lv_at hl 0 rfl) ?_
        refine wm_get hx hb hts wu_X10 hown hV hW (wlt_9 (rfl : wkd 70 = 9)) (wen_9 (rfl : wkd 70 = 9)) (C := RX10) (T := TX10) (N := 31) rfl 1 (by decide) (hts _ wA_715) rfl dX10_dragOf_43 ?_
        refine lv_iload_n hx hb dX10_dragOf_46 rfl (lv_at hl 1 rfl) ?_
        obtain ⟨hi7, hf⟩ := wgi_e hf
        refine wm_iald hx hb hV hW (rfl : wkd 72 = 21) (n := 12) rfl hi7 dX10_dragOf_47 ?_
        refine lv_iconst (v := 5) hx hb dX10_dragOf_48 rfl ?_
        rcases wif_e hf with ⟨hq8, hf⟩ | ⟨hq8, hf⟩
        · refine lv_icmp_ne (tgt := 57) hx hb dX10_dragOf_49 (by decide) (fun h => absurd hq8 h) (fun _ => ?_)
          refine lv_bipush (v := 20) hx hb dX10_dragOf_52 (by decide) ?_
          refine lv_goto (tgt := 59) hx hb dX10_dragOf_54 (by decide) ?_
          have hres := Option.some.inj hf
          subst hres
          exact W.iret hx hb hr (wr_q hG hV hZ hW hS) hS.2.2 dX10_dragOf_59
        · refine lv_icmp_ne (tgt := 57) hx hb dX10_dragOf_49 (by decide) (fun _ => ?_) (fun h => absurd h hq8)
          refine lv_bipush (v := 10) hx hb dX10_dragOf_57 (by decide) ?_
          have hres := Option.some.inj hf
          subst hres
          exact W.iret hx hb hr (wr_q hG hV hZ hW hS) hS.2.2 dX10_dragOf_59
theorem cX10_dragOf_ok (l : Launch) (E : wE) (M : wMem) (a1 : Int32) {res : Int32} (hf : fX10_dragOf M a1 = some res) : wMet l yX10_dragOf (wsM yX10_dragOf cX10_dragOf 2 (some .int)) ({ frames := 0, cells := 0, slots := 0, locals := 0 } : Room) E M [.ref (wad E 70), .int a1] (some (.int res)) M :=
  wc_of (cc := cX10_dragOf) (maxL := 2) (ret := (some .int)) (by decide) (Nat.le_of_ble_eq_true rfl) (fun _ _ _ _ _ _ _ _ B hW hl => pX10_dragOf B  hf hW va_S.rf hl)
end
theorem cdX10_isWhole : yX10_isWhole.cls = RX10 ∧ yX10_isWhole.cls ≠ "java/lang/invoke/MethodHandle" ∧ yX10_isWhole.cls ≠ "java/lang/invoke/VarHandle" ∧ (parseMethodDescriptor yX10_isWhole.desc).map (fun d => d.parameters.length) = some 2 := by decide +kernel
section
variable {p : Program} {l : Launch} {e : Env} {s : State} {m : MethodId} {args : Array Value} {below : List Frame} {meth : Method} {c : Code} {E : wE}
set_option maxRecDepth 100000 in
set_option maxHeartbeats 4000000 in
theorem pX10_isWhole_2_b (B : wB E p s m args meth c cX10_isWhole 4 RX10 (some .boolean)) {M : wMem} {y2 : Int32} {y3 : Int32}  {rec2 : (Int32 → Option (Bool))} {res : Bool}   (hrec2 : ∀ (y3' : Int32), rec2 (y3') = some res → ∀ (H : Heap) (locs : List Loc) (ls : Array Slot), wH E M H → va_S (wA E) s.heap H locs → lv_has ls 4 [(0, .ref (wad E 70)), (2, .int y2), (3, .int y3')] → W p l e ({ frames := 0, cells := 0, slots := 0, locals := 0 } : Room) s m args below meth c H locs 0 0 (MQ below (wQ E (some (.int (wb res))) M) args s 0 0 (wA E)) (F0 m 2 ls [])) (hf : fX10_isWhole_2_b M  rec2 y2 y3 = some res) {H : Heap} {locs : List Loc} {ls : Array Slot} (hW : wH E M H) (hS : va_S (wA E) s.heap H locs) (hl : lv_has ls 4 [(0, .ref (wad E 70)), (2, .int y2), (3, .int y3)]) : W p l e ({ frames := 0, cells := 0, slots := 0, locals := 0 } : Room) s m args below meth c H locs 0 0 (MQ below (wQ E (some (.int (wb res))) M) args s 0 0 (wA E)) (F0 m 2 ls []) := by
  unfold fX10_isWhole_2_b at hf
  obtain ⟨hx, hb, hr, hml, hown, hts, hlocks, hG, hV, hZ⟩ := id B
  refine lv_iload_n hx hb dX10_isWhole_2 rfl (lv_at hl 2 rfl) ?_
  refine lv_iload_n hx hb dX10_isWhole_3 rfl (lv_at hl 1 rfl) ?_
  rcases wif_e hf with ⟨hq1, hf⟩ | ⟨hq1, hf⟩
  · refine lv_icmp_gt (tgt := 35) hx hb dX10_isWhole_4 (by decide) (fun _ => ?_) (fun h => absurd hq1 h)
    refine lv_iconst (v := 1) hx hb dX10_isWhole_35 rfl ?_
    have hres := Option.some.inj hf
    subst hres
    exact W.zret hx hb hr (wb_n true) (wr_q hG hV hZ hW hS) hS.2.2 dX10_isWhole_36
  · refine lv_icmp_gt (tgt := 35) hx hb dX10_isWhole_4 (by decide) (fun h => absurd h hq1) (fun _ => ?_)
    refine lv_aload_n hx hb dX10_isWhole_7 rfl (lv_at hl 0 rfl) ?_
    refine wm_get hx hb hts wu_X10 hown hV hW (wlt_9 (rfl : wkd 70 = 9)) (wen_9 (rfl : wkd 70 = 9)) (C := RX10) (T := TX10) (N := 31) rfl 5 (by decide) (hts _ wA_719) rfl dX10_isWhole_8 ?_
    refine lv_iload_n hx hb dX10_isWhole_11 rfl (lv_at hl 2 rfl) ?_
    obtain ⟨hi2, hf⟩ := wgi_e hf
    refine wm_iald hx hb hV hW (rfl : wkd 76 = 21) (n := 12) rfl hi2 dX10_isWhole_12 ?_
    refine lv_iconst (v := 1) hx hb dX10_isWhole_13 rfl ?_
    rcases wif_e hf with ⟨hq3, hf⟩ | ⟨hq3, hf⟩
    · refine lv_icmp_eq (tgt := 27) hx hb dX10_isWhole_14 (by decide) (fun _ => ?_) (fun h => absurd hq3 h)
      refine lv_iconst (v := 0) hx hb dX10_isWhole_27 rfl ?_
      have hres := Option.some.inj hf
      subst hres
      exact W.zret hx hb hr (wb_n false) (wr_q hG hV hZ hW hS) hS.2.2 dX10_isWhole_28
    · refine lv_icmp_eq (tgt := 27) hx hb dX10_isWhole_14 (by decide) (fun h => absurd h hq3) (fun _ => ?_)
      refine lv_aload_n hx hb dX10_isWhole_17 rfl (lv_at hl 0 rfl) ?_
      refine wm_get hx hb hts wu_X10 hown hV hW (wlt_9 (rfl : wkd 70 = 9)) (wen_9 (rfl : wkd 70 = 9)) (C := RX10) (T := TX10) (N := 31) rfl 5 (by decide) (hts _ wA_719) rfl dX10_isWhole_18 ?_
      refine lv_iload_n hx hb dX10_isWhole_21 rfl (lv_at hl 2 rfl) ?_
      obtain ⟨hi4, hf⟩ := wgi_e hf
      refine wm_iald hx hb hV hW (rfl : wkd 76 = 21) (n := 12) rfl hi4 dX10_isWhole_22 ?_
      refine lv_iconst (v := 3) hx hb dX10_isWhole_23 rfl ?_
      rcases wif_e hf with ⟨hq5, hf⟩ | ⟨hq5, hf⟩
      · refine lv_icmp_ne (tgt := 29) hx hb dX10_isWhole_24 (by decide) (fun h => absurd hq5 h) (fun _ => ?_)
        refine lv_iconst (v := 0) hx hb dX10_isWhole_27 rfl ?_
        have hres := Option.some.inj hf
        subst hres
        exact W.zret hx hb hr (wb_n false) (wr_q hG hV hZ hW hS) hS.2.2 dX10_isWhole_28
      · refine lv_icmp_ne (tgt := 29) hx hb dX10_isWhole_24 (by decide) (fun _ => ?_) (fun h => absurd h hq5)
        obtain ⟨x6, ex6, hf⟩ := wlet_e hf
        refine lv_iinc (v := x6) (lv' := [(3, .int x6), (0, .ref (wad E 70)), (2, .int y2)]) hx hb dX10_isWhole_29 hl (k := 2) rfl (by rw [ex6]; rfl) (by decide) rfl (fun ls hl => ?_)
        refine lv_goto (tgt := 2) hx hb dX10_isWhole_32 (by decide) ?_
        exact hrec2 x6 hf _ _ _ hW hS (lv_sub hl [1, 2, 0] rfl)
set_option maxRecDepth 100000 in
set_option maxHeartbeats 4000000 in
theorem pX10_isWhole_2 (B : wB E p s m args meth c cX10_isWhole 4 RX10 (some .boolean)) {M : wMem} {y2 : Int32} {y3 : Int32}  {res : Bool}   (hf : fX10_isWhole_2 M  y2 y3 = some res) {H : Heap} {locs : List Loc} {ls : Array Slot} (hW : wH E M H) (hS : va_S (wA E) s.heap H locs) (hl : lv_has ls 4 [(0, .ref (wad E 70)), (2, .int y2), (3, .int y3)]) : W p l e ({ frames := 0, cells := 0, slots := 0, locals := 0 } : Room) s m args below meth c H locs 0 0 (MQ below (wQ E (some (.int (wb res))) M) args s 0 0 (wA E)) (F0 m 2 ls []) := by
  have key := wloop_W (b := (fun rec2 t => fX10_isWhole_2_b M  rec2 y2 t)) (P := fun t => ∀ (H : Heap) (locs : List Loc) (ls : Array Slot), wH E M H → va_S (wA E) s.heap H locs → lv_has ls 4 [(0, .ref (wad E 70)), (2, .int y2), (3, .int t)] → W p l e ({ frames := 0, cells := 0, slots := 0, locals := 0 } : Room) s m args below meth c H locs 0 0 (MQ below (wQ E (some (.int (wb res))) M) args s 0 0 (wA E)) (F0 m 2 ls [])) (r := res) (fun rec hrec t hf H locs ls hW hS hl => pX10_isWhole_2_b B   (fun v0 hf H locs ls hW hS hl => hrec (v0) hf H locs ls hW hS hl) hf hW hS hl)
  exact key wfuel (y3) hf H locs ls hW hS hl
set_option maxRecDepth 100000 in
set_option maxHeartbeats 4000000 in
theorem pX10_isWhole (B : wB E p s m args meth c cX10_isWhole 4 RX10 (some .boolean)) {M : wMem} {a1 : Int32} {a2 : Int32}  {res : Bool} (hf : fX10_isWhole M a1 a2 = some res) {H : Heap} {locs : List Loc} {ls : Array Slot} (hW : wH E M H) (hS : va_S (wA E) s.heap H locs) (hl : lv_has ls 4 [(0, .ref (wad E 70)), (1, .int a1), (2, .int a2)]) : W p l e ({ frames := 0, cells := 0, slots := 0, locals := 0 } : Room) s m args below meth c H locs 0 0 (MQ below (wQ E (some (.int (wb res))) M) args s 0 0 (wA E)) (F0 m 0 ls []) := by
  unfold fX10_isWhole at hf
  obtain ⟨hx, hb, hr, hml, hown, hts, hlocks, hG, hV, hZ⟩ := id B
  refine lv_iload_n hx hb dX10_isWhole_0 rfl (lv_at hl 1 rfl) ?_
  refine lv_istore_n (lv' := [(3, .int a1), (0, .ref (wad E 70)), (1, .int a1), (2, .int a2)]) hx hb dX10_isWhole_1 rfl hl (by decide) rfl (fun ls hl => ?_)
  exact pX10_isWhole_2 B   hf hW hS (lv_sub hl [1, 3, 0] rfl)
theorem cX10_isWhole_ok (l : Launch) (E : wE) (M : wMem) (a1 : Int32) (a2 : Int32) {res : Bool} (hf : fX10_isWhole M a1 a2 = some res) : wMet l yX10_isWhole (wsM yX10_isWhole cX10_isWhole 4 (some .boolean)) ({ frames := 0, cells := 0, slots := 0, locals := 0 } : Room) E M [.ref (wad E 70), .int a1, .int a2] (some (.int (wb res))) M :=
  wc_of (cc := cX10_isWhole) (maxL := 4) (ret := (some .boolean)) (by decide) (Nat.le_of_ble_eq_true rfl) (fun _ _ _ _ _ _ _ _ B hW hl => pX10_isWhole B  hf hW va_S.rf hl)
end
theorem cdX10_drags : yX10_drags.cls = RX10 ∧ yX10_drags.cls ≠ "java/lang/invoke/MethodHandle" ∧ yX10_drags.cls ≠ "java/lang/invoke/VarHandle" ∧ (parseMethodDescriptor yX10_drags.desc).map (fun d => d.parameters.length) = some 0 := by decide +kernel
section
variable {p : Program} {l : Launch} {e : Env} {s : State} {m : MethodId} {args : Array Value} {below : List Frame} {meth : Method} {c : Code} {E : wE}
set_option maxRecDepth 100000 in
set_option maxHeartbeats 4000000 in
theorem pX10_drags_4_b (B : wB E p s m args meth c cX10_drags 3 RX10 (some .int)) {M : wMem} {y1 : Int32} {y2 : Int32}  {rec4 : (Int32 × Int32 → Option (Int32))} {res : Int32}   (hrec4 : ∀ (y1' : Int32) (y2' : Int32), rec4 (y1', y2') = some res → ∀ (H : Heap) (locs : List Loc) (ls : Array Slot), wH E M H → va_S (wA E) s.heap H locs → lv_has ls 3 [(0, .ref (wad E 70)), (1, .int y1'), (2, .int y2')] → W p l e ({ frames := 1, cells := 0, slots := 0, locals := 21 } : Room) s m args below meth c H locs 0 0 (MQ below (wQ E (some (.int res)) M) args s 0 0 (wA E)) (F0 m 4 ls [])) (hf : fX10_drags_4_b M  rec4 y1 y2 = some res) {H : Heap} {locs : List Loc} {ls : Array Slot} (hW : wH E M H) (hS : va_S (wA E) s.heap H locs) (hl : lv_has ls 3 [(0, .ref (wad E 70)), (1, .int y1), (2, .int y2)]) : W p l e ({ frames := 1, cells := 0, slots := 0, locals := 21 } : Room) s m args below meth c H locs 0 0 (MQ below (wQ E (some (.int res)) M) args s 0 0 (wA E)) (F0 m 4 ls []) := by
  unfold fX10_drags_4_b at hf
  obtain ⟨hx, hb, hr, hml, hown, hts, hlocks, hG, hV, hZ⟩ := id B
  refine lv_iload_n hx hb dX10_drags_4 rfl (lv_at hl 2 rfl) ?_
  refine lv_aload_n hx hb dX10_drags_5 rfl (lv_at hl 0 rfl) ?_
  refine wm_get hx hb hts wu_X10 hown hV hW (wlt_9 (rfl : wkd 70 = 9)) (wen_9 (rfl : wkd 70 = 9)) (C := RX10) (T := TX10) (N := 31) rfl 7 (by decide) (hts _ wA_721) rfl dX10_drags_6 ?_
  rcases wif_e hf with ⟨hq1, hf⟩ | ⟨hq1, hf⟩
  · refine lv_icmp_ge (tgt := 26) hx hb dX10_drags_9 (by decide) (fun _ => ?_) (fun h => absurd hq1 h)
    refine lv_iload_n hx hb dX10_drags_26 rfl (lv_at hl 1 rfl) ?_
    have hres := Option.some.inj hf
    subst hres
    exact W.iret hx hb hr (wr_q hG hV hZ hW hS) hS.2.2 dX10_drags_27
  · refine lv_icmp_ge (tgt := 26) hx hb dX10_drags_9 (by decide) (fun h => absurd h hq1) (fun _ => ?_)
    refine lv_iload_n hx hb dX10_drags_12 rfl (lv_at hl 1 rfl) ?_
    refine lv_aload_n hx hb dX10_drags_13 rfl (lv_at hl 0 rfl) ?_
    refine lv_iload_n hx hb dX10_drags_14 rfl (lv_at hl 2 rfl) ?_
    obtain ⟨r3, hc2, hf⟩ := wbind_e hf
    refine wc_V (As := [.int y2]) (rest := [.int y1]) hx hb hml hown hts hG hV hZ (wlt_9 (rfl : wkd 70 = 9)) (q := (RX10, TX10, 31)) (wen_9 (rfl : wkd 70 = 9)) rfl (cX10_dragOf_ok l E M y2 hc2) (cwV 1 hts gl_X10_146 rfl rfl rfl cdX10_dragOf ⟨Nat.le_of_ble_eq_true rfl, Nat.le_of_ble_eq_true rfl⟩) rfl hl.1 rfl (Nat.le_of_ble_eq_true rfl) dX10_drags_15 ⟨Nat.zero_le _, Nat.zero_le _⟩ hW hS rfl (fun H locs hW hS => ?_)
    refine lv_iadd hx hb dX10_drags_18 ?_
    refine lv_topi (fun x4 ex4 => ?_)
    replace hf := wlet_y ex4 hf
    refine lv_istore_n (lv' := [(1, .int x4), (0, .ref (wad E 70)), (2, .int y2)]) hx hb dX10_drags_19 rfl hl (by decide) rfl (fun ls hl => ?_)
    obtain ⟨x5, ex5, hf⟩ := wlet_e hf
    refine lv_iinc (v := x5) (lv' := [(2, .int x5), (1, .int x4), (0, .ref (wad E 70))]) hx hb dX10_drags_20 hl (k := 2) rfl (by rw [ex5]; rfl) (by decide) rfl (fun ls hl => ?_)
    refine lv_goto (tgt := 4) hx hb dX10_drags_23 (by decide) ?_
    exact hrec4 x4 x5 hf _ _ _ hW hS (lv_sub hl [2, 1, 0] rfl)
set_option maxRecDepth 100000 in
set_option maxHeartbeats 4000000 in
theorem pX10_drags_4 (B : wB E p s m args meth c cX10_drags 3 RX10 (some .int)) {M : wMem} {y1 : Int32} {y2 : Int32}  {res : Int32}   (hf : fX10_drags_4 M  y1 y2 = some res) {H : Heap} {locs : List Loc} {ls : Array Slot} (hW : wH E M H) (hS : va_S (wA E) s.heap H locs) (hl : lv_has ls 3 [(0, .ref (wad E 70)), (1, .int y1), (2, .int y2)]) : W p l e ({ frames := 1, cells := 0, slots := 0, locals := 21 } : Room) s m args below meth c H locs 0 0 (MQ below (wQ E (some (.int res)) M) args s 0 0 (wA E)) (F0 m 4 ls []) := by
  have key := wloop_W (b := (fun rec4 t => fX10_drags_4_b M  rec4 t.1 t.2)) (P := fun t => ∀ (H : Heap) (locs : List Loc) (ls : Array Slot), wH E M H → va_S (wA E) s.heap H locs → lv_has ls 3 [(0, .ref (wad E 70)), (1, .int t.1), (2, .int t.2)] → W p l e ({ frames := 1, cells := 0, slots := 0, locals := 21 } : Room) s m args below meth c H locs 0 0 (MQ below (wQ E (some (.int res)) M) args s 0 0 (wA E)) (F0 m 4 ls [])) (r := res) (fun rec hrec t hf H locs ls hW hS hl => pX10_drags_4_b B   (fun v0 v1 hf H locs ls hW hS hl => hrec (v0, v1) hf H locs ls hW hS hl) hf hW hS hl)
  exact key wfuel (y1, y2) hf H locs ls hW hS hl
set_option maxRecDepth 100000 in
set_option maxHeartbeats 4000000 in
theorem pX10_drags (B : wB E p s m args meth c cX10_drags 3 RX10 (some .int)) {M : wMem}   {res : Int32} (hf : fX10_drags M  = some res) {H : Heap} {locs : List Loc} {ls : Array Slot} (hW : wH E M H) (hS : va_S (wA E) s.heap H locs) (hl : lv_has ls 3 [(0, .ref (wad E 70))]) : W p l e ({ frames := 1, cells := 0, slots := 0, locals := 21 } : Room) s m args below meth c H locs 0 0 (MQ below (wQ E (some (.int res)) M) args s 0 0 (wA E)) (F0 m 0 ls []) := by
  unfold fX10_drags at hf
  obtain ⟨hx, hb, hr, hml, hown, hts, hlocks, hG, hV, hZ⟩ := id B
  refine lv_iconst (v := 0) hx hb dX10_drags_0 rfl ?_
  refine lv_istore_n (lv' := [(1, .int 0), (0, .ref (wad E 70))]) hx hb dX10_drags_1 rfl hl (by decide) rfl (fun ls hl => ?_)
  refine lv_iconst (v := 0) hx hb dX10_drags_2 rfl ?_
  refine lv_istore_n (lv' := [(2, .int 0), (1, .int 0), (0, .ref (wad E 70))]) hx hb dX10_drags_3 rfl hl (by decide) rfl (fun ls hl => ?_)
  exact pX10_drags_4 B   hf hW hS (lv_sub hl [2, 1, 0] rfl)
theorem cX10_drags_ok (l : Launch) (E : wE) (M : wMem)  {res : Int32} (hf : fX10_drags M  = some res) : wMet l yX10_drags (wsM yX10_drags cX10_drags 3 (some .int)) ({ frames := 1, cells := 0, slots := 0, locals := 21 } : Room) E M [.ref (wad E 70)] (some (.int res)) M :=
  wc_of (cc := cX10_drags) (maxL := 3) (ret := (some .int)) (by decide) (Nat.le_of_ble_eq_true rfl) (fun _ _ _ _ _ _ _ _ B hW hl => pX10_drags B  hf hW va_S.rf hl)
end
theorem cdX10_isLive : yX10_isLive.cls = RX10 ∧ yX10_isLive.cls ≠ "java/lang/invoke/MethodHandle" ∧ yX10_isLive.cls ≠ "java/lang/invoke/VarHandle" ∧ (parseMethodDescriptor yX10_isLive.desc).map (fun d => d.parameters.length) = some 0 := by decide +kernel
section
variable {p : Program} {l : Launch} {e : Env} {s : State} {m : MethodId} {args : Array Value} {below : List Frame} {meth : Method} {c : Code} {E : wE}
set_option maxRecDepth 100000 in
set_option maxHeartbeats 4000000 in
theorem pX10_isLive (B : wB E p s m args meth c cX10_isLive 1 RX10 (some .boolean)) {M : wMem}   {res : Bool} (hf : fX10_isLive M  = some res) {H : Heap} {locs : List Loc} {ls : Array Slot} (hW : wH E M H) (hS : va_S (wA E) s.heap H locs) (hl : lv_has ls 1 [(0, .ref (wad E 70))]) : W p l e ({ frames := 2, cells := 0, slots := 0, locals := 43 } : Room) s m args below meth c H locs 0 0 (MQ below (wQ E (some (.int (wb res))) M) args s 0 0 (wA E)) (F0 m 0 ls []) := by
  unfold fX10_isLive at hf
  obtain ⟨hx, hb, hr, hml, hown, hts, hlocks, hG, hV, hZ⟩ := id B
  refine lv_aload_n hx hb dX10_isLive_0 rfl (lv_at hl 0 rfl) ?_
  refine wm_get hx hb hts wu_X10 hown hV hW (wlt_9 (rfl : wkd 70 = 9)) (wen_9 (rfl : wkd 70 = 9)) (C := RX10) (T := TX10) (N := 31) rfl 7 (by decide) (hts _ wA_721) rfl dX10_isLive_1 ?_
  rcases wif_e hf with ⟨hq1, hf⟩ | ⟨hq1, hf⟩
  · refine lv_if_le (tgt := 32) hx hb dX10_isLive_4 (by decide) (fun _ => ?_) (fun h => absurd hq1 h)
    refine lv_iconst (v := 0) hx hb dX10_isLive_32 rfl ?_
    have hres := Option.some.inj hf
    subst hres
    exact W.zret hx hb hr (wb_n false) (wr_q hG hV hZ hW hS) hS.2.2 dX10_isLive_33
  · refine lv_if_le (tgt := 32) hx hb dX10_isLive_4 (by decide) (fun h => absurd h hq1) (fun _ => ?_)
    refine lv_aload_n hx hb dX10_isLive_7 rfl (lv_at hl 0 rfl) ?_
    refine lv_iconst (v := 0) hx hb dX10_isLive_8 rfl ?_
    refine lv_aload_n hx hb dX10_isLive_9 rfl (lv_at hl 0 rfl) ?_
    refine wm_get hx hb hts wu_X10 hown hV hW (wlt_9 (rfl : wkd 70 = 9)) (wen_9 (rfl : wkd 70 = 9)) (C := RX10) (T := TX10) (N := 31) rfl 7 (by decide) (hts _ wA_721) rfl dX10_isLive_10 ?_
    refine lv_iconst (v := 1) hx hb dX10_isLive_13 rfl ?_
    refine lv_isub hx hb dX10_isLive_14 ?_
    obtain ⟨r3, hc2, hf⟩ := wbind_e hf
    refine wc_V (As := [.int 0, .int ((M 70 7) - 1)]) (rest := []) hx hb hml hown hts hG hV hZ (wlt_9 (rfl : wkd 70 = 9)) (q := (RX10, TX10, 31)) (wen_9 (rfl : wkd 70 = 9)) rfl (cX10_isWhole_ok l E M 0 ((M 70 7) - 1) hc2) (cwV 2 hts gl_X10_149 rfl rfl rfl cdX10_isWhole ⟨Nat.le_of_ble_eq_true rfl, Nat.le_of_ble_eq_true rfl⟩) rfl hl.1 rfl (Nat.le_of_ble_eq_true rfl) dX10_isLive_15 ⟨Nat.zero_le _, Nat.zero_le _⟩ hW hS rfl (fun H locs hW hS => ?_)
    rcases wif_e hf with ⟨hq4, hf⟩ | ⟨hq4, hf⟩
    · refine lv_if_eq (tgt := 32) hx hb dX10_isLive_18 (by decide) (fun _ => ?_) (fun h => absurd hq4 h)
      refine lv_iconst (v := 0) hx hb dX10_isLive_32 rfl ?_
      have hres := Option.some.inj hf
      subst hres
      exact W.zret hx hb hr (wb_n false) (wr_q hG hV hZ hW hS) hS.2.2 dX10_isLive_33
    · refine lv_if_eq (tgt := 32) hx hb dX10_isLive_18 (by decide) (fun h => absurd h hq4) (fun _ => ?_)
      refine lv_aload_n hx hb dX10_isLive_21 rfl (lv_at hl 0 rfl) ?_
      obtain ⟨r6, hc5, hf⟩ := wbind_e hf
      refine wc_V (As := []) (rest := []) hx hb hml hown hts hG hV hZ (wlt_9 (rfl : wkd 70 = 9)) (q := (RX10, TX10, 31)) (wen_9 (rfl : wkd 70 = 9)) rfl (cX10_drags_ok l E M  hc5) (cwV 0 hts gl_X10_152 rfl rfl rfl cdX10_drags ⟨Nat.le_of_ble_eq_true rfl, Nat.le_of_ble_eq_true rfl⟩) rfl hl.1 rfl (Nat.le_of_ble_eq_true rfl) dX10_isLive_22 ⟨Nat.zero_le _, Nat.zero_le _⟩ hW hS rfl (fun H locs hW hS => ?_)
      rcases wif_e hf with ⟨hq7, hf⟩ | ⟨hq7, hf⟩
      · refine lv_if_le (tgt := 32) hx hb dX10_isLive_25 (by decide) (fun _ => ?_) (fun h => absurd hq7 h)
        refine lv_iconst (v := 0) hx hb dX10_isLive_32 rfl ?_
        have hres := Option.some.inj hf
        subst hres
        exact W.zret hx hb hr (wb_n false) (wr_q hG hV hZ hW hS) hS.2.2 dX10_isLive_33
      · refine lv_if_le (tgt := 32) hx hb dX10_isLive_25 (by decide) (fun h => absurd h hq7) (fun _ => ?_)
        refine lv_iconst (v := 1) hx hb dX10_isLive_28 rfl ?_
        refine lv_goto (tgt := 33) hx hb dX10_isLive_29 (by decide) ?_
        have hres := Option.some.inj hf
        subst hres
        exact W.zret hx hb hr (wb_n true) (wr_q hG hV hZ hW hS) hS.2.2 dX10_isLive_33
theorem cX10_isLive_ok (l : Launch) (E : wE) (M : wMem)  {res : Bool} (hf : fX10_isLive M  = some res) : wMet l yX10_isLive (wsM yX10_isLive cX10_isLive 1 (some .boolean)) ({ frames := 2, cells := 0, slots := 0, locals := 43 } : Room) E M [.ref (wad E 70)] (some (.int (wb res))) M :=
  wc_of (cc := cX10_isLive) (maxL := 1) (ret := (some .boolean)) (by decide) (Nat.le_of_ble_eq_true rfl) (fun _ _ _ _ _ _ _ _ B hW hl => pX10_isLive B  hf hW va_S.rf hl)
end
theorem cdX10_flowNow : yX10_flowNow.cls = RX10 ∧ yX10_flowNow.cls ≠ "java/lang/invoke/MethodHandle" ∧ yX10_flowNow.cls ≠ "java/lang/invoke/VarHandle" ∧ (parseMethodDescriptor yX10_flowNow.desc).map (fun d => d.parameters.length) = some 0 := by decide +kernel
section
variable {p : Program} {l : Launch} {e : Env} {s : State} {m : MethodId} {args : Array Value} {below : List Frame} {meth : Method} {c : Code} {E : wE}
set_option maxRecDepth 100000 in
set_option maxHeartbeats 4000000 in
theorem pX10_flowNow (B : wB E p s m args meth c cX10_flowNow 1 RX10 (some .int)) {M : wMem}   {res : Int32} (hf : fX10_flowNow M  = some res) {H : Heap} {locs : List Loc} {ls : Array Slot} (hW : wH E M H) (hS : va_S (wA E) s.heap H locs) (hl : lv_has ls 1 [(0, .ref (wad E 70))]) : W p l e ({ frames := 3, cells := 0, slots := 0, locals := 63 } : Room) s m args below meth c H locs 0 0 (MQ below (wQ E (some (.int res)) M) args s 0 0 (wA E)) (F0 m 0 ls []) := by
  unfold fX10_flowNow at hf
  obtain ⟨hx, hb, hr, hml, hown, hts, hlocks, hG, hV, hZ⟩ := id B
  refine lv_aload_n hx hb dX10_flowNow_0 rfl (lv_at hl 0 rfl) ?_
  obtain ⟨r2, hc1, hf⟩ := wbind_e hf
  refine wc_V (As := []) (rest := []) hx hb hml hown hts hG hV hZ (wlt_9 (rfl : wkd 70 = 9)) (q := (RX10, TX10, 31)) (wen_9 (rfl : wkd 70 = 9)) rfl (cX10_isLive_ok l E M  hc1) (cwV 0 hts gl_X10_155 rfl rfl rfl cdX10_isLive ⟨Nat.le_of_ble_eq_true rfl, Nat.le_of_ble_eq_true rfl⟩) rfl hl.1 rfl (Nat.le_of_ble_eq_true rfl) dX10_flowNow_1 ⟨Nat.zero_le _, Nat.zero_le _⟩ hW hS rfl (fun H locs hW hS => ?_)
  rcases wif_e hf with ⟨hq3, hf⟩ | ⟨hq3, hf⟩
  · refine lv_if_eq (tgt := 30) hx hb dX10_flowNow_4 (by decide) (fun _ => ?_) (fun h => absurd hq3 h)
    refine lv_iconst (v := 0) hx hb dX10_flowNow_30 rfl ?_
    have hres := Option.some.inj hf
    subst hres
    exact W.iret hx hb hr (wr_q hG hV hZ hW hS) hS.2.2 dX10_flowNow_31
  · refine lv_if_eq (tgt := 30) hx hb dX10_flowNow_4 (by decide) (fun h => absurd h hq3) (fun _ => ?_)
    refine lv_sipush (v := 9999) hx hb dX10_flowNow_7 (by decide) ?_
    refine lv_bipush (v := 100) hx hb dX10_flowNow_10 (by decide) ?_
    refine lv_aload_n hx hb dX10_flowNow_12 rfl (lv_at hl 0 rfl) ?_
    refine wm_get hx hb hts wu_X10 hown hV hW (wlt_9 (rfl : wkd 70 = 9)) (wen_9 (rfl : wkd 70 = 9)) (C := RX10) (T := TX10) (N := 31) rfl 6 (by decide) (hts _ wA_720) rfl dX10_flowNow_13 ?_
    refine lv_iconst (v := 0) hx hb dX10_flowNow_16 rfl ?_
    obtain ⟨hi4, hf⟩ := wgi_e hf
    refine wm_iald hx hb hV hW (rfl : wkd 77 = 21) (n := 4) rfl hi4 dX10_flowNow_17 ?_
    refine lv_imul hx hb dX10_flowNow_18 ?_
    refine lv_aload_n hx hb dX10_flowNow_19 rfl (lv_at hl 0 rfl) ?_
    obtain ⟨r6, hc5, hf⟩ := wbind_e hf
    refine wc_V (As := []) (rest := [.int (100 * (M 77 (Int32.toNatClampNeg 0))), .int 9999]) hx hb hml hown hts hG hV hZ (wlt_9 (rfl : wkd 70 = 9)) (q := (RX10, TX10, 31)) (wen_9 (rfl : wkd 70 = 9)) rfl (cX10_drags_ok l E M  hc5) (cwV 0 hts gl_X10_152 rfl rfl rfl cdX10_drags ⟨Nat.le_of_ble_eq_true rfl, Nat.le_of_ble_eq_true rfl⟩) rfl hl.1 rfl (Nat.le_of_ble_eq_true rfl) dX10_flowNow_20 ⟨Nat.zero_le _, Nat.zero_le _⟩ hW hS rfl (fun H locs hW hS => ?_)
    obtain ⟨hz7, hf⟩ := wgz_e hf
    refine lv_idiv hx hb dX10_flowNow_23 hz7 ?_
    obtain ⟨r9, hc8, hf⟩ := wbind_e hf
    refine wc_S (As := [.int 9999, .int ((100 * (M 77 (Int32.toNatClampNeg 0))) / r6)]) (rest := []) hx hb hml hown hts hG hV hZ (cX10_least_ok l E M 9999 ((100 * (M 77 (Int32.toNatClampNeg 0))) / r6) hc8) (va_cwS 2 hts gl_X10_158 rfl rfl rfl cdX10_least ⟨Nat.le_of_ble_eq_true rfl, Nat.le_of_ble_eq_true rfl⟩) rfl hl.1 rfl (Nat.le_of_ble_eq_true rfl) dX10_flowNow_24 ⟨Nat.zero_le _, Nat.zero_le _⟩ hW hS rfl (fun H locs hW hS => ?_)
    refine lv_goto (tgt := 31) hx hb dX10_flowNow_27 (by decide) ?_
    have hres := Option.some.inj hf
    subst hres
    exact W.iret hx hb hr (wr_q hG hV hZ hW hS) hS.2.2 dX10_flowNow_31
theorem cX10_flowNow_ok (l : Launch) (E : wE) (M : wMem)  {res : Int32} (hf : fX10_flowNow M  = some res) : wMet l yX10_flowNow (wsM yX10_flowNow cX10_flowNow 1 (some .int)) ({ frames := 3, cells := 0, slots := 0, locals := 63 } : Room) E M [.ref (wad E 70)] (some (.int res)) M :=
  wc_of (cc := cX10_flowNow) (maxL := 1) (ret := (some .int)) (by decide) (Nat.le_of_ble_eq_true rfl) (fun _ _ _ _ _ _ _ _ B hW hl => pX10_flowNow B  hf hW va_S.rf hl)
end
theorem cdX10_brightBy : yX10_brightBy.cls = RX10 ∧ yX10_brightBy.cls ≠ "java/lang/invoke/MethodHandle" ∧ yX10_brightBy.cls ≠ "java/lang/invoke/VarHandle" ∧ (parseMethodDescriptor yX10_brightBy.desc).map (fun d => d.parameters.length) = some 2 := by decide +kernel
section
variable {p : Program} {l : Launch} {e : Env} {s : State} {m : MethodId} {args : Array Value} {below : List Frame} {meth : Method} {c : Code} {E : wE}
set_option maxRecDepth 100000 in
set_option maxHeartbeats 4000000 in
theorem pX10_brightBy (B : wB E p s m args meth c cX10_brightBy 3 RX10 (some .int)) {M : wMem} {a1 : Int32} {a2 : Int32}  {res : Int32} (hf : fX10_brightBy M a1 a2 = some res) {H : Heap} {locs : List Loc} {ls : Array Slot} (hW : wH E M H) (hS : va_S (wA E) s.heap H locs) (hl : lv_has ls 3 [(0, .ref (wad E 70)), (1, .int a1), (2, .int a2)]) : W p l e ({ frames := 1, cells := 0, slots := 0, locals := 21 } : Room) s m args below meth c H locs 0 0 (MQ below (wQ E (some (.int res)) M) args s 0 0 (wA E)) (F0 m 0 ls []) := by
  unfold fX10_brightBy at hf
  obtain ⟨hx, hb, hr, hml, hown, hts, hlocks, hG, hV, hZ⟩ := id B
  refine lv_aload_n hx hb dX10_brightBy_0 rfl (lv_at hl 0 rfl) ?_
  refine wm_get hx hb hts wu_X10 hown hV hW (wlt_9 (rfl : wkd 70 = 9)) (wen_9 (rfl : wkd 70 = 9)) (C := RX10) (T := TX10) (N := 31) rfl 5 (by decide) (hts _ wA_719) rfl dX10_brightBy_1 ?_
  refine lv_iload_n hx hb dX10_brightBy_4 rfl (lv_at hl 1 rfl) ?_
  obtain ⟨hi1, hf⟩ := wgi_e hf
  refine wm_iald hx hb hV hW (rfl : wkd 76 = 21) (n := 12) rfl hi1 dX10_brightBy_5 ?_
  rcases wif_e hf with ⟨hq2, hf⟩ | ⟨hq2, hf⟩
  · refine lv_if_ne (tgt := 22) hx hb dX10_brightBy_6 (by decide) (fun h => absurd hq2 h) (fun _ => ?_)
    refine lv_iload_n hx hb dX10_brightBy_9 rfl (lv_at hl 2 rfl) ?_
    refine lv_aload_n hx hb dX10_brightBy_10 rfl (lv_at hl 0 rfl) ?_
    refine lv_iload_n hx hb dX10_brightBy_11 rfl (lv_at hl 1 rfl) ?_
    obtain ⟨r4, hc3, hf⟩ := wbind_e hf
    refine wc_V (As := [.int a1]) (rest := [.int a2]) hx hb hml hown hts hG hV hZ (wlt_9 (rfl : wkd 70 = 9)) (q := (RX10, TX10, 31)) (wen_9 (rfl : wkd 70 = 9)) rfl (cX10_dragOf_ok l E M a1 hc3) (cwV 1 hts gl_X10_146 rfl rfl rfl cdX10_dragOf ⟨Nat.le_of_ble_eq_true rfl, Nat.le_of_ble_eq_true rfl⟩) rfl hl.1 rfl (Nat.le_of_ble_eq_true rfl) dX10_brightBy_12 ⟨Nat.zero_le _, Nat.zero_le _⟩ hW hS rfl (fun H locs hW hS => ?_)
    refine lv_imul hx hb dX10_brightBy_15 ?_
    refine lv_bipush (v := 100) hx hb dX10_brightBy_16 (by decide) ?_
    obtain ⟨hz5, hf⟩ := wgz_e hf
    refine lv_idiv hx hb dX10_brightBy_18 hz5 ?_
    refine lv_goto (tgt := 23) hx hb dX10_brightBy_19 (by decide) ?_
    have hres := Option.some.inj hf
    subst hres
    exact W.iret hx hb hr (wr_q hG hV hZ hW hS) hS.2.2 dX10_brightBy_23
  · refine lv_if_ne (tgt := 22) hx hb dX10_brightBy_6 (by decide) (fun _ => ?_) (fun h => absurd h hq2)
    refine lv_iconst (v := 0) hx hb dX10_brightBy_22 rfl ?_
    have hres := Option.some.inj hf
    subst hres
    exact W.iret hx hb hr (wr_q hG hV hZ hW hS) hS.2.2 dX10_brightBy_23
theorem cX10_brightBy_ok (l : Launch) (E : wE) (M : wMem) (a1 : Int32) (a2 : Int32) {res : Int32} (hf : fX10_brightBy M a1 a2 = some res) : wMet l yX10_brightBy (wsM yX10_brightBy cX10_brightBy 3 (some .int)) ({ frames := 1, cells := 0, slots := 0, locals := 21 } : Room) E M [.ref (wad E 70), .int a1, .int a2] (some (.int res)) M :=
  wc_of (cc := cX10_brightBy) (maxL := 3) (ret := (some .int)) (by decide) (Nat.le_of_ble_eq_true rfl) (fun _ _ _ _ _ _ _ _ B hW hl => pX10_brightBy B  hf hW va_S.rf hl)
end
theorem cdX10_isLoose : yX10_isLoose.cls = RX10 ∧ yX10_isLoose.cls ≠ "java/lang/invoke/MethodHandle" ∧ yX10_isLoose.cls ≠ "java/lang/invoke/VarHandle" ∧ (parseMethodDescriptor yX10_isLoose.desc).map (fun d => d.parameters.length) = some 1 := by decide +kernel
section
variable {p : Program} {l : Launch} {e : Env} {s : State} {m : MethodId} {args : Array Value} {below : List Frame} {meth : Method} {c : Code} {E : wE}
set_option maxRecDepth 100000 in
set_option maxHeartbeats 4000000 in
theorem pX10_isLoose_20 (B : wB E p s m args meth c cX10_isLoose 2 RX10 (some .boolean)) {M : wMem}   {res : Bool}   (hf : fX10_isLoose_20 M   = some res) {H : Heap} {locs : List Loc} {ls : Array Slot} (hW : wH E M H) (hS : va_S (wA E) s.heap H locs) (hl : lv_has ls 2 []) : W p l e ({ frames := 0, cells := 0, slots := 0, locals := 0 } : Room) s m args below meth c H locs 0 0 (MQ below (wQ E (some (.int (wb res))) M) args s 0 0 (wA E)) (F0 m 20 ls []) := by
  unfold fX10_isLoose_20 at hf
  obtain ⟨hx, hb, hr, hml, hown, hts, hlocks, hG, hV, hZ⟩ := id B
  refine lv_iconst (v := 1) hx hb dX10_isLoose_20 rfl ?_
  refine lv_goto (tgt := 25) hx hb dX10_isLoose_21 (by decide) ?_
  have hres := Option.some.inj hf
  subst hres
  exact W.zret hx hb hr (wb_n true) (wr_q hG hV hZ hW hS) hS.2.2 dX10_isLoose_25
set_option maxRecDepth 100000 in
set_option maxHeartbeats 4000000 in
theorem pX10_isLoose (B : wB E p s m args meth c cX10_isLoose 2 RX10 (some .boolean)) {M : wMem} {a1 : Int32}  {res : Bool} (hf : fX10_isLoose M a1 = some res) {H : Heap} {locs : List Loc} {ls : Array Slot} (hW : wH E M H) (hS : va_S (wA E) s.heap H locs) (hl : lv_has ls 2 [(0, .ref (wad E 70)), (1, .int a1)]) : W p l e ({ frames := 0, cells := 0, slots := 0, locals := 0 } : Room) s m args below meth c H locs 0 0 (MQ below (wQ E (some (.int (wb res))) M) args s 0 0 (wA E)) (F0 m 0 ls []) := by
  unfold fX10_isLoose at hf
  obtain ⟨hx, hb, hr, hml, hown, hts, hlocks, hG, hV, hZ⟩ := id B
  refine lv_aload_n hx hb dX10_isLoose_0 rfl (lv_at hl 0 rfl) ?_
  refine wm_get hx hb hts wu_X10 hown hV hW (wlt_9 (rfl : wkd 70 = 9)) (wen_9 (rfl : wkd 70 = 9)) (C := RX10) (T := TX10) (N := 31) rfl 1 (by decide) (hts _ wA_715) rfl dX10_isLoose_1 ?_
  refine lv_iload_n hx hb dX10_isLoose_4 rfl (lv_at hl 1 rfl) ?_
  obtain ⟨hi1, hf⟩ := wgi_e hf
  refine wm_iald hx hb hV hW (rfl : wkd 72 = 21) (n := 12) rfl hi1 dX10_isLoose_5 ?_
  refine lv_iconst (v := 2) hx hb dX10_isLoose_6 rfl ?_
  rcases wif_e hf with ⟨hq2, hf⟩ | ⟨hq2, hf⟩
  · refine lv_icmp_eq (tgt := 20) hx hb dX10_isLoose_7 (by decide) (fun _ => ?_) (fun h => absurd hq2 h)
    exact pX10_isLoose_20 B   hf hW hS (lv_sub hl [] rfl)
  · refine lv_icmp_eq (tgt := 20) hx hb dX10_isLoose_7 (by decide) (fun h => absurd h hq2) (fun _ => ?_)
    refine lv_aload_n hx hb dX10_isLoose_10 rfl (lv_at hl 0 rfl) ?_
    refine wm_get hx hb hts wu_X10 hown hV hW (wlt_9 (rfl : wkd 70 = 9)) (wen_9 (rfl : wkd 70 = 9)) (C := RX10) (T := TX10) (N := 31) rfl 1 (by decide) (hts _ wA_715) rfl dX10_isLoose_11 ?_
    refine lv_iload_n hx hb dX10_isLoose_14 rfl (lv_at hl 1 rfl) ?_
    obtain ⟨hi3, hf⟩ := wgi_e hf
    refine wm_iald hx hb hV hW (rfl : wkd 72 = 21) (n := 12) rfl hi3 dX10_isLoose_15 ?_
    refine lv_iconst (v := 3) hx hb dX10_isLoose_16 rfl ?_
    rcases wif_e hf with ⟨hq4, hf⟩ | ⟨hq4, hf⟩
    · refine lv_icmp_ne (tgt := 24) hx hb dX10_isLoose_17 (by decide) (fun h => absurd hq4 h) (fun _ => ?_)
      exact pX10_isLoose_20 B   hf hW hS (lv_sub hl [] rfl)
    · refine lv_icmp_ne (tgt := 24) hx hb dX10_isLoose_17 (by decide) (fun _ => ?_) (fun h => absurd h hq4)
      refine lv_iconst (v := 0) hx hb dX10_isLoose_24 rfl ?_
      have hres := Option.some.inj hf
      subst hres
      exact W.zret hx hb hr (wb_n false) (wr_q hG hV hZ hW hS) hS.2.2 dX10_isLoose_25
theorem cX10_isLoose_ok (l : Launch) (E : wE) (M : wMem) (a1 : Int32) {res : Bool} (hf : fX10_isLoose M a1 = some res) : wMet l yX10_isLoose (wsM yX10_isLoose cX10_isLoose 2 (some .boolean)) ({ frames := 0, cells := 0, slots := 0, locals := 0 } : Room) E M [.ref (wad E 70), .int a1] (some (.int (wb res))) M :=
  wc_of (cc := cX10_isLoose) (maxL := 2) (ret := (some .boolean)) (by decide) (Nat.le_of_ble_eq_true rfl) (fun _ _ _ _ _ _ _ _ B hW hl => pX10_isLoose B  hf hW va_S.rf hl)
end
theorem cdX10_doesBridge : yX10_doesBridge.cls = RX10 ∧ yX10_doesBridge.cls ≠ "java/lang/invoke/MethodHandle" ∧ yX10_doesBridge.cls ≠ "java/lang/invoke/VarHandle" ∧ (parseMethodDescriptor yX10_doesBridge.desc).map (fun d => d.parameters.length) = some 1 := by decide +kernel
section
variable {p : Program} {l : Launch} {e : Env} {s : State} {m : MethodId} {args : Array Value} {below : List Frame} {meth : Method} {c : Code} {E : wE}
set_option maxRecDepth 100000 in
set_option maxHeartbeats 4000000 in
theorem pX10_doesBridge_20 (B : wB E p s m args meth c cX10_doesBridge 2 RX10 (some .boolean)) {M : wMem}   {res : Bool}   (hf : fX10_doesBridge_20 M   = some res) {H : Heap} {locs : List Loc} {ls : Array Slot} (hW : wH E M H) (hS : va_S (wA E) s.heap H locs) (hl : lv_has ls 2 []) : W p l e ({ frames := 0, cells := 0, slots := 0, locals := 0 } : Room) s m args below meth c H locs 0 0 (MQ below (wQ E (some (.int (wb res))) M) args s 0 0 (wA E)) (F0 m 20 ls []) := by
  unfold fX10_doesBridge_20 at hf
  obtain ⟨hx, hb, hr, hml, hown, hts, hlocks, hG, hV, hZ⟩ := id B
  refine lv_iconst (v := 1) hx hb dX10_doesBridge_20 rfl ?_
  refine lv_goto (tgt := 25) hx hb dX10_doesBridge_21 (by decide) ?_
  have hres := Option.some.inj hf
  subst hres
  exact W.zret hx hb hr (wb_n true) (wr_q hG hV hZ hW hS) hS.2.2 dX10_doesBridge_25
set_option maxRecDepth 100000 in
set_option maxHeartbeats 4000000 in
theorem pX10_doesBridge (B : wB E p s m args meth c cX10_doesBridge 2 RX10 (some .boolean)) {M : wMem} {a1 : Int32}  {res : Bool} (hf : fX10_doesBridge M a1 = some res) {H : Heap} {locs : List Loc} {ls : Array Slot} (hW : wH E M H) (hS : va_S (wA E) s.heap H locs) (hl : lv_has ls 2 [(0, .ref (wad E 70)), (1, .int a1)]) : W p l e ({ frames := 0, cells := 0, slots := 0, locals := 0 } : Room) s m args below meth c H locs 0 0 (MQ below (wQ E (some (.int (wb res))) M) args s 0 0 (wA E)) (F0 m 0 ls []) := by
  unfold fX10_doesBridge at hf
  obtain ⟨hx, hb, hr, hml, hown, hts, hlocks, hG, hV, hZ⟩ := id B
  refine lv_aload_n hx hb dX10_doesBridge_0 rfl (lv_at hl 0 rfl) ?_
  refine wm_get hx hb hts wu_X10 hown hV hW (wlt_9 (rfl : wkd 70 = 9)) (wen_9 (rfl : wkd 70 = 9)) (C := RX10) (T := TX10) (N := 31) rfl 1 (by decide) (hts _ wA_715) rfl dX10_doesBridge_1 ?_
  refine lv_iload_n hx hb dX10_doesBridge_4 rfl (lv_at hl 1 rfl) ?_
  obtain ⟨hi1, hf⟩ := wgi_e hf
  refine wm_iald hx hb hV hW (rfl : wkd 72 = 21) (n := 12) rfl hi1 dX10_doesBridge_5 ?_
  refine lv_iconst (v := 1) hx hb dX10_doesBridge_6 rfl ?_
  rcases wif_e hf with ⟨hq2, hf⟩ | ⟨hq2, hf⟩
  · refine lv_icmp_eq (tgt := 20) hx hb dX10_doesBridge_7 (by decide) (fun _ => ?_) (fun h => absurd hq2 h)
    exact pX10_doesBridge_20 B   hf hW hS (lv_sub hl [] rfl)
  · refine lv_icmp_eq (tgt := 20) hx hb dX10_doesBridge_7 (by decide) (fun h => absurd h hq2) (fun _ => ?_)
    refine lv_aload_n hx hb dX10_doesBridge_10 rfl (lv_at hl 0 rfl) ?_
    refine wm_get hx hb hts wu_X10 hown hV hW (wlt_9 (rfl : wkd 70 = 9)) (wen_9 (rfl : wkd 70 = 9)) (C := RX10) (T := TX10) (N := 31) rfl 1 (by decide) (hts _ wA_715) rfl dX10_doesBridge_11 ?_
    refine lv_iload_n hx hb dX10_doesBridge_14 rfl (lv_at hl 1 rfl) ?_
    obtain ⟨hi3, hf⟩ := wgi_e hf
    refine wm_iald hx hb hV hW (rfl : wkd 72 = 21) (n := 12) rfl hi3 dX10_doesBridge_15 ?_
    refine lv_iconst (v := 5) hx hb dX10_doesBridge_16 rfl ?_
    rcases wif_e hf with ⟨hq4, hf⟩ | ⟨hq4, hf⟩
    · refine lv_icmp_ne (tgt := 24) hx hb dX10_doesBridge_17 (by decide) (fun h => absurd hq4 h) (fun _ => ?_)
      exact pX10_doesBridge_20 B   hf hW hS (lv_sub hl [] rfl)
    · refine lv_icmp_ne (tgt := 24) hx hb dX10_doesBridge_17 (by decide) (fun _ => ?_) (fun h => absurd h hq4)
      refine lv_iconst (v := 0) hx hb dX10_doesBridge_24 rfl ?_
      have hres := Option.some.inj hf
      subst hres
      exact W.zret hx hb hr (wb_n false) (wr_q hG hV hZ hW hS) hS.2.2 dX10_doesBridge_25
theorem cX10_doesBridge_ok (l : Launch) (E : wE) (M : wMem) (a1 : Int32) {res : Bool} (hf : fX10_doesBridge M a1 = some res) : wMet l yX10_doesBridge (wsM yX10_doesBridge cX10_doesBridge 2 (some .boolean)) ({ frames := 0, cells := 0, slots := 0, locals := 0 } : Room) E M [.ref (wad E 70), .int a1] (some (.int (wb res))) M :=
  wc_of (cc := cX10_doesBridge) (maxL := 2) (ret := (some .boolean)) (by decide) (Nat.le_of_ble_eq_true rfl) (fun _ _ _ _ _ _ _ _ B hW hl => pX10_doesBridge B  hf hW va_S.rf hl)
end
theorem cdX10_likelyOf : yX10_likelyOf.cls = RX10 ∧ yX10_likelyOf.cls ≠ "java/lang/invoke/MethodHandle" ∧ yX10_likelyOf.cls ≠ "java/lang/invoke/VarHandle" ∧ (parseMethodDescriptor yX10_likelyOf.desc).map (fun d => d.parameters.length) = some 1 := by decide +kernel
section
variable {p : Program} {l : Launch} {e : Env} {s : State} {m : MethodId} {args : Array Value} {below : List Frame} {meth : Method} {c : Code} {E : wE}
set_option maxRecDepth 100000 in
set_option maxHeartbeats 4000000 in
theorem pX10_likelyOf (B : wB E p s m args meth c cX10_likelyOf 2 RX10 (some .int)) {M : wMem} {a1 : Int32}  {res : Int32} (hf : fX10_likelyOf M a1 = some res) {H : Heap} {locs : List Loc} {ls : Array Slot} (hW : wH E M H) (hS : va_S (wA E) s.heap H locs) (hl : lv_has ls 2 [(0, .ref (wad E 70)), (1, .int a1)]) : W p l e ({ frames := 1, cells := 0, slots := 0, locals := 21 } : Room) s m args below meth c H locs 0 0 (MQ below (wQ E (some (.int res)) M) args s 0 0 (wA E)) (F0 m 0 ls []) := by
  unfold fX10_likelyOf at hf
  obtain ⟨hx, hb, hr, hml, hown, hts, hlocks, hG, hV, hZ⟩ := id B
  refine lv_aload_n hx hb dX10_likelyOf_0 rfl (lv_at hl 0 rfl) ?_
  refine lv_iload_n hx hb dX10_likelyOf_1 rfl (lv_at hl 1 rfl) ?_
  obtain ⟨r2, hc1, hf⟩ := wbind_e hf
  refine wc_V (As := [.int a1]) (rest := []) hx hb hml hown hts hG hV hZ (wlt_9 (rfl : wkd 70 = 9)) (q := (RX10, TX10, 31)) (wen_9 (rfl : wkd 70 = 9)) rfl (cX10_doesBridge_ok l E M a1 hc1) (cwV 1 hts gl_X10_162 rfl rfl rfl cdX10_doesBridge ⟨Nat.le_of_ble_eq_true rfl, Nat.le_of_ble_eq_true rfl⟩) rfl hl.1 rfl (Nat.le_of_ble_eq_true rfl) dX10_likelyOf_2 ⟨Nat.zero_le _, Nat.zero_le _⟩ hW hS rfl (fun H locs hW hS => ?_)
  rcases wif_e hf with ⟨hq3, hf⟩ | ⟨hq3, hf⟩
  · refine lv_if_eq (tgt := 12) hx hb dX10_likelyOf_5 (by decide) (fun _ => ?_) (fun h => absurd hq3 h)
    refine lv_aload_n hx hb dX10_likelyOf_12 rfl (lv_at hl 0 rfl) ?_
    refine wm_get hx hb hts wu_X10 hown hV hW (wlt_9 (rfl : wkd 70 = 9)) (wen_9 (rfl : wkd 70 = 9)) (C := RX10) (T := TX10) (N := 31) rfl 4 (by decide) (hts _ wA_718) rfl dX10_likelyOf_13 ?_
    refine lv_iload_n hx hb dX10_likelyOf_16 rfl (lv_at hl 1 rfl) ?_
    obtain ⟨hi4, hf⟩ := wgi_e hf
    refine wm_iald hx hb hV hW (rfl : wkd 75 = 21) (n := 12) rfl hi4 dX10_likelyOf_17 ?_
    refine lv_bipush (v := 10) hx hb dX10_likelyOf_18 (by decide) ?_
    obtain ⟨hz5, hf⟩ := wgz_e hf
    refine lv_idiv hx hb dX10_likelyOf_20 hz5 ?_
    refine lv_iconst (v := 1) hx hb dX10_likelyOf_21 rfl ?_
    refine lv_iadd hx hb dX10_likelyOf_22 ?_
    refine lv_aload_n hx hb dX10_likelyOf_23 rfl (lv_at hl 0 rfl) ?_
    refine lv_iload_n hx hb dX10_likelyOf_24 rfl (lv_at hl 1 rfl) ?_
    obtain ⟨r7, hc6, hf⟩ := wbind_e hf
    refine wc_V (As := [.int a1]) (rest := [.int (((M 75 (Int32.toNatClampNeg a1)) / 10) + 1)]) hx hb hml hown hts hG hV hZ (wlt_9 (rfl : wkd 70 = 9)) (q := (RX10, TX10, 31)) (wen_9 (rfl : wkd 70 = 9)) rfl (cX10_isLoose_ok l E M a1 hc6) (cwV 1 hts gl_X10_165 rfl rfl rfl cdX10_isLoose ⟨Nat.le_of_ble_eq_true rfl, Nat.le_of_ble_eq_true rfl⟩) rfl hl.1 rfl (Nat.le_of_ble_eq_true rfl) dX10_likelyOf_25 ⟨Nat.zero_le _, Nat.zero_le _⟩ hW hS rfl (fun H locs hW hS => ?_)
    rcases wif_e hf with ⟨hq8, hf⟩ | ⟨hq8, hf⟩
    · refine lv_if_eq (tgt := 35) hx hb dX10_likelyOf_28 (by decide) (fun _ => ?_) (fun h => absurd hq8 h)
      refine lv_iconst (v := 0) hx hb dX10_likelyOf_35 rfl ?_
      refine lv_iadd hx hb dX10_likelyOf_36 ?_
      have hres := Option.some.inj hf
      subst hres
      exact W.iret hx hb hr (wr_q hG hV hZ hW hS) hS.2.2 dX10_likelyOf_37
    · refine lv_if_eq (tgt := 35) hx hb dX10_likelyOf_28 (by decide) (fun h => absurd h hq8) (fun _ => ?_)
      refine lv_iconst (v := 3) hx hb dX10_likelyOf_31 rfl ?_
      refine lv_goto (tgt := 36) hx hb dX10_likelyOf_32 (by decide) ?_
      refine lv_iadd hx hb dX10_likelyOf_36 ?_
      have hres := Option.some.inj hf
      subst hres
      exact W.iret hx hb hr (wr_q hG hV hZ hW hS) hS.2.2 dX10_likelyOf_37
  · refine lv_if_eq (tgt := 12) hx hb dX10_likelyOf_5 (by decide) (fun h => absurd h hq3) (fun _ => ?_)
    refine lv_iconst (v := 1) hx hb dX10_likelyOf_8 rfl ?_
    refine lv_goto (tgt := 37) hx hb dX10_likelyOf_9 (by decide) ?_
    have hres := Option.some.inj hf
    subst hres
    exact W.iret hx hb hr (wr_q hG hV hZ hW hS) hS.2.2 dX10_likelyOf_37
theorem cX10_likelyOf_ok (l : Launch) (E : wE) (M : wMem) (a1 : Int32) {res : Int32} (hf : fX10_likelyOf M a1 = some res) : wMet l yX10_likelyOf (wsM yX10_likelyOf cX10_likelyOf 2 (some .int)) ({ frames := 1, cells := 0, slots := 0, locals := 21 } : Room) E M [.ref (wad E 70), .int a1] (some (.int res)) M :=
  wc_of (cc := cX10_likelyOf) (maxL := 2) (ret := (some .int)) (by decide) (Nat.le_of_ble_eq_true rfl) (fun _ _ _ _ _ _ _ _ B hW hl => pX10_likelyOf B  hf hW va_S.rf hl)
end
theorem cdX10_lamp : yX10_lamp.cls = RX10 ∧ yX10_lamp.cls ≠ "java/lang/invoke/MethodHandle" ∧ yX10_lamp.cls ≠ "java/lang/invoke/VarHandle" ∧ (parseMethodDescriptor yX10_lamp.desc).map (fun d => d.parameters.length) = some 2 := by decide +kernel
section
variable {p : Program} {l : Launch} {e : Env} {s : State} {m : MethodId} {args : Array Value} {below : List Frame} {meth : Method} {c : Code} {E : wE}
set_option maxRecDepth 100000 in
set_option maxHeartbeats 4000000 in
theorem pX10_lamp (B : wB E p s m args meth c cX10_lamp 3 RX10 (some .int)) {M : wMem} {a1 : Int32} {a2 : Int32}  {res : Int32 × wMem} (hf : fX10_lamp M a1 a2 = some res) {H : Heap} {locs : List Loc} {ls : Array Slot} (hW : wH E M H) (hS : va_S (wA E) s.heap H locs) (hl : lv_has ls 3 [(0, .ref (wad E 70)), (1, .int a1), (2, .int a2)]) : W p l e ({ frames := 4, cells := 0, slots := 0, locals := 83 } : Room) s m args below meth c H locs 0 0 (MQ below (wQ E (some (.int res.1)) res.2) args s 0 0 (wA E)) (F0 m 0 ls []) := by
  unfold fX10_lamp at hf
  obtain ⟨hx, hb, hr, hml, hown, hts, hlocks, hG, hV, hZ⟩ := id B
  refine lv_aload_n hx hb dX10_lamp_0 rfl (lv_at hl 0 rfl) ?_
  refine lv_iload_n hx hb dX10_lamp_1 rfl (lv_at hl 1 rfl) ?_
  obtain ⟨r2, hc1, hf⟩ := wbind_e hf
  refine wc_V (As := [.int a1]) (rest := []) hx hb hml hown hts hG hV hZ (wlt_9 (rfl : wkd 70 = 9)) (q := (RX10, TX10, 31)) (wen_9 (rfl : wkd 70 = 9)) rfl (cX10_isLamp_ok l E M a1 hc1) (cwV 1 hts gl_X10_112 rfl rfl rfl cdX10_isLamp ⟨Nat.le_of_ble_eq_true rfl, Nat.le_of_ble_eq_true rfl⟩) rfl hl.1 rfl (Nat.le_of_ble_eq_true rfl) dX10_lamp_2 ⟨Nat.zero_le _, Nat.zero_le _⟩ hW hS rfl (fun H locs hW hS => ?_)
  rcases wif_e hf with ⟨hq3, hf⟩ | ⟨hq3, hf⟩
  · refine lv_if_ne (tgt := 14) hx hb dX10_lamp_5 (by decide) (fun h => absurd hq3 h) (fun _ => ?_)
    refine lv_aload_n hx hb dX10_lamp_8 rfl (lv_at hl 0 rfl) ?_
    refine lv_iconst (v := (-1)) hx hb dX10_lamp_9 rfl ?_
    obtain ⟨r30, M31, hc29, hf⟩ := wbind_p hf
    refine wc_V (As := [.int (-1)]) (rest := []) hx hb hml hown hts hG hV hZ (wlt_9 (rfl : wkd 70 = 9)) (q := (RX10, TX10, 31)) (wen_9 (rfl : wkd 70 = 9)) rfl (cX10_no_ok l E M (-1) hc29) (cwV 1 hts gl_X10_83 rfl rfl rfl cdX10_no ⟨Nat.le_of_ble_eq_true rfl, Nat.le_of_ble_eq_true rfl⟩) rfl hl.1 rfl (Nat.le_of_ble_eq_true rfl) dX10_lamp_10 ⟨Nat.zero_le _, Nat.zero_le _⟩ hW hS rfl (fun H locs hW hS => ?_)
    have hres := Option.some.inj hf
    subst hres
    exact W.iret hx hb hr (wr_q hG hV hZ hW hS) hS.2.2 dX10_lamp_13
  · refine lv_if_ne (tgt := 14) hx hb dX10_lamp_5 (by decide) (fun _ => ?_) (fun h => absurd h hq3)
    refine lv_iload_n hx hb dX10_lamp_14 rfl (lv_at hl 2 rfl) ?_
    rcases wif_e hf with ⟨hq6, hf⟩ | ⟨hq6, hf⟩
    · refine lv_tableIn (off := 45) (tgt := 60) hx hb dX10_lamp_15 (by rw [hq6] <;> decide) (by rw [hq6] <;> decide) (by rw [hq6] <;> rfl) (by decide) ?_
      refine lv_aload_n hx hb dX10_lamp_60 rfl (lv_at hl 0 rfl) ?_
      refine wm_get hx hb hts wu_X10 hown hV hW (wlt_9 (rfl : wkd 70 = 9)) (wen_9 (rfl : wkd 70 = 9)) (C := RX10) (T := TX10) (N := 31) rfl 1 (by decide) (hts _ wA_715) rfl dX10_lamp_61 ?_
      refine lv_iload_n hx hb dX10_lamp_64 rfl (lv_at hl 1 rfl) ?_
      obtain ⟨hi5, hf⟩ := wgi_e hf
      refine wm_iald hx hb hV hW (rfl : wkd 72 = 21) (n := 12) rfl hi5 dX10_lamp_65 ?_
      have hres := Option.some.inj hf
      subst hres
      exact W.iret hx hb hr (wr_q hG hV hZ hW hS) hS.2.2 dX10_lamp_66
    · rcases wif_e hf with ⟨hq8, hf⟩ | ⟨hq8, hf⟩
      · refine lv_tableIn (off := 52) (tgt := 67) hx hb dX10_lamp_15 (by rw [hq8] <;> decide) (by rw [hq8] <;> decide) (by rw [hq8] <;> rfl) (by decide) ?_
        refine lv_aload_n hx hb dX10_lamp_67 rfl (lv_at hl 0 rfl) ?_
        refine wm_get hx hb hts wu_X10 hown hV hW (wlt_9 (rfl : wkd 70 = 9)) (wen_9 (rfl : wkd 70 = 9)) (C := RX10) (T := TX10) (N := 31) rfl 2 (by decide) (hts _ wA_716) rfl dX10_lamp_68 ?_
        refine lv_iload_n hx hb dX10_lamp_71 rfl (lv_at hl 1 rfl) ?_
        obtain ⟨hi7, hf⟩ := wgi_e hf
        refine wm_iald hx hb hV hW (rfl : wkd 73 = 21) (n := 12) rfl hi7 dX10_lamp_72 ?_
        have hres := Option.some.inj hf
        subst hres
        exact W.iret hx hb hr (wr_q hG hV hZ hW hS) hS.2.2 dX10_lamp_73
      · rcases wif_e hf with ⟨hq10, hf⟩ | ⟨hq10, hf⟩
        · refine lv_tableIn (off := 59) (tgt := 74) hx hb dX10_lamp_15 (by rw [hq10] <;> decide) (by rw [hq10] <;> decide) (by rw [hq10] <;> rfl) (by decide) ?_
          refine lv_aload_n hx hb dX10_lamp_74 rfl (lv_at hl 0 rfl) ?_
          refine wm_get hx hb hts wu_X10 hown hV hW (wlt_9 (rfl : wkd 70 = 9)) (wen_9 (rfl : wkd 70 = 9)) (C := RX10) (T := TX10) (N := 31) rfl 3 (by decide) (hts _ wA_717) rfl dX10_lamp_75 ?_
          refine lv_iload_n hx hb dX10_lamp_78 rfl (lv_at hl 1 rfl) ?_
          obtain ⟨hi9, hf⟩ := wgi_e hf
          refine wm_iald hx hb hV hW (rfl : wkd 74 = 21) (n := 12) rfl hi9 dX10_lamp_79 ?_
          have hres := Option.some.inj hf
          subst hres
          exact W.iret hx hb hr (wr_q hG hV hZ hW hS) hS.2.2 dX10_lamp_80
        · rcases wif_e hf with ⟨hq12, hf⟩ | ⟨hq12, hf⟩
          · refine lv_tableIn (off := 66) (tgt := 81) hx hb dX10_lamp_15 (by rw [hq12] <;> decide) (by rw [hq12] <;> decide) (by rw [hq12] <;> rfl) (by decide) ?_
            refine lv_aload_n hx hb dX10_lamp_81 rfl (lv_at hl 0 rfl) ?_
            refine wm_get hx hb hts wu_X10 hown hV hW (wlt_9 (rfl : wkd 70 = 9)) (wen_9 (rfl : wkd 70 = 9)) (C := RX10) (T := TX10) (N := 31) rfl 4 (by decide) (hts _ wA_718) rfl dX10_lamp_82 ?_
            refine lv_iload_n hx hb dX10_lamp_85 rfl (lv_at hl 1 rfl) ?_
            obtain ⟨hi11, hf⟩ := wgi_e hf
            refine wm_iald hx hb hV hW (rfl : wkd 75 = 21) (n := 12) rfl hi11 dX10_lamp_86 ?_
            have hres := Option.some.inj hf
            subst hres
            exact W.iret hx hb hr (wr_q hG hV hZ hW hS) hS.2.2 dX10_lamp_87
          · rcases wif_e hf with ⟨hq14, hf⟩ | ⟨hq14, hf⟩
            · refine lv_tableIn (off := 73) (tgt := 88) hx hb dX10_lamp_15 (by rw [hq14] <;> decide) (by rw [hq14] <;> decide) (by rw [hq14] <;> rfl) (by decide) ?_
              refine lv_aload_n hx hb dX10_lamp_88 rfl (lv_at hl 0 rfl) ?_
              refine wm_get hx hb hts wu_X10 hown hV hW (wlt_9 (rfl : wkd 70 = 9)) (wen_9 (rfl : wkd 70 = 9)) (C := RX10) (T := TX10) (N := 31) rfl 5 (by decide) (hts _ wA_719) rfl dX10_lamp_89 ?_
              refine lv_iload_n hx hb dX10_lamp_92 rfl (lv_at hl 1 rfl) ?_
              obtain ⟨hi13, hf⟩ := wgi_e hf
              refine wm_iald hx hb hV hW (rfl : wkd 76 = 21) (n := 12) rfl hi13 dX10_lamp_93 ?_
              have hres := Option.some.inj hf
              subst hres
              exact W.iret hx hb hr (wr_q hG hV hZ hW hS) hS.2.2 dX10_lamp_94
            · rcases wif_e hf with ⟨hq17, hf⟩ | ⟨hq17, hf⟩
              · refine lv_tableIn (off := 80) (tgt := 95) hx hb dX10_lamp_15 (by rw [hq17] <;> decide) (by rw [hq17] <;> decide) (by rw [hq17] <;> rfl) (by decide) ?_
                refine lv_aload_n hx hb dX10_lamp_95 rfl (lv_at hl 0 rfl) ?_
                refine lv_iload_n hx hb dX10_lamp_96 rfl (lv_at hl 1 rfl) ?_
                obtain ⟨r16, hc15, hf⟩ := wbind_e hf
                refine wc_V (As := [.int a1]) (rest := []) hx hb hml hown hts hG hV hZ (wlt_9 (rfl : wkd 70 = 9)) (q := (RX10, TX10, 31)) (wen_9 (rfl : wkd 70 = 9)) rfl (cX10_dragOf_ok l E M a1 hc15) (cwV 1 hts gl_X10_146 rfl rfl rfl cdX10_dragOf ⟨Nat.le_of_ble_eq_true rfl, Nat.le_of_ble_eq_true rfl⟩) rfl hl.1 rfl (Nat.le_of_ble_eq_true rfl) dX10_lamp_97 ⟨Nat.zero_le _, Nat.zero_le _⟩ hW hS rfl (fun H locs hW hS => ?_)
                have hres := Option.some.inj hf
                subst hres
                exact W.iret hx hb hr (wr_q hG hV hZ hW hS) hS.2.2 dX10_lamp_100
              · rcases wif_e hf with ⟨hq22, hf⟩ | ⟨hq22, hf⟩
                · refine lv_tableIn (off := 86) (tgt := 101) hx hb dX10_lamp_15 (by rw [hq22] <;> decide) (by rw [hq22] <;> decide) (by rw [hq22] <;> rfl) (by decide) ?_
                  refine lv_aload_n hx hb dX10_lamp_101 rfl (lv_at hl 0 rfl) ?_
                  refine lv_iload_n hx hb dX10_lamp_102 rfl (lv_at hl 1 rfl) ?_
                  refine lv_aload_n hx hb dX10_lamp_103 rfl (lv_at hl 0 rfl) ?_
                  obtain ⟨r19, hc18, hf⟩ := wbind_e hf
                  refine wc_V (As := []) (rest := [.int a1, .ref (wad E 70)]) hx hb hml hown hts hG hV hZ (wlt_9 (rfl : wkd 70 = 9)) (q := (RX10, TX10, 31)) (wen_9 (rfl : wkd 70 = 9)) rfl (cX10_flowNow_ok l E M  hc18) (cwV 0 hts gl_X10_168 rfl rfl rfl cdX10_flowNow ⟨Nat.le_of_ble_eq_true rfl, Nat.le_of_ble_eq_true rfl⟩) rfl hl.1 rfl (Nat.le_of_ble_eq_true rfl) dX10_lamp_104 ⟨Nat.zero_le _, Nat.zero_le _⟩ hW hS rfl (fun H locs hW hS => ?_)
                  obtain ⟨r21, hc20, hf⟩ := wbind_e hf
                  refine wc_V (As := [.int a1, .int r19]) (rest := []) hx hb hml hown hts hG hV hZ (wlt_9 (rfl : wkd 70 = 9)) (q := (RX10, TX10, 31)) (wen_9 (rfl : wkd 70 = 9)) rfl (cX10_brightBy_ok l E M a1 r19 hc20) (cwV 2 hts gl_X10_171 rfl rfl rfl cdX10_brightBy ⟨Nat.le_of_ble_eq_true rfl, Nat.le_of_ble_eq_true rfl⟩) rfl hl.1 rfl (Nat.le_of_ble_eq_true rfl) dX10_lamp_107 ⟨Nat.zero_le _, Nat.zero_le _⟩ hW hS rfl (fun H locs hW hS => ?_)
                  have hres := Option.some.inj hf
                  subst hres
                  exact W.iret hx hb hr (wr_q hG hV hZ hW hS) hS.2.2 dX10_lamp_110
                · rcases wif_e hf with ⟨hq25, hf⟩ | ⟨hq25, hf⟩
                  · refine lv_tableIn (off := 96) (tgt := 111) hx hb dX10_lamp_15 (by rw [hq25] <;> decide) (by rw [hq25] <;> decide) (by rw [hq25] <;> rfl) (by decide) ?_
                    refine lv_aload_n hx hb dX10_lamp_111 rfl (lv_at hl 0 rfl) ?_
                    refine lv_iload_n hx hb dX10_lamp_112 rfl (lv_at hl 1 rfl) ?_
                    obtain ⟨r24, hc23, hf⟩ := wbind_e hf
                    refine wc_V (As := [.int a1]) (rest := []) hx hb hml hown hts hG hV hZ (wlt_9 (rfl : wkd 70 = 9)) (q := (RX10, TX10, 31)) (wen_9 (rfl : wkd 70 = 9)) rfl (cX10_likelyOf_ok l E M a1 hc23) (cwV 1 hts gl_X10_174 rfl rfl rfl cdX10_likelyOf ⟨Nat.le_of_ble_eq_true rfl, Nat.le_of_ble_eq_true rfl⟩) rfl hl.1 rfl (Nat.le_of_ble_eq_true rfl) dX10_lamp_113 ⟨Nat.zero_le _, Nat.zero_le _⟩ hW hS rfl (fun H locs hW hS => ?_)
                    have hres := Option.some.inj hf
                    subst hres
                    exact W.iret hx hb hr (wr_q hG hV hZ hW hS) hS.2.2 dX10_lamp_116
                  · have hodX10_lamp_15 : a2.toInt < 0 ∨ 7 < a2.toInt := by
                      have := lv_neT (k := 0) (a := 0) hq6 (by decide)
                      have := lv_neT (k := 1) (a := 1) hq8 (by decide)
                      have := lv_neT (k := 2) (a := 2) hq10 (by decide)
                      have := lv_neT (k := 3) (a := 3) hq12 (by decide)
                      have := lv_neT (k := 4) (a := 4) hq14 (by decide)
                      have := lv_neT (k := 5) (a := 5) hq17 (by decide)
                      have := lv_neT (k := 6) (a := 6) hq22 (by decide)
                      have := lv_neT (k := 7) (a := 7) hq25 (by decide)
                      omega
                    refine lv_tableOut (tgt := 117) hx hb dX10_lamp_15 hodX10_lamp_15 (by decide) ?_
                    refine lv_aload_n hx hb dX10_lamp_117 rfl (lv_at hl 0 rfl) ?_
                    refine lv_bipush (v := (-2)) hx hb dX10_lamp_118 (by decide) ?_
                    obtain ⟨r27, M28, hc26, hf⟩ := wbind_p hf
                    refine wc_V (As := [.int (-2)]) (rest := []) hx hb hml hown hts hG hV hZ (wlt_9 (rfl : wkd 70 = 9)) (q := (RX10, TX10, 31)) (wen_9 (rfl : wkd 70 = 9)) rfl (cX10_no_ok l E M (-2) hc26) (cwV 1 hts gl_X10_83 rfl rfl rfl cdX10_no ⟨Nat.le_of_ble_eq_true rfl, Nat.le_of_ble_eq_true rfl⟩) rfl hl.1 rfl (Nat.le_of_ble_eq_true rfl) dX10_lamp_120 ⟨Nat.zero_le _, Nat.zero_le _⟩ hW hS rfl (fun H locs hW hS => ?_)
                    have hres := Option.some.inj hf
                    subst hres
                    exact W.iret hx hb hr (wr_q hG hV hZ hW hS) hS.2.2 dX10_lamp_123
theorem cX10_lamp_ok (l : Launch) (E : wE) (M : wMem) (a1 : Int32) (a2 : Int32) {res : Int32 × wMem} (hf : fX10_lamp M a1 a2 = some res) : wMet l yX10_lamp (wsM yX10_lamp cX10_lamp 3 (some .int)) ({ frames := 4, cells := 0, slots := 0, locals := 83 } : Room) E M [.ref (wad E 70), .int a1, .int a2] (some (.int res.1)) res.2 :=
  wc_of (cc := cX10_lamp) (maxL := 3) (ret := (some .int)) (by decide) (Nat.le_of_ble_eq_true rfl) (fun _ _ _ _ _ _ _ _ B hW hl => pX10_lamp B  hf hW va_S.rf hl)
end
theorem cdX10_set : yX10_set.cls = RX10 ∧ yX10_set.cls ≠ "java/lang/invoke/MethodHandle" ∧ yX10_set.cls ≠ "java/lang/invoke/VarHandle" ∧ (parseMethodDescriptor yX10_set.desc).map (fun d => d.parameters.length) = some 2 := by decide +kernel
section
variable {p : Program} {l : Launch} {e : Env} {s : State} {m : MethodId} {args : Array Value} {below : List Frame} {meth : Method} {c : Code} {E : wE}
set_option maxRecDepth 100000 in
set_option maxHeartbeats 4000000 in
theorem pX10_set (B : wB E p s m args meth c cX10_set 5 RX10 (some .int)) {M : wMem} {a1 : Int32} {a2 : Int32}  {res : Int32 × wMem} (hf : fX10_set M a1 a2 = some res) {H : Heap} {locs : List Loc} {ls : Array Slot} (hW : wH E M H) (hS : va_S (wA E) s.heap H locs) (hl : lv_has ls 5 [(0, .ref (wad E 70)), (1, .int a1), (2, .int a2)]) : W p l e ({ frames := 1, cells := 0, slots := 0, locals := 22 } : Room) s m args below meth c H locs 0 0 (MQ below (wQ E (some (.int res.1)) res.2) args s 0 0 (wA E)) (F0 m 0 ls []) := by
  unfold fX10_set at hf
  obtain ⟨hx, hb, hr, hml, hown, hts, hlocks, hG, hV, hZ⟩ := id B
  refine lv_iload_n hx hb dX10_set_0 rfl (lv_at hl 1 rfl) ?_
  refine lv_iconst (v := 0) hx hb dX10_set_1 rfl ?_
  refine lv_iconst (v := 3) hx hb dX10_set_2 rfl ?_
  obtain ⟨r2, hc1, hf⟩ := wbind_e hf
  refine wc_S (As := [.int a1, .int 0, .int 3]) (rest := []) hx hb hml hown hts hG hV hZ (cX10_isIn_ok l E M a1 0 3 hc1) (va_cwS 3 hts gl_X10_94 rfl rfl rfl cdX10_isIn ⟨Nat.le_of_ble_eq_true rfl, Nat.le_of_ble_eq_true rfl⟩) rfl hl.1 rfl (Nat.le_of_ble_eq_true rfl) dX10_set_3 ⟨Nat.zero_le _, Nat.zero_le _⟩ hW hS rfl (fun H locs hW hS => ?_)
  rcases wif_e hf with ⟨hq3, hf⟩ | ⟨hq3, hf⟩
  · refine lv_if_ne (tgt := 16) hx hb dX10_set_6 (by decide) (fun h => absurd hq3 h) (fun _ => ?_)
    refine lv_aload_n hx hb dX10_set_9 rfl (lv_at hl 0 rfl) ?_
    refine lv_bipush (v := (-2)) hx hb dX10_set_10 (by decide) ?_
    obtain ⟨r17, M18, hc16, hf⟩ := wbind_p hf
    refine wc_V (As := [.int (-2)]) (rest := []) hx hb hml hown hts hG hV hZ (wlt_9 (rfl : wkd 70 = 9)) (q := (RX10, TX10, 31)) (wen_9 (rfl : wkd 70 = 9)) rfl (cX10_no_ok l E M (-2) hc16) (cwV 1 hts gl_X10_83 rfl rfl rfl cdX10_no ⟨Nat.le_of_ble_eq_true rfl, Nat.le_of_ble_eq_true rfl⟩) rfl hl.1 rfl (Nat.le_of_ble_eq_true rfl) dX10_set_12 ⟨Nat.zero_le _, Nat.zero_le _⟩ hW hS rfl (fun H locs hW hS => ?_)
    have hres := Option.some.inj hf
    subst hres
    exact W.iret hx hb hr (wr_q hG hV hZ hW hS) hS.2.2 dX10_set_15
  · refine lv_if_ne (tgt := 16) hx hb dX10_set_6 (by decide) (fun _ => ?_) (fun h => absurd h hq3)
    refine lv_iload_n hx hb dX10_set_16 rfl (lv_at hl 2 rfl) ?_
    refine va_gets hx hb hZ.2.2.1.1 hS hown (hts _ wA_921) (fun _ h => h) dX10_set_17 ?_
    refine lv_iload_n hx hb dX10_set_20 rfl (lv_at hl 1 rfl) ?_
    obtain ⟨hi4, hf⟩ := wgi_e hf
    refine va_ti hx hb hZ.2.2.1.2 hS hi4 rfl dX10_set_21 ?_
    refine va_gets hx hb hZ.2.2.2.1.1 hS hown (hts _ wA_923) (fun _ h => h) dX10_set_22 ?_
    refine lv_iload_n hx hb dX10_set_25 rfl (lv_at hl 1 rfl) ?_
    obtain ⟨hi5, hf⟩ := wgi_e hf
    refine va_ti hx hb hZ.2.2.2.1.2 hS hi5 rfl dX10_set_26 ?_
    obtain ⟨r7, hc6, hf⟩ := wbind_e hf
    refine wc_S (As := [.int a2, .int (wtab 2 (Int32.toNatClampNeg a1)), .int (wtab 3 (Int32.toNatClampNeg a1))]) (rest := []) hx hb hml hown hts hG hV hZ (cX10_bound_ok l E M a2 (wtab 2 (Int32.toNatClampNeg a1)) (wtab 3 (Int32.toNatClampNeg a1)) hc6) (va_cwS 3 hts gl_X10_76 rfl rfl rfl cdX10_bound ⟨Nat.le_of_ble_eq_true rfl, Nat.le_of_ble_eq_true rfl⟩) rfl hl.1 rfl (Nat.le_of_ble_eq_true rfl) dX10_set_27 ⟨Nat.zero_le _, Nat.zero_le _⟩ hW hS rfl (fun H locs hW hS => ?_)
    refine lv_istore_n (lv' := [(3, .int r7), (0, .ref (wad E 70)), (1, .int a1), (2, .int a2)]) hx hb dX10_set_30 rfl hl (by decide) rfl (fun ls hl => ?_)
    refine lv_iload_n hx hb dX10_set_31 rfl (lv_at hl 0 rfl) ?_
    rcases wif_e hf with ⟨hq8, hf⟩ | ⟨hq8, hf⟩
    · refine lv_if_eq (tgt := 41) hx hb dX10_set_32 (by decide) (fun _ => ?_) (fun h => absurd hq8 h)
      refine lv_aload_n hx hb dX10_set_41 rfl (lv_at hl 1 rfl) ?_
      refine wm_get hx hb hts wu_X10 hown hV hW (wlt_9 (rfl : wkd 70 = 9)) (wen_9 (rfl : wkd 70 = 9)) (C := RX10) (T := TX10) (N := 31) rfl 6 (by decide) (hts _ wA_720) rfl dX10_set_42 ?_
      refine lv_iload_n hx hb dX10_set_45 rfl (lv_at hl 2 rfl) ?_
      obtain ⟨hi9, hf⟩ := wgi_e hf
      refine wm_iald hx hb hV hW (rfl : wkd 77 = 21) (n := 4) rfl hi9 dX10_set_46 ?_
      refine lv_topi (fun x10 ex10 => ?_)
      replace hf := wlet_y ex10 hf
      refine lv_istore (lv' := [(4, .int x10), (3, .int r7), (0, .ref (wad E 70)), (1, .int a1), (2, .int a2)]) hx hb dX10_set_47 hl (by decide) rfl (fun ls hl => ?_)
      refine lv_aload_n hx hb dX10_set_49 rfl (lv_at hl 2 rfl) ?_
      refine wm_get hx hb hts wu_X10 hown hV hW (wlt_9 (rfl : wkd 70 = 9)) (wen_9 (rfl : wkd 70 = 9)) (C := RX10) (T := TX10) (N := 31) rfl 6 (by decide) (hts _ wA_720) rfl dX10_set_50 ?_
      refine lv_iload_n hx hb dX10_set_53 rfl (lv_at hl 3 rfl) ?_
      refine lv_iload_n hx hb dX10_set_54 rfl (lv_at hl 4 rfl) ?_
      obtain ⟨hi11, hf⟩ := wgi_e hf
      refine wm_iast hx hb hG hV hW hS (rfl : wkd 77 = 21) (n := 4) rfl hi11 dX10_set_55 (fun H locs hW hS => ?_)
      obtain ⟨M12, hW, hf⟩ := wlet_M hW hf
      refine lv_iload hx hb dX10_set_56 (lv_at hl 0 rfl) ?_
      have hres := Option.some.inj hf
      subst hres
      exact W.iret hx hb hr (wr_q hG hV hZ hW hS) hS.2.2 dX10_set_58
    · refine lv_if_eq (tgt := 41) hx hb dX10_set_32 (by decide) (fun h => absurd h hq8) (fun _ => ?_)
      refine lv_aload_n hx hb dX10_set_35 rfl (lv_at hl 1 rfl) ?_
      refine lv_iload_n hx hb dX10_set_36 rfl (lv_at hl 0 rfl) ?_
      obtain ⟨r14, M15, hc13, hf⟩ := wbind_p hf
      refine wc_V (As := [.int r7]) (rest := []) hx hb hml hown hts hG hV hZ (wlt_9 (rfl : wkd 70 = 9)) (q := (RX10, TX10, 31)) (wen_9 (rfl : wkd 70 = 9)) rfl (cX10_no_ok l E M r7 hc13) (cwV 1 hts gl_X10_83 rfl rfl rfl cdX10_no ⟨Nat.le_of_ble_eq_true rfl, Nat.le_of_ble_eq_true rfl⟩) rfl hl.1 rfl (Nat.le_of_ble_eq_true rfl) dX10_set_37 ⟨Nat.zero_le _, Nat.zero_le _⟩ hW hS rfl (fun H locs hW hS => ?_)
      have hres := Option.some.inj hf
      subst hres
      exact W.iret hx hb hr (wr_q hG hV hZ hW hS) hS.2.2 dX10_set_40
theorem cX10_set_ok (l : Launch) (E : wE) (M : wMem) (a1 : Int32) (a2 : Int32) {res : Int32 × wMem} (hf : fX10_set M a1 a2 = some res) : wMet l yX10_set (wsM yX10_set cX10_set 5 (some .int)) ({ frames := 1, cells := 0, slots := 0, locals := 22 } : Room) E M [.ref (wad E 70), .int a1, .int a2] (some (.int res.1)) res.2 :=
  wc_of (cc := cX10_set) (maxL := 5) (ret := (some .int)) (by decide) (Nat.le_of_ble_eq_true rfl) (fun _ _ _ _ _ _ _ _ B hW hl => pX10_set B  hf hW va_S.rf hl)
end
theorem cdX10_flow : yX10_flow.cls = RX10 ∧ yX10_flow.cls ≠ "java/lang/invoke/MethodHandle" ∧ yX10_flow.cls ≠ "java/lang/invoke/VarHandle" ∧ (parseMethodDescriptor yX10_flow.desc).map (fun d => d.parameters.length) = some 0 := by decide +kernel
section
variable {p : Program} {l : Launch} {e : Env} {s : State} {m : MethodId} {args : Array Value} {below : List Frame} {meth : Method} {c : Code} {E : wE}
set_option maxRecDepth 100000 in
set_option maxHeartbeats 4000000 in
theorem pX10_flow (B : wB E p s m args meth c cX10_flow 1 RX10 (some .int)) {M : wMem}   {res : Int32} (hf : fX10_flow M  = some res) {H : Heap} {locs : List Loc} {ls : Array Slot} (hW : wH E M H) (hS : va_S (wA E) s.heap H locs) (hl : lv_has ls 1 [(0, .ref (wad E 70))]) : W p l e ({ frames := 4, cells := 0, slots := 0, locals := 83 } : Room) s m args below meth c H locs 0 0 (MQ below (wQ E (some (.int res)) M) args s 0 0 (wA E)) (F0 m 0 ls []) := by
  unfold fX10_flow at hf
  obtain ⟨hx, hb, hr, hml, hown, hts, hlocks, hG, hV, hZ⟩ := id B
  refine lv_aload_n hx hb dX10_flow_0 rfl (lv_at hl 0 rfl) ?_
  obtain ⟨r2, hc1, hf⟩ := wbind_e hf
  refine wc_V (As := []) (rest := []) hx hb hml hown hts hG hV hZ (wlt_9 (rfl : wkd 70 = 9)) (q := (RX10, TX10, 31)) (wen_9 (rfl : wkd 70 = 9)) rfl (cX10_flowNow_ok l E M  hc1) (cwV 0 hts gl_X10_168 rfl rfl rfl cdX10_flowNow ⟨Nat.le_of_ble_eq_true rfl, Nat.le_of_ble_eq_true rfl⟩) rfl hl.1 rfl (Nat.le_of_ble_eq_true rfl) dX10_flow_1 ⟨Nat.zero_le _, Nat.zero_le _⟩ hW hS rfl (fun H locs hW hS => ?_)
  have hres := Option.some.inj hf
  subst hres
  exact W.iret hx hb hr (wr_q hG hV hZ hW hS) hS.2.2 dX10_flow_4
theorem cX10_flow_ok (l : Launch) (E : wE) (M : wMem)  {res : Int32} (hf : fX10_flow M  = some res) : wMet l yX10_flow (wsM yX10_flow cX10_flow 1 (some .int)) ({ frames := 4, cells := 0, slots := 0, locals := 83 } : Room) E M [.ref (wad E 70)] (some (.int res)) M :=
  wc_of (cc := cX10_flow) (maxL := 1) (ret := (some .int)) (by decide) (Nat.le_of_ble_eq_true rfl) (fun _ _ _ _ _ _ _ _ B hW hl => pX10_flow B  hf hW va_S.rf hl)
end
theorem cdX10_doesDie : yX10_doesDie.cls = RX10 ∧ yX10_doesDie.cls ≠ "java/lang/invoke/MethodHandle" ∧ yX10_doesDie.cls ≠ "java/lang/invoke/VarHandle" ∧ (parseMethodDescriptor yX10_doesDie.desc).map (fun d => d.parameters.length) = some 2 := by decide +kernel
section
variable {p : Program} {l : Launch} {e : Env} {s : State} {m : MethodId} {args : Array Value} {below : List Frame} {meth : Method} {c : Code} {E : wE}
set_option maxRecDepth 100000 in
set_option maxHeartbeats 4000000 in
theorem pX10_doesDie_51 (B : wB E p s m args meth c cX10_doesDie 3 RX10 (some .boolean)) {M : wMem} {y1 : Int32} {z0 : Int32} {z1 : Int32}  {res : Bool}   (hf : fX10_doesDie_51 M  y1 z0 z1 = some res) {H : Heap} {locs : List Loc} {ls : Array Slot} (hW : wH E M H) (hS : va_S (wA E) s.heap H locs) (hl : lv_has ls 3 [(0, .ref (wad E 70)), (1, .int y1)]) : W p l e ({ frames := 0, cells := 0, slots := 0, locals := 0 } : Room) s m args below meth c H locs 0 0 (MQ below (wQ E (some (.int (wb res))) M) args s 0 0 (wA E)) (F0 m 51 ls [.int z1, .int z0]) := by
  unfold fX10_doesDie_51 at hf
  obtain ⟨hx, hb, hr, hml, hown, hts, hlocks, hG, hV, hZ⟩ := id B
  refine lv_aload_n hx hb dX10_doesDie_51 rfl (lv_at hl 0 rfl) ?_
  refine wm_get hx hb hts wu_X10 hown hV hW (wlt_9 (rfl : wkd 70 = 9)) (wen_9 (rfl : wkd 70 = 9)) (C := RX10) (T := TX10) (N := 31) rfl 2 (by decide) (hts _ wA_716) rfl dX10_doesDie_52 ?_
  refine lv_iload_n hx hb dX10_doesDie_55 rfl (lv_at hl 1 rfl) ?_
  obtain ⟨hi6, hf⟩ := wgi_e hf
  refine wm_iald hx hb hV hW (rfl : wkd 73 = 21) (n := 12) rfl hi6 dX10_doesDie_56 ?_
  refine lv_imul hx hb dX10_doesDie_57 ?_
  rcases wif_e hf with ⟨hq7, hf⟩ | ⟨hq7, hf⟩
  · refine lv_icmp_lt (tgt := 65) hx hb dX10_doesDie_58 (by decide) (fun _ => ?_) (fun h => absurd hq7 h)
    refine lv_iconst (v := 0) hx hb dX10_doesDie_65 rfl ?_
    have hres := Option.some.inj hf
    subst hres
    exact W.zret hx hb hr (wb_n false) (wr_q hG hV hZ hW hS) hS.2.2 dX10_doesDie_66
  · refine lv_icmp_lt (tgt := 65) hx hb dX10_doesDie_58 (by decide) (fun h => absurd h hq7) (fun _ => ?_)
    refine lv_iconst (v := 1) hx hb dX10_doesDie_61 rfl ?_
    refine lv_goto (tgt := 66) hx hb dX10_doesDie_62 (by decide) ?_
    have hres := Option.some.inj hf
    subst hres
    exact W.zret hx hb hr (wb_n true) (wr_q hG hV hZ hW hS) hS.2.2 dX10_doesDie_66
set_option maxRecDepth 100000 in
set_option maxHeartbeats 4000000 in
theorem pX10_doesDie (B : wB E p s m args meth c cX10_doesDie 3 RX10 (some .boolean)) {M : wMem} {a1 : Int32} {a2 : Int32}  {res : Bool} (hf : fX10_doesDie M a1 a2 = some res) {H : Heap} {locs : List Loc} {ls : Array Slot} (hW : wH E M H) (hS : va_S (wA E) s.heap H locs) (hl : lv_has ls 3 [(0, .ref (wad E 70)), (1, .int a1), (2, .int a2)]) : W p l e ({ frames := 0, cells := 0, slots := 0, locals := 0 } : Room) s m args below meth c H locs 0 0 (MQ below (wQ E (some (.int (wb res))) M) args s 0 0 (wA E)) (F0 m 0 ls []) := by
  unfold fX10_doesDie at hf
  obtain ⟨hx, hb, hr, hml, hown, hts, hlocks, hG, hV, hZ⟩ := id B
  refine lv_aload_n hx hb dX10_doesDie_0 rfl (lv_at hl 0 rfl) ?_
  refine wm_get hx hb hts wu_X10 hown hV hW (wlt_9 (rfl : wkd 70 = 9)) (wen_9 (rfl : wkd 70 = 9)) (C := RX10) (T := TX10) (N := 31) rfl 1 (by decide) (hts _ wA_715) rfl dX10_doesDie_1 ?_
  refine lv_iload_n hx hb dX10_doesDie_4 rfl (lv_at hl 1 rfl) ?_
  obtain ⟨hi1, hf⟩ := wgi_e hf
  refine wm_iald hx hb hV hW (rfl : wkd 72 = 21) (n := 12) rfl hi1 dX10_doesDie_5 ?_
  refine lv_iconst (v := 4) hx hb dX10_doesDie_6 rfl ?_
  rcases wif_e hf with ⟨hq2, hf⟩ | ⟨hq2, hf⟩
  · refine lv_icmp_ne (tgt := 28) hx hb dX10_doesDie_7 (by decide) (fun h => absurd hq2 h) (fun _ => ?_)
    refine lv_iload_n hx hb dX10_doesDie_10 rfl (lv_at hl 2 rfl) ?_
    refine lv_iconst (v := 5) hx hb dX10_doesDie_11 rfl ?_
    refine lv_aload_n hx hb dX10_doesDie_12 rfl (lv_at hl 0 rfl) ?_
    refine wm_get hx hb hts wu_X10 hown hV hW (wlt_9 (rfl : wkd 70 = 9)) (wen_9 (rfl : wkd 70 = 9)) (C := RX10) (T := TX10) (N := 31) rfl 2 (by decide) (hts _ wA_716) rfl dX10_doesDie_13 ?_
    refine lv_iload_n hx hb dX10_doesDie_16 rfl (lv_at hl 1 rfl) ?_
    obtain ⟨hi8, hf⟩ := wgi_e hf
    refine wm_iald hx hb hV hW (rfl : wkd 73 = 21) (n := 12) rfl hi8 dX10_doesDie_17 ?_
    refine lv_imul hx hb dX10_doesDie_18 ?_
    rcases wif_e hf with ⟨hq9, hf⟩ | ⟨hq9, hf⟩
    · refine lv_icmp_le (tgt := 26) hx hb dX10_doesDie_19 (by decide) (fun _ => ?_) (fun h => absurd hq9 h)
      refine lv_iconst (v := 0) hx hb dX10_doesDie_26 rfl ?_
      have hres := Option.some.inj hf
      subst hres
      exact W.zret hx hb hr (wb_n false) (wr_q hG hV hZ hW hS) hS.2.2 dX10_doesDie_27
    · refine lv_icmp_le (tgt := 26) hx hb dX10_doesDie_19 (by decide) (fun h => absurd h hq9) (fun _ => ?_)
      refine lv_iconst (v := 1) hx hb dX10_doesDie_22 rfl ?_
      refine lv_goto (tgt := 27) hx hb dX10_doesDie_23 (by decide) ?_
      have hres := Option.some.inj hf
      subst hres
      exact W.zret hx hb hr (wb_n true) (wr_q hG hV hZ hW hS) hS.2.2 dX10_doesDie_27
  · refine lv_icmp_ne (tgt := 28) hx hb dX10_doesDie_7 (by decide) (fun _ => ?_) (fun h => absurd h hq2)
    refine lv_aload_n hx hb dX10_doesDie_28 rfl (lv_at hl 0 rfl) ?_
    refine wm_get hx hb hts wu_X10 hown hV hW (wlt_9 (rfl : wkd 70 = 9)) (wen_9 (rfl : wkd 70 = 9)) (C := RX10) (T := TX10) (N := 31) rfl 4 (by decide) (hts _ wA_718) rfl dX10_doesDie_29 ?_
    refine lv_iload_n hx hb dX10_doesDie_32 rfl (lv_at hl 1 rfl) ?_
    obtain ⟨hi3, hf⟩ := wgi_e hf
    refine wm_iald hx hb hV hW (rfl : wkd 75 = 21) (n := 12) rfl hi3 dX10_doesDie_33 ?_
    refine lv_aload_n hx hb dX10_doesDie_34 rfl (lv_at hl 0 rfl) ?_
    refine wm_get hx hb hts wu_X10 hown hV hW (wlt_9 (rfl : wkd 70 = 9)) (wen_9 (rfl : wkd 70 = 9)) (C := RX10) (T := TX10) (N := 31) rfl 1 (by decide) (hts _ wA_715) rfl dX10_doesDie_35 ?_
    refine lv_iload_n hx hb dX10_doesDie_38 rfl (lv_at hl 1 rfl) ?_
    obtain ⟨hi4, hf⟩ := wgi_e hf
    refine wm_iald hx hb hV hW (rfl : wkd 72 = 21) (n := 12) rfl hi4 dX10_doesDie_39 ?_
    refine lv_iconst (v := 5) hx hb dX10_doesDie_40 rfl ?_
    rcases wif_e hf with ⟨hq5, hf⟩ | ⟨hq5, hf⟩
    · refine lv_icmp_ne (tgt := 49) hx hb dX10_doesDie_41 (by decide) (fun h => absurd hq5 h) (fun _ => ?_)
      refine lv_bipush (v := 20) hx hb dX10_doesDie_44 (by decide) ?_
      refine lv_goto (tgt := 51) hx hb dX10_doesDie_46 (by decide) ?_
      exact pX10_doesDie_51 B   hf hW hS (lv_sub hl [0, 1] rfl)
    · refine lv_icmp_ne (tgt := 49) hx hb dX10_doesDie_41 (by decide) (fun _ => ?_) (fun h => absurd h hq5)
      refine lv_bipush (v := 10) hx hb dX10_doesDie_49 (by decide) ?_
      exact pX10_doesDie_51 B   hf hW hS (lv_sub hl [0, 1] rfl)
theorem cX10_doesDie_ok (l : Launch) (E : wE) (M : wMem) (a1 : Int32) (a2 : Int32) {res : Bool} (hf : fX10_doesDie M a1 a2 = some res) : wMet l yX10_doesDie (wsM yX10_doesDie cX10_doesDie 3 (some .boolean)) ({ frames := 0, cells := 0, slots := 0, locals := 0 } : Room) E M [.ref (wad E 70), .int a1, .int a2] (some (.int (wb res))) M :=
  wc_of (cc := cX10_doesDie) (maxL := 3) (ret := (some .boolean)) (by decide) (Nat.le_of_ble_eq_true rfl) (fun _ _ _ _ _ _ _ _ B hW hl => pX10_doesDie B  hf hW va_S.rf hl)
end
