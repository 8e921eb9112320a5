/-! part 41: the first memory, and the law from its entry -/
set_option maxRecDepth 20000 in
theorem sT_50 : (Cond.initialized RX9 : Cond) ∈ lw_tbl := List.mem_of_getElem? (i := 50) (by decide +kernel)
set_option maxRecDepth 20000 in
theorem sT_59 : (Cond.initialized RX10 : Cond) ∈ lw_tbl := List.mem_of_getElem? (i := 59) (by decide +kernel)
set_option maxRecDepth 20000 in
theorem sA_62 : (Cond.classLink RL 7 RX9 : Cond) ∈ wsA := wA_of 62 (by decide +kernel) rfl
set_option maxRecDepth 20000 in
theorem sT_63 : (Cond.instantiable RX9 10 : Cond) ∈ lw_tbl := List.mem_of_getElem? (i := 63) (by decide +kernel)
set_option maxRecDepth 20000 in
theorem sA_63 : (Cond.instantiable RX9 10 : Cond) ∈ wsA := wA_of 63 (by decide +kernel) rfl
set_option maxRecDepth 20000 in
theorem sA_64 : (Cond.methodLink RL 9 yX9_init : Cond) ∈ wsA := wA_of 64 (by decide +kernel) rfl
set_option maxRecDepth 20000 in
theorem sA_65 : (Cond.instanceMethod yX9_init : Cond) ∈ wsA := wA_of 65 (by decide +kernel) rfl
set_option maxRecDepth 20000 in
theorem sA_66 : (Cond.code yX9_init cX9_init 1 none : Cond) ∈ wsA := wA_of 66 (by decide +kernel) rfl
set_option maxRecDepth 20000 in
theorem sT_71 : (Cond.instantiable RX5 4 : Cond) ∈ lw_tbl := List.mem_of_getElem? (i := 71) (by decide +kernel)
set_option maxRecDepth 20000 in
theorem sT_77 : (Cond.arrayOver (.object RX1) : Cond) ∈ lw_tbl := List.mem_of_getElem? (i := 77) (by decide +kernel)
set_option maxRecDepth 20000 in
theorem sT_78 : (Cond.instantiable RX1 5 : Cond) ∈ lw_tbl := List.mem_of_getElem? (i := 78) (by decide +kernel)
set_option maxRecDepth 20000 in
theorem sT_79 : (Cond.methodLinkNest RX5 21 yX1_init RX9 : Cond) ∈ lw_tbl := List.mem_of_getElem? (i := 79) (by decide +kernel)
set_option maxRecDepth 20000 in
theorem sT_108 : (Cond.arrayClass .int : Cond) ∈ lw_tbl := List.mem_of_getElem? (i := 108) (by decide +kernel)
set_option maxRecDepth 20000 in
theorem sT_134 : (Cond.instantiable RX4 1 : Cond) ∈ lw_tbl := List.mem_of_getElem? (i := 134) (by decide +kernel)
set_option maxRecDepth 20000 in
theorem sT_135 : (Cond.methodLinkNest RX9 21 yX4_init RX9 : Cond) ∈ lw_tbl := List.mem_of_getElem? (i := 135) (by decide +kernel)
set_option maxRecDepth 20000 in
theorem sT_146 : (Cond.instantiable RX2 2 : Cond) ∈ lw_tbl := List.mem_of_getElem? (i := 146) (by decide +kernel)
set_option maxRecDepth 20000 in
theorem sT_147 : (Cond.methodLinkNest RX9 28 yX2_init RX9 : Cond) ∈ lw_tbl := List.mem_of_getElem? (i := 147) (by decide +kernel)
set_option maxRecDepth 20000 in
theorem sT_159 : (Cond.arrayClass .char : Cond) ∈ lw_tbl := List.mem_of_getElem? (i := 159) (by decide +kernel)
set_option maxRecDepth 20000 in
theorem sT_161 : (Cond.instantiable RX7 6 : Cond) ∈ lw_tbl := List.mem_of_getElem? (i := 161) (by decide +kernel)
set_option maxRecDepth 20000 in
theorem sT_162 : (Cond.methodLinkNest RX9 35 yX7_init RX9 : Cond) ∈ lw_tbl := List.mem_of_getElem? (i := 162) (by decide +kernel)
set_option maxRecDepth 20000 in
theorem sT_192 : (Cond.instantiable RX3 3 : Cond) ∈ lw_tbl := List.mem_of_getElem? (i := 192) (by decide +kernel)
set_option maxRecDepth 20000 in
theorem sT_193 : (Cond.methodLinkNest RX9 42 yX3_init RX9 : Cond) ∈ lw_tbl := List.mem_of_getElem? (i := 193) (by decide +kernel)
set_option maxRecDepth 20000 in
theorem sT_209 : (Cond.instantiable RX6 1 : Cond) ∈ lw_tbl := List.mem_of_getElem? (i := 209) (by decide +kernel)
set_option maxRecDepth 20000 in
theorem sT_210 : (Cond.methodLinkNest RX9 49 yX6_init RX9 : Cond) ∈ lw_tbl := List.mem_of_getElem? (i := 210) (by decide +kernel)
set_option maxRecDepth 20000 in
theorem sT_215 : (Cond.arrayOver (.array .int) : Cond) ∈ lw_tbl := List.mem_of_getElem? (i := 215) (by decide +kernel)
set_option maxRecDepth 20000 in
theorem sT_221 : (Cond.instantiable RX8 1 : Cond) ∈ lw_tbl := List.mem_of_getElem? (i := 221) (by decide +kernel)
set_option maxRecDepth 20000 in
theorem sT_222 : (Cond.methodLinkNest RX9 56 yX8_init RX9 : Cond) ∈ lw_tbl := List.mem_of_getElem? (i := 222) (by decide +kernel)
set_option maxRecDepth 20000 in
theorem sT_337 : (Cond.fieldLinkNest RX5 66 "OneLampAllOut" "LEAST_SETTING" "[I" "OneLampAllOut" : Cond) ∈ lw_tbl := List.mem_of_getElem? (i := 337) (by decide +kernel)
set_option maxRecDepth 20000 in
theorem sT_338 : (Cond.laysStatic RX9 "LEAST_SETTING" "[I" : Cond) ∈ lw_tbl := List.mem_of_getElem? (i := 338) (by decide +kernel)
set_option maxRecDepth 20000 in
theorem sT_339 : (Cond.fieldLinkNest RX5 69 "OneLampAllOut" "GREATEST_SETTING" "[I" "OneLampAllOut" : Cond) ∈ lw_tbl := List.mem_of_getElem? (i := 339) (by decide +kernel)
set_option maxRecDepth 20000 in
theorem sT_340 : (Cond.laysStatic RX9 "GREATEST_SETTING" "[I" : Cond) ∈ lw_tbl := List.mem_of_getElem? (i := 340) (by decide +kernel)
set_option maxRecDepth 20000 in
theorem sA_708 : (Cond.classLink RL 10 RX10 : Cond) ∈ wsA := wA_of 708 (by decide +kernel) rfl
set_option maxRecDepth 20000 in
theorem sT_709 : (Cond.instantiable RX10 31 : Cond) ∈ lw_tbl := List.mem_of_getElem? (i := 709) (by decide +kernel)
set_option maxRecDepth 20000 in
theorem sA_709 : (Cond.instantiable RX10 31 : Cond) ∈ wsA := wA_of 709 (by decide +kernel) rfl
set_option maxRecDepth 20000 in
theorem sA_710 : (Cond.methodLink RL 12 yX10_init : Cond) ∈ wsA := wA_of 710 (by decide +kernel) rfl
set_option maxRecDepth 20000 in
theorem sA_711 : (Cond.instanceMethod yX10_init : Cond) ∈ wsA := wA_of 711 (by decide +kernel) rfl
set_option maxRecDepth 20000 in
theorem sA_712 : (Cond.code yX10_init cX10_init 1 none : Cond) ∈ wsA := wA_of 712 (by decide +kernel) rfl
set_option maxRecDepth 20000 in
theorem sT_922 : (Cond.laysStatic RX10 "LEAST_SET" "[I" : Cond) ∈ lw_tbl := List.mem_of_getElem? (i := 922) (by decide +kernel)
set_option maxRecDepth 20000 in
theorem sT_924 : (Cond.laysStatic RX10 "MOST_SET" "[I" : Cond) ∈ lw_tbl := List.mem_of_getElem? (i := 924) (by decide +kernel)
theorem s_arr {ty : FieldType} {args : Array Value} {s : State} (h : (Cond.arrayClass ty).before args s = true) : ∃ cA : ClassId, ArrOfT s cA ty ∧ s.vm.findClass ("[" ++ ty.toString) = some cA := by
  obtain ⟨c, k, comp, h1, h2, h3⟩ := Cond.arrayClass_spec h
  exact ⟨c, fun n z => ⟨(fun q hq => by cases hq), k, h2, comp, h3⟩, h1⟩
theorem s_K {args : Array Value} {s : State} (hts : ∀ w ∈ lw_tbl, w.before args s = true) : ∃ (D : va_G) (y : nC), va_K D vwCl (nTy y) s := by
  have htsA : ∀ w ∈ wsA, w.before args s = true := fun w h => hts w (wA_in w h)
  obtain ⟨c1, i1, k1⟩ := u_known (C := RX1) (T := TX1) (N := 5) (n := 5) htsA wu_X1 (hts _ sT_78)
  obtain ⟨c2, i2, k2⟩ := u_known (C := RX2) (T := TX2) (N := 2) (n := 2) htsA wu_X2 (hts _ sT_146)
  obtain ⟨c3, i3, k3⟩ := u_known (C := RX3) (T := TX3) (N := 3) (n := 3) htsA wu_X3 (hts _ sT_192)
  obtain ⟨c4, i4, k4⟩ := u_known (C := RX4) (T := TX4) (N := 1) (n := 1) htsA wu_X4 (hts _ sT_134)
  obtain ⟨c5, i5, k5⟩ := u_known (C := RX5) (T := TX5) (N := 4) (n := 4) htsA wu_X5 (hts _ sT_71)
  obtain ⟨c6, i6, k6⟩ := u_known (C := RX6) (T := TX6) (N := 1) (n := 1) htsA wu_X6 (hts _ sT_209)
  obtain ⟨c7, i7, k7⟩ := u_known (C := RX7) (T := TX7) (N := 6) (n := 6) htsA wu_X7 (hts _ sT_161)
  obtain ⟨c8, i8, k8⟩ := u_known (C := RX8) (T := TX8) (N := 1) (n := 1) htsA wu_X8 (hts _ sT_221)
  obtain ⟨c9, i9, k9⟩ := u_known (C := RX9) (T := TX9) (N := 10) (n := 10) htsA wu_X9 (hts _ sT_63)
  obtain ⟨c10, i10, k10⟩ := u_known (C := RX10) (T := TX10) (N := 31) (n := 31) htsA wu_X10 (hts _ sT_709)
  obtain ⟨a0, p0, q0⟩ := s_arr (hts _ sT_159)
  obtain ⟨a1, p1, q1⟩ := s_arr (hts _ sT_108)
  obtain ⟨o1, a2, o2, o3, o4, o5, o6, o7⟩ := Cond.arrayOver_spec (hts _ sT_77)
  obtain ⟨n1, a3, n2, n3, n4, n5, n6, n7⟩ := arrayOverA_spec (hts _ sT_215)
  refine ⟨(fun k => [c1, c2, c3, c4, c5, c6, c7, c8, c9, c10].getD k c1, fun k => [i1, i2, i3, i4, i5, i6, i7, i8, i9, i10].getD k i1), fun k => [a0, a1, a2, a3].getD k a0, fun k q hq => ?_, fun k q hq => ?_⟩
  · match k, hq with
    | 0, hq => cases hq; exact k1
    | 1, hq => cases hq; exact k2
    | 2, hq => cases hq; exact k3
    | 3, hq => cases hq; exact k4
    | 4, hq => cases hq; exact k5
    | 5, hq => cases hq; exact k6
    | 6, hq => cases hq; exact k7
    | 7, hq => cases hq; exact k8
    | 8, hq => cases hq; exact k9
    | 9, hq => cases hq; exact k10
    | k + 10, hq => simp [vwCl] at hq
  · match k, hq with
    | 0, hq => cases hq; exact ⟨p0, q0⟩
    | 1, hq => cases hq; exact ⟨p1, q1⟩
    | 2, hq => cases hq; exact ⟨fun n z => ⟨(fun q hq => by cases hq), o2, o5, o1, o6⟩, o2, o1, o5, o6, o3, o7⟩
    | 3, hq => cases hq; exact ⟨fun n z => ⟨(fun q hq => by cases hq), n2, n5, n1, n6⟩, n7⟩
    | k + 4, hq => simp [nTy] at hq
theorem s_N {args : Array Value} {s : State} (hts : ∀ w ∈ lw_tbl, w.before args s = true) : nN s := ⟨⟨va_Nw.of rfl (hts _ sT_79), va_Nw.of rfl (hts _ sT_135), va_Nw.of rfl (hts _ sT_147), va_Nw.of rfl (hts _ sT_162)⟩, ⟨va_Nw.of rfl (hts _ sT_193), va_Nw.of rfl (hts _ sT_210), va_Nw.of rfl (hts _ sT_222)⟩, va_AO.of (hts _ sT_77), va_AOA.of (hts _ sT_215)⟩
theorem s_tab {args : Array Value} {s : State} {A : Nat → Prop} {C n : String} {f : Nat → Int32} (hl : (Cond.laysStatic C n "[I").before args s = true) (hini : (Cond.initialized C).before args s = true) (harr : (Cond.arrayOf (.static C n "[I") .int).before args s = true) (hlen : (Cond.eq (.length (.static C n "[I")) (.int 4)).before args s = true) (h0 : (Cond.eq (.elem (.static C n "[I") (.int 0)) (.int (f 0))).before args s = true) (h1 : (Cond.eq (.elem (.static C n "[I") (.int 1)) (.int (f 1))).before args s = true) (h2 : (Cond.eq (.elem (.static C n "[I") (.int 2)) (.int (f 2))).before args s = true) (h3 : (Cond.eq (.elem (.static C n "[I") (.int 3)) (.int (f 3))).before args s = true) (hA : ∀ a : Nat, a < s.heap.size → ¬ A a) : ∃ t : Nat, va_Z C n "[I" (.ref t) A s s.heap ∧ va_T .int t 4 (fun j => .int (f j)) A s s.heap := by
  obtain ⟨t, ht, hT⟩ := va_Tof (N := 4) (f := fun j => .int (f j)) (A := A) (by decide) harr (va_eqt hlen) (fun j hj => by
    rcases (show j = 0 ∨ j = 1 ∨ j = 2 ∨ j = 3 by omega) with rfl | rfl | rfl | rfl
    · exact va_eqt h0
    · exact va_eqt h1
    · exact va_eqt h2
    · exact va_eqt h3) hA
  exact ⟨t, va_Zref hl hini ht hA, hT⟩
theorem s_Z {b : Nat} {s : State} (hts : ∀ w ∈ lw_tbl, w.before #[Value.ref b] s = true) (hgv : (Jvm.Cond.and given_1 narrow_1).before #[Value.ref b] s = true) : ∃ st : Nat → Nat, ∀ (D : va_G) (ad : Nat → Nat) (y : nC), wZ (D, ad, y, st, s.heap.size) s s.heap := by
  have hs := flat_of_before _ hgv
  have hA : ∀ a : Nat, a < s.heap.size → ¬ (fun q : Nat => s.heap.size ≤ q) a := fun a h => Nat.not_le.mpr h
  obtain ⟨t0, z0, r0⟩ := s_tab (A := fun q : Nat => s.heap.size ≤ q) (C := RX9) (n := "LEAST_SETTING") (f := wtab 0) (hts _ sT_338) (hts _ sT_50) (hs (.arrayOf (.static "OneLampAllOut" "LEAST_SETTING" "[I") .int) (by decide +kernel)) (hs (.eq (.length (.static "OneLampAllOut" "LEAST_SETTING" "[I")) (.int 4)) (by decide +kernel)) (hs (.eq (.elem (.static "OneLampAllOut" "LEAST_SETTING" "[I") (.int 0)) (.int 1)) (by decide +kernel)) (hs (.eq (.elem (.static "OneLampAllOut" "LEAST_SETTING" "[I") (.int 1)) (.int 0)) (by decide +kernel)) (hs (.eq (.elem (.static "OneLampAllOut" "LEAST_SETTING" "[I") (.int 2)) (.int 1)) (by decide +kernel)) (hs (.eq (.elem (.static "OneLampAllOut" "LEAST_SETTING" "[I") (.int 3)) (.int 1)) (by decide +kernel)) hA
  obtain ⟨t1, z1, r1⟩ := s_tab (A := fun q : Nat => s.heap.size ≤ q) (C := RX9) (n := "GREATEST_SETTING") (f := wtab 1) (hts _ sT_340) (hts _ sT_50) (hs (.arrayOf (.static "OneLampAllOut" "GREATEST_SETTING" "[I") .int) (by decide +kernel)) (hs (.eq (.length (.static "OneLampAllOut" "GREATEST_SETTING" "[I")) (.int 4)) (by decide +kernel)) (hs (.eq (.elem (.static "OneLampAllOut" "GREATEST_SETTING" "[I") (.int 0)) (.int 999)) (by decide +kernel)) (hs (.eq (.elem (.static "OneLampAllOut" "GREATEST_SETTING" "[I") (.int 1)) (.int 99)) (by decide +kernel)) (hs (.eq (.elem (.static "OneLampAllOut" "GREATEST_SETTING" "[I") (.int 2)) (.int 999)) (by decide +kernel)) (hs (.eq (.elem (.static "OneLampAllOut" "GREATEST_SETTING" "[I") (.int 3)) (.int 9)) (by decide +kernel)) hA
  obtain ⟨t2, z2, r2⟩ := s_tab (A := fun q : Nat => s.heap.size ≤ q) (C := RX10) (n := "LEAST_SET") (f := wtab 2) (hts _ sT_922) (hts _ sT_59) (hs (.arrayOf (.static "OneLampAllOutModel" "LEAST_SET" "[I") .int) (by decide +kernel)) (hs (.eq (.length (.static "OneLampAllOutModel" "LEAST_SET" "[I")) (.int 4)) (by decide +kernel)) (hs (.eq (.elem (.static "OneLampAllOutModel" "LEAST_SET" "[I") (.int 0)) (.int 1)) (by decide +kernel)) (hs (.eq (.elem (.static "OneLampAllOutModel" "LEAST_SET" "[I") (.int 1)) (.int 0)) (by decide +kernel)) (hs (.eq (.elem (.static "OneLampAllOutModel" "LEAST_SET" "[I") (.int 2)) (.int 1)) (by decide +kernel)) (hs (.eq (.elem (.static "OneLampAllOutModel" "LEAST_SET" "[I") (.int 3)) (.int 1)) (by decide +kernel)) hA
  obtain ⟨t3, z3, r3⟩ := s_tab (A := fun q : Nat => s.heap.size ≤ q) (C := RX10) (n := "MOST_SET") (f := wtab 3) (hts _ sT_924) (hts _ sT_59) (hs (.arrayOf (.static "OneLampAllOutModel" "MOST_SET" "[I") .int) (by decide +kernel)) (hs (.eq (.length (.static "OneLampAllOutModel" "MOST_SET" "[I")) (.int 4)) (by decide +kernel)) (hs (.eq (.elem (.static "OneLampAllOutModel" "MOST_SET" "[I") (.int 0)) (.int 999)) (by decide +kernel)) (hs (.eq (.elem (.static "OneLampAllOutModel" "MOST_SET" "[I") (.int 1)) (.int 99)) (by decide +kernel)) (hs (.eq (.elem (.static "OneLampAllOutModel" "MOST_SET" "[I") (.int 2)) (.int 999)) (by decide +kernel)) (hs (.eq (.elem (.static "OneLampAllOutModel" "MOST_SET" "[I") (.int 3)) (.int 9)) (by decide +kernel)) hA
  refine ⟨fun k => [t0, t1, t2, t3].getD k 0, fun D ad y => ⟨⟨z0, r0⟩, ⟨z1, r1⟩, ⟨z2, r2⟩, ⟨z3, r3⟩, va_Nw.of rfl (hts _ sT_337), va_Nw.of rfl (hts _ sT_339)⟩⟩
abbrev s9T : Type := (Nat → Nat) × (Nat → Nat) × (Nat → Nat) × (Nat × (Nat → Nat)) × Nat × (Nat × Nat) × (Nat → Nat) × Nat
def s9 (y : nC) (h0 : Nat) (u : s9T) : va_W := (h0, .inr (8, [.ref (u.1 0), .ref (u.1 1), .ref (u.1 2), .ref (u.1 3), .ref (u.1 4), .ref (u.1 5), .ref (u.1 6), .ref (u.1 7), .ref (u.1 8), .int 0])) :: ((rowW y (u.1 0) u.2.1 : va_W) ++ (rowW y (u.1 1) u.2.2.1 : va_W) ++ ((((u.1 2), .inr (3, [.ref u.2.2.2.1.1])) :: rowW y u.2.2.2.1.1 u.2.2.2.1.2) : va_W) ++ ([((u.1 3), .inr (1, [.ref u.2.2.2.2.1, .int 0])), (u.2.2.2.2.1, .inl (y 0, 64, .inl (fun _ => 0)))] : va_W) ++ ([((u.1 4), .inr (6, [.int 0, .int 0, .int 0, .int 0, .int 0, .int 0]))] : va_W) ++ ([((u.1 5), .inr (2, [.ref u.2.2.2.2.2.1.1, .ref u.2.2.2.2.2.1.2, .int 0])), (u.2.2.2.2.2.1.1, .inl (y 1, 6, .inl (fun _ => 0))), (u.2.2.2.2.2.1.2, .inl (y 1, 6, .inl (fun _ => 0)))] : va_W) ++ (searchW y (u.1 6) u.2.2.2.2.2.2.1 : va_W) ++ ([((u.1 7), .inr (7, [.ref u.2.2.2.2.2.2.2])), (u.2.2.2.2.2.2.2, .inl (y 1, 12, .inl (fun _ => 0)))] : va_W) ++ ([((u.1 8), .inl (y 1, 6, .inl (fun _ => 0)))] : va_W))
def s10 (y : nC) (h0 : Nat) (u : Nat → Nat) : va_W := [(h0, .inr (9, [.ref (u 0), .ref (u 1), .ref (u 2), .ref (u 3), .ref (u 4), .ref (u 5), .ref (u 6), .int 0, .int 0, .ref (u 7), .ref (u 8), .ref (u 9), .ref (u 10), .int 0, .int 0, .int 0, .ref (u 11), .int 0, .int 0, .int 0, .ref (u 12), .ref (u 13), .ref (u 14), .ref (u 15), .ref (u 16), .ref (u 17), .ref (u 18), .ref (u 19), .int 0, .int 0, .int 0])), (u 0, .inl (y 1, 7, .inl (fun _ => 0))), (u 1, .inl (y 1, 12, .inl (fun _ => 0))), (u 2, .inl (y 1, 12, .inl (fun _ => 0))), (u 3, .inl (y 1, 12, .inl (fun _ => 0))), (u 4, .inl (y 1, 12, .inl (fun _ => 0))), (u 5, .inl (y 1, 12, .inl (fun _ => 0))), (u 6, .inl (y 1, 4, .inl (upd (upd (upd (upd (fun _ => 0) 0 230) 1 3) 2 100) 3 3))), (u 7, .inl (y 1, 64, .inl (fun _ => 0))), (u 8, .inl (y 1, 32, .inl (fun _ => 0))), (u 9, .inl (y 1, 32, .inl (fun _ => 0))), (u 10, .inl (y 1, 96, .inl (fun _ => 0))), (u 11, .inl (y 1, 160, .inl (fun _ => 0))), (u 12, .inl (y 1, 12, .inl (fun _ => 0))), (u 13, .inl (y 1, 144, .inl (fun _ => 0))), (u 14, .inl (y 1, 144, .inl (fun _ => 0))), (u 15, .inl (y 1, 144, .inl (fun _ => 0))), (u 16, .inl (y 1, 144, .inl (fun _ => 0))), (u 17, .inl (y 1, 12, .inl (fun _ => 0))), (u 18, .inl (y 1, 6, .inl (fun _ => 0))), (u 19, .inl (y 1, 6, .inl (fun _ => 0)))]
def s_ad (h0 : Nat) (u : s9T) (h1 : Nat) (v : Nat → Nat) : List Nat := [h0, u.1 0, u.2.1 0, u.2.1 1, u.2.1 2, u.2.1 3, u.2.1 4, u.2.1 5, u.2.1 6, u.2.1 7, u.2.1 8, u.2.1 9, u.2.1 10, u.2.1 11, u.2.1 12, u.2.1 13, u.1 1, u.2.2.1 0, u.2.2.1 1, u.2.2.1 2, u.2.2.1 3, u.2.2.1 4, u.2.2.1 5, u.2.2.1 6, u.2.2.1 7, u.2.2.1 8, u.2.2.1 9, u.2.2.1 10, u.2.2.1 11, u.2.2.1 12, u.2.2.1 13, u.1 2, u.2.2.2.1.1, u.2.2.2.1.2 0, u.2.2.2.1.2 1, u.2.2.2.1.2 2, u.2.2.2.1.2 3, u.2.2.2.1.2 4, u.2.2.2.1.2 5, u.2.2.2.1.2 6, u.2.2.2.1.2 7, u.2.2.2.1.2 8, u.2.2.2.1.2 9, u.2.2.2.1.2 10, u.2.2.2.1.2 11, u.2.2.2.1.2 12, u.2.2.2.1.2 13, u.1 3, u.2.2.2.2.1, u.1 4, u.1 5, u.2.2.2.2.2.1.1, u.2.2.2.2.2.1.2, u.1 6, u.2.2.2.2.2.2.1 0, u.2.2.2.2.2.2.1 1, u.2.2.2.2.2.2.1 2, u.2.2.2.2.2.2.1 3, u.2.2.2.2.2.2.1 4, u.2.2.2.2.2.2.1 5, u.2.2.2.2.2.2.1 6, u.2.2.2.2.2.2.1 7, u.2.2.2.2.2.2.1 8, u.2.2.2.2.2.2.1 9, u.2.2.2.2.2.2.1 10, u.2.2.2.2.2.2.1 11, u.2.2.2.2.2.2.1 12, u.1 7, u.2.2.2.2.2.2.2, u.1 8, h1, v 0, v 1, v 2, v 3, v 4, v 5, v 6, v 7, v 8, v 9, v 10, v 11, v 12, v 13, v 14, v 15, v 16, v 17, v 18, v 19]
abbrev s_E (D : va_G) (y : nC) (st : Nat → Nat) (bs h0 : Nat) (u : s9T) (h1 : Nat) (v : Nat → Nat) : wE := (D, fun k => (s_ad h0 u h1 v).getD k 0, y, st, bs)
def s_z : Nat → Int32 := fun _ => 0
def s_ML : List (Nat → Int32) := [s_z, s_z, s_z, nSet, s_z, s_z, s_z, s_z, s_z, s_z, s_z, s_z, s_z, s_z, s_z, s_z, s_z, s_z, nSet, s_z, s_z, s_z, s_z, s_z, s_z, s_z, s_z, s_z, s_z, s_z, s_z, s_z, s_z, s_z, nSet, s_z, s_z, s_z, s_z, s_z, s_z, s_z, s_z, s_z, s_z, s_z, s_z, s_z, s_z, s_z, s_z, s_z, s_z, s_z, s_z, s_z, s_z, s_z, s_z, s_z, s_z, s_z, s_z, s_z, s_z, s_z, s_z, s_z, s_z, s_z, s_z, s_z, s_z, s_z, s_z, s_z, s_z, nSet, s_z, s_z, s_z, s_z, s_z, s_z, s_z, s_z, s_z, s_z, s_z, s_z, s_z]
def wM0 : wMem := fun k => s_ML.getD k s_z
theorem s_fst (y : nC) (h0 : Nat) (u : s9T) (h1 : Nat) (v : Nat → Nat) : (s9 y h0 u ++ s10 y h1 v).map Prod.fst = s_ad h0 u h1 v := rfl
theorem s_get {y : nC} {h0 : Nat} {u : s9T} {h1 : Nat} {v : Nat → Nat} {k : Nat} (hk : k < 91) : ∃ q, (s9 y h0 u ++ s10 y h1 v)[k]? = some q ∧ q.1 = (s_ad h0 u h1 v).getD k 0 := by
  have e := congrArg (fun l : List Nat => l[k]?) (s_fst y h0 u h1 v)
  have hl : k < (s_ad h0 u h1 v).length := hk
  simp only [List.getElem?_map] at e
  rw [List.getD_eq_getElem?_getD]
  cases hq : (s9 y h0 u ++ s10 y h1 v)[k]? with
  | none =>
    rw [hq, List.getElem?_eq_getElem hl] at e
    cases e
  | some q =>
    rw [hq] at e
    exact ⟨q, rfl, by rw [← e]; rfl⟩
theorem s_G {D : va_G} {y : nC} {st : Nat → Nat} {bs h0 : Nat} {u : s9T} {h1 : Nat} {v : Nat → Nat} (hD : va_D (fun q : Nat => bs ≤ q) (s9 y h0 u ++ s10 y h1 v)) : wG (s_E D y st bs h0 u h1 v) := by
  refine ⟨fun i j hi hj h => ?_, fun k hk => ?_⟩
  · obtain ⟨p, p1, p2⟩ := s_get (y := y) (h0 := h0) (u := u) (h1 := h1) (v := v) hi
    obtain ⟨q, q1, q2⟩ := s_get (y := y) (h0 := h0) (u := u) (h1 := h1) (v := v) hj
    exact hD.1 i j p q p1 q1 (by rw [p2, q2]; exact h)
  · obtain ⟨p, p1, p2⟩ := s_get (y := y) (h0 := h0) (u := u) (h1 := h1) (v := v) hk
    have := hD.2 k p p1
    rw [p2] at this
    exact this
theorem s_ub {P : Nat → Prop} {n : Nat} (h : ∀ k, k < n → P k) (hn : P n) : ∀ k, k < n + 1 → P k := fun k hk => by
  by_cases e : k = n
  · subst e
    exact hn
  · exact h k (by omega)
theorem s_g {D : va_G} {cl : List vw_C} {ws : va_W} {H : Heap} (hP : va_P D cl ws H) (k : Nat) {a : Nat} {e : va_E} (h : ws[k]? = some (a, e)) : va_at D cl (a, e) H := hP k _ h
theorem s_rw {D : va_G} {cl : List vw_C} {H : Heap} {a n : Nat} {cA : ClassId} {f g : Nat → Option Nat} (h : va_at D cl (a, .inl (cA, n, .inr (.inr (.inr (.inr f))))) H) (e : ∀ i, i < n → f i = g i) : va_at D cl (a, .inl (cA, n, .inr (.inr (.inr (.inr g))))) H := by
  show H[a]? = some (vp_cell cA (n, .inr (.inr (.inr (.inr g)))))
  rw [← n_cell e]
  exact h
def s_at (D : va_G) (y : nC) (st : Nat → Nat) (bs h0 : Nat) (u : s9T) (h1 : Nat) (v : Nat → Nat) (H : Heap) (k : Nat) : Prop := va_at D vwCl (wad (s_E D y st bs h0 u h1 v) k, wen (s_E D y st bs h0 u h1 v) k (wM0 k)) H
section
variable {D : va_G} {y : nC} {st : Nat → Nat} {bs h0 : Nat} {u : s9T} {h1 : Nat} {v : Nat → Nat} {H : Heap}
theorem s_at_0 (hP : va_P D vwCl (s9 y h0 u ++ s10 y h1 v) H) : s_at D y st bs h0 u h1 v H 0 := s_g hP 0 rfl
theorem s_at_1 (hP : va_P D vwCl (s9 y h0 u ++ s10 y h1 v) H) : s_at D y st bs h0 u h1 v H 1 := s_g hP 1 rfl
theorem s_at_2 (hP : va_P D vwCl (s9 y h0 u ++ s10 y h1 v) H) : s_at D y st bs h0 u h1 v H 2 := s_rw (s_g hP 2 rfl) (fun i hi => by
  have hi : i < 12 := hi
  rcases (show i = 0 ∨ i = 1 ∨ i = 2 ∨ i = 3 ∨ i = 4 ∨ i = 5 ∨ i = 6 ∨ i = 7 ∨ i = 8 ∨ i = 9 ∨ i = 10 ∨ i = 11 by omega) with rfl | rfl | rfl | rfl | rfl | rfl | rfl | rfl | rfl | rfl | rfl | rfl <;> rfl)
theorem s_at_3 (hP : va_P D vwCl (s9 y h0 u ++ s10 y h1 v) H) : s_at D y st bs h0 u h1 v H 3 := s_g hP 3 rfl
theorem s_at_4 (hP : va_P D vwCl (s9 y h0 u ++ s10 y h1 v) H) : s_at D y st bs h0 u h1 v H 4 := s_g hP 4 rfl
theorem s_at_5 (hP : va_P D vwCl (s9 y h0 u ++ s10 y h1 v) H) : s_at D y st bs h0 u h1 v H 5 := s_g hP 5 rfl
theorem s_at_6 (hP : va_P D vwCl (s9 y h0 u ++ s10 y h1 v) H) : s_at D y st bs h0 u h1 v H 6 := s_g hP 6 rfl
theorem s_at_7 (hP : va_P D vwCl (s9 y h0 u ++ s10 y h1 v) H) : s_at D y st bs h0 u h1 v H 7 := s_g hP 7 rfl
theorem s_at_8 (hP : va_P D vwCl (s9 y h0 u ++ s10 y h1 v) H) : s_at D y st bs h0 u h1 v H 8 := s_g hP 8 rfl
theorem s_at_9 (hP : va_P D vwCl (s9 y h0 u ++ s10 y h1 v) H) : s_at D y st bs h0 u h1 v H 9 := s_g hP 9 rfl
theorem s_at_10 (hP : va_P D vwCl (s9 y h0 u ++ s10 y h1 v) H) : s_at D y st bs h0 u h1 v H 10 := s_g hP 10 rfl
theorem s_at_11 (hP : va_P D vwCl (s9 y h0 u ++ s10 y h1 v) H) : s_at D y st bs h0 u h1 v H 11 := s_g hP 11 rfl
theorem s_at_12 (hP : va_P D vwCl (s9 y h0 u ++ s10 y h1 v) H) : s_at D y st bs h0 u h1 v H 12 := s_g hP 12 rfl
theorem s_at_13 (hP : va_P D vwCl (s9 y h0 u ++ s10 y h1 v) H) : s_at D y st bs h0 u h1 v H 13 := s_g hP 13 rfl
theorem s_at_14 (hP : va_P D vwCl (s9 y h0 u ++ s10 y h1 v) H) : s_at D y st bs h0 u h1 v H 14 := s_g hP 14 rfl
theorem s_at_15 (hP : va_P D vwCl (s9 y h0 u ++ s10 y h1 v) H) : s_at D y st bs h0 u h1 v H 15 := s_g hP 15 rfl
theorem s_at_16 (hP : va_P D vwCl (s9 y h0 u ++ s10 y h1 v) H) : s_at D y st bs h0 u h1 v H 16 := s_g hP 16 rfl
theorem s_at_17 (hP : va_P D vwCl (s9 y h0 u ++ s10 y h1 v) H) : s_at D y st bs h0 u h1 v H 17 := s_rw (s_g hP 17 rfl) (fun i hi => by
  have hi : i < 12 := hi
  rcases (show i = 0 ∨ i = 1 ∨ i = 2 ∨ i = 3 ∨ i = 4 ∨ i = 5 ∨ i = 6 ∨ i = 7 ∨ i = 8 ∨ i = 9 ∨ i = 10 ∨ i = 11 by omega) with rfl | rfl | rfl | rfl | rfl | rfl | rfl | rfl | rfl | rfl | rfl | rfl <;> rfl)
theorem s_at_18 (hP : va_P D vwCl (s9 y h0 u ++ s10 y h1 v) H) : s_at D y st bs h0 u h1 v H 18 := s_g hP 18 rfl
theorem s_at_19 (hP : va_P D vwCl (s9 y h0 u ++ s10 y h1 v) H) : s_at D y st bs h0 u h1 v H 19 := s_g hP 19 rfl
theorem s_at_20 (hP : va_P D vwCl (s9 y h0 u ++ s10 y h1 v) H) : s_at D y st bs h0 u h1 v H 20 := s_g hP 20 rfl
theorem s_at_21 (hP : va_P D vwCl (s9 y h0 u ++ s10 y h1 v) H) : s_at D y st bs h0 u h1 v H 21 := s_g hP 21 rfl
theorem s_at_22 (hP : va_P D vwCl (s9 y h0 u ++ s10 y h1 v) H) : s_at D y st bs h0 u h1 v H 22 := s_g hP 22 rfl
theorem s_at_23 (hP : va_P D vwCl (s9 y h0 u ++ s10 y h1 v) H) : s_at D y st bs h0 u h1 v H 23 := s_g hP 23 rfl
theorem s_at_24 (hP : va_P D vwCl (s9 y h0 u ++ s10 y h1 v) H) : s_at D y st bs h0 u h1 v H 24 := s_g hP 24 rfl
theorem s_at_25 (hP : va_P D vwCl (s9 y h0 u ++ s10 y h1 v) H) : s_at D y st bs h0 u h1 v H 25 := s_g hP 25 rfl
theorem s_at_26 (hP : va_P D vwCl (s9 y h0 u ++ s10 y h1 v) H) : s_at D y st bs h0 u h1 v H 26 := s_g hP 26 rfl
theorem s_at_27 (hP : va_P D vwCl (s9 y h0 u ++ s10 y h1 v) H) : s_at D y st bs h0 u h1 v H 27 := s_g hP 27 rfl
theorem s_at_28 (hP : va_P D vwCl (s9 y h0 u ++ s10 y h1 v) H) : s_at D y st bs h0 u h1 v H 28 := s_g hP 28 rfl
theorem s_at_29 (hP : va_P D vwCl (s9 y h0 u ++ s10 y h1 v) H) : s_at D y st bs h0 u h1 v H 29 := s_g hP 29 rfl
theorem s_at_30 (hP : va_P D vwCl (s9 y h0 u ++ s10 y h1 v) H) : s_at D y st bs h0 u h1 v H 30 := s_g hP 30 rfl
theorem s_at_31 (hP : va_P D vwCl (s9 y h0 u ++ s10 y h1 v) H) : s_at D y st bs h0 u h1 v H 31 := s_g hP 31 rfl
theorem s_at_32 (hP : va_P D vwCl (s9 y h0 u ++ s10 y h1 v) H) : s_at D y st bs h0 u h1 v H 32 := s_g hP 32 rfl
theorem s_at_33 (hP : va_P D vwCl (s9 y h0 u ++ s10 y h1 v) H) : s_at D y st bs h0 u h1 v H 33 := s_rw (s_g hP 33 rfl) (fun i hi => by
  have hi : i < 12 := hi
  rcases (show i = 0 ∨ i = 1 ∨ i = 2 ∨ i = 3 ∨ i = 4 ∨ i = 5 ∨ i = 6 ∨ i = 7 ∨ i = 8 ∨ i = 9 ∨ i = 10 ∨ i = 11 by omega) with rfl | rfl | rfl | rfl | rfl | rfl | rfl | rfl | rfl | rfl | rfl | rfl <;> rfl)
theorem s_at_34 (hP : va_P D vwCl (s9 y h0 u ++ s10 y h1 v) H) : s_at D y st bs h0 u h1 v H 34 := s_g hP 34 rfl
theorem s_at_35 (hP : va_P D vwCl (s9 y h0 u ++ s10 y h1 v) H) : s_at D y st bs h0 u h1 v H 35 := s_g hP 35 rfl
theorem s_at_36 (hP : va_P D vwCl (s9 y h0 u ++ s10 y h1 v) H) : s_at D y st bs h0 u h1 v H 36 := s_g hP 36 rfl
theorem s_at_37 (hP : va_P D vwCl (s9 y h0 u ++ s10 y h1 v) H) : s_at D y st bs h0 u h1 v H 37 := s_g hP 37 rfl
theorem s_at_38 (hP : va_P D vwCl (s9 y h0 u ++ s10 y h1 v) H) : s_at D y st bs h0 u h1 v H 38 := s_g hP 38 rfl
theorem s_at_39 (hP : va_P D vwCl (s9 y h0 u ++ s10 y h1 v) H) : s_at D y st bs h0 u h1 v H 39 := s_g hP 39 rfl
theorem s_at_40 (hP : va_P D vwCl (s9 y h0 u ++ s10 y h1 v) H) : s_at D y st bs h0 u h1 v H 40 := s_g hP 40 rfl
theorem s_at_41 (hP : va_P D vwCl (s9 y h0 u ++ s10 y h1 v) H) : s_at D y st bs h0 u h1 v H 41 := s_g hP 41 rfl
theorem s_at_42 (hP : va_P D vwCl (s9 y h0 u ++ s10 y h1 v) H) : s_at D y st bs h0 u h1 v H 42 := s_g hP 42 rfl
theorem s_at_43 (hP : va_P D vwCl (s9 y h0 u ++ s10 y h1 v) H) : s_at D y st bs h0 u h1 v H 43 := s_g hP 43 rfl
theorem s_at_44 (hP : va_P D vwCl (s9 y h0 u ++ s10 y h1 v) H) : s_at D y st bs h0 u h1 v H 44 := s_g hP 44 rfl
theorem s_at_45 (hP : va_P D vwCl (s9 y h0 u ++ s10 y h1 v) H) : s_at D y st bs h0 u h1 v H 45 := s_g hP 45 rfl
theorem s_at_46 (hP : va_P D vwCl (s9 y h0 u ++ s10 y h1 v) H) : s_at D y st bs h0 u h1 v H 46 := s_g hP 46 rfl
theorem s_at_47 (hP : va_P D vwCl (s9 y h0 u ++ s10 y h1 v) H) : s_at D y st bs h0 u h1 v H 47 := s_g hP 47 rfl
theorem s_at_48 (hP : va_P D vwCl (s9 y h0 u ++ s10 y h1 v) H) : s_at D y st bs h0 u h1 v H 48 := s_g hP 48 rfl
theorem s_at_49 (hP : va_P D vwCl (s9 y h0 u ++ s10 y h1 v) H) : s_at D y st bs h0 u h1 v H 49 := s_g hP 49 rfl
theorem s_at_50 (hP : va_P D vwCl (s9 y h0 u ++ s10 y h1 v) H) : s_at D y st bs h0 u h1 v H 50 := s_g hP 50 rfl
theorem s_at_51 (hP : va_P D vwCl (s9 y h0 u ++ s10 y h1 v) H) : s_at D y st bs h0 u h1 v H 51 := s_g hP 51 rfl
theorem s_at_52 (hP : va_P D vwCl (s9 y h0 u ++ s10 y h1 v) H) : s_at D y st bs h0 u h1 v H 52 := s_g hP 52 rfl
theorem s_at_53 (hP : va_P D vwCl (s9 y h0 u ++ s10 y h1 v) H) : s_at D y st bs h0 u h1 v H 53 := s_g hP 53 rfl
theorem s_at_54 (hP : va_P D vwCl (s9 y h0 u ++ s10 y h1 v) H) : s_at D y st bs h0 u h1 v H 54 := s_rw (s_g hP 54 rfl) (fun i hi => by
  have hi : i < 12 := hi
  rcases (show i = 0 ∨ i = 1 ∨ i = 2 ∨ i = 3 ∨ i = 4 ∨ i = 5 ∨ i = 6 ∨ i = 7 ∨ i = 8 ∨ i = 9 ∨ i = 10 ∨ i = 11 by omega) with rfl | rfl | rfl | rfl | rfl | rfl | rfl | rfl | rfl | rfl | rfl | rfl <;> rfl)
theorem s_at_55 (hP : va_P D vwCl (s9 y h0 u ++ s10 y h1 v) H) : s_at D y st bs h0 u h1 v H 55 := s_g hP 55 rfl
theorem s_at_56 (hP : va_P D vwCl (s9 y h0 u ++ s10 y h1 v) H) : s_at D y st bs h0 u h1 v H 56 := s_g hP 56 rfl
theorem s_at_57 (hP : va_P D vwCl (s9 y h0 u ++ s10 y h1 v) H) : s_at D y st bs h0 u h1 v H 57 := s_g hP 57 rfl
theorem s_at_58 (hP : va_P D vwCl (s9 y h0 u ++ s10 y h1 v) H) : s_at D y st bs h0 u h1 v H 58 := s_g hP 58 rfl
theorem s_at_59 (hP : va_P D vwCl (s9 y h0 u ++ s10 y h1 v) H) : s_at D y st bs h0 u h1 v H 59 := s_g hP 59 rfl
theorem s_at_60 (hP : va_P D vwCl (s9 y h0 u ++ s10 y h1 v) H) : s_at D y st bs h0 u h1 v H 60 := s_g hP 60 rfl
theorem s_at_61 (hP : va_P D vwCl (s9 y h0 u ++ s10 y h1 v) H) : s_at D y st bs h0 u h1 v H 61 := s_g hP 61 rfl
theorem s_at_62 (hP : va_P D vwCl (s9 y h0 u ++ s10 y h1 v) H) : s_at D y st bs h0 u h1 v H 62 := s_g hP 62 rfl
theorem s_at_63 (hP : va_P D vwCl (s9 y h0 u ++ s10 y h1 v) H) : s_at D y st bs h0 u h1 v H 63 := s_g hP 63 rfl
theorem s_at_64 (hP : va_P D vwCl (s9 y h0 u ++ s10 y h1 v) H) : s_at D y st bs h0 u h1 v H 64 := s_g hP 64 rfl
theorem s_at_65 (hP : va_P D vwCl (s9 y h0 u ++ s10 y h1 v) H) : s_at D y st bs h0 u h1 v H 65 := s_g hP 65 rfl
theorem s_at_66 (hP : va_P D vwCl (s9 y h0 u ++ s10 y h1 v) H) : s_at D y st bs h0 u h1 v H 66 := s_g hP 66 rfl
theorem s_at_67 (hP : va_P D vwCl (s9 y h0 u ++ s10 y h1 v) H) : s_at D y st bs h0 u h1 v H 67 := s_g hP 67 rfl
theorem s_at_68 (hP : va_P D vwCl (s9 y h0 u ++ s10 y h1 v) H) : s_at D y st bs h0 u h1 v H 68 := s_g hP 68 rfl
theorem s_at_69 (hP : va_P D vwCl (s9 y h0 u ++ s10 y h1 v) H) : s_at D y st bs h0 u h1 v H 69 := s_g hP 69 rfl
theorem s_at_70 (hP : va_P D vwCl (s9 y h0 u ++ s10 y h1 v) H) : s_at D y st bs h0 u h1 v H 70 := s_g hP 70 rfl
theorem s_at_71 (hP : va_P D vwCl (s9 y h0 u ++ s10 y h1 v) H) : s_at D y st bs h0 u h1 v H 71 := s_g hP 71 rfl
theorem s_at_72 (hP : va_P D vwCl (s9 y h0 u ++ s10 y h1 v) H) : s_at D y st bs h0 u h1 v H 72 := s_g hP 72 rfl
theorem s_at_73 (hP : va_P D vwCl (s9 y h0 u ++ s10 y h1 v) H) : s_at D y st bs h0 u h1 v H 73 := s_g hP 73 rfl
theorem s_at_74 (hP : va_P D vwCl (s9 y h0 u ++ s10 y h1 v) H) : s_at D y st bs h0 u h1 v H 74 := s_g hP 74 rfl
theorem s_at_75 (hP : va_P D vwCl (s9 y h0 u ++ s10 y h1 v) H) : s_at D y st bs h0 u h1 v H 75 := s_g hP 75 rfl
theorem s_at_76 (hP : va_P D vwCl (s9 y h0 u ++ s10 y h1 v) H) : s_at D y st bs h0 u h1 v H 76 := s_g hP 76 rfl
theorem s_at_77 (hP : va_P D vwCl (s9 y h0 u ++ s10 y h1 v) H) : s_at D y st bs h0 u h1 v H 77 := s_g hP 77 rfl
theorem s_at_78 (hP : va_P D vwCl (s9 y h0 u ++ s10 y h1 v) H) : s_at D y st bs h0 u h1 v H 78 := s_g hP 78 rfl
theorem s_at_79 (hP : va_P D vwCl (s9 y h0 u ++ s10 y h1 v) H) : s_at D y st bs h0 u h1 v H 79 := s_g hP 79 rfl
theorem s_at_80 (hP : va_P D vwCl (s9 y h0 u ++ s10 y h1 v) H) : s_at D y st bs h0 u h1 v H 80 := s_g hP 80 rfl
theorem s_at_81 (hP : va_P D vwCl (s9 y h0 u ++ s10 y h1 v) H) : s_at D y st bs h0 u h1 v H 81 := s_g hP 81 rfl
theorem s_at_82 (hP : va_P D vwCl (s9 y h0 u ++ s10 y h1 v) H) : s_at D y st bs h0 u h1 v H 82 := s_g hP 82 rfl
theorem s_at_83 (hP : va_P D vwCl (s9 y h0 u ++ s10 y h1 v) H) : s_at D y st bs h0 u h1 v H 83 := s_g hP 83 rfl
theorem s_at_84 (hP : va_P D vwCl (s9 y h0 u ++ s10 y h1 v) H) : s_at D y st bs h0 u h1 v H 84 := s_g hP 84 rfl
theorem s_at_85 (hP : va_P D vwCl (s9 y h0 u ++ s10 y h1 v) H) : s_at D y st bs h0 u h1 v H 85 := s_g hP 85 rfl
theorem s_at_86 (hP : va_P D vwCl (s9 y h0 u ++ s10 y h1 v) H) : s_at D y st bs h0 u h1 v H 86 := s_g hP 86 rfl
theorem s_at_87 (hP : va_P D vwCl (s9 y h0 u ++ s10 y h1 v) H) : s_at D y st bs h0 u h1 v H 87 := s_g hP 87 rfl
theorem s_at_88 (hP : va_P D vwCl (s9 y h0 u ++ s10 y h1 v) H) : s_at D y st bs h0 u h1 v H 88 := s_g hP 88 rfl
theorem s_at_89 (hP : va_P D vwCl (s9 y h0 u ++ s10 y h1 v) H) : s_at D y st bs h0 u h1 v H 89 := s_g hP 89 rfl
theorem s_at_90 (hP : va_P D vwCl (s9 y h0 u ++ s10 y h1 v) H) : s_at D y st bs h0 u h1 v H 90 := s_g hP 90 rfl
theorem s_H (hP : va_P D vwCl (s9 y h0 u ++ s10 y h1 v) H) : wH (s_E D y st bs h0 u h1 v) wM0 H := by
  have g0 : ∀ k, k < 0 → s_at D y st bs h0 u h1 v H k := fun k h => absurd h (Nat.not_lt_zero k)
  have g1 : ∀ k, k < 1 → s_at D y st bs h0 u h1 v H k := s_ub g0 (s_at_0 hP)
  have g2 : ∀ k, k < 2 → s_at D y st bs h0 u h1 v H k := s_ub g1 (s_at_1 hP)
  have g3 : ∀ k, k < 3 → s_at D y st bs h0 u h1 v H k := s_ub g2 (s_at_2 hP)
  have g4 : ∀ k, k < 4 → s_at D y st bs h0 u h1 v H k := s_ub g3 (s_at_3 hP)
  have g5 : ∀ k, k < 5 → s_at D y st bs h0 u h1 v H k := s_ub g4 (s_at_4 hP)
  have g6 : ∀ k, k < 6 → s_at D y st bs h0 u h1 v H k := s_ub g5 (s_at_5 hP)
  have g7 : ∀ k, k < 7 → s_at D y st bs h0 u h1 v H k := s_ub g6 (s_at_6 hP)
  have g8 : ∀ k, k < 8 → s_at D y st bs h0 u h1 v H k := s_ub g7 (s_at_7 hP)
  have g9 : ∀ k, k < 9 → s_at D y st bs h0 u h1 v H k := s_ub g8 (s_at_8 hP)
  have g10 : ∀ k, k < 10 → s_at D y st bs h0 u h1 v H k := s_ub g9 (s_at_9 hP)
  have g11 : ∀ k, k < 11 → s_at D y st bs h0 u h1 v H k := s_ub g10 (s_at_10 hP)
  have g12 : ∀ k, k < 12 → s_at D y st bs h0 u h1 v H k := s_ub g11 (s_at_11 hP)
  have g13 : ∀ k, k < 13 → s_at D y st bs h0 u h1 v H k := s_ub g12 (s_at_12 hP)
  have g14 : ∀ k, k < 14 → s_at D y st bs h0 u h1 v H k := s_ub g13 (s_at_13 hP)
  have g15 : ∀ k, k < 15 → s_at D y st bs h0 u h1 v H k := s_ub g14 (s_at_14 hP)
  have g16 : ∀ k, k < 16 → s_at D y st bs h0 u h1 v H k := s_ub g15 (s_at_15 hP)
  have g17 : ∀ k, k < 17 → s_at D y st bs h0 u h1 v H k := s_ub g16 (s_at_16 hP)
  have g18 : ∀ k, k < 18 → s_at D y st bs h0 u h1 v H k := s_ub g17 (s_at_17 hP)
  have g19 : ∀ k, k < 19 → s_at D y st bs h0 u h1 v H k := s_ub g18 (s_at_18 hP)
  have g20 : ∀ k, k < 20 → s_at D y st bs h0 u h1 v H k := s_ub g19 (s_at_19 hP)
  have g21 : ∀ k, k < 21 → s_at D y st bs h0 u h1 v H k := s_ub g20 (s_at_20 hP)
  have g22 : ∀ k, k < 22 → s_at D y st bs h0 u h1 v H k := s_ub g21 (s_at_21 hP)
  have g23 : ∀ k, k < 23 → s_at D y st bs h0 u h1 v H k := s_ub g22 (s_at_22 hP)
  have g24 : ∀ k, k < 24 → s_at D y st bs h0 u h1 v H k := s_ub g23 (s_at_23 hP)
  have g25 : ∀ k, k < 25 → s_at D y st bs h0 u h1 v H k := s_ub g24 (s_at_24 hP)
  have g26 : ∀ k, k < 26 → s_at D y st bs h0 u h1 v H k := s_ub g25 (s_at_25 hP)
  have g27 : ∀ k, k < 27 → s_at D y st bs h0 u h1 v H k := s_ub g26 (s_at_26 hP)
  have g28 : ∀ k, k < 28 → s_at D y st bs h0 u h1 v H k := s_ub g27 (s_at_27 hP)
  have g29 : ∀ k, k < 29 → s_at D y st bs h0 u h1 v H k := s_ub g28 (s_at_28 hP)
  have g30 : ∀ k, k < 30 → s_at D y st bs h0 u h1 v H k := s_ub g29 (s_at_29 hP)
  have g31 : ∀ k, k < 31 → s_at D y st bs h0 u h1 v H k := s_ub g30 (s_at_30 hP)
  have g32 : ∀ k, k < 32 → s_at D y st bs h0 u h1 v H k := s_ub g31 (s_at_31 hP)
  have g33 : ∀ k, k < 33 → s_at D y st bs h0 u h1 v H k := s_ub g32 (s_at_32 hP)
  have g34 : ∀ k, k < 34 → s_at D y st bs h0 u h1 v H k := s_ub g33 (s_at_33 hP)
  have g35 : ∀ k, k < 35 → s_at D y st bs h0 u h1 v H k := s_ub g34 (s_at_34 hP)
  have g36 : ∀ k, k < 36 → s_at D y st bs h0 u h1 v H k := s_ub g35 (s_at_35 hP)
  have g37 : ∀ k, k < 37 → s_at D y st bs h0 u h1 v H k := s_ub g36 (s_at_36 hP)
  have g38 : ∀ k, k < 38 → s_at D y st bs h0 u h1 v H k := s_ub g37 (s_at_37 hP)
  have g39 : ∀ k, k < 39 → s_at D y st bs h0 u h1 v H k := s_ub g38 (s_at_38 hP)
  have g40 : ∀ k, k < 40 → s_at D y st bs h0 u h1 v H k := s_ub g39 (s_at_39 hP)
  have g41 : ∀ k, k < 41 → s_at D y st bs h0 u h1 v H k := s_ub g40 (s_at_40 hP)
  have g42 : ∀ k, k < 42 → s_at D y st bs h0 u h1 v H k := s_ub g41 (s_at_41 hP)
  have g43 : ∀ k, k < 43 → s_at D y st bs h0 u h1 v H k := s_ub g42 (s_at_42 hP)
  have g44 : ∀ k, k < 44 → s_at D y st bs h0 u h1 v H k := s_ub g43 (s_at_43 hP)
  have g45 : ∀ k, k < 45 → s_at D y st bs h0 u h1 v H k := s_ub g44 (s_at_44 hP)
  have g46 : ∀ k, k < 46 → s_at D y st bs h0 u h1 v H k := s_ub g45 (s_at_45 hP)
  have g47 : ∀ k, k < 47 → s_at D y st bs h0 u h1 v H k := s_ub g46 (s_at_46 hP)
  have g48 : ∀ k, k < 48 → s_at D y st bs h0 u h1 v H k := s_ub g47 (s_at_47 hP)
  have g49 : ∀ k, k < 49 → s_at D y st bs h0 u h1 v H k := s_ub g48 (s_at_48 hP)
  have g50 : ∀ k, k < 50 → s_at D y st bs h0 u h1 v H k := s_ub g49 (s_at_49 hP)
  have g51 : ∀ k, k < 51 → s_at D y st bs h0 u h1 v H k := s_ub g50 (s_at_50 hP)
  have g52 : ∀ k, k < 52 → s_at D y st bs h0 u h1 v H k := s_ub g51 (s_at_51 hP)
  have g53 : ∀ k, k < 53 → s_at D y st bs h0 u h1 v H k := s_ub g52 (s_at_52 hP)
  have g54 : ∀ k, k < 54 → s_at D y st bs h0 u h1 v H k := s_ub g53 (s_at_53 hP)
  have g55 : ∀ k, k < 55 → s_at D y st bs h0 u h1 v H k := s_ub g54 (s_at_54 hP)
  have g56 : ∀ k, k < 56 → s_at D y st bs h0 u h1 v H k := s_ub g55 (s_at_55 hP)
  have g57 : ∀ k, k < 57 → s_at D y st bs h0 u h1 v H k := s_ub g56 (s_at_56 hP)
  have g58 : ∀ k, k < 58 → s_at D y st bs h0 u h1 v H k := s_ub g57 (s_at_57 hP)
  have g59 : ∀ k, k < 59 → s_at D y st bs h0 u h1 v H k := s_ub g58 (s_at_58 hP)
  have g60 : ∀ k, k < 60 → s_at D y st bs h0 u h1 v H k := s_ub g59 (s_at_59 hP)
  have g61 : ∀ k, k < 61 → s_at D y st bs h0 u h1 v H k := s_ub g60 (s_at_60 hP)
  have g62 : ∀ k, k < 62 → s_at D y st bs h0 u h1 v H k := s_ub g61 (s_at_61 hP)
  have g63 : ∀ k, k < 63 → s_at D y st bs h0 u h1 v H k := s_ub g62 (s_at_62 hP)
  have g64 : ∀ k, k < 64 → s_at D y st bs h0 u h1 v H k := s_ub g63 (s_at_63 hP)
  have g65 : ∀ k, k < 65 → s_at D y st bs h0 u h1 v H k := s_ub g64 (s_at_64 hP)
  have g66 : ∀ k, k < 66 → s_at D y st bs h0 u h1 v H k := s_ub g65 (s_at_65 hP)
  have g67 : ∀ k, k < 67 → s_at D y st bs h0 u h1 v H k := s_ub g66 (s_at_66 hP)
  have g68 : ∀ k, k < 68 → s_at D y st bs h0 u h1 v H k := s_ub g67 (s_at_67 hP)
  have g69 : ∀ k, k < 69 → s_at D y st bs h0 u h1 v H k := s_ub g68 (s_at_68 hP)
  have g70 : ∀ k, k < 70 → s_at D y st bs h0 u h1 v H k := s_ub g69 (s_at_69 hP)
  have g71 : ∀ k, k < 71 → s_at D y st bs h0 u h1 v H k := s_ub g70 (s_at_70 hP)
  have g72 : ∀ k, k < 72 → s_at D y st bs h0 u h1 v H k := s_ub g71 (s_at_71 hP)
  have g73 : ∀ k, k < 73 → s_at D y st bs h0 u h1 v H k := s_ub g72 (s_at_72 hP)
  have g74 : ∀ k, k < 74 → s_at D y st bs h0 u h1 v H k := s_ub g73 (s_at_73 hP)
  have g75 : ∀ k, k < 75 → s_at D y st bs h0 u h1 v H k := s_ub g74 (s_at_74 hP)
  have g76 : ∀ k, k < 76 → s_at D y st bs h0 u h1 v H k := s_ub g75 (s_at_75 hP)
  have g77 : ∀ k, k < 77 → s_at D y st bs h0 u h1 v H k := s_ub g76 (s_at_76 hP)
  have g78 : ∀ k, k < 78 → s_at D y st bs h0 u h1 v H k := s_ub g77 (s_at_77 hP)
  have g79 : ∀ k, k < 79 → s_at D y st bs h0 u h1 v H k := s_ub g78 (s_at_78 hP)
  have g80 : ∀ k, k < 80 → s_at D y st bs h0 u h1 v H k := s_ub g79 (s_at_79 hP)
  have g81 : ∀ k, k < 81 → s_at D y st bs h0 u h1 v H k := s_ub g80 (s_at_80 hP)
  have g82 : ∀ k, k < 82 → s_at D y st bs h0 u h1 v H k := s_ub g81 (s_at_81 hP)
  have g83 : ∀ k, k < 83 → s_at D y st bs h0 u h1 v H k := s_ub g82 (s_at_82 hP)
  have g84 : ∀ k, k < 84 → s_at D y st bs h0 u h1 v H k := s_ub g83 (s_at_83 hP)
  have g85 : ∀ k, k < 85 → s_at D y st bs h0 u h1 v H k := s_ub g84 (s_at_84 hP)
  have g86 : ∀ k, k < 86 → s_at D y st bs h0 u h1 v H k := s_ub g85 (s_at_85 hP)
  have g87 : ∀ k, k < 87 → s_at D y st bs h0 u h1 v H k := s_ub g86 (s_at_86 hP)
  have g88 : ∀ k, k < 88 → s_at D y st bs h0 u h1 v H k := s_ub g87 (s_at_87 hP)
  have g89 : ∀ k, k < 89 → s_at D y st bs h0 u h1 v H k := s_ub g88 (s_at_88 hP)
  have g90 : ∀ k, k < 90 → s_at D y st bs h0 u h1 v H k := s_ub g89 (s_at_89 hP)
  have g91 : ∀ k, k < 91 → s_at D y st bs h0 u h1 v H k := s_ub g90 (s_at_90 hP)
  intro k q hq
  obtain ⟨hk, rfl⟩ := wws_get hq
  exact g91 k hk
end
theorem s_inv : wInv wM0 := by
  refine ⟨0, fun _ _ => 0, nSet, 0, 0, fun _ => 0, fun _ => 0, 0, fun _ => 0, fun _ => 0, none, ⟨⟨Nat.zero_le _, nI_0.symm, fun i h => absurd h (Nat.not_lt_zero i), fun j _ => rfl, rfl⟩, ⟨nI_0.symm, fun i h => absurd h (Nat.not_lt_zero i)⟩, fun j _ => rfl, ⟨Nat.zero_le _, nI_0.symm, fun i h => absurd h (Nat.not_lt_zero i)⟩, rfl⟩, ⟨⟨Nat.zero_le _, nI_0.symm, fun i h => absurd h (Nat.not_lt_zero i), fun j _ => rfl, rfl⟩, ⟨nI_0.symm, fun i h => absurd h (Nat.not_lt_zero i)⟩, fun j _ => rfl, ⟨Nat.zero_le _, nI_0.symm, fun i h => absurd h (Nat.not_lt_zero i)⟩, rfl⟩, ⟨fun i h => absurd h (Nat.not_lt_zero i), ?_, ?_⟩, ⟨Nat.zero_le _, fun i h => absurd h (Nat.not_lt_zero i)⟩, trivial⟩
  · exact ⟨by decide, by decide, by decide, by decide⟩
  · exact ⟨by decide, by decide⟩
set_option maxHeartbeats 4000000 in
set_option maxRecDepth 100000 in
theorem whole_start {p : Program} {e : Env} {s : State} {m : MethodId} {below : List Frame} {meth : Method} {c : Code} (l : Launch) (hflags : l.flags = flags0) {b L : Nat} {xs : Nat → Int32} (hL : L ≤ 2048) (C0 : lw_At p s m meth c b L xs) : W p l e room_1 s m #[Value.ref b] below meth c s.heap [] 0 0 (lw_Z below #[Value.ref b] s) (entryFrame m ([Value.ref b] : List Value).toArray 4) := by
  obtain ⟨hx, hb, hr, hml, hown, hts, hX, hbl, hlocks, hgv⟩ := id C0
  have hown : s.vm.findClass RL = some m.cls := hown
  have htsA : ∀ w ∈ wsA, w.before #[Value.ref b] s = true := fun w h => hts w (wA_in w h)
  obtain ⟨D, y, hK⟩ := s_K hts
  have hN : nN s := s_N hts
  obtain ⟨st, hZ⟩ := s_Z hts hgv
  have hA : ∀ q : Nat, s.heap.size ≤ q → (fun q : Nat => s.heap.size ≤ q) q := fun _ h => h
  have hS : va_S (fun q : Nat => s.heap.size ≤ q) s.heap s.heap [] := va_S.rf
  have hP : va_P D vwCl [] s.heap := fun k q h => by simp at h
  have hD : va_D (fun q : Nat => s.heap.size ≤ q) [] := ⟨fun i j p q h => by simp at h, fun k q h => by simp at h⟩
  have hl := lv_entry ([.ref b]) (n := 4) (Nat.le_of_ble_eq_true rfl)
  rw [lg_entry_eq]
  generalize (lg_sl ([.ref b]) ++ List.replicate (4 - (lg_sl ([.ref b])).length) Slot.unset).toArray = ls at hl ⊢
  have hl : lv_has ls 4 [(0, .ref b)] := hl
  refine va_new (ci := 8) (fs := [.null, .null, .null, .null, .null, .null, .null, .null, .null, .int 0]) (C := RX9) (T := TX9) (N := 10) hx hb htsA wu_X9 tyX9 tyX9_ok hown (htsA _ sA_62) (htsA _ sA_63) (htsA _ lA_50) hK hP hD hS hA rfl (fun j hj => by rcases (show j = 0 ∨ j = 1 ∨ j = 2 ∨ j = 3 ∨ j = 4 ∨ j = 5 ∨ j = 6 ∨ j = 7 ∨ j = 8 ∨ j = 9 by omega) with rfl | rfl | rfl | rfl | rfl | rfl | rfl | rfl | rfl | rfl <;> rfl) (Nat.le_of_ble_eq_true rfl) (Nat.le_of_ble_eq_true rfl) dL_law_0 (fun q0 H hP hD hS => ?_)
  refine W.widen (k := 1) (n := 10) (by omega) (by omega) ?_
  refine lv_dup hx hb dL_law_3 rfl ?_
  have hF := n_free (wr := ([] : va_W)) hD hS hA
  refine va_callv (va_runI (As := []) (rest := [.ref q0]) ⟨hx, hb, hml, hown, htsA⟩ (nX9_init l D y q0 H.size) (cwI 0 htsA (wgM sA_66) rfl rfl rfl (htsA _ lA_50) (htsA _ sA_64) (htsA _ sA_65) rfl (by decide +kernel) ⟨Nat.le_of_ble_eq_true rfl, Nat.le_of_ble_eq_true rfl⟩) ⟨nPc_blind _ _ _ _ _, fun U hU hW => ⟨rfl, by rw [hU], by rw [hU]; exact n_last (wr := ([] : va_W)) hP, va_K.moved hW.alike hK, nN.warm hW hN⟩⟩ rfl rfl hl.1 rfl (lv_room (Nat.le_of_ble_eq_true rfl)) dL_law_4 ⟨Nat.le_of_ble_eq_true rfl, Nat.le_of_ble_eq_true rfl⟩) hS (fun x _ h => hF x h) hF (fun u t H1 locs ht hvm _ hB hz1 hk1 hS => ?_)
  obtain ⟨hP1, hD1⟩ := hB
  rw [ht] at hP1
  obtain ⟨hP, hD⟩ := n_join (wr := ([] : va_W)) hP hD hk1 hF hP1 hD1
  generalize H1 = H at hP hS ⊢
  have hP : va_P D vwCl (s9 y q0 u) H := hP
  have hD : va_D (fun q : Nat => s.heap.size ≤ q) (s9 y q0 u) := hD
  refine W.widen (k := 70) (n := 514) (by omega) (by omega) ?_
  refine lv_astore_n (lv' := [(1, .ref q0), (0, .ref b)]) hx hb dL_law_7 rfl hl (by decide) rfl (fun ls hl => ?_)
  refine va_new (ci := 9) (fs := [.null, .null, .null, .null, .null, .null, .null, .int 0, .int 0, .null, .null, .null, .null, .int 0, .int 0, .int 0, .null, .int 0, .int 0, .int 0, .null, .null, .null, .null, .null, .null, .null, .null, .int 0, .int 0, .int 0]) (C := RX10) (T := TX10) (N := 31) hx hb htsA wu_X10 tyX10 tyX10_ok hown (htsA _ sA_708) (htsA _ sA_709) (htsA _ lA_59) hK hP hD hS hA rfl (fun j hj => by rcases (show j = 0 ∨ j = 1 ∨ j = 2 ∨ j = 3 ∨ j = 4 ∨ j = 5 ∨ j = 6 ∨ j = 7 ∨ j = 8 ∨ j = 9 ∨ j = 10 ∨ j = 11 ∨ j = 12 ∨ j = 13 ∨ j = 14 ∨ j = 15 ∨ j = 16 ∨ j = 17 ∨ j = 18 ∨ j = 19 ∨ j = 20 ∨ j = 21 ∨ j = 22 ∨ j = 23 ∨ j = 24 ∨ j = 25 ∨ j = 26 ∨ j = 27 ∨ j = 28 ∨ j = 29 ∨ j = 30 by omega) with rfl | rfl | rfl | rfl | rfl | rfl | rfl | rfl | rfl | rfl | rfl | rfl | rfl | rfl | rfl | rfl | rfl | rfl | rfl | rfl | rfl | rfl | rfl | rfl | rfl | rfl | rfl | rfl | rfl | rfl | rfl <;> rfl) (Nat.le_of_ble_eq_true rfl) (Nat.le_of_ble_eq_true rfl) dL_law_8 (fun q1 H hP hD hS => ?_)
  refine W.widen (k := 71) (n := 545) (by omega) (by omega) ?_
  refine lv_dup hx hb dL_law_11 rfl ?_
  have hF := n_free (wr := (s9 y q0 u)) hD hS hA
  refine va_callv (va_runI (As := []) (rest := [.ref q1]) ⟨hx, hb, hml, hown, htsA⟩ (nX10_init l D y q1 H.size) (cwI 0 htsA (wgM sA_712) rfl rfl rfl (htsA _ lA_59) (htsA _ sA_710) (htsA _ sA_711) rfl (by decide +kernel) ⟨Nat.le_of_ble_eq_true rfl, Nat.le_of_ble_eq_true rfl⟩) ⟨nPc_blind _ _ _ _ _, fun U hU hW => ⟨rfl, by rw [hU], by rw [hU]; exact n_last (wr := (s9 y q0 u)) hP, va_K.moved hW.alike hK, nN.warm hW hN⟩⟩ rfl rfl hl.1 rfl (lv_room (Nat.le_of_ble_eq_true rfl)) dL_law_12 ⟨Nat.le_of_ble_eq_true rfl, Nat.le_of_ble_eq_true rfl⟩) hS (fun x _ h => hF x h) hF (fun v t H1 locs ht hvm _ hB hz1 hk1 hS => ?_)
  obtain ⟨hP1, hD1⟩ := hB
  rw [ht] at hP1
  obtain ⟨hP, hD⟩ := n_join (wr := (s9 y q0 u)) hP hD hk1 hF hP1 hD1
  generalize H1 = H at hP hS ⊢
  have hP : va_P D vwCl (s9 y q0 u ++ s10 y q1 v) H := hP
  have hD : va_D (fun q : Nat => s.heap.size ≤ q) (s9 y q0 u ++ s10 y q1 v) := hD
  refine W.widen (k := 91) (n := 1612) (by omega) (by omega) ?_
  refine lv_astore_n (lv' := [(2, .ref q1), (1, .ref q0), (0, .ref b)]) hx hb dL_law_15 rfl hl (by decide) rfl (fun ls hl => ?_)
  refine lv_iconst (v := 0) hx hb dL_law_16 (by decide) ?_
  refine lv_istore_n (lv' := [(3, .int 0), (2, .ref q1), (1, .ref q0), (0, .ref b)]) hx hb dL_law_17 rfl hl (by decide) rfl (fun ls hl => ?_)
  have hl : lv_has ls 4 [(0, .ref b), (1, .ref q0), (2, .ref q1), (3, .int 0)] := lv_sub hl [3, 2, 1, 0] rfl
  have B : lB (s_E D y st s.heap.size q0 u q1 v) p s m c b L xs := ⟨hx, hb, hml, hown, htsA, s_G hD, hK, hZ _ _ _, hX, hbl, Nat.not_le.mpr hbl, hL⟩
  refine law_loop B ⟨Nat.le_of_ble_eq_true rfl, Nat.le_of_ble_eq_true rfl⟩ (fun H locs ls hS => ?_) (L + 5) 0 (by omega) (by omega) wM0 H _ ls s_inv (s_H hP) hS hl
  refine lv_iconst (v := 1) hx hb dL_law_835 (by decide) ?_
  refine va_forget (fun q hq => hS.2.2 q hq) ?_
  refine W.widen (k := 600000) (n := 7302250) (Nat.le_of_ble_eq_true rfl) (Nat.le_of_ble_eq_true rfl) ?_
  exact lw_ret hx hb hr hlocks dL_law_836
