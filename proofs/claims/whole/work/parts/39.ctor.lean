/-! part 39: the constructors -/
set_option maxRecDepth 20000 in
theorem iA_68 : (Cond.instanceMethod objectInit : Cond) ∈ wsA := wA_of 68 (by decide +kernel) rfl
set_option maxRecDepth 20000 in
theorem iA_69 : (Cond.code objectInit ⟨#[0xb1]⟩ 1 none : Cond) ∈ wsA := wA_of 69 (by decide +kernel) rfl
set_option maxRecDepth 20000 in
theorem iA_82 : (Cond.methodLink RX1 3 objectInit : Cond) ∈ wsA := wA_of 82 (by decide +kernel) rfl
set_option maxRecDepth 20000 in
theorem iA_108 : (Cond.arrayClass .int : Cond) ∈ wsA := wA_of 108 (by decide +kernel) rfl
set_option maxRecDepth 20000 in
theorem iA_150 : (Cond.methodLink RX2 3 objectInit : Cond) ∈ wsA := wA_of 150 (by decide +kernel) rfl
set_option maxRecDepth 20000 in
theorem iA_151 : (Cond.fieldLink RX2 9 "OneLampAllOut$Letters" "signs" "[C" : Cond) ∈ wsA := wA_of 151 (by decide +kernel) rfl
set_option maxRecDepth 20000 in
theorem iA_159 : (Cond.arrayClass .char : Cond) ∈ wsA := wA_of 159 (by decide +kernel) rfl
set_option maxRecDepth 20000 in
theorem iA_165 : (Cond.methodLink RX7 1 objectInit : Cond) ∈ wsA := wA_of 165 (by decide +kernel) rfl
set_option maxRecDepth 20000 in
theorem iA_196 : (Cond.methodLink RX3 3 objectInit : Cond) ∈ wsA := wA_of 196 (by decide +kernel) rfl
set_option maxRecDepth 20000 in
theorem iA_197 : (Cond.fieldLink RX3 9 "OneLampAllOut$Looks" "places" "[I" : Cond) ∈ wsA := wA_of 197 (by decide +kernel) rfl
set_option maxRecDepth 20000 in
theorem iA_198 : (Cond.fieldLink RX3 15 "OneLampAllOut$Looks" "answers" "[I" : Cond) ∈ wsA := wA_of 198 (by decide +kernel) rfl
set_option maxRecDepth 20000 in
theorem iA_225 : (Cond.methodLink RX8 3 objectInit : Cond) ∈ wsA := wA_of 225 (by decide +kernel) rfl
set_option maxRecDepth 20000 in
theorem iA_226 : (Cond.fieldLink RX8 9 "OneLampAllOut$SwapOrder" "places" "[I" : Cond) ∈ wsA := wA_of 226 (by decide +kernel) rfl
theorem n_cls1 {D : va_G} {y : nC} {cA : ClassId} {s : State} (h : va_K D vwCl (nTy y ++ [(cA, .int)]) s) : cA = y 1 := by
  have h1 : s.vm.findClass ("[" ++ FieldType.int.toString) = some (y 1) := (h.2 1 _ rfl).2
  have h2 : s.vm.findClass ("[" ++ FieldType.int.toString) = some cA := (h.2 4 _ rfl).2
  exact Option.some.inj (h2.symm.trans h1)
theorem n_cls0 {D : va_G} {y : nC} {cA : ClassId} {s : State} (h : va_K D vwCl (nTy y ++ [(cA, .char)]) s) : cA = y 0 := by
  have h1 : s.vm.findClass ("[" ++ FieldType.char.toString) = some (y 0) := (h.2 0 _ rfl).2
  have h2 : s.vm.findClass ("[" ++ FieldType.char.toString) = some cA := (h.2 4 _ rfl).2
  exact Option.some.inj (h2.symm.trans h1)
set_option maxHeartbeats 4000000 in
set_option maxRecDepth 100000 in
theorem nX1_init (l : Launch) (D : va_G) (y : nC) (h0 sz : Nat) : nMet (S := Unit) l yX1_init (wsM yX1_init cX1_init 1 none) ({ frames := 1, cells := 0, slots := 0, locals := 12 } : Room) D y h0 sz (.inr (0, [.int 0, .int 0, .int 0, .int 0, .int 0])) (fun _ => [(h0, .inr (0, [.int 0, .int 0, .int 0, .int 0, .int 0]))]) 0 0 := by
  unfold nMet nQc
  refine Met.ofW (cc := cX1_init) (maxL := 1) (ret := none) (by decide) rfl ?_
  intro p e s m args below meth c s₁ B hml hv
  obtain ⟨rfl, hsz, hP, hK, hN⟩ := hv
  have hx := B.exec
  have hb := B.bytes
  have hr := B.returns
  have hts0 := atoms_spec (ws := wsM yX1_init cX1_init 1 none) B.pre
  have hts : ∀ w ∈ wsA, w.before ([Value.ref h0] : List Value).toArray s = true := fun w hw => hts0 w (List.mem_cons_of_mem _ hw)
  have hown : s.vm.findClass RX1 = some m.cls := findClass_of_methodNamed B.named
  have hin : meth.name = "<init>" := (name_of_methodNamed B.named B.method).1
  subst hsz
  have hD := (n_one h0 (.inr (0, [.int 0, .int 0, .int 0, .int 0, .int 0]))).self (sz := s.heap.size)
  generalize hAe : va_A [(h0, .inr (0, [.int 0, .int 0, .int 0, .int 0, .int 0]))] s.heap.size = A at hD ⊢
  have hA : ∀ q : Nat, s.heap.size ≤ q → A q := fun q h => by rw [← hAe]; exact Or.inr h
  have hS : va_S A s.heap s.heap [] := va_S.rf
  have hl := lv_entry ([.ref h0]) (n := 1) (Nat.le_of_ble_eq_true rfl)
  rw [lg_entry_eq]
  generalize (lg_sl ([.ref h0]) ++ List.replicate (1 - (lg_sl ([.ref h0])).length) Slot.unset).toArray = ls at hl ⊢
  have hl : lv_has ls 1 [(0, .ref h0)] := hl
  refine lv_aload_n hx hb dX1_init_0 rfl (lv_at hl 0 rfl) ?_
  refine W.objInit hx hb hown (hts _ iA_82) (hts _ iA_68) (hts _ iA_69) rfl (by rw [hml]; exact hl.1) rfl dX1_init_1 (Nat.le_of_ble_eq_true rfl) (Nat.le_of_ble_eq_true rfl) ?_
  refine W.eq (g2 := F0 m 4 ls []) rfl ?_
  exact W.vret hx hb hr (fun t ht hW => ⟨⟨(), rfl, trivial, by rw [ht]; exact hP, hD⟩, hS.F ht⟩) hS.2.2 dX1_init_4
set_option maxHeartbeats 4000000 in
set_option maxRecDepth 100000 in
theorem nX7_init (l : Launch) (D : va_G) (y : nC) (h0 sz : Nat) : nMet (S := Unit) l yX7_init (wsM yX7_init cX7_init 1 none) ({ frames := 1, cells := 0, slots := 0, locals := 12 } : Room) D y h0 sz (.inr (6, [.int 0, .int 0, .int 0, .int 0, .int 0, .int 0])) (fun _ => [(h0, .inr (6, [.int 0, .int 0, .int 0, .int 0, .int 0, .int 0]))]) 0 0 := by
  unfold nMet nQc
  refine Met.ofW (cc := cX7_init) (maxL := 1) (ret := none) (by decide) rfl ?_
  intro p e s m args below meth c s₁ B hml hv
  obtain ⟨rfl, hsz, hP, hK, hN⟩ := hv
  have hx := B.exec
  have hb := B.bytes
  have hr := B.returns
  have hts0 := atoms_spec (ws := wsM yX7_init cX7_init 1 none) B.pre
  have hts : ∀ w ∈ wsA, w.before ([Value.ref h0] : List Value).toArray s = true := fun w hw => hts0 w (List.mem_cons_of_mem _ hw)
  have hown : s.vm.findClass RX7 = some m.cls := findClass_of_methodNamed B.named
  have hin : meth.name = "<init>" := (name_of_methodNamed B.named B.method).1
  subst hsz
  have hD := (n_one h0 (.inr (6, [.int 0, .int 0, .int 0, .int 0, .int 0, .int 0]))).self (sz := s.heap.size)
  generalize hAe : va_A [(h0, .inr (6, [.int 0, .int 0, .int 0, .int 0, .int 0, .int 0]))] s.heap.size = A at hD ⊢
  have hA : ∀ q : Nat, s.heap.size ≤ q → A q := fun q h => by rw [← hAe]; exact Or.inr h
  have hS : va_S A s.heap s.heap [] := va_S.rf
  have hl := lv_entry ([.ref h0]) (n := 1) (Nat.le_of_ble_eq_true rfl)
  rw [lg_entry_eq]
  generalize (lg_sl ([.ref h0]) ++ List.replicate (1 - (lg_sl ([.ref h0])).length) Slot.unset).toArray = ls at hl ⊢
  have hl : lv_has ls 1 [(0, .ref h0)] := hl
  refine lv_aload_n hx hb dX7_init_0 rfl (lv_at hl 0 rfl) ?_
  refine W.objInit hx hb hown (hts _ iA_165) (hts _ iA_68) (hts _ iA_69) rfl (by rw [hml]; exact hl.1) rfl dX7_init_1 (Nat.le_of_ble_eq_true rfl) (Nat.le_of_ble_eq_true rfl) ?_
  refine W.eq (g2 := F0 m 4 ls []) rfl ?_
  exact W.vret hx hb hr (fun t ht hW => ⟨⟨(), rfl, trivial, by rw [ht]; exact hP, hD⟩, hS.F ht⟩) hS.2.2 dX7_init_4
set_option maxHeartbeats 4000000 in
set_option maxRecDepth 100000 in
theorem nX2_init (l : Launch) (D : va_G) (y : nC) (h0 sz : Nat) : nMet (S := Nat) l yX2_init (wsM yX2_init cX2_init 1 none) ({ frames := 1, cells := 1, slots := 64, locals := 12 } : Room) D y h0 sz (.inr (1, [.null, .int 0])) (fun u => [(h0, .inr (1, [.ref u, .int 0])), (u, .inl (y 0, 64, .inl (fun _ => 0)))]) 1 64 := by
  unfold nMet nQc
  refine Met.ofW (cc := cX2_init) (maxL := 1) (ret := none) (by decide) rfl ?_
  intro p e s m args below meth c s₁ B hml hv
  obtain ⟨rfl, hsz, hP, hK, hN⟩ := hv
  have hx := B.exec
  have hb := B.bytes
  have hr := B.returns
  have hts0 := atoms_spec (ws := wsM yX2_init cX2_init 1 none) B.pre
  have hts : ∀ w ∈ wsA, w.before ([Value.ref h0] : List Value).toArray s = true := fun w hw => hts0 w (List.mem_cons_of_mem _ hw)
  have hown : s.vm.findClass RX2 = some m.cls := findClass_of_methodNamed B.named
  have hin : meth.name = "<init>" := (name_of_methodNamed B.named B.method).1
  subst hsz
  have hD := (n_one h0 (.inr (1, [.null, .int 0]))).self (sz := s.heap.size)
  generalize hAe : va_A [(h0, .inr (1, [.null, .int 0]))] s.heap.size = A at hD ⊢
  have hA : ∀ q : Nat, s.heap.size ≤ q → A q := fun q h => by rw [← hAe]; exact Or.inr h
  have hS : va_S A s.heap s.heap [] := va_S.rf
  have hl := lv_entry ([.ref h0]) (n := 1) (Nat.le_of_ble_eq_true rfl)
  rw [lg_entry_eq]
  generalize (lg_sl ([.ref h0]) ++ List.replicate (1 - (lg_sl ([.ref h0])).length) Slot.unset).toArray = ls at hl ⊢
  have hl : lv_has ls 1 [(0, .ref h0)] := hl
  refine lv_aload_n hx hb dX2_init_0 rfl (lv_at hl 0 rfl) ?_
  refine W.objInit hx hb hown (hts _ iA_150) (hts _ iA_68) (hts _ iA_69) rfl (by rw [hml]; exact hl.1) rfl dX2_init_1 (Nat.le_of_ble_eq_true rfl) (Nat.le_of_ble_eq_true rfl) ?_
  refine W.eq (g2 := F0 m 4 ls []) rfl ?_
  refine lv_aload_n hx hb dX2_init_4 rfl (lv_at hl 0 rfl) ?_
  refine lv_bipush (v := 64) hx hb dX2_init_5 (by decide) ?_
  refine va_newa (atype := .char) (ty := .char) (n := 64) (N' := 64) (a0 := (64, .inl (fun _ => 0))) hx hb (hts _ iA_159) rfl hK hP hD hS hA (fun _ => rfl) (by decide) (by decide) (by decide) (Nat.le_of_ble_eq_true rfl) (Nat.le_of_ble_eq_true rfl) dX2_init_7 (fun q0 cA H hK2 hP hD hS => ?_)
  have ec : cA = y 0 := n_cls0 hK2
  subst ec
  have hP : va_P D vwCl ([(h0, .inr (1, [.null, .int 0])), (q0, .inl (y 0, 64, .inl (fun _ => 0)))]) H := hP
  have hD : va_D A ([(h0, .inr (1, [.null, .int 0])), (q0, .inl (y 0, 64, .inl (fun _ => 0)))]) := hD
  refine W.widen (k := 1) (n := 64) (by omega) (by omega) ?_
  refine va_putF (D := D) (ci := 1) (v := .ref q0) (ty := .array .char) (C := RX2) (T := TX2) (N := 2) hx hb hts wu_X2 tyX2 tyX2_ok nmX2 hown hK hP hD hS 0 rfl rfl 0 (by decide) (hts _ iA_151) (fun _ h9 => h9) rfl hin rfl (by decide +kernel) rfl rfl (Nat.le_of_ble_eq_true rfl) dX2_init_9 (fun H locs hP hD hS => ?_)
  have hP : va_P D vwCl ([(h0, .inr (1, [.ref q0, .int 0])), (q0, .inl (y 0, 64, .inl (fun _ => 0)))]) H := hP
  have hD : va_D A ([(h0, .inr (1, [.ref q0, .int 0])), (q0, .inl (y 0, 64, .inl (fun _ => 0)))]) := hD
  exact W.vret hx hb hr (fun t ht hW => ⟨⟨q0, rfl, trivial, by rw [ht]; exact hP, hD⟩, hS.F ht⟩) hS.2.2 dX2_init_12
set_option maxHeartbeats 4000000 in
set_option maxRecDepth 100000 in
theorem nX3_init (l : Launch) (D : va_G) (y : nC) (h0 sz : Nat) : nMet (S := Nat × Nat) l yX3_init (wsM yX3_init cX3_init 1 none) ({ frames := 1, cells := 2, slots := 12, locals := 12 } : Room) D y h0 sz (.inr (2, [.null, .null, .int 0])) (fun u => [(h0, .inr (2, [.ref u.1, .ref u.2, .int 0])), (u.1, .inl (y 1, 6, .inl (fun _ => 0))), (u.2, .inl (y 1, 6, .inl (fun _ => 0)))]) 2 12 := by
  unfold nMet nQc
  refine Met.ofW (cc := cX3_init) (maxL := 1) (ret := none) (by decide) rfl ?_
  intro p e s m args below meth c s₁ B hml hv
  obtain ⟨rfl, hsz, hP, hK, hN⟩ := hv
  have hx := B.exec
  have hb := B.bytes
  have hr := B.returns
  have hts0 := atoms_spec (ws := wsM yX3_init cX3_init 1 none) B.pre
  have hts : ∀ w ∈ wsA, w.before ([Value.ref h0] : List Value).toArray s = true := fun w hw => hts0 w (List.mem_cons_of_mem _ hw)
  have hown : s.vm.findClass RX3 = some m.cls := findClass_of_methodNamed B.named
  have hin : meth.name = "<init>" := (name_of_methodNamed B.named B.method).1
  subst hsz
  have hD := (n_one h0 (.inr (2, [.null, .null, .int 0]))).self (sz := s.heap.size)
  generalize hAe : va_A [(h0, .inr (2, [.null, .null, .int 0]))] s.heap.size = A at hD ⊢
  have hA : ∀ q : Nat, s.heap.size ≤ q → A q := fun q h => by rw [← hAe]; exact Or.inr h
  have hS : va_S A s.heap s.heap [] := va_S.rf
  have hl := lv_entry ([.ref h0]) (n := 1) (Nat.le_of_ble_eq_true rfl)
  rw [lg_entry_eq]
  generalize (lg_sl ([.ref h0]) ++ List.replicate (1 - (lg_sl ([.ref h0])).length) Slot.unset).toArray = ls at hl ⊢
  have hl : lv_has ls 1 [(0, .ref h0)] := hl
  refine lv_aload_n hx hb dX3_init_0 rfl (lv_at hl 0 rfl) ?_
  refine W.objInit hx hb hown (hts _ iA_196) (hts _ iA_68) (hts _ iA_69) rfl (by rw [hml]; exact hl.1) rfl dX3_init_1 (Nat.le_of_ble_eq_true rfl) (Nat.le_of_ble_eq_true rfl) ?_
  refine W.eq (g2 := F0 m 4 ls []) rfl ?_
  refine lv_aload_n hx hb dX3_init_4 rfl (lv_at hl 0 rfl) ?_
  refine lv_bipush (v := 6) hx hb dX3_init_5 (by decide) ?_
  refine va_newa (atype := .int) (ty := .int) (n := 6) (N' := 6) (a0 := (6, .inl (fun _ => 0))) hx hb (hts _ iA_108) rfl hK hP hD hS hA (fun _ => rfl) (by decide) (by decide) (by decide) (Nat.le_of_ble_eq_true rfl) (Nat.le_of_ble_eq_true rfl) dX3_init_7 (fun q0 cA H hK2 hP hD hS => ?_)
  have ec : cA = y 1 := n_cls1 hK2
  subst ec
  have hP : va_P D vwCl ([(h0, .inr (2, [.null, .null, .int 0])), (q0, .inl (y 1, 6, .inl (fun _ => 0)))]) H := hP
  have hD : va_D A ([(h0, .inr (2, [.null, .null, .int 0])), (q0, .inl (y 1, 6, .inl (fun _ => 0)))]) := hD
  refine W.widen (k := 1) (n := 6) (by omega) (by omega) ?_
  refine va_putF (D := D) (ci := 2) (v := .ref q0) (ty := .array .int) (C := RX3) (T := TX3) (N := 3) hx hb hts wu_X3 tyX3 tyX3_ok nmX3 hown hK hP hD hS 0 rfl rfl 0 (by decide) (hts _ iA_197) (fun _ h9 => h9) rfl hin rfl (by decide +kernel) rfl rfl (Nat.le_of_ble_eq_true rfl) dX3_init_9 (fun H locs hP hD hS => ?_)
  have hP : va_P D vwCl ([(h0, .inr (2, [.ref q0, .null, .int 0])), (q0, .inl (y 1, 6, .inl (fun _ => 0)))]) H := hP
  have hD : va_D A ([(h0, .inr (2, [.ref q0, .null, .int 0])), (q0, .inl (y 1, 6, .inl (fun _ => 0)))]) := hD
  refine lv_aload_n hx hb dX3_init_12 rfl (lv_at hl 0 rfl) ?_
  refine lv_bipush (v := 6) hx hb dX3_init_13 (by decide) ?_
  refine va_newa (atype := .int) (ty := .int) (n := 6) (N' := 6) (a0 := (6, .inl (fun _ => 0))) hx hb (hts _ iA_108) rfl hK hP hD hS hA (fun _ => rfl) (by decide) (by decide) (by decide) (Nat.le_of_ble_eq_true rfl) (Nat.le_of_ble_eq_true rfl) dX3_init_15 (fun q1 cA H hK2 hP hD hS => ?_)
  have ec : cA = y 1 := n_cls1 hK2
  subst ec
  have hP : va_P D vwCl ([(h0, .inr (2, [.ref q0, .null, .int 0])), (q0, .inl (y 1, 6, .inl (fun _ => 0))), (q1, .inl (y 1, 6, .inl (fun _ => 0)))]) H := hP
  have hD : va_D A ([(h0, .inr (2, [.ref q0, .null, .int 0])), (q0, .inl (y 1, 6, .inl (fun _ => 0))), (q1, .inl (y 1, 6, .inl (fun _ => 0)))]) := hD
  refine W.widen (k := 2) (n := 12) (by omega) (by omega) ?_
  refine va_putF (D := D) (ci := 2) (v := .ref q1) (ty := .array .int) (C := RX3) (T := TX3) (N := 3) hx hb hts wu_X3 tyX3 tyX3_ok nmX3 hown hK hP hD hS 0 rfl rfl 1 (by decide) (hts _ iA_198) (fun _ h9 => h9) rfl hin rfl (by decide +kernel) rfl rfl (Nat.le_of_ble_eq_true rfl) dX3_init_17 (fun H locs hP hD hS => ?_)
  have hP : va_P D vwCl ([(h0, .inr (2, [.ref q0, .ref q1, .int 0])), (q0, .inl (y 1, 6, .inl (fun _ => 0))), (q1, .inl (y 1, 6, .inl (fun _ => 0)))]) H := hP
  have hD : va_D A ([(h0, .inr (2, [.ref q0, .ref q1, .int 0])), (q0, .inl (y 1, 6, .inl (fun _ => 0))), (q1, .inl (y 1, 6, .inl (fun _ => 0)))]) := hD
  exact W.vret hx hb hr (fun t ht hW => ⟨⟨(q0, q1), rfl, trivial, by rw [ht]; exact hP, hD⟩, hS.F ht⟩) hS.2.2 dX3_init_20
set_option maxHeartbeats 4000000 in
set_option maxRecDepth 100000 in
theorem nX8_init (l : Launch) (D : va_G) (y : nC) (h0 sz : Nat) : nMet (S := Nat) l yX8_init (wsM yX8_init cX8_init 1 none) ({ frames := 1, cells := 1, slots := 12, locals := 12 } : Room) D y h0 sz (.inr (7, [.null])) (fun u => [(h0, .inr (7, [.ref u])), (u, .inl (y 1, 12, .inl (fun _ => 0)))]) 1 12 := by
  unfold nMet nQc
  refine Met.ofW (cc := cX8_init) (maxL := 1) (ret := none) (by decide) rfl ?_
  intro p e s m args below meth c s₁ B hml hv
  obtain ⟨rfl, hsz, hP, hK, hN⟩ := hv
  have hx := B.exec
  have hb := B.bytes
  have hr := B.returns
  have hts0 := atoms_spec (ws := wsM yX8_init cX8_init 1 none) B.pre
  have hts : ∀ w ∈ wsA, w.before ([Value.ref h0] : List Value).toArray s = true := fun w hw => hts0 w (List.mem_cons_of_mem _ hw)
  have hown : s.vm.findClass RX8 = some m.cls := findClass_of_methodNamed B.named
  have hin : meth.name = "<init>" := (name_of_methodNamed B.named B.method).1
  subst hsz
  have hD := (n_one h0 (.inr (7, [.null]))).self (sz := s.heap.size)
  generalize hAe : va_A [(h0, .inr (7, [.null]))] s.heap.size = A at hD ⊢
  have hA : ∀ q : Nat, s.heap.size ≤ q → A q := fun q h => by rw [← hAe]; exact Or.inr h
  have hS : va_S A s.heap s.heap [] := va_S.rf
  have hl := lv_entry ([.ref h0]) (n := 1) (Nat.le_of_ble_eq_true rfl)
  rw [lg_entry_eq]
  generalize (lg_sl ([.ref h0]) ++ List.replicate (1 - (lg_sl ([.ref h0])).length) Slot.unset).toArray = ls at hl ⊢
  have hl : lv_has ls 1 [(0, .ref h0)] := hl
  refine lv_aload_n hx hb dX8_init_0 rfl (lv_at hl 0 rfl) ?_
  refine W.objInit hx hb hown (hts _ iA_225) (hts _ iA_68) (hts _ iA_69) rfl (by rw [hml]; exact hl.1) rfl dX8_init_1 (Nat.le_of_ble_eq_true rfl) (Nat.le_of_ble_eq_true rfl) ?_
  refine W.eq (g2 := F0 m 4 ls []) rfl ?_
  refine lv_aload_n hx hb dX8_init_4 rfl (lv_at hl 0 rfl) ?_
  refine lv_bipush (v := 12) hx hb dX8_init_5 (by decide) ?_
  refine va_newa (atype := .int) (ty := .int) (n := 12) (N' := 12) (a0 := (12, .inl (fun _ => 0))) hx hb (hts _ iA_108) rfl hK hP hD hS hA (fun _ => rfl) (by decide) (by decide) (by decide) (Nat.le_of_ble_eq_true rfl) (Nat.le_of_ble_eq_true rfl) dX8_init_7 (fun q0 cA H hK2 hP hD hS => ?_)
  have ec : cA = y 1 := n_cls1 hK2
  subst ec
  have hP : va_P D vwCl ([(h0, .inr (7, [.null])), (q0, .inl (y 1, 12, .inl (fun _ => 0)))]) H := hP
  have hD : va_D A ([(h0, .inr (7, [.null])), (q0, .inl (y 1, 12, .inl (fun _ => 0)))]) := hD
  refine W.widen (k := 1) (n := 12) (by omega) (by omega) ?_
  refine va_putF (D := D) (ci := 7) (v := .ref q0) (ty := .array .int) (C := RX8) (T := TX8) (N := 1) hx hb hts wu_X8 tyX8 tyX8_ok nmX8 hown hK hP hD hS 0 rfl rfl 0 (by decide) (hts _ iA_226) (fun _ h9 => h9) rfl hin rfl (by decide +kernel) rfl rfl (Nat.le_of_ble_eq_true rfl) dX8_init_9 (fun H locs hP hD hS => ?_)
  have hP : va_P D vwCl ([(h0, .inr (7, [.ref q0])), (q0, .inl (y 1, 12, .inl (fun _ => 0)))]) H := hP
  have hD : va_D A ([(h0, .inr (7, [.ref q0])), (q0, .inl (y 1, 12, .inl (fun _ => 0)))]) := hD
  exact W.vret hx hb hr (fun t ht hW => ⟨⟨q0, rfl, trivial, by rw [ht]; exact hP, hD⟩, hS.F ht⟩) hS.2.2 dX8_init_12
