/-! part 39: the constructors -/
/-! ===== BEGIN new T[n][m]: the outer array a place, the inner ones among the pooled ===== -/
/-- f, but v at every address of l -/
def vr_up {α : Type} (f : Nat → α) (l : List Nat) (v : α) : Nat → α := fun a => if a ∈ l then v else f a
theorem vr_up_in {α : Type} {f : Nat → α} {l : List Nat} {v : α} {a : Nat} (h : a ∈ l) : vr_up f l v a = v := if_pos h
theorem vr_up_ne {α : Type} {f : Nat → α} {l : List Nat} {v : α} {a : Nat} (h : a ∉ l) : vr_up f l v a = f a := if_neg h
theorem vr_rows {L l : List Nat} {f : Nat → va_E} {e : va_E} (h : ∀ a, a ∈ l → a ∉ L) : va_pl L f ++ l.map (fun a => (a, e)) = va_pl (L ++ l) (vr_up f l e) := by
  unfold va_pl
  rw [List.map_append]
  congr 1
  · apply List.map_congr_left
    intro a ha
    rw [vr_up_ne (fun q => h a q ha)]
  · apply List.map_congr_left
    intro a ha
    rw [vr_up_in ha]
theorem vr_lay {X rows : va_W} {x : Nat × va_E} {pl : va_W} {D : va_G} {cl : List vw_C} {H : Heap} (hP : va_P D cl (((X ++ pl) ++ [x]) ++ rows) H) : va_P D cl ((X ++ [x]) ++ (pl ++ rows)) H := by
  rw [List.append_assoc (X ++ pl)] at hP
  have h := va_P.swap hP
  rw [← List.append_assoc X] at h
  have h2 := va_P.swap h
  rw [List.append_assoc (X ++ [x])] at h2
  exact h2
theorem vr_layD {X rows : va_W} {x : Nat × va_E} {pl : va_W} {A : Nat → Prop} (hD : va_D A (((X ++ pl) ++ [x]) ++ rows)) : va_D A ((X ++ [x]) ++ (pl ++ rows)) := by
  rw [List.append_assoc (X ++ pl)] at hD
  have h := va_D.swap hD
  rw [← List.append_assoc X] at h
  have h2 := va_D.swap h
  rw [List.append_assoc (X ++ [x])] at h2
  exact h2
theorem vr_outer (c : ClassId) (N h0 : Nat) : ∀ i : Nat, Jvm.Free.Multi.outerC c N h0 i = arrV c N (fun j => va_rf (if j < i then some (h0 + 1 + j) else none))
  | 0 => by
    show ({ cls := c, slots := Array.replicate N .null, vm := .none } : Cell) = _
    rw [arrV_new]
    refine congrArg (arrV c N) (funext fun j => ?_)
    simp [va_rf]
  | i + 1 => by
    show (Jvm.Free.Multi.outerC c N h0 i).setSlot i (.ref (h0 + 1 + i)) = _
    rw [vr_outer c N h0 i, arrV_store]
    refine congrArg (arrV c N) (funext fun j => ?_)
    by_cases e : j = i
    · subst e
      simp [updV, va_rf]
    · by_cases h : j < i
      · simp [updV, e, h, Nat.lt_succ_of_lt h]
      · simp [updV, e, h, show ¬ j < i + 1 by omega]
section VGM
variable {p : Program} {l : Launch} {e : Env} {R : Room} {s : State} {m : MethodId} {args : Array Value} {below : List Frame} {meth : Method} {c : Code} {H : Heap} {locs : List Loc} {cells slots : Nat} {Q : State → Prop}
variable {cc : ByteArray} {pc : Nat} {ls : Array Slot} {rest : List Value} {D : va_G} {cl : List vw_C} {A : Nat → Prop} {a : Nat} {tys : List (ClassId × FieldType)} {ws : va_W} {H0 : Heap}
theorem va_mna {X : va_W} {L : List Nat} {f : Nat → va_E} {cc : ByteArray} (hexec : p.tables.exec = Jvm.exec) (hb : c.code = cc) {own : String} {index : Nat} {ty : FieldType} {cy : ClassId} (hown : s.vm.findClass own = some m.cls) (hclink : (Cond.classLink own index ("[" ++ (FieldType.array ty).toString)).before args s = true) (hover : va_AOA ty s) (harr : (Cond.arrayClass ty).before args s = true) (hcy : s.vm.findClass (FieldType.array ty).toString = some cy)
    (hK : va_K D cl tys s) (hP : va_P D cl (X ++ va_pl L f) H) (hD : va_D A (X ++ va_pl L f)) (hS : va_S A H0 H locs) (hA : ∀ q, H0.size ≤ q → A q) {n k : Int32} {N' K' : Nat} {z : vp_A} (hn : ¬ n < 0) (hk : ¬ k < 0) (hN : n.toNatClampNeg = N') (hM : k.toNatClampNeg = K')
    (hb1 : N' * 4 ≤ 536870912) (hb2 : K' * componentBytes ty ≤ 536870912) (hb3 : K' ≤ 536870912) (hdf : fits ty (defaultValue ty) = true) (hdd : (defaultValue ty).isDefault = true) (hcells : cells + (1 + N') ≤ R.cells) (hslots : slots + (N' + N' * K') ≤ R.slots) (hz : ∀ c : ClassId, Jvm.Free.Multi.innerC c K' (defaultValue ty) = vp_cell c z) (hdg : decode cc pc = .ok (.multianewarray index 2, 4))
    (kk : ∀ (q : Nat) (r : Nat → Nat) (cA : ClassId) (H1 : Heap), (∀ i j : Nat, i < N' → j < N' → r i = r j → i = j) → (∀ i : Nat, i < N' → r i ∉ L) → va_K D cl (tys ++ [(cA, .array ty)]) s →
      va_P D cl ((X ++ [(q, .inl (cA, N', .inr (.inr (.inr (.inr (fun i => if i < N' then some (r i) else none))))))]) ++ va_pl (L ++ (List.range N').map r) (vr_up f ((List.range N').map r) (.inl (cy, z)))) H1 → va_D A ((X ++ [(q, .inl (cA, N', .inr (.inr (.inr (.inr (fun i => if i < N' then some (r i) else none))))))]) ++ va_pl (L ++ (List.range N').map r) (vr_up f ((List.range N').map r) (.inl (cy, z)))) → va_S A H0 H1 locs →
      W p l e R s m args below meth c H1 locs (cells + 1 + N') (slots + N' + N' * K') Q (F0 m (pc + 4) ls (.ref q :: rest))) : W p l e R s m args below meth c H locs cells slots Q (F0 m pc ls (.int k :: .int n :: rest)) := by
  subst hN
  subst hM
  intro T hT Xs
  obtain ⟨vm₁, cA, comp, -, fA, fC, hO, -, X', step⟩ := Xs.multianewarray2F hexec hown hclink (va_AOA.use hover) harr (g := F0 m pc ls (.int k :: .int n :: rest)) rfl (by rw [hb]; exact hdg) rfl hn hk hb1 hb2 hb3 hdf hdd hcells hslots
  have ec : some cy = some comp := hcy.symm.trans fC
  cases ec
  generalize hF : Jvm.Free.Multi.fill (T.setVm vm₁) cA cy n.toNatClampNeg k.toNatClampNeg (defaultValue ty) n.toNatClampNeg = F at X' step
  have hTh : (T.setVm vm₁).heap = H := hT
  obtain ⟨f1, f2, -, -⟩ := Jvm.Free.Multi.fill_facts (T.setVm vm₁) cA cy n.toNatClampNeg k.toNatClampNeg (defaultValue ty) n.toNatClampNeg
  rw [hF, hTh] at f1 f2
  have hold : ∀ x : Nat, x < H.size → F.heap[x]? = H[x]? := fun x hx => by
    have := Jvm.Free.Multi.fill_old (T.setVm vm₁) cA cy n.toNatClampNeg k.toNatClampNeg (defaultValue ty) (a := x) (by rw [hTh]; exact hx) n.toNatClampNeg
    rw [hF, hTh] at this
    exact this
  have hrow : ∀ j : Nat, j < n.toNatClampNeg → F.heap[H.size + 1 + j]? = some (vp_cell cy z) := fun j hj => by
    have := Jvm.Free.Multi.fill_inner (T.setVm vm₁) cA cy n.toNatClampNeg k.toNatClampNeg (defaultValue ty) n.toNatClampNeg j hj
    rw [hF, hTh, hz] at this
    exact this
  have hout : Jvm.Free.Multi.outerC cA n.toNatClampNeg H.size n.toNatClampNeg = vp_cell cA (n.toNatClampNeg, .inr (.inr (.inr (.inr (fun i => if i < n.toNatClampNeg then some (H.size + 1 + i) else none))))) := by
    rw [vp_cell_q]
    exact vr_outer cA n.toNatClampNeg H.size n.toNatClampNeg
  rw [hout] at f2
  have hlt : ∀ a, a ∈ L → a < H.size := fun a ha => by
    obtain ⟨k9, hk9⟩ := va_pl_get (X := X) (f := f) ha
    exact (hP k9 _ hk9).lt
  have hnl : ∀ i : Nat, i < n.toNatClampNeg → H.size + 1 + i ∉ L := fun i _ h => by
    have := hlt _ h
    omega
  have hnm : ∀ a, a ∈ (List.range n.toNatClampNeg).map (fun i => H.size + 1 + i) → a ∉ L := fun a ha h => by
    obtain ⟨i, -, rfl⟩ := List.mem_map.mp ha
    have := hlt _ h
    omega
  have hP0 : va_P D cl (X ++ va_pl L f) F.heap := hP.kept (fun k9 x hx => hold x.1 ((hP k9 x hx).lt))
  have hP1 : va_P D cl ((X ++ va_pl L f) ++ [(H.size, .inl (cA, n.toNatClampNeg, .inr (.inr (.inr (.inr (fun i => if i < n.toNatClampNeg then some (H.size + 1 + i) else none))))))]) F.heap := hP0.app (fun k9 x hx => by
    have h0 : k9 < 1 := (List.getElem?_eq_some_iff.mp hx).1
    rw [show k9 = 0 by omega] at hx
    cases hx
    exact f2)
  have hP2 : va_P D cl (((X ++ va_pl L f) ++ [(H.size, .inl (cA, n.toNatClampNeg, .inr (.inr (.inr (.inr (fun i => if i < n.toNatClampNeg then some (H.size + 1 + i) else none))))))]) ++ ((List.range n.toNatClampNeg).map (fun i => H.size + 1 + i)).map (fun a => (a, .inl (cy, z)))) F.heap := hP1.app (fun k9 x hx => by
    obtain ⟨a, ha, rfl⟩ := List.mem_map.mp (List.mem_of_getElem? hx)
    obtain ⟨i, hi, rfl⟩ := List.mem_map.mp ha
    exact hrow i (List.mem_range.mp hi))
  have hD2 : va_D A (((X ++ va_pl L f) ++ [(H.size, .inl (cA, n.toNatClampNeg, .inr (.inr (.inr (.inr (fun i => if i < n.toNatClampNeg then some (H.size + 1 + i) else none))))))]) ++ ((List.range n.toNatClampNeg).map (fun i => H.size + 1 + i)).map (fun a => (a, .inl (cy, z)))) := by
    have hD1 := hD.push (e := .inl (cA, n.toNatClampNeg, .inr (.inr (.inr (.inr (fun i => if i < n.toNatClampNeg then some (H.size + 1 + i) else none)))))) hP rfl (hA _ hS.1)
    generalize hW1 : (X ++ va_pl L f) ++ [(H.size, .inl (cA, n.toNatClampNeg, .inr (.inr (.inr (.inr (fun i => if i < n.toNatClampNeg then some (H.size + 1 + i) else none))))))] = W1 at hD1 hP1 ⊢
    have hle : ∀ (k9 : Nat) (x : Nat × va_E), W1[k9]? = some x → x.1 ≤ H.size := fun k9 x hx => by
      rw [← hW1] at hx
      by_cases hl : k9 < (X ++ va_pl L f).length
      · rw [List.getElem?_append_left hl] at hx
        exact Nat.le_of_lt ((hP k9 x hx).lt)
      · rw [List.getElem?_append_right (by omega)] at hx
        have h0 : k9 - (X ++ va_pl L f).length < 1 := (List.getElem?_eq_some_iff.mp hx).1
        rw [show k9 - (X ++ va_pl L f).length = 0 by omega] at hx
        cases hx
        exact Nat.le_refl _
    have hr : ∀ (k9 : Nat) (x : Nat × va_E), (((List.range n.toNatClampNeg).map (fun i => H.size + 1 + i)).map (fun a => ((a, .inl (cy, z)) : Nat × va_E)))[k9]? = some x → x.1 = H.size + 1 + k9 := fun k9 x hx => by
      rw [List.getElem?_map, List.getElem?_map] at hx
      by_cases h9 : k9 < n.toNatClampNeg
      · rw [List.getElem?_range h9] at hx
        cases hx
        rfl
      · have hn0 : (List.range n.toNatClampNeg)[k9]? = none := List.getElem?_eq_none (by rw [List.length_range]; omega)
        rw [hn0] at hx
        cases hx
    refine ⟨fun i j x y hi hj hxy => ?_, fun k9 x hx => ?_⟩
    · by_cases h1 : i < W1.length <;> by_cases h2 : j < W1.length
      · rw [List.getElem?_append_left h1] at hi
        rw [List.getElem?_append_left h2] at hj
        exact hD1.1 i j x y hi hj hxy
      · rw [List.getElem?_append_left h1] at hi
        rw [List.getElem?_append_right (by omega)] at hj
        have := hle _ _ hi
        have := hr _ _ hj
        omega
      · rw [List.getElem?_append_right (by omega)] at hi
        rw [List.getElem?_append_left h2] at hj
        have := hle _ _ hj
        have := hr _ _ hi
        omega
      · rw [List.getElem?_append_right (by omega)] at hi hj
        have := hr _ _ hi
        have := hr _ _ hj
        omega
    · by_cases h1 : k9 < W1.length
      · rw [List.getElem?_append_left h1] at hx
        exact hD1.2 k9 x hx
      · rw [List.getElem?_append_right (by omega)] at hx
        have := hr _ _ hx
        exact hA _ (by have := hS.1; omega)
  have hAr : ArrOfT s cA (.array ty) := fun N9 z9 => by
    obtain ⟨-, k9, hk9, cm9, hkk9⟩ := (hO 0 0 0).1
    exact ⟨(fun q hq => by cases hq), k9, hk9, cm9, hkk9⟩
  have hK2 : va_K D cl (tys ++ [(cA, .array ty)]) s := ⟨hK.1, fun k9 x hx => by
    by_cases hl : k9 < tys.length
    · rw [List.getElem?_append_left hl] at hx
      exact hK.2 k9 x hx
    · rw [List.getElem?_append_right (by omega)] at hx
      have h0 : k9 - tys.length < 1 := (List.getElem?_eq_some_iff.mp hx).1
      rw [show k9 - tys.length = 0 by omega] at hx
      cases hx
      exact ⟨hAr, fA⟩⟩
  obtain ⟨t, a1, b1⟩ := kk H.size (fun i => H.size + 1 + i) cA F.heap (fun i j _ _ h => by have h9 : H.size + 1 + i = H.size + 1 + j := h; omega) hnl hK2 (by rw [← vr_rows hnm]; exact vr_lay hP2) (by rw [← vr_rows hnm]; exact vr_layD hD2) ⟨by rw [f1]; have := hS.1; omega, fun x h1 h2 => (hold x (Nat.lt_of_lt_of_le h1 hS.1)).trans (hS.2.1 x h1 h2), hS.2.2⟩ F rfl X'
  refine ⟨t, step t ?_, b1⟩
  have e : T.heap.size = H.size := by rw [hT]
  rw [e]
  exact a1
end VGM
/-! ===== END ===== -/
set_option maxRecDepth 20000 in
theorem iA_51 : (Cond.initialized RX5 : Cond) ∈ wsA := wA_of 51 (by decide +kernel) rfl
set_option maxRecDepth 20000 in
theorem iA_52 : (Cond.initialized RX1 : Cond) ∈ wsA := wA_of 52 (by decide +kernel) rfl
set_option maxRecDepth 20000 in
theorem iA_53 : (Cond.initialized RX4 : Cond) ∈ wsA := wA_of 53 (by decide +kernel) rfl
set_option maxRecDepth 20000 in
theorem iA_54 : (Cond.initialized RX2 : Cond) ∈ wsA := wA_of 54 (by decide +kernel) rfl
set_option maxRecDepth 20000 in
theorem iA_55 : (Cond.initialized RX7 : Cond) ∈ wsA := wA_of 55 (by decide +kernel) rfl
set_option maxRecDepth 20000 in
theorem iA_56 : (Cond.initialized RX3 : Cond) ∈ wsA := wA_of 56 (by decide +kernel) rfl
set_option maxRecDepth 20000 in
theorem iA_57 : (Cond.initialized RX6 : Cond) ∈ wsA := wA_of 57 (by decide +kernel) rfl
set_option maxRecDepth 20000 in
theorem iA_58 : (Cond.initialized RX8 : Cond) ∈ wsA := wA_of 58 (by decide +kernel) rfl
set_option maxRecDepth 20000 in
theorem iA_67 : (Cond.methodLink RX9 1 objectInit : Cond) ∈ wsA := wA_of 67 (by decide +kernel) rfl
set_option maxRecDepth 20000 in
theorem iA_68 : (Cond.instanceMethod objectInit : Cond) ∈ wsA := wA_of 68 (by decide +kernel) rfl
set_option maxRecDepth 20000 in
theorem iA_69 : (Cond.code objectInit ⟨#[0xb1]⟩ 1 none : Cond) ∈ wsA := wA_of 69 (by decide +kernel) rfl
set_option maxRecDepth 20000 in
theorem iA_70 : (Cond.classLink RX9 7 RX5 : Cond) ∈ wsA := wA_of 70 (by decide +kernel) rfl
set_option maxRecDepth 20000 in
theorem iA_71 : (Cond.instantiable RX5 4 : Cond) ∈ wsA := wA_of 71 (by decide +kernel) rfl
set_option maxRecDepth 20000 in
theorem iA_72 : (Cond.methodLink RX9 9 yX5_init : Cond) ∈ wsA := wA_of 72 (by decide +kernel) rfl
set_option maxRecDepth 20000 in
theorem iA_73 : (Cond.instanceMethod yX5_init : Cond) ∈ wsA := wA_of 73 (by decide +kernel) rfl
set_option maxRecDepth 20000 in
theorem iA_74 : (Cond.code yX5_init cX5_init 2 none : Cond) ∈ wsA := wA_of 74 (by decide +kernel) rfl
set_option maxRecDepth 20000 in
theorem iA_75 : (Cond.methodLink RX5 3 objectInit : Cond) ∈ wsA := wA_of 75 (by decide +kernel) rfl
set_option maxRecDepth 20000 in
theorem iA_76 : (Cond.classLink RX5 9 RX1 : Cond) ∈ wsA := wA_of 76 (by decide +kernel) rfl
set_option maxRecDepth 20000 in
theorem iA_78 : (Cond.instantiable RX1 5 : Cond) ∈ wsA := wA_of 78 (by decide +kernel) rfl
set_option maxRecDepth 20000 in
theorem iA_80 : (Cond.instanceMethod yX1_init : Cond) ∈ wsA := wA_of 80 (by decide +kernel) rfl
set_option maxRecDepth 20000 in
theorem iA_81 : (Cond.code yX1_init cX1_init 1 none : Cond) ∈ wsA := wA_of 81 (by decide +kernel) rfl
set_option maxRecDepth 20000 in
theorem iA_82 : (Cond.methodLink RX1 3 objectInit : Cond) ∈ wsA := wA_of 82 (by decide +kernel) rfl
set_option maxRecDepth 20000 in
theorem iA_108 : (Cond.arrayClass .int : Cond) ∈ wsA := wA_of 108 (by decide +kernel) rfl
set_option maxRecDepth 20000 in
theorem iA_109 : (Cond.fieldLink RX5 11 "OneLampAllOut$Row" "lamps" "[LOneLampAllOut$Lamp;" : Cond) ∈ wsA := wA_of 109 (by decide +kernel) rfl
set_option maxRecDepth 20000 in
theorem iA_115 : (Cond.fieldLink RX5 17 "OneLampAllOut$Row" "settings" "[I" : Cond) ∈ wsA := wA_of 115 (by decide +kernel) rfl
set_option maxRecDepth 20000 in
theorem iA_133 : (Cond.classLink RX9 19 RX4 : Cond) ∈ wsA := wA_of 133 (by decide +kernel) rfl
set_option maxRecDepth 20000 in
theorem iA_134 : (Cond.instantiable RX4 1 : Cond) ∈ wsA := wA_of 134 (by decide +kernel) rfl
set_option maxRecDepth 20000 in
theorem iA_136 : (Cond.instanceMethod yX4_init : Cond) ∈ wsA := wA_of 136 (by decide +kernel) rfl
set_option maxRecDepth 20000 in
theorem iA_137 : (Cond.code yX4_init cX4_init 1 none : Cond) ∈ wsA := wA_of 137 (by decide +kernel) rfl
set_option maxRecDepth 20000 in
theorem iA_138 : (Cond.methodLink RX4 3 objectInit : Cond) ∈ wsA := wA_of 138 (by decide +kernel) rfl
set_option maxRecDepth 20000 in
theorem iA_139 : (Cond.classLink RX4 9 RX5 : Cond) ∈ wsA := wA_of 139 (by decide +kernel) rfl
set_option maxRecDepth 20000 in
theorem iA_140 : (Cond.methodLink RX4 11 yX5_init : Cond) ∈ wsA := wA_of 140 (by decide +kernel) rfl
set_option maxRecDepth 20000 in
theorem iA_141 : (Cond.fieldLink RX4 12 "OneLampAllOut$Mind" "tried" "LOneLampAllOut$Row;" : Cond) ∈ wsA := wA_of 141 (by decide +kernel) rfl
set_option maxRecDepth 20000 in
theorem iA_145 : (Cond.classLink RX9 26 RX2 : Cond) ∈ wsA := wA_of 145 (by decide +kernel) rfl
set_option maxRecDepth 20000 in
theorem iA_146 : (Cond.instantiable RX2 2 : Cond) ∈ wsA := wA_of 146 (by decide +kernel) rfl
set_option maxRecDepth 20000 in
theorem iA_148 : (Cond.instanceMethod yX2_init : Cond) ∈ wsA := wA_of 148 (by decide +kernel) rfl
set_option maxRecDepth 20000 in
theorem iA_149 : (Cond.code yX2_init cX2_init 1 none : Cond) ∈ wsA := wA_of 149 (by decide +kernel) rfl
set_option maxRecDepth 20000 in
theorem iA_150 : (Cond.methodLink RX2 3 objectInit : Cond) ∈ wsA := wA_of 150 (by decide +kernel) rfl
set_option maxRecDepth 20000 in
theorem iA_151 : (Cond.fieldLink RX2 9 "OneLampAllOut$Letters" "signs" "[C" : Cond) ∈ wsA := wA_of 151 (by decide +kernel) rfl
set_option maxRecDepth 20000 in
theorem iA_159 : (Cond.arrayClass .char : Cond) ∈ wsA := wA_of 159 (by decide +kernel) rfl
set_option maxRecDepth 20000 in
theorem iA_160 : (Cond.classLink RX9 33 RX7 : Cond) ∈ wsA := wA_of 160 (by decide +kernel) rfl
set_option maxRecDepth 20000 in
theorem iA_161 : (Cond.instantiable RX7 6 : Cond) ∈ wsA := wA_of 161 (by decide +kernel) rfl
set_option maxRecDepth 20000 in
theorem iA_163 : (Cond.instanceMethod yX7_init : Cond) ∈ wsA := wA_of 163 (by decide +kernel) rfl
set_option maxRecDepth 20000 in
theorem iA_164 : (Cond.code yX7_init cX7_init 1 none : Cond) ∈ wsA := wA_of 164 (by decide +kernel) rfl
set_option maxRecDepth 20000 in
theorem iA_165 : (Cond.methodLink RX7 1 objectInit : Cond) ∈ wsA := wA_of 165 (by decide +kernel) rfl
set_option maxRecDepth 20000 in
theorem iA_191 : (Cond.classLink RX9 40 RX3 : Cond) ∈ wsA := wA_of 191 (by decide +kernel) rfl
set_option maxRecDepth 20000 in
theorem iA_192 : (Cond.instantiable RX3 3 : Cond) ∈ wsA := wA_of 192 (by decide +kernel) rfl
set_option maxRecDepth 20000 in
theorem iA_194 : (Cond.instanceMethod yX3_init : Cond) ∈ wsA := wA_of 194 (by decide +kernel) rfl
set_option maxRecDepth 20000 in
theorem iA_195 : (Cond.code yX3_init cX3_init 1 none : Cond) ∈ wsA := wA_of 195 (by decide +kernel) rfl
set_option maxRecDepth 20000 in
theorem iA_196 : (Cond.methodLink RX3 3 objectInit : Cond) ∈ wsA := wA_of 196 (by decide +kernel) rfl
set_option maxRecDepth 20000 in
theorem iA_197 : (Cond.fieldLink RX3 9 "OneLampAllOut$Looks" "places" "[I" : Cond) ∈ wsA := wA_of 197 (by decide +kernel) rfl
set_option maxRecDepth 20000 in
theorem iA_198 : (Cond.fieldLink RX3 15 "OneLampAllOut$Looks" "answers" "[I" : Cond) ∈ wsA := wA_of 198 (by decide +kernel) rfl
set_option maxRecDepth 20000 in
theorem iA_208 : (Cond.classLink RX9 47 RX6 : Cond) ∈ wsA := wA_of 208 (by decide +kernel) rfl
set_option maxRecDepth 20000 in
theorem iA_209 : (Cond.instantiable RX6 1 : Cond) ∈ wsA := wA_of 209 (by decide +kernel) rfl
set_option maxRecDepth 20000 in
theorem iA_211 : (Cond.instanceMethod yX6_init : Cond) ∈ wsA := wA_of 211 (by decide +kernel) rfl
set_option maxRecDepth 20000 in
theorem iA_212 : (Cond.code yX6_init cX6_init 1 none : Cond) ∈ wsA := wA_of 212 (by decide +kernel) rfl
set_option maxRecDepth 20000 in
theorem iA_213 : (Cond.methodLink RX6 3 objectInit : Cond) ∈ wsA := wA_of 213 (by decide +kernel) rfl
set_option maxRecDepth 20000 in
theorem iA_214 : (Cond.classLink RX6 9 ("[" ++ (FieldType.array .int).toString) : Cond) ∈ wsA := wA_of 214 (by decide +kernel) rfl
set_option maxRecDepth 20000 in
theorem iA_216 : (Cond.fieldLink RX6 11 "OneLampAllOut$Search" "least" "[[I" : Cond) ∈ wsA := wA_of 216 (by decide +kernel) rfl
set_option maxRecDepth 20000 in
theorem iA_220 : (Cond.classLink RX9 54 RX8 : Cond) ∈ wsA := wA_of 220 (by decide +kernel) rfl
set_option maxRecDepth 20000 in
theorem iA_221 : (Cond.instantiable RX8 1 : Cond) ∈ wsA := wA_of 221 (by decide +kernel) rfl
set_option maxRecDepth 20000 in
theorem iA_223 : (Cond.instanceMethod yX8_init : Cond) ∈ wsA := wA_of 223 (by decide +kernel) rfl
set_option maxRecDepth 20000 in
theorem iA_224 : (Cond.code yX8_init cX8_init 1 none : Cond) ∈ wsA := wA_of 224 (by decide +kernel) rfl
set_option maxRecDepth 20000 in
theorem iA_225 : (Cond.methodLink RX8 3 objectInit : Cond) ∈ wsA := wA_of 225 (by decide +kernel) rfl
set_option maxRecDepth 20000 in
theorem iA_226 : (Cond.fieldLink RX8 9 "OneLampAllOut$SwapOrder" "places" "[I" : Cond) ∈ wsA := wA_of 226 (by decide +kernel) rfl
set_option maxRecDepth 20000 in
theorem iA_231 : (Cond.fieldLink RX9 10 "OneLampAllOut" "row" "LOneLampAllOut$Row;" : Cond) ∈ wsA := wA_of 231 (by decide +kernel) rfl
set_option maxRecDepth 20000 in
theorem iA_232 : (Cond.fieldLink RX9 16 "OneLampAllOut" "kept" "LOneLampAllOut$Row;" : Cond) ∈ wsA := wA_of 232 (by decide +kernel) rfl
set_option maxRecDepth 20000 in
theorem iA_233 : (Cond.fieldLink RX9 22 "OneLampAllOut" "mind" "LOneLampAllOut$Mind;" : Cond) ∈ wsA := wA_of 233 (by decide +kernel) rfl
set_option maxRecDepth 20000 in
theorem iA_234 : (Cond.fieldLink RX9 29 "OneLampAllOut" "letters" "LOneLampAllOut$Letters;" : Cond) ∈ wsA := wA_of 234 (by decide +kernel) rfl
set_option maxRecDepth 20000 in
theorem iA_235 : (Cond.fieldLink RX9 36 "OneLampAllOut" "statement" "LOneLampAllOut$Statement;" : Cond) ∈ wsA := wA_of 235 (by decide +kernel) rfl
set_option maxRecDepth 20000 in
theorem iA_236 : (Cond.fieldLink RX9 43 "OneLampAllOut" "looks" "LOneLampAllOut$Looks;" : Cond) ∈ wsA := wA_of 236 (by decide +kernel) rfl
set_option maxRecDepth 20000 in
theorem iA_237 : (Cond.fieldLink RX9 50 "OneLampAllOut" "search" "LOneLampAllOut$Search;" : Cond) ∈ wsA := wA_of 237 (by decide +kernel) rfl
set_option maxRecDepth 20000 in
theorem iA_238 : (Cond.fieldLink RX9 57 "OneLampAllOut" "swaps" "LOneLampAllOut$SwapOrder;" : Cond) ∈ wsA := wA_of 238 (by decide +kernel) rfl
set_option maxRecDepth 20000 in
theorem iA_239 : (Cond.fieldLink RX9 61 "OneLampAllOut" "refusals" "[I" : Cond) ∈ wsA := wA_of 239 (by decide +kernel) rfl
set_option maxRecDepth 20000 in
theorem iA_713 : (Cond.methodLink RX10 1 objectInit : Cond) ∈ wsA := wA_of 713 (by decide +kernel) rfl
set_option maxRecDepth 20000 in
theorem iA_714 : (Cond.fieldLink RX10 7 "OneLampAllOutModel" "refused" "[I" : Cond) ∈ wsA := wA_of 714 (by decide +kernel) rfl
set_option maxRecDepth 20000 in
theorem iA_715 : (Cond.fieldLink RX10 13 "OneLampAllOutModel" "kind" "[I" : Cond) ∈ wsA := wA_of 715 (by decide +kernel) rfl
set_option maxRecDepth 20000 in
theorem iA_716 : (Cond.fieldLink RX10 16 "OneLampAllOutModel" "life" "[I" : Cond) ∈ wsA := wA_of 716 (by decide +kernel) rfl
set_option maxRecDepth 20000 in
theorem iA_717 : (Cond.fieldLink RX10 19 "OneLampAllOutModel" "minutes" "[I" : Cond) ∈ wsA := wA_of 717 (by decide +kernel) rfl
set_option maxRecDepth 20000 in
theorem iA_718 : (Cond.fieldLink RX10 22 "OneLampAllOutModel" "hurt" "[I" : Cond) ∈ wsA := wA_of 718 (by decide +kernel) rfl
set_option maxRecDepth 20000 in
theorem iA_719 : (Cond.fieldLink RX10 25 "OneLampAllOutModel" "state" "[I" : Cond) ∈ wsA := wA_of 719 (by decide +kernel) rfl
set_option maxRecDepth 20000 in
theorem iA_720 : (Cond.fieldLink RX10 28 "OneLampAllOutModel" "setting" "[I" : Cond) ∈ wsA := wA_of 720 (by decide +kernel) rfl
set_option maxRecDepth 20000 in
theorem iA_723 : (Cond.fieldLink RX10 31 "OneLampAllOutModel" "tape" "[I" : Cond) ∈ wsA := wA_of 723 (by decide +kernel) rfl
set_option maxRecDepth 20000 in
theorem iA_724 : (Cond.fieldLink RX10 34 "OneLampAllOutModel" "letter" "[I" : Cond) ∈ wsA := wA_of 724 (by decide +kernel) rfl
set_option maxRecDepth 20000 in
theorem iA_725 : (Cond.fieldLink RX10 37 "OneLampAllOutModel" "letterAt" "[I" : Cond) ∈ wsA := wA_of 725 (by decide +kernel) rfl
set_option maxRecDepth 20000 in
theorem iA_726 : (Cond.fieldLink RX10 40 "OneLampAllOutModel" "number" "[I" : Cond) ∈ wsA := wA_of 726 (by decide +kernel) rfl
set_option maxRecDepth 20000 in
theorem iA_730 : (Cond.fieldLink RX10 43 "OneLampAllOutModel" "kept" "[I" : Cond) ∈ wsA := wA_of 730 (by decide +kernel) rfl
set_option maxRecDepth 20000 in
theorem iA_734 : (Cond.fieldLink RX10 46 "OneLampAllOutModel" "gain" "[I" : Cond) ∈ wsA := wA_of 734 (by decide +kernel) rfl
set_option maxRecDepth 20000 in
theorem iA_735 : (Cond.fieldLink RX10 49 "OneLampAllOutModel" "mean" "[I" : Cond) ∈ wsA := wA_of 735 (by decide +kernel) rfl
set_option maxRecDepth 20000 in
theorem iA_736 : (Cond.fieldLink RX10 52 "OneLampAllOutModel" "worst" "[I" : Cond) ∈ wsA := wA_of 736 (by decide +kernel) rfl
set_option maxRecDepth 20000 in
theorem iA_737 : (Cond.fieldLink RX10 55 "OneLampAllOutModel" "meanAt" "[I" : Cond) ∈ wsA := wA_of 737 (by decide +kernel) rfl
set_option maxRecDepth 20000 in
theorem iA_738 : (Cond.fieldLink RX10 58 "OneLampAllOutModel" "worstAt" "[I" : Cond) ∈ wsA := wA_of 738 (by decide +kernel) rfl
set_option maxRecDepth 20000 in
theorem iA_739 : (Cond.fieldLink RX10 61 "OneLampAllOutModel" "order" "[I" : Cond) ∈ wsA := wA_of 739 (by decide +kernel) rfl
set_option maxRecDepth 20000 in
theorem iA_740 : (Cond.fieldLink RX10 64 "OneLampAllOutModel" "lookAt" "[I" : Cond) ∈ wsA := wA_of 740 (by decide +kernel) rfl
set_option maxRecDepth 20000 in
theorem iA_741 : (Cond.fieldLink RX10 67 "OneLampAllOutModel" "lookIs" "[I" : Cond) ∈ wsA := wA_of 741 (by decide +kernel) rfl
theorem n_cls1 {D : va_G} {y : nC} {cA : ClassId} {s : State} (h : va_K D vwCl (nTy y ++ [(cA, .int)]) s) : cA = y 1 := by
  have h1 : s.vm.findClass ("[" ++ FieldType.int.toString) = some (y 1) := (h.2 1 _ rfl).2
  have h2 : s.vm.findClass ("[" ++ FieldType.int.toString) = some cA := (h.2 4 _ rfl).2
  exact Option.some.inj (h2.symm.trans h1)
theorem n_cls0 {D : va_G} {y : nC} {cA : ClassId} {s : State} (h : va_K D vwCl (nTy y ++ [(cA, .char)]) s) : cA = y 0 := by
  have h1 : s.vm.findClass ("[" ++ FieldType.char.toString) = some (y 0) := (h.2 0 _ rfl).2
  have h2 : s.vm.findClass ("[" ++ FieldType.char.toString) = some cA := (h.2 4 _ rfl).2
  exact Option.some.inj (h2.symm.trans h1)
theorem n_cls2 {D : va_G} {y : nC} {cA : ClassId} {s : State} (h : va_K D vwCl (nTy y ++ [(cA, .object RX1)]) s) : cA = y 2 := by
  obtain ⟨_, _, _, _, _, h1⟩ := (h.2 2 _ rfl).2
  obtain ⟨_, _, _, _, _, h2⟩ := (h.2 4 _ rfl).2
  exact Option.some.inj (h2.symm.trans h1)
theorem n_in (j N : Nat) (h : j < N) (hN : N < 2 ^ 31) : vp_in (nI j) N := vp_in_nI h hN
theorem n_cx : ∀ (x z : Cell), x.cls = z.cls → x.slots = z.slots → x.monitor = z.monitor → x.hash = z.hash → x.vm = z.vm → x = z := by
  rintro ⟨a1, a2, a3, a4, a5⟩ ⟨b1, b2, b3, b4, b5⟩ h1 h2 h3 h4 h5
  dsimp only at h1 h2 h3 h4 h5
  subst h1 h2 h3 h4 h5
  rfl
theorem n_cell {cA : ClassId} {n : Nat} {f g : Nat → Option Nat} (h : ∀ i, i < n → f i = g i) : vp_cell cA (n, .inr (.inr (.inr (.inr f)))) = vp_cell cA (n, .inr (.inr (.inr (.inr g)))) := by
  rw [vp_cell_q, vp_cell_q]
  have e : (arrV cA n (fun j => va_rf (f j))).slots = (arrV cA n (fun j => va_rf (g j))).slots := by
    apply Array.ext_getElem?
    intro j
    by_cases hj : j < n
    · rw [arrV_read _ _ hj, arrV_read _ _ hj, h j hj]
    · rw [Array.getElem?_eq_none (by rw [arrV_size]; omega), Array.getElem?_eq_none (by rw [arrV_size]; omega)]
  exact n_cx _ _ rfl e rfl rfl rfl
theorem n_arr {D : va_G} {cl : List vw_C} {ws : va_W} {H : Heap} {cA : ClassId} {a n : Nat} {f g : Nat → Option Nat} (p : Nat) (hP : va_P D cl ws H) (hp : ws[p]? = some (a, .inl (cA, n, .inr (.inr (.inr (.inr f)))))) (h : ∀ i, i < n → f i = g i) : va_P D cl (ws.set p (a, .inl (cA, n, .inr (.inr (.inr (.inr g)))))) H := by
  have hl := (List.getElem?_eq_some_iff.mp hp).1
  intro k q hk
  by_cases hkp : k = p
  · subst hkp
    rw [List.getElem?_set_self hl] at hk
    cases hk
    have h1 : H[a]? = some (vp_cell cA (n, .inr (.inr (.inr (.inr f))))) := hP k _ hp
    show H[a]? = some (vp_cell cA (n, .inr (.inr (.inr (.inr g)))))
    rw [h1, n_cell h]
  · rw [List.getElem?_set_ne (Ne.symm hkp)] at hk
    exact hP k q hk
theorem n_cls3 {D : va_G} {y : nC} {cA : ClassId} {s : State} (h : va_K D vwCl (nTy y ++ [(cA, .array .int)]) s) : cA = y 3 := by
  have h1 : s.vm.findClass ("[" ++ (FieldType.array .int).toString) = some (y 3) := (h.2 3 _ rfl).2
  have h2 : s.vm.findClass ("[" ++ (FieldType.array .int).toString) = some cA := (h.2 4 _ rfl).2
  exact Option.some.inj (h2.symm.trans h1)
theorem n_pl {f : Nat → va_E} {v : va_E} (r : Nat → Nat) : va_pl ([] ++ (List.range 12).map r) (vr_up f ((List.range 12).map r) v) = (List.range 12).map (fun i => (r i, v)) := by
  unfold va_pl
  rw [List.nil_append, List.map_map]
  apply List.map_congr_left
  intro i hi
  show (r i, vr_up f ((List.range 12).map r) v (r i)) = (r i, v)
  rw [vr_up_in (List.mem_map.mpr ⟨i, hi, rfl⟩)]
def searchW (y : nC) (h0 : Nat) (u : Nat → Nat) : va_W := (h0, .inr (5, [.ref (u 0)])) :: (u 0, .inl (y 3, 12, .inr (.inr (.inr (.inr (fun i => some (u (i + 1)))))))) :: (List.range 12).map (fun i => (u (i + 1), .inl (y 1, 12, .inl (fun _ => 0))))
def nSet : Nat → Int32 := upd (upd (upd (upd (fun _ => 0) 0 230) 1 3) 2 100) 3 3
def rowW (y : nC) (h0 : Nat) (u : Nat → Nat) : va_W := [(h0, .inr (4, [.ref (u 0), .ref (u 1), .int 0, .int 0])), (u 0, .inl (y 2, 12, .inr (.inr (.inr (.inr (fun i => some (u (2 + i)))))))), (u 1, .inl (y 1, 4, .inl nSet))] ++ (List.range 12).map (fun i => (u (2 + i), .inr (0, [.int 0, .int 0, .int 0, .int 0, .int 0])))
set_option maxHeartbeats 4000000 in
set_option maxRecDepth 100000 in
theorem nX1_init (l : Launch) (D : va_G) (y : nC) (h0 sz : Nat) : nMet (S := Unit) l yX1_init (wsM yX1_init cX1_init 1 none) ({ frames := 1, cells := 0, slots := 0, locals := 12 } : Room) D y h0 sz (.inr (0, [.int 0, .int 0, .int 0, .int 0, .int 0])) (fun _ => [(h0, .inr (0, [.int 0, .int 0, .int 0, .int 0, .int 0]))]) 0 0 := by
  unfold nMet nQc
  refine Met.ofW (cc := cX1_init) (maxL := 1) (ret := none) (by decide) rfl ?_
  intro p e s m args below meth c s₁ B hml hv
  obtain ⟨rfl, hsz, hP, hK, hN⟩ := hv
  have hx := B.exec
  have hb := B.bytes
  have hr := B.returns
  have hts0 := atoms_spec (ws := wsM yX1_init cX1_init 1 none) B.pre
  have hts : ∀ w ∈ wsA, w.before ([Value.ref h0] : List Value).toArray s = true := fun w hw => hts0 w (List.mem_cons_of_mem _ hw)
  have hown : s.vm.findClass RX1 = some m.cls := findClass_of_methodNamed B.named
  have hin : meth.name = "<init>" := (name_of_methodNamed B.named B.method).1
  subst hsz
  have hD := (n_one h0 (.inr (0, [.int 0, .int 0, .int 0, .int 0, .int 0]))).self (sz := s.heap.size)
  generalize hAe : va_A [(h0, .inr (0, [.int 0, .int 0, .int 0, .int 0, .int 0]))] s.heap.size = A at hD ⊢
  have hA : ∀ q : Nat, s.heap.size ≤ q → A q := fun q h => by rw [← hAe]; exact Or.inr h
  have hS : va_S A s.heap s.heap [] := va_S.rf
  have hl := lv_entry ([.ref h0]) (n := 1) (Nat.le_of_ble_eq_true rfl)
  rw [lg_entry_eq]
  generalize (lg_sl ([.ref h0]) ++ List.replicate (1 - (lg_sl ([.ref h0])).length) Slot.unset).toArray = ls at hl ⊢
  have hl : lv_has ls 1 [(0, .ref h0)] := hl
  refine lv_aload_n hx hb dX1_init_0 rfl (lv_at hl 0 rfl) ?_
  refine W.objInit hx hb hown (hts _ iA_82) (hts _ iA_68) (hts _ iA_69) rfl (by rw [hml]; exact hl.1) rfl dX1_init_1 (Nat.le_of_ble_eq_true rfl) (Nat.le_of_ble_eq_true rfl) ?_
  refine W.eq (g2 := F0 m 4 ls []) rfl ?_
  exact W.vret hx hb hr (fun t ht hW => ⟨⟨(), rfl, trivial, by rw [ht]; exact hP, hD⟩, hS.F ht⟩) hS.2.2 dX1_init_4
set_option maxHeartbeats 4000000 in
set_option maxRecDepth 100000 in
theorem nX7_init (l : Launch) (D : va_G) (y : nC) (h0 sz : Nat) : nMet (S := Unit) l yX7_init (wsM yX7_init cX7_init 1 none) ({ frames := 1, cells := 0, slots := 0, locals := 12 } : Room) D y h0 sz (.inr (6, [.int 0, .int 0, .int 0, .int 0, .int 0, .int 0])) (fun _ => [(h0, .inr (6, [.int 0, .int 0, .int 0, .int 0, .int 0, .int 0]))]) 0 0 := by
  unfold nMet nQc
  refine Met.ofW (cc := cX7_init) (maxL := 1) (ret := none) (by decide) rfl ?_
  intro p e s m args below meth c s₁ B hml hv
  obtain ⟨rfl, hsz, hP, hK, hN⟩ := hv
  have hx := B.exec
  have hb := B.bytes
  have hr := B.returns
  have hts0 := atoms_spec (ws := wsM yX7_init cX7_init 1 none) B.pre
  have hts : ∀ w ∈ wsA, w.before ([Value.ref h0] : List Value).toArray s = true := fun w hw => hts0 w (List.mem_cons_of_mem _ hw)
  have hown : s.vm.findClass RX7 = some m.cls := findClass_of_methodNamed B.named
  have hin : meth.name = "<init>" := (name_of_methodNamed B.named B.method).1
  subst hsz
  have hD := (n_one h0 (.inr (6, [.int 0, .int 0, .int 0, .int 0, .int 0, .int 0]))).self (sz := s.heap.size)
  generalize hAe : va_A [(h0, .inr (6, [.int 0, .int 0, .int 0, .int 0, .int 0, .int 0]))] s.heap.size = A at hD ⊢
  have hA : ∀ q : Nat, s.heap.size ≤ q → A q := fun q h => by rw [← hAe]; exact Or.inr h
  have hS : va_S A s.heap s.heap [] := va_S.rf
  have hl := lv_entry ([.ref h0]) (n := 1) (Nat.le_of_ble_eq_true rfl)
  rw [lg_entry_eq]
  generalize (lg_sl ([.ref h0]) ++ List.replicate (1 - (lg_sl ([.ref h0])).length) Slot.unset).toArray = ls at hl ⊢
  have hl : lv_has ls 1 [(0, .ref h0)] := hl
  refine lv_aload_n hx hb dX7_init_0 rfl (lv_at hl 0 rfl) ?_
  refine W.objInit hx hb hown (hts _ iA_165) (hts _ iA_68) (hts _ iA_69) rfl (by rw [hml]; exact hl.1) rfl dX7_init_1 (Nat.le_of_ble_eq_true rfl) (Nat.le_of_ble_eq_true rfl) ?_
  refine W.eq (g2 := F0 m 4 ls []) rfl ?_
  exact W.vret hx hb hr (fun t ht hW => ⟨⟨(), rfl, trivial, by rw [ht]; exact hP, hD⟩, hS.F ht⟩) hS.2.2 dX7_init_4
set_option maxHeartbeats 4000000 in
set_option maxRecDepth 100000 in
theorem nX2_init (l : Launch) (D : va_G) (y : nC) (h0 sz : Nat) : nMet (S := Nat) l yX2_init (wsM yX2_init cX2_init 1 none) ({ frames := 1, cells := 1, slots := 64, locals := 12 } : Room) D y h0 sz (.inr (1, [.null, .int 0])) (fun u => [(h0, .inr (1, [.ref u, .int 0])), (u, .inl (y 0, 64, .inl (fun _ => 0)))]) 1 64 := by
  unfold nMet nQc
  refine Met.ofW (cc := cX2_init) (maxL := 1) (ret := none) (by decide) rfl ?_
  intro p e s m args below meth c s₁ B hml hv
  obtain ⟨rfl, hsz, hP, hK, hN⟩ := hv
  have hx := B.exec
  have hb := B.bytes
  have hr := B.returns
  have hts0 := atoms_spec (ws := wsM yX2_init cX2_init 1 none) B.pre
  have hts : ∀ w ∈ wsA, w.before ([Value.ref h0] : List Value).toArray s = true := fun w hw => hts0 w (List.mem_cons_of_mem _ hw)
  have hown : s.vm.findClass RX2 = some m.cls := findClass_of_methodNamed B.named
  have hin : meth.name = "<init>" := (name_of_methodNamed B.named B.method).1
  subst hsz
  have hD := (n_one h0 (.inr (1, [.null, .int 0]))).self (sz := s.heap.size)
  generalize hAe : va_A [(h0, .inr (1, [.null, .int 0]))] s.heap.size = A at hD ⊢
  have hA : ∀ q : Nat, s.heap.size ≤ q → A q := fun q h => by rw [← hAe]; exact Or.inr h
  have hS : va_S A s.heap s.heap [] := va_S.rf
  have hl := lv_entry ([.ref h0]) (n := 1) (Nat.le_of_ble_eq_true rfl)
  rw [lg_entry_eq]
  generalize (lg_sl ([.ref h0]) ++ List.replicate (1 - (lg_sl ([.ref h0])).length) Slot.unset).toArray = ls at hl ⊢
  have hl : lv_has ls 1 [(0, .ref h0)] := hl
  refine lv_aload_n hx hb dX2_init_0 rfl (lv_at hl 0 rfl) ?_
  refine W.objInit hx hb hown (hts _ iA_150) (hts _ iA_68) (hts _ iA_69) rfl (by rw [hml]; exact hl.1) rfl dX2_init_1 (Nat.le_of_ble_eq_true rfl) (Nat.le_of_ble_eq_true rfl) ?_
  refine W.eq (g2 := F0 m 4 ls []) rfl ?_
  refine lv_aload_n hx hb dX2_init_4 rfl (lv_at hl 0 rfl) ?_
  refine lv_bipush (v := 64) hx hb dX2_init_5 (by decide) ?_
  refine va_newa (atype := .char) (ty := .char) (n := 64) (N' := 64) (a0 := (64, .inl (fun _ => 0))) hx hb (hts _ iA_159) rfl hK hP hD hS hA (fun _ => rfl) (by decide) (by decide) (by decide) (Nat.le_of_ble_eq_true rfl) (Nat.le_of_ble_eq_true rfl) dX2_init_7 (fun q0 cA H hK2 hP hD hS => ?_)
  have ec : cA = y 0 := n_cls0 hK2
  subst ec
  have hP : va_P D vwCl ([(h0, .inr (1, [.null, .int 0])), (q0, .inl (y 0, 64, .inl (fun _ => 0)))]) H := hP
  have hD : va_D A ([(h0, .inr (1, [.null, .int 0])), (q0, .inl (y 0, 64, .inl (fun _ => 0)))]) := hD
  refine W.widen (k := 1) (n := 64) (by omega) (by omega) ?_
  refine va_putF (D := D) (ci := 1) (v := .ref q0) (ty := .array .char) (C := RX2) (T := TX2) (N := 2) hx hb hts wu_X2 tyX2 tyX2_ok nmX2 hown hK hP hD hS 0 rfl rfl 0 (by decide) (hts _ iA_151) (fun _ h9 => h9) rfl hin rfl (by decide +kernel) rfl rfl (Nat.le_of_ble_eq_true rfl) dX2_init_9 (fun H locs hP hD hS => ?_)
  have hP : va_P D vwCl ([(h0, .inr (1, [.ref q0, .int 0])), (q0, .inl (y 0, 64, .inl (fun _ => 0)))]) H := hP
  have hD : va_D A ([(h0, .inr (1, [.ref q0, .int 0])), (q0, .inl (y 0, 64, .inl (fun _ => 0)))]) := hD
  exact W.vret hx hb hr (fun t ht hW => ⟨⟨q0, rfl, trivial, by rw [ht]; exact hP, hD⟩, hS.F ht⟩) hS.2.2 dX2_init_12
set_option maxHeartbeats 4000000 in
set_option maxRecDepth 100000 in
theorem nX3_init (l : Launch) (D : va_G) (y : nC) (h0 sz : Nat) : nMet (S := Nat × Nat) l yX3_init (wsM yX3_init cX3_init 1 none) ({ frames := 1, cells := 2, slots := 12, locals := 12 } : Room) D y h0 sz (.inr (2, [.null, .null, .int 0])) (fun u => [(h0, .inr (2, [.ref u.1, .ref u.2, .int 0])), (u.1, .inl (y 1, 6, .inl (fun _ => 0))), (u.2, .inl (y 1, 6, .inl (fun _ => 0)))]) 2 12 := by
  unfold nMet nQc
  refine Met.ofW (cc := cX3_init) (maxL := 1) (ret := none) (by decide) rfl ?_
  intro p e s m args below meth c s₁ B hml hv
  obtain ⟨rfl, hsz, hP, hK, hN⟩ := hv
  have hx := B.exec
  have hb := B.bytes
  have hr := B.returns
  have hts0 := atoms_spec (ws := wsM yX3_init cX3_init 1 none) B.pre
  have hts : ∀ w ∈ wsA, w.before ([Value.ref h0] : List Value).toArray s = true := fun w hw => hts0 w (List.mem_cons_of_mem _ hw)
  have hown : s.vm.findClass RX3 = some m.cls := findClass_of_methodNamed B.named
  have hin : meth.name = "<init>" := (name_of_methodNamed B.named B.method).1
  subst hsz
  have hD := (n_one h0 (.inr (2, [.null, .null, .int 0]))).self (sz := s.heap.size)
  generalize hAe : va_A [(h0, .inr (2, [.null, .null, .int 0]))] s.heap.size = A at hD ⊢
  have hA : ∀ q : Nat, s.heap.size ≤ q → A q := fun q h => by rw [← hAe]; exact Or.inr h
  have hS : va_S A s.heap s.heap [] := va_S.rf
  have hl := lv_entry ([.ref h0]) (n := 1) (Nat.le_of_ble_eq_true rfl)
  rw [lg_entry_eq]
  generalize (lg_sl ([.ref h0]) ++ List.replicate (1 - (lg_sl ([.ref h0])).length) Slot.unset).toArray = ls at hl ⊢
  have hl : lv_has ls 1 [(0, .ref h0)] := hl
  refine lv_aload_n hx hb dX3_init_0 rfl (lv_at hl 0 rfl) ?_
  refine W.objInit hx hb hown (hts _ iA_196) (hts _ iA_68) (hts _ iA_69) rfl (by rw [hml]; exact hl.1) rfl dX3_init_1 (Nat.le_of_ble_eq_true rfl) (Nat.le_of_ble_eq_true rfl) ?_
  refine W.eq (g2 := F0 m 4 ls []) rfl ?_
  refine lv_aload_n hx hb dX3_init_4 rfl (lv_at hl 0 rfl) ?_
  refine lv_bipush (v := 6) hx hb dX3_init_5 (by decide) ?_
  refine va_newa (atype := .int) (ty := .int) (n := 6) (N' := 6) (a0 := (6, .inl (fun _ => 0))) hx hb (hts _ iA_108) rfl hK hP hD hS hA (fun _ => rfl) (by decide) (by decide) (by decide) (Nat.le_of_ble_eq_true rfl) (Nat.le_of_ble_eq_true rfl) dX3_init_7 (fun q0 cA H hK2 hP hD hS => ?_)
  have ec : cA = y 1 := n_cls1 hK2
  subst ec
  have hP : va_P D vwCl ([(h0, .inr (2, [.null, .null, .int 0])), (q0, .inl (y 1, 6, .inl (fun _ => 0)))]) H := hP
  have hD : va_D A ([(h0, .inr (2, [.null, .null, .int 0])), (q0, .inl (y 1, 6, .inl (fun _ => 0)))]) := hD
  refine W.widen (k := 1) (n := 6) (by omega) (by omega) ?_
  refine va_putF (D := D) (ci := 2) (v := .ref q0) (ty := .array .int) (C := RX3) (T := TX3) (N := 3) hx hb hts wu_X3 tyX3 tyX3_ok nmX3 hown hK hP hD hS 0 rfl rfl 0 (by decide) (hts _ iA_197) (fun _ h9 => h9) rfl hin rfl (by decide +kernel) rfl rfl (Nat.le_of_ble_eq_true rfl) dX3_init_9 (fun H locs hP hD hS => ?_)
  have hP : va_P D vwCl ([(h0, .inr (2, [.ref q0, .null, .int 0])), (q0, .inl (y 1, 6, .inl (fun _ => 0)))]) H := hP
  have hD : va_D A ([(h0, .inr (2, [.ref q0, .null, .int 0])), (q0, .inl (y 1, 6, .inl (fun _ => 0)))]) := hD
  refine lv_aload_n hx hb dX3_init_12 rfl (lv_at hl 0 rfl) ?_
  refine lv_bipush (v := 6) hx hb dX3_init_13 (by decide) ?_
  refine va_newa (atype := .int) (ty := .int) (n := 6) (N' := 6) (a0 := (6, .inl (fun _ => 0))) hx hb (hts _ iA_108) rfl hK hP hD hS hA (fun _ => rfl) (by decide) (by decide) (by decide) (Nat.le_of_ble_eq_true rfl) (Nat.le_of_ble_eq_true rfl) dX3_init_15 (fun q1 cA H hK2 hP hD hS => ?_)
  have ec : cA = y 1 := n_cls1 hK2
  subst ec
  have hP : va_P D vwCl ([(h0, .inr (2, [.ref q0, .null, .int 0])), (q0, .inl (y 1, 6, .inl (fun _ => 0))), (q1, .inl (y 1, 6, .inl (fun _ => 0)))]) H := hP
  have hD : va_D A ([(h0, .inr (2, [.ref q0, .null, .int 0])), (q0, .inl (y 1, 6, .inl (fun _ => 0))), (q1, .inl (y 1, 6, .inl (fun _ => 0)))]) := hD
  refine W.widen (k := 2) (n := 12) (by omega) (by omega) ?_
  refine va_putF (D := D) (ci := 2) (v := .ref q1) (ty := .array .int) (C := RX3) (T := TX3) (N := 3) hx hb hts wu_X3 tyX3 tyX3_ok nmX3 hown hK hP hD hS 0 rfl rfl 1 (by decide) (hts _ iA_198) (fun _ h9 => h9) rfl hin rfl (by decide +kernel) rfl rfl (Nat.le_of_ble_eq_true rfl) dX3_init_17 (fun H locs hP hD hS => ?_)
  have hP : va_P D vwCl ([(h0, .inr (2, [.ref q0, .ref q1, .int 0])), (q0, .inl (y 1, 6, .inl (fun _ => 0))), (q1, .inl (y 1, 6, .inl (fun _ => 0)))]) H := hP
  have hD : va_D A ([(h0, .inr (2, [.ref q0, .ref q1, .int 0])), (q0, .inl (y 1, 6, .inl (fun _ => 0))), (q1, .inl (y 1, 6, .inl (fun _ => 0)))]) := hD
  exact W.vret hx hb hr (fun t ht hW => ⟨⟨(q0, q1), rfl, trivial, by rw [ht]; exact hP, hD⟩, hS.F ht⟩) hS.2.2 dX3_init_20
set_option maxHeartbeats 4000000 in
set_option maxRecDepth 100000 in
theorem nX8_init (l : Launch) (D : va_G) (y : nC) (h0 sz : Nat) : nMet (S := Nat) l yX8_init (wsM yX8_init cX8_init 1 none) ({ frames := 1, cells := 1, slots := 12, locals := 12 } : Room) D y h0 sz (.inr (7, [.null])) (fun u => [(h0, .inr (7, [.ref u])), (u, .inl (y 1, 12, .inl (fun _ => 0)))]) 1 12 := by
  unfold nMet nQc
  refine Met.ofW (cc := cX8_init) (maxL := 1) (ret := none) (by decide) rfl ?_
  intro p e s m args below meth c s₁ B hml hv
  obtain ⟨rfl, hsz, hP, hK, hN⟩ := hv
  have hx := B.exec
  have hb := B.bytes
  have hr := B.returns
  have hts0 := atoms_spec (ws := wsM yX8_init cX8_init 1 none) B.pre
  have hts : ∀ w ∈ wsA, w.before ([Value.ref h0] : List Value).toArray s = true := fun w hw => hts0 w (List.mem_cons_of_mem _ hw)
  have hown : s.vm.findClass RX8 = some m.cls := findClass_of_methodNamed B.named
  have hin : meth.name = "<init>" := (name_of_methodNamed B.named B.method).1
  subst hsz
  have hD := (n_one h0 (.inr (7, [.null]))).self (sz := s.heap.size)
  generalize hAe : va_A [(h0, .inr (7, [.null]))] s.heap.size = A at hD ⊢
  have hA : ∀ q : Nat, s.heap.size ≤ q → A q := fun q h => by rw [← hAe]; exact Or.inr h
  have hS : va_S A s.heap s.heap [] := va_S.rf
  have hl := lv_entry ([.ref h0]) (n := 1) (Nat.le_of_ble_eq_true rfl)
  rw [lg_entry_eq]
  generalize (lg_sl ([.ref h0]) ++ List.replicate (1 - (lg_sl ([.ref h0])).length) Slot.unset).toArray = ls at hl ⊢
  have hl : lv_has ls 1 [(0, .ref h0)] := hl
  refine lv_aload_n hx hb dX8_init_0 rfl (lv_at hl 0 rfl) ?_
  refine W.objInit hx hb hown (hts _ iA_225) (hts _ iA_68) (hts _ iA_69) rfl (by rw [hml]; exact hl.1) rfl dX8_init_1 (Nat.le_of_ble_eq_true rfl) (Nat.le_of_ble_eq_true rfl) ?_
  refine W.eq (g2 := F0 m 4 ls []) rfl ?_
  refine lv_aload_n hx hb dX8_init_4 rfl (lv_at hl 0 rfl) ?_
  refine lv_bipush (v := 12) hx hb dX8_init_5 (by decide) ?_
  refine va_newa (atype := .int) (ty := .int) (n := 12) (N' := 12) (a0 := (12, .inl (fun _ => 0))) hx hb (hts _ iA_108) rfl hK hP hD hS hA (fun _ => rfl) (by decide) (by decide) (by decide) (Nat.le_of_ble_eq_true rfl) (Nat.le_of_ble_eq_true rfl) dX8_init_7 (fun q0 cA H hK2 hP hD hS => ?_)
  have ec : cA = y 1 := n_cls1 hK2
  subst ec
  have hP : va_P D vwCl ([(h0, .inr (7, [.null])), (q0, .inl (y 1, 12, .inl (fun _ => 0)))]) H := hP
  have hD : va_D A ([(h0, .inr (7, [.null])), (q0, .inl (y 1, 12, .inl (fun _ => 0)))]) := hD
  refine W.widen (k := 1) (n := 12) (by omega) (by omega) ?_
  refine va_putF (D := D) (ci := 7) (v := .ref q0) (ty := .array .int) (C := RX8) (T := TX8) (N := 1) hx hb hts wu_X8 tyX8 tyX8_ok nmX8 hown hK hP hD hS 0 rfl rfl 0 (by decide) (hts _ iA_226) (fun _ h9 => h9) rfl hin rfl (by decide +kernel) rfl rfl (Nat.le_of_ble_eq_true rfl) dX8_init_9 (fun H locs hP hD hS => ?_)
  have hP : va_P D vwCl ([(h0, .inr (7, [.ref q0])), (q0, .inl (y 1, 12, .inl (fun _ => 0)))]) H := hP
  have hD : va_D A ([(h0, .inr (7, [.ref q0])), (q0, .inl (y 1, 12, .inl (fun _ => 0)))]) := hD
  exact W.vret hx hb hr (fun t ht hW => ⟨⟨q0, rfl, trivial, by rw [ht]; exact hP, hD⟩, hS.F ht⟩) hS.2.2 dX8_init_12
set_option maxHeartbeats 4000000 in
set_option maxRecDepth 100000 in
theorem nX5_init (l : Launch) (D : va_G) (y : nC) (h0 sz : Nat) : nMet (S := Nat → Nat) l yX5_init (wsM yX5_init cX5_init 2 none) ({ frames := 2, cells := 14, slots := 76, locals := 32 } : Room) D y h0 sz (.inr (4, [.null, .null, .int 0, .int 0])) (fun u => rowW y h0 u) 14 76 := by
  unfold nMet nQc
  refine Met.ofW (cc := cX5_init) (maxL := 2) (ret := none) (by decide) rfl ?_
  intro p e s m args below meth c s₁ B hml hv
  obtain ⟨rfl, hsz, hP, hK, hN⟩ := hv
  have hx := B.exec
  have hb := B.bytes
  have hr := B.returns
  have hts0 := atoms_spec (ws := wsM yX5_init cX5_init 2 none) B.pre
  have hts : ∀ w ∈ wsA, w.before ([Value.ref h0] : List Value).toArray s = true := fun w hw => hts0 w (List.mem_cons_of_mem _ hw)
  have hown : s.vm.findClass RX5 = some m.cls := findClass_of_methodNamed B.named
  have hin : meth.name = "<init>" := (name_of_methodNamed B.named B.method).1
  subst hsz
  have hD := (n_one h0 (.inr (4, [.null, .null, .int 0, .int 0]))).self (sz := s.heap.size)
  generalize hAe : va_A [(h0, .inr (4, [.null, .null, .int 0, .int 0]))] s.heap.size = A at hD ⊢
  have hA : ∀ q : Nat, s.heap.size ≤ q → A q := fun q h => by rw [← hAe]; exact Or.inr h
  have hS : va_S A s.heap s.heap [] := va_S.rf
  have hl := lv_entry ([.ref h0]) (n := 2) (Nat.le_of_ble_eq_true rfl)
  rw [lg_entry_eq]
  generalize (lg_sl ([.ref h0]) ++ List.replicate (2 - (lg_sl ([.ref h0])).length) Slot.unset).toArray = ls at hl ⊢
  have hl : lv_has ls 2 [(0, .ref h0)] := hl
  refine lv_aload_n hx hb dX5_init_0 rfl (lv_at hl 0 rfl) ?_
  refine W.objInit hx hb hown (hts _ iA_75) (hts _ iA_68) (hts _ iA_69) rfl (by rw [hml]; exact hl.1) rfl dX5_init_1 (Nat.le_of_ble_eq_true rfl) (Nat.le_of_ble_eq_true rfl) ?_
  refine W.eq (g2 := F0 m 4 ls []) rfl ?_
  refine lv_aload_n hx hb dX5_init_4 rfl (lv_at hl 0 rfl) ?_
  refine lv_bipush (v := 12) hx hb dX5_init_5 (by decide) ?_
  refine va_newq (n := 12) (N' := 12) hx hb hown (hts _ iA_76) hN.2.2.1 hK hP hD hS hA (by decide) (by decide) (by decide) (Nat.le_of_ble_eq_true rfl) (Nat.le_of_ble_eq_true rfl) dX5_init_7 (fun q0 cA H hK2 hP hD hS => ?_)
  have ec : cA = y 2 := n_cls2 hK2
  subst ec
  have hP : va_P D vwCl ([(h0, .inr (4, [.null, .null, .int 0, .int 0])), (q0, .inl (y 2, 12, .inr (.inr (.inr (.inr (fun _ => none))))))]) H := hP
  have hD : va_D A ([(h0, .inr (4, [.null, .null, .int 0, .int 0])), (q0, .inl (y 2, 12, .inr (.inr (.inr (.inr (fun _ => none))))))]) := hD
  refine W.widen (k := 1) (n := 12) (by omega) (by omega) ?_
  refine va_putF (D := D) (ci := 4) (v := .ref q0) (ty := .array (.object "OneLampAllOut$Lamp")) (C := RX5) (T := TX5) (N := 4) hx hb hts wu_X5 tyX5 tyX5_ok nmX5 hown hK hP hD hS 0 rfl rfl 0 (by decide) (hts _ iA_109) (fun _ h9 => h9) rfl hin rfl (by decide +kernel) rfl rfl (Nat.le_of_ble_eq_true rfl) dX5_init_10 (fun H locs hP hD hS => ?_)
  have hP : va_P D vwCl ([(h0, .inr (4, [.ref q0, .null, .int 0, .int 0])), (q0, .inl (y 2, 12, .inr (.inr (.inr (.inr (fun _ => none))))))]) H := hP
  have hD : va_D A ([(h0, .inr (4, [.ref q0, .null, .int 0, .int 0])), (q0, .inl (y 2, 12, .inr (.inr (.inr (.inr (fun _ => none))))))]) := hD
  refine lv_aload_n hx hb dX5_init_13 rfl (lv_at hl 0 rfl) ?_
  refine lv_iconst (v := 4) hx hb dX5_init_14 (by decide) ?_
  refine va_newa (atype := .int) (ty := .int) (n := 4) (N' := 4) (a0 := (4, .inl (fun _ => 0))) hx hb (hts _ iA_108) rfl hK hP hD hS hA (fun _ => rfl) (by decide) (by decide) (by decide) (Nat.le_of_ble_eq_true rfl) (Nat.le_of_ble_eq_true rfl) dX5_init_15 (fun q1 cA H hK2 hP hD hS => ?_)
  have ec : cA = y 1 := n_cls1 hK2
  subst ec
  have hP : va_P D vwCl ([(h0, .inr (4, [.ref q0, .null, .int 0, .int 0])), (q0, .inl (y 2, 12, .inr (.inr (.inr (.inr (fun _ => none)))))), (q1, .inl (y 1, 4, .inl (fun _ => 0)))]) H := hP
  have hD : va_D A ([(h0, .inr (4, [.ref q0, .null, .int 0, .int 0])), (q0, .inl (y 2, 12, .inr (.inr (.inr (.inr (fun _ => none)))))), (q1, .inl (y 1, 4, .inl (fun _ => 0)))]) := hD
  refine W.widen (k := 2) (n := 16) (by omega) (by omega) ?_
  refine lv_dup hx hb dX5_init_17 rfl ?_
  refine lv_iconst (v := 0) hx hb dX5_init_18 (by decide) ?_
  refine lv_sipush (v := 230) hx hb dX5_init_19 (by decide) ?_
  refine va_iast (x := 230) hx hb hK hP hD hS 2 1 rfl rfl (i := 0) (n_in 0 _ (by decide) (by decide)) dX5_init_22 (fun H locs hP hD hS => ?_)
  have hP : va_P D vwCl ([(h0, .inr (4, [.ref q0, .null, .int 0, .int 0])), (q0, .inl (y 2, 12, .inr (.inr (.inr (.inr (fun _ => none)))))), (q1, .inl (y 1, 4, .inl (upd (fun _ => 0) 0 230)))]) H := hP
  have hD : va_D A ([(h0, .inr (4, [.ref q0, .null, .int 0, .int 0])), (q0, .inl (y 2, 12, .inr (.inr (.inr (.inr (fun _ => none)))))), (q1, .inl (y 1, 4, .inl (upd (fun _ => 0) 0 230)))]) := hD
  refine lv_dup hx hb dX5_init_23 rfl ?_
  refine lv_iconst (v := 1) hx hb dX5_init_24 (by decide) ?_
  refine lv_iconst (v := 3) hx hb dX5_init_25 (by decide) ?_
  refine va_iast (x := 3) hx hb hK hP hD hS 2 1 rfl rfl (i := 1) (n_in 1 _ (by decide) (by decide)) dX5_init_26 (fun H locs hP hD hS => ?_)
  have hP : va_P D vwCl ([(h0, .inr (4, [.ref q0, .null, .int 0, .int 0])), (q0, .inl (y 2, 12, .inr (.inr (.inr (.inr (fun _ => none)))))), (q1, .inl (y 1, 4, .inl (upd (upd (fun _ => 0) 0 230) 1 3)))]) H := hP
  have hD : va_D A ([(h0, .inr (4, [.ref q0, .null, .int 0, .int 0])), (q0, .inl (y 2, 12, .inr (.inr (.inr (.inr (fun _ => none)))))), (q1, .inl (y 1, 4, .inl (upd (upd (fun _ => 0) 0 230) 1 3)))]) := hD
  refine lv_dup hx hb dX5_init_27 rfl ?_
  refine lv_iconst (v := 2) hx hb dX5_init_28 (by decide) ?_
  refine lv_bipush (v := 100) hx hb dX5_init_29 (by decide) ?_
  refine va_iast (x := 100) hx hb hK hP hD hS 2 1 rfl rfl (i := 2) (n_in 2 _ (by decide) (by decide)) dX5_init_31 (fun H locs hP hD hS => ?_)
  have hP : va_P D vwCl ([(h0, .inr (4, [.ref q0, .null, .int 0, .int 0])), (q0, .inl (y 2, 12, .inr (.inr (.inr (.inr (fun _ => none)))))), (q1, .inl (y 1, 4, .inl (upd (upd (upd (fun _ => 0) 0 230) 1 3) 2 100)))]) H := hP
  have hD : va_D A ([(h0, .inr (4, [.ref q0, .null, .int 0, .int 0])), (q0, .inl (y 2, 12, .inr (.inr (.inr (.inr (fun _ => none)))))), (q1, .inl (y 1, 4, .inl (upd (upd (upd (fun _ => 0) 0 230) 1 3) 2 100)))]) := hD
  refine lv_dup hx hb dX5_init_32 rfl ?_
  refine lv_iconst (v := 3) hx hb dX5_init_33 (by decide) ?_
  refine lv_iconst (v := 3) hx hb dX5_init_34 (by decide) ?_
  refine va_iast (x := 3) hx hb hK hP hD hS 2 1 rfl rfl (i := 3) (n_in 3 _ (by decide) (by decide)) dX5_init_35 (fun H locs hP hD hS => ?_)
  have hP : va_P D vwCl ([(h0, .inr (4, [.ref q0, .null, .int 0, .int 0])), (q0, .inl (y 2, 12, .inr (.inr (.inr (.inr (fun _ => none)))))), (q1, .inl (y 1, 4, .inl (upd (upd (upd (upd (fun _ => 0) 0 230) 1 3) 2 100) 3 3)))]) H := hP
  have hD : va_D A ([(h0, .inr (4, [.ref q0, .null, .int 0, .int 0])), (q0, .inl (y 2, 12, .inr (.inr (.inr (.inr (fun _ => none)))))), (q1, .inl (y 1, 4, .inl (upd (upd (upd (upd (fun _ => 0) 0 230) 1 3) 2 100) 3 3)))]) := hD
  refine va_putF (D := D) (ci := 4) (v := .ref q1) (ty := .array .int) (C := RX5) (T := TX5) (N := 4) hx hb hts wu_X5 tyX5 tyX5_ok nmX5 hown hK hP hD hS 0 rfl rfl 1 (by decide) (hts _ iA_115) (fun _ h9 => h9) rfl hin rfl (by decide +kernel) rfl rfl (Nat.le_of_ble_eq_true rfl) dX5_init_36 (fun H locs hP hD hS => ?_)
  have hP : va_P D vwCl ([(h0, .inr (4, [.ref q0, .ref q1, .int 0, .int 0])), (q0, .inl (y 2, 12, .inr (.inr (.inr (.inr (fun _ => none)))))), (q1, .inl (y 1, 4, .inl (upd (upd (upd (upd (fun _ => 0) 0 230) 1 3) 2 100) 3 3)))]) H := hP
  have hD : va_D A ([(h0, .inr (4, [.ref q0, .ref q1, .int 0, .int 0])), (q0, .inl (y 2, 12, .inr (.inr (.inr (.inr (fun _ => none)))))), (q1, .inl (y 1, 4, .inl (upd (upd (upd (upd (fun _ => 0) 0 230) 1 3) 2 100) 3 3)))]) := hD
  refine lv_iconst (v := 0) hx hb dX5_init_39 (by decide) ?_
  refine lv_istore_n (lv' := [(1, .int 0), (0, .ref h0)]) hx hb dX5_init_40 rfl hl (by decide) rfl (fun ls hl => ?_)
  refine lv_iload_n hx hb dX5_init_41 rfl (lv_at hl 0 rfl) ?_
  refine lv_bipush (v := 12) hx hb dX5_init_42 (by decide) ?_
  refine lv_icmp_ge (tgt := 66) hx hb dX5_init_44 (by decide) (fun h => absurd h (by decide)) (fun _ => ?_)
  refine lv_aload_n hx hb dX5_init_47 rfl (lv_at hl 1 rfl) ?_
  refine va_get (D := D) (ci := 4) (v := .ref q0) (C := RX5) (T := TX5) (N := 4) hx hb hts wu_X5 hown hK hP 0 rfl rfl 0 (by decide) (hts _ iA_109) (fun _ h9 => h9) rfl dX5_init_48 ?_
  refine lv_iload_n hx hb dX5_init_51 rfl (lv_at hl 0 rfl) ?_
  refine va_new (ci := 0) (fs := [.int 0, .int 0, .int 0, .int 0, .int 0]) (C := RX1) (T := TX1) (N := 5) hx hb hts wu_X1 tyX1 tyX1_ok hown (hts _ iA_76) (hts _ iA_78) (hts _ iA_52) hK hP hD hS hA rfl (fun j hj => by rcases (show j = 0 ∨ j = 1 ∨ j = 2 ∨ j = 3 ∨ j = 4 by omega) with rfl | rfl | rfl | rfl | rfl <;> rfl) (Nat.le_of_ble_eq_true rfl) (Nat.le_of_ble_eq_true rfl) dX5_init_52 (fun q2 H hP hD hS => ?_)
  have hP : va_P D vwCl ([(h0, .inr (4, [.ref q0, .ref q1, .int 0, .int 0])), (q0, .inl (y 2, 12, .inr (.inr (.inr (.inr (fun _ => none)))))), (q1, .inl (y 1, 4, .inl (upd (upd (upd (upd (fun _ => 0) 0 230) 1 3) 2 100) 3 3))), (q2, .inr (0, [.int 0, .int 0, .int 0, .int 0, .int 0]))]) H := hP
  have hD : va_D A ([(h0, .inr (4, [.ref q0, .ref q1, .int 0, .int 0])), (q0, .inl (y 2, 12, .inr (.inr (.inr (.inr (fun _ => none)))))), (q1, .inl (y 1, 4, .inl (upd (upd (upd (upd (fun _ => 0) 0 230) 1 3) 2 100) 3 3))), (q2, .inr (0, [.int 0, .int 0, .int 0, .int 0, .int 0]))]) := hD
  refine W.widen (k := 3) (n := 21) (by omega) (by omega) ?_
  refine lv_dup hx hb dX5_init_55 rfl ?_
  have hF := n_free (wr := (([(h0, .inr (4, [.ref q0, .ref q1, .int 0, .int 0])), (q0, .inl (y 2, 12, .inr (.inr (.inr (.inr (fun _ => none)))))), (q1, .inl (y 1, 4, .inl (upd (upd (upd (upd (fun _ => 0) 0 230) 1 3) 2 100) 3 3)))]) : va_W)) hD hS hA
  refine va_callv (va_runIN (As := []) (rest := [.ref q2, .int 0, .ref q0]) ⟨hx, hb, hml, hown, hts⟩ (nX1_init l D y q2 H.size) ⟨va_cnB 0 hts (wgM iA_81) rfl rfl rfl hN.1.1 (hts _ iA_52) (by decide +kernel) ⟨Nat.le_of_ble_eq_true rfl, Nat.le_of_ble_eq_true rfl⟩, rfl, hts _ iA_80⟩ ⟨nPc_blind _ _ _ _ _, fun U hU hW => ⟨rfl, by rw [hU], by rw [hU]; exact n_last (wr := (([(h0, .inr (4, [.ref q0, .ref q1, .int 0, .int 0])), (q0, .inl (y 2, 12, .inr (.inr (.inr (.inr (fun _ => none)))))), (q1, .inl (y 1, 4, .inl (upd (upd (upd (upd (fun _ => 0) 0 230) 1 3) 2 100) 3 3)))]) : va_W)) hP, va_K.moved hW.alike hK, nN.warm hW hN⟩⟩ rfl rfl hl.1 rfl (lv_room (Nat.le_of_ble_eq_true rfl)) dX5_init_56 ⟨Nat.le_of_ble_eq_true rfl, Nat.le_of_ble_eq_true rfl⟩) hS (fun x _ h => hF x h) hF (fun u0 t H1 locs ht hvm _ hB hz1 hk1 hS => ?_)
  obtain ⟨hP1, hD1⟩ := hB
  rw [ht] at hP1
  obtain ⟨hP, hD⟩ := n_join (wr := (([(h0, .inr (4, [.ref q0, .ref q1, .int 0, .int 0])), (q0, .inl (y 2, 12, .inr (.inr (.inr (.inr (fun _ => none)))))), (q1, .inl (y 1, 4, .inl (upd (upd (upd (upd (fun _ => 0) 0 230) 1 3) 2 100) 3 3)))]) : va_W)) hP hD hk1 hF hP1 hD1
  generalize H1 = H at hP hS ⊢
  have hP : va_P D vwCl ([(h0, .inr (4, [.ref q0, .ref q1, .int 0, .int 0])), (q0, .inl (y 2, 12, .inr (.inr (.inr (.inr (fun _ => none)))))), (q1, .inl (y 1, 4, .inl (upd (upd (upd (upd (fun _ => 0) 0 230) 1 3) 2 100) 3 3))), (q2, .inr (0, [.int 0, .int 0, .int 0, .int 0, .int 0]))]) H := hP
  have hD : va_D A ([(h0, .inr (4, [.ref q0, .ref q1, .int 0, .int 0])), (q0, .inl (y 2, 12, .inr (.inr (.inr (.inr (fun _ => none)))))), (q1, .inl (y 1, 4, .inl (upd (upd (upd (upd (fun _ => 0) 0 230) 1 3) 2 100) 3 3))), (q2, .inr (0, [.int 0, .int 0, .int 0, .int 0, .int 0]))]) := hD
  refine W.widen (k := 3) (n := 21) (by omega) (by omega) ?_
  refine va_astq hx hb hK hP hD hS 1 2 3 0 rfl rfl rfl rfl (i := 0) (n_in 0 _ (by decide) (by decide)) dX5_init_59 (fun H locs hP hD hS => ?_)
  have hP : va_P D vwCl ([(h0, .inr (4, [.ref q0, .ref q1, .int 0, .int 0])), (q0, .inl (y 2, 12, .inr (.inr (.inr (.inr (va_up (fun _ => none) 0 (some q2))))))), (q1, .inl (y 1, 4, .inl (upd (upd (upd (upd (fun _ => 0) 0 230) 1 3) 2 100) 3 3))), (q2, .inr (0, [.int 0, .int 0, .int 0, .int 0, .int 0]))]) H := hP
  have hD : va_D A ([(h0, .inr (4, [.ref q0, .ref q1, .int 0, .int 0])), (q0, .inl (y 2, 12, .inr (.inr (.inr (.inr (va_up (fun _ => none) 0 (some q2))))))), (q1, .inl (y 1, 4, .inl (upd (upd (upd (upd (fun _ => 0) 0 230) 1 3) 2 100) 3 3))), (q2, .inr (0, [.int 0, .int 0, .int 0, .int 0, .int 0]))]) := hD
  refine lv_iinc (v := 1) (lv' := [(1, .int 1), (0, .ref h0)]) hx hb dX5_init_60 hl (k := 0) rfl (by decide) (by decide) rfl (fun ls hl => ?_)
  refine lv_goto (tgt := 41) hx hb dX5_init_63 (by decide) ?_
  refine lv_iload_n hx hb dX5_init_41 rfl (lv_at hl 0 rfl) ?_
  refine lv_bipush (v := 12) hx hb dX5_init_42 (by decide) ?_
  refine lv_icmp_ge (tgt := 66) hx hb dX5_init_44 (by decide) (fun h => absurd h (by decide)) (fun _ => ?_)
  refine lv_aload_n hx hb dX5_init_47 rfl (lv_at hl 1 rfl) ?_
  refine va_get (D := D) (ci := 4) (v := .ref q0) (C := RX5) (T := TX5) (N := 4) hx hb hts wu_X5 hown hK hP 0 rfl rfl 0 (by decide) (hts _ iA_109) (fun _ h9 => h9) rfl dX5_init_48 ?_
  refine lv_iload_n hx hb dX5_init_51 rfl (lv_at hl 0 rfl) ?_
  refine va_new (ci := 0) (fs := [.int 0, .int 0, .int 0, .int 0, .int 0]) (C := RX1) (T := TX1) (N := 5) hx hb hts wu_X1 tyX1 tyX1_ok hown (hts _ iA_76) (hts _ iA_78) (hts _ iA_52) hK hP hD hS hA rfl (fun j hj => by rcases (show j = 0 ∨ j = 1 ∨ j = 2 ∨ j = 3 ∨ j = 4 by omega) with rfl | rfl | rfl | rfl | rfl <;> rfl) (Nat.le_of_ble_eq_true rfl) (Nat.le_of_ble_eq_true rfl) dX5_init_52 (fun q3 H hP hD hS => ?_)
  have hP : va_P D vwCl ([(h0, .inr (4, [.ref q0, .ref q1, .int 0, .int 0])), (q0, .inl (y 2, 12, .inr (.inr (.inr (.inr (va_up (fun _ => none) 0 (some q2))))))), (q1, .inl (y 1, 4, .inl (upd (upd (upd (upd (fun _ => 0) 0 230) 1 3) 2 100) 3 3))), (q2, .inr (0, [.int 0, .int 0, .int 0, .int 0, .int 0])), (q3, .inr (0, [.int 0, .int 0, .int 0, .int 0, .int 0]))]) H := hP
  have hD : va_D A ([(h0, .inr (4, [.ref q0, .ref q1, .int 0, .int 0])), (q0, .inl (y 2, 12, .inr (.inr (.inr (.inr (va_up (fun _ => none) 0 (some q2))))))), (q1, .inl (y 1, 4, .inl (upd (upd (upd (upd (fun _ => 0) 0 230) 1 3) 2 100) 3 3))), (q2, .inr (0, [.int 0, .int 0, .int 0, .int 0, .int 0])), (q3, .inr (0, [.int 0, .int 0, .int 0, .int 0, .int 0]))]) := hD
  refine W.widen (k := 4) (n := 26) (by omega) (by omega) ?_
  refine lv_dup hx hb dX5_init_55 rfl ?_
  have hF := n_free (wr := (([(h0, .inr (4, [.ref q0, .ref q1, .int 0, .int 0])), (q0, .inl (y 2, 12, .inr (.inr (.inr (.inr (va_up (fun _ => none) 0 (some q2))))))), (q1, .inl (y 1, 4, .inl (upd (upd (upd (upd (fun _ => 0) 0 230) 1 3) 2 100) 3 3))), (q2, .inr (0, [.int 0, .int 0, .int 0, .int 0, .int 0]))]) : va_W)) hD hS hA
  refine va_callv (va_runIN (As := []) (rest := [.ref q3, .int 1, .ref q0]) ⟨hx, hb, hml, hown, hts⟩ (nX1_init l D y q3 H.size) ⟨va_cnB 0 hts (wgM iA_81) rfl rfl rfl hN.1.1 (hts _ iA_52) (by decide +kernel) ⟨Nat.le_of_ble_eq_true rfl, Nat.le_of_ble_eq_true rfl⟩, rfl, hts _ iA_80⟩ ⟨nPc_blind _ _ _ _ _, fun U hU hW => ⟨rfl, by rw [hU], by rw [hU]; exact n_last (wr := (([(h0, .inr (4, [.ref q0, .ref q1, .int 0, .int 0])), (q0, .inl (y 2, 12, .inr (.inr (.inr (.inr (va_up (fun _ => none) 0 (some q2))))))), (q1, .inl (y 1, 4, .inl (upd (upd (upd (upd (fun _ => 0) 0 230) 1 3) 2 100) 3 3))), (q2, .inr (0, [.int 0, .int 0, .int 0, .int 0, .int 0]))]) : va_W)) hP, va_K.moved hW.alike hK, nN.warm hW hN⟩⟩ rfl rfl hl.1 rfl (lv_room (Nat.le_of_ble_eq_true rfl)) dX5_init_56 ⟨Nat.le_of_ble_eq_true rfl, Nat.le_of_ble_eq_true rfl⟩) hS (fun x _ h => hF x h) hF (fun u1 t H1 locs ht hvm _ hB hz1 hk1 hS => ?_)
  obtain ⟨hP1, hD1⟩ := hB
  rw [ht] at hP1
  obtain ⟨hP, hD⟩ := n_join (wr := (([(h0, .inr (4, [.ref q0, .ref q1, .int 0, .int 0])), (q0, .inl (y 2, 12, .inr (.inr (.inr (.inr (va_up (fun _ => none) 0 (some q2))))))), (q1, .inl (y 1, 4, .inl (upd (upd (upd (upd (fun _ => 0) 0 230) 1 3) 2 100) 3 3))), (q2, .inr (0, [.int 0, .int 0, .int 0, .int 0, .int 0]))]) : va_W)) hP hD hk1 hF hP1 hD1
  generalize H1 = H at hP hS ⊢
  have hP : va_P D vwCl ([(h0, .inr (4, [.ref q0, .ref q1, .int 0, .int 0])), (q0, .inl (y 2, 12, .inr (.inr (.inr (.inr (va_up (fun _ => none) 0 (some q2))))))), (q1, .inl (y 1, 4, .inl (upd (upd (upd (upd (fun _ => 0) 0 230) 1 3) 2 100) 3 3))), (q2, .inr (0, [.int 0, .int 0, .int 0, .int 0, .int 0])), (q3, .inr (0, [.int 0, .int 0, .int 0, .int 0, .int 0]))]) H := hP
  have hD : va_D A ([(h0, .inr (4, [.ref q0, .ref q1, .int 0, .int 0])), (q0, .inl (y 2, 12, .inr (.inr (.inr (.inr (va_up (fun _ => none) 0 (some q2))))))), (q1, .inl (y 1, 4, .inl (upd (upd (upd (upd (fun _ => 0) 0 230) 1 3) 2 100) 3 3))), (q2, .inr (0, [.int 0, .int 0, .int 0, .int 0, .int 0])), (q3, .inr (0, [.int 0, .int 0, .int 0, .int 0, .int 0]))]) := hD
  refine W.widen (k := 4) (n := 26) (by omega) (by omega) ?_
  refine va_astq hx hb hK hP hD hS 1 2 4 0 rfl rfl rfl rfl (i := 1) (n_in 1 _ (by decide) (by decide)) dX5_init_59 (fun H locs hP hD hS => ?_)
  have hP : va_P D vwCl ([(h0, .inr (4, [.ref q0, .ref q1, .int 0, .int 0])), (q0, .inl (y 2, 12, .inr (.inr (.inr (.inr (va_up (va_up (fun _ => none) 0 (some q2)) 1 (some q3))))))), (q1, .inl (y 1, 4, .inl (upd (upd (upd (upd (fun _ => 0) 0 230) 1 3) 2 100) 3 3))), (q2, .inr (0, [.int 0, .int 0, .int 0, .int 0, .int 0])), (q3, .inr (0, [.int 0, .int 0, .int 0, .int 0, .int 0]))]) H := hP
  have hD : va_D A ([(h0, .inr (4, [.ref q0, .ref q1, .int 0, .int 0])), (q0, .inl (y 2, 12, .inr (.inr (.inr (.inr (va_up (va_up (fun _ => none) 0 (some q2)) 1 (some q3))))))), (q1, .inl (y 1, 4, .inl (upd (upd (upd (upd (fun _ => 0) 0 230) 1 3) 2 100) 3 3))), (q2, .inr (0, [.int 0, .int 0, .int 0, .int 0, .int 0])), (q3, .inr (0, [.int 0, .int 0, .int 0, .int 0, .int 0]))]) := hD
  refine lv_iinc (v := 2) (lv' := [(1, .int 2), (0, .ref h0)]) hx hb dX5_init_60 hl (k := 0) rfl (by decide) (by decide) rfl (fun ls hl => ?_)
  refine lv_goto (tgt := 41) hx hb dX5_init_63 (by decide) ?_
  refine lv_iload_n hx hb dX5_init_41 rfl (lv_at hl 0 rfl) ?_
  refine lv_bipush (v := 12) hx hb dX5_init_42 (by decide) ?_
  refine lv_icmp_ge (tgt := 66) hx hb dX5_init_44 (by decide) (fun h => absurd h (by decide)) (fun _ => ?_)
  refine lv_aload_n hx hb dX5_init_47 rfl (lv_at hl 1 rfl) ?_
  refine va_get (D := D) (ci := 4) (v := .ref q0) (C := RX5) (T := TX5) (N := 4) hx hb hts wu_X5 hown hK hP 0 rfl rfl 0 (by decide) (hts _ iA_109) (fun _ h9 => h9) rfl dX5_init_48 ?_
  refine lv_iload_n hx hb dX5_init_51 rfl (lv_at hl 0 rfl) ?_
  refine va_new (ci := 0) (fs := [.int 0, .int 0, .int 0, .int 0, .int 0]) (C := RX1) (T := TX1) (N := 5) hx hb hts wu_X1 tyX1 tyX1_ok hown (hts _ iA_76) (hts _ iA_78) (hts _ iA_52) hK hP hD hS hA rfl (fun j hj => by rcases (show j = 0 ∨ j = 1 ∨ j = 2 ∨ j = 3 ∨ j = 4 by omega) with rfl | rfl | rfl | rfl | rfl <;> rfl) (Nat.le_of_ble_eq_true rfl) (Nat.le_of_ble_eq_true rfl) dX5_init_52 (fun q4 H hP hD hS => ?_)
  have hP : va_P D vwCl ([(h0, .inr (4, [.ref q0, .ref q1, .int 0, .int 0])), (q0, .inl (y 2, 12, .inr (.inr (.inr (.inr (va_up (va_up (fun _ => none) 0 (some q2)) 1 (some q3))))))), (q1, .inl (y 1, 4, .inl (upd (upd (upd (upd (fun _ => 0) 0 230) 1 3) 2 100) 3 3))), (q2, .inr (0, [.int 0, .int 0, .int 0, .int 0, .int 0])), (q3, .inr (0, [.int 0, .int 0, .int 0, .int 0, .int 0])), (q4, .inr (0, [.int 0, .int 0, .int 0, .int 0, .int 0]))]) H := hP
  have hD : va_D A ([(h0, .inr (4, [.ref q0, .ref q1, .int 0, .int 0])), (q0, .inl (y 2, 12, .inr (.inr (.inr (.inr (va_up (va_up (fun _ => none) 0 (some q2)) 1 (some q3))))))), (q1, .inl (y 1, 4, .inl (upd (upd (upd (upd (fun _ => 0) 0 230) 1 3) 2 100) 3 3))), (q2, .inr (0, [.int 0, .int 0, .int 0, .int 0, .int 0])), (q3, .inr (0, [.int 0, .int 0, .int 0, .int 0, .int 0])), (q4, .inr (0, [.int 0, .int 0, .int 0, .int 0, .int 0]))]) := hD
  refine W.widen (k := 5) (n := 31) (by omega) (by omega) ?_
  refine lv_dup hx hb dX5_init_55 rfl ?_
  have hF := n_free (wr := (([(h0, .inr (4, [.ref q0, .ref q1, .int 0, .int 0])), (q0, .inl (y 2, 12, .inr (.inr (.inr (.inr (va_up (va_up (fun _ => none) 0 (some q2)) 1 (some q3))))))), (q1, .inl (y 1, 4, .inl (upd (upd (upd (upd (fun _ => 0) 0 230) 1 3) 2 100) 3 3))), (q2, .inr (0, [.int 0, .int 0, .int 0, .int 0, .int 0])), (q3, .inr (0, [.int 0, .int 0, .int 0, .int 0, .int 0]))]) : va_W)) hD hS hA
  refine va_callv (va_runIN (As := []) (rest := [.ref q4, .int 2, .ref q0]) ⟨hx, hb, hml, hown, hts⟩ (nX1_init l D y q4 H.size) ⟨va_cnB 0 hts (wgM iA_81) rfl rfl rfl hN.1.1 (hts _ iA_52) (by decide +kernel) ⟨Nat.le_of_ble_eq_true rfl, Nat.le_of_ble_eq_true rfl⟩, rfl, hts _ iA_80⟩ ⟨nPc_blind _ _ _ _ _, fun U hU hW => ⟨rfl, by rw [hU], by rw [hU]; exact n_last (wr := (([(h0, .inr (4, [.ref q0, .ref q1, .int 0, .int 0])), (q0, .inl (y 2, 12, .inr (.inr (.inr (.inr (va_up (va_up (fun _ => none) 0 (some q2)) 1 (some q3))))))), (q1, .inl (y 1, 4, .inl (upd (upd (upd (upd (fun _ => 0) 0 230) 1 3) 2 100) 3 3))), (q2, .inr (0, [.int 0, .int 0, .int 0, .int 0, .int 0])), (q3, .inr (0, [.int 0, .int 0, .int 0, .int 0, .int 0]))]) : va_W)) hP, va_K.moved hW.alike hK, nN.warm hW hN⟩⟩ rfl rfl hl.1 rfl (lv_room (Nat.le_of_ble_eq_true rfl)) dX5_init_56 ⟨Nat.le_of_ble_eq_true rfl, Nat.le_of_ble_eq_true rfl⟩) hS (fun x _ h => hF x h) hF (fun u2 t H1 locs ht hvm _ hB hz1 hk1 hS => ?_)
  obtain ⟨hP1, hD1⟩ := hB
  rw [ht] at hP1
  obtain ⟨hP, hD⟩ := n_join (wr := (([(h0, .inr (4, [.ref q0, .ref q1, .int 0, .int 0])), (q0, .inl (y 2, 12, .inr (.inr (.inr (.inr (va_up (va_up (fun _ => none) 0 (some q2)) 1 (some q3))))))), (q1, .inl (y 1, 4, .inl (upd (upd (upd (upd (fun _ => 0) 0 230) 1 3) 2 100) 3 3))), (q2, .inr (0, [.int 0, .int 0, .int 0, .int 0, .int 0])), (q3, .inr (0, [.int 0, .int 0, .int 0, .int 0, .int 0]))]) : va_W)) hP hD hk1 hF hP1 hD1
  generalize H1 = H at hP hS ⊢
  have hP : va_P D vwCl ([(h0, .inr (4, [.ref q0, .ref q1, .int 0, .int 0])), (q0, .inl (y 2, 12, .inr (.inr (.inr (.inr (va_up (va_up (fun _ => none) 0 (some q2)) 1 (some q3))))))), (q1, .inl (y 1, 4, .inl (upd (upd (upd (upd (fun _ => 0) 0 230) 1 3) 2 100) 3 3))), (q2, .inr (0, [.int 0, .int 0, .int 0, .int 0, .int 0])), (q3, .inr (0, [.int 0, .int 0, .int 0, .int 0, .int 0])), (q4, .inr (0, [.int 0, .int 0, .int 0, .int 0, .int 0]))]) H := hP
  have hD : va_D A ([(h0, .inr (4, [.ref q0, .ref q1, .int 0, .int 0])), (q0, .inl (y 2, 12, .inr (.inr (.inr (.inr (va_up (va_up (fun _ => none) 0 (some q2)) 1 (some q3))))))), (q1, .inl (y 1, 4, .inl (upd (upd (upd (upd (fun _ => 0) 0 230) 1 3) 2 100) 3 3))), (q2, .inr (0, [.int 0, .int 0, .int 0, .int 0, .int 0])), (q3, .inr (0, [.int 0, .int 0, .int 0, .int 0, .int 0])), (q4, .inr (0, [.int 0, .int 0, .int 0, .int 0, .int 0]))]) := hD
  refine W.widen (k := 5) (n := 31) (by omega) (by omega) ?_
  refine va_astq hx hb hK hP hD hS 1 2 5 0 rfl rfl rfl rfl (i := 2) (n_in 2 _ (by decide) (by decide)) dX5_init_59 (fun H locs hP hD hS => ?_)
  have hP : va_P D vwCl ([(h0, .inr (4, [.ref q0, .ref q1, .int 0, .int 0])), (q0, .inl (y 2, 12, .inr (.inr (.inr (.inr (va_up (va_up (va_up (fun _ => none) 0 (some q2)) 1 (some q3)) 2 (some q4))))))), (q1, .inl (y 1, 4, .inl (upd (upd (upd (upd (fun _ => 0) 0 230) 1 3) 2 100) 3 3))), (q2, .inr (0, [.int 0, .int 0, .int 0, .int 0, .int 0])), (q3, .inr (0, [.int 0, .int 0, .int 0, .int 0, .int 0])), (q4, .inr (0, [.int 0, .int 0, .int 0, .int 0, .int 0]))]) H := hP
  have hD : va_D A ([(h0, .inr (4, [.ref q0, .ref q1, .int 0, .int 0])), (q0, .inl (y 2, 12, .inr (.inr (.inr (.inr (va_up (va_up (va_up (fun _ => none) 0 (some q2)) 1 (some q3)) 2 (some q4))))))), (q1, .inl (y 1, 4, .inl (upd (upd (upd (upd (fun _ => 0) 0 230) 1 3) 2 100) 3 3))), (q2, .inr (0, [.int 0, .int 0, .int 0, .int 0, .int 0])), (q3, .inr (0, [.int 0, .int 0, .int 0, .int 0, .int 0])), (q4, .inr (0, [.int 0, .int 0, .int 0, .int 0, .int 0]))]) := hD
  refine lv_iinc (v := 3) (lv' := [(1, .int 3), (0, .ref h0)]) hx hb dX5_init_60 hl (k := 0) rfl (by decide) (by decide) rfl (fun ls hl => ?_)
  refine lv_goto (tgt := 41) hx hb dX5_init_63 (by decide) ?_
  refine lv_iload_n hx hb dX5_init_41 rfl (lv_at hl 0 rfl) ?_
  refine lv_bipush (v := 12) hx hb dX5_init_42 (by decide) ?_
  refine lv_icmp_ge (tgt := 66) hx hb dX5_init_44 (by decide) (fun h => absurd h (by decide)) (fun _ => ?_)
  refine lv_aload_n hx hb dX5_init_47 rfl (lv_at hl 1 rfl) ?_
  refine va_get (D := D) (ci := 4) (v := .ref q0) (C := RX5) (T := TX5) (N := 4) hx hb hts wu_X5 hown hK hP 0 rfl rfl 0 (by decide) (hts _ iA_109) (fun _ h9 => h9) rfl dX5_init_48 ?_
  refine lv_iload_n hx hb dX5_init_51 rfl (lv_at hl 0 rfl) ?_
  refine va_new (ci := 0) (fs := [.int 0, .int 0, .int 0, .int 0, .int 0]) (C := RX1) (T := TX1) (N := 5) hx hb hts wu_X1 tyX1 tyX1_ok hown (hts _ iA_76) (hts _ iA_78) (hts _ iA_52) hK hP hD hS hA rfl (fun j hj => by rcases (show j = 0 ∨ j = 1 ∨ j = 2 ∨ j = 3 ∨ j = 4 by omega) with rfl | rfl | rfl | rfl | rfl <;> rfl) (Nat.le_of_ble_eq_true rfl) (Nat.le_of_ble_eq_true rfl) dX5_init_52 (fun q5 H hP hD hS => ?_)
  have hP : va_P D vwCl ([(h0, .inr (4, [.ref q0, .ref q1, .int 0, .int 0])), (q0, .inl (y 2, 12, .inr (.inr (.inr (.inr (va_up (va_up (va_up (fun _ => none) 0 (some q2)) 1 (some q3)) 2 (some q4))))))), (q1, .inl (y 1, 4, .inl (upd (upd (upd (upd (fun _ => 0) 0 230) 1 3) 2 100) 3 3))), (q2, .inr (0, [.int 0, .int 0, .int 0, .int 0, .int 0])), (q3, .inr (0, [.int 0, .int 0, .int 0, .int 0, .int 0])), (q4, .inr (0, [.int 0, .int 0, .int 0, .int 0, .int 0])), (q5, .inr (0, [.int 0, .int 0, .int 0, .int 0, .int 0]))]) H := hP
  have hD : va_D A ([(h0, .inr (4, [.ref q0, .ref q1, .int 0, .int 0])), (q0, .inl (y 2, 12, .inr (.inr (.inr (.inr (va_up (va_up (va_up (fun _ => none) 0 (some q2)) 1 (some q3)) 2 (some q4))))))), (q1, .inl (y 1, 4, .inl (upd (upd (upd (upd (fun _ => 0) 0 230) 1 3) 2 100) 3 3))), (q2, .inr (0, [.int 0, .int 0, .int 0, .int 0, .int 0])), (q3, .inr (0, [.int 0, .int 0, .int 0, .int 0, .int 0])), (q4, .inr (0, [.int 0, .int 0, .int 0, .int 0, .int 0])), (q5, .inr (0, [.int 0, .int 0, .int 0, .int 0, .int 0]))]) := hD
  refine W.widen (k := 6) (n := 36) (by omega) (by omega) ?_
  refine lv_dup hx hb dX5_init_55 rfl ?_
  have hF := n_free (wr := (([(h0, .inr (4, [.ref q0, .ref q1, .int 0, .int 0])), (q0, .inl (y 2, 12, .inr (.inr (.inr (.inr (va_up (va_up (va_up (fun _ => none) 0 (some q2)) 1 (some q3)) 2 (some q4))))))), (q1, .inl (y 1, 4, .inl (upd (upd (upd (upd (fun _ => 0) 0 230) 1 3) 2 100) 3 3))), (q2, .inr (0, [.int 0, .int 0, .int 0, .int 0, .int 0])), (q3, .inr (0, [.int 0, .int 0, .int 0, .int 0, .int 0])), (q4, .inr (0, [.int 0, .int 0, .int 0, .int 0, .int 0]))]) : va_W)) hD hS hA
  refine va_callv (va_runIN (As := []) (rest := [.ref q5, .int 3, .ref q0]) ⟨hx, hb, hml, hown, hts⟩ (nX1_init l D y q5 H.size) ⟨va_cnB 0 hts (wgM iA_81) rfl rfl rfl hN.1.1 (hts _ iA_52) (by decide +kernel) ⟨Nat.le_of_ble_eq_true rfl, Nat.le_of_ble_eq_true rfl⟩, rfl, hts _ iA_80⟩ ⟨nPc_blind _ _ _ _ _, fun U hU hW => ⟨rfl, by rw [hU], by rw [hU]; exact n_last (wr := (([(h0, .inr (4, [.ref q0, .ref q1, .int 0, .int 0])), (q0, .inl (y 2, 12, .inr (.inr (.inr (.inr (va_up (va_up (va_up (fun _ => none) 0 (some q2)) 1 (some q3)) 2 (some q4))))))), (q1, .inl (y 1, 4, .inl (upd (upd (upd (upd (fun _ => 0) 0 230) 1 3) 2 100) 3 3))), (q2, .inr (0, [.int 0, .int 0, .int 0, .int 0, .int 0])), (q3, .inr (0, [.int 0, .int 0, .int 0, .int 0, .int 0])), (q4, .inr (0, [.int 0, .int 0, .int 0, .int 0, .int 0]))]) : va_W)) hP, va_K.moved hW.alike hK, nN.warm hW hN⟩⟩ rfl rfl hl.1 rfl (lv_room (Nat.le_of_ble_eq_true rfl)) dX5_init_56 ⟨Nat.le_of_ble_eq_true rfl, Nat.le_of_ble_eq_true rfl⟩) hS (fun x _ h => hF x h) hF (fun u3 t H1 locs ht hvm _ hB hz1 hk1 hS => ?_)
  obtain ⟨hP1, hD1⟩ := hB
  rw [ht] at hP1
  obtain ⟨hP, hD⟩ := n_join (wr := (([(h0, .inr (4, [.ref q0, .ref q1, .int 0, .int 0])), (q0, .inl (y 2, 12, .inr (.inr (.inr (.inr (va_up (va_up (va_up (fun _ => none) 0 (some q2)) 1 (some q3)) 2 (some q4))))))), (q1, .inl (y 1, 4, .inl (upd (upd (upd (upd (fun _ => 0) 0 230) 1 3) 2 100) 3 3))), (q2, .inr (0, [.int 0, .int 0, .int 0, .int 0, .int 0])), (q3, .inr (0, [.int 0, .int 0, .int 0, .int 0, .int 0])), (q4, .inr (0, [.int 0, .int 0, .int 0, .int 0, .int 0]))]) : va_W)) hP hD hk1 hF hP1 hD1
  generalize H1 = H at hP hS ⊢
  have hP : va_P D vwCl ([(h0, .inr (4, [.ref q0, .ref q1, .int 0, .int 0])), (q0, .inl (y 2, 12, .inr (.inr (.inr (.inr (va_up (va_up (va_up (fun _ => none) 0 (some q2)) 1 (some q3)) 2 (some q4))))))), (q1, .inl (y 1, 4, .inl (upd (upd (upd (upd (fun _ => 0) 0 230) 1 3) 2 100) 3 3))), (q2, .inr (0, [.int 0, .int 0, .int 0, .int 0, .int 0])), (q3, .inr (0, [.int 0, .int 0, .int 0, .int 0, .int 0])), (q4, .inr (0, [.int 0, .int 0, .int 0, .int 0, .int 0])), (q5, .inr (0, [.int 0, .int 0, .int 0, .int 0, .int 0]))]) H := hP
  have hD : va_D A ([(h0, .inr (4, [.ref q0, .ref q1, .int 0, .int 0])), (q0, .inl (y 2, 12, .inr (.inr (.inr (.inr (va_up (va_up (va_up (fun _ => none) 0 (some q2)) 1 (some q3)) 2 (some q4))))))), (q1, .inl (y 1, 4, .inl (upd (upd (upd (upd (fun _ => 0) 0 230) 1 3) 2 100) 3 3))), (q2, .inr (0, [.int 0, .int 0, .int 0, .int 0, .int 0])), (q3, .inr (0, [.int 0, .int 0, .int 0, .int 0, .int 0])), (q4, .inr (0, [.int 0, .int 0, .int 0, .int 0, .int 0])), (q5, .inr (0, [.int 0, .int 0, .int 0, .int 0, .int 0]))]) := hD
  refine W.widen (k := 6) (n := 36) (by omega) (by omega) ?_
  refine va_astq hx hb hK hP hD hS 1 2 6 0 rfl rfl rfl rfl (i := 3) (n_in 3 _ (by decide) (by decide)) dX5_init_59 (fun H locs hP hD hS => ?_)
  have hP : va_P D vwCl ([(h0, .inr (4, [.ref q0, .ref q1, .int 0, .int 0])), (q0, .inl (y 2, 12, .inr (.inr (.inr (.inr (va_up (va_up (va_up (va_up (fun _ => none) 0 (some q2)) 1 (some q3)) 2 (some q4)) 3 (some q5))))))), (q1, .inl (y 1, 4, .inl (upd (upd (upd (upd (fun _ => 0) 0 230) 1 3) 2 100) 3 3))), (q2, .inr (0, [.int 0, .int 0, .int 0, .int 0, .int 0])), (q3, .inr (0, [.int 0, .int 0, .int 0, .int 0, .int 0])), (q4, .inr (0, [.int 0, .int 0, .int 0, .int 0, .int 0])), (q5, .inr (0, [.int 0, .int 0, .int 0, .int 0, .int 0]))]) H := hP
  have hD : va_D A ([(h0, .inr (4, [.ref q0, .ref q1, .int 0, .int 0])), (q0, .inl (y 2, 12, .inr (.inr (.inr (.inr (va_up (va_up (va_up (va_up (fun _ => none) 0 (some q2)) 1 (some q3)) 2 (some q4)) 3 (some q5))))))), (q1, .inl (y 1, 4, .inl (upd (upd (upd (upd (fun _ => 0) 0 230) 1 3) 2 100) 3 3))), (q2, .inr (0, [.int 0, .int 0, .int 0, .int 0, .int 0])), (q3, .inr (0, [.int 0, .int 0, .int 0, .int 0, .int 0])), (q4, .inr (0, [.int 0, .int 0, .int 0, .int 0, .int 0])), (q5, .inr (0, [.int 0, .int 0, .int 0, .int 0, .int 0]))]) := hD
  refine lv_iinc (v := 4) (lv' := [(1, .int 4), (0, .ref h0)]) hx hb dX5_init_60 hl (k := 0) rfl (by decide) (by decide) rfl (fun ls hl => ?_)
  refine lv_goto (tgt := 41) hx hb dX5_init_63 (by decide) ?_
  refine lv_iload_n hx hb dX5_init_41 rfl (lv_at hl 0 rfl) ?_
  refine lv_bipush (v := 12) hx hb dX5_init_42 (by decide) ?_
  refine lv_icmp_ge (tgt := 66) hx hb dX5_init_44 (by decide) (fun h => absurd h (by decide)) (fun _ => ?_)
  refine lv_aload_n hx hb dX5_init_47 rfl (lv_at hl 1 rfl) ?_
  refine va_get (D := D) (ci := 4) (v := .ref q0) (C := RX5) (T := TX5) (N := 4) hx hb hts wu_X5 hown hK hP 0 rfl rfl 0 (by decide) (hts _ iA_109) (fun _ h9 => h9) rfl dX5_init_48 ?_
  refine lv_iload_n hx hb dX5_init_51 rfl (lv_at hl 0 rfl) ?_
  refine va_new (ci := 0) (fs := [.int 0, .int 0, .int 0, .int 0, .int 0]) (C := RX1) (T := TX1) (N := 5) hx hb hts wu_X1 tyX1 tyX1_ok hown (hts _ iA_76) (hts _ iA_78) (hts _ iA_52) hK hP hD hS hA rfl (fun j hj => by rcases (show j = 0 ∨ j = 1 ∨ j = 2 ∨ j = 3 ∨ j = 4 by omega) with rfl | rfl | rfl | rfl | rfl <;> rfl) (Nat.le_of_ble_eq_true rfl) (Nat.le_of_ble_eq_true rfl) dX5_init_52 (fun q6 H hP hD hS => ?_)
  have hP : va_P D vwCl ([(h0, .inr (4, [.ref q0, .ref q1, .int 0, .int 0])), (q0, .inl (y 2, 12, .inr (.inr (.inr (.inr (va_up (va_up (va_up (va_up (fun _ => none) 0 (some q2)) 1 (some q3)) 2 (some q4)) 3 (some q5))))))), (q1, .inl (y 1, 4, .inl (upd (upd (upd (upd (fun _ => 0) 0 230) 1 3) 2 100) 3 3))), (q2, .inr (0, [.int 0, .int 0, .int 0, .int 0, .int 0])), (q3, .inr (0, [.int 0, .int 0, .int 0, .int 0, .int 0])), (q4, .inr (0, [.int 0, .int 0, .int 0, .int 0, .int 0])), (q5, .inr (0, [.int 0, .int 0, .int 0, .int 0, .int 0])), (q6, .inr (0, [.int 0, .int 0, .int 0, .int 0, .int 0]))]) H := hP
  have hD : va_D A ([(h0, .inr (4, [.ref q0, .ref q1, .int 0, .int 0])), (q0, .inl (y 2, 12, .inr (.inr (.inr (.inr (va_up (va_up (va_up (va_up (fun _ => none) 0 (some q2)) 1 (some q3)) 2 (some q4)) 3 (some q5))))))), (q1, .inl (y 1, 4, .inl (upd (upd (upd (upd (fun _ => 0) 0 230) 1 3) 2 100) 3 3))), (q2, .inr (0, [.int 0, .int 0, .int 0, .int 0, .int 0])), (q3, .inr (0, [.int 0, .int 0, .int 0, .int 0, .int 0])), (q4, .inr (0, [.int 0, .int 0, .int 0, .int 0, .int 0])), (q5, .inr (0, [.int 0, .int 0, .int 0, .int 0, .int 0])), (q6, .inr (0, [.int 0, .int 0, .int 0, .int 0, .int 0]))]) := hD
  refine W.widen (k := 7) (n := 41) (by omega) (by omega) ?_
  refine lv_dup hx hb dX5_init_55 rfl ?_
  have hF := n_free (wr := (([(h0, .inr (4, [.ref q0, .ref q1, .int 0, .int 0])), (q0, .inl (y 2, 12, .inr (.inr (.inr (.inr (va_up (va_up (va_up (va_up (fun _ => none) 0 (some q2)) 1 (some q3)) 2 (some q4)) 3 (some q5))))))), (q1, .inl (y 1, 4, .inl (upd (upd (upd (upd (fun _ => 0) 0 230) 1 3) 2 100) 3 3))), (q2, .inr (0, [.int 0, .int 0, .int 0, .int 0, .int 0])), (q3, .inr (0, [.int 0, .int 0, .int 0, .int 0, .int 0])), (q4, .inr (0, [.int 0, .int 0, .int 0, .int 0, .int 0])), (q5, .inr (0, [.int 0, .int 0, .int 0, .int 0, .int 0]))]) : va_W)) hD hS hA
  refine va_callv (va_runIN (As := []) (rest := [.ref q6, .int 4, .ref q0]) ⟨hx, hb, hml, hown, hts⟩ (nX1_init l D y q6 H.size) ⟨va_cnB 0 hts (wgM iA_81) rfl rfl rfl hN.1.1 (hts _ iA_52) (by decide +kernel) ⟨Nat.le_of_ble_eq_true rfl, Nat.le_of_ble_eq_true rfl⟩, rfl, hts _ iA_80⟩ ⟨nPc_blind _ _ _ _ _, fun U hU hW => ⟨rfl, by rw [hU], by rw [hU]; exact n_last (wr := (([(h0, .inr (4, [.ref q0, .ref q1, .int 0, .int 0])), (q0, .inl (y 2, 12, .inr (.inr (.inr (.inr (va_up (va_up (va_up (va_up (fun _ => none) 0 (some q2)) 1 (some q3)) 2 (some q4)) 3 (some q5))))))), (q1, .inl (y 1, 4, .inl (upd (upd (upd (upd (fun _ => 0) 0 230) 1 3) 2 100) 3 3))), (q2, .inr (0, [.int 0, .int 0, .int 0, .int 0, .int 0])), (q3, .inr (0, [.int 0, .int 0, .int 0, .int 0, .int 0])), (q4, .inr (0, [.int 0, .int 0, .int 0, .int 0, .int 0])), (q5, .inr (0, [.int 0, .int 0, .int 0, .int 0, .int 0]))]) : va_W)) hP, va_K.moved hW.alike hK, nN.warm hW hN⟩⟩ rfl rfl hl.1 rfl (lv_room (Nat.le_of_ble_eq_true rfl)) dX5_init_56 ⟨Nat.le_of_ble_eq_true rfl, Nat.le_of_ble_eq_true rfl⟩) hS (fun x _ h => hF x h) hF (fun u4 t H1 locs ht hvm _ hB hz1 hk1 hS => ?_)
  obtain ⟨hP1, hD1⟩ := hB
  rw [ht] at hP1
  obtain ⟨hP, hD⟩ := n_join (wr := (([(h0, .inr (4, [.ref q0, .ref q1, .int 0, .int 0])), (q0, .inl (y 2, 12, .inr (.inr (.inr (.inr (va_up (va_up (va_up (va_up (fun _ => none) 0 (some q2)) 1 (some q3)) 2 (some q4)) 3 (some q5))))))), (q1, .inl (y 1, 4, .inl (upd (upd (upd (upd (fun _ => 0) 0 230) 1 3) 2 100) 3 3))), (q2, .inr (0, [.int 0, .int 0, .int 0, .int 0, .int 0])), (q3, .inr (0, [.int 0, .int 0, .int 0, .int 0, .int 0])), (q4, .inr (0, [.int 0, .int 0, .int 0, .int 0, .int 0])), (q5, .inr (0, [.int 0, .int 0, .int 0, .int 0, .int 0]))]) : va_W)) hP hD hk1 hF hP1 hD1
  generalize H1 = H at hP hS ⊢
  have hP : va_P D vwCl ([(h0, .inr (4, [.ref q0, .ref q1, .int 0, .int 0])), (q0, .inl (y 2, 12, .inr (.inr (.inr (.inr (va_up (va_up (va_up (va_up (fun _ => none) 0 (some q2)) 1 (some q3)) 2 (some q4)) 3 (some q5))))))), (q1, .inl (y 1, 4, .inl (upd (upd (upd (upd (fun _ => 0) 0 230) 1 3) 2 100) 3 3))), (q2, .inr (0, [.int 0, .int 0, .int 0, .int 0, .int 0])), (q3, .inr (0, [.int 0, .int 0, .int 0, .int 0, .int 0])), (q4, .inr (0, [.int 0, .int 0, .int 0, .int 0, .int 0])), (q5, .inr (0, [.int 0, .int 0, .int 0, .int 0, .int 0])), (q6, .inr (0, [.int 0, .int 0, .int 0, .int 0, .int 0]))]) H := hP
  have hD : va_D A ([(h0, .inr (4, [.ref q0, .ref q1, .int 0, .int 0])), (q0, .inl (y 2, 12, .inr (.inr (.inr (.inr (va_up (va_up (va_up (va_up (fun _ => none) 0 (some q2)) 1 (some q3)) 2 (some q4)) 3 (some q5))))))), (q1, .inl (y 1, 4, .inl (upd (upd (upd (upd (fun _ => 0) 0 230) 1 3) 2 100) 3 3))), (q2, .inr (0, [.int 0, .int 0, .int 0, .int 0, .int 0])), (q3, .inr (0, [.int 0, .int 0, .int 0, .int 0, .int 0])), (q4, .inr (0, [.int 0, .int 0, .int 0, .int 0, .int 0])), (q5, .inr (0, [.int 0, .int 0, .int 0, .int 0, .int 0])), (q6, .inr (0, [.int 0, .int 0, .int 0, .int 0, .int 0]))]) := hD
  refine W.widen (k := 7) (n := 41) (by omega) (by omega) ?_
  refine va_astq hx hb hK hP hD hS 1 2 7 0 rfl rfl rfl rfl (i := 4) (n_in 4 _ (by decide) (by decide)) dX5_init_59 (fun H locs hP hD hS => ?_)
  have hP : va_P D vwCl ([(h0, .inr (4, [.ref q0, .ref q1, .int 0, .int 0])), (q0, .inl (y 2, 12, .inr (.inr (.inr (.inr (va_up (va_up (va_up (va_up (va_up (fun _ => none) 0 (some q2)) 1 (some q3)) 2 (some q4)) 3 (some q5)) 4 (some q6))))))), (q1, .inl (y 1, 4, .inl (upd (upd (upd (upd (fun _ => 0) 0 230) 1 3) 2 100) 3 3))), (q2, .inr (0, [.int 0, .int 0, .int 0, .int 0, .int 0])), (q3, .inr (0, [.int 0, .int 0, .int 0, .int 0, .int 0])), (q4, .inr (0, [.int 0, .int 0, .int 0, .int 0, .int 0])), (q5, .inr (0, [.int 0, .int 0, .int 0, .int 0, .int 0])), (q6, .inr (0, [.int 0, .int 0, .int 0, .int 0, .int 0]))]) H := hP
  have hD : va_D A ([(h0, .inr (4, [.ref q0, .ref q1, .int 0, .int 0])), (q0, .inl (y 2, 12, .inr (.inr (.inr (.inr (va_up (va_up (va_up (va_up (va_up (fun _ => none) 0 (some q2)) 1 (some q3)) 2 (some q4)) 3 (some q5)) 4 (some q6))))))), (q1, .inl (y 1, 4, .inl (upd (upd (upd (upd (fun _ => 0) 0 230) 1 3) 2 100) 3 3))), (q2, .inr (0, [.int 0, .int 0, .int 0, .int 0, .int 0])), (q3, .inr (0, [.int 0, .int 0, .int 0, .int 0, .int 0])), (q4, .inr (0, [.int 0, .int 0, .int 0, .int 0, .int 0])), (q5, .inr (0, [.int 0, .int 0, .int 0, .int 0, .int 0])), (q6, .inr (0, [.int 0, .int 0, .int 0, .int 0, .int 0]))]) := hD
  refine lv_iinc (v := 5) (lv' := [(1, .int 5), (0, .ref h0)]) hx hb dX5_init_60 hl (k := 0) rfl (by decide) (by decide) rfl (fun ls hl => ?_)
  refine lv_goto (tgt := 41) hx hb dX5_init_63 (by decide) ?_
  refine lv_iload_n hx hb dX5_init_41 rfl (lv_at hl 0 rfl) ?_
  refine lv_bipush (v := 12) hx hb dX5_init_42 (by decide) ?_
  refine lv_icmp_ge (tgt := 66) hx hb dX5_init_44 (by decide) (fun h => absurd h (by decide)) (fun _ => ?_)
  refine lv_aload_n hx hb dX5_init_47 rfl (lv_at hl 1 rfl) ?_
  refine va_get (D := D) (ci := 4) (v := .ref q0) (C := RX5) (T := TX5) (N := 4) hx hb hts wu_X5 hown hK hP 0 rfl rfl 0 (by decide) (hts _ iA_109) (fun _ h9 => h9) rfl dX5_init_48 ?_
  refine lv_iload_n hx hb dX5_init_51 rfl (lv_at hl 0 rfl) ?_
  refine va_new (ci := 0) (fs := [.int 0, .int 0, .int 0, .int 0, .int 0]) (C := RX1) (T := TX1) (N := 5) hx hb hts wu_X1 tyX1 tyX1_ok hown (hts _ iA_76) (hts _ iA_78) (hts _ iA_52) hK hP hD hS hA rfl (fun j hj => by rcases (show j = 0 ∨ j = 1 ∨ j = 2 ∨ j = 3 ∨ j = 4 by omega) with rfl | rfl | rfl | rfl | rfl <;> rfl) (Nat.le_of_ble_eq_true rfl) (Nat.le_of_ble_eq_true rfl) dX5_init_52 (fun q7 H hP hD hS => ?_)
  have hP : va_P D vwCl ([(h0, .inr (4, [.ref q0, .ref q1, .int 0, .int 0])), (q0, .inl (y 2, 12, .inr (.inr (.inr (.inr (va_up (va_up (va_up (va_up (va_up (fun _ => none) 0 (some q2)) 1 (some q3)) 2 (some q4)) 3 (some q5)) 4 (some q6))))))), (q1, .inl (y 1, 4, .inl (upd (upd (upd (upd (fun _ => 0) 0 230) 1 3) 2 100) 3 3))), (q2, .inr (0, [.int 0, .int 0, .int 0, .int 0, .int 0])), (q3, .inr (0, [.int 0, .int 0, .int 0, .int 0, .int 0])), (q4, .inr (0, [.int 0, .int 0, .int 0, .int 0, .int 0])), (q5, .inr (0, [.int 0, .int 0, .int 0, .int 0, .int 0])), (q6, .inr (0, [.int 0, .int 0, .int 0, .int 0, .int 0])), (q7, .inr (0, [.int 0, .int 0, .int 0, .int 0, .int 0]))]) H := hP
  have hD : va_D A ([(h0, .inr (4, [.ref q0, .ref q1, .int 0, .int 0])), (q0, .inl (y 2, 12, .inr (.inr (.inr (.inr (va_up (va_up (va_up (va_up (va_up (fun _ => none) 0 (some q2)) 1 (some q3)) 2 (some q4)) 3 (some q5)) 4 (some q6))))))), (q1, .inl (y 1, 4, .inl (upd (upd (upd (upd (fun _ => 0) 0 230) 1 3) 2 100) 3 3))), (q2, .inr (0, [.int 0, .int 0, .int 0, .int 0, .int 0])), (q3, .inr (0, [.int 0, .int 0, .int 0, .int 0, .int 0])), (q4, .inr (0, [.int 0, .int 0, .int 0, .int 0, .int 0])), (q5, .inr (0, [.int 0, .int 0, .int 0, .int 0, .int 0])), (q6, .inr (0, [.int 0, .int 0, .int 0, .int 0, .int 0])), (q7, .inr (0, [.int 0, .int 0, .int 0, .int 0, .int 0]))]) := hD
  refine W.widen (k := 8) (n := 46) (by omega) (by omega) ?_
  refine lv_dup hx hb dX5_init_55 rfl ?_
  have hF := n_free (wr := (([(h0, .inr (4, [.ref q0, .ref q1, .int 0, .int 0])), (q0, .inl (y 2, 12, .inr (.inr (.inr (.inr (va_up (va_up (va_up (va_up (va_up (fun _ => none) 0 (some q2)) 1 (some q3)) 2 (some q4)) 3 (some q5)) 4 (some q6))))))), (q1, .inl (y 1, 4, .inl (upd (upd (upd (upd (fun _ => 0) 0 230) 1 3) 2 100) 3 3))), (q2, .inr (0, [.int 0, .int 0, .int 0, .int 0, .int 0])), (q3, .inr (0, [.int 0, .int 0, .int 0, .int 0, .int 0])), (q4, .inr (0, [.int 0, .int 0, .int 0, .int 0, .int 0])), (q5, .inr (0, [.int 0, .int 0, .int 0, .int 0, .int 0])), (q6, .inr (0, [.int 0, .int 0, .int 0, .int 0, .int 0]))]) : va_W)) hD hS hA
  refine va_callv (va_runIN (As := []) (rest := [.ref q7, .int 5, .ref q0]) ⟨hx, hb, hml, hown, hts⟩ (nX1_init l D y q7 H.size) ⟨va_cnB 0 hts (wgM iA_81) rfl rfl rfl hN.1.1 (hts _ iA_52) (by decide +kernel) ⟨Nat.le_of_ble_eq_true rfl, Nat.le_of_ble_eq_true rfl⟩, rfl, hts _ iA_80⟩ ⟨nPc_blind _ _ _ _ _, fun U hU hW => ⟨rfl, by rw [hU], by rw [hU]; exact n_last (wr := (([(h0, .inr (4, [.ref q0, .ref q1, .int 0, .int 0])), (q0, .inl (y 2, 12, .inr (.inr (.inr (.inr (va_up (va_up (va_up (va_up (va_up (fun _ => none) 0 (some q2)) 1 (some q3)) 2 (some q4)) 3 (some q5)) 4 (some q6))))))), (q1, .inl (y 1, 4, .inl (upd (upd (upd (upd (fun _ => 0) 0 230) 1 3) 2 100) 3 3))), (q2, .inr (0, [.int 0, .int 0, .int 0, .int 0, .int 0])), (q3, .inr (0, [.int 0, .int 0, .int 0, .int 0, .int 0])), (q4, .inr (0, [.int 0, .int 0, .int 0, .int 0, .int 0])), (q5, .inr (0, [.int 0, .int 0, .int 0, .int 0, .int 0])), (q6, .inr (0, [.int 0, .int 0, .int 0, .int 0, .int 0]))]) : va_W)) hP, va_K.moved hW.alike hK, nN.warm hW hN⟩⟩ rfl rfl hl.1 rfl (lv_room (Nat.le_of_ble_eq_true rfl)) dX5_init_56 ⟨Nat.le_of_ble_eq_true rfl, Nat.le_of_ble_eq_true rfl⟩) hS (fun x _ h => hF x h) hF (fun u5 t H1 locs ht hvm _ hB hz1 hk1 hS => ?_)
  obtain ⟨hP1, hD1⟩ := hB
  rw [ht] at hP1
  obtain ⟨hP, hD⟩ := n_join (wr := (([(h0, .inr (4, [.ref q0, .ref q1, .int 0, .int 0])), (q0, .inl (y 2, 12, .inr (.inr (.inr (.inr (va_up (va_up (va_up (va_up (va_up (fun _ => none) 0 (some q2)) 1 (some q3)) 2 (some q4)) 3 (some q5)) 4 (some q6))))))), (q1, .inl (y 1, 4, .inl (upd (upd (upd (upd (fun _ => 0) 0 230) 1 3) 2 100) 3 3))), (q2, .inr (0, [.int 0, .int 0, .int 0, .int 0, .int 0])), (q3, .inr (0, [.int 0, .int 0, .int 0, .int 0, .int 0])), (q4, .inr (0, [.int 0, .int 0, .int 0, .int 0, .int 0])), (q5, .inr (0, [.int 0, .int 0, .int 0, .int 0, .int 0])), (q6, .inr (0, [.int 0, .int 0, .int 0, .int 0, .int 0]))]) : va_W)) hP hD hk1 hF hP1 hD1
  generalize H1 = H at hP hS ⊢
  have hP : va_P D vwCl ([(h0, .inr (4, [.ref q0, .ref q1, .int 0, .int 0])), (q0, .inl (y 2, 12, .inr (.inr (.inr (.inr (va_up (va_up (va_up (va_up (va_up (fun _ => none) 0 (some q2)) 1 (some q3)) 2 (some q4)) 3 (some q5)) 4 (some q6))))))), (q1, .inl (y 1, 4, .inl (upd (upd (upd (upd (fun _ => 0) 0 230) 1 3) 2 100) 3 3))), (q2, .inr (0, [.int 0, .int 0, .int 0, .int 0, .int 0])), (q3, .inr (0, [.int 0, .int 0, .int 0, .int 0, .int 0])), (q4, .inr (0, [.int 0, .int 0, .int 0, .int 0, .int 0])), (q5, .inr (0, [.int 0, .int 0, .int 0, .int 0, .int 0])), (q6, .inr (0, [.int 0, .int 0, .int 0, .int 0, .int 0])), (q7, .inr (0, [.int 0, .int 0, .int 0, .int 0, .int 0]))]) H := hP
  have hD : va_D A ([(h0, .inr (4, [.ref q0, .ref q1, .int 0, .int 0])), (q0, .inl (y 2, 12, .inr (.inr (.inr (.inr (va_up (va_up (va_up (va_up (va_up (fun _ => none) 0 (some q2)) 1 (some q3)) 2 (some q4)) 3 (some q5)) 4 (some q6))))))), (q1, .inl (y 1, 4, .inl (upd (upd (upd (upd (fun _ => 0) 0 230) 1 3) 2 100) 3 3))), (q2, .inr (0, [.int 0, .int 0, .int 0, .int 0, .int 0])), (q3, .inr (0, [.int 0, .int 0, .int 0, .int 0, .int 0])), (q4, .inr (0, [.int 0, .int 0, .int 0, .int 0, .int 0])), (q5, .inr (0, [.int 0, .int 0, .int 0, .int 0, .int 0])), (q6, .inr (0, [.int 0, .int 0, .int 0, .int 0, .int 0])), (q7, .inr (0, [.int 0, .int 0, .int 0, .int 0, .int 0]))]) := hD
  refine W.widen (k := 8) (n := 46) (by omega) (by omega) ?_
  refine va_astq hx hb hK hP hD hS 1 2 8 0 rfl rfl rfl rfl (i := 5) (n_in 5 _ (by decide) (by decide)) dX5_init_59 (fun H locs hP hD hS => ?_)
  have hP : va_P D vwCl ([(h0, .inr (4, [.ref q0, .ref q1, .int 0, .int 0])), (q0, .inl (y 2, 12, .inr (.inr (.inr (.inr (va_up (va_up (va_up (va_up (va_up (va_up (fun _ => none) 0 (some q2)) 1 (some q3)) 2 (some q4)) 3 (some q5)) 4 (some q6)) 5 (some q7))))))), (q1, .inl (y 1, 4, .inl (upd (upd (upd (upd (fun _ => 0) 0 230) 1 3) 2 100) 3 3))), (q2, .inr (0, [.int 0, .int 0, .int 0, .int 0, .int 0])), (q3, .inr (0, [.int 0, .int 0, .int 0, .int 0, .int 0])), (q4, .inr (0, [.int 0, .int 0, .int 0, .int 0, .int 0])), (q5, .inr (0, [.int 0, .int 0, .int 0, .int 0, .int 0])), (q6, .inr (0, [.int 0, .int 0, .int 0, .int 0, .int 0])), (q7, .inr (0, [.int 0, .int 0, .int 0, .int 0, .int 0]))]) H := hP
  have hD : va_D A ([(h0, .inr (4, [.ref q0, .ref q1, .int 0, .int 0])), (q0, .inl (y 2, 12, .inr (.inr (.inr (.inr (va_up (va_up (va_up (va_up (va_up (va_up (fun _ => none) 0 (some q2)) 1 (some q3)) 2 (some q4)) 3 (some q5)) 4 (some q6)) 5 (some q7))))))), (q1, .inl (y 1, 4, .inl (upd (upd (upd (upd (fun _ => 0) 0 230) 1 3) 2 100) 3 3))), (q2, .inr (0, [.int 0, .int 0, .int 0, .int 0, .int 0])), (q3, .inr (0, [.int 0, .int 0, .int 0, .int 0, .int 0])), (q4, .inr (0, [.int 0, .int 0, .int 0, .int 0, .int 0])), (q5, .inr (0, [.int 0, .int 0, .int 0, .int 0, .int 0])), (q6, .inr (0, [.int 0, .int 0, .int 0, .int 0, .int 0])), (q7, .inr (0, [.int 0, .int 0, .int 0, .int 0, .int 0]))]) := hD
  refine lv_iinc (v := 6) (lv' := [(1, .int 6), (0, .ref h0)]) hx hb dX5_init_60 hl (k := 0) rfl (by decide) (by decide) rfl (fun ls hl => ?_)
  refine lv_goto (tgt := 41) hx hb dX5_init_63 (by decide) ?_
  refine lv_iload_n hx hb dX5_init_41 rfl (lv_at hl 0 rfl) ?_
  refine lv_bipush (v := 12) hx hb dX5_init_42 (by decide) ?_
  refine lv_icmp_ge (tgt := 66) hx hb dX5_init_44 (by decide) (fun h => absurd h (by decide)) (fun _ => ?_)
  refine lv_aload_n hx hb dX5_init_47 rfl (lv_at hl 1 rfl) ?_
  refine va_get (D := D) (ci := 4) (v := .ref q0) (C := RX5) (T := TX5) (N := 4) hx hb hts wu_X5 hown hK hP 0 rfl rfl 0 (by decide) (hts _ iA_109) (fun _ h9 => h9) rfl dX5_init_48 ?_
  refine lv_iload_n hx hb dX5_init_51 rfl (lv_at hl 0 rfl) ?_
  refine va_new (ci := 0) (fs := [.int 0, .int 0, .int 0, .int 0, .int 0]) (C := RX1) (T := TX1) (N := 5) hx hb hts wu_X1 tyX1 tyX1_ok hown (hts _ iA_76) (hts _ iA_78) (hts _ iA_52) hK hP hD hS hA rfl (fun j hj => by rcases (show j = 0 ∨ j = 1 ∨ j = 2 ∨ j = 3 ∨ j = 4 by omega) with rfl | rfl | rfl | rfl | rfl <;> rfl) (Nat.le_of_ble_eq_true rfl) (Nat.le_of_ble_eq_true rfl) dX5_init_52 (fun q8 H hP hD hS => ?_)
  have hP : va_P D vwCl ([(h0, .inr (4, [.ref q0, .ref q1, .int 0, .int 0])), (q0, .inl (y 2, 12, .inr (.inr (.inr (.inr (va_up (va_up (va_up (va_up (va_up (va_up (fun _ => none) 0 (some q2)) 1 (some q3)) 2 (some q4)) 3 (some q5)) 4 (some q6)) 5 (some q7))))))), (q1, .inl (y 1, 4, .inl (upd (upd (upd (upd (fun _ => 0) 0 230) 1 3) 2 100) 3 3))), (q2, .inr (0, [.int 0, .int 0, .int 0, .int 0, .int 0])), (q3, .inr (0, [.int 0, .int 0, .int 0, .int 0, .int 0])), (q4, .inr (0, [.int 0, .int 0, .int 0, .int 0, .int 0])), (q5, .inr (0, [.int 0, .int 0, .int 0, .int 0, .int 0])), (q6, .inr (0, [.int 0, .int 0, .int 0, .int 0, .int 0])), (q7, .inr (0, [.int 0, .int 0, .int 0, .int 0, .int 0])), (q8, .inr (0, [.int 0, .int 0, .int 0, .int 0, .int 0]))]) H := hP
  have hD : va_D A ([(h0, .inr (4, [.ref q0, .ref q1, .int 0, .int 0])), (q0, .inl (y 2, 12, .inr (.inr (.inr (.inr (va_up (va_up (va_up (va_up (va_up (va_up (fun _ => none) 0 (some q2)) 1 (some q3)) 2 (some q4)) 3 (some q5)) 4 (some q6)) 5 (some q7))))))), (q1, .inl (y 1, 4, .inl (upd (upd (upd (upd (fun _ => 0) 0 230) 1 3) 2 100) 3 3))), (q2, .inr (0, [.int 0, .int 0, .int 0, .int 0, .int 0])), (q3, .inr (0, [.int 0, .int 0, .int 0, .int 0, .int 0])), (q4, .inr (0, [.int 0, .int 0, .int 0, .int 0, .int 0])), (q5, .inr (0, [.int 0, .int 0, .int 0, .int 0, .int 0])), (q6, .inr (0, [.int 0, .int 0, .int 0, .int 0, .int 0])), (q7, .inr (0, [.int 0, .int 0, .int 0, .int 0, .int 0])), (q8, .inr (0, [.int 0, .int 0, .int 0, .int 0, .int 0]))]) := hD
  refine W.widen (k := 9) (n := 51) (by omega) (by omega) ?_
  refine lv_dup hx hb dX5_init_55 rfl ?_
  have hF := n_free (wr := (([(h0, .inr (4, [.ref q0, .ref q1, .int 0, .int 0])), (q0, .inl (y 2, 12, .inr (.inr (.inr (.inr (va_up (va_up (va_up (va_up (va_up (va_up (fun _ => none) 0 (some q2)) 1 (some q3)) 2 (some q4)) 3 (some q5)) 4 (some q6)) 5 (some q7))))))), (q1, .inl (y 1, 4, .inl (upd (upd (upd (upd (fun _ => 0) 0 230) 1 3) 2 100) 3 3))), (q2, .inr (0, [.int 0, .int 0, .int 0, .int 0, .int 0])), (q3, .inr (0, [.int 0, .int 0, .int 0, .int 0, .int 0])), (q4, .inr (0, [.int 0, .int 0, .int 0, .int 0, .int 0])), (q5, .inr (0, [.int 0, .int 0, .int 0, .int 0, .int 0])), (q6, .inr (0, [.int 0, .int 0, .int 0, .int 0, .int 0])), (q7, .inr (0, [.int 0, .int 0, .int 0, .int 0, .int 0]))]) : va_W)) hD hS hA
  refine va_callv (va_runIN (As := []) (rest := [.ref q8, .int 6, .ref q0]) ⟨hx, hb, hml, hown, hts⟩ (nX1_init l D y q8 H.size) ⟨va_cnB 0 hts (wgM iA_81) rfl rfl rfl hN.1.1 (hts _ iA_52) (by decide +kernel) ⟨Nat.le_of_ble_eq_true rfl, Nat.le_of_ble_eq_true rfl⟩, rfl, hts _ iA_80⟩ ⟨nPc_blind _ _ _ _ _, fun U hU hW => ⟨rfl, by rw [hU], by rw [hU]; exact n_last (wr := (([(h0, .inr (4, [.ref q0, .ref q1, .int 0, .int 0])), (q0, .inl (y 2, 12, .inr (.inr (.inr (.inr (va_up (va_up (va_up (va_up (va_up (va_up (fun _ => none) 0 (some q2)) 1 (some q3)) 2 (some q4)) 3 (some q5)) 4 (some q6)) 5 (some q7))))))), (q1, .inl (y 1, 4, .inl (upd (upd (upd (upd (fun _ => 0) 0 230) 1 3) 2 100) 3 3))), (q2, .inr (0, [.int 0, .int 0, .int 0, .int 0, .int 0])), (q3, .inr (0, [.int 0, .int 0, .int 0, .int 0, .int 0])), (q4, .inr (0, [.int 0, .int 0, .int 0, .int 0, .int 0])), (q5, .inr (0, [.int 0, .int 0, .int 0, .int 0, .int 0])), (q6, .inr (0, [.int 0, .int 0, .int 0, .int 0, .int 0])), (q7, .inr (0, [.int 0, .int 0, .int 0, .int 0, .int 0]))]) : va_W)) hP, va_K.moved hW.alike hK, nN.warm hW hN⟩⟩ rfl rfl hl.1 rfl (lv_room (Nat.le_of_ble_eq_true rfl)) dX5_init_56 ⟨Nat.le_of_ble_eq_true rfl, Nat.le_of_ble_eq_true rfl⟩) hS (fun x _ h => hF x h) hF (fun u6 t H1 locs ht hvm _ hB hz1 hk1 hS => ?_)
  obtain ⟨hP1, hD1⟩ := hB
  rw [ht] at hP1
  obtain ⟨hP, hD⟩ := n_join (wr := (([(h0, .inr (4, [.ref q0, .ref q1, .int 0, .int 0])), (q0, .inl (y 2, 12, .inr (.inr (.inr (.inr (va_up (va_up (va_up (va_up (va_up (va_up (fun _ => none) 0 (some q2)) 1 (some q3)) 2 (some q4)) 3 (some q5)) 4 (some q6)) 5 (some q7))))))), (q1, .inl (y 1, 4, .inl (upd (upd (upd (upd (fun _ => 0) 0 230) 1 3) 2 100) 3 3))), (q2, .inr (0, [.int 0, .int 0, .int 0, .int 0, .int 0])), (q3, .inr (0, [.int 0, .int 0, .int 0, .int 0, .int 0])), (q4, .inr (0, [.int 0, .int 0, .int 0, .int 0, .int 0])), (q5, .inr (0, [.int 0, .int 0, .int 0, .int 0, .int 0])), (q6, .inr (0, [.int 0, .int 0, .int 0, .int 0, .int 0])), (q7, .inr (0, [.int 0, .int 0, .int 0, .int 0, .int 0]))]) : va_W)) hP hD hk1 hF hP1 hD1
  generalize H1 = H at hP hS ⊢
  have hP : va_P D vwCl ([(h0, .inr (4, [.ref q0, .ref q1, .int 0, .int 0])), (q0, .inl (y 2, 12, .inr (.inr (.inr (.inr (va_up (va_up (va_up (va_up (va_up (va_up (fun _ => none) 0 (some q2)) 1 (some q3)) 2 (some q4)) 3 (some q5)) 4 (some q6)) 5 (some q7))))))), (q1, .inl (y 1, 4, .inl (upd (upd (upd (upd (fun _ => 0) 0 230) 1 3) 2 100) 3 3))), (q2, .inr (0, [.int 0, .int 0, .int 0, .int 0, .int 0])), (q3, .inr (0, [.int 0, .int 0, .int 0, .int 0, .int 0])), (q4, .inr (0, [.int 0, .int 0, .int 0, .int 0, .int 0])), (q5, .inr (0, [.int 0, .int 0, .int 0, .int 0, .int 0])), (q6, .inr (0, [.int 0, .int 0, .int 0, .int 0, .int 0])), (q7, .inr (0, [.int 0, .int 0, .int 0, .int 0, .int 0])), (q8, .inr (0, [.int 0, .int 0, .int 0, .int 0, .int 0]))]) H := hP
  have hD : va_D A ([(h0, .inr (4, [.ref q0, .ref q1, .int 0, .int 0])), (q0, .inl (y 2, 12, .inr (.inr (.inr (.inr (va_up (va_up (va_up (va_up (va_up (va_up (fun _ => none) 0 (some q2)) 1 (some q3)) 2 (some q4)) 3 (some q5)) 4 (some q6)) 5 (some q7))))))), (q1, .inl (y 1, 4, .inl (upd (upd (upd (upd (fun _ => 0) 0 230) 1 3) 2 100) 3 3))), (q2, .inr (0, [.int 0, .int 0, .int 0, .int 0, .int 0])), (q3, .inr (0, [.int 0, .int 0, .int 0, .int 0, .int 0])), (q4, .inr (0, [.int 0, .int 0, .int 0, .int 0, .int 0])), (q5, .inr (0, [.int 0, .int 0, .int 0, .int 0, .int 0])), (q6, .inr (0, [.int 0, .int 0, .int 0, .int 0, .int 0])), (q7, .inr (0, [.int 0, .int 0, .int 0, .int 0, .int 0])), (q8, .inr (0, [.int 0, .int 0, .int 0, .int 0, .int 0]))]) := hD
  refine W.widen (k := 9) (n := 51) (by omega) (by omega) ?_
  refine va_astq hx hb hK hP hD hS 1 2 9 0 rfl rfl rfl rfl (i := 6) (n_in 6 _ (by decide) (by decide)) dX5_init_59 (fun H locs hP hD hS => ?_)
  have hP : va_P D vwCl ([(h0, .inr (4, [.ref q0, .ref q1, .int 0, .int 0])), (q0, .inl (y 2, 12, .inr (.inr (.inr (.inr (va_up (va_up (va_up (va_up (va_up (va_up (va_up (fun _ => none) 0 (some q2)) 1 (some q3)) 2 (some q4)) 3 (some q5)) 4 (some q6)) 5 (some q7)) 6 (some q8))))))), (q1, .inl (y 1, 4, .inl (upd (upd (upd (upd (fun _ => 0) 0 230) 1 3) 2 100) 3 3))), (q2, .inr (0, [.int 0, .int 0, .int 0, .int 0, .int 0])), (q3, .inr (0, [.int 0, .int 0, .int 0, .int 0, .int 0])), (q4, .inr (0, [.int 0, .int 0, .int 0, .int 0, .int 0])), (q5, .inr (0, [.int 0, .int 0, .int 0, .int 0, .int 0])), (q6, .inr (0, [.int 0, .int 0, .int 0, .int 0, .int 0])), (q7, .inr (0, [.int 0, .int 0, .int 0, .int 0, .int 0])), (q8, .inr (0, [.int 0, .int 0, .int 0, .int 0, .int 0]))]) H := hP
  have hD : va_D A ([(h0, .inr (4, [.ref q0, .ref q1, .int 0, .int 0])), (q0, .inl (y 2, 12, .inr (.inr (.inr (.inr (va_up (va_up (va_up (va_up (va_up (va_up (va_up (fun _ => none) 0 (some q2)) 1 (some q3)) 2 (some q4)) 3 (some q5)) 4 (some q6)) 5 (some q7)) 6 (some q8))))))), (q1, .inl (y 1, 4, .inl (upd (upd (upd (upd (fun _ => 0) 0 230) 1 3) 2 100) 3 3))), (q2, .inr (0, [.int 0, .int 0, .int 0, .int 0, .int 0])), (q3, .inr (0, [.int 0, .int 0, .int 0, .int 0, .int 0])), (q4, .inr (0, [.int 0, .int 0, .int 0, .int 0, .int 0])), (q5, .inr (0, [.int 0, .int 0, .int 0, .int 0, .int 0])), (q6, .inr (0, [.int 0, .int 0, .int 0, .int 0, .int 0])), (q7, .inr (0, [.int 0, .int 0, .int 0, .int 0, .int 0])), (q8, .inr (0, [.int 0, .int 0, .int 0, .int 0, .int 0]))]) := hD
  refine lv_iinc (v := 7) (lv' := [(1, .int 7), (0, .ref h0)]) hx hb dX5_init_60 hl (k := 0) rfl (by decide) (by decide) rfl (fun ls hl => ?_)
  refine lv_goto (tgt := 41) hx hb dX5_init_63 (by decide) ?_
  refine lv_iload_n hx hb dX5_init_41 rfl (lv_at hl 0 rfl) ?_
  refine lv_bipush (v := 12) hx hb dX5_init_42 (by decide) ?_
  refine lv_icmp_ge (tgt := 66) hx hb dX5_init_44 (by decide) (fun h => absurd h (by decide)) (fun _ => ?_)
  refine lv_aload_n hx hb dX5_init_47 rfl (lv_at hl 1 rfl) ?_
  refine va_get (D := D) (ci := 4) (v := .ref q0) (C := RX5) (T := TX5) (N := 4) hx hb hts wu_X5 hown hK hP 0 rfl rfl 0 (by decide) (hts _ iA_109) (fun _ h9 => h9) rfl dX5_init_48 ?_
  refine lv_iload_n hx hb dX5_init_51 rfl (lv_at hl 0 rfl) ?_
  refine va_new (ci := 0) (fs := [.int 0, .int 0, .int 0, .int 0, .int 0]) (C := RX1) (T := TX1) (N := 5) hx hb hts wu_X1 tyX1 tyX1_ok hown (hts _ iA_76) (hts _ iA_78) (hts _ iA_52) hK hP hD hS hA rfl (fun j hj => by rcases (show j = 0 ∨ j = 1 ∨ j = 2 ∨ j = 3 ∨ j = 4 by omega) with rfl | rfl | rfl | rfl | rfl <;> rfl) (Nat.le_of_ble_eq_true rfl) (Nat.le_of_ble_eq_true rfl) dX5_init_52 (fun q9 H hP hD hS => ?_)
  have hP : va_P D vwCl ([(h0, .inr (4, [.ref q0, .ref q1, .int 0, .int 0])), (q0, .inl (y 2, 12, .inr (.inr (.inr (.inr (va_up (va_up (va_up (va_up (va_up (va_up (va_up (fun _ => none) 0 (some q2)) 1 (some q3)) 2 (some q4)) 3 (some q5)) 4 (some q6)) 5 (some q7)) 6 (some q8))))))), (q1, .inl (y 1, 4, .inl (upd (upd (upd (upd (fun _ => 0) 0 230) 1 3) 2 100) 3 3))), (q2, .inr (0, [.int 0, .int 0, .int 0, .int 0, .int 0])), (q3, .inr (0, [.int 0, .int 0, .int 0, .int 0, .int 0])), (q4, .inr (0, [.int 0, .int 0, .int 0, .int 0, .int 0])), (q5, .inr (0, [.int 0, .int 0, .int 0, .int 0, .int 0])), (q6, .inr (0, [.int 0, .int 0, .int 0, .int 0, .int 0])), (q7, .inr (0, [.int 0, .int 0, .int 0, .int 0, .int 0])), (q8, .inr (0, [.int 0, .int 0, .int 0, .int 0, .int 0])), (q9, .inr (0, [.int 0, .int 0, .int 0, .int 0, .int 0]))]) H := hP
  have hD : va_D A ([(h0, .inr (4, [.ref q0, .ref q1, .int 0, .int 0])), (q0, .inl (y 2, 12, .inr (.inr (.inr (.inr (va_up (va_up (va_up (va_up (va_up (va_up (va_up (fun _ => none) 0 (some q2)) 1 (some q3)) 2 (some q4)) 3 (some q5)) 4 (some q6)) 5 (some q7)) 6 (some q8))))))), (q1, .inl (y 1, 4, .inl (upd (upd (upd (upd (fun _ => 0) 0 230) 1 3) 2 100) 3 3))), (q2, .inr (0, [.int 0, .int 0, .int 0, .int 0, .int 0])), (q3, .inr (0, [.int 0, .int 0, .int 0, .int 0, .int 0])), (q4, .inr (0, [.int 0, .int 0, .int 0, .int 0, .int 0])), (q5, .inr (0, [.int 0, .int 0, .int 0, .int 0, .int 0])), (q6, .inr (0, [.int 0, .int 0, .int 0, .int 0, .int 0])), (q7, .inr (0, [.int 0, .int 0, .int 0, .int 0, .int 0])), (q8, .inr (0, [.int 0, .int 0, .int 0, .int 0, .int 0])), (q9, .inr (0, [.int 0, .int 0, .int 0, .int 0, .int 0]))]) := hD
  refine W.widen (k := 10) (n := 56) (by omega) (by omega) ?_
  refine lv_dup hx hb dX5_init_55 rfl ?_
  have hF := n_free (wr := (([(h0, .inr (4, [.ref q0, .ref q1, .int 0, .int 0])), (q0, .inl (y 2, 12, .inr (.inr (.inr (.inr (va_up (va_up (va_up (va_up (va_up (va_up (va_up (fun _ => none) 0 (some q2)) 1 (some q3)) 2 (some q4)) 3 (some q5)) 4 (some q6)) 5 (some q7)) 6 (some q8))))))), (q1, .inl (y 1, 4, .inl (upd (upd (upd (upd (fun _ => 0) 0 230) 1 3) 2 100) 3 3))), (q2, .inr (0, [.int 0, .int 0, .int 0, .int 0, .int 0])), (q3, .inr (0, [.int 0, .int 0, .int 0, .int 0, .int 0])), (q4, .inr (0, [.int 0, .int 0, .int 0, .int 0, .int 0])), (q5, .inr (0, [.int 0, .int 0, .int 0, .int 0, .int 0])), (q6, .inr (0, [.int 0, .int 0, .int 0, .int 0, .int 0])), (q7, .inr (0, [.int 0, .int 0, .int 0, .int 0, .int 0])), (q8, .inr (0, [.int 0, .int 0, .int 0, .int 0, .int 0]))]) : va_W)) hD hS hA
  refine va_callv (va_runIN (As := []) (rest := [.ref q9, .int 7, .ref q0]) ⟨hx, hb, hml, hown, hts⟩ (nX1_init l D y q9 H.size) ⟨va_cnB 0 hts (wgM iA_81) rfl rfl rfl hN.1.1 (hts _ iA_52) (by decide +kernel) ⟨Nat.le_of_ble_eq_true rfl, Nat.le_of_ble_eq_true rfl⟩, rfl, hts _ iA_80⟩ ⟨nPc_blind _ _ _ _ _, fun U hU hW => ⟨rfl, by rw [hU], by rw [hU]; exact n_last (wr := (([(h0, .inr (4, [.ref q0, .ref q1, .int 0, .int 0])), (q0, .inl (y 2, 12, .inr (.inr (.inr (.inr (va_up (va_up (va_up (va_up (va_up (va_up (va_up (fun _ => none) 0 (some q2)) 1 (some q3)) 2 (some q4)) 3 (some q5)) 4 (some q6)) 5 (some q7)) 6 (some q8))))))), (q1, .inl (y 1, 4, .inl (upd (upd (upd (upd (fun _ => 0) 0 230) 1 3) 2 100) 3 3))), (q2, .inr (0, [.int 0, .int 0, .int 0, .int 0, .int 0])), (q3, .inr (0, [.int 0, .int 0, .int 0, .int 0, .int 0])), (q4, .inr (0, [.int 0, .int 0, .int 0, .int 0, .int 0])), (q5, .inr (0, [.int 0, .int 0, .int 0, .int 0, .int 0])), (q6, .inr (0, [.int 0, .int 0, .int 0, .int 0, .int 0])), (q7, .inr (0, [.int 0, .int 0, .int 0, .int 0, .int 0])), (q8, .inr (0, [.int 0, .int 0, .int 0, .int 0, .int 0]))]) : va_W)) hP, va_K.moved hW.alike hK, nN.warm hW hN⟩⟩ rfl rfl hl.1 rfl (lv_room (Nat.le_of_ble_eq_true rfl)) dX5_init_56 ⟨Nat.le_of_ble_eq_true rfl, Nat.le_of_ble_eq_true rfl⟩) hS (fun x _ h => hF x h) hF (fun u7 t H1 locs ht hvm _ hB hz1 hk1 hS => ?_)
  obtain ⟨hP1, hD1⟩ := hB
  rw [ht] at hP1
  obtain ⟨hP, hD⟩ := n_join (wr := (([(h0, .inr (4, [.ref q0, .ref q1, .int 0, .int 0])), (q0, .inl (y 2, 12, .inr (.inr (.inr (.inr (va_up (va_up (va_up (va_up (va_up (va_up (va_up (fun _ => none) 0 (some q2)) 1 (some q3)) 2 (some q4)) 3 (some q5)) 4 (some q6)) 5 (some q7)) 6 (some q8))))))), (q1, .inl (y 1, 4, .inl (upd (upd (upd (upd (fun _ => 0) 0 230) 1 3) 2 100) 3 3))), (q2, .inr (0, [.int 0, .int 0, .int 0, .int 0, .int 0])), (q3, .inr (0, [.int 0, .int 0, .int 0, .int 0, .int 0])), (q4, .inr (0, [.int 0, .int 0, .int 0, .int 0, .int 0])), (q5, .inr (0, [.int 0, .int 0, .int 0, .int 0, .int 0])), (q6, .inr (0, [.int 0, .int 0, .int 0, .int 0, .int 0])), (q7, .inr (0, [.int 0, .int 0, .int 0, .int 0, .int 0])), (q8, .inr (0, [.int 0, .int 0, .int 0, .int 0, .int 0]))]) : va_W)) hP hD hk1 hF hP1 hD1
  generalize H1 = H at hP hS ⊢
  have hP : va_P D vwCl ([(h0, .inr (4, [.ref q0, .ref q1, .int 0, .int 0])), (q0, .inl (y 2, 12, .inr (.inr (.inr (.inr (va_up (va_up (va_up (va_up (va_up (va_up (va_up (fun _ => none) 0 (some q2)) 1 (some q3)) 2 (some q4)) 3 (some q5)) 4 (some q6)) 5 (some q7)) 6 (some q8))))))), (q1, .inl (y 1, 4, .inl (upd (upd (upd (upd (fun _ => 0) 0 230) 1 3) 2 100) 3 3))), (q2, .inr (0, [.int 0, .int 0, .int 0, .int 0, .int 0])), (q3, .inr (0, [.int 0, .int 0, .int 0, .int 0, .int 0])), (q4, .inr (0, [.int 0, .int 0, .int 0, .int 0, .int 0])), (q5, .inr (0, [.int 0, .int 0, .int 0, .int 0, .int 0])), (q6, .inr (0, [.int 0, .int 0, .int 0, .int 0, .int 0])), (q7, .inr (0, [.int 0, .int 0, .int 0, .int 0, .int 0])), (q8, .inr (0, [.int 0, .int 0, .int 0, .int 0, .int 0])), (q9, .inr (0, [.int 0, .int 0, .int 0, .int 0, .int 0]))]) H := hP
  have hD : va_D A ([(h0, .inr (4, [.ref q0, .ref q1, .int 0, .int 0])), (q0, .inl (y 2, 12, .inr (.inr (.inr (.inr (va_up (va_up (va_up (va_up (va_up (va_up (va_up (fun _ => none) 0 (some q2)) 1 (some q3)) 2 (some q4)) 3 (some q5)) 4 (some q6)) 5 (some q7)) 6 (some q8))))))), (q1, .inl (y 1, 4, .inl (upd (upd (upd (upd (fun _ => 0) 0 230) 1 3) 2 100) 3 3))), (q2, .inr (0, [.int 0, .int 0, .int 0, .int 0, .int 0])), (q3, .inr (0, [.int 0, .int 0, .int 0, .int 0, .int 0])), (q4, .inr (0, [.int 0, .int 0, .int 0, .int 0, .int 0])), (q5, .inr (0, [.int 0, .int 0, .int 0, .int 0, .int 0])), (q6, .inr (0, [.int 0, .int 0, .int 0, .int 0, .int 0])), (q7, .inr (0, [.int 0, .int 0, .int 0, .int 0, .int 0])), (q8, .inr (0, [.int 0, .int 0, .int 0, .int 0, .int 0])), (q9, .inr (0, [.int 0, .int 0, .int 0, .int 0, .int 0]))]) := hD
  refine W.widen (k := 10) (n := 56) (by omega) (by omega) ?_
  refine va_astq hx hb hK hP hD hS 1 2 10 0 rfl rfl rfl rfl (i := 7) (n_in 7 _ (by decide) (by decide)) dX5_init_59 (fun H locs hP hD hS => ?_)
  have hP : va_P D vwCl ([(h0, .inr (4, [.ref q0, .ref q1, .int 0, .int 0])), (q0, .inl (y 2, 12, .inr (.inr (.inr (.inr (va_up (va_up (va_up (va_up (va_up (va_up (va_up (va_up (fun _ => none) 0 (some q2)) 1 (some q3)) 2 (some q4)) 3 (some q5)) 4 (some q6)) 5 (some q7)) 6 (some q8)) 7 (some q9))))))), (q1, .inl (y 1, 4, .inl (upd (upd (upd (upd (fun _ => 0) 0 230) 1 3) 2 100) 3 3))), (q2, .inr (0, [.int 0, .int 0, .int 0, .int 0, .int 0])), (q3, .inr (0, [.int 0, .int 0, .int 0, .int 0, .int 0])), (q4, .inr (0, [.int 0, .int 0, .int 0, .int 0, .int 0])), (q5, .inr (0, [.int 0, .int 0, .int 0, .int 0, .int 0])), (q6, .inr (0, [.int 0, .int 0, .int 0, .int 0, .int 0])), (q7, .inr (0, [.int 0, .int 0, .int 0, .int 0, .int 0])), (q8, .inr (0, [.int 0, .int 0, .int 0, .int 0, .int 0])), (q9, .inr (0, [.int 0, .int 0, .int 0, .int 0, .int 0]))]) H := hP
  have hD : va_D A ([(h0, .inr (4, [.ref q0, .ref q1, .int 0, .int 0])), (q0, .inl (y 2, 12, .inr (.inr (.inr (.inr (va_up (va_up (va_up (va_up (va_up (va_up (va_up (va_up (fun _ => none) 0 (some q2)) 1 (some q3)) 2 (some q4)) 3 (some q5)) 4 (some q6)) 5 (some q7)) 6 (some q8)) 7 (some q9))))))), (q1, .inl (y 1, 4, .inl (upd (upd (upd (upd (fun _ => 0) 0 230) 1 3) 2 100) 3 3))), (q2, .inr (0, [.int 0, .int 0, .int 0, .int 0, .int 0])), (q3, .inr (0, [.int 0, .int 0, .int 0, .int 0, .int 0])), (q4, .inr (0, [.int 0, .int 0, .int 0, .int 0, .int 0])), (q5, .inr (0, [.int 0, .int 0, .int 0, .int 0, .int 0])), (q6, .inr (0, [.int 0, .int 0, .int 0, .int 0, .int 0])), (q7, .inr (0, [.int 0, .int 0, .int 0, .int 0, .int 0])), (q8, .inr (0, [.int 0, .int 0, .int 0, .int 0, .int 0])), (q9, .inr (0, [.int 0, .int 0, .int 0, .int 0, .int 0]))]) := hD
  refine lv_iinc (v := 8) (lv' := [(1, .int 8), (0, .ref h0)]) hx hb dX5_init_60 hl (k := 0) rfl (by decide) (by decide) rfl (fun ls hl => ?_)
  refine lv_goto (tgt := 41) hx hb dX5_init_63 (by decide) ?_
  refine lv_iload_n hx hb dX5_init_41 rfl (lv_at hl 0 rfl) ?_
  refine lv_bipush (v := 12) hx hb dX5_init_42 (by decide) ?_
  refine lv_icmp_ge (tgt := 66) hx hb dX5_init_44 (by decide) (fun h => absurd h (by decide)) (fun _ => ?_)
  refine lv_aload_n hx hb dX5_init_47 rfl (lv_at hl 1 rfl) ?_
  refine va_get (D := D) (ci := 4) (v := .ref q0) (C := RX5) (T := TX5) (N := 4) hx hb hts wu_X5 hown hK hP 0 rfl rfl 0 (by decide) (hts _ iA_109) (fun _ h9 => h9) rfl dX5_init_48 ?_
  refine lv_iload_n hx hb dX5_init_51 rfl (lv_at hl 0 rfl) ?_
  refine va_new (ci := 0) (fs := [.int 0, .int 0, .int 0, .int 0, .int 0]) (C := RX1) (T := TX1) (N := 5) hx hb hts wu_X1 tyX1 tyX1_ok hown (hts _ iA_76) (hts _ iA_78) (hts _ iA_52) hK hP hD hS hA rfl (fun j hj => by rcases (show j = 0 ∨ j = 1 ∨ j = 2 ∨ j = 3 ∨ j = 4 by omega) with rfl | rfl | rfl | rfl | rfl <;> rfl) (Nat.le_of_ble_eq_true rfl) (Nat.le_of_ble_eq_true rfl) dX5_init_52 (fun q10 H hP hD hS => ?_)
  have hP : va_P D vwCl ([(h0, .inr (4, [.ref q0, .ref q1, .int 0, .int 0])), (q0, .inl (y 2, 12, .inr (.inr (.inr (.inr (va_up (va_up (va_up (va_up (va_up (va_up (va_up (va_up (fun _ => none) 0 (some q2)) 1 (some q3)) 2 (some q4)) 3 (some q5)) 4 (some q6)) 5 (some q7)) 6 (some q8)) 7 (some q9))))))), (q1, .inl (y 1, 4, .inl (upd (upd (upd (upd (fun _ => 0) 0 230) 1 3) 2 100) 3 3))), (q2, .inr (0, [.int 0, .int 0, .int 0, .int 0, .int 0])), (q3, .inr (0, [.int 0, .int 0, .int 0, .int 0, .int 0])), (q4, .inr (0, [.int 0, .int 0, .int 0, .int 0, .int 0])), (q5, .inr (0, [.int 0, .int 0, .int 0, .int 0, .int 0])), (q6, .inr (0, [.int 0, .int 0, .int 0, .int 0, .int 0])), (q7, .inr (0, [.int 0, .int 0, .int 0, .int 0, .int 0])), (q8, .inr (0, [.int 0, .int 0, .int 0, .int 0, .int 0])), (q9, .inr (0, [.int 0, .int 0, .int 0, .int 0, .int 0])), (q10, .inr (0, [.int 0, .int 0, .int 0, .int 0, .int 0]))]) H := hP
  have hD : va_D A ([(h0, .inr (4, [.ref q0, .ref q1, .int 0, .int 0])), (q0, .inl (y 2, 12, .inr (.inr (.inr (.inr (va_up (va_up (va_up (va_up (va_up (va_up (va_up (va_up (fun _ => none) 0 (some q2)) 1 (some q3)) 2 (some q4)) 3 (some q5)) 4 (some q6)) 5 (some q7)) 6 (some q8)) 7 (some q9))))))), (q1, .inl (y 1, 4, .inl (upd (upd (upd (upd (fun _ => 0) 0 230) 1 3) 2 100) 3 3))), (q2, .inr (0, [.int 0, .int 0, .int 0, .int 0, .int 0])), (q3, .inr (0, [.int 0, .int 0, .int 0, .int 0, .int 0])), (q4, .inr (0, [.int 0, .int 0, .int 0, .int 0, .int 0])), (q5, .inr (0, [.int 0, .int 0, .int 0, .int 0, .int 0])), (q6, .inr (0, [.int 0, .int 0, .int 0, .int 0, .int 0])), (q7, .inr (0, [.int 0, .int 0, .int 0, .int 0, .int 0])), (q8, .inr (0, [.int 0, .int 0, .int 0, .int 0, .int 0])), (q9, .inr (0, [.int 0, .int 0, .int 0, .int 0, .int 0])), (q10, .inr (0, [.int 0, .int 0, .int 0, .int 0, .int 0]))]) := hD
  refine W.widen (k := 11) (n := 61) (by omega) (by omega) ?_
  refine lv_dup hx hb dX5_init_55 rfl ?_
  have hF := n_free (wr := (([(h0, .inr (4, [.ref q0, .ref q1, .int 0, .int 0])), (q0, .inl (y 2, 12, .inr (.inr (.inr (.inr (va_up (va_up (va_up (va_up (va_up (va_up (va_up (va_up (fun _ => none) 0 (some q2)) 1 (some q3)) 2 (some q4)) 3 (some q5)) 4 (some q6)) 5 (some q7)) 6 (some q8)) 7 (some q9))))))), (q1, .inl (y 1, 4, .inl (upd (upd (upd (upd (fun _ => 0) 0 230) 1 3) 2 100) 3 3))), (q2, .inr (0, [.int 0, .int 0, .int 0, .int 0, .int 0])), (q3, .inr (0, [.int 0, .int 0, .int 0, .int 0, .int 0])), (q4, .inr (0, [.int 0, .int 0, .int 0, .int 0, .int 0])), (q5, .inr (0, [.int 0, .int 0, .int 0, .int 0, .int 0])), (q6, .inr (0, [.int 0, .int 0, .int 0, .int 0, .int 0])), (q7, .inr (0, [.int 0, .int 0, .int 0, .int 0, .int 0])), (q8, .inr (0, [.int 0, .int 0, .int 0, .int 0, .int 0])), (q9, .inr (0, [.int 0, .int 0, .int 0, .int 0, .int 0]))]) : va_W)) hD hS hA
  refine va_callv (va_runIN (As := []) (rest := [.ref q10, .int 8, .ref q0]) ⟨hx, hb, hml, hown, hts⟩ (nX1_init l D y q10 H.size) ⟨va_cnB 0 hts (wgM iA_81) rfl rfl rfl hN.1.1 (hts _ iA_52) (by decide +kernel) ⟨Nat.le_of_ble_eq_true rfl, Nat.le_of_ble_eq_true rfl⟩, rfl, hts _ iA_80⟩ ⟨nPc_blind _ _ _ _ _, fun U hU hW => ⟨rfl, by rw [hU], by rw [hU]; exact n_last (wr := (([(h0, .inr (4, [.ref q0, .ref q1, .int 0, .int 0])), (q0, .inl (y 2, 12, .inr (.inr (.inr (.inr (va_up (va_up (va_up (va_up (va_up (va_up (va_up (va_up (fun _ => none) 0 (some q2)) 1 (some q3)) 2 (some q4)) 3 (some q5)) 4 (some q6)) 5 (some q7)) 6 (some q8)) 7 (some q9))))))), (q1, .inl (y 1, 4, .inl (upd (upd (upd (upd (fun _ => 0) 0 230) 1 3) 2 100) 3 3))), (q2, .inr (0, [.int 0, .int 0, .int 0, .int 0, .int 0])), (q3, .inr (0, [.int 0, .int 0, .int 0, .int 0, .int 0])), (q4, .inr (0, [.int 0, .int 0, .int 0, .int 0, .int 0])), (q5, .inr (0, [.int 0, .int 0, .int 0, .int 0, .int 0])), (q6, .inr (0, [.int 0, .int 0, .int 0, .int 0, .int 0])), (q7, .inr (0, [.int 0, .int 0, .int 0, .int 0, .int 0])), (q8, .inr (0, [.int 0, .int 0, .int 0, .int 0, .int 0])), (q9, .inr (0, [.int 0, .int 0, .int 0, .int 0, .int 0]))]) : va_W)) hP, va_K.moved hW.alike hK, nN.warm hW hN⟩⟩ rfl rfl hl.1 rfl (lv_room (Nat.le_of_ble_eq_true rfl)) dX5_init_56 ⟨Nat.le_of_ble_eq_true rfl, Nat.le_of_ble_eq_true rfl⟩) hS (fun x _ h => hF x h) hF (fun u8 t H1 locs ht hvm _ hB hz1 hk1 hS => ?_)
  obtain ⟨hP1, hD1⟩ := hB
  rw [ht] at hP1
  obtain ⟨hP, hD⟩ := n_join (wr := (([(h0, .inr (4, [.ref q0, .ref q1, .int 0, .int 0])), (q0, .inl (y 2, 12, .inr (.inr (.inr (.inr (va_up (va_up (va_up (va_up (va_up (va_up (va_up (va_up (fun _ => none) 0 (some q2)) 1 (some q3)) 2 (some q4)) 3 (some q5)) 4 (some q6)) 5 (some q7)) 6 (some q8)) 7 (some q9))))))), (q1, .inl (y 1, 4, .inl (upd (upd (upd (upd (fun _ => 0) 0 230) 1 3) 2 100) 3 3))), (q2, .inr (0, [.int 0, .int 0, .int 0, .int 0, .int 0])), (q3, .inr (0, [.int 0, .int 0, .int 0, .int 0, .int 0])), (q4, .inr (0, [.int 0, .int 0, .int 0, .int 0, .int 0])), (q5, .inr (0, [.int 0, .int 0, .int 0, .int 0, .int 0])), (q6, .inr (0, [.int 0, .int 0, .int 0, .int 0, .int 0])), (q7, .inr (0, [.int 0, .int 0, .int 0, .int 0, .int 0])), (q8, .inr (0, [.int 0, .int 0, .int 0, .int 0, .int 0])), (q9, .inr (0, [.int 0, .int 0, .int 0, .int 0, .int 0]))]) : va_W)) hP hD hk1 hF hP1 hD1
  generalize H1 = H at hP hS ⊢
  have hP : va_P D vwCl ([(h0, .inr (4, [.ref q0, .ref q1, .int 0, .int 0])), (q0, .inl (y 2, 12, .inr (.inr (.inr (.inr (va_up (va_up (va_up (va_up (va_up (va_up (va_up (va_up (fun _ => none) 0 (some q2)) 1 (some q3)) 2 (some q4)) 3 (some q5)) 4 (some q6)) 5 (some q7)) 6 (some q8)) 7 (some q9))))))), (q1, .inl (y 1, 4, .inl (upd (upd (upd (upd (fun _ => 0) 0 230) 1 3) 2 100) 3 3))), (q2, .inr (0, [.int 0, .int 0, .int 0, .int 0, .int 0])), (q3, .inr (0, [.int 0, .int 0, .int 0, .int 0, .int 0])), (q4, .inr (0, [.int 0, .int 0, .int 0, .int 0, .int 0])), (q5, .inr (0, [.int 0, .int 0, .int 0, .int 0, .int 0])), (q6, .inr (0, [.int 0, .int 0, .int 0, .int 0, .int 0])), (q7, .inr (0, [.int 0, .int 0, .int 0, .int 0, .int 0])), (q8, .inr (0, [.int 0, .int 0, .int 0, .int 0, .int 0])), (q9, .inr (0, [.int 0, .int 0, .int 0, .int 0, .int 0])), (q10, .inr (0, [.int 0, .int 0, .int 0, .int 0, .int 0]))]) H := hP
  have hD : va_D A ([(h0, .inr (4, [.ref q0, .ref q1, .int 0, .int 0])), (q0, .inl (y 2, 12, .inr (.inr (.inr (.inr (va_up (va_up (va_up (va_up (va_up (va_up (va_up (va_up (fun _ => none) 0 (some q2)) 1 (some q3)) 2 (some q4)) 3 (some q5)) 4 (some q6)) 5 (some q7)) 6 (some q8)) 7 (some q9))))))), (q1, .inl (y 1, 4, .inl (upd (upd (upd (upd (fun _ => 0) 0 230) 1 3) 2 100) 3 3))), (q2, .inr (0, [.int 0, .int 0, .int 0, .int 0, .int 0])), (q3, .inr (0, [.int 0, .int 0, .int 0, .int 0, .int 0])), (q4, .inr (0, [.int 0, .int 0, .int 0, .int 0, .int 0])), (q5, .inr (0, [.int 0, .int 0, .int 0, .int 0, .int 0])), (q6, .inr (0, [.int 0, .int 0, .int 0, .int 0, .int 0])), (q7, .inr (0, [.int 0, .int 0, .int 0, .int 0, .int 0])), (q8, .inr (0, [.int 0, .int 0, .int 0, .int 0, .int 0])), (q9, .inr (0, [.int 0, .int 0, .int 0, .int 0, .int 0])), (q10, .inr (0, [.int 0, .int 0, .int 0, .int 0, .int 0]))]) := hD
  refine W.widen (k := 11) (n := 61) (by omega) (by omega) ?_
  refine va_astq hx hb hK hP hD hS 1 2 11 0 rfl rfl rfl rfl (i := 8) (n_in 8 _ (by decide) (by decide)) dX5_init_59 (fun H locs hP hD hS => ?_)
  have hP : va_P D vwCl ([(h0, .inr (4, [.ref q0, .ref q1, .int 0, .int 0])), (q0, .inl (y 2, 12, .inr (.inr (.inr (.inr (va_up (va_up (va_up (va_up (va_up (va_up (va_up (va_up (va_up (fun _ => none) 0 (some q2)) 1 (some q3)) 2 (some q4)) 3 (some q5)) 4 (some q6)) 5 (some q7)) 6 (some q8)) 7 (some q9)) 8 (some q10))))))), (q1, .inl (y 1, 4, .inl (upd (upd (upd (upd (fun _ => 0) 0 230) 1 3) 2 100) 3 3))), (q2, .inr (0, [.int 0, .int 0, .int 0, .int 0, .int 0])), (q3, .inr (0, [.int 0, .int 0, .int 0, .int 0, .int 0])), (q4, .inr (0, [.int 0, .int 0, .int 0, .int 0, .int 0])), (q5, .inr (0, [.int 0, .int 0, .int 0, .int 0, .int 0])), (q6, .inr (0, [.int 0, .int 0, .int 0, .int 0, .int 0])), (q7, .inr (0, [.int 0, .int 0, .int 0, .int 0, .int 0])), (q8, .inr (0, [.int 0, .int 0, .int 0, .int 0, .int 0])), (q9, .inr (0, [.int 0, .int 0, .int 0, .int 0, .int 0])), (q10, .inr (0, [.int 0, .int 0, .int 0, .int 0, .int 0]))]) H := hP
  have hD : va_D A ([(h0, .inr (4, [.ref q0, .ref q1, .int 0, .int 0])), (q0, .inl (y 2, 12, .inr (.inr (.inr (.inr (va_up (va_up (va_up (va_up (va_up (va_up (va_up (va_up (va_up (fun _ => none) 0 (some q2)) 1 (some q3)) 2 (some q4)) 3 (some q5)) 4 (some q6)) 5 (some q7)) 6 (some q8)) 7 (some q9)) 8 (some q10))))))), (q1, .inl (y 1, 4, .inl (upd (upd (upd (upd (fun _ => 0) 0 230) 1 3) 2 100) 3 3))), (q2, .inr (0, [.int 0, .int 0, .int 0, .int 0, .int 0])), (q3, .inr (0, [.int 0, .int 0, .int 0, .int 0, .int 0])), (q4, .inr (0, [.int 0, .int 0, .int 0, .int 0, .int 0])), (q5, .inr (0, [.int 0, .int 0, .int 0, .int 0, .int 0])), (q6, .inr (0, [.int 0, .int 0, .int 0, .int 0, .int 0])), (q7, .inr (0, [.int 0, .int 0, .int 0, .int 0, .int 0])), (q8, .inr (0, [.int 0, .int 0, .int 0, .int 0, .int 0])), (q9, .inr (0, [.int 0, .int 0, .int 0, .int 0, .int 0])), (q10, .inr (0, [.int 0, .int 0, .int 0, .int 0, .int 0]))]) := hD
  refine lv_iinc (v := 9) (lv' := [(1, .int 9), (0, .ref h0)]) hx hb dX5_init_60 hl (k := 0) rfl (by decide) (by decide) rfl (fun ls hl => ?_)
  refine lv_goto (tgt := 41) hx hb dX5_init_63 (by decide) ?_
  refine lv_iload_n hx hb dX5_init_41 rfl (lv_at hl 0 rfl) ?_
  refine lv_bipush (v := 12) hx hb dX5_init_42 (by decide) ?_
  refine lv_icmp_ge (tgt := 66) hx hb dX5_init_44 (by decide) (fun h => absurd h (by decide)) (fun _ => ?_)
  refine lv_aload_n hx hb dX5_init_47 rfl (lv_at hl 1 rfl) ?_
  refine va_get (D := D) (ci := 4) (v := .ref q0) (C := RX5) (T := TX5) (N := 4) hx hb hts wu_X5 hown hK hP 0 rfl rfl 0 (by decide) (hts _ iA_109) (fun _ h9 => h9) rfl dX5_init_48 ?_
  refine lv_iload_n hx hb dX5_init_51 rfl (lv_at hl 0 rfl) ?_
  refine va_new (ci := 0) (fs := [.int 0, .int 0, .int 0, .int 0, .int 0]) (C := RX1) (T := TX1) (N := 5) hx hb hts wu_X1 tyX1 tyX1_ok hown (hts _ iA_76) (hts _ iA_78) (hts _ iA_52) hK hP hD hS hA rfl (fun j hj => by rcases (show j = 0 ∨ j = 1 ∨ j = 2 ∨ j = 3 ∨ j = 4 by omega) with rfl | rfl | rfl | rfl | rfl <;> rfl) (Nat.le_of_ble_eq_true rfl) (Nat.le_of_ble_eq_true rfl) dX5_init_52 (fun q11 H hP hD hS => ?_)
  have hP : va_P D vwCl ([(h0, .inr (4, [.ref q0, .ref q1, .int 0, .int 0])), (q0, .inl (y 2, 12, .inr (.inr (.inr (.inr (va_up (va_up (va_up (va_up (va_up (va_up (va_up (va_up (va_up (fun _ => none) 0 (some q2)) 1 (some q3)) 2 (some q4)) 3 (some q5)) 4 (some q6)) 5 (some q7)) 6 (some q8)) 7 (some q9)) 8 (some q10))))))), (q1, .inl (y 1, 4, .inl (upd (upd (upd (upd (fun _ => 0) 0 230) 1 3) 2 100) 3 3))), (q2, .inr (0, [.int 0, .int 0, .int 0, .int 0, .int 0])), (q3, .inr (0, [.int 0, .int 0, .int 0, .int 0, .int 0])), (q4, .inr (0, [.int 0, .int 0, .int 0, .int 0, .int 0])), (q5, .inr (0, [.int 0, .int 0, .int 0, .int 0, .int 0])), (q6, .inr (0, [.int 0, .int 0, .int 0, .int 0, .int 0])), (q7, .inr (0, [.int 0, .int 0, .int 0, .int 0, .int 0])), (q8, .inr (0, [.int 0, .int 0, .int 0, .int 0, .int 0])), (q9, .inr (0, [.int 0, .int 0, .int 0, .int 0, .int 0])), (q10, .inr (0, [.int 0, .int 0, .int 0, .int 0, .int 0])), (q11, .inr (0, [.int 0, .int 0, .int 0, .int 0, .int 0]))]) H := hP
  have hD : va_D A ([(h0, .inr (4, [.ref q0, .ref q1, .int 0, .int 0])), (q0, .inl (y 2, 12, .inr (.inr (.inr (.inr (va_up (va_up (va_up (va_up (va_up (va_up (va_up (va_up (va_up (fun _ => none) 0 (some q2)) 1 (some q3)) 2 (some q4)) 3 (some q5)) 4 (some q6)) 5 (some q7)) 6 (some q8)) 7 (some q9)) 8 (some q10))))))), (q1, .inl (y 1, 4, .inl (upd (upd (upd (upd (fun _ => 0) 0 230) 1 3) 2 100) 3 3))), (q2, .inr (0, [.int 0, .int 0, .int 0, .int 0, .int 0])), (q3, .inr (0, [.int 0, .int 0, .int 0, .int 0, .int 0])), (q4, .inr (0, [.int 0, .int 0, .int 0, .int 0, .int 0])), (q5, .inr (0, [.int 0, .int 0, .int 0, .int 0, .int 0])), (q6, .inr (0, [.int 0, .int 0, .int 0, .int 0, .int 0])), (q7, .inr (0, [.int 0, .int 0, .int 0, .int 0, .int 0])), (q8, .inr (0, [.int 0, .int 0, .int 0, .int 0, .int 0])), (q9, .inr (0, [.int 0, .int 0, .int 0, .int 0, .int 0])), (q10, .inr (0, [.int 0, .int 0, .int 0, .int 0, .int 0])), (q11, .inr (0, [.int 0, .int 0, .int 0, .int 0, .int 0]))]) := hD
  refine W.widen (k := 12) (n := 66) (by omega) (by omega) ?_
  refine lv_dup hx hb dX5_init_55 rfl ?_
  have hF := n_free (wr := (([(h0, .inr (4, [.ref q0, .ref q1, .int 0, .int 0])), (q0, .inl (y 2, 12, .inr (.inr (.inr (.inr (va_up (va_up (va_up (va_up (va_up (va_up (va_up (va_up (va_up (fun _ => none) 0 (some q2)) 1 (some q3)) 2 (some q4)) 3 (some q5)) 4 (some q6)) 5 (some q7)) 6 (some q8)) 7 (some q9)) 8 (some q10))))))), (q1, .inl (y 1, 4, .inl (upd (upd (upd (upd (fun _ => 0) 0 230) 1 3) 2 100) 3 3))), (q2, .inr (0, [.int 0, .int 0, .int 0, .int 0, .int 0])), (q3, .inr (0, [.int 0, .int 0, .int 0, .int 0, .int 0])), (q4, .inr (0, [.int 0, .int 0, .int 0, .int 0, .int 0])), (q5, .inr (0, [.int 0, .int 0, .int 0, .int 0, .int 0])), (q6, .inr (0, [.int 0, .int 0, .int 0, .int 0, .int 0])), (q7, .inr (0, [.int 0, .int 0, .int 0, .int 0, .int 0])), (q8, .inr (0, [.int 0, .int 0, .int 0, .int 0, .int 0])), (q9, .inr (0, [.int 0, .int 0, .int 0, .int 0, .int 0])), (q10, .inr (0, [.int 0, .int 0, .int 0, .int 0, .int 0]))]) : va_W)) hD hS hA
  refine va_callv (va_runIN (As := []) (rest := [.ref q11, .int 9, .ref q0]) ⟨hx, hb, hml, hown, hts⟩ (nX1_init l D y q11 H.size) ⟨va_cnB 0 hts (wgM iA_81) rfl rfl rfl hN.1.1 (hts _ iA_52) (by decide +kernel) ⟨Nat.le_of_ble_eq_true rfl, Nat.le_of_ble_eq_true rfl⟩, rfl, hts _ iA_80⟩ ⟨nPc_blind _ _ _ _ _, fun U hU hW => ⟨rfl, by rw [hU], by rw [hU]; exact n_last (wr := (([(h0, .inr (4, [.ref q0, .ref q1, .int 0, .int 0])), (q0, .inl (y 2, 12, .inr (.inr (.inr (.inr (va_up (va_up (va_up (va_up (va_up (va_up (va_up (va_up (va_up (fun _ => none) 0 (some q2)) 1 (some q3)) 2 (some q4)) 3 (some q5)) 4 (some q6)) 5 (some q7)) 6 (some q8)) 7 (some q9)) 8 (some q10))))))), (q1, .inl (y 1, 4, .inl (upd (upd (upd (upd (fun _ => 0) 0 230) 1 3) 2 100) 3 3))), (q2, .inr (0, [.int 0, .int 0, .int 0, .int 0, .int 0])), (q3, .inr (0, [.int 0, .int 0, .int 0, .int 0, .int 0])), (q4, .inr (0, [.int 0, .int 0, .int 0, .int 0, .int 0])), (q5, .inr (0, [.int 0, .int 0, .int 0, .int 0, .int 0])), (q6, .inr (0, [.int 0, .int 0, .int 0, .int 0, .int 0])), (q7, .inr (0, [.int 0, .int 0, .int 0, .int 0, .int 0])), (q8, .inr (0, [.int 0, .int 0, .int 0, .int 0, .int 0])), (q9, .inr (0, [.int 0, .int 0, .int 0, .int 0, .int 0])), (q10, .inr (0, [.int 0, .int 0, .int 0, .int 0, .int 0]))]) : va_W)) hP, va_K.moved hW.alike hK, nN.warm hW hN⟩⟩ rfl rfl hl.1 rfl (lv_room (Nat.le_of_ble_eq_true rfl)) dX5_init_56 ⟨Nat.le_of_ble_eq_true rfl, Nat.le_of_ble_eq_true rfl⟩) hS (fun x _ h => hF x h) hF (fun u9 t H1 locs ht hvm _ hB hz1 hk1 hS => ?_)
  obtain ⟨hP1, hD1⟩ := hB
  rw [ht] at hP1
  obtain ⟨hP, hD⟩ := n_join (wr := (([(h0, .inr (4, [.ref q0, .ref q1, .int 0, .int 0])), (q0, .inl (y 2, 12, .inr (.inr (.inr (.inr (va_up (va_up (va_up (va_up (va_up (va_up (va_up (va_up (va_up (fun _ => none) 0 (some q2)) 1 (some q3)) 2 (some q4)) 3 (some q5)) 4 (some q6)) 5 (some q7)) 6 (some q8)) 7 (some q9)) 8 (some q10))))))), (q1, .inl (y 1, 4, .inl (upd (upd (upd (upd (fun _ => 0) 0 230) 1 3) 2 100) 3 3))), (q2, .inr (0, [.int 0, .int 0, .int 0, .int 0, .int 0])), (q3, .inr (0, [.int 0, .int 0, .int 0, .int 0, .int 0])), (q4, .inr (0, [.int 0, .int 0, .int 0, .int 0, .int 0])), (q5, .inr (0, [.int 0, .int 0, .int 0, .int 0, .int 0])), (q6, .inr (0, [.int 0, .int 0, .int 0, .int 0, .int 0])), (q7, .inr (0, [.int 0, .int 0, .int 0, .int 0, .int 0])), (q8, .inr (0, [.int 0, .int 0, .int 0, .int 0, .int 0])), (q9, .inr (0, [.int 0, .int 0, .int 0, .int 0, .int 0])), (q10, .inr (0, [.int 0, .int 0, .int 0, .int 0, .int 0]))]) : va_W)) hP hD hk1 hF hP1 hD1
  generalize H1 = H at hP hS ⊢
  have hP : va_P D vwCl ([(h0, .inr (4, [.ref q0, .ref q1, .int 0, .int 0])), (q0, .inl (y 2, 12, .inr (.inr (.inr (.inr (va_up (va_up (va_up (va_up (va_up (va_up (va_up (va_up (va_up (fun _ => none) 0 (some q2)) 1 (some q3)) 2 (some q4)) 3 (some q5)) 4 (some q6)) 5 (some q7)) 6 (some q8)) 7 (some q9)) 8 (some q10))))))), (q1, .inl (y 1, 4, .inl (upd (upd (upd (upd (fun _ => 0) 0 230) 1 3) 2 100) 3 3))), (q2, .inr (0, [.int 0, .int 0, .int 0, .int 0, .int 0])), (q3, .inr (0, [.int 0, .int 0, .int 0, .int 0, .int 0])), (q4, .inr (0, [.int 0, .int 0, .int 0, .int 0, .int 0])), (q5, .inr (0, [.int 0, .int 0, .int 0, .int 0, .int 0])), (q6, .inr (0, [.int 0, .int 0, .int 0, .int 0, .int 0])), (q7, .inr (0, [.int 0, .int 0, .int 0, .int 0, .int 0])), (q8, .inr (0, [.int 0, .int 0, .int 0, .int 0, .int 0])), (q9, .inr (0, [.int 0, .int 0, .int 0, .int 0, .int 0])), (q10, .inr (0, [.int 0, .int 0, .int 0, .int 0, .int 0])), (q11, .inr (0, [.int 0, .int 0, .int 0, .int 0, .int 0]))]) H := hP
  have hD : va_D A ([(h0, .inr (4, [.ref q0, .ref q1, .int 0, .int 0])), (q0, .inl (y 2, 12, .inr (.inr (.inr (.inr (va_up (va_up (va_up (va_up (va_up (va_up (va_up (va_up (va_up (fun _ => none) 0 (some q2)) 1 (some q3)) 2 (some q4)) 3 (some q5)) 4 (some q6)) 5 (some q7)) 6 (some q8)) 7 (some q9)) 8 (some q10))))))), (q1, .inl (y 1, 4, .inl (upd (upd (upd (upd (fun _ => 0) 0 230) 1 3) 2 100) 3 3))), (q2, .inr (0, [.int 0, .int 0, .int 0, .int 0, .int 0])), (q3, .inr (0, [.int 0, .int 0, .int 0, .int 0, .int 0])), (q4, .inr (0, [.int 0, .int 0, .int 0, .int 0, .int 0])), (q5, .inr (0, [.int 0, .int 0, .int 0, .int 0, .int 0])), (q6, .inr (0, [.int 0, .int 0, .int 0, .int 0, .int 0])), (q7, .inr (0, [.int 0, .int 0, .int 0, .int 0, .int 0])), (q8, .inr (0, [.int 0, .int 0, .int 0, .int 0, .int 0])), (q9, .inr (0, [.int 0, .int 0, .int 0, .int 0, .int 0])), (q10, .inr (0, [.int 0, .int 0, .int 0, .int 0, .int 0])), (q11, .inr (0, [.int 0, .int 0, .int 0, .int 0, .int 0]))]) := hD
  refine W.widen (k := 12) (n := 66) (by omega) (by omega) ?_
  refine va_astq hx hb hK hP hD hS 1 2 12 0 rfl rfl rfl rfl (i := 9) (n_in 9 _ (by decide) (by decide)) dX5_init_59 (fun H locs hP hD hS => ?_)
  have hP : va_P D vwCl ([(h0, .inr (4, [.ref q0, .ref q1, .int 0, .int 0])), (q0, .inl (y 2, 12, .inr (.inr (.inr (.inr (va_up (va_up (va_up (va_up (va_up (va_up (va_up (va_up (va_up (va_up (fun _ => none) 0 (some q2)) 1 (some q3)) 2 (some q4)) 3 (some q5)) 4 (some q6)) 5 (some q7)) 6 (some q8)) 7 (some q9)) 8 (some q10)) 9 (some q11))))))), (q1, .inl (y 1, 4, .inl (upd (upd (upd (upd (fun _ => 0) 0 230) 1 3) 2 100) 3 3))), (q2, .inr (0, [.int 0, .int 0, .int 0, .int 0, .int 0])), (q3, .inr (0, [.int 0, .int 0, .int 0, .int 0, .int 0])), (q4, .inr (0, [.int 0, .int 0, .int 0, .int 0, .int 0])), (q5, .inr (0, [.int 0, .int 0, .int 0, .int 0, .int 0])), (q6, .inr (0, [.int 0, .int 0, .int 0, .int 0, .int 0])), (q7, .inr (0, [.int 0, .int 0, .int 0, .int 0, .int 0])), (q8, .inr (0, [.int 0, .int 0, .int 0, .int 0, .int 0])), (q9, .inr (0, [.int 0, .int 0, .int 0, .int 0, .int 0])), (q10, .inr (0, [.int 0, .int 0, .int 0, .int 0, .int 0])), (q11, .inr (0, [.int 0, .int 0, .int 0, .int 0, .int 0]))]) H := hP
  have hD : va_D A ([(h0, .inr (4, [.ref q0, .ref q1, .int 0, .int 0])), (q0, .inl (y 2, 12, .inr (.inr (.inr (.inr (va_up (va_up (va_up (va_up (va_up (va_up (va_up (va_up (va_up (va_up (fun _ => none) 0 (some q2)) 1 (some q3)) 2 (some q4)) 3 (some q5)) 4 (some q6)) 5 (some q7)) 6 (some q8)) 7 (some q9)) 8 (some q10)) 9 (some q11))))))), (q1, .inl (y 1, 4, .inl (upd (upd (upd (upd (fun _ => 0) 0 230) 1 3) 2 100) 3 3))), (q2, .inr (0, [.int 0, .int 0, .int 0, .int 0, .int 0])), (q3, .inr (0, [.int 0, .int 0, .int 0, .int 0, .int 0])), (q4, .inr (0, [.int 0, .int 0, .int 0, .int 0, .int 0])), (q5, .inr (0, [.int 0, .int 0, .int 0, .int 0, .int 0])), (q6, .inr (0, [.int 0, .int 0, .int 0, .int 0, .int 0])), (q7, .inr (0, [.int 0, .int 0, .int 0, .int 0, .int 0])), (q8, .inr (0, [.int 0, .int 0, .int 0, .int 0, .int 0])), (q9, .inr (0, [.int 0, .int 0, .int 0, .int 0, .int 0])), (q10, .inr (0, [.int 0, .int 0, .int 0, .int 0, .int 0])), (q11, .inr (0, [.int 0, .int 0, .int 0, .int 0, .int 0]))]) := hD
  refine lv_iinc (v := 10) (lv' := [(1, .int 10), (0, .ref h0)]) hx hb dX5_init_60 hl (k := 0) rfl (by decide) (by decide) rfl (fun ls hl => ?_)
  refine lv_goto (tgt := 41) hx hb dX5_init_63 (by decide) ?_
  refine lv_iload_n hx hb dX5_init_41 rfl (lv_at hl 0 rfl) ?_
  refine lv_bipush (v := 12) hx hb dX5_init_42 (by decide) ?_
  refine lv_icmp_ge (tgt := 66) hx hb dX5_init_44 (by decide) (fun h => absurd h (by decide)) (fun _ => ?_)
  refine lv_aload_n hx hb dX5_init_47 rfl (lv_at hl 1 rfl) ?_
  refine va_get (D := D) (ci := 4) (v := .ref q0) (C := RX5) (T := TX5) (N := 4) hx hb hts wu_X5 hown hK hP 0 rfl rfl 0 (by decide) (hts _ iA_109) (fun _ h9 => h9) rfl dX5_init_48 ?_
  refine lv_iload_n hx hb dX5_init_51 rfl (lv_at hl 0 rfl) ?_
  refine va_new (ci := 0) (fs := [.int 0, .int 0, .int 0, .int 0, .int 0]) (C := RX1) (T := TX1) (N := 5) hx hb hts wu_X1 tyX1 tyX1_ok hown (hts _ iA_76) (hts _ iA_78) (hts _ iA_52) hK hP hD hS hA rfl (fun j hj => by rcases (show j = 0 ∨ j = 1 ∨ j = 2 ∨ j = 3 ∨ j = 4 by omega) with rfl | rfl | rfl | rfl | rfl <;> rfl) (Nat.le_of_ble_eq_true rfl) (Nat.le_of_ble_eq_true rfl) dX5_init_52 (fun q12 H hP hD hS => ?_)
  have hP : va_P D vwCl ([(h0, .inr (4, [.ref q0, .ref q1, .int 0, .int 0])), (q0, .inl (y 2, 12, .inr (.inr (.inr (.inr (va_up (va_up (va_up (va_up (va_up (va_up (va_up (va_up (va_up (va_up (fun _ => none) 0 (some q2)) 1 (some q3)) 2 (some q4)) 3 (some q5)) 4 (some q6)) 5 (some q7)) 6 (some q8)) 7 (some q9)) 8 (some q10)) 9 (some q11))))))), (q1, .inl (y 1, 4, .inl (upd (upd (upd (upd (fun _ => 0) 0 230) 1 3) 2 100) 3 3))), (q2, .inr (0, [.int 0, .int 0, .int 0, .int 0, .int 0])), (q3, .inr (0, [.int 0, .int 0, .int 0, .int 0, .int 0])), (q4, .inr (0, [.int 0, .int 0, .int 0, .int 0, .int 0])), (q5, .inr (0, [.int 0, .int 0, .int 0, .int 0, .int 0])), (q6, .inr (0, [.int 0, .int 0, .int 0, .int 0, .int 0])), (q7, .inr (0, [.int 0, .int 0, .int 0, .int 0, .int 0])), (q8, .inr (0, [.int 0, .int 0, .int 0, .int 0, .int 0])), (q9, .inr (0, [.int 0, .int 0, .int 0, .int 0, .int 0])), (q10, .inr (0, [.int 0, .int 0, .int 0, .int 0, .int 0])), (q11, .inr (0, [.int 0, .int 0, .int 0, .int 0, .int 0])), (q12, .inr (0, [.int 0, .int 0, .int 0, .int 0, .int 0]))]) H := hP
  have hD : va_D A ([(h0, .inr (4, [.ref q0, .ref q1, .int 0, .int 0])), (q0, .inl (y 2, 12, .inr (.inr (.inr (.inr (va_up (va_up (va_up (va_up (va_up (va_up (va_up (va_up (va_up (va_up (fun _ => none) 0 (some q2)) 1 (some q3)) 2 (some q4)) 3 (some q5)) 4 (some q6)) 5 (some q7)) 6 (some q8)) 7 (some q9)) 8 (some q10)) 9 (some q11))))))), (q1, .inl (y 1, 4, .inl (upd (upd (upd (upd (fun _ => 0) 0 230) 1 3) 2 100) 3 3))), (q2, .inr (0, [.int 0, .int 0, .int 0, .int 0, .int 0])), (q3, .inr (0, [.int 0, .int 0, .int 0, .int 0, .int 0])), (q4, .inr (0, [.int 0, .int 0, .int 0, .int 0, .int 0])), (q5, .inr (0, [.int 0, .int 0, .int 0, .int 0, .int 0])), (q6, .inr (0, [.int 0, .int 0, .int 0, .int 0, .int 0])), (q7, .inr (0, [.int 0, .int 0, .int 0, .int 0, .int 0])), (q8, .inr (0, [.int 0, .int 0, .int 0, .int 0, .int 0])), (q9, .inr (0, [.int 0, .int 0, .int 0, .int 0, .int 0])), (q10, .inr (0, [.int 0, .int 0, .int 0, .int 0, .int 0])), (q11, .inr (0, [.int 0, .int 0, .int 0, .int 0, .int 0])), (q12, .inr (0, [.int 0, .int 0, .int 0, .int 0, .int 0]))]) := hD
  refine W.widen (k := 13) (n := 71) (by omega) (by omega) ?_
  refine lv_dup hx hb dX5_init_55 rfl ?_
  have hF := n_free (wr := (([(h0, .inr (4, [.ref q0, .ref q1, .int 0, .int 0])), (q0, .inl (y 2, 12, .inr (.inr (.inr (.inr (va_up (va_up (va_up (va_up (va_up (va_up (va_up (va_up (va_up (va_up (fun _ => none) 0 (some q2)) 1 (some q3)) 2 (some q4)) 3 (some q5)) 4 (some q6)) 5 (some q7)) 6 (some q8)) 7 (some q9)) 8 (some q10)) 9 (some q11))))))), (q1, .inl (y 1, 4, .inl (upd (upd (upd (upd (fun _ => 0) 0 230) 1 3) 2 100) 3 3))), (q2, .inr (0, [.int 0, .int 0, .int 0, .int 0, .int 0])), (q3, .inr (0, [.int 0, .int 0, .int 0, .int 0, .int 0])), (q4, .inr (0, [.int 0, .int 0, .int 0, .int 0, .int 0])), (q5, .inr (0, [.int 0, .int 0, .int 0, .int 0, .int 0])), (q6, .inr (0, [.int 0, .int 0, .int 0, .int 0, .int 0])), (q7, .inr (0, [.int 0, .int 0, .int 0, .int 0, .int 0])), (q8, .inr (0, [.int 0, .int 0, .int 0, .int 0, .int 0])), (q9, .inr (0, [.int 0, .int 0, .int 0, .int 0, .int 0])), (q10, .inr (0, [.int 0, .int 0, .int 0, .int 0, .int 0])), (q11, .inr (0, [.int 0, .int 0, .int 0, .int 0, .int 0]))]) : va_W)) hD hS hA
  refine va_callv (va_runIN (As := []) (rest := [.ref q12, .int 10, .ref q0]) ⟨hx, hb, hml, hown, hts⟩ (nX1_init l D y q12 H.size) ⟨va_cnB 0 hts (wgM iA_81) rfl rfl rfl hN.1.1 (hts _ iA_52) (by decide +kernel) ⟨Nat.le_of_ble_eq_true rfl, Nat.le_of_ble_eq_true rfl⟩, rfl, hts _ iA_80⟩ ⟨nPc_blind _ _ _ _ _, fun U hU hW => ⟨rfl, by rw [hU], by rw [hU]; exact n_last (wr := (([(h0, .inr (4, [.ref q0, .ref q1, .int 0, .int 0])), (q0, .inl (y 2, 12, .inr (.inr (.inr (.inr (va_up (va_up (va_up (va_up (va_up (va_up (va_up (va_up (va_up (va_up (fun _ => none) 0 (some q2)) 1 (some q3)) 2 (some q4)) 3 (some q5)) 4 (some q6)) 5 (some q7)) 6 (some q8)) 7 (some q9)) 8 (some q10)) 9 (some q11))))))), (q1, .inl (y 1, 4, .inl (upd (upd (upd (upd (fun _ => 0) 0 230) 1 3) 2 100) 3 3))), (q2, .inr (0, [.int 0, .int 0, .int 0, .int 0, .int 0])), (q3, .inr (0, [.int 0, .int 0, .int 0, .int 0, .int 0])), (q4, .inr (0, [.int 0, .int 0, .int 0, .int 0, .int 0])), (q5, .inr (0, [.int 0, .int 0, .int 0, .int 0, .int 0])), (q6, .inr (0, [.int 0, .int 0, .int 0, .int 0, .int 0])), (q7, .inr (0, [.int 0, .int 0, .int 0, .int 0, .int 0])), (q8, .inr (0, [.int 0, .int 0, .int 0, .int 0, .int 0])), (q9, .inr (0, [.int 0, .int 0, .int 0, .int 0, .int 0])), (q10, .inr (0, [.int 0, .int 0, .int 0, .int 0, .int 0])), (q11, .inr (0, [.int 0, .int 0, .int 0, .int 0, .int 0]))]) : va_W)) hP, va_K.moved hW.alike hK, nN.warm hW hN⟩⟩ rfl rfl hl.1 rfl (lv_room (Nat.le_of_ble_eq_true rfl)) dX5_init_56 ⟨Nat.le_of_ble_eq_true rfl, Nat.le_of_ble_eq_true rfl⟩) hS (fun x _ h => hF x h) hF (fun u10 t H1 locs ht hvm _ hB hz1 hk1 hS => ?_)
  obtain ⟨hP1, hD1⟩ := hB
  rw [ht] at hP1
  obtain ⟨hP, hD⟩ := n_join (wr := (([(h0, .inr (4, [.ref q0, .ref q1, .int 0, .int 0])), (q0, .inl (y 2, 12, .inr (.inr (.inr (.inr (va_up (va_up (va_up (va_up (va_up (va_up (va_up (va_up (va_up (va_up (fun _ => none) 0 (some q2)) 1 (some q3)) 2 (some q4)) 3 (some q5)) 4 (some q6)) 5 (some q7)) 6 (some q8)) 7 (some q9)) 8 (some q10)) 9 (some q11))))))), (q1, .inl (y 1, 4, .inl (upd (upd (upd (upd (fun _ => 0) 0 230) 1 3) 2 100) 3 3))), (q2, .inr (0, [.int 0, .int 0, .int 0, .int 0, .int 0])), (q3, .inr (0, [.int 0, .int 0, .int 0, .int 0, .int 0])), (q4, .inr (0, [.int 0, .int 0, .int 0, .int 0, .int 0])), (q5, .inr (0, [.int 0, .int 0, .int 0, .int 0, .int 0])), (q6, .inr (0, [.int 0, .int 0, .int 0, .int 0, .int 0])), (q7, .inr (0, [.int 0, .int 0, .int 0, .int 0, .int 0])), (q8, .inr (0, [.int 0, .int 0, .int 0, .int 0, .int 0])), (q9, .inr (0, [.int 0, .int 0, .int 0, .int 0, .int 0])), (q10, .inr (0, [.int 0, .int 0, .int 0, .int 0, .int 0])), (q11, .inr (0, [.int 0, .int 0, .int 0, .int 0, .int 0]))]) : va_W)) hP hD hk1 hF hP1 hD1
  generalize H1 = H at hP hS ⊢
  have hP : va_P D vwCl ([(h0, .inr (4, [.ref q0, .ref q1, .int 0, .int 0])), (q0, .inl (y 2, 12, .inr (.inr (.inr (.inr (va_up (va_up (va_up (va_up (va_up (va_up (va_up (va_up (va_up (va_up (fun _ => none) 0 (some q2)) 1 (some q3)) 2 (some q4)) 3 (some q5)) 4 (some q6)) 5 (some q7)) 6 (some q8)) 7 (some q9)) 8 (some q10)) 9 (some q11))))))), (q1, .inl (y 1, 4, .inl (upd (upd (upd (upd (fun _ => 0) 0 230) 1 3) 2 100) 3 3))), (q2, .inr (0, [.int 0, .int 0, .int 0, .int 0, .int 0])), (q3, .inr (0, [.int 0, .int 0, .int 0, .int 0, .int 0])), (q4, .inr (0, [.int 0, .int 0, .int 0, .int 0, .int 0])), (q5, .inr (0, [.int 0, .int 0, .int 0, .int 0, .int 0])), (q6, .inr (0, [.int 0, .int 0, .int 0, .int 0, .int 0])), (q7, .inr (0, [.int 0, .int 0, .int 0, .int 0, .int 0])), (q8, .inr (0, [.int 0, .int 0, .int 0, .int 0, .int 0])), (q9, .inr (0, [.int 0, .int 0, .int 0, .int 0, .int 0])), (q10, .inr (0, [.int 0, .int 0, .int 0, .int 0, .int 0])), (q11, .inr (0, [.int 0, .int 0, .int 0, .int 0, .int 0])), (q12, .inr (0, [.int 0, .int 0, .int 0, .int 0, .int 0]))]) H := hP
  have hD : va_D A ([(h0, .inr (4, [.ref q0, .ref q1, .int 0, .int 0])), (q0, .inl (y 2, 12, .inr (.inr (.inr (.inr (va_up (va_up (va_up (va_up (va_up (va_up (va_up (va_up (va_up (va_up (fun _ => none) 0 (some q2)) 1 (some q3)) 2 (some q4)) 3 (some q5)) 4 (some q6)) 5 (some q7)) 6 (some q8)) 7 (some q9)) 8 (some q10)) 9 (some q11))))))), (q1, .inl (y 1, 4, .inl (upd (upd (upd (upd (fun _ => 0) 0 230) 1 3) 2 100) 3 3))), (q2, .inr (0, [.int 0, .int 0, .int 0, .int 0, .int 0])), (q3, .inr (0, [.int 0, .int 0, .int 0, .int 0, .int 0])), (q4, .inr (0, [.int 0, .int 0, .int 0, .int 0, .int 0])), (q5, .inr (0, [.int 0, .int 0, .int 0, .int 0, .int 0])), (q6, .inr (0, [.int 0, .int 0, .int 0, .int 0, .int 0])), (q7, .inr (0, [.int 0, .int 0, .int 0, .int 0, .int 0])), (q8, .inr (0, [.int 0, .int 0, .int 0, .int 0, .int 0])), (q9, .inr (0, [.int 0, .int 0, .int 0, .int 0, .int 0])), (q10, .inr (0, [.int 0, .int 0, .int 0, .int 0, .int 0])), (q11, .inr (0, [.int 0, .int 0, .int 0, .int 0, .int 0])), (q12, .inr (0, [.int 0, .int 0, .int 0, .int 0, .int 0]))]) := hD
  refine W.widen (k := 13) (n := 71) (by omega) (by omega) ?_
  refine va_astq hx hb hK hP hD hS 1 2 13 0 rfl rfl rfl rfl (i := 10) (n_in 10 _ (by decide) (by decide)) dX5_init_59 (fun H locs hP hD hS => ?_)
  have hP : va_P D vwCl ([(h0, .inr (4, [.ref q0, .ref q1, .int 0, .int 0])), (q0, .inl (y 2, 12, .inr (.inr (.inr (.inr (va_up (va_up (va_up (va_up (va_up (va_up (va_up (va_up (va_up (va_up (va_up (fun _ => none) 0 (some q2)) 1 (some q3)) 2 (some q4)) 3 (some q5)) 4 (some q6)) 5 (some q7)) 6 (some q8)) 7 (some q9)) 8 (some q10)) 9 (some q11)) 10 (some q12))))))), (q1, .inl (y 1, 4, .inl (upd (upd (upd (upd (fun _ => 0) 0 230) 1 3) 2 100) 3 3))), (q2, .inr (0, [.int 0, .int 0, .int 0, .int 0, .int 0])), (q3, .inr (0, [.int 0, .int 0, .int 0, .int 0, .int 0])), (q4, .inr (0, [.int 0, .int 0, .int 0, .int 0, .int 0])), (q5, .inr (0, [.int 0, .int 0, .int 0, .int 0, .int 0])), (q6, .inr (0, [.int 0, .int 0, .int 0, .int 0, .int 0])), (q7, .inr (0, [.int 0, .int 0, .int 0, .int 0, .int 0])), (q8, .inr (0, [.int 0, .int 0, .int 0, .int 0, .int 0])), (q9, .inr (0, [.int 0, .int 0, .int 0, .int 0, .int 0])), (q10, .inr (0, [.int 0, .int 0, .int 0, .int 0, .int 0])), (q11, .inr (0, [.int 0, .int 0, .int 0, .int 0, .int 0])), (q12, .inr (0, [.int 0, .int 0, .int 0, .int 0, .int 0]))]) H := hP
  have hD : va_D A ([(h0, .inr (4, [.ref q0, .ref q1, .int 0, .int 0])), (q0, .inl (y 2, 12, .inr (.inr (.inr (.inr (va_up (va_up (va_up (va_up (va_up (va_up (va_up (va_up (va_up (va_up (va_up (fun _ => none) 0 (some q2)) 1 (some q3)) 2 (some q4)) 3 (some q5)) 4 (some q6)) 5 (some q7)) 6 (some q8)) 7 (some q9)) 8 (some q10)) 9 (some q11)) 10 (some q12))))))), (q1, .inl (y 1, 4, .inl (upd (upd (upd (upd (fun _ => 0) 0 230) 1 3) 2 100) 3 3))), (q2, .inr (0, [.int 0, .int 0, .int 0, .int 0, .int 0])), (q3, .inr (0, [.int 0, .int 0, .int 0, .int 0, .int 0])), (q4, .inr (0, [.int 0, .int 0, .int 0, .int 0, .int 0])), (q5, .inr (0, [.int 0, .int 0, .int 0, .int 0, .int 0])), (q6, .inr (0, [.int 0, .int 0, .int 0, .int 0, .int 0])), (q7, .inr (0, [.int 0, .int 0, .int 0, .int 0, .int 0])), (q8, .inr (0, [.int 0, .int 0, .int 0, .int 0, .int 0])), (q9, .inr (0, [.int 0, .int 0, .int 0, .int 0, .int 0])), (q10, .inr (0, [.int 0, .int 0, .int 0, .int 0, .int 0])), (q11, .inr (0, [.int 0, .int 0, .int 0, .int 0, .int 0])), (q12, .inr (0, [.int 0, .int 0, .int 0, .int 0, .int 0]))]) := hD
  refine lv_iinc (v := 11) (lv' := [(1, .int 11), (0, .ref h0)]) hx hb dX5_init_60 hl (k := 0) rfl (by decide) (by decide) rfl (fun ls hl => ?_)
  refine lv_goto (tgt := 41) hx hb dX5_init_63 (by decide) ?_
  refine lv_iload_n hx hb dX5_init_41 rfl (lv_at hl 0 rfl) ?_
  refine lv_bipush (v := 12) hx hb dX5_init_42 (by decide) ?_
  refine lv_icmp_ge (tgt := 66) hx hb dX5_init_44 (by decide) (fun h => absurd h (by decide)) (fun _ => ?_)
  refine lv_aload_n hx hb dX5_init_47 rfl (lv_at hl 1 rfl) ?_
  refine va_get (D := D) (ci := 4) (v := .ref q0) (C := RX5) (T := TX5) (N := 4) hx hb hts wu_X5 hown hK hP 0 rfl rfl 0 (by decide) (hts _ iA_109) (fun _ h9 => h9) rfl dX5_init_48 ?_
  refine lv_iload_n hx hb dX5_init_51 rfl (lv_at hl 0 rfl) ?_
  refine va_new (ci := 0) (fs := [.int 0, .int 0, .int 0, .int 0, .int 0]) (C := RX1) (T := TX1) (N := 5) hx hb hts wu_X1 tyX1 tyX1_ok hown (hts _ iA_76) (hts _ iA_78) (hts _ iA_52) hK hP hD hS hA rfl (fun j hj => by rcases (show j = 0 ∨ j = 1 ∨ j = 2 ∨ j = 3 ∨ j = 4 by omega) with rfl | rfl | rfl | rfl | rfl <;> rfl) (Nat.le_of_ble_eq_true rfl) (Nat.le_of_ble_eq_true rfl) dX5_init_52 (fun q13 H hP hD hS => ?_)
  have hP : va_P D vwCl ([(h0, .inr (4, [.ref q0, .ref q1, .int 0, .int 0])), (q0, .inl (y 2, 12, .inr (.inr (.inr (.inr (va_up (va_up (va_up (va_up (va_up (va_up (va_up (va_up (va_up (va_up (va_up (fun _ => none) 0 (some q2)) 1 (some q3)) 2 (some q4)) 3 (some q5)) 4 (some q6)) 5 (some q7)) 6 (some q8)) 7 (some q9)) 8 (some q10)) 9 (some q11)) 10 (some q12))))))), (q1, .inl (y 1, 4, .inl (upd (upd (upd (upd (fun _ => 0) 0 230) 1 3) 2 100) 3 3))), (q2, .inr (0, [.int 0, .int 0, .int 0, .int 0, .int 0])), (q3, .inr (0, [.int 0, .int 0, .int 0, .int 0, .int 0])), (q4, .inr (0, [.int 0, .int 0, .int 0, .int 0, .int 0])), (q5, .inr (0, [.int 0, .int 0, .int 0, .int 0, .int 0])), (q6, .inr (0, [.int 0, .int 0, .int 0, .int 0, .int 0])), (q7, .inr (0, [.int 0, .int 0, .int 0, .int 0, .int 0])), (q8, .inr (0, [.int 0, .int 0, .int 0, .int 0, .int 0])), (q9, .inr (0, [.int 0, .int 0, .int 0, .int 0, .int 0])), (q10, .inr (0, [.int 0, .int 0, .int 0, .int 0, .int 0])), (q11, .inr (0, [.int 0, .int 0, .int 0, .int 0, .int 0])), (q12, .inr (0, [.int 0, .int 0, .int 0, .int 0, .int 0])), (q13, .inr (0, [.int 0, .int 0, .int 0, .int 0, .int 0]))]) H := hP
  have hD : va_D A ([(h0, .inr (4, [.ref q0, .ref q1, .int 0, .int 0])), (q0, .inl (y 2, 12, .inr (.inr (.inr (.inr (va_up (va_up (va_up (va_up (va_up (va_up (va_up (va_up (va_up (va_up (va_up (fun _ => none) 0 (some q2)) 1 (some q3)) 2 (some q4)) 3 (some q5)) 4 (some q6)) 5 (some q7)) 6 (some q8)) 7 (some q9)) 8 (some q10)) 9 (some q11)) 10 (some q12))))))), (q1, .inl (y 1, 4, .inl (upd (upd (upd (upd (fun _ => 0) 0 230) 1 3) 2 100) 3 3))), (q2, .inr (0, [.int 0, .int 0, .int 0, .int 0, .int 0])), (q3, .inr (0, [.int 0, .int 0, .int 0, .int 0, .int 0])), (q4, .inr (0, [.int 0, .int 0, .int 0, .int 0, .int 0])), (q5, .inr (0, [.int 0, .int 0, .int 0, .int 0, .int 0])), (q6, .inr (0, [.int 0, .int 0, .int 0, .int 0, .int 0])), (q7, .inr (0, [.int 0, .int 0, .int 0, .int 0, .int 0])), (q8, .inr (0, [.int 0, .int 0, .int 0, .int 0, .int 0])), (q9, .inr (0, [.int 0, .int 0, .int 0, .int 0, .int 0])), (q10, .inr (0, [.int 0, .int 0, .int 0, .int 0, .int 0])), (q11, .inr (0, [.int 0, .int 0, .int 0, .int 0, .int 0])), (q12, .inr (0, [.int 0, .int 0, .int 0, .int 0, .int 0])), (q13, .inr (0, [.int 0, .int 0, .int 0, .int 0, .int 0]))]) := hD
  refine W.widen (k := 14) (n := 76) (by omega) (by omega) ?_
  refine lv_dup hx hb dX5_init_55 rfl ?_
  have hF := n_free (wr := (([(h0, .inr (4, [.ref q0, .ref q1, .int 0, .int 0])), (q0, .inl (y 2, 12, .inr (.inr (.inr (.inr (va_up (va_up (va_up (va_up (va_up (va_up (va_up (va_up (va_up (va_up (va_up (fun _ => none) 0 (some q2)) 1 (some q3)) 2 (some q4)) 3 (some q5)) 4 (some q6)) 5 (some q7)) 6 (some q8)) 7 (some q9)) 8 (some q10)) 9 (some q11)) 10 (some q12))))))), (q1, .inl (y 1, 4, .inl (upd (upd (upd (upd (fun _ => 0) 0 230) 1 3) 2 100) 3 3))), (q2, .inr (0, [.int 0, .int 0, .int 0, .int 0, .int 0])), (q3, .inr (0, [.int 0, .int 0, .int 0, .int 0, .int 0])), (q4, .inr (0, [.int 0, .int 0, .int 0, .int 0, .int 0])), (q5, .inr (0, [.int 0, .int 0, .int 0, .int 0, .int 0])), (q6, .inr (0, [.int 0, .int 0, .int 0, .int 0, .int 0])), (q7, .inr (0, [.int 0, .int 0, .int 0, .int 0, .int 0])), (q8, .inr (0, [.int 0, .int 0, .int 0, .int 0, .int 0])), (q9, .inr (0, [.int 0, .int 0, .int 0, .int 0, .int 0])), (q10, .inr (0, [.int 0, .int 0, .int 0, .int 0, .int 0])), (q11, .inr (0, [.int 0, .int 0, .int 0, .int 0, .int 0])), (q12, .inr (0, [.int 0, .int 0, .int 0, .int 0, .int 0]))]) : va_W)) hD hS hA
  refine va_callv (va_runIN (As := []) (rest := [.ref q13, .int 11, .ref q0]) ⟨hx, hb, hml, hown, hts⟩ (nX1_init l D y q13 H.size) ⟨va_cnB 0 hts (wgM iA_81) rfl rfl rfl hN.1.1 (hts _ iA_52) (by decide +kernel) ⟨Nat.le_of_ble_eq_true rfl, Nat.le_of_ble_eq_true rfl⟩, rfl, hts _ iA_80⟩ ⟨nPc_blind _ _ _ _ _, fun U hU hW => ⟨rfl, by rw [hU], by rw [hU]; exact n_last (wr := (([(h0, .inr (4, [.ref q0, .ref q1, .int 0, .int 0])), (q0, .inl (y 2, 12, .inr (.inr (.inr (.inr (va_up (va_up (va_up (va_up (va_up (va_up (va_up (va_up (va_up (va_up (va_up (fun _ => none) 0 (some q2)) 1 (some q3)) 2 (some q4)) 3 (some q5)) 4 (some q6)) 5 (some q7)) 6 (some q8)) 7 (some q9)) 8 (some q10)) 9 (some q11)) 10 (some q12))))))), (q1, .inl (y 1, 4, .inl (upd (upd (upd (upd (fun _ => 0) 0 230) 1 3) 2 100) 3 3))), (q2, .inr (0, [.int 0, .int 0, .int 0, .int 0, .int 0])), (q3, .inr (0, [.int 0, .int 0, .int 0, .int 0, .int 0])), (q4, .inr (0, [.int 0, .int 0, .int 0, .int 0, .int 0])), (q5, .inr (0, [.int 0, .int 0, .int 0, .int 0, .int 0])), (q6, .inr (0, [.int 0, .int 0, .int 0, .int 0, .int 0])), (q7, .inr (0, [.int 0, .int 0, .int 0, .int 0, .int 0])), (q8, .inr (0, [.int 0, .int 0, .int 0, .int 0, .int 0])), (q9, .inr (0, [.int 0, .int 0, .int 0, .int 0, .int 0])), (q10, .inr (0, [.int 0, .int 0, .int 0, .int 0, .int 0])), (q11, .inr (0, [.int 0, .int 0, .int 0, .int 0, .int 0])), (q12, .inr (0, [.int 0, .int 0, .int 0, .int 0, .int 0]))]) : va_W)) hP, va_K.moved hW.alike hK, nN.warm hW hN⟩⟩ rfl rfl hl.1 rfl (lv_room (Nat.le_of_ble_eq_true rfl)) dX5_init_56 ⟨Nat.le_of_ble_eq_true rfl, Nat.le_of_ble_eq_true rfl⟩) hS (fun x _ h => hF x h) hF (fun u11 t H1 locs ht hvm _ hB hz1 hk1 hS => ?_)
  obtain ⟨hP1, hD1⟩ := hB
  rw [ht] at hP1
  obtain ⟨hP, hD⟩ := n_join (wr := (([(h0, .inr (4, [.ref q0, .ref q1, .int 0, .int 0])), (q0, .inl (y 2, 12, .inr (.inr (.inr (.inr (va_up (va_up (va_up (va_up (va_up (va_up (va_up (va_up (va_up (va_up (va_up (fun _ => none) 0 (some q2)) 1 (some q3)) 2 (some q4)) 3 (some q5)) 4 (some q6)) 5 (some q7)) 6 (some q8)) 7 (some q9)) 8 (some q10)) 9 (some q11)) 10 (some q12))))))), (q1, .inl (y 1, 4, .inl (upd (upd (upd (upd (fun _ => 0) 0 230) 1 3) 2 100) 3 3))), (q2, .inr (0, [.int 0, .int 0, .int 0, .int 0, .int 0])), (q3, .inr (0, [.int 0, .int 0, .int 0, .int 0, .int 0])), (q4, .inr (0, [.int 0, .int 0, .int 0, .int 0, .int 0])), (q5, .inr (0, [.int 0, .int 0, .int 0, .int 0, .int 0])), (q6, .inr (0, [.int 0, .int 0, .int 0, .int 0, .int 0])), (q7, .inr (0, [.int 0, .int 0, .int 0, .int 0, .int 0])), (q8, .inr (0, [.int 0, .int 0, .int 0, .int 0, .int 0])), (q9, .inr (0, [.int 0, .int 0, .int 0, .int 0, .int 0])), (q10, .inr (0, [.int 0, .int 0, .int 0, .int 0, .int 0])), (q11, .inr (0, [.int 0, .int 0, .int 0, .int 0, .int 0])), (q12, .inr (0, [.int 0, .int 0, .int 0, .int 0, .int 0]))]) : va_W)) hP hD hk1 hF hP1 hD1
  generalize H1 = H at hP hS ⊢
  have hP : va_P D vwCl ([(h0, .inr (4, [.ref q0, .ref q1, .int 0, .int 0])), (q0, .inl (y 2, 12, .inr (.inr (.inr (.inr (va_up (va_up (va_up (va_up (va_up (va_up (va_up (va_up (va_up (va_up (va_up (fun _ => none) 0 (some q2)) 1 (some q3)) 2 (some q4)) 3 (some q5)) 4 (some q6)) 5 (some q7)) 6 (some q8)) 7 (some q9)) 8 (some q10)) 9 (some q11)) 10 (some q12))))))), (q1, .inl (y 1, 4, .inl (upd (upd (upd (upd (fun _ => 0) 0 230) 1 3) 2 100) 3 3))), (q2, .inr (0, [.int 0, .int 0, .int 0, .int 0, .int 0])), (q3, .inr (0, [.int 0, .int 0, .int 0, .int 0, .int 0])), (q4, .inr (0, [.int 0, .int 0, .int 0, .int 0, .int 0])), (q5, .inr (0, [.int 0, .int 0, .int 0, .int 0, .int 0])), (q6, .inr (0, [.int 0, .int 0, .int 0, .int 0, .int 0])), (q7, .inr (0, [.int 0, .int 0, .int 0, .int 0, .int 0])), (q8, .inr (0, [.int 0, .int 0, .int 0, .int 0, .int 0])), (q9, .inr (0, [.int 0, .int 0, .int 0, .int 0, .int 0])), (q10, .inr (0, [.int 0, .int 0, .int 0, .int 0, .int 0])), (q11, .inr (0, [.int 0, .int 0, .int 0, .int 0, .int 0])), (q12, .inr (0, [.int 0, .int 0, .int 0, .int 0, .int 0])), (q13, .inr (0, [.int 0, .int 0, .int 0, .int 0, .int 0]))]) H := hP
  have hD : va_D A ([(h0, .inr (4, [.ref q0, .ref q1, .int 0, .int 0])), (q0, .inl (y 2, 12, .inr (.inr (.inr (.inr (va_up (va_up (va_up (va_up (va_up (va_up (va_up (va_up (va_up (va_up (va_up (fun _ => none) 0 (some q2)) 1 (some q3)) 2 (some q4)) 3 (some q5)) 4 (some q6)) 5 (some q7)) 6 (some q8)) 7 (some q9)) 8 (some q10)) 9 (some q11)) 10 (some q12))))))), (q1, .inl (y 1, 4, .inl (upd (upd (upd (upd (fun _ => 0) 0 230) 1 3) 2 100) 3 3))), (q2, .inr (0, [.int 0, .int 0, .int 0, .int 0, .int 0])), (q3, .inr (0, [.int 0, .int 0, .int 0, .int 0, .int 0])), (q4, .inr (0, [.int 0, .int 0, .int 0, .int 0, .int 0])), (q5, .inr (0, [.int 0, .int 0, .int 0, .int 0, .int 0])), (q6, .inr (0, [.int 0, .int 0, .int 0, .int 0, .int 0])), (q7, .inr (0, [.int 0, .int 0, .int 0, .int 0, .int 0])), (q8, .inr (0, [.int 0, .int 0, .int 0, .int 0, .int 0])), (q9, .inr (0, [.int 0, .int 0, .int 0, .int 0, .int 0])), (q10, .inr (0, [.int 0, .int 0, .int 0, .int 0, .int 0])), (q11, .inr (0, [.int 0, .int 0, .int 0, .int 0, .int 0])), (q12, .inr (0, [.int 0, .int 0, .int 0, .int 0, .int 0])), (q13, .inr (0, [.int 0, .int 0, .int 0, .int 0, .int 0]))]) := hD
  refine W.widen (k := 14) (n := 76) (by omega) (by omega) ?_
  refine va_astq hx hb hK hP hD hS 1 2 14 0 rfl rfl rfl rfl (i := 11) (n_in 11 _ (by decide) (by decide)) dX5_init_59 (fun H locs hP hD hS => ?_)
  have hP : va_P D vwCl ([(h0, .inr (4, [.ref q0, .ref q1, .int 0, .int 0])), (q0, .inl (y 2, 12, .inr (.inr (.inr (.inr (va_up (va_up (va_up (va_up (va_up (va_up (va_up (va_up (va_up (va_up (va_up (va_up (fun _ => none) 0 (some q2)) 1 (some q3)) 2 (some q4)) 3 (some q5)) 4 (some q6)) 5 (some q7)) 6 (some q8)) 7 (some q9)) 8 (some q10)) 9 (some q11)) 10 (some q12)) 11 (some q13))))))), (q1, .inl (y 1, 4, .inl (upd (upd (upd (upd (fun _ => 0) 0 230) 1 3) 2 100) 3 3))), (q2, .inr (0, [.int 0, .int 0, .int 0, .int 0, .int 0])), (q3, .inr (0, [.int 0, .int 0, .int 0, .int 0, .int 0])), (q4, .inr (0, [.int 0, .int 0, .int 0, .int 0, .int 0])), (q5, .inr (0, [.int 0, .int 0, .int 0, .int 0, .int 0])), (q6, .inr (0, [.int 0, .int 0, .int 0, .int 0, .int 0])), (q7, .inr (0, [.int 0, .int 0, .int 0, .int 0, .int 0])), (q8, .inr (0, [.int 0, .int 0, .int 0, .int 0, .int 0])), (q9, .inr (0, [.int 0, .int 0, .int 0, .int 0, .int 0])), (q10, .inr (0, [.int 0, .int 0, .int 0, .int 0, .int 0])), (q11, .inr (0, [.int 0, .int 0, .int 0, .int 0, .int 0])), (q12, .inr (0, [.int 0, .int 0, .int 0, .int 0, .int 0])), (q13, .inr (0, [.int 0, .int 0, .int 0, .int 0, .int 0]))]) H := hP
  have hD : va_D A ([(h0, .inr (4, [.ref q0, .ref q1, .int 0, .int 0])), (q0, .inl (y 2, 12, .inr (.inr (.inr (.inr (va_up (va_up (va_up (va_up (va_up (va_up (va_up (va_up (va_up (va_up (va_up (va_up (fun _ => none) 0 (some q2)) 1 (some q3)) 2 (some q4)) 3 (some q5)) 4 (some q6)) 5 (some q7)) 6 (some q8)) 7 (some q9)) 8 (some q10)) 9 (some q11)) 10 (some q12)) 11 (some q13))))))), (q1, .inl (y 1, 4, .inl (upd (upd (upd (upd (fun _ => 0) 0 230) 1 3) 2 100) 3 3))), (q2, .inr (0, [.int 0, .int 0, .int 0, .int 0, .int 0])), (q3, .inr (0, [.int 0, .int 0, .int 0, .int 0, .int 0])), (q4, .inr (0, [.int 0, .int 0, .int 0, .int 0, .int 0])), (q5, .inr (0, [.int 0, .int 0, .int 0, .int 0, .int 0])), (q6, .inr (0, [.int 0, .int 0, .int 0, .int 0, .int 0])), (q7, .inr (0, [.int 0, .int 0, .int 0, .int 0, .int 0])), (q8, .inr (0, [.int 0, .int 0, .int 0, .int 0, .int 0])), (q9, .inr (0, [.int 0, .int 0, .int 0, .int 0, .int 0])), (q10, .inr (0, [.int 0, .int 0, .int 0, .int 0, .int 0])), (q11, .inr (0, [.int 0, .int 0, .int 0, .int 0, .int 0])), (q12, .inr (0, [.int 0, .int 0, .int 0, .int 0, .int 0])), (q13, .inr (0, [.int 0, .int 0, .int 0, .int 0, .int 0]))]) := hD
  refine lv_iinc (v := 12) (lv' := [(1, .int 12), (0, .ref h0)]) hx hb dX5_init_60 hl (k := 0) rfl (by decide) (by decide) rfl (fun ls hl => ?_)
  refine lv_goto (tgt := 41) hx hb dX5_init_63 (by decide) ?_
  refine lv_iload_n hx hb dX5_init_41 rfl (lv_at hl 0 rfl) ?_
  refine lv_bipush (v := 12) hx hb dX5_init_42 (by decide) ?_
  refine lv_icmp_ge (tgt := 66) hx hb dX5_init_44 (by decide) (fun _ => ?_) (fun h => absurd (by decide) h)
  have hP := n_arr 1 hP (a := q0) rfl (g := fun i => some ([q0, q1, q2, q3, q4, q5, q6, q7, q8, q9, q10, q11, q12, q13].getD (2 + i) 0)) (fun i hi => by rcases (show i = 0 ∨ i = 1 ∨ i = 2 ∨ i = 3 ∨ i = 4 ∨ i = 5 ∨ i = 6 ∨ i = 7 ∨ i = 8 ∨ i = 9 ∨ i = 10 ∨ i = 11 by omega) with rfl | rfl | rfl | rfl | rfl | rfl | rfl | rfl | rfl | rfl | rfl | rfl <;> rfl)
  have hD := va_D.set (p := 1) (e := .inl (y 2, 12, .inr (.inr (.inr (.inr (fun i => some ([q0, q1, q2, q3, q4, q5, q6, q7, q8, q9, q10, q11, q12, q13].getD (2 + i) 0))))))) hD rfl
  exact W.vret hx hb hr (fun t ht hW => ⟨⟨(fun k => [q0, q1, q2, q3, q4, q5, q6, q7, q8, q9, q10, q11, q12, q13].getD k 0), rfl, trivial, by rw [ht]; exact hP, hD⟩, hS.F ht⟩) hS.2.2 dX5_init_66
set_option maxHeartbeats 4000000 in
set_option maxRecDepth 100000 in
theorem nX4_init (l : Launch) (D : va_G) (y : nC) (h0 sz : Nat) : nMet (S := Nat × (Nat → Nat)) l yX4_init (wsM yX4_init cX4_init 1 none) ({ frames := 3, cells := 15, slots := 80, locals := 60 } : Room) D y h0 sz (.inr (3, [.null])) (fun u => (h0, .inr (3, [.ref u.1])) :: rowW y u.1 u.2) 15 80 := by
  unfold nMet nQc
  refine Met.ofW (cc := cX4_init) (maxL := 1) (ret := none) (by decide) rfl ?_
  intro p e s m args below meth c s₁ B hml hv
  obtain ⟨rfl, hsz, hP, hK, hN⟩ := hv
  have hx := B.exec
  have hb := B.bytes
  have hr := B.returns
  have hts0 := atoms_spec (ws := wsM yX4_init cX4_init 1 none) B.pre
  have hts : ∀ w ∈ wsA, w.before ([Value.ref h0] : List Value).toArray s = true := fun w hw => hts0 w (List.mem_cons_of_mem _ hw)
  have hown : s.vm.findClass RX4 = some m.cls := findClass_of_methodNamed B.named
  have hin : meth.name = "<init>" := (name_of_methodNamed B.named B.method).1
  subst hsz
  have hD := (n_one h0 (.inr (3, [.null]))).self (sz := s.heap.size)
  generalize hAe : va_A [(h0, .inr (3, [.null]))] s.heap.size = A at hD ⊢
  have hA : ∀ q : Nat, s.heap.size ≤ q → A q := fun q h => by rw [← hAe]; exact Or.inr h
  have hS : va_S A s.heap s.heap [] := va_S.rf
  have hl := lv_entry ([.ref h0]) (n := 1) (Nat.le_of_ble_eq_true rfl)
  rw [lg_entry_eq]
  generalize (lg_sl ([.ref h0]) ++ List.replicate (1 - (lg_sl ([.ref h0])).length) Slot.unset).toArray = ls at hl ⊢
  have hl : lv_has ls 1 [(0, .ref h0)] := hl
  refine lv_aload_n hx hb dX4_init_0 rfl (lv_at hl 0 rfl) ?_
  refine W.objInit hx hb hown (hts _ iA_138) (hts _ iA_68) (hts _ iA_69) rfl (by rw [hml]; exact hl.1) rfl dX4_init_1 (Nat.le_of_ble_eq_true rfl) (Nat.le_of_ble_eq_true rfl) ?_
  refine W.eq (g2 := F0 m 4 ls []) rfl ?_
  refine lv_aload_n hx hb dX4_init_4 rfl (lv_at hl 0 rfl) ?_
  refine va_new (ci := 4) (fs := [.null, .null, .int 0, .int 0]) (C := RX5) (T := TX5) (N := 4) hx hb hts wu_X5 tyX5 tyX5_ok hown (hts _ iA_139) (hts _ iA_71) (hts _ iA_51) hK hP hD hS hA rfl (fun j hj => by rcases (show j = 0 ∨ j = 1 ∨ j = 2 ∨ j = 3 by omega) with rfl | rfl | rfl | rfl <;> rfl) (Nat.le_of_ble_eq_true rfl) (Nat.le_of_ble_eq_true rfl) dX4_init_5 (fun q0 H hP hD hS => ?_)
  have hP : va_P D vwCl ([(h0, .inr (3, [.null])), (q0, .inr (4, [.null, .null, .int 0, .int 0]))]) H := hP
  have hD : va_D A ([(h0, .inr (3, [.null])), (q0, .inr (4, [.null, .null, .int 0, .int 0]))]) := hD
  refine W.widen (k := 1) (n := 4) (by omega) (by omega) ?_
  refine lv_dup hx hb dX4_init_8 rfl ?_
  have hF := n_free (wr := (([(h0, .inr (3, [.null]))]) : va_W)) hD hS hA
  refine va_callv (va_runI (As := []) (rest := [.ref q0, .ref h0]) ⟨hx, hb, hml, hown, hts⟩ (nX5_init l D y q0 H.size) (cwI 0 hts (wgM iA_74) rfl rfl rfl (hts _ iA_51) (hts _ iA_140) (hts _ iA_73) rfl (by decide +kernel) ⟨Nat.le_of_ble_eq_true rfl, Nat.le_of_ble_eq_true rfl⟩) ⟨nPc_blind _ _ _ _ _, fun U hU hW => ⟨rfl, by rw [hU], by rw [hU]; exact n_last (wr := (([(h0, .inr (3, [.null]))]) : va_W)) hP, va_K.moved hW.alike hK, nN.warm hW hN⟩⟩ rfl rfl hl.1 rfl (lv_room (Nat.le_of_ble_eq_true rfl)) dX4_init_9 ⟨Nat.le_of_ble_eq_true rfl, Nat.le_of_ble_eq_true rfl⟩) hS (fun x _ h => hF x h) hF (fun u0 t H1 locs ht hvm _ hB hz1 hk1 hS => ?_)
  obtain ⟨hP1, hD1⟩ := hB
  rw [ht] at hP1
  obtain ⟨hP, hD⟩ := n_join (wr := (([(h0, .inr (3, [.null]))]) : va_W)) hP hD hk1 hF hP1 hD1
  generalize H1 = H at hP hS ⊢
  have hP : va_P D vwCl ((h0, .inr (3, [.null])) :: ((rowW y q0 u0 : va_W))) H := hP
  have hD : va_D A ((h0, .inr (3, [.null])) :: ((rowW y q0 u0 : va_W))) := hD
  refine W.widen (k := 15) (n := 80) (by omega) (by omega) ?_
  refine va_putF (D := D) (ci := 3) (v := .ref q0) (ty := .object "OneLampAllOut$Row") (C := RX4) (T := TX4) (N := 1) hx hb hts wu_X4 tyX4 tyX4_ok nmX4 hown hK hP hD hS 0 rfl rfl 0 (by decide) (hts _ iA_141) (fun _ h9 => h9) rfl hin rfl (by decide +kernel) rfl rfl (Nat.le_of_ble_eq_true rfl) dX4_init_12 (fun H locs hP hD hS => ?_)
  have hP : va_P D vwCl ((h0, .inr (3, [.ref q0])) :: ((rowW y q0 u0 : va_W))) H := hP
  have hD : va_D A ((h0, .inr (3, [.ref q0])) :: ((rowW y q0 u0 : va_W))) := hD
  exact W.vret hx hb hr (fun t ht hW => ⟨⟨(q0, u0), rfl, trivial, by rw [ht]; exact hP, hD⟩, hS.F ht⟩) hS.2.2 dX4_init_15
set_option maxHeartbeats 4000000 in
set_option maxRecDepth 100000 in
theorem nX6_init (l : Launch) (D : va_G) (y : nC) (h0 sz : Nat) : nMet (S := Nat → Nat) l yX6_init (wsM yX6_init cX6_init 1 none) ({ frames := 1, cells := 13, slots := 156, locals := 12 } : Room) D y h0 sz (.inr (5, [.null])) (fun u => searchW y h0 u) 13 156 := by
  unfold nMet nQc
  refine Met.ofW (cc := cX6_init) (maxL := 1) (ret := none) (by decide) rfl ?_
  intro p e s m args below meth c s₁ B hml hv
  obtain ⟨rfl, hsz, hP, hK, hN⟩ := hv
  have hx := B.exec
  have hb := B.bytes
  have hr := B.returns
  have hts0 := atoms_spec (ws := wsM yX6_init cX6_init 1 none) B.pre
  have hts : ∀ w ∈ wsA, w.before ([Value.ref h0] : List Value).toArray s = true := fun w hw => hts0 w (List.mem_cons_of_mem _ hw)
  have hown : s.vm.findClass RX6 = some m.cls := findClass_of_methodNamed B.named
  have hin : meth.name = "<init>" := (name_of_methodNamed B.named B.method).1
  subst hsz
  have hD := (n_one h0 (.inr (5, [.null]))).self (sz := s.heap.size)
  generalize hAe : va_A [(h0, .inr (5, [.null]))] s.heap.size = A at hD ⊢
  have hA : ∀ q : Nat, s.heap.size ≤ q → A q := fun q h => by rw [← hAe]; exact Or.inr h
  have hS : va_S A s.heap s.heap [] := va_S.rf
  have hl := lv_entry ([.ref h0]) (n := 1) (Nat.le_of_ble_eq_true rfl)
  rw [lg_entry_eq]
  generalize (lg_sl ([.ref h0]) ++ List.replicate (1 - (lg_sl ([.ref h0])).length) Slot.unset).toArray = ls at hl ⊢
  have hl : lv_has ls 1 [(0, .ref h0)] := hl
  refine lv_aload_n hx hb dX6_init_0 rfl (lv_at hl 0 rfl) ?_
  refine W.objInit hx hb hown (hts _ iA_213) (hts _ iA_68) (hts _ iA_69) rfl (by rw [hml]; exact hl.1) rfl dX6_init_1 (Nat.le_of_ble_eq_true rfl) (Nat.le_of_ble_eq_true rfl) ?_
  refine W.eq (g2 := F0 m 4 ls []) rfl ?_
  refine lv_aload_n hx hb dX6_init_4 rfl (lv_at hl 0 rfl) ?_
  refine lv_bipush (v := 12) hx hb dX6_init_5 (by decide) ?_
  refine lv_bipush (v := 12) hx hb dX6_init_7 (by decide) ?_
  have hcy : s.vm.findClass (FieldType.array .int).toString = some (y 1) := (hK.2 1 _ rfl).2
  refine va_mna (X := [(h0, .inr (5, [.null]))]) (L := []) (f := fun _ => .inl (y 1, 12, .inl (fun _ => 0))) (ty := .int) (n := 12) (k := 12) (N' := 12) (K' := 12) (z := (12, .inl (fun _ => 0))) hx hb hown (hts _ iA_214) hN.2.2.2 (hts _ iA_108) hcy hK hP hD hS hA (by decide) (by decide) (by decide) (by decide) (by decide) (by decide) (by decide) rfl rfl (Nat.le_of_ble_eq_true rfl) (Nat.le_of_ble_eq_true rfl) (fun _ => rfl) dX6_init_9 (fun q r cA H hr1 _ hK2 hP hD hS => ?_)
  have ec : cA = y 3 := n_cls3 hK2
  subst ec
  rw [n_pl (f := fun _ => .inl (y 1, 12, .inl (fun _ => 0))) r] at hP hD
  have hP : va_P D vwCl ((h0, .inr (5, [.null])) :: (q, .inl (y 3, 12, .inr (.inr (.inr (.inr (fun i => if i < 12 then some (r i) else none)))))) :: (List.range 12).map (fun i => (r i, .inl (y 1, 12, .inl (fun _ => 0))))) H := hP
  have hD : va_D A ((h0, .inr (5, [.null])) :: (q, .inl (y 3, 12, .inr (.inr (.inr (.inr (fun i => if i < 12 then some (r i) else none)))))) :: (List.range 12).map (fun i => (r i, .inl (y 1, 12, .inl (fun _ => 0))))) := hD
  refine W.widen (k := 13) (n := 156) (by omega) (by omega) ?_
  refine va_putF (D := D) (ci := 5) (v := .ref q) (ty := .array (.array .int)) (C := RX6) (T := TX6) (N := 1) hx hb hts wu_X6 tyX6 tyX6_ok nmX6 hown hK hP hD hS 0 rfl rfl 0 (by decide) (hts _ iA_216) (fun _ h9 => h9) rfl hin rfl (by decide +kernel) rfl rfl (Nat.le_of_ble_eq_true rfl) dX6_init_13 (fun H locs hP hD hS => ?_)
  have hP := n_arr 1 hP (a := q) rfl (g := fun i => some (r i)) (fun i hi => if_pos hi)
  have hD := va_D.set (p := 1) (e := .inl (y 3, 12, .inr (.inr (.inr (.inr (fun i => some (r i))))))) hD rfl
  exact W.vret hx hb hr (fun t ht hW => ⟨⟨(fun k => match k with | 0 => q | k + 1 => r k), rfl, trivial, by rw [ht]; exact hP, hD⟩, hS.F ht⟩) hS.2.2 dX6_init_16
set_option maxHeartbeats 4000000 in
set_option maxRecDepth 100000 in
theorem nX9_init (l : Launch) (D : va_G) (y : nC) (h0 sz : Nat) : nMet (S := (Nat → Nat) × (Nat → Nat) × (Nat → Nat) × (Nat × (Nat → Nat)) × Nat × (Nat × Nat) × (Nat → Nat) × Nat) l yX9_init (wsM yX9_init cX9_init 1 none) ({ frames := 4, cells := 69, slots := 504, locals := 100 } : Room) D y h0 sz (.inr (8, [.null, .null, .null, .null, .null, .null, .null, .null, .null, .int 0])) (fun u => (h0, .inr (8, [.ref (u.1 0), .ref (u.1 1), .ref (u.1 2), .ref (u.1 3), .ref (u.1 4), .ref (u.1 5), .ref (u.1 6), .ref (u.1 7), .ref (u.1 8), .int 0])) :: ((rowW y (u.1 0) u.2.1 : va_W) ++ (rowW y (u.1 1) u.2.2.1 : va_W) ++ ((((u.1 2), .inr (3, [.ref u.2.2.2.1.1])) :: rowW y u.2.2.2.1.1 u.2.2.2.1.2) : va_W) ++ ([((u.1 3), .inr (1, [.ref u.2.2.2.2.1, .int 0])), (u.2.2.2.2.1, .inl (y 0, 64, .inl (fun _ => 0)))] : va_W) ++ ([((u.1 4), .inr (6, [.int 0, .int 0, .int 0, .int 0, .int 0, .int 0]))] : va_W) ++ ([((u.1 5), .inr (2, [.ref u.2.2.2.2.2.1.1, .ref u.2.2.2.2.2.1.2, .int 0])), (u.2.2.2.2.2.1.1, .inl (y 1, 6, .inl (fun _ => 0))), (u.2.2.2.2.2.1.2, .inl (y 1, 6, .inl (fun _ => 0)))] : va_W) ++ (searchW y (u.1 6) u.2.2.2.2.2.2.1 : va_W) ++ ([((u.1 7), .inr (7, [.ref u.2.2.2.2.2.2.2])), (u.2.2.2.2.2.2.2, .inl (y 1, 12, .inl (fun _ => 0)))] : va_W) ++ ([((u.1 8), .inl (y 1, 6, .inl (fun _ => 0)))] : va_W))) 69 504 := by
  unfold nMet nQc
  refine Met.ofW (cc := cX9_init) (maxL := 1) (ret := none) (by decide) rfl ?_
  intro p e s m args below meth c s₁ B hml hv
  obtain ⟨rfl, hsz, hP, hK, hN⟩ := hv
  have hx := B.exec
  have hb := B.bytes
  have hr := B.returns
  have hts0 := atoms_spec (ws := wsM yX9_init cX9_init 1 none) B.pre
  have hts : ∀ w ∈ wsA, w.before ([Value.ref h0] : List Value).toArray s = true := fun w hw => hts0 w (List.mem_cons_of_mem _ hw)
  have hown : s.vm.findClass RX9 = some m.cls := findClass_of_methodNamed B.named
  have hin : meth.name = "<init>" := (name_of_methodNamed B.named B.method).1
  subst hsz
  have hD := (n_one h0 (.inr (8, [.null, .null, .null, .null, .null, .null, .null, .null, .null, .int 0]))).self (sz := s.heap.size)
  generalize hAe : va_A [(h0, .inr (8, [.null, .null, .null, .null, .null, .null, .null, .null, .null, .int 0]))] s.heap.size = A at hD ⊢
  have hA : ∀ q : Nat, s.heap.size ≤ q → A q := fun q h => by rw [← hAe]; exact Or.inr h
  have hS : va_S A s.heap s.heap [] := va_S.rf
  have hl := lv_entry ([.ref h0]) (n := 1) (Nat.le_of_ble_eq_true rfl)
  rw [lg_entry_eq]
  generalize (lg_sl ([.ref h0]) ++ List.replicate (1 - (lg_sl ([.ref h0])).length) Slot.unset).toArray = ls at hl ⊢
  have hl : lv_has ls 1 [(0, .ref h0)] := hl
  refine lv_aload_n hx hb dX9_init_0 rfl (lv_at hl 0 rfl) ?_
  refine W.objInit hx hb hown (hts _ iA_67) (hts _ iA_68) (hts _ iA_69) rfl (by rw [hml]; exact hl.1) rfl dX9_init_1 (Nat.le_of_ble_eq_true rfl) (Nat.le_of_ble_eq_true rfl) ?_
  refine W.eq (g2 := F0 m 4 ls []) rfl ?_
  refine lv_aload_n hx hb dX9_init_4 rfl (lv_at hl 0 rfl) ?_
  refine va_new (ci := 4) (fs := [.null, .null, .int 0, .int 0]) (C := RX5) (T := TX5) (N := 4) hx hb hts wu_X5 tyX5 tyX5_ok hown (hts _ iA_70) (hts _ iA_71) (hts _ iA_51) hK hP hD hS hA rfl (fun j hj => by rcases (show j = 0 ∨ j = 1 ∨ j = 2 ∨ j = 3 by omega) with rfl | rfl | rfl | rfl <;> rfl) (Nat.le_of_ble_eq_true rfl) (Nat.le_of_ble_eq_true rfl) dX9_init_5 (fun q0 H hP hD hS => ?_)
  have hP : va_P D vwCl ([(h0, .inr (8, [.null, .null, .null, .null, .null, .null, .null, .null, .null, .int 0])), (q0, .inr (4, [.null, .null, .int 0, .int 0]))]) H := hP
  have hD : va_D A ([(h0, .inr (8, [.null, .null, .null, .null, .null, .null, .null, .null, .null, .int 0])), (q0, .inr (4, [.null, .null, .int 0, .int 0]))]) := hD
  refine W.widen (k := 1) (n := 4) (by omega) (by omega) ?_
  refine lv_dup hx hb dX9_init_8 rfl ?_
  have hF := n_free (wr := (([(h0, .inr (8, [.null, .null, .null, .null, .null, .null, .null, .null, .null, .int 0]))]) : va_W)) hD hS hA
  refine va_callv (va_runI (As := []) (rest := [.ref q0, .ref h0]) ⟨hx, hb, hml, hown, hts⟩ (nX5_init l D y q0 H.size) (cwI 0 hts (wgM iA_74) rfl rfl rfl (hts _ iA_51) (hts _ iA_72) (hts _ iA_73) rfl (by decide +kernel) ⟨Nat.le_of_ble_eq_true rfl, Nat.le_of_ble_eq_true rfl⟩) ⟨nPc_blind _ _ _ _ _, fun U hU hW => ⟨rfl, by rw [hU], by rw [hU]; exact n_last (wr := (([(h0, .inr (8, [.null, .null, .null, .null, .null, .null, .null, .null, .null, .int 0]))]) : va_W)) hP, va_K.moved hW.alike hK, nN.warm hW hN⟩⟩ rfl rfl hl.1 rfl (lv_room (Nat.le_of_ble_eq_true rfl)) dX9_init_9 ⟨Nat.le_of_ble_eq_true rfl, Nat.le_of_ble_eq_true rfl⟩) hS (fun x _ h => hF x h) hF (fun u0 t H1 locs ht hvm _ hB hz1 hk1 hS => ?_)
  obtain ⟨hP1, hD1⟩ := hB
  rw [ht] at hP1
  obtain ⟨hP, hD⟩ := n_join (wr := (([(h0, .inr (8, [.null, .null, .null, .null, .null, .null, .null, .null, .null, .int 0]))]) : va_W)) hP hD hk1 hF hP1 hD1
  generalize H1 = H at hP hS ⊢
  have hP : va_P D vwCl ((h0, .inr (8, [.null, .null, .null, .null, .null, .null, .null, .null, .null, .int 0])) :: ((rowW y q0 u0 : va_W))) H := hP
  have hD : va_D A ((h0, .inr (8, [.null, .null, .null, .null, .null, .null, .null, .null, .null, .int 0])) :: ((rowW y q0 u0 : va_W))) := hD
  refine W.widen (k := 15) (n := 80) (by omega) (by omega) ?_
  refine va_putF (D := D) (ci := 8) (v := .ref q0) (ty := .object "OneLampAllOut$Row") (C := RX9) (T := TX9) (N := 10) hx hb hts wu_X9 tyX9 tyX9_ok nmX9 hown hK hP hD hS 0 rfl rfl 0 (by decide) (hts _ iA_231) (fun _ h9 => h9) rfl hin rfl (by decide +kernel) rfl rfl (Nat.le_of_ble_eq_true rfl) dX9_init_12 (fun H locs hP hD hS => ?_)
  have hP : va_P D vwCl ((h0, .inr (8, [.ref q0, .null, .null, .null, .null, .null, .null, .null, .null, .int 0])) :: ((rowW y q0 u0 : va_W))) H := hP
  have hD : va_D A ((h0, .inr (8, [.ref q0, .null, .null, .null, .null, .null, .null, .null, .null, .int 0])) :: ((rowW y q0 u0 : va_W))) := hD
  refine lv_aload_n hx hb dX9_init_15 rfl (lv_at hl 0 rfl) ?_
  refine va_new (ci := 4) (fs := [.null, .null, .int 0, .int 0]) (C := RX5) (T := TX5) (N := 4) hx hb hts wu_X5 tyX5 tyX5_ok hown (hts _ iA_70) (hts _ iA_71) (hts _ iA_51) hK hP hD hS hA rfl (fun j hj => by rcases (show j = 0 ∨ j = 1 ∨ j = 2 ∨ j = 3 by omega) with rfl | rfl | rfl | rfl <;> rfl) (Nat.le_of_ble_eq_true rfl) (Nat.le_of_ble_eq_true rfl) dX9_init_16 (fun q1 H hP hD hS => ?_)
  have hP : va_P D vwCl ((h0, .inr (8, [.ref q0, .null, .null, .null, .null, .null, .null, .null, .null, .int 0])) :: ((rowW y q0 u0 : va_W) ++ ([(q1, .inr (4, [.null, .null, .int 0, .int 0]))] : va_W))) H := hP
  have hD : va_D A ((h0, .inr (8, [.ref q0, .null, .null, .null, .null, .null, .null, .null, .null, .int 0])) :: ((rowW y q0 u0 : va_W) ++ ([(q1, .inr (4, [.null, .null, .int 0, .int 0]))] : va_W))) := hD
  refine W.widen (k := 16) (n := 84) (by omega) (by omega) ?_
  refine lv_dup hx hb dX9_init_19 rfl ?_
  have hF := n_free (wr := (((h0, .inr (8, [.ref q0, .null, .null, .null, .null, .null, .null, .null, .null, .int 0])) :: ((rowW y q0 u0 : va_W))) : va_W)) hD hS hA
  refine va_callv (va_runI (As := []) (rest := [.ref q1, .ref h0]) ⟨hx, hb, hml, hown, hts⟩ (nX5_init l D y q1 H.size) (cwI 0 hts (wgM iA_74) rfl rfl rfl (hts _ iA_51) (hts _ iA_72) (hts _ iA_73) rfl (by decide +kernel) ⟨Nat.le_of_ble_eq_true rfl, Nat.le_of_ble_eq_true rfl⟩) ⟨nPc_blind _ _ _ _ _, fun U hU hW => ⟨rfl, by rw [hU], by rw [hU]; exact n_last (wr := (((h0, .inr (8, [.ref q0, .null, .null, .null, .null, .null, .null, .null, .null, .int 0])) :: ((rowW y q0 u0 : va_W))) : va_W)) hP, va_K.moved hW.alike hK, nN.warm hW hN⟩⟩ rfl rfl hl.1 rfl (lv_room (Nat.le_of_ble_eq_true rfl)) dX9_init_20 ⟨Nat.le_of_ble_eq_true rfl, Nat.le_of_ble_eq_true rfl⟩) hS (fun x _ h => hF x h) hF (fun u1 t H1 locs ht hvm _ hB hz1 hk1 hS => ?_)
  obtain ⟨hP1, hD1⟩ := hB
  rw [ht] at hP1
  obtain ⟨hP, hD⟩ := n_join (wr := (((h0, .inr (8, [.ref q0, .null, .null, .null, .null, .null, .null, .null, .null, .int 0])) :: ((rowW y q0 u0 : va_W))) : va_W)) hP hD hk1 hF hP1 hD1
  generalize H1 = H at hP hS ⊢
  have hP : va_P D vwCl ((h0, .inr (8, [.ref q0, .null, .null, .null, .null, .null, .null, .null, .null, .int 0])) :: ((rowW y q0 u0 : va_W) ++ (rowW y q1 u1 : va_W))) H := hP
  have hD : va_D A ((h0, .inr (8, [.ref q0, .null, .null, .null, .null, .null, .null, .null, .null, .int 0])) :: ((rowW y q0 u0 : va_W) ++ (rowW y q1 u1 : va_W))) := hD
  refine W.widen (k := 30) (n := 160) (by omega) (by omega) ?_
  refine va_putF (D := D) (ci := 8) (v := .ref q1) (ty := .object "OneLampAllOut$Row") (C := RX9) (T := TX9) (N := 10) hx hb hts wu_X9 tyX9 tyX9_ok nmX9 hown hK hP hD hS 0 rfl rfl 1 (by decide) (hts _ iA_232) (fun _ h9 => h9) rfl hin rfl (by decide +kernel) rfl rfl (Nat.le_of_ble_eq_true rfl) dX9_init_23 (fun H locs hP hD hS => ?_)
  have hP : va_P D vwCl ((h0, .inr (8, [.ref q0, .ref q1, .null, .null, .null, .null, .null, .null, .null, .int 0])) :: ((rowW y q0 u0 : va_W) ++ (rowW y q1 u1 : va_W))) H := hP
  have hD : va_D A ((h0, .inr (8, [.ref q0, .ref q1, .null, .null, .null, .null, .null, .null, .null, .int 0])) :: ((rowW y q0 u0 : va_W) ++ (rowW y q1 u1 : va_W))) := hD
  refine lv_aload_n hx hb dX9_init_26 rfl (lv_at hl 0 rfl) ?_
  refine va_new (ci := 3) (fs := [.null]) (C := RX4) (T := TX4) (N := 1) hx hb hts wu_X4 tyX4 tyX4_ok hown (hts _ iA_133) (hts _ iA_134) (hts _ iA_53) hK hP hD hS hA rfl (fun j hj => by rcases (show j = 0 by omega) with rfl <;> rfl) (Nat.le_of_ble_eq_true rfl) (Nat.le_of_ble_eq_true rfl) dX9_init_27 (fun q2 H hP hD hS => ?_)
  have hP : va_P D vwCl ((h0, .inr (8, [.ref q0, .ref q1, .null, .null, .null, .null, .null, .null, .null, .int 0])) :: ((rowW y q0 u0 : va_W) ++ (rowW y q1 u1 : va_W) ++ ([(q2, .inr (3, [.null]))] : va_W))) H := hP
  have hD : va_D A ((h0, .inr (8, [.ref q0, .ref q1, .null, .null, .null, .null, .null, .null, .null, .int 0])) :: ((rowW y q0 u0 : va_W) ++ (rowW y q1 u1 : va_W) ++ ([(q2, .inr (3, [.null]))] : va_W))) := hD
  refine W.widen (k := 31) (n := 161) (by omega) (by omega) ?_
  refine lv_dup hx hb dX9_init_30 rfl ?_
  have hF := n_free (wr := (((h0, .inr (8, [.ref q0, .ref q1, .null, .null, .null, .null, .null, .null, .null, .int 0])) :: ((rowW y q0 u0 : va_W) ++ (rowW y q1 u1 : va_W))) : va_W)) hD hS hA
  refine va_callv (va_runIN (As := []) (rest := [.ref q2, .ref h0]) ⟨hx, hb, hml, hown, hts⟩ (nX4_init l D y q2 H.size) ⟨va_cnB 0 hts (wgM iA_137) rfl rfl rfl hN.1.2.1 (hts _ iA_53) (by decide +kernel) ⟨Nat.le_of_ble_eq_true rfl, Nat.le_of_ble_eq_true rfl⟩, rfl, hts _ iA_136⟩ ⟨nPc_blind _ _ _ _ _, fun U hU hW => ⟨rfl, by rw [hU], by rw [hU]; exact n_last (wr := (((h0, .inr (8, [.ref q0, .ref q1, .null, .null, .null, .null, .null, .null, .null, .int 0])) :: ((rowW y q0 u0 : va_W) ++ (rowW y q1 u1 : va_W))) : va_W)) hP, va_K.moved hW.alike hK, nN.warm hW hN⟩⟩ rfl rfl hl.1 rfl (lv_room (Nat.le_of_ble_eq_true rfl)) dX9_init_31 ⟨Nat.le_of_ble_eq_true rfl, Nat.le_of_ble_eq_true rfl⟩) hS (fun x _ h => hF x h) hF (fun u2 t H1 locs ht hvm _ hB hz1 hk1 hS => ?_)
  obtain ⟨hP1, hD1⟩ := hB
  rw [ht] at hP1
  obtain ⟨hP, hD⟩ := n_join (wr := (((h0, .inr (8, [.ref q0, .ref q1, .null, .null, .null, .null, .null, .null, .null, .int 0])) :: ((rowW y q0 u0 : va_W) ++ (rowW y q1 u1 : va_W))) : va_W)) hP hD hk1 hF hP1 hD1
  generalize H1 = H at hP hS ⊢
  have hP : va_P D vwCl ((h0, .inr (8, [.ref q0, .ref q1, .null, .null, .null, .null, .null, .null, .null, .int 0])) :: ((rowW y q0 u0 : va_W) ++ (rowW y q1 u1 : va_W) ++ (((q2, .inr (3, [.ref u2.1])) :: rowW y u2.1 u2.2) : va_W))) H := hP
  have hD : va_D A ((h0, .inr (8, [.ref q0, .ref q1, .null, .null, .null, .null, .null, .null, .null, .int 0])) :: ((rowW y q0 u0 : va_W) ++ (rowW y q1 u1 : va_W) ++ (((q2, .inr (3, [.ref u2.1])) :: rowW y u2.1 u2.2) : va_W))) := hD
  refine W.widen (k := 46) (n := 241) (by omega) (by omega) ?_
  refine va_putF (D := D) (ci := 8) (v := .ref q2) (ty := .object "OneLampAllOut$Mind") (C := RX9) (T := TX9) (N := 10) hx hb hts wu_X9 tyX9 tyX9_ok nmX9 hown hK hP hD hS 0 rfl rfl 2 (by decide) (hts _ iA_233) (fun _ h9 => h9) rfl hin rfl (by decide +kernel) rfl rfl (Nat.le_of_ble_eq_true rfl) dX9_init_34 (fun H locs hP hD hS => ?_)
  have hP : va_P D vwCl ((h0, .inr (8, [.ref q0, .ref q1, .ref q2, .null, .null, .null, .null, .null, .null, .int 0])) :: ((rowW y q0 u0 : va_W) ++ (rowW y q1 u1 : va_W) ++ (((q2, .inr (3, [.ref u2.1])) :: rowW y u2.1 u2.2) : va_W))) H := hP
  have hD : va_D A ((h0, .inr (8, [.ref q0, .ref q1, .ref q2, .null, .null, .null, .null, .null, .null, .int 0])) :: ((rowW y q0 u0 : va_W) ++ (rowW y q1 u1 : va_W) ++ (((q2, .inr (3, [.ref u2.1])) :: rowW y u2.1 u2.2) : va_W))) := hD
  refine lv_aload_n hx hb dX9_init_37 rfl (lv_at hl 0 rfl) ?_
  refine va_new (ci := 1) (fs := [.null, .int 0]) (C := RX2) (T := TX2) (N := 2) hx hb hts wu_X2 tyX2 tyX2_ok hown (hts _ iA_145) (hts _ iA_146) (hts _ iA_54) hK hP hD hS hA rfl (fun j hj => by rcases (show j = 0 ∨ j = 1 by omega) with rfl | rfl <;> rfl) (Nat.le_of_ble_eq_true rfl) (Nat.le_of_ble_eq_true rfl) dX9_init_38 (fun q3 H hP hD hS => ?_)
  have hP : va_P D vwCl ((h0, .inr (8, [.ref q0, .ref q1, .ref q2, .null, .null, .null, .null, .null, .null, .int 0])) :: ((rowW y q0 u0 : va_W) ++ (rowW y q1 u1 : va_W) ++ (((q2, .inr (3, [.ref u2.1])) :: rowW y u2.1 u2.2) : va_W) ++ ([(q3, .inr (1, [.null, .int 0]))] : va_W))) H := hP
  have hD : va_D A ((h0, .inr (8, [.ref q0, .ref q1, .ref q2, .null, .null, .null, .null, .null, .null, .int 0])) :: ((rowW y q0 u0 : va_W) ++ (rowW y q1 u1 : va_W) ++ (((q2, .inr (3, [.ref u2.1])) :: rowW y u2.1 u2.2) : va_W) ++ ([(q3, .inr (1, [.null, .int 0]))] : va_W))) := hD
  refine W.widen (k := 47) (n := 243) (by omega) (by omega) ?_
  refine lv_dup hx hb dX9_init_41 rfl ?_
  have hF := n_free (wr := (((h0, .inr (8, [.ref q0, .ref q1, .ref q2, .null, .null, .null, .null, .null, .null, .int 0])) :: ((rowW y q0 u0 : va_W) ++ (rowW y q1 u1 : va_W) ++ (((q2, .inr (3, [.ref u2.1])) :: rowW y u2.1 u2.2) : va_W))) : va_W)) hD hS hA
  refine va_callv (va_runIN (As := []) (rest := [.ref q3, .ref h0]) ⟨hx, hb, hml, hown, hts⟩ (nX2_init l D y q3 H.size) ⟨va_cnB 0 hts (wgM iA_149) rfl rfl rfl hN.1.2.2.1 (hts _ iA_54) (by decide +kernel) ⟨Nat.le_of_ble_eq_true rfl, Nat.le_of_ble_eq_true rfl⟩, rfl, hts _ iA_148⟩ ⟨nPc_blind _ _ _ _ _, fun U hU hW => ⟨rfl, by rw [hU], by rw [hU]; exact n_last (wr := (((h0, .inr (8, [.ref q0, .ref q1, .ref q2, .null, .null, .null, .null, .null, .null, .int 0])) :: ((rowW y q0 u0 : va_W) ++ (rowW y q1 u1 : va_W) ++ (((q2, .inr (3, [.ref u2.1])) :: rowW y u2.1 u2.2) : va_W))) : va_W)) hP, va_K.moved hW.alike hK, nN.warm hW hN⟩⟩ rfl rfl hl.1 rfl (lv_room (Nat.le_of_ble_eq_true rfl)) dX9_init_42 ⟨Nat.le_of_ble_eq_true rfl, Nat.le_of_ble_eq_true rfl⟩) hS (fun x _ h => hF x h) hF (fun u3 t H1 locs ht hvm _ hB hz1 hk1 hS => ?_)
  obtain ⟨hP1, hD1⟩ := hB
  rw [ht] at hP1
  obtain ⟨hP, hD⟩ := n_join (wr := (((h0, .inr (8, [.ref q0, .ref q1, .ref q2, .null, .null, .null, .null, .null, .null, .int 0])) :: ((rowW y q0 u0 : va_W) ++ (rowW y q1 u1 : va_W) ++ (((q2, .inr (3, [.ref u2.1])) :: rowW y u2.1 u2.2) : va_W))) : va_W)) hP hD hk1 hF hP1 hD1
  generalize H1 = H at hP hS ⊢
  have hP : va_P D vwCl ((h0, .inr (8, [.ref q0, .ref q1, .ref q2, .null, .null, .null, .null, .null, .null, .int 0])) :: ((rowW y q0 u0 : va_W) ++ (rowW y q1 u1 : va_W) ++ (((q2, .inr (3, [.ref u2.1])) :: rowW y u2.1 u2.2) : va_W) ++ ([(q3, .inr (1, [.ref u3, .int 0])), (u3, .inl (y 0, 64, .inl (fun _ => 0)))] : va_W))) H := hP
  have hD : va_D A ((h0, .inr (8, [.ref q0, .ref q1, .ref q2, .null, .null, .null, .null, .null, .null, .int 0])) :: ((rowW y q0 u0 : va_W) ++ (rowW y q1 u1 : va_W) ++ (((q2, .inr (3, [.ref u2.1])) :: rowW y u2.1 u2.2) : va_W) ++ ([(q3, .inr (1, [.ref u3, .int 0])), (u3, .inl (y 0, 64, .inl (fun _ => 0)))] : va_W))) := hD
  refine W.widen (k := 48) (n := 307) (by omega) (by omega) ?_
  refine va_putF (D := D) (ci := 8) (v := .ref q3) (ty := .object "OneLampAllOut$Letters") (C := RX9) (T := TX9) (N := 10) hx hb hts wu_X9 tyX9 tyX9_ok nmX9 hown hK hP hD hS 0 rfl rfl 3 (by decide) (hts _ iA_234) (fun _ h9 => h9) rfl hin rfl (by decide +kernel) rfl rfl (Nat.le_of_ble_eq_true rfl) dX9_init_45 (fun H locs hP hD hS => ?_)
  have hP : va_P D vwCl ((h0, .inr (8, [.ref q0, .ref q1, .ref q2, .ref q3, .null, .null, .null, .null, .null, .int 0])) :: ((rowW y q0 u0 : va_W) ++ (rowW y q1 u1 : va_W) ++ (((q2, .inr (3, [.ref u2.1])) :: rowW y u2.1 u2.2) : va_W) ++ ([(q3, .inr (1, [.ref u3, .int 0])), (u3, .inl (y 0, 64, .inl (fun _ => 0)))] : va_W))) H := hP
  have hD : va_D A ((h0, .inr (8, [.ref q0, .ref q1, .ref q2, .ref q3, .null, .null, .null, .null, .null, .int 0])) :: ((rowW y q0 u0 : va_W) ++ (rowW y q1 u1 : va_W) ++ (((q2, .inr (3, [.ref u2.1])) :: rowW y u2.1 u2.2) : va_W) ++ ([(q3, .inr (1, [.ref u3, .int 0])), (u3, .inl (y 0, 64, .inl (fun _ => 0)))] : va_W))) := hD
  refine lv_aload_n hx hb dX9_init_48 rfl (lv_at hl 0 rfl) ?_
  refine va_new (ci := 6) (fs := [.int 0, .int 0, .int 0, .int 0, .int 0, .int 0]) (C := RX7) (T := TX7) (N := 6) hx hb hts wu_X7 tyX7 tyX7_ok hown (hts _ iA_160) (hts _ iA_161) (hts _ iA_55) hK hP hD hS hA rfl (fun j hj => by rcases (show j = 0 ∨ j = 1 ∨ j = 2 ∨ j = 3 ∨ j = 4 ∨ j = 5 by omega) with rfl | rfl | rfl | rfl | rfl | rfl <;> rfl) (Nat.le_of_ble_eq_true rfl) (Nat.le_of_ble_eq_true rfl) dX9_init_49 (fun q4 H hP hD hS => ?_)
  have hP : va_P D vwCl ((h0, .inr (8, [.ref q0, .ref q1, .ref q2, .ref q3, .null, .null, .null, .null, .null, .int 0])) :: ((rowW y q0 u0 : va_W) ++ (rowW y q1 u1 : va_W) ++ (((q2, .inr (3, [.ref u2.1])) :: rowW y u2.1 u2.2) : va_W) ++ ([(q3, .inr (1, [.ref u3, .int 0])), (u3, .inl (y 0, 64, .inl (fun _ => 0)))] : va_W) ++ ([(q4, .inr (6, [.int 0, .int 0, .int 0, .int 0, .int 0, .int 0]))] : va_W))) H := hP
  have hD : va_D A ((h0, .inr (8, [.ref q0, .ref q1, .ref q2, .ref q3, .null, .null, .null, .null, .null, .int 0])) :: ((rowW y q0 u0 : va_W) ++ (rowW y q1 u1 : va_W) ++ (((q2, .inr (3, [.ref u2.1])) :: rowW y u2.1 u2.2) : va_W) ++ ([(q3, .inr (1, [.ref u3, .int 0])), (u3, .inl (y 0, 64, .inl (fun _ => 0)))] : va_W) ++ ([(q4, .inr (6, [.int 0, .int 0, .int 0, .int 0, .int 0, .int 0]))] : va_W))) := hD
  refine W.widen (k := 49) (n := 313) (by omega) (by omega) ?_
  refine lv_dup hx hb dX9_init_52 rfl ?_
  have hF := n_free (wr := (((h0, .inr (8, [.ref q0, .ref q1, .ref q2, .ref q3, .null, .null, .null, .null, .null, .int 0])) :: ((rowW y q0 u0 : va_W) ++ (rowW y q1 u1 : va_W) ++ (((q2, .inr (3, [.ref u2.1])) :: rowW y u2.1 u2.2) : va_W) ++ ([(q3, .inr (1, [.ref u3, .int 0])), (u3, .inl (y 0, 64, .inl (fun _ => 0)))] : va_W))) : va_W)) hD hS hA
  refine va_callv (va_runIN (As := []) (rest := [.ref q4, .ref h0]) ⟨hx, hb, hml, hown, hts⟩ (nX7_init l D y q4 H.size) ⟨va_cnB 0 hts (wgM iA_164) rfl rfl rfl hN.1.2.2.2 (hts _ iA_55) (by decide +kernel) ⟨Nat.le_of_ble_eq_true rfl, Nat.le_of_ble_eq_true rfl⟩, rfl, hts _ iA_163⟩ ⟨nPc_blind _ _ _ _ _, fun U hU hW => ⟨rfl, by rw [hU], by rw [hU]; exact n_last (wr := (((h0, .inr (8, [.ref q0, .ref q1, .ref q2, .ref q3, .null, .null, .null, .null, .null, .int 0])) :: ((rowW y q0 u0 : va_W) ++ (rowW y q1 u1 : va_W) ++ (((q2, .inr (3, [.ref u2.1])) :: rowW y u2.1 u2.2) : va_W) ++ ([(q3, .inr (1, [.ref u3, .int 0])), (u3, .inl (y 0, 64, .inl (fun _ => 0)))] : va_W))) : va_W)) hP, va_K.moved hW.alike hK, nN.warm hW hN⟩⟩ rfl rfl hl.1 rfl (lv_room (Nat.le_of_ble_eq_true rfl)) dX9_init_53 ⟨Nat.le_of_ble_eq_true rfl, Nat.le_of_ble_eq_true rfl⟩) hS (fun x _ h => hF x h) hF (fun u4 t H1 locs ht hvm _ hB hz1 hk1 hS => ?_)
  obtain ⟨hP1, hD1⟩ := hB
  rw [ht] at hP1
  obtain ⟨hP, hD⟩ := n_join (wr := (((h0, .inr (8, [.ref q0, .ref q1, .ref q2, .ref q3, .null, .null, .null, .null, .null, .int 0])) :: ((rowW y q0 u0 : va_W) ++ (rowW y q1 u1 : va_W) ++ (((q2, .inr (3, [.ref u2.1])) :: rowW y u2.1 u2.2) : va_W) ++ ([(q3, .inr (1, [.ref u3, .int 0])), (u3, .inl (y 0, 64, .inl (fun _ => 0)))] : va_W))) : va_W)) hP hD hk1 hF hP1 hD1
  generalize H1 = H at hP hS ⊢
  have hP : va_P D vwCl ((h0, .inr (8, [.ref q0, .ref q1, .ref q2, .ref q3, .null, .null, .null, .null, .null, .int 0])) :: ((rowW y q0 u0 : va_W) ++ (rowW y q1 u1 : va_W) ++ (((q2, .inr (3, [.ref u2.1])) :: rowW y u2.1 u2.2) : va_W) ++ ([(q3, .inr (1, [.ref u3, .int 0])), (u3, .inl (y 0, 64, .inl (fun _ => 0)))] : va_W) ++ ([(q4, .inr (6, [.int 0, .int 0, .int 0, .int 0, .int 0, .int 0]))] : va_W))) H := hP
  have hD : va_D A ((h0, .inr (8, [.ref q0, .ref q1, .ref q2, .ref q3, .null, .null, .null, .null, .null, .int 0])) :: ((rowW y q0 u0 : va_W) ++ (rowW y q1 u1 : va_W) ++ (((q2, .inr (3, [.ref u2.1])) :: rowW y u2.1 u2.2) : va_W) ++ ([(q3, .inr (1, [.ref u3, .int 0])), (u3, .inl (y 0, 64, .inl (fun _ => 0)))] : va_W) ++ ([(q4, .inr (6, [.int 0, .int 0, .int 0, .int 0, .int 0, .int 0]))] : va_W))) := hD
  refine W.widen (k := 49) (n := 313) (by omega) (by omega) ?_
  refine va_putF (D := D) (ci := 8) (v := .ref q4) (ty := .object "OneLampAllOut$Statement") (C := RX9) (T := TX9) (N := 10) hx hb hts wu_X9 tyX9 tyX9_ok nmX9 hown hK hP hD hS 0 rfl rfl 4 (by decide) (hts _ iA_235) (fun _ h9 => h9) rfl hin rfl (by decide +kernel) rfl rfl (Nat.le_of_ble_eq_true rfl) dX9_init_56 (fun H locs hP hD hS => ?_)
  have hP : va_P D vwCl ((h0, .inr (8, [.ref q0, .ref q1, .ref q2, .ref q3, .ref q4, .null, .null, .null, .null, .int 0])) :: ((rowW y q0 u0 : va_W) ++ (rowW y q1 u1 : va_W) ++ (((q2, .inr (3, [.ref u2.1])) :: rowW y u2.1 u2.2) : va_W) ++ ([(q3, .inr (1, [.ref u3, .int 0])), (u3, .inl (y 0, 64, .inl (fun _ => 0)))] : va_W) ++ ([(q4, .inr (6, [.int 0, .int 0, .int 0, .int 0, .int 0, .int 0]))] : va_W))) H := hP
  have hD : va_D A ((h0, .inr (8, [.ref q0, .ref q1, .ref q2, .ref q3, .ref q4, .null, .null, .null, .null, .int 0])) :: ((rowW y q0 u0 : va_W) ++ (rowW y q1 u1 : va_W) ++ (((q2, .inr (3, [.ref u2.1])) :: rowW y u2.1 u2.2) : va_W) ++ ([(q3, .inr (1, [.ref u3, .int 0])), (u3, .inl (y 0, 64, .inl (fun _ => 0)))] : va_W) ++ ([(q4, .inr (6, [.int 0, .int 0, .int 0, .int 0, .int 0, .int 0]))] : va_W))) := hD
  refine lv_aload_n hx hb dX9_init_59 rfl (lv_at hl 0 rfl) ?_
  refine va_new (ci := 2) (fs := [.null, .null, .int 0]) (C := RX3) (T := TX3) (N := 3) hx hb hts wu_X3 tyX3 tyX3_ok hown (hts _ iA_191) (hts _ iA_192) (hts _ iA_56) hK hP hD hS hA rfl (fun j hj => by rcases (show j = 0 ∨ j = 1 ∨ j = 2 by omega) with rfl | rfl | rfl <;> rfl) (Nat.le_of_ble_eq_true rfl) (Nat.le_of_ble_eq_true rfl) dX9_init_60 (fun q5 H hP hD hS => ?_)
  have hP : va_P D vwCl ((h0, .inr (8, [.ref q0, .ref q1, .ref q2, .ref q3, .ref q4, .null, .null, .null, .null, .int 0])) :: ((rowW y q0 u0 : va_W) ++ (rowW y q1 u1 : va_W) ++ (((q2, .inr (3, [.ref u2.1])) :: rowW y u2.1 u2.2) : va_W) ++ ([(q3, .inr (1, [.ref u3, .int 0])), (u3, .inl (y 0, 64, .inl (fun _ => 0)))] : va_W) ++ ([(q4, .inr (6, [.int 0, .int 0, .int 0, .int 0, .int 0, .int 0]))] : va_W) ++ ([(q5, .inr (2, [.null, .null, .int 0]))] : va_W))) H := hP
  have hD : va_D A ((h0, .inr (8, [.ref q0, .ref q1, .ref q2, .ref q3, .ref q4, .null, .null, .null, .null, .int 0])) :: ((rowW y q0 u0 : va_W) ++ (rowW y q1 u1 : va_W) ++ (((q2, .inr (3, [.ref u2.1])) :: rowW y u2.1 u2.2) : va_W) ++ ([(q3, .inr (1, [.ref u3, .int 0])), (u3, .inl (y 0, 64, .inl (fun _ => 0)))] : va_W) ++ ([(q4, .inr (6, [.int 0, .int 0, .int 0, .int 0, .int 0, .int 0]))] : va_W) ++ ([(q5, .inr (2, [.null, .null, .int 0]))] : va_W))) := hD
  refine W.widen (k := 50) (n := 316) (by omega) (by omega) ?_
  refine lv_dup hx hb dX9_init_63 rfl ?_
  have hF := n_free (wr := (((h0, .inr (8, [.ref q0, .ref q1, .ref q2, .ref q3, .ref q4, .null, .null, .null, .null, .int 0])) :: ((rowW y q0 u0 : va_W) ++ (rowW y q1 u1 : va_W) ++ (((q2, .inr (3, [.ref u2.1])) :: rowW y u2.1 u2.2) : va_W) ++ ([(q3, .inr (1, [.ref u3, .int 0])), (u3, .inl (y 0, 64, .inl (fun _ => 0)))] : va_W) ++ ([(q4, .inr (6, [.int 0, .int 0, .int 0, .int 0, .int 0, .int 0]))] : va_W))) : va_W)) hD hS hA
  refine va_callv (va_runIN (As := []) (rest := [.ref q5, .ref h0]) ⟨hx, hb, hml, hown, hts⟩ (nX3_init l D y q5 H.size) ⟨va_cnB 0 hts (wgM iA_195) rfl rfl rfl hN.2.1.1 (hts _ iA_56) (by decide +kernel) ⟨Nat.le_of_ble_eq_true rfl, Nat.le_of_ble_eq_true rfl⟩, rfl, hts _ iA_194⟩ ⟨nPc_blind _ _ _ _ _, fun U hU hW => ⟨rfl, by rw [hU], by rw [hU]; exact n_last (wr := (((h0, .inr (8, [.ref q0, .ref q1, .ref q2, .ref q3, .ref q4, .null, .null, .null, .null, .int 0])) :: ((rowW y q0 u0 : va_W) ++ (rowW y q1 u1 : va_W) ++ (((q2, .inr (3, [.ref u2.1])) :: rowW y u2.1 u2.2) : va_W) ++ ([(q3, .inr (1, [.ref u3, .int 0])), (u3, .inl (y 0, 64, .inl (fun _ => 0)))] : va_W) ++ ([(q4, .inr (6, [.int 0, .int 0, .int 0, .int 0, .int 0, .int 0]))] : va_W))) : va_W)) hP, va_K.moved hW.alike hK, nN.warm hW hN⟩⟩ rfl rfl hl.1 rfl (lv_room (Nat.le_of_ble_eq_true rfl)) dX9_init_64 ⟨Nat.le_of_ble_eq_true rfl, Nat.le_of_ble_eq_true rfl⟩) hS (fun x _ h => hF x h) hF (fun u5 t H1 locs ht hvm _ hB hz1 hk1 hS => ?_)
  obtain ⟨hP1, hD1⟩ := hB
  rw [ht] at hP1
  obtain ⟨hP, hD⟩ := n_join (wr := (((h0, .inr (8, [.ref q0, .ref q1, .ref q2, .ref q3, .ref q4, .null, .null, .null, .null, .int 0])) :: ((rowW y q0 u0 : va_W) ++ (rowW y q1 u1 : va_W) ++ (((q2, .inr (3, [.ref u2.1])) :: rowW y u2.1 u2.2) : va_W) ++ ([(q3, .inr (1, [.ref u3, .int 0])), (u3, .inl (y 0, 64, .inl (fun _ => 0)))] : va_W) ++ ([(q4, .inr (6, [.int 0, .int 0, .int 0, .int 0, .int 0, .int 0]))] : va_W))) : va_W)) hP hD hk1 hF hP1 hD1
  generalize H1 = H at hP hS ⊢
  have hP : va_P D vwCl ((h0, .inr (8, [.ref q0, .ref q1, .ref q2, .ref q3, .ref q4, .null, .null, .null, .null, .int 0])) :: ((rowW y q0 u0 : va_W) ++ (rowW y q1 u1 : va_W) ++ (((q2, .inr (3, [.ref u2.1])) :: rowW y u2.1 u2.2) : va_W) ++ ([(q3, .inr (1, [.ref u3, .int 0])), (u3, .inl (y 0, 64, .inl (fun _ => 0)))] : va_W) ++ ([(q4, .inr (6, [.int 0, .int 0, .int 0, .int 0, .int 0, .int 0]))] : va_W) ++ ([(q5, .inr (2, [.ref u5.1, .ref u5.2, .int 0])), (u5.1, .inl (y 1, 6, .inl (fun _ => 0))), (u5.2, .inl (y 1, 6, .inl (fun _ => 0)))] : va_W))) H := hP
  have hD : va_D A ((h0, .inr (8, [.ref q0, .ref q1, .ref q2, .ref q3, .ref q4, .null, .null, .null, .null, .int 0])) :: ((rowW y q0 u0 : va_W) ++ (rowW y q1 u1 : va_W) ++ (((q2, .inr (3, [.ref u2.1])) :: rowW y u2.1 u2.2) : va_W) ++ ([(q3, .inr (1, [.ref u3, .int 0])), (u3, .inl (y 0, 64, .inl (fun _ => 0)))] : va_W) ++ ([(q4, .inr (6, [.int 0, .int 0, .int 0, .int 0, .int 0, .int 0]))] : va_W) ++ ([(q5, .inr (2, [.ref u5.1, .ref u5.2, .int 0])), (u5.1, .inl (y 1, 6, .inl (fun _ => 0))), (u5.2, .inl (y 1, 6, .inl (fun _ => 0)))] : va_W))) := hD
  refine W.widen (k := 52) (n := 328) (by omega) (by omega) ?_
  refine va_putF (D := D) (ci := 8) (v := .ref q5) (ty := .object "OneLampAllOut$Looks") (C := RX9) (T := TX9) (N := 10) hx hb hts wu_X9 tyX9 tyX9_ok nmX9 hown hK hP hD hS 0 rfl rfl 5 (by decide) (hts _ iA_236) (fun _ h9 => h9) rfl hin rfl (by decide +kernel) rfl rfl (Nat.le_of_ble_eq_true rfl) dX9_init_67 (fun H locs hP hD hS => ?_)
  have hP : va_P D vwCl ((h0, .inr (8, [.ref q0, .ref q1, .ref q2, .ref q3, .ref q4, .ref q5, .null, .null, .null, .int 0])) :: ((rowW y q0 u0 : va_W) ++ (rowW y q1 u1 : va_W) ++ (((q2, .inr (3, [.ref u2.1])) :: rowW y u2.1 u2.2) : va_W) ++ ([(q3, .inr (1, [.ref u3, .int 0])), (u3, .inl (y 0, 64, .inl (fun _ => 0)))] : va_W) ++ ([(q4, .inr (6, [.int 0, .int 0, .int 0, .int 0, .int 0, .int 0]))] : va_W) ++ ([(q5, .inr (2, [.ref u5.1, .ref u5.2, .int 0])), (u5.1, .inl (y 1, 6, .inl (fun _ => 0))), (u5.2, .inl (y 1, 6, .inl (fun _ => 0)))] : va_W))) H := hP
  have hD : va_D A ((h0, .inr (8, [.ref q0, .ref q1, .ref q2, .ref q3, .ref q4, .ref q5, .null, .null, .null, .int 0])) :: ((rowW y q0 u0 : va_W) ++ (rowW y q1 u1 : va_W) ++ (((q2, .inr (3, [.ref u2.1])) :: rowW y u2.1 u2.2) : va_W) ++ ([(q3, .inr (1, [.ref u3, .int 0])), (u3, .inl (y 0, 64, .inl (fun _ => 0)))] : va_W) ++ ([(q4, .inr (6, [.int 0, .int 0, .int 0, .int 0, .int 0, .int 0]))] : va_W) ++ ([(q5, .inr (2, [.ref u5.1, .ref u5.2, .int 0])), (u5.1, .inl (y 1, 6, .inl (fun _ => 0))), (u5.2, .inl (y 1, 6, .inl (fun _ => 0)))] : va_W))) := hD
  refine lv_aload_n hx hb dX9_init_70 rfl (lv_at hl 0 rfl) ?_
  refine va_new (ci := 5) (fs := [.null]) (C := RX6) (T := TX6) (N := 1) hx hb hts wu_X6 tyX6 tyX6_ok hown (hts _ iA_208) (hts _ iA_209) (hts _ iA_57) hK hP hD hS hA rfl (fun j hj => by rcases (show j = 0 by omega) with rfl <;> rfl) (Nat.le_of_ble_eq_true rfl) (Nat.le_of_ble_eq_true rfl) dX9_init_71 (fun q6 H hP hD hS => ?_)
  have hP : va_P D vwCl ((h0, .inr (8, [.ref q0, .ref q1, .ref q2, .ref q3, .ref q4, .ref q5, .null, .null, .null, .int 0])) :: ((rowW y q0 u0 : va_W) ++ (rowW y q1 u1 : va_W) ++ (((q2, .inr (3, [.ref u2.1])) :: rowW y u2.1 u2.2) : va_W) ++ ([(q3, .inr (1, [.ref u3, .int 0])), (u3, .inl (y 0, 64, .inl (fun _ => 0)))] : va_W) ++ ([(q4, .inr (6, [.int 0, .int 0, .int 0, .int 0, .int 0, .int 0]))] : va_W) ++ ([(q5, .inr (2, [.ref u5.1, .ref u5.2, .int 0])), (u5.1, .inl (y 1, 6, .inl (fun _ => 0))), (u5.2, .inl (y 1, 6, .inl (fun _ => 0)))] : va_W) ++ ([(q6, .inr (5, [.null]))] : va_W))) H := hP
  have hD : va_D A ((h0, .inr (8, [.ref q0, .ref q1, .ref q2, .ref q3, .ref q4, .ref q5, .null, .null, .null, .int 0])) :: ((rowW y q0 u0 : va_W) ++ (rowW y q1 u1 : va_W) ++ (((q2, .inr (3, [.ref u2.1])) :: rowW y u2.1 u2.2) : va_W) ++ ([(q3, .inr (1, [.ref u3, .int 0])), (u3, .inl (y 0, 64, .inl (fun _ => 0)))] : va_W) ++ ([(q4, .inr (6, [.int 0, .int 0, .int 0, .int 0, .int 0, .int 0]))] : va_W) ++ ([(q5, .inr (2, [.ref u5.1, .ref u5.2, .int 0])), (u5.1, .inl (y 1, 6, .inl (fun _ => 0))), (u5.2, .inl (y 1, 6, .inl (fun _ => 0)))] : va_W) ++ ([(q6, .inr (5, [.null]))] : va_W))) := hD
  refine W.widen (k := 53) (n := 329) (by omega) (by omega) ?_
  refine lv_dup hx hb dX9_init_74 rfl ?_
  have hF := n_free (wr := (((h0, .inr (8, [.ref q0, .ref q1, .ref q2, .ref q3, .ref q4, .ref q5, .null, .null, .null, .int 0])) :: ((rowW y q0 u0 : va_W) ++ (rowW y q1 u1 : va_W) ++ (((q2, .inr (3, [.ref u2.1])) :: rowW y u2.1 u2.2) : va_W) ++ ([(q3, .inr (1, [.ref u3, .int 0])), (u3, .inl (y 0, 64, .inl (fun _ => 0)))] : va_W) ++ ([(q4, .inr (6, [.int 0, .int 0, .int 0, .int 0, .int 0, .int 0]))] : va_W) ++ ([(q5, .inr (2, [.ref u5.1, .ref u5.2, .int 0])), (u5.1, .inl (y 1, 6, .inl (fun _ => 0))), (u5.2, .inl (y 1, 6, .inl (fun _ => 0)))] : va_W))) : va_W)) hD hS hA
  refine va_callv (va_runIN (As := []) (rest := [.ref q6, .ref h0]) ⟨hx, hb, hml, hown, hts⟩ (nX6_init l D y q6 H.size) ⟨va_cnB 0 hts (wgM iA_212) rfl rfl rfl hN.2.1.2.1 (hts _ iA_57) (by decide +kernel) ⟨Nat.le_of_ble_eq_true rfl, Nat.le_of_ble_eq_true rfl⟩, rfl, hts _ iA_211⟩ ⟨nPc_blind _ _ _ _ _, fun U hU hW => ⟨rfl, by rw [hU], by rw [hU]; exact n_last (wr := (((h0, .inr (8, [.ref q0, .ref q1, .ref q2, .ref q3, .ref q4, .ref q5, .null, .null, .null, .int 0])) :: ((rowW y q0 u0 : va_W) ++ (rowW y q1 u1 : va_W) ++ (((q2, .inr (3, [.ref u2.1])) :: rowW y u2.1 u2.2) : va_W) ++ ([(q3, .inr (1, [.ref u3, .int 0])), (u3, .inl (y 0, 64, .inl (fun _ => 0)))] : va_W) ++ ([(q4, .inr (6, [.int 0, .int 0, .int 0, .int 0, .int 0, .int 0]))] : va_W) ++ ([(q5, .inr (2, [.ref u5.1, .ref u5.2, .int 0])), (u5.1, .inl (y 1, 6, .inl (fun _ => 0))), (u5.2, .inl (y 1, 6, .inl (fun _ => 0)))] : va_W))) : va_W)) hP, va_K.moved hW.alike hK, nN.warm hW hN⟩⟩ rfl rfl hl.1 rfl (lv_room (Nat.le_of_ble_eq_true rfl)) dX9_init_75 ⟨Nat.le_of_ble_eq_true rfl, Nat.le_of_ble_eq_true rfl⟩) hS (fun x _ h => hF x h) hF (fun u6 t H1 locs ht hvm _ hB hz1 hk1 hS => ?_)
  obtain ⟨hP1, hD1⟩ := hB
  rw [ht] at hP1
  obtain ⟨hP, hD⟩ := n_join (wr := (((h0, .inr (8, [.ref q0, .ref q1, .ref q2, .ref q3, .ref q4, .ref q5, .null, .null, .null, .int 0])) :: ((rowW y q0 u0 : va_W) ++ (rowW y q1 u1 : va_W) ++ (((q2, .inr (3, [.ref u2.1])) :: rowW y u2.1 u2.2) : va_W) ++ ([(q3, .inr (1, [.ref u3, .int 0])), (u3, .inl (y 0, 64, .inl (fun _ => 0)))] : va_W) ++ ([(q4, .inr (6, [.int 0, .int 0, .int 0, .int 0, .int 0, .int 0]))] : va_W) ++ ([(q5, .inr (2, [.ref u5.1, .ref u5.2, .int 0])), (u5.1, .inl (y 1, 6, .inl (fun _ => 0))), (u5.2, .inl (y 1, 6, .inl (fun _ => 0)))] : va_W))) : va_W)) hP hD hk1 hF hP1 hD1
  generalize H1 = H at hP hS ⊢
  have hP : va_P D vwCl ((h0, .inr (8, [.ref q0, .ref q1, .ref q2, .ref q3, .ref q4, .ref q5, .null, .null, .null, .int 0])) :: ((rowW y q0 u0 : va_W) ++ (rowW y q1 u1 : va_W) ++ (((q2, .inr (3, [.ref u2.1])) :: rowW y u2.1 u2.2) : va_W) ++ ([(q3, .inr (1, [.ref u3, .int 0])), (u3, .inl (y 0, 64, .inl (fun _ => 0)))] : va_W) ++ ([(q4, .inr (6, [.int 0, .int 0, .int 0, .int 0, .int 0, .int 0]))] : va_W) ++ ([(q5, .inr (2, [.ref u5.1, .ref u5.2, .int 0])), (u5.1, .inl (y 1, 6, .inl (fun _ => 0))), (u5.2, .inl (y 1, 6, .inl (fun _ => 0)))] : va_W) ++ (searchW y q6 u6 : va_W))) H := hP
  have hD : va_D A ((h0, .inr (8, [.ref q0, .ref q1, .ref q2, .ref q3, .ref q4, .ref q5, .null, .null, .null, .int 0])) :: ((rowW y q0 u0 : va_W) ++ (rowW y q1 u1 : va_W) ++ (((q2, .inr (3, [.ref u2.1])) :: rowW y u2.1 u2.2) : va_W) ++ ([(q3, .inr (1, [.ref u3, .int 0])), (u3, .inl (y 0, 64, .inl (fun _ => 0)))] : va_W) ++ ([(q4, .inr (6, [.int 0, .int 0, .int 0, .int 0, .int 0, .int 0]))] : va_W) ++ ([(q5, .inr (2, [.ref u5.1, .ref u5.2, .int 0])), (u5.1, .inl (y 1, 6, .inl (fun _ => 0))), (u5.2, .inl (y 1, 6, .inl (fun _ => 0)))] : va_W) ++ (searchW y q6 u6 : va_W))) := hD
  refine W.widen (k := 66) (n := 485) (by omega) (by omega) ?_
  refine va_putF (D := D) (ci := 8) (v := .ref q6) (ty := .object "OneLampAllOut$Search") (C := RX9) (T := TX9) (N := 10) hx hb hts wu_X9 tyX9 tyX9_ok nmX9 hown hK hP hD hS 0 rfl rfl 6 (by decide) (hts _ iA_237) (fun _ h9 => h9) rfl hin rfl (by decide +kernel) rfl rfl (Nat.le_of_ble_eq_true rfl) dX9_init_78 (fun H locs hP hD hS => ?_)
  have hP : va_P D vwCl ((h0, .inr (8, [.ref q0, .ref q1, .ref q2, .ref q3, .ref q4, .ref q5, .ref q6, .null, .null, .int 0])) :: ((rowW y q0 u0 : va_W) ++ (rowW y q1 u1 : va_W) ++ (((q2, .inr (3, [.ref u2.1])) :: rowW y u2.1 u2.2) : va_W) ++ ([(q3, .inr (1, [.ref u3, .int 0])), (u3, .inl (y 0, 64, .inl (fun _ => 0)))] : va_W) ++ ([(q4, .inr (6, [.int 0, .int 0, .int 0, .int 0, .int 0, .int 0]))] : va_W) ++ ([(q5, .inr (2, [.ref u5.1, .ref u5.2, .int 0])), (u5.1, .inl (y 1, 6, .inl (fun _ => 0))), (u5.2, .inl (y 1, 6, .inl (fun _ => 0)))] : va_W) ++ (searchW y q6 u6 : va_W))) H := hP
  have hD : va_D A ((h0, .inr (8, [.ref q0, .ref q1, .ref q2, .ref q3, .ref q4, .ref q5, .ref q6, .null, .null, .int 0])) :: ((rowW y q0 u0 : va_W) ++ (rowW y q1 u1 : va_W) ++ (((q2, .inr (3, [.ref u2.1])) :: rowW y u2.1 u2.2) : va_W) ++ ([(q3, .inr (1, [.ref u3, .int 0])), (u3, .inl (y 0, 64, .inl (fun _ => 0)))] : va_W) ++ ([(q4, .inr (6, [.int 0, .int 0, .int 0, .int 0, .int 0, .int 0]))] : va_W) ++ ([(q5, .inr (2, [.ref u5.1, .ref u5.2, .int 0])), (u5.1, .inl (y 1, 6, .inl (fun _ => 0))), (u5.2, .inl (y 1, 6, .inl (fun _ => 0)))] : va_W) ++ (searchW y q6 u6 : va_W))) := hD
  refine lv_aload_n hx hb dX9_init_81 rfl (lv_at hl 0 rfl) ?_
  refine va_new (ci := 7) (fs := [.null]) (C := RX8) (T := TX8) (N := 1) hx hb hts wu_X8 tyX8 tyX8_ok hown (hts _ iA_220) (hts _ iA_221) (hts _ iA_58) hK hP hD hS hA rfl (fun j hj => by rcases (show j = 0 by omega) with rfl <;> rfl) (Nat.le_of_ble_eq_true rfl) (Nat.le_of_ble_eq_true rfl) dX9_init_82 (fun q7 H hP hD hS => ?_)
  have hP : va_P D vwCl ((h0, .inr (8, [.ref q0, .ref q1, .ref q2, .ref q3, .ref q4, .ref q5, .ref q6, .null, .null, .int 0])) :: ((rowW y q0 u0 : va_W) ++ (rowW y q1 u1 : va_W) ++ (((q2, .inr (3, [.ref u2.1])) :: rowW y u2.1 u2.2) : va_W) ++ ([(q3, .inr (1, [.ref u3, .int 0])), (u3, .inl (y 0, 64, .inl (fun _ => 0)))] : va_W) ++ ([(q4, .inr (6, [.int 0, .int 0, .int 0, .int 0, .int 0, .int 0]))] : va_W) ++ ([(q5, .inr (2, [.ref u5.1, .ref u5.2, .int 0])), (u5.1, .inl (y 1, 6, .inl (fun _ => 0))), (u5.2, .inl (y 1, 6, .inl (fun _ => 0)))] : va_W) ++ (searchW y q6 u6 : va_W) ++ ([(q7, .inr (7, [.null]))] : va_W))) H := hP
  have hD : va_D A ((h0, .inr (8, [.ref q0, .ref q1, .ref q2, .ref q3, .ref q4, .ref q5, .ref q6, .null, .null, .int 0])) :: ((rowW y q0 u0 : va_W) ++ (rowW y q1 u1 : va_W) ++ (((q2, .inr (3, [.ref u2.1])) :: rowW y u2.1 u2.2) : va_W) ++ ([(q3, .inr (1, [.ref u3, .int 0])), (u3, .inl (y 0, 64, .inl (fun _ => 0)))] : va_W) ++ ([(q4, .inr (6, [.int 0, .int 0, .int 0, .int 0, .int 0, .int 0]))] : va_W) ++ ([(q5, .inr (2, [.ref u5.1, .ref u5.2, .int 0])), (u5.1, .inl (y 1, 6, .inl (fun _ => 0))), (u5.2, .inl (y 1, 6, .inl (fun _ => 0)))] : va_W) ++ (searchW y q6 u6 : va_W) ++ ([(q7, .inr (7, [.null]))] : va_W))) := hD
  refine W.widen (k := 67) (n := 486) (by omega) (by omega) ?_
  refine lv_dup hx hb dX9_init_85 rfl ?_
  have hF := n_free (wr := (((h0, .inr (8, [.ref q0, .ref q1, .ref q2, .ref q3, .ref q4, .ref q5, .ref q6, .null, .null, .int 0])) :: ((rowW y q0 u0 : va_W) ++ (rowW y q1 u1 : va_W) ++ (((q2, .inr (3, [.ref u2.1])) :: rowW y u2.1 u2.2) : va_W) ++ ([(q3, .inr (1, [.ref u3, .int 0])), (u3, .inl (y 0, 64, .inl (fun _ => 0)))] : va_W) ++ ([(q4, .inr (6, [.int 0, .int 0, .int 0, .int 0, .int 0, .int 0]))] : va_W) ++ ([(q5, .inr (2, [.ref u5.1, .ref u5.2, .int 0])), (u5.1, .inl (y 1, 6, .inl (fun _ => 0))), (u5.2, .inl (y 1, 6, .inl (fun _ => 0)))] : va_W) ++ (searchW y q6 u6 : va_W))) : va_W)) hD hS hA
  refine va_callv (va_runIN (As := []) (rest := [.ref q7, .ref h0]) ⟨hx, hb, hml, hown, hts⟩ (nX8_init l D y q7 H.size) ⟨va_cnB 0 hts (wgM iA_224) rfl rfl rfl hN.2.1.2.2 (hts _ iA_58) (by decide +kernel) ⟨Nat.le_of_ble_eq_true rfl, Nat.le_of_ble_eq_true rfl⟩, rfl, hts _ iA_223⟩ ⟨nPc_blind _ _ _ _ _, fun U hU hW => ⟨rfl, by rw [hU], by rw [hU]; exact n_last (wr := (((h0, .inr (8, [.ref q0, .ref q1, .ref q2, .ref q3, .ref q4, .ref q5, .ref q6, .null, .null, .int 0])) :: ((rowW y q0 u0 : va_W) ++ (rowW y q1 u1 : va_W) ++ (((q2, .inr (3, [.ref u2.1])) :: rowW y u2.1 u2.2) : va_W) ++ ([(q3, .inr (1, [.ref u3, .int 0])), (u3, .inl (y 0, 64, .inl (fun _ => 0)))] : va_W) ++ ([(q4, .inr (6, [.int 0, .int 0, .int 0, .int 0, .int 0, .int 0]))] : va_W) ++ ([(q5, .inr (2, [.ref u5.1, .ref u5.2, .int 0])), (u5.1, .inl (y 1, 6, .inl (fun _ => 0))), (u5.2, .inl (y 1, 6, .inl (fun _ => 0)))] : va_W) ++ (searchW y q6 u6 : va_W))) : va_W)) hP, va_K.moved hW.alike hK, nN.warm hW hN⟩⟩ rfl rfl hl.1 rfl (lv_room (Nat.le_of_ble_eq_true rfl)) dX9_init_86 ⟨Nat.le_of_ble_eq_true rfl, Nat.le_of_ble_eq_true rfl⟩) hS (fun x _ h => hF x h) hF (fun u7 t H1 locs ht hvm _ hB hz1 hk1 hS => ?_)
  obtain ⟨hP1, hD1⟩ := hB
  rw [ht] at hP1
  obtain ⟨hP, hD⟩ := n_join (wr := (((h0, .inr (8, [.ref q0, .ref q1, .ref q2, .ref q3, .ref q4, .ref q5, .ref q6, .null, .null, .int 0])) :: ((rowW y q0 u0 : va_W) ++ (rowW y q1 u1 : va_W) ++ (((q2, .inr (3, [.ref u2.1])) :: rowW y u2.1 u2.2) : va_W) ++ ([(q3, .inr (1, [.ref u3, .int 0])), (u3, .inl (y 0, 64, .inl (fun _ => 0)))] : va_W) ++ ([(q4, .inr (6, [.int 0, .int 0, .int 0, .int 0, .int 0, .int 0]))] : va_W) ++ ([(q5, .inr (2, [.ref u5.1, .ref u5.2, .int 0])), (u5.1, .inl (y 1, 6, .inl (fun _ => 0))), (u5.2, .inl (y 1, 6, .inl (fun _ => 0)))] : va_W) ++ (searchW y q6 u6 : va_W))) : va_W)) hP hD hk1 hF hP1 hD1
  generalize H1 = H at hP hS ⊢
  have hP : va_P D vwCl ((h0, .inr (8, [.ref q0, .ref q1, .ref q2, .ref q3, .ref q4, .ref q5, .ref q6, .null, .null, .int 0])) :: ((rowW y q0 u0 : va_W) ++ (rowW y q1 u1 : va_W) ++ (((q2, .inr (3, [.ref u2.1])) :: rowW y u2.1 u2.2) : va_W) ++ ([(q3, .inr (1, [.ref u3, .int 0])), (u3, .inl (y 0, 64, .inl (fun _ => 0)))] : va_W) ++ ([(q4, .inr (6, [.int 0, .int 0, .int 0, .int 0, .int 0, .int 0]))] : va_W) ++ ([(q5, .inr (2, [.ref u5.1, .ref u5.2, .int 0])), (u5.1, .inl (y 1, 6, .inl (fun _ => 0))), (u5.2, .inl (y 1, 6, .inl (fun _ => 0)))] : va_W) ++ (searchW y q6 u6 : va_W) ++ ([(q7, .inr (7, [.ref u7])), (u7, .inl (y 1, 12, .inl (fun _ => 0)))] : va_W))) H := hP
  have hD : va_D A ((h0, .inr (8, [.ref q0, .ref q1, .ref q2, .ref q3, .ref q4, .ref q5, .ref q6, .null, .null, .int 0])) :: ((rowW y q0 u0 : va_W) ++ (rowW y q1 u1 : va_W) ++ (((q2, .inr (3, [.ref u2.1])) :: rowW y u2.1 u2.2) : va_W) ++ ([(q3, .inr (1, [.ref u3, .int 0])), (u3, .inl (y 0, 64, .inl (fun _ => 0)))] : va_W) ++ ([(q4, .inr (6, [.int 0, .int 0, .int 0, .int 0, .int 0, .int 0]))] : va_W) ++ ([(q5, .inr (2, [.ref u5.1, .ref u5.2, .int 0])), (u5.1, .inl (y 1, 6, .inl (fun _ => 0))), (u5.2, .inl (y 1, 6, .inl (fun _ => 0)))] : va_W) ++ (searchW y q6 u6 : va_W) ++ ([(q7, .inr (7, [.ref u7])), (u7, .inl (y 1, 12, .inl (fun _ => 0)))] : va_W))) := hD
  refine W.widen (k := 68) (n := 498) (by omega) (by omega) ?_
  refine va_putF (D := D) (ci := 8) (v := .ref q7) (ty := .object "OneLampAllOut$SwapOrder") (C := RX9) (T := TX9) (N := 10) hx hb hts wu_X9 tyX9 tyX9_ok nmX9 hown hK hP hD hS 0 rfl rfl 7 (by decide) (hts _ iA_238) (fun _ h9 => h9) rfl hin rfl (by decide +kernel) rfl rfl (Nat.le_of_ble_eq_true rfl) dX9_init_89 (fun H locs hP hD hS => ?_)
  have hP : va_P D vwCl ((h0, .inr (8, [.ref q0, .ref q1, .ref q2, .ref q3, .ref q4, .ref q5, .ref q6, .ref q7, .null, .int 0])) :: ((rowW y q0 u0 : va_W) ++ (rowW y q1 u1 : va_W) ++ (((q2, .inr (3, [.ref u2.1])) :: rowW y u2.1 u2.2) : va_W) ++ ([(q3, .inr (1, [.ref u3, .int 0])), (u3, .inl (y 0, 64, .inl (fun _ => 0)))] : va_W) ++ ([(q4, .inr (6, [.int 0, .int 0, .int 0, .int 0, .int 0, .int 0]))] : va_W) ++ ([(q5, .inr (2, [.ref u5.1, .ref u5.2, .int 0])), (u5.1, .inl (y 1, 6, .inl (fun _ => 0))), (u5.2, .inl (y 1, 6, .inl (fun _ => 0)))] : va_W) ++ (searchW y q6 u6 : va_W) ++ ([(q7, .inr (7, [.ref u7])), (u7, .inl (y 1, 12, .inl (fun _ => 0)))] : va_W))) H := hP
  have hD : va_D A ((h0, .inr (8, [.ref q0, .ref q1, .ref q2, .ref q3, .ref q4, .ref q5, .ref q6, .ref q7, .null, .int 0])) :: ((rowW y q0 u0 : va_W) ++ (rowW y q1 u1 : va_W) ++ (((q2, .inr (3, [.ref u2.1])) :: rowW y u2.1 u2.2) : va_W) ++ ([(q3, .inr (1, [.ref u3, .int 0])), (u3, .inl (y 0, 64, .inl (fun _ => 0)))] : va_W) ++ ([(q4, .inr (6, [.int 0, .int 0, .int 0, .int 0, .int 0, .int 0]))] : va_W) ++ ([(q5, .inr (2, [.ref u5.1, .ref u5.2, .int 0])), (u5.1, .inl (y 1, 6, .inl (fun _ => 0))), (u5.2, .inl (y 1, 6, .inl (fun _ => 0)))] : va_W) ++ (searchW y q6 u6 : va_W) ++ ([(q7, .inr (7, [.ref u7])), (u7, .inl (y 1, 12, .inl (fun _ => 0)))] : va_W))) := hD
  refine lv_aload_n hx hb dX9_init_92 rfl (lv_at hl 0 rfl) ?_
  refine lv_bipush (v := 6) hx hb dX9_init_93 (by decide) ?_
  refine va_newa (atype := .int) (ty := .int) (n := 6) (N' := 6) (a0 := (6, .inl (fun _ => 0))) hx hb (hts _ iA_108) rfl hK hP hD hS hA (fun _ => rfl) (by decide) (by decide) (by decide) (Nat.le_of_ble_eq_true rfl) (Nat.le_of_ble_eq_true rfl) dX9_init_95 (fun q8 cA H hK2 hP hD hS => ?_)
  have ec : cA = y 1 := n_cls1 hK2
  subst ec
  have hP : va_P D vwCl ((h0, .inr (8, [.ref q0, .ref q1, .ref q2, .ref q3, .ref q4, .ref q5, .ref q6, .ref q7, .null, .int 0])) :: ((rowW y q0 u0 : va_W) ++ (rowW y q1 u1 : va_W) ++ (((q2, .inr (3, [.ref u2.1])) :: rowW y u2.1 u2.2) : va_W) ++ ([(q3, .inr (1, [.ref u3, .int 0])), (u3, .inl (y 0, 64, .inl (fun _ => 0)))] : va_W) ++ ([(q4, .inr (6, [.int 0, .int 0, .int 0, .int 0, .int 0, .int 0]))] : va_W) ++ ([(q5, .inr (2, [.ref u5.1, .ref u5.2, .int 0])), (u5.1, .inl (y 1, 6, .inl (fun _ => 0))), (u5.2, .inl (y 1, 6, .inl (fun _ => 0)))] : va_W) ++ (searchW y q6 u6 : va_W) ++ ([(q7, .inr (7, [.ref u7])), (u7, .inl (y 1, 12, .inl (fun _ => 0)))] : va_W) ++ ([(q8, .inl (y 1, 6, .inl (fun _ => 0)))] : va_W))) H := hP
  have hD : va_D A ((h0, .inr (8, [.ref q0, .ref q1, .ref q2, .ref q3, .ref q4, .ref q5, .ref q6, .ref q7, .null, .int 0])) :: ((rowW y q0 u0 : va_W) ++ (rowW y q1 u1 : va_W) ++ (((q2, .inr (3, [.ref u2.1])) :: rowW y u2.1 u2.2) : va_W) ++ ([(q3, .inr (1, [.ref u3, .int 0])), (u3, .inl (y 0, 64, .inl (fun _ => 0)))] : va_W) ++ ([(q4, .inr (6, [.int 0, .int 0, .int 0, .int 0, .int 0, .int 0]))] : va_W) ++ ([(q5, .inr (2, [.ref u5.1, .ref u5.2, .int 0])), (u5.1, .inl (y 1, 6, .inl (fun _ => 0))), (u5.2, .inl (y 1, 6, .inl (fun _ => 0)))] : va_W) ++ (searchW y q6 u6 : va_W) ++ ([(q7, .inr (7, [.ref u7])), (u7, .inl (y 1, 12, .inl (fun _ => 0)))] : va_W) ++ ([(q8, .inl (y 1, 6, .inl (fun _ => 0)))] : va_W))) := hD
  refine W.widen (k := 69) (n := 504) (by omega) (by omega) ?_
  refine va_putF (D := D) (ci := 8) (v := .ref q8) (ty := .array .int) (C := RX9) (T := TX9) (N := 10) hx hb hts wu_X9 tyX9 tyX9_ok nmX9 hown hK hP hD hS 0 rfl rfl 8 (by decide) (hts _ iA_239) (fun _ h9 => h9) rfl hin rfl (by decide +kernel) rfl rfl (Nat.le_of_ble_eq_true rfl) dX9_init_97 (fun H locs hP hD hS => ?_)
  have hP : va_P D vwCl ((h0, .inr (8, [.ref q0, .ref q1, .ref q2, .ref q3, .ref q4, .ref q5, .ref q6, .ref q7, .ref q8, .int 0])) :: ((rowW y q0 u0 : va_W) ++ (rowW y q1 u1 : va_W) ++ (((q2, .inr (3, [.ref u2.1])) :: rowW y u2.1 u2.2) : va_W) ++ ([(q3, .inr (1, [.ref u3, .int 0])), (u3, .inl (y 0, 64, .inl (fun _ => 0)))] : va_W) ++ ([(q4, .inr (6, [.int 0, .int 0, .int 0, .int 0, .int 0, .int 0]))] : va_W) ++ ([(q5, .inr (2, [.ref u5.1, .ref u5.2, .int 0])), (u5.1, .inl (y 1, 6, .inl (fun _ => 0))), (u5.2, .inl (y 1, 6, .inl (fun _ => 0)))] : va_W) ++ (searchW y q6 u6 : va_W) ++ ([(q7, .inr (7, [.ref u7])), (u7, .inl (y 1, 12, .inl (fun _ => 0)))] : va_W) ++ ([(q8, .inl (y 1, 6, .inl (fun _ => 0)))] : va_W))) H := hP
  have hD : va_D A ((h0, .inr (8, [.ref q0, .ref q1, .ref q2, .ref q3, .ref q4, .ref q5, .ref q6, .ref q7, .ref q8, .int 0])) :: ((rowW y q0 u0 : va_W) ++ (rowW y q1 u1 : va_W) ++ (((q2, .inr (3, [.ref u2.1])) :: rowW y u2.1 u2.2) : va_W) ++ ([(q3, .inr (1, [.ref u3, .int 0])), (u3, .inl (y 0, 64, .inl (fun _ => 0)))] : va_W) ++ ([(q4, .inr (6, [.int 0, .int 0, .int 0, .int 0, .int 0, .int 0]))] : va_W) ++ ([(q5, .inr (2, [.ref u5.1, .ref u5.2, .int 0])), (u5.1, .inl (y 1, 6, .inl (fun _ => 0))), (u5.2, .inl (y 1, 6, .inl (fun _ => 0)))] : va_W) ++ (searchW y q6 u6 : va_W) ++ ([(q7, .inr (7, [.ref u7])), (u7, .inl (y 1, 12, .inl (fun _ => 0)))] : va_W) ++ ([(q8, .inl (y 1, 6, .inl (fun _ => 0)))] : va_W))) := hD
  exact W.vret hx hb hr (fun t ht hW => ⟨⟨(fun k => [q0, q1, q2, q3, q4, q5, q6, q7, q8].getD k 0, u0, u1, u2, u3, u5, u6, u7), rfl, trivial, by rw [ht]; exact hP, hD⟩, hS.F ht⟩) hS.2.2 dX9_init_100
set_option maxHeartbeats 4000000 in
set_option maxRecDepth 100000 in
theorem nX10_init (l : Launch) (D : va_G) (y : nC) (h0 sz : Nat) : nMet (S := Nat → Nat) l yX10_init (wsM yX10_init cX10_init 1 none) ({ frames := 1, cells := 20, slots := 1067, locals := 12 } : Room) D y h0 sz (.inr (9, [.null, .null, .null, .null, .null, .null, .null, .int 0, .int 0, .null, .null, .null, .null, .int 0, .int 0, .int 0, .null, .int 0, .int 0, .int 0, .null, .null, .null, .null, .null, .null, .null, .null, .int 0, .int 0, .int 0])) (fun u => [(h0, .inr (9, [.ref (u 0), .ref (u 1), .ref (u 2), .ref (u 3), .ref (u 4), .ref (u 5), .ref (u 6), .int 0, .int 0, .ref (u 7), .ref (u 8), .ref (u 9), .ref (u 10), .int 0, .int 0, .int 0, .ref (u 11), .int 0, .int 0, .int 0, .ref (u 12), .ref (u 13), .ref (u 14), .ref (u 15), .ref (u 16), .ref (u 17), .ref (u 18), .ref (u 19), .int 0, .int 0, .int 0])), (u 0, .inl (y 1, 7, .inl (fun _ => 0))), (u 1, .inl (y 1, 12, .inl (fun _ => 0))), (u 2, .inl (y 1, 12, .inl (fun _ => 0))), (u 3, .inl (y 1, 12, .inl (fun _ => 0))), (u 4, .inl (y 1, 12, .inl (fun _ => 0))), (u 5, .inl (y 1, 12, .inl (fun _ => 0))), (u 6, .inl (y 1, 4, .inl (upd (upd (upd (upd (fun _ => 0) 0 230) 1 3) 2 100) 3 3))), (u 7, .inl (y 1, 64, .inl (fun _ => 0))), (u 8, .inl (y 1, 32, .inl (fun _ => 0))), (u 9, .inl (y 1, 32, .inl (fun _ => 0))), (u 10, .inl (y 1, 96, .inl (fun _ => 0))), (u 11, .inl (y 1, 160, .inl (fun _ => 0))), (u 12, .inl (y 1, 12, .inl (fun _ => 0))), (u 13, .inl (y 1, 144, .inl (fun _ => 0))), (u 14, .inl (y 1, 144, .inl (fun _ => 0))), (u 15, .inl (y 1, 144, .inl (fun _ => 0))), (u 16, .inl (y 1, 144, .inl (fun _ => 0))), (u 17, .inl (y 1, 12, .inl (fun _ => 0))), (u 18, .inl (y 1, 6, .inl (fun _ => 0))), (u 19, .inl (y 1, 6, .inl (fun _ => 0)))]) 20 1067 := by
  unfold nMet nQc
  refine Met.ofW (cc := cX10_init) (maxL := 1) (ret := none) (by decide) rfl ?_
  intro p e s m args below meth c s₁ B hml hv
  obtain ⟨rfl, hsz, hP, hK, hN⟩ := hv
  have hx := B.exec
  have hb := B.bytes
  have hr := B.returns
  have hts0 := atoms_spec (ws := wsM yX10_init cX10_init 1 none) B.pre
  have hts : ∀ w ∈ wsA, w.before ([Value.ref h0] : List Value).toArray s = true := fun w hw => hts0 w (List.mem_cons_of_mem _ hw)
  have hown : s.vm.findClass RX10 = some m.cls := findClass_of_methodNamed B.named
  have hin : meth.name = "<init>" := (name_of_methodNamed B.named B.method).1
  subst hsz
  have hD := (n_one h0 (.inr (9, [.null, .null, .null, .null, .null, .null, .null, .int 0, .int 0, .null, .null, .null, .null, .int 0, .int 0, .int 0, .null, .int 0, .int 0, .int 0, .null, .null, .null, .null, .null, .null, .null, .null, .int 0, .int 0, .int 0]))).self (sz := s.heap.size)
  generalize hAe : va_A [(h0, .inr (9, [.null, .null, .null, .null, .null, .null, .null, .int 0, .int 0, .null, .null, .null, .null, .int 0, .int 0, .int 0, .null, .int 0, .int 0, .int 0, .null, .null, .null, .null, .null, .null, .null, .null, .int 0, .int 0, .int 0]))] s.heap.size = A at hD ⊢
  have hA : ∀ q : Nat, s.heap.size ≤ q → A q := fun q h => by rw [← hAe]; exact Or.inr h
  have hS : va_S A s.heap s.heap [] := va_S.rf
  have hl := lv_entry ([.ref h0]) (n := 1) (Nat.le_of_ble_eq_true rfl)
  rw [lg_entry_eq]
  generalize (lg_sl ([.ref h0]) ++ List.replicate (1 - (lg_sl ([.ref h0])).length) Slot.unset).toArray = ls at hl ⊢
  have hl : lv_has ls 1 [(0, .ref h0)] := hl
  refine lv_aload_n hx hb dX10_init_0 rfl (lv_at hl 0 rfl) ?_
  refine W.objInit hx hb hown (hts _ iA_713) (hts _ iA_68) (hts _ iA_69) rfl (by rw [hml]; exact hl.1) rfl dX10_init_1 (Nat.le_of_ble_eq_true rfl) (Nat.le_of_ble_eq_true rfl) ?_
  refine W.eq (g2 := F0 m 4 ls []) rfl ?_
  refine lv_aload_n hx hb dX10_init_4 rfl (lv_at hl 0 rfl) ?_
  refine lv_bipush (v := 7) hx hb dX10_init_5 (by decide) ?_
  refine va_newa (atype := .int) (ty := .int) (n := 7) (N' := 7) (a0 := (7, .inl (fun _ => 0))) hx hb (hts _ iA_108) rfl hK hP hD hS hA (fun _ => rfl) (by decide) (by decide) (by decide) (Nat.le_of_ble_eq_true rfl) (Nat.le_of_ble_eq_true rfl) dX10_init_7 (fun q0 cA H hK2 hP hD hS => ?_)
  have ec : cA = y 1 := n_cls1 hK2
  subst ec
  have hP : va_P D vwCl ([(h0, .inr (9, [.null, .null, .null, .null, .null, .null, .null, .int 0, .int 0, .null, .null, .null, .null, .int 0, .int 0, .int 0, .null, .int 0, .int 0, .int 0, .null, .null, .null, .null, .null, .null, .null, .null, .int 0, .int 0, .int 0])), (q0, .inl (y 1, 7, .inl (fun _ => 0)))]) H := hP
  have hD : va_D A ([(h0, .inr (9, [.null, .null, .null, .null, .null, .null, .null, .int 0, .int 0, .null, .null, .null, .null, .int 0, .int 0, .int 0, .null, .int 0, .int 0, .int 0, .null, .null, .null, .null, .null, .null, .null, .null, .int 0, .int 0, .int 0])), (q0, .inl (y 1, 7, .inl (fun _ => 0)))]) := hD
  refine W.widen (k := 1) (n := 7) (by omega) (by omega) ?_
  refine va_putF (D := D) (ci := 9) (v := .ref q0) (ty := .array .int) (C := RX10) (T := TX10) (N := 31) hx hb hts wu_X10 tyX10 tyX10_ok nmX10 hown hK hP hD hS 0 rfl rfl 0 (by decide) (hts _ iA_714) (fun _ h9 => h9) rfl hin rfl (by decide +kernel) rfl rfl (Nat.le_of_ble_eq_true rfl) dX10_init_9 (fun H locs hP hD hS => ?_)
  have hP : va_P D vwCl ([(h0, .inr (9, [.ref q0, .null, .null, .null, .null, .null, .null, .int 0, .int 0, .null, .null, .null, .null, .int 0, .int 0, .int 0, .null, .int 0, .int 0, .int 0, .null, .null, .null, .null, .null, .null, .null, .null, .int 0, .int 0, .int 0])), (q0, .inl (y 1, 7, .inl (fun _ => 0)))]) H := hP
  have hD : va_D A ([(h0, .inr (9, [.ref q0, .null, .null, .null, .null, .null, .null, .int 0, .int 0, .null, .null, .null, .null, .int 0, .int 0, .int 0, .null, .int 0, .int 0, .int 0, .null, .null, .null, .null, .null, .null, .null, .null, .int 0, .int 0, .int 0])), (q0, .inl (y 1, 7, .inl (fun _ => 0)))]) := hD
  refine lv_aload_n hx hb dX10_init_12 rfl (lv_at hl 0 rfl) ?_
  refine lv_bipush (v := 12) hx hb dX10_init_13 (by decide) ?_
  refine va_newa (atype := .int) (ty := .int) (n := 12) (N' := 12) (a0 := (12, .inl (fun _ => 0))) hx hb (hts _ iA_108) rfl hK hP hD hS hA (fun _ => rfl) (by decide) (by decide) (by decide) (Nat.le_of_ble_eq_true rfl) (Nat.le_of_ble_eq_true rfl) dX10_init_15 (fun q1 cA H hK2 hP hD hS => ?_)
  have ec : cA = y 1 := n_cls1 hK2
  subst ec
  have hP : va_P D vwCl ([(h0, .inr (9, [.ref q0, .null, .null, .null, .null, .null, .null, .int 0, .int 0, .null, .null, .null, .null, .int 0, .int 0, .int 0, .null, .int 0, .int 0, .int 0, .null, .null, .null, .null, .null, .null, .null, .null, .int 0, .int 0, .int 0])), (q0, .inl (y 1, 7, .inl (fun _ => 0))), (q1, .inl (y 1, 12, .inl (fun _ => 0)))]) H := hP
  have hD : va_D A ([(h0, .inr (9, [.ref q0, .null, .null, .null, .null, .null, .null, .int 0, .int 0, .null, .null, .null, .null, .int 0, .int 0, .int 0, .null, .int 0, .int 0, .int 0, .null, .null, .null, .null, .null, .null, .null, .null, .int 0, .int 0, .int 0])), (q0, .inl (y 1, 7, .inl (fun _ => 0))), (q1, .inl (y 1, 12, .inl (fun _ => 0)))]) := hD
  refine W.widen (k := 2) (n := 19) (by omega) (by omega) ?_
  refine va_putF (D := D) (ci := 9) (v := .ref q1) (ty := .array .int) (C := RX10) (T := TX10) (N := 31) hx hb hts wu_X10 tyX10 tyX10_ok nmX10 hown hK hP hD hS 0 rfl rfl 1 (by decide) (hts _ iA_715) (fun _ h9 => h9) rfl hin rfl (by decide +kernel) rfl rfl (Nat.le_of_ble_eq_true rfl) dX10_init_17 (fun H locs hP hD hS => ?_)
  have hP : va_P D vwCl ([(h0, .inr (9, [.ref q0, .ref q1, .null, .null, .null, .null, .null, .int 0, .int 0, .null, .null, .null, .null, .int 0, .int 0, .int 0, .null, .int 0, .int 0, .int 0, .null, .null, .null, .null, .null, .null, .null, .null, .int 0, .int 0, .int 0])), (q0, .inl (y 1, 7, .inl (fun _ => 0))), (q1, .inl (y 1, 12, .inl (fun _ => 0)))]) H := hP
  have hD : va_D A ([(h0, .inr (9, [.ref q0, .ref q1, .null, .null, .null, .null, .null, .int 0, .int 0, .null, .null, .null, .null, .int 0, .int 0, .int 0, .null, .int 0, .int 0, .int 0, .null, .null, .null, .null, .null, .null, .null, .null, .int 0, .int 0, .int 0])), (q0, .inl (y 1, 7, .inl (fun _ => 0))), (q1, .inl (y 1, 12, .inl (fun _ => 0)))]) := hD
  refine lv_aload_n hx hb dX10_init_20 rfl (lv_at hl 0 rfl) ?_
  refine lv_bipush (v := 12) hx hb dX10_init_21 (by decide) ?_
  refine va_newa (atype := .int) (ty := .int) (n := 12) (N' := 12) (a0 := (12, .inl (fun _ => 0))) hx hb (hts _ iA_108) rfl hK hP hD hS hA (fun _ => rfl) (by decide) (by decide) (by decide) (Nat.le_of_ble_eq_true rfl) (Nat.le_of_ble_eq_true rfl) dX10_init_23 (fun q2 cA H hK2 hP hD hS => ?_)
  have ec : cA = y 1 := n_cls1 hK2
  subst ec
  have hP : va_P D vwCl ([(h0, .inr (9, [.ref q0, .ref q1, .null, .null, .null, .null, .null, .int 0, .int 0, .null, .null, .null, .null, .int 0, .int 0, .int 0, .null, .int 0, .int 0, .int 0, .null, .null, .null, .null, .null, .null, .null, .null, .int 0, .int 0, .int 0])), (q0, .inl (y 1, 7, .inl (fun _ => 0))), (q1, .inl (y 1, 12, .inl (fun _ => 0))), (q2, .inl (y 1, 12, .inl (fun _ => 0)))]) H := hP
  have hD : va_D A ([(h0, .inr (9, [.ref q0, .ref q1, .null, .null, .null, .null, .null, .int 0, .int 0, .null, .null, .null, .null, .int 0, .int 0, .int 0, .null, .int 0, .int 0, .int 0, .null, .null, .null, .null, .null, .null, .null, .null, .int 0, .int 0, .int 0])), (q0, .inl (y 1, 7, .inl (fun _ => 0))), (q1, .inl (y 1, 12, .inl (fun _ => 0))), (q2, .inl (y 1, 12, .inl (fun _ => 0)))]) := hD
  refine W.widen (k := 3) (n := 31) (by omega) (by omega) ?_
  refine va_putF (D := D) (ci := 9) (v := .ref q2) (ty := .array .int) (C := RX10) (T := TX10) (N := 31) hx hb hts wu_X10 tyX10 tyX10_ok nmX10 hown hK hP hD hS 0 rfl rfl 2 (by decide) (hts _ iA_716) (fun _ h9 => h9) rfl hin rfl (by decide +kernel) rfl rfl (Nat.le_of_ble_eq_true rfl) dX10_init_25 (fun H locs hP hD hS => ?_)
  have hP : va_P D vwCl ([(h0, .inr (9, [.ref q0, .ref q1, .ref q2, .null, .null, .null, .null, .int 0, .int 0, .null, .null, .null, .null, .int 0, .int 0, .int 0, .null, .int 0, .int 0, .int 0, .null, .null, .null, .null, .null, .null, .null, .null, .int 0, .int 0, .int 0])), (q0, .inl (y 1, 7, .inl (fun _ => 0))), (q1, .inl (y 1, 12, .inl (fun _ => 0))), (q2, .inl (y 1, 12, .inl (fun _ => 0)))]) H := hP
  have hD : va_D A ([(h0, .inr (9, [.ref q0, .ref q1, .ref q2, .null, .null, .null, .null, .int 0, .int 0, .null, .null, .null, .null, .int 0, .int 0, .int 0, .null, .int 0, .int 0, .int 0, .null, .null, .null, .null, .null, .null, .null, .null, .int 0, .int 0, .int 0])), (q0, .inl (y 1, 7, .inl (fun _ => 0))), (q1, .inl (y 1, 12, .inl (fun _ => 0))), (q2, .inl (y 1, 12, .inl (fun _ => 0)))]) := hD
  refine lv_aload_n hx hb dX10_init_28 rfl (lv_at hl 0 rfl) ?_
  refine lv_bipush (v := 12) hx hb dX10_init_29 (by decide) ?_
  refine va_newa (atype := .int) (ty := .int) (n := 12) (N' := 12) (a0 := (12, .inl (fun _ => 0))) hx hb (hts _ iA_108) rfl hK hP hD hS hA (fun _ => rfl) (by decide) (by decide) (by decide) (Nat.le_of_ble_eq_true rfl) (Nat.le_of_ble_eq_true rfl) dX10_init_31 (fun q3 cA H hK2 hP hD hS => ?_)
  have ec : cA = y 1 := n_cls1 hK2
  subst ec
  have hP : va_P D vwCl ([(h0, .inr (9, [.ref q0, .ref q1, .ref q2, .null, .null, .null, .null, .int 0, .int 0, .null, .null, .null, .null, .int 0, .int 0, .int 0, .null, .int 0, .int 0, .int 0, .null, .null, .null, .null, .null, .null, .null, .null, .int 0, .int 0, .int 0])), (q0, .inl (y 1, 7, .inl (fun _ => 0))), (q1, .inl (y 1, 12, .inl (fun _ => 0))), (q2, .inl (y 1, 12, .inl (fun _ => 0))), (q3, .inl (y 1, 12, .inl (fun _ => 0)))]) H := hP
  have hD : va_D A ([(h0, .inr (9, [.ref q0, .ref q1, .ref q2, .null, .null, .null, .null, .int 0, .int 0, .null, .null, .null, .null, .int 0, .int 0, .int 0, .null, .int 0, .int 0, .int 0, .null, .null, .null, .null, .null, .null, .null, .null, .int 0, .int 0, .int 0])), (q0, .inl (y 1, 7, .inl (fun _ => 0))), (q1, .inl (y 1, 12, .inl (fun _ => 0))), (q2, .inl (y 1, 12, .inl (fun _ => 0))), (q3, .inl (y 1, 12, .inl (fun _ => 0)))]) := hD
  refine W.widen (k := 4) (n := 43) (by omega) (by omega) ?_
  refine va_putF (D := D) (ci := 9) (v := .ref q3) (ty := .array .int) (C := RX10) (T := TX10) (N := 31) hx hb hts wu_X10 tyX10 tyX10_ok nmX10 hown hK hP hD hS 0 rfl rfl 3 (by decide) (hts _ iA_717) (fun _ h9 => h9) rfl hin rfl (by decide +kernel) rfl rfl (Nat.le_of_ble_eq_true rfl) dX10_init_33 (fun H locs hP hD hS => ?_)
  have hP : va_P D vwCl ([(h0, .inr (9, [.ref q0, .ref q1, .ref q2, .ref q3, .null, .null, .null, .int 0, .int 0, .null, .null, .null, .null, .int 0, .int 0, .int 0, .null, .int 0, .int 0, .int 0, .null, .null, .null, .null, .null, .null, .null, .null, .int 0, .int 0, .int 0])), (q0, .inl (y 1, 7, .inl (fun _ => 0))), (q1, .inl (y 1, 12, .inl (fun _ => 0))), (q2, .inl (y 1, 12, .inl (fun _ => 0))), (q3, .inl (y 1, 12, .inl (fun _ => 0)))]) H := hP
  have hD : va_D A ([(h0, .inr (9, [.ref q0, .ref q1, .ref q2, .ref q3, .null, .null, .null, .int 0, .int 0, .null, .null, .null, .null, .int 0, .int 0, .int 0, .null, .int 0, .int 0, .int 0, .null, .null, .null, .null, .null, .null, .null, .null, .int 0, .int 0, .int 0])), (q0, .inl (y 1, 7, .inl (fun _ => 0))), (q1, .inl (y 1, 12, .inl (fun _ => 0))), (q2, .inl (y 1, 12, .inl (fun _ => 0))), (q3, .inl (y 1, 12, .inl (fun _ => 0)))]) := hD
  refine lv_aload_n hx hb dX10_init_36 rfl (lv_at hl 0 rfl) ?_
  refine lv_bipush (v := 12) hx hb dX10_init_37 (by decide) ?_
  refine va_newa (atype := .int) (ty := .int) (n := 12) (N' := 12) (a0 := (12, .inl (fun _ => 0))) hx hb (hts _ iA_108) rfl hK hP hD hS hA (fun _ => rfl) (by decide) (by decide) (by decide) (Nat.le_of_ble_eq_true rfl) (Nat.le_of_ble_eq_true rfl) dX10_init_39 (fun q4 cA H hK2 hP hD hS => ?_)
  have ec : cA = y 1 := n_cls1 hK2
  subst ec
  have hP : va_P D vwCl ([(h0, .inr (9, [.ref q0, .ref q1, .ref q2, .ref q3, .null, .null, .null, .int 0, .int 0, .null, .null, .null, .null, .int 0, .int 0, .int 0, .null, .int 0, .int 0, .int 0, .null, .null, .null, .null, .null, .null, .null, .null, .int 0, .int 0, .int 0])), (q0, .inl (y 1, 7, .inl (fun _ => 0))), (q1, .inl (y 1, 12, .inl (fun _ => 0))), (q2, .inl (y 1, 12, .inl (fun _ => 0))), (q3, .inl (y 1, 12, .inl (fun _ => 0))), (q4, .inl (y 1, 12, .inl (fun _ => 0)))]) H := hP
  have hD : va_D A ([(h0, .inr (9, [.ref q0, .ref q1, .ref q2, .ref q3, .null, .null, .null, .int 0, .int 0, .null, .null, .null, .null, .int 0, .int 0, .int 0, .null, .int 0, .int 0, .int 0, .null, .null, .null, .null, .null, .null, .null, .null, .int 0, .int 0, .int 0])), (q0, .inl (y 1, 7, .inl (fun _ => 0))), (q1, .inl (y 1, 12, .inl (fun _ => 0))), (q2, .inl (y 1, 12, .inl (fun _ => 0))), (q3, .inl (y 1, 12, .inl (fun _ => 0))), (q4, .inl (y 1, 12, .inl (fun _ => 0)))]) := hD
  refine W.widen (k := 5) (n := 55) (by omega) (by omega) ?_
  refine va_putF (D := D) (ci := 9) (v := .ref q4) (ty := .array .int) (C := RX10) (T := TX10) (N := 31) hx hb hts wu_X10 tyX10 tyX10_ok nmX10 hown hK hP hD hS 0 rfl rfl 4 (by decide) (hts _ iA_718) (fun _ h9 => h9) rfl hin rfl (by decide +kernel) rfl rfl (Nat.le_of_ble_eq_true rfl) dX10_init_41 (fun H locs hP hD hS => ?_)
  have hP : va_P D vwCl ([(h0, .inr (9, [.ref q0, .ref q1, .ref q2, .ref q3, .ref q4, .null, .null, .int 0, .int 0, .null, .null, .null, .null, .int 0, .int 0, .int 0, .null, .int 0, .int 0, .int 0, .null, .null, .null, .null, .null, .null, .null, .null, .int 0, .int 0, .int 0])), (q0, .inl (y 1, 7, .inl (fun _ => 0))), (q1, .inl (y 1, 12, .inl (fun _ => 0))), (q2, .inl (y 1, 12, .inl (fun _ => 0))), (q3, .inl (y 1, 12, .inl (fun _ => 0))), (q4, .inl (y 1, 12, .inl (fun _ => 0)))]) H := hP
  have hD : va_D A ([(h0, .inr (9, [.ref q0, .ref q1, .ref q2, .ref q3, .ref q4, .null, .null, .int 0, .int 0, .null, .null, .null, .null, .int 0, .int 0, .int 0, .null, .int 0, .int 0, .int 0, .null, .null, .null, .null, .null, .null, .null, .null, .int 0, .int 0, .int 0])), (q0, .inl (y 1, 7, .inl (fun _ => 0))), (q1, .inl (y 1, 12, .inl (fun _ => 0))), (q2, .inl (y 1, 12, .inl (fun _ => 0))), (q3, .inl (y 1, 12, .inl (fun _ => 0))), (q4, .inl (y 1, 12, .inl (fun _ => 0)))]) := hD
  refine lv_aload_n hx hb dX10_init_44 rfl (lv_at hl 0 rfl) ?_
  refine lv_bipush (v := 12) hx hb dX10_init_45 (by decide) ?_
  refine va_newa (atype := .int) (ty := .int) (n := 12) (N' := 12) (a0 := (12, .inl (fun _ => 0))) hx hb (hts _ iA_108) rfl hK hP hD hS hA (fun _ => rfl) (by decide) (by decide) (by decide) (Nat.le_of_ble_eq_true rfl) (Nat.le_of_ble_eq_true rfl) dX10_init_47 (fun q5 cA H hK2 hP hD hS => ?_)
  have ec : cA = y 1 := n_cls1 hK2
  subst ec
  have hP : va_P D vwCl ([(h0, .inr (9, [.ref q0, .ref q1, .ref q2, .ref q3, .ref q4, .null, .null, .int 0, .int 0, .null, .null, .null, .null, .int 0, .int 0, .int 0, .null, .int 0, .int 0, .int 0, .null, .null, .null, .null, .null, .null, .null, .null, .int 0, .int 0, .int 0])), (q0, .inl (y 1, 7, .inl (fun _ => 0))), (q1, .inl (y 1, 12, .inl (fun _ => 0))), (q2, .inl (y 1, 12, .inl (fun _ => 0))), (q3, .inl (y 1, 12, .inl (fun _ => 0))), (q4, .inl (y 1, 12, .inl (fun _ => 0))), (q5, .inl (y 1, 12, .inl (fun _ => 0)))]) H := hP
  have hD : va_D A ([(h0, .inr (9, [.ref q0, .ref q1, .ref q2, .ref q3, .ref q4, .null, .null, .int 0, .int 0, .null, .null, .null, .null, .int 0, .int 0, .int 0, .null, .int 0, .int 0, .int 0, .null, .null, .null, .null, .null, .null, .null, .null, .int 0, .int 0, .int 0])), (q0, .inl (y 1, 7, .inl (fun _ => 0))), (q1, .inl (y 1, 12, .inl (fun _ => 0))), (q2, .inl (y 1, 12, .inl (fun _ => 0))), (q3, .inl (y 1, 12, .inl (fun _ => 0))), (q4, .inl (y 1, 12, .inl (fun _ => 0))), (q5, .inl (y 1, 12, .inl (fun _ => 0)))]) := hD
  refine W.widen (k := 6) (n := 67) (by omega) (by omega) ?_
  refine va_putF (D := D) (ci := 9) (v := .ref q5) (ty := .array .int) (C := RX10) (T := TX10) (N := 31) hx hb hts wu_X10 tyX10 tyX10_ok nmX10 hown hK hP hD hS 0 rfl rfl 5 (by decide) (hts _ iA_719) (fun _ h9 => h9) rfl hin rfl (by decide +kernel) rfl rfl (Nat.le_of_ble_eq_true rfl) dX10_init_49 (fun H locs hP hD hS => ?_)
  have hP : va_P D vwCl ([(h0, .inr (9, [.ref q0, .ref q1, .ref q2, .ref q3, .ref q4, .ref q5, .null, .int 0, .int 0, .null, .null, .null, .null, .int 0, .int 0, .int 0, .null, .int 0, .int 0, .int 0, .null, .null, .null, .null, .null, .null, .null, .null, .int 0, .int 0, .int 0])), (q0, .inl (y 1, 7, .inl (fun _ => 0))), (q1, .inl (y 1, 12, .inl (fun _ => 0))), (q2, .inl (y 1, 12, .inl (fun _ => 0))), (q3, .inl (y 1, 12, .inl (fun _ => 0))), (q4, .inl (y 1, 12, .inl (fun _ => 0))), (q5, .inl (y 1, 12, .inl (fun _ => 0)))]) H := hP
  have hD : va_D A ([(h0, .inr (9, [.ref q0, .ref q1, .ref q2, .ref q3, .ref q4, .ref q5, .null, .int 0, .int 0, .null, .null, .null, .null, .int 0, .int 0, .int 0, .null, .int 0, .int 0, .int 0, .null, .null, .null, .null, .null, .null, .null, .null, .int 0, .int 0, .int 0])), (q0, .inl (y 1, 7, .inl (fun _ => 0))), (q1, .inl (y 1, 12, .inl (fun _ => 0))), (q2, .inl (y 1, 12, .inl (fun _ => 0))), (q3, .inl (y 1, 12, .inl (fun _ => 0))), (q4, .inl (y 1, 12, .inl (fun _ => 0))), (q5, .inl (y 1, 12, .inl (fun _ => 0)))]) := hD
  refine lv_aload_n hx hb dX10_init_52 rfl (lv_at hl 0 rfl) ?_
  refine lv_iconst (v := 4) hx hb dX10_init_53 (by decide) ?_
  refine va_newa (atype := .int) (ty := .int) (n := 4) (N' := 4) (a0 := (4, .inl (fun _ => 0))) hx hb (hts _ iA_108) rfl hK hP hD hS hA (fun _ => rfl) (by decide) (by decide) (by decide) (Nat.le_of_ble_eq_true rfl) (Nat.le_of_ble_eq_true rfl) dX10_init_54 (fun q6 cA H hK2 hP hD hS => ?_)
  have ec : cA = y 1 := n_cls1 hK2
  subst ec
  have hP : va_P D vwCl ([(h0, .inr (9, [.ref q0, .ref q1, .ref q2, .ref q3, .ref q4, .ref q5, .null, .int 0, .int 0, .null, .null, .null, .null, .int 0, .int 0, .int 0, .null, .int 0, .int 0, .int 0, .null, .null, .null, .null, .null, .null, .null, .null, .int 0, .int 0, .int 0])), (q0, .inl (y 1, 7, .inl (fun _ => 0))), (q1, .inl (y 1, 12, .inl (fun _ => 0))), (q2, .inl (y 1, 12, .inl (fun _ => 0))), (q3, .inl (y 1, 12, .inl (fun _ => 0))), (q4, .inl (y 1, 12, .inl (fun _ => 0))), (q5, .inl (y 1, 12, .inl (fun _ => 0))), (q6, .inl (y 1, 4, .inl (fun _ => 0)))]) H := hP
  have hD : va_D A ([(h0, .inr (9, [.ref q0, .ref q1, .ref q2, .ref q3, .ref q4, .ref q5, .null, .int 0, .int 0, .null, .null, .null, .null, .int 0, .int 0, .int 0, .null, .int 0, .int 0, .int 0, .null, .null, .null, .null, .null, .null, .null, .null, .int 0, .int 0, .int 0])), (q0, .inl (y 1, 7, .inl (fun _ => 0))), (q1, .inl (y 1, 12, .inl (fun _ => 0))), (q2, .inl (y 1, 12, .inl (fun _ => 0))), (q3, .inl (y 1, 12, .inl (fun _ => 0))), (q4, .inl (y 1, 12, .inl (fun _ => 0))), (q5, .inl (y 1, 12, .inl (fun _ => 0))), (q6, .inl (y 1, 4, .inl (fun _ => 0)))]) := hD
  refine W.widen (k := 7) (n := 71) (by omega) (by omega) ?_
  refine lv_dup hx hb dX10_init_56 rfl ?_
  refine lv_iconst (v := 0) hx hb dX10_init_57 (by decide) ?_
  refine lv_sipush (v := 230) hx hb dX10_init_58 (by decide) ?_
  refine va_iast (x := 230) hx hb hK hP hD hS 7 1 rfl rfl (i := 0) (n_in 0 _ (by decide) (by decide)) dX10_init_61 (fun H locs hP hD hS => ?_)
  have hP : va_P D vwCl ([(h0, .inr (9, [.ref q0, .ref q1, .ref q2, .ref q3, .ref q4, .ref q5, .null, .int 0, .int 0, .null, .null, .null, .null, .int 0, .int 0, .int 0, .null, .int 0, .int 0, .int 0, .null, .null, .null, .null, .null, .null, .null, .null, .int 0, .int 0, .int 0])), (q0, .inl (y 1, 7, .inl (fun _ => 0))), (q1, .inl (y 1, 12, .inl (fun _ => 0))), (q2, .inl (y 1, 12, .inl (fun _ => 0))), (q3, .inl (y 1, 12, .inl (fun _ => 0))), (q4, .inl (y 1, 12, .inl (fun _ => 0))), (q5, .inl (y 1, 12, .inl (fun _ => 0))), (q6, .inl (y 1, 4, .inl (upd (fun _ => 0) 0 230)))]) H := hP
  have hD : va_D A ([(h0, .inr (9, [.ref q0, .ref q1, .ref q2, .ref q3, .ref q4, .ref q5, .null, .int 0, .int 0, .null, .null, .null, .null, .int 0, .int 0, .int 0, .null, .int 0, .int 0, .int 0, .null, .null, .null, .null, .null, .null, .null, .null, .int 0, .int 0, .int 0])), (q0, .inl (y 1, 7, .inl (fun _ => 0))), (q1, .inl (y 1, 12, .inl (fun _ => 0))), (q2, .inl (y 1, 12, .inl (fun _ => 0))), (q3, .inl (y 1, 12, .inl (fun _ => 0))), (q4, .inl (y 1, 12, .inl (fun _ => 0))), (q5, .inl (y 1, 12, .inl (fun _ => 0))), (q6, .inl (y 1, 4, .inl (upd (fun _ => 0) 0 230)))]) := hD
  refine lv_dup hx hb dX10_init_62 rfl ?_
  refine lv_iconst (v := 1) hx hb dX10_init_63 (by decide) ?_
  refine lv_iconst (v := 3) hx hb dX10_init_64 (by decide) ?_
  refine va_iast (x := 3) hx hb hK hP hD hS 7 1 rfl rfl (i := 1) (n_in 1 _ (by decide) (by decide)) dX10_init_65 (fun H locs hP hD hS => ?_)
  have hP : va_P D vwCl ([(h0, .inr (9, [.ref q0, .ref q1, .ref q2, .ref q3, .ref q4, .ref q5, .null, .int 0, .int 0, .null, .null, .null, .null, .int 0, .int 0, .int 0, .null, .int 0, .int 0, .int 0, .null, .null, .null, .null, .null, .null, .null, .null, .int 0, .int 0, .int 0])), (q0, .inl (y 1, 7, .inl (fun _ => 0))), (q1, .inl (y 1, 12, .inl (fun _ => 0))), (q2, .inl (y 1, 12, .inl (fun _ => 0))), (q3, .inl (y 1, 12, .inl (fun _ => 0))), (q4, .inl (y 1, 12, .inl (fun _ => 0))), (q5, .inl (y 1, 12, .inl (fun _ => 0))), (q6, .inl (y 1, 4, .inl (upd (upd (fun _ => 0) 0 230) 1 3)))]) H := hP
  have hD : va_D A ([(h0, .inr (9, [.ref q0, .ref q1, .ref q2, .ref q3, .ref q4, .ref q5, .null, .int 0, .int 0, .null, .null, .null, .null, .int 0, .int 0, .int 0, .null, .int 0, .int 0, .int 0, .null, .null, .null, .null, .null, .null, .null, .null, .int 0, .int 0, .int 0])), (q0, .inl (y 1, 7, .inl (fun _ => 0))), (q1, .inl (y 1, 12, .inl (fun _ => 0))), (q2, .inl (y 1, 12, .inl (fun _ => 0))), (q3, .inl (y 1, 12, .inl (fun _ => 0))), (q4, .inl (y 1, 12, .inl (fun _ => 0))), (q5, .inl (y 1, 12, .inl (fun _ => 0))), (q6, .inl (y 1, 4, .inl (upd (upd (fun _ => 0) 0 230) 1 3)))]) := hD
  refine lv_dup hx hb dX10_init_66 rfl ?_
  refine lv_iconst (v := 2) hx hb dX10_init_67 (by decide) ?_
  refine lv_bipush (v := 100) hx hb dX10_init_68 (by decide) ?_
  refine va_iast (x := 100) hx hb hK hP hD hS 7 1 rfl rfl (i := 2) (n_in 2 _ (by decide) (by decide)) dX10_init_70 (fun H locs hP hD hS => ?_)
  have hP : va_P D vwCl ([(h0, .inr (9, [.ref q0, .ref q1, .ref q2, .ref q3, .ref q4, .ref q5, .null, .int 0, .int 0, .null, .null, .null, .null, .int 0, .int 0, .int 0, .null, .int 0, .int 0, .int 0, .null, .null, .null, .null, .null, .null, .null, .null, .int 0, .int 0, .int 0])), (q0, .inl (y 1, 7, .inl (fun _ => 0))), (q1, .inl (y 1, 12, .inl (fun _ => 0))), (q2, .inl (y 1, 12, .inl (fun _ => 0))), (q3, .inl (y 1, 12, .inl (fun _ => 0))), (q4, .inl (y 1, 12, .inl (fun _ => 0))), (q5, .inl (y 1, 12, .inl (fun _ => 0))), (q6, .inl (y 1, 4, .inl (upd (upd (upd (fun _ => 0) 0 230) 1 3) 2 100)))]) H := hP
  have hD : va_D A ([(h0, .inr (9, [.ref q0, .ref q1, .ref q2, .ref q3, .ref q4, .ref q5, .null, .int 0, .int 0, .null, .null, .null, .null, .int 0, .int 0, .int 0, .null, .int 0, .int 0, .int 0, .null, .null, .null, .null, .null, .null, .null, .null, .int 0, .int 0, .int 0])), (q0, .inl (y 1, 7, .inl (fun _ => 0))), (q1, .inl (y 1, 12, .inl (fun _ => 0))), (q2, .inl (y 1, 12, .inl (fun _ => 0))), (q3, .inl (y 1, 12, .inl (fun _ => 0))), (q4, .inl (y 1, 12, .inl (fun _ => 0))), (q5, .inl (y 1, 12, .inl (fun _ => 0))), (q6, .inl (y 1, 4, .inl (upd (upd (upd (fun _ => 0) 0 230) 1 3) 2 100)))]) := hD
  refine lv_dup hx hb dX10_init_71 rfl ?_
  refine lv_iconst (v := 3) hx hb dX10_init_72 (by decide) ?_
  refine lv_iconst (v := 3) hx hb dX10_init_73 (by decide) ?_
  refine va_iast (x := 3) hx hb hK hP hD hS 7 1 rfl rfl (i := 3) (n_in 3 _ (by decide) (by decide)) dX10_init_74 (fun H locs hP hD hS => ?_)
  have hP : va_P D vwCl ([(h0, .inr (9, [.ref q0, .ref q1, .ref q2, .ref q3, .ref q4, .ref q5, .null, .int 0, .int 0, .null, .null, .null, .null, .int 0, .int 0, .int 0, .null, .int 0, .int 0, .int 0, .null, .null, .null, .null, .null, .null, .null, .null, .int 0, .int 0, .int 0])), (q0, .inl (y 1, 7, .inl (fun _ => 0))), (q1, .inl (y 1, 12, .inl (fun _ => 0))), (q2, .inl (y 1, 12, .inl (fun _ => 0))), (q3, .inl (y 1, 12, .inl (fun _ => 0))), (q4, .inl (y 1, 12, .inl (fun _ => 0))), (q5, .inl (y 1, 12, .inl (fun _ => 0))), (q6, .inl (y 1, 4, .inl (upd (upd (upd (upd (fun _ => 0) 0 230) 1 3) 2 100) 3 3)))]) H := hP
  have hD : va_D A ([(h0, .inr (9, [.ref q0, .ref q1, .ref q2, .ref q3, .ref q4, .ref q5, .null, .int 0, .int 0, .null, .null, .null, .null, .int 0, .int 0, .int 0, .null, .int 0, .int 0, .int 0, .null, .null, .null, .null, .null, .null, .null, .null, .int 0, .int 0, .int 0])), (q0, .inl (y 1, 7, .inl (fun _ => 0))), (q1, .inl (y 1, 12, .inl (fun _ => 0))), (q2, .inl (y 1, 12, .inl (fun _ => 0))), (q3, .inl (y 1, 12, .inl (fun _ => 0))), (q4, .inl (y 1, 12, .inl (fun _ => 0))), (q5, .inl (y 1, 12, .inl (fun _ => 0))), (q6, .inl (y 1, 4, .inl (upd (upd (upd (upd (fun _ => 0) 0 230) 1 3) 2 100) 3 3)))]) := hD
  refine va_putF (D := D) (ci := 9) (v := .ref q6) (ty := .array .int) (C := RX10) (T := TX10) (N := 31) hx hb hts wu_X10 tyX10 tyX10_ok nmX10 hown hK hP hD hS 0 rfl rfl 6 (by decide) (hts _ iA_720) (fun _ h9 => h9) rfl hin rfl (by decide +kernel) rfl rfl (Nat.le_of_ble_eq_true rfl) dX10_init_75 (fun H locs hP hD hS => ?_)
  have hP : va_P D vwCl ([(h0, .inr (9, [.ref q0, .ref q1, .ref q2, .ref q3, .ref q4, .ref q5, .ref q6, .int 0, .int 0, .null, .null, .null, .null, .int 0, .int 0, .int 0, .null, .int 0, .int 0, .int 0, .null, .null, .null, .null, .null, .null, .null, .null, .int 0, .int 0, .int 0])), (q0, .inl (y 1, 7, .inl (fun _ => 0))), (q1, .inl (y 1, 12, .inl (fun _ => 0))), (q2, .inl (y 1, 12, .inl (fun _ => 0))), (q3, .inl (y 1, 12, .inl (fun _ => 0))), (q4, .inl (y 1, 12, .inl (fun _ => 0))), (q5, .inl (y 1, 12, .inl (fun _ => 0))), (q6, .inl (y 1, 4, .inl (upd (upd (upd (upd (fun _ => 0) 0 230) 1 3) 2 100) 3 3)))]) H := hP
  have hD : va_D A ([(h0, .inr (9, [.ref q0, .ref q1, .ref q2, .ref q3, .ref q4, .ref q5, .ref q6, .int 0, .int 0, .null, .null, .null, .null, .int 0, .int 0, .int 0, .null, .int 0, .int 0, .int 0, .null, .null, .null, .null, .null, .null, .null, .null, .int 0, .int 0, .int 0])), (q0, .inl (y 1, 7, .inl (fun _ => 0))), (q1, .inl (y 1, 12, .inl (fun _ => 0))), (q2, .inl (y 1, 12, .inl (fun _ => 0))), (q3, .inl (y 1, 12, .inl (fun _ => 0))), (q4, .inl (y 1, 12, .inl (fun _ => 0))), (q5, .inl (y 1, 12, .inl (fun _ => 0))), (q6, .inl (y 1, 4, .inl (upd (upd (upd (upd (fun _ => 0) 0 230) 1 3) 2 100) 3 3)))]) := hD
  refine lv_aload_n hx hb dX10_init_78 rfl (lv_at hl 0 rfl) ?_
  refine lv_bipush (v := 64) hx hb dX10_init_79 (by decide) ?_
  refine va_newa (atype := .int) (ty := .int) (n := 64) (N' := 64) (a0 := (64, .inl (fun _ => 0))) hx hb (hts _ iA_108) rfl hK hP hD hS hA (fun _ => rfl) (by decide) (by decide) (by decide) (Nat.le_of_ble_eq_true rfl) (Nat.le_of_ble_eq_true rfl) dX10_init_81 (fun q7 cA H hK2 hP hD hS => ?_)
  have ec : cA = y 1 := n_cls1 hK2
  subst ec
  have hP : va_P D vwCl ([(h0, .inr (9, [.ref q0, .ref q1, .ref q2, .ref q3, .ref q4, .ref q5, .ref q6, .int 0, .int 0, .null, .null, .null, .null, .int 0, .int 0, .int 0, .null, .int 0, .int 0, .int 0, .null, .null, .null, .null, .null, .null, .null, .null, .int 0, .int 0, .int 0])), (q0, .inl (y 1, 7, .inl (fun _ => 0))), (q1, .inl (y 1, 12, .inl (fun _ => 0))), (q2, .inl (y 1, 12, .inl (fun _ => 0))), (q3, .inl (y 1, 12, .inl (fun _ => 0))), (q4, .inl (y 1, 12, .inl (fun _ => 0))), (q5, .inl (y 1, 12, .inl (fun _ => 0))), (q6, .inl (y 1, 4, .inl (upd (upd (upd (upd (fun _ => 0) 0 230) 1 3) 2 100) 3 3))), (q7, .inl (y 1, 64, .inl (fun _ => 0)))]) H := hP
  have hD : va_D A ([(h0, .inr (9, [.ref q0, .ref q1, .ref q2, .ref q3, .ref q4, .ref q5, .ref q6, .int 0, .int 0, .null, .null, .null, .null, .int 0, .int 0, .int 0, .null, .int 0, .int 0, .int 0, .null, .null, .null, .null, .null, .null, .null, .null, .int 0, .int 0, .int 0])), (q0, .inl (y 1, 7, .inl (fun _ => 0))), (q1, .inl (y 1, 12, .inl (fun _ => 0))), (q2, .inl (y 1, 12, .inl (fun _ => 0))), (q3, .inl (y 1, 12, .inl (fun _ => 0))), (q4, .inl (y 1, 12, .inl (fun _ => 0))), (q5, .inl (y 1, 12, .inl (fun _ => 0))), (q6, .inl (y 1, 4, .inl (upd (upd (upd (upd (fun _ => 0) 0 230) 1 3) 2 100) 3 3))), (q7, .inl (y 1, 64, .inl (fun _ => 0)))]) := hD
  refine W.widen (k := 8) (n := 135) (by omega) (by omega) ?_
  refine va_putF (D := D) (ci := 9) (v := .ref q7) (ty := .array .int) (C := RX10) (T := TX10) (N := 31) hx hb hts wu_X10 tyX10 tyX10_ok nmX10 hown hK hP hD hS 0 rfl rfl 9 (by decide) (hts _ iA_723) (fun _ h9 => h9) rfl hin rfl (by decide +kernel) rfl rfl (Nat.le_of_ble_eq_true rfl) dX10_init_83 (fun H locs hP hD hS => ?_)
  have hP : va_P D vwCl ([(h0, .inr (9, [.ref q0, .ref q1, .ref q2, .ref q3, .ref q4, .ref q5, .ref q6, .int 0, .int 0, .ref q7, .null, .null, .null, .int 0, .int 0, .int 0, .null, .int 0, .int 0, .int 0, .null, .null, .null, .null, .null, .null, .null, .null, .int 0, .int 0, .int 0])), (q0, .inl (y 1, 7, .inl (fun _ => 0))), (q1, .inl (y 1, 12, .inl (fun _ => 0))), (q2, .inl (y 1, 12, .inl (fun _ => 0))), (q3, .inl (y 1, 12, .inl (fun _ => 0))), (q4, .inl (y 1, 12, .inl (fun _ => 0))), (q5, .inl (y 1, 12, .inl (fun _ => 0))), (q6, .inl (y 1, 4, .inl (upd (upd (upd (upd (fun _ => 0) 0 230) 1 3) 2 100) 3 3))), (q7, .inl (y 1, 64, .inl (fun _ => 0)))]) H := hP
  have hD : va_D A ([(h0, .inr (9, [.ref q0, .ref q1, .ref q2, .ref q3, .ref q4, .ref q5, .ref q6, .int 0, .int 0, .ref q7, .null, .null, .null, .int 0, .int 0, .int 0, .null, .int 0, .int 0, .int 0, .null, .null, .null, .null, .null, .null, .null, .null, .int 0, .int 0, .int 0])), (q0, .inl (y 1, 7, .inl (fun _ => 0))), (q1, .inl (y 1, 12, .inl (fun _ => 0))), (q2, .inl (y 1, 12, .inl (fun _ => 0))), (q3, .inl (y 1, 12, .inl (fun _ => 0))), (q4, .inl (y 1, 12, .inl (fun _ => 0))), (q5, .inl (y 1, 12, .inl (fun _ => 0))), (q6, .inl (y 1, 4, .inl (upd (upd (upd (upd (fun _ => 0) 0 230) 1 3) 2 100) 3 3))), (q7, .inl (y 1, 64, .inl (fun _ => 0)))]) := hD
  refine lv_aload_n hx hb dX10_init_86 rfl (lv_at hl 0 rfl) ?_
  refine lv_bipush (v := 32) hx hb dX10_init_87 (by decide) ?_
  refine va_newa (atype := .int) (ty := .int) (n := 32) (N' := 32) (a0 := (32, .inl (fun _ => 0))) hx hb (hts _ iA_108) rfl hK hP hD hS hA (fun _ => rfl) (by decide) (by decide) (by decide) (Nat.le_of_ble_eq_true rfl) (Nat.le_of_ble_eq_true rfl) dX10_init_89 (fun q8 cA H hK2 hP hD hS => ?_)
  have ec : cA = y 1 := n_cls1 hK2
  subst ec
  have hP : va_P D vwCl ([(h0, .inr (9, [.ref q0, .ref q1, .ref q2, .ref q3, .ref q4, .ref q5, .ref q6, .int 0, .int 0, .ref q7, .null, .null, .null, .int 0, .int 0, .int 0, .null, .int 0, .int 0, .int 0, .null, .null, .null, .null, .null, .null, .null, .null, .int 0, .int 0, .int 0])), (q0, .inl (y 1, 7, .inl (fun _ => 0))), (q1, .inl (y 1, 12, .inl (fun _ => 0))), (q2, .inl (y 1, 12, .inl (fun _ => 0))), (q3, .inl (y 1, 12, .inl (fun _ => 0))), (q4, .inl (y 1, 12, .inl (fun _ => 0))), (q5, .inl (y 1, 12, .inl (fun _ => 0))), (q6, .inl (y 1, 4, .inl (upd (upd (upd (upd (fun _ => 0) 0 230) 1 3) 2 100) 3 3))), (q7, .inl (y 1, 64, .inl (fun _ => 0))), (q8, .inl (y 1, 32, .inl (fun _ => 0)))]) H := hP
  have hD : va_D A ([(h0, .inr (9, [.ref q0, .ref q1, .ref q2, .ref q3, .ref q4, .ref q5, .ref q6, .int 0, .int 0, .ref q7, .null, .null, .null, .int 0, .int 0, .int 0, .null, .int 0, .int 0, .int 0, .null, .null, .null, .null, .null, .null, .null, .null, .int 0, .int 0, .int 0])), (q0, .inl (y 1, 7, .inl (fun _ => 0))), (q1, .inl (y 1, 12, .inl (fun _ => 0))), (q2, .inl (y 1, 12, .inl (fun _ => 0))), (q3, .inl (y 1, 12, .inl (fun _ => 0))), (q4, .inl (y 1, 12, .inl (fun _ => 0))), (q5, .inl (y 1, 12, .inl (fun _ => 0))), (q6, .inl (y 1, 4, .inl (upd (upd (upd (upd (fun _ => 0) 0 230) 1 3) 2 100) 3 3))), (q7, .inl (y 1, 64, .inl (fun _ => 0))), (q8, .inl (y 1, 32, .inl (fun _ => 0)))]) := hD
  refine W.widen (k := 9) (n := 167) (by omega) (by omega) ?_
  refine va_putF (D := D) (ci := 9) (v := .ref q8) (ty := .array .int) (C := RX10) (T := TX10) (N := 31) hx hb hts wu_X10 tyX10 tyX10_ok nmX10 hown hK hP hD hS 0 rfl rfl 10 (by decide) (hts _ iA_724) (fun _ h9 => h9) rfl hin rfl (by decide +kernel) rfl rfl (Nat.le_of_ble_eq_true rfl) dX10_init_91 (fun H locs hP hD hS => ?_)
  have hP : va_P D vwCl ([(h0, .inr (9, [.ref q0, .ref q1, .ref q2, .ref q3, .ref q4, .ref q5, .ref q6, .int 0, .int 0, .ref q7, .ref q8, .null, .null, .int 0, .int 0, .int 0, .null, .int 0, .int 0, .int 0, .null, .null, .null, .null, .null, .null, .null, .null, .int 0, .int 0, .int 0])), (q0, .inl (y 1, 7, .inl (fun _ => 0))), (q1, .inl (y 1, 12, .inl (fun _ => 0))), (q2, .inl (y 1, 12, .inl (fun _ => 0))), (q3, .inl (y 1, 12, .inl (fun _ => 0))), (q4, .inl (y 1, 12, .inl (fun _ => 0))), (q5, .inl (y 1, 12, .inl (fun _ => 0))), (q6, .inl (y 1, 4, .inl (upd (upd (upd (upd (fun _ => 0) 0 230) 1 3) 2 100) 3 3))), (q7, .inl (y 1, 64, .inl (fun _ => 0))), (q8, .inl (y 1, 32, .inl (fun _ => 0)))]) H := hP
  have hD : va_D A ([(h0, .inr (9, [.ref q0, .ref q1, .ref q2, .ref q3, .ref q4, .ref q5, .ref q6, .int 0, .int 0, .ref q7, .ref q8, .null, .null, .int 0, .int 0, .int 0, .null, .int 0, .int 0, .int 0, .null, .null, .null, .null, .null, .null, .null, .null, .int 0, .int 0, .int 0])), (q0, .inl (y 1, 7, .inl (fun _ => 0))), (q1, .inl (y 1, 12, .inl (fun _ => 0))), (q2, .inl (y 1, 12, .inl (fun _ => 0))), (q3, .inl (y 1, 12, .inl (fun _ => 0))), (q4, .inl (y 1, 12, .inl (fun _ => 0))), (q5, .inl (y 1, 12, .inl (fun _ => 0))), (q6, .inl (y 1, 4, .inl (upd (upd (upd (upd (fun _ => 0) 0 230) 1 3) 2 100) 3 3))), (q7, .inl (y 1, 64, .inl (fun _ => 0))), (q8, .inl (y 1, 32, .inl (fun _ => 0)))]) := hD
  refine lv_aload_n hx hb dX10_init_94 rfl (lv_at hl 0 rfl) ?_
  refine lv_bipush (v := 32) hx hb dX10_init_95 (by decide) ?_
  refine va_newa (atype := .int) (ty := .int) (n := 32) (N' := 32) (a0 := (32, .inl (fun _ => 0))) hx hb (hts _ iA_108) rfl hK hP hD hS hA (fun _ => rfl) (by decide) (by decide) (by decide) (Nat.le_of_ble_eq_true rfl) (Nat.le_of_ble_eq_true rfl) dX10_init_97 (fun q9 cA H hK2 hP hD hS => ?_)
  have ec : cA = y 1 := n_cls1 hK2
  subst ec
  have hP : va_P D vwCl ([(h0, .inr (9, [.ref q0, .ref q1, .ref q2, .ref q3, .ref q4, .ref q5, .ref q6, .int 0, .int 0, .ref q7, .ref q8, .null, .null, .int 0, .int 0, .int 0, .null, .int 0, .int 0, .int 0, .null, .null, .null, .null, .null, .null, .null, .null, .int 0, .int 0, .int 0])), (q0, .inl (y 1, 7, .inl (fun _ => 0))), (q1, .inl (y 1, 12, .inl (fun _ => 0))), (q2, .inl (y 1, 12, .inl (fun _ => 0))), (q3, .inl (y 1, 12, .inl (fun _ => 0))), (q4, .inl (y 1, 12, .inl (fun _ => 0))), (q5, .inl (y 1, 12, .inl (fun _ => 0))), (q6, .inl (y 1, 4, .inl (upd (upd (upd (upd (fun _ => 0) 0 230) 1 3) 2 100) 3 3))), (q7, .inl (y 1, 64, .inl (fun _ => 0))), (q8, .inl (y 1, 32, .inl (fun _ => 0))), (q9, .inl (y 1, 32, .inl (fun _ => 0)))]) H := hP
  have hD : va_D A ([(h0, .inr (9, [.ref q0, .ref q1, .ref q2, .ref q3, .ref q4, .ref q5, .ref q6, .int 0, .int 0, .ref q7, .ref q8, .null, .null, .int 0, .int 0, .int 0, .null, .int 0, .int 0, .int 0, .null, .null, .null, .null, .null, .null, .null, .null, .int 0, .int 0, .int 0])), (q0, .inl (y 1, 7, .inl (fun _ => 0))), (q1, .inl (y 1, 12, .inl (fun _ => 0))), (q2, .inl (y 1, 12, .inl (fun _ => 0))), (q3, .inl (y 1, 12, .inl (fun _ => 0))), (q4, .inl (y 1, 12, .inl (fun _ => 0))), (q5, .inl (y 1, 12, .inl (fun _ => 0))), (q6, .inl (y 1, 4, .inl (upd (upd (upd (upd (fun _ => 0) 0 230) 1 3) 2 100) 3 3))), (q7, .inl (y 1, 64, .inl (fun _ => 0))), (q8, .inl (y 1, 32, .inl (fun _ => 0))), (q9, .inl (y 1, 32, .inl (fun _ => 0)))]) := hD
  refine W.widen (k := 10) (n := 199) (by omega) (by omega) ?_
  refine va_putF (D := D) (ci := 9) (v := .ref q9) (ty := .array .int) (C := RX10) (T := TX10) (N := 31) hx hb hts wu_X10 tyX10 tyX10_ok nmX10 hown hK hP hD hS 0 rfl rfl 11 (by decide) (hts _ iA_725) (fun _ h9 => h9) rfl hin rfl (by decide +kernel) rfl rfl (Nat.le_of_ble_eq_true rfl) dX10_init_99 (fun H locs hP hD hS => ?_)
  have hP : va_P D vwCl ([(h0, .inr (9, [.ref q0, .ref q1, .ref q2, .ref q3, .ref q4, .ref q5, .ref q6, .int 0, .int 0, .ref q7, .ref q8, .ref q9, .null, .int 0, .int 0, .int 0, .null, .int 0, .int 0, .int 0, .null, .null, .null, .null, .null, .null, .null, .null, .int 0, .int 0, .int 0])), (q0, .inl (y 1, 7, .inl (fun _ => 0))), (q1, .inl (y 1, 12, .inl (fun _ => 0))), (q2, .inl (y 1, 12, .inl (fun _ => 0))), (q3, .inl (y 1, 12, .inl (fun _ => 0))), (q4, .inl (y 1, 12, .inl (fun _ => 0))), (q5, .inl (y 1, 12, .inl (fun _ => 0))), (q6, .inl (y 1, 4, .inl (upd (upd (upd (upd (fun _ => 0) 0 230) 1 3) 2 100) 3 3))), (q7, .inl (y 1, 64, .inl (fun _ => 0))), (q8, .inl (y 1, 32, .inl (fun _ => 0))), (q9, .inl (y 1, 32, .inl (fun _ => 0)))]) H := hP
  have hD : va_D A ([(h0, .inr (9, [.ref q0, .ref q1, .ref q2, .ref q3, .ref q4, .ref q5, .ref q6, .int 0, .int 0, .ref q7, .ref q8, .ref q9, .null, .int 0, .int 0, .int 0, .null, .int 0, .int 0, .int 0, .null, .null, .null, .null, .null, .null, .null, .null, .int 0, .int 0, .int 0])), (q0, .inl (y 1, 7, .inl (fun _ => 0))), (q1, .inl (y 1, 12, .inl (fun _ => 0))), (q2, .inl (y 1, 12, .inl (fun _ => 0))), (q3, .inl (y 1, 12, .inl (fun _ => 0))), (q4, .inl (y 1, 12, .inl (fun _ => 0))), (q5, .inl (y 1, 12, .inl (fun _ => 0))), (q6, .inl (y 1, 4, .inl (upd (upd (upd (upd (fun _ => 0) 0 230) 1 3) 2 100) 3 3))), (q7, .inl (y 1, 64, .inl (fun _ => 0))), (q8, .inl (y 1, 32, .inl (fun _ => 0))), (q9, .inl (y 1, 32, .inl (fun _ => 0)))]) := hD
  refine lv_aload_n hx hb dX10_init_102 rfl (lv_at hl 0 rfl) ?_
  refine lv_bipush (v := 96) hx hb dX10_init_103 (by decide) ?_
  refine va_newa (atype := .int) (ty := .int) (n := 96) (N' := 96) (a0 := (96, .inl (fun _ => 0))) hx hb (hts _ iA_108) rfl hK hP hD hS hA (fun _ => rfl) (by decide) (by decide) (by decide) (Nat.le_of_ble_eq_true rfl) (Nat.le_of_ble_eq_true rfl) dX10_init_105 (fun q10 cA H hK2 hP hD hS => ?_)
  have ec : cA = y 1 := n_cls1 hK2
  subst ec
  have hP : va_P D vwCl ([(h0, .inr (9, [.ref q0, .ref q1, .ref q2, .ref q3, .ref q4, .ref q5, .ref q6, .int 0, .int 0, .ref q7, .ref q8, .ref q9, .null, .int 0, .int 0, .int 0, .null, .int 0, .int 0, .int 0, .null, .null, .null, .null, .null, .null, .null, .null, .int 0, .int 0, .int 0])), (q0, .inl (y 1, 7, .inl (fun _ => 0))), (q1, .inl (y 1, 12, .inl (fun _ => 0))), (q2, .inl (y 1, 12, .inl (fun _ => 0))), (q3, .inl (y 1, 12, .inl (fun _ => 0))), (q4, .inl (y 1, 12, .inl (fun _ => 0))), (q5, .inl (y 1, 12, .inl (fun _ => 0))), (q6, .inl (y 1, 4, .inl (upd (upd (upd (upd (fun _ => 0) 0 230) 1 3) 2 100) 3 3))), (q7, .inl (y 1, 64, .inl (fun _ => 0))), (q8, .inl (y 1, 32, .inl (fun _ => 0))), (q9, .inl (y 1, 32, .inl (fun _ => 0))), (q10, .inl (y 1, 96, .inl (fun _ => 0)))]) H := hP
  have hD : va_D A ([(h0, .inr (9, [.ref q0, .ref q1, .ref q2, .ref q3, .ref q4, .ref q5, .ref q6, .int 0, .int 0, .ref q7, .ref q8, .ref q9, .null, .int 0, .int 0, .int 0, .null, .int 0, .int 0, .int 0, .null, .null, .null, .null, .null, .null, .null, .null, .int 0, .int 0, .int 0])), (q0, .inl (y 1, 7, .inl (fun _ => 0))), (q1, .inl (y 1, 12, .inl (fun _ => 0))), (q2, .inl (y 1, 12, .inl (fun _ => 0))), (q3, .inl (y 1, 12, .inl (fun _ => 0))), (q4, .inl (y 1, 12, .inl (fun _ => 0))), (q5, .inl (y 1, 12, .inl (fun _ => 0))), (q6, .inl (y 1, 4, .inl (upd (upd (upd (upd (fun _ => 0) 0 230) 1 3) 2 100) 3 3))), (q7, .inl (y 1, 64, .inl (fun _ => 0))), (q8, .inl (y 1, 32, .inl (fun _ => 0))), (q9, .inl (y 1, 32, .inl (fun _ => 0))), (q10, .inl (y 1, 96, .inl (fun _ => 0)))]) := hD
  refine W.widen (k := 11) (n := 295) (by omega) (by omega) ?_
  refine va_putF (D := D) (ci := 9) (v := .ref q10) (ty := .array .int) (C := RX10) (T := TX10) (N := 31) hx hb hts wu_X10 tyX10 tyX10_ok nmX10 hown hK hP hD hS 0 rfl rfl 12 (by decide) (hts _ iA_726) (fun _ h9 => h9) rfl hin rfl (by decide +kernel) rfl rfl (Nat.le_of_ble_eq_true rfl) dX10_init_107 (fun H locs hP hD hS => ?_)
  have hP : va_P D vwCl ([(h0, .inr (9, [.ref q0, .ref q1, .ref q2, .ref q3, .ref q4, .ref q5, .ref q6, .int 0, .int 0, .ref q7, .ref q8, .ref q9, .ref q10, .int 0, .int 0, .int 0, .null, .int 0, .int 0, .int 0, .null, .null, .null, .null, .null, .null, .null, .null, .int 0, .int 0, .int 0])), (q0, .inl (y 1, 7, .inl (fun _ => 0))), (q1, .inl (y 1, 12, .inl (fun _ => 0))), (q2, .inl (y 1, 12, .inl (fun _ => 0))), (q3, .inl (y 1, 12, .inl (fun _ => 0))), (q4, .inl (y 1, 12, .inl (fun _ => 0))), (q5, .inl (y 1, 12, .inl (fun _ => 0))), (q6, .inl (y 1, 4, .inl (upd (upd (upd (upd (fun _ => 0) 0 230) 1 3) 2 100) 3 3))), (q7, .inl (y 1, 64, .inl (fun _ => 0))), (q8, .inl (y 1, 32, .inl (fun _ => 0))), (q9, .inl (y 1, 32, .inl (fun _ => 0))), (q10, .inl (y 1, 96, .inl (fun _ => 0)))]) H := hP
  have hD : va_D A ([(h0, .inr (9, [.ref q0, .ref q1, .ref q2, .ref q3, .ref q4, .ref q5, .ref q6, .int 0, .int 0, .ref q7, .ref q8, .ref q9, .ref q10, .int 0, .int 0, .int 0, .null, .int 0, .int 0, .int 0, .null, .null, .null, .null, .null, .null, .null, .null, .int 0, .int 0, .int 0])), (q0, .inl (y 1, 7, .inl (fun _ => 0))), (q1, .inl (y 1, 12, .inl (fun _ => 0))), (q2, .inl (y 1, 12, .inl (fun _ => 0))), (q3, .inl (y 1, 12, .inl (fun _ => 0))), (q4, .inl (y 1, 12, .inl (fun _ => 0))), (q5, .inl (y 1, 12, .inl (fun _ => 0))), (q6, .inl (y 1, 4, .inl (upd (upd (upd (upd (fun _ => 0) 0 230) 1 3) 2 100) 3 3))), (q7, .inl (y 1, 64, .inl (fun _ => 0))), (q8, .inl (y 1, 32, .inl (fun _ => 0))), (q9, .inl (y 1, 32, .inl (fun _ => 0))), (q10, .inl (y 1, 96, .inl (fun _ => 0)))]) := hD
  refine lv_aload_n hx hb dX10_init_110 rfl (lv_at hl 0 rfl) ?_
  refine lv_sipush (v := 160) hx hb dX10_init_111 (by decide) ?_
  refine va_newa (atype := .int) (ty := .int) (n := 160) (N' := 160) (a0 := (160, .inl (fun _ => 0))) hx hb (hts _ iA_108) rfl hK hP hD hS hA (fun _ => rfl) (by decide) (by decide) (by decide) (Nat.le_of_ble_eq_true rfl) (Nat.le_of_ble_eq_true rfl) dX10_init_114 (fun q11 cA H hK2 hP hD hS => ?_)
  have ec : cA = y 1 := n_cls1 hK2
  subst ec
  have hP : va_P D vwCl ([(h0, .inr (9, [.ref q0, .ref q1, .ref q2, .ref q3, .ref q4, .ref q5, .ref q6, .int 0, .int 0, .ref q7, .ref q8, .ref q9, .ref q10, .int 0, .int 0, .int 0, .null, .int 0, .int 0, .int 0, .null, .null, .null, .null, .null, .null, .null, .null, .int 0, .int 0, .int 0])), (q0, .inl (y 1, 7, .inl (fun _ => 0))), (q1, .inl (y 1, 12, .inl (fun _ => 0))), (q2, .inl (y 1, 12, .inl (fun _ => 0))), (q3, .inl (y 1, 12, .inl (fun _ => 0))), (q4, .inl (y 1, 12, .inl (fun _ => 0))), (q5, .inl (y 1, 12, .inl (fun _ => 0))), (q6, .inl (y 1, 4, .inl (upd (upd (upd (upd (fun _ => 0) 0 230) 1 3) 2 100) 3 3))), (q7, .inl (y 1, 64, .inl (fun _ => 0))), (q8, .inl (y 1, 32, .inl (fun _ => 0))), (q9, .inl (y 1, 32, .inl (fun _ => 0))), (q10, .inl (y 1, 96, .inl (fun _ => 0))), (q11, .inl (y 1, 160, .inl (fun _ => 0)))]) H := hP
  have hD : va_D A ([(h0, .inr (9, [.ref q0, .ref q1, .ref q2, .ref q3, .ref q4, .ref q5, .ref q6, .int 0, .int 0, .ref q7, .ref q8, .ref q9, .ref q10, .int 0, .int 0, .int 0, .null, .int 0, .int 0, .int 0, .null, .null, .null, .null, .null, .null, .null, .null, .int 0, .int 0, .int 0])), (q0, .inl (y 1, 7, .inl (fun _ => 0))), (q1, .inl (y 1, 12, .inl (fun _ => 0))), (q2, .inl (y 1, 12, .inl (fun _ => 0))), (q3, .inl (y 1, 12, .inl (fun _ => 0))), (q4, .inl (y 1, 12, .inl (fun _ => 0))), (q5, .inl (y 1, 12, .inl (fun _ => 0))), (q6, .inl (y 1, 4, .inl (upd (upd (upd (upd (fun _ => 0) 0 230) 1 3) 2 100) 3 3))), (q7, .inl (y 1, 64, .inl (fun _ => 0))), (q8, .inl (y 1, 32, .inl (fun _ => 0))), (q9, .inl (y 1, 32, .inl (fun _ => 0))), (q10, .inl (y 1, 96, .inl (fun _ => 0))), (q11, .inl (y 1, 160, .inl (fun _ => 0)))]) := hD
  refine W.widen (k := 12) (n := 455) (by omega) (by omega) ?_
  refine va_putF (D := D) (ci := 9) (v := .ref q11) (ty := .array .int) (C := RX10) (T := TX10) (N := 31) hx hb hts wu_X10 tyX10 tyX10_ok nmX10 hown hK hP hD hS 0 rfl rfl 16 (by decide) (hts _ iA_730) (fun _ h9 => h9) rfl hin rfl (by decide +kernel) rfl rfl (Nat.le_of_ble_eq_true rfl) dX10_init_116 (fun H locs hP hD hS => ?_)
  have hP : va_P D vwCl ([(h0, .inr (9, [.ref q0, .ref q1, .ref q2, .ref q3, .ref q4, .ref q5, .ref q6, .int 0, .int 0, .ref q7, .ref q8, .ref q9, .ref q10, .int 0, .int 0, .int 0, .ref q11, .int 0, .int 0, .int 0, .null, .null, .null, .null, .null, .null, .null, .null, .int 0, .int 0, .int 0])), (q0, .inl (y 1, 7, .inl (fun _ => 0))), (q1, .inl (y 1, 12, .inl (fun _ => 0))), (q2, .inl (y 1, 12, .inl (fun _ => 0))), (q3, .inl (y 1, 12, .inl (fun _ => 0))), (q4, .inl (y 1, 12, .inl (fun _ => 0))), (q5, .inl (y 1, 12, .inl (fun _ => 0))), (q6, .inl (y 1, 4, .inl (upd (upd (upd (upd (fun _ => 0) 0 230) 1 3) 2 100) 3 3))), (q7, .inl (y 1, 64, .inl (fun _ => 0))), (q8, .inl (y 1, 32, .inl (fun _ => 0))), (q9, .inl (y 1, 32, .inl (fun _ => 0))), (q10, .inl (y 1, 96, .inl (fun _ => 0))), (q11, .inl (y 1, 160, .inl (fun _ => 0)))]) H := hP
  have hD : va_D A ([(h0, .inr (9, [.ref q0, .ref q1, .ref q2, .ref q3, .ref q4, .ref q5, .ref q6, .int 0, .int 0, .ref q7, .ref q8, .ref q9, .ref q10, .int 0, .int 0, .int 0, .ref q11, .int 0, .int 0, .int 0, .null, .null, .null, .null, .null, .null, .null, .null, .int 0, .int 0, .int 0])), (q0, .inl (y 1, 7, .inl (fun _ => 0))), (q1, .inl (y 1, 12, .inl (fun _ => 0))), (q2, .inl (y 1, 12, .inl (fun _ => 0))), (q3, .inl (y 1, 12, .inl (fun _ => 0))), (q4, .inl (y 1, 12, .inl (fun _ => 0))), (q5, .inl (y 1, 12, .inl (fun _ => 0))), (q6, .inl (y 1, 4, .inl (upd (upd (upd (upd (fun _ => 0) 0 230) 1 3) 2 100) 3 3))), (q7, .inl (y 1, 64, .inl (fun _ => 0))), (q8, .inl (y 1, 32, .inl (fun _ => 0))), (q9, .inl (y 1, 32, .inl (fun _ => 0))), (q10, .inl (y 1, 96, .inl (fun _ => 0))), (q11, .inl (y 1, 160, .inl (fun _ => 0)))]) := hD
  refine lv_aload_n hx hb dX10_init_119 rfl (lv_at hl 0 rfl) ?_
  refine lv_bipush (v := 12) hx hb dX10_init_120 (by decide) ?_
  refine va_newa (atype := .int) (ty := .int) (n := 12) (N' := 12) (a0 := (12, .inl (fun _ => 0))) hx hb (hts _ iA_108) rfl hK hP hD hS hA (fun _ => rfl) (by decide) (by decide) (by decide) (Nat.le_of_ble_eq_true rfl) (Nat.le_of_ble_eq_true rfl) dX10_init_122 (fun q12 cA H hK2 hP hD hS => ?_)
  have ec : cA = y 1 := n_cls1 hK2
  subst ec
  have hP : va_P D vwCl ([(h0, .inr (9, [.ref q0, .ref q1, .ref q2, .ref q3, .ref q4, .ref q5, .ref q6, .int 0, .int 0, .ref q7, .ref q8, .ref q9, .ref q10, .int 0, .int 0, .int 0, .ref q11, .int 0, .int 0, .int 0, .null, .null, .null, .null, .null, .null, .null, .null, .int 0, .int 0, .int 0])), (q0, .inl (y 1, 7, .inl (fun _ => 0))), (q1, .inl (y 1, 12, .inl (fun _ => 0))), (q2, .inl (y 1, 12, .inl (fun _ => 0))), (q3, .inl (y 1, 12, .inl (fun _ => 0))), (q4, .inl (y 1, 12, .inl (fun _ => 0))), (q5, .inl (y 1, 12, .inl (fun _ => 0))), (q6, .inl (y 1, 4, .inl (upd (upd (upd (upd (fun _ => 0) 0 230) 1 3) 2 100) 3 3))), (q7, .inl (y 1, 64, .inl (fun _ => 0))), (q8, .inl (y 1, 32, .inl (fun _ => 0))), (q9, .inl (y 1, 32, .inl (fun _ => 0))), (q10, .inl (y 1, 96, .inl (fun _ => 0))), (q11, .inl (y 1, 160, .inl (fun _ => 0))), (q12, .inl (y 1, 12, .inl (fun _ => 0)))]) H := hP
  have hD : va_D A ([(h0, .inr (9, [.ref q0, .ref q1, .ref q2, .ref q3, .ref q4, .ref q5, .ref q6, .int 0, .int 0, .ref q7, .ref q8, .ref q9, .ref q10, .int 0, .int 0, .int 0, .ref q11, .int 0, .int 0, .int 0, .null, .null, .null, .null, .null, .null, .null, .null, .int 0, .int 0, .int 0])), (q0, .inl (y 1, 7, .inl (fun _ => 0))), (q1, .inl (y 1, 12, .inl (fun _ => 0))), (q2, .inl (y 1, 12, .inl (fun _ => 0))), (q3, .inl (y 1, 12, .inl (fun _ => 0))), (q4, .inl (y 1, 12, .inl (fun _ => 0))), (q5, .inl (y 1, 12, .inl (fun _ => 0))), (q6, .inl (y 1, 4, .inl (upd (upd (upd (upd (fun _ => 0) 0 230) 1 3) 2 100) 3 3))), (q7, .inl (y 1, 64, .inl (fun _ => 0))), (q8, .inl (y 1, 32, .inl (fun _ => 0))), (q9, .inl (y 1, 32, .inl (fun _ => 0))), (q10, .inl (y 1, 96, .inl (fun _ => 0))), (q11, .inl (y 1, 160, .inl (fun _ => 0))), (q12, .inl (y 1, 12, .inl (fun _ => 0)))]) := hD
  refine W.widen (k := 13) (n := 467) (by omega) (by omega) ?_
  refine va_putF (D := D) (ci := 9) (v := .ref q12) (ty := .array .int) (C := RX10) (T := TX10) (N := 31) hx hb hts wu_X10 tyX10 tyX10_ok nmX10 hown hK hP hD hS 0 rfl rfl 20 (by decide) (hts _ iA_734) (fun _ h9 => h9) rfl hin rfl (by decide +kernel) rfl rfl (Nat.le_of_ble_eq_true rfl) dX10_init_124 (fun H locs hP hD hS => ?_)
  have hP : va_P D vwCl ([(h0, .inr (9, [.ref q0, .ref q1, .ref q2, .ref q3, .ref q4, .ref q5, .ref q6, .int 0, .int 0, .ref q7, .ref q8, .ref q9, .ref q10, .int 0, .int 0, .int 0, .ref q11, .int 0, .int 0, .int 0, .ref q12, .null, .null, .null, .null, .null, .null, .null, .int 0, .int 0, .int 0])), (q0, .inl (y 1, 7, .inl (fun _ => 0))), (q1, .inl (y 1, 12, .inl (fun _ => 0))), (q2, .inl (y 1, 12, .inl (fun _ => 0))), (q3, .inl (y 1, 12, .inl (fun _ => 0))), (q4, .inl (y 1, 12, .inl (fun _ => 0))), (q5, .inl (y 1, 12, .inl (fun _ => 0))), (q6, .inl (y 1, 4, .inl (upd (upd (upd (upd (fun _ => 0) 0 230) 1 3) 2 100) 3 3))), (q7, .inl (y 1, 64, .inl (fun _ => 0))), (q8, .inl (y 1, 32, .inl (fun _ => 0))), (q9, .inl (y 1, 32, .inl (fun _ => 0))), (q10, .inl (y 1, 96, .inl (fun _ => 0))), (q11, .inl (y 1, 160, .inl (fun _ => 0))), (q12, .inl (y 1, 12, .inl (fun _ => 0)))]) H := hP
  have hD : va_D A ([(h0, .inr (9, [.ref q0, .ref q1, .ref q2, .ref q3, .ref q4, .ref q5, .ref q6, .int 0, .int 0, .ref q7, .ref q8, .ref q9, .ref q10, .int 0, .int 0, .int 0, .ref q11, .int 0, .int 0, .int 0, .ref q12, .null, .null, .null, .null, .null, .null, .null, .int 0, .int 0, .int 0])), (q0, .inl (y 1, 7, .inl (fun _ => 0))), (q1, .inl (y 1, 12, .inl (fun _ => 0))), (q2, .inl (y 1, 12, .inl (fun _ => 0))), (q3, .inl (y 1, 12, .inl (fun _ => 0))), (q4, .inl (y 1, 12, .inl (fun _ => 0))), (q5, .inl (y 1, 12, .inl (fun _ => 0))), (q6, .inl (y 1, 4, .inl (upd (upd (upd (upd (fun _ => 0) 0 230) 1 3) 2 100) 3 3))), (q7, .inl (y 1, 64, .inl (fun _ => 0))), (q8, .inl (y 1, 32, .inl (fun _ => 0))), (q9, .inl (y 1, 32, .inl (fun _ => 0))), (q10, .inl (y 1, 96, .inl (fun _ => 0))), (q11, .inl (y 1, 160, .inl (fun _ => 0))), (q12, .inl (y 1, 12, .inl (fun _ => 0)))]) := hD
  refine lv_aload_n hx hb dX10_init_127 rfl (lv_at hl 0 rfl) ?_
  refine lv_sipush (v := 144) hx hb dX10_init_128 (by decide) ?_
  refine va_newa (atype := .int) (ty := .int) (n := 144) (N' := 144) (a0 := (144, .inl (fun _ => 0))) hx hb (hts _ iA_108) rfl hK hP hD hS hA (fun _ => rfl) (by decide) (by decide) (by decide) (Nat.le_of_ble_eq_true rfl) (Nat.le_of_ble_eq_true rfl) dX10_init_131 (fun q13 cA H hK2 hP hD hS => ?_)
  have ec : cA = y 1 := n_cls1 hK2
  subst ec
  have hP : va_P D vwCl ([(h0, .inr (9, [.ref q0, .ref q1, .ref q2, .ref q3, .ref q4, .ref q5, .ref q6, .int 0, .int 0, .ref q7, .ref q8, .ref q9, .ref q10, .int 0, .int 0, .int 0, .ref q11, .int 0, .int 0, .int 0, .ref q12, .null, .null, .null, .null, .null, .null, .null, .int 0, .int 0, .int 0])), (q0, .inl (y 1, 7, .inl (fun _ => 0))), (q1, .inl (y 1, 12, .inl (fun _ => 0))), (q2, .inl (y 1, 12, .inl (fun _ => 0))), (q3, .inl (y 1, 12, .inl (fun _ => 0))), (q4, .inl (y 1, 12, .inl (fun _ => 0))), (q5, .inl (y 1, 12, .inl (fun _ => 0))), (q6, .inl (y 1, 4, .inl (upd (upd (upd (upd (fun _ => 0) 0 230) 1 3) 2 100) 3 3))), (q7, .inl (y 1, 64, .inl (fun _ => 0))), (q8, .inl (y 1, 32, .inl (fun _ => 0))), (q9, .inl (y 1, 32, .inl (fun _ => 0))), (q10, .inl (y 1, 96, .inl (fun _ => 0))), (q11, .inl (y 1, 160, .inl (fun _ => 0))), (q12, .inl (y 1, 12, .inl (fun _ => 0))), (q13, .inl (y 1, 144, .inl (fun _ => 0)))]) H := hP
  have hD : va_D A ([(h0, .inr (9, [.ref q0, .ref q1, .ref q2, .ref q3, .ref q4, .ref q5, .ref q6, .int 0, .int 0, .ref q7, .ref q8, .ref q9, .ref q10, .int 0, .int 0, .int 0, .ref q11, .int 0, .int 0, .int 0, .ref q12, .null, .null, .null, .null, .null, .null, .null, .int 0, .int 0, .int 0])), (q0, .inl (y 1, 7, .inl (fun _ => 0))), (q1, .inl (y 1, 12, .inl (fun _ => 0))), (q2, .inl (y 1, 12, .inl (fun _ => 0))), (q3, .inl (y 1, 12, .inl (fun _ => 0))), (q4, .inl (y 1, 12, .inl (fun _ => 0))), (q5, .inl (y 1, 12, .inl (fun _ => 0))), (q6, .inl (y 1, 4, .inl (upd (upd (upd (upd (fun _ => 0) 0 230) 1 3) 2 100) 3 3))), (q7, .inl (y 1, 64, .inl (fun _ => 0))), (q8, .inl (y 1, 32, .inl (fun _ => 0))), (q9, .inl (y 1, 32, .inl (fun _ => 0))), (q10, .inl (y 1, 96, .inl (fun _ => 0))), (q11, .inl (y 1, 160, .inl (fun _ => 0))), (q12, .inl (y 1, 12, .inl (fun _ => 0))), (q13, .inl (y 1, 144, .inl (fun _ => 0)))]) := hD
  refine W.widen (k := 14) (n := 611) (by omega) (by omega) ?_
  refine va_putF (D := D) (ci := 9) (v := .ref q13) (ty := .array .int) (C := RX10) (T := TX10) (N := 31) hx hb hts wu_X10 tyX10 tyX10_ok nmX10 hown hK hP hD hS 0 rfl rfl 21 (by decide) (hts _ iA_735) (fun _ h9 => h9) rfl hin rfl (by decide +kernel) rfl rfl (Nat.le_of_ble_eq_true rfl) dX10_init_133 (fun H locs hP hD hS => ?_)
  have hP : va_P D vwCl ([(h0, .inr (9, [.ref q0, .ref q1, .ref q2, .ref q3, .ref q4, .ref q5, .ref q6, .int 0, .int 0, .ref q7, .ref q8, .ref q9, .ref q10, .int 0, .int 0, .int 0, .ref q11, .int 0, .int 0, .int 0, .ref q12, .ref q13, .null, .null, .null, .null, .null, .null, .int 0, .int 0, .int 0])), (q0, .inl (y 1, 7, .inl (fun _ => 0))), (q1, .inl (y 1, 12, .inl (fun _ => 0))), (q2, .inl (y 1, 12, .inl (fun _ => 0))), (q3, .inl (y 1, 12, .inl (fun _ => 0))), (q4, .inl (y 1, 12, .inl (fun _ => 0))), (q5, .inl (y 1, 12, .inl (fun _ => 0))), (q6, .inl (y 1, 4, .inl (upd (upd (upd (upd (fun _ => 0) 0 230) 1 3) 2 100) 3 3))), (q7, .inl (y 1, 64, .inl (fun _ => 0))), (q8, .inl (y 1, 32, .inl (fun _ => 0))), (q9, .inl (y 1, 32, .inl (fun _ => 0))), (q10, .inl (y 1, 96, .inl (fun _ => 0))), (q11, .inl (y 1, 160, .inl (fun _ => 0))), (q12, .inl (y 1, 12, .inl (fun _ => 0))), (q13, .inl (y 1, 144, .inl (fun _ => 0)))]) H := hP
  have hD : va_D A ([(h0, .inr (9, [.ref q0, .ref q1, .ref q2, .ref q3, .ref q4, .ref q5, .ref q6, .int 0, .int 0, .ref q7, .ref q8, .ref q9, .ref q10, .int 0, .int 0, .int 0, .ref q11, .int 0, .int 0, .int 0, .ref q12, .ref q13, .null, .null, .null, .null, .null, .null, .int 0, .int 0, .int 0])), (q0, .inl (y 1, 7, .inl (fun _ => 0))), (q1, .inl (y 1, 12, .inl (fun _ => 0))), (q2, .inl (y 1, 12, .inl (fun _ => 0))), (q3, .inl (y 1, 12, .inl (fun _ => 0))), (q4, .inl (y 1, 12, .inl (fun _ => 0))), (q5, .inl (y 1, 12, .inl (fun _ => 0))), (q6, .inl (y 1, 4, .inl (upd (upd (upd (upd (fun _ => 0) 0 230) 1 3) 2 100) 3 3))), (q7, .inl (y 1, 64, .inl (fun _ => 0))), (q8, .inl (y 1, 32, .inl (fun _ => 0))), (q9, .inl (y 1, 32, .inl (fun _ => 0))), (q10, .inl (y 1, 96, .inl (fun _ => 0))), (q11, .inl (y 1, 160, .inl (fun _ => 0))), (q12, .inl (y 1, 12, .inl (fun _ => 0))), (q13, .inl (y 1, 144, .inl (fun _ => 0)))]) := hD
  refine lv_aload_n hx hb dX10_init_136 rfl (lv_at hl 0 rfl) ?_
  refine lv_sipush (v := 144) hx hb dX10_init_137 (by decide) ?_
  refine va_newa (atype := .int) (ty := .int) (n := 144) (N' := 144) (a0 := (144, .inl (fun _ => 0))) hx hb (hts _ iA_108) rfl hK hP hD hS hA (fun _ => rfl) (by decide) (by decide) (by decide) (Nat.le_of_ble_eq_true rfl) (Nat.le_of_ble_eq_true rfl) dX10_init_140 (fun q14 cA H hK2 hP hD hS => ?_)
  have ec : cA = y 1 := n_cls1 hK2
  subst ec
  have hP : va_P D vwCl ([(h0, .inr (9, [.ref q0, .ref q1, .ref q2, .ref q3, .ref q4, .ref q5, .ref q6, .int 0, .int 0, .ref q7, .ref q8, .ref q9, .ref q10, .int 0, .int 0, .int 0, .ref q11, .int 0, .int 0, .int 0, .ref q12, .ref q13, .null, .null, .null, .null, .null, .null, .int 0, .int 0, .int 0])), (q0, .inl (y 1, 7, .inl (fun _ => 0))), (q1, .inl (y 1, 12, .inl (fun _ => 0))), (q2, .inl (y 1, 12, .inl (fun _ => 0))), (q3, .inl (y 1, 12, .inl (fun _ => 0))), (q4, .inl (y 1, 12, .inl (fun _ => 0))), (q5, .inl (y 1, 12, .inl (fun _ => 0))), (q6, .inl (y 1, 4, .inl (upd (upd (upd (upd (fun _ => 0) 0 230) 1 3) 2 100) 3 3))), (q7, .inl (y 1, 64, .inl (fun _ => 0))), (q8, .inl (y 1, 32, .inl (fun _ => 0))), (q9, .inl (y 1, 32, .inl (fun _ => 0))), (q10, .inl (y 1, 96, .inl (fun _ => 0))), (q11, .inl (y 1, 160, .inl (fun _ => 0))), (q12, .inl (y 1, 12, .inl (fun _ => 0))), (q13, .inl (y 1, 144, .inl (fun _ => 0))), (q14, .inl (y 1, 144, .inl (fun _ => 0)))]) H := hP
  have hD : va_D A ([(h0, .inr (9, [.ref q0, .ref q1, .ref q2, .ref q3, .ref q4, .ref q5, .ref q6, .int 0, .int 0, .ref q7, .ref q8, .ref q9, .ref q10, .int 0, .int 0, .int 0, .ref q11, .int 0, .int 0, .int 0, .ref q12, .ref q13, .null, .null, .null, .null, .null, .null, .int 0, .int 0, .int 0])), (q0, .inl (y 1, 7, .inl (fun _ => 0))), (q1, .inl (y 1, 12, .inl (fun _ => 0))), (q2, .inl (y 1, 12, .inl (fun _ => 0))), (q3, .inl (y 1, 12, .inl (fun _ => 0))), (q4, .inl (y 1, 12, .inl (fun _ => 0))), (q5, .inl (y 1, 12, .inl (fun _ => 0))), (q6, .inl (y 1, 4, .inl (upd (upd (upd (upd (fun _ => 0) 0 230) 1 3) 2 100) 3 3))), (q7, .inl (y 1, 64, .inl (fun _ => 0))), (q8, .inl (y 1, 32, .inl (fun _ => 0))), (q9, .inl (y 1, 32, .inl (fun _ => 0))), (q10, .inl (y 1, 96, .inl (fun _ => 0))), (q11, .inl (y 1, 160, .inl (fun _ => 0))), (q12, .inl (y 1, 12, .inl (fun _ => 0))), (q13, .inl (y 1, 144, .inl (fun _ => 0))), (q14, .inl (y 1, 144, .inl (fun _ => 0)))]) := hD
  refine W.widen (k := 15) (n := 755) (by omega) (by omega) ?_
  refine va_putF (D := D) (ci := 9) (v := .ref q14) (ty := .array .int) (C := RX10) (T := TX10) (N := 31) hx hb hts wu_X10 tyX10 tyX10_ok nmX10 hown hK hP hD hS 0 rfl rfl 22 (by decide) (hts _ iA_736) (fun _ h9 => h9) rfl hin rfl (by decide +kernel) rfl rfl (Nat.le_of_ble_eq_true rfl) dX10_init_142 (fun H locs hP hD hS => ?_)
  have hP : va_P D vwCl ([(h0, .inr (9, [.ref q0, .ref q1, .ref q2, .ref q3, .ref q4, .ref q5, .ref q6, .int 0, .int 0, .ref q7, .ref q8, .ref q9, .ref q10, .int 0, .int 0, .int 0, .ref q11, .int 0, .int 0, .int 0, .ref q12, .ref q13, .ref q14, .null, .null, .null, .null, .null, .int 0, .int 0, .int 0])), (q0, .inl (y 1, 7, .inl (fun _ => 0))), (q1, .inl (y 1, 12, .inl (fun _ => 0))), (q2, .inl (y 1, 12, .inl (fun _ => 0))), (q3, .inl (y 1, 12, .inl (fun _ => 0))), (q4, .inl (y 1, 12, .inl (fun _ => 0))), (q5, .inl (y 1, 12, .inl (fun _ => 0))), (q6, .inl (y 1, 4, .inl (upd (upd (upd (upd (fun _ => 0) 0 230) 1 3) 2 100) 3 3))), (q7, .inl (y 1, 64, .inl (fun _ => 0))), (q8, .inl (y 1, 32, .inl (fun _ => 0))), (q9, .inl (y 1, 32, .inl (fun _ => 0))), (q10, .inl (y 1, 96, .inl (fun _ => 0))), (q11, .inl (y 1, 160, .inl (fun _ => 0))), (q12, .inl (y 1, 12, .inl (fun _ => 0))), (q13, .inl (y 1, 144, .inl (fun _ => 0))), (q14, .inl (y 1, 144, .inl (fun _ => 0)))]) H := hP
  have hD : va_D A ([(h0, .inr (9, [.ref q0, .ref q1, .ref q2, .ref q3, .ref q4, .ref q5, .ref q6, .int 0, .int 0, .ref q7, .ref q8, .ref q9, .ref q10, .int 0, .int 0, .int 0, .ref q11, .int 0, .int 0, .int 0, .ref q12, .ref q13, .ref q14, .null, .null, .null, .null, .null, .int 0, .int 0, .int 0])), (q0, .inl (y 1, 7, .inl (fun _ => 0))), (q1, .inl (y 1, 12, .inl (fun _ => 0))), (q2, .inl (y 1, 12, .inl (fun _ => 0))), (q3, .inl (y 1, 12, .inl (fun _ => 0))), (q4, .inl (y 1, 12, .inl (fun _ => 0))), (q5, .inl (y 1, 12, .inl (fun _ => 0))), (q6, .inl (y 1, 4, .inl (upd (upd (upd (upd (fun _ => 0) 0 230) 1 3) 2 100) 3 3))), (q7, .inl (y 1, 64, .inl (fun _ => 0))), (q8, .inl (y 1, 32, .inl (fun _ => 0))), (q9, .inl (y 1, 32, .inl (fun _ => 0))), (q10, .inl (y 1, 96, .inl (fun _ => 0))), (q11, .inl (y 1, 160, .inl (fun _ => 0))), (q12, .inl (y 1, 12, .inl (fun _ => 0))), (q13, .inl (y 1, 144, .inl (fun _ => 0))), (q14, .inl (y 1, 144, .inl (fun _ => 0)))]) := hD
  refine lv_aload_n hx hb dX10_init_145 rfl (lv_at hl 0 rfl) ?_
  refine lv_sipush (v := 144) hx hb dX10_init_146 (by decide) ?_
  refine va_newa (atype := .int) (ty := .int) (n := 144) (N' := 144) (a0 := (144, .inl (fun _ => 0))) hx hb (hts _ iA_108) rfl hK hP hD hS hA (fun _ => rfl) (by decide) (by decide) (by decide) (Nat.le_of_ble_eq_true rfl) (Nat.le_of_ble_eq_true rfl) dX10_init_149 (fun q15 cA H hK2 hP hD hS => ?_)
  have ec : cA = y 1 := n_cls1 hK2
  subst ec
  have hP : va_P D vwCl ([(h0, .inr (9, [.ref q0, .ref q1, .ref q2, .ref q3, .ref q4, .ref q5, .ref q6, .int 0, .int 0, .ref q7, .ref q8, .ref q9, .ref q10, .int 0, .int 0, .int 0, .ref q11, .int 0, .int 0, .int 0, .ref q12, .ref q13, .ref q14, .null, .null, .null, .null, .null, .int 0, .int 0, .int 0])), (q0, .inl (y 1, 7, .inl (fun _ => 0))), (q1, .inl (y 1, 12, .inl (fun _ => 0))), (q2, .inl (y 1, 12, .inl (fun _ => 0))), (q3, .inl (y 1, 12, .inl (fun _ => 0))), (q4, .inl (y 1, 12, .inl (fun _ => 0))), (q5, .inl (y 1, 12, .inl (fun _ => 0))), (q6, .inl (y 1, 4, .inl (upd (upd (upd (upd (fun _ => 0) 0 230) 1 3) 2 100) 3 3))), (q7, .inl (y 1, 64, .inl (fun _ => 0))), (q8, .inl (y 1, 32, .inl (fun _ => 0))), (q9, .inl (y 1, 32, .inl (fun _ => 0))), (q10, .inl (y 1, 96, .inl (fun _ => 0))), (q11, .inl (y 1, 160, .inl (fun _ => 0))), (q12, .inl (y 1, 12, .inl (fun _ => 0))), (q13, .inl (y 1, 144, .inl (fun _ => 0))), (q14, .inl (y 1, 144, .inl (fun _ => 0))), (q15, .inl (y 1, 144, .inl (fun _ => 0)))]) H := hP
  have hD : va_D A ([(h0, .inr (9, [.ref q0, .ref q1, .ref q2, .ref q3, .ref q4, .ref q5, .ref q6, .int 0, .int 0, .ref q7, .ref q8, .ref q9, .ref q10, .int 0, .int 0, .int 0, .ref q11, .int 0, .int 0, .int 0, .ref q12, .ref q13, .ref q14, .null, .null, .null, .null, .null, .int 0, .int 0, .int 0])), (q0, .inl (y 1, 7, .inl (fun _ => 0))), (q1, .inl (y 1, 12, .inl (fun _ => 0))), (q2, .inl (y 1, 12, .inl (fun _ => 0))), (q3, .inl (y 1, 12, .inl (fun _ => 0))), (q4, .inl (y 1, 12, .inl (fun _ => 0))), (q5, .inl (y 1, 12, .inl (fun _ => 0))), (q6, .inl (y 1, 4, .inl (upd (upd (upd (upd (fun _ => 0) 0 230) 1 3) 2 100) 3 3))), (q7, .inl (y 1, 64, .inl (fun _ => 0))), (q8, .inl (y 1, 32, .inl (fun _ => 0))), (q9, .inl (y 1, 32, .inl (fun _ => 0))), (q10, .inl (y 1, 96, .inl (fun _ => 0))), (q11, .inl (y 1, 160, .inl (fun _ => 0))), (q12, .inl (y 1, 12, .inl (fun _ => 0))), (q13, .inl (y 1, 144, .inl (fun _ => 0))), (q14, .inl (y 1, 144, .inl (fun _ => 0))), (q15, .inl (y 1, 144, .inl (fun _ => 0)))]) := hD
  refine W.widen (k := 16) (n := 899) (by omega) (by omega) ?_
  refine va_putF (D := D) (ci := 9) (v := .ref q15) (ty := .array .int) (C := RX10) (T := TX10) (N := 31) hx hb hts wu_X10 tyX10 tyX10_ok nmX10 hown hK hP hD hS 0 rfl rfl 23 (by decide) (hts _ iA_737) (fun _ h9 => h9) rfl hin rfl (by decide +kernel) rfl rfl (Nat.le_of_ble_eq_true rfl) dX10_init_151 (fun H locs hP hD hS => ?_)
  have hP : va_P D vwCl ([(h0, .inr (9, [.ref q0, .ref q1, .ref q2, .ref q3, .ref q4, .ref q5, .ref q6, .int 0, .int 0, .ref q7, .ref q8, .ref q9, .ref q10, .int 0, .int 0, .int 0, .ref q11, .int 0, .int 0, .int 0, .ref q12, .ref q13, .ref q14, .ref q15, .null, .null, .null, .null, .int 0, .int 0, .int 0])), (q0, .inl (y 1, 7, .inl (fun _ => 0))), (q1, .inl (y 1, 12, .inl (fun _ => 0))), (q2, .inl (y 1, 12, .inl (fun _ => 0))), (q3, .inl (y 1, 12, .inl (fun _ => 0))), (q4, .inl (y 1, 12, .inl (fun _ => 0))), (q5, .inl (y 1, 12, .inl (fun _ => 0))), (q6, .inl (y 1, 4, .inl (upd (upd (upd (upd (fun _ => 0) 0 230) 1 3) 2 100) 3 3))), (q7, .inl (y 1, 64, .inl (fun _ => 0))), (q8, .inl (y 1, 32, .inl (fun _ => 0))), (q9, .inl (y 1, 32, .inl (fun _ => 0))), (q10, .inl (y 1, 96, .inl (fun _ => 0))), (q11, .inl (y 1, 160, .inl (fun _ => 0))), (q12, .inl (y 1, 12, .inl (fun _ => 0))), (q13, .inl (y 1, 144, .inl (fun _ => 0))), (q14, .inl (y 1, 144, .inl (fun _ => 0))), (q15, .inl (y 1, 144, .inl (fun _ => 0)))]) H := hP
  have hD : va_D A ([(h0, .inr (9, [.ref q0, .ref q1, .ref q2, .ref q3, .ref q4, .ref q5, .ref q6, .int 0, .int 0, .ref q7, .ref q8, .ref q9, .ref q10, .int 0, .int 0, .int 0, .ref q11, .int 0, .int 0, .int 0, .ref q12, .ref q13, .ref q14, .ref q15, .null, .null, .null, .null, .int 0, .int 0, .int 0])), (q0, .inl (y 1, 7, .inl (fun _ => 0))), (q1, .inl (y 1, 12, .inl (fun _ => 0))), (q2, .inl (y 1, 12, .inl (fun _ => 0))), (q3, .inl (y 1, 12, .inl (fun _ => 0))), (q4, .inl (y 1, 12, .inl (fun _ => 0))), (q5, .inl (y 1, 12, .inl (fun _ => 0))), (q6, .inl (y 1, 4, .inl (upd (upd (upd (upd (fun _ => 0) 0 230) 1 3) 2 100) 3 3))), (q7, .inl (y 1, 64, .inl (fun _ => 0))), (q8, .inl (y 1, 32, .inl (fun _ => 0))), (q9, .inl (y 1, 32, .inl (fun _ => 0))), (q10, .inl (y 1, 96, .inl (fun _ => 0))), (q11, .inl (y 1, 160, .inl (fun _ => 0))), (q12, .inl (y 1, 12, .inl (fun _ => 0))), (q13, .inl (y 1, 144, .inl (fun _ => 0))), (q14, .inl (y 1, 144, .inl (fun _ => 0))), (q15, .inl (y 1, 144, .inl (fun _ => 0)))]) := hD
  refine lv_aload_n hx hb dX10_init_154 rfl (lv_at hl 0 rfl) ?_
  refine lv_sipush (v := 144) hx hb dX10_init_155 (by decide) ?_
  refine va_newa (atype := .int) (ty := .int) (n := 144) (N' := 144) (a0 := (144, .inl (fun _ => 0))) hx hb (hts _ iA_108) rfl hK hP hD hS hA (fun _ => rfl) (by decide) (by decide) (by decide) (Nat.le_of_ble_eq_true rfl) (Nat.le_of_ble_eq_true rfl) dX10_init_158 (fun q16 cA H hK2 hP hD hS => ?_)
  have ec : cA = y 1 := n_cls1 hK2
  subst ec
  have hP : va_P D vwCl ([(h0, .inr (9, [.ref q0, .ref q1, .ref q2, .ref q3, .ref q4, .ref q5, .ref q6, .int 0, .int 0, .ref q7, .ref q8, .ref q9, .ref q10, .int 0, .int 0, .int 0, .ref q11, .int 0, .int 0, .int 0, .ref q12, .ref q13, .ref q14, .ref q15, .null, .null, .null, .null, .int 0, .int 0, .int 0])), (q0, .inl (y 1, 7, .inl (fun _ => 0))), (q1, .inl (y 1, 12, .inl (fun _ => 0))), (q2, .inl (y 1, 12, .inl (fun _ => 0))), (q3, .inl (y 1, 12, .inl (fun _ => 0))), (q4, .inl (y 1, 12, .inl (fun _ => 0))), (q5, .inl (y 1, 12, .inl (fun _ => 0))), (q6, .inl (y 1, 4, .inl (upd (upd (upd (upd (fun _ => 0) 0 230) 1 3) 2 100) 3 3))), (q7, .inl (y 1, 64, .inl (fun _ => 0))), (q8, .inl (y 1, 32, .inl (fun _ => 0))), (q9, .inl (y 1, 32, .inl (fun _ => 0))), (q10, .inl (y 1, 96, .inl (fun _ => 0))), (q11, .inl (y 1, 160, .inl (fun _ => 0))), (q12, .inl (y 1, 12, .inl (fun _ => 0))), (q13, .inl (y 1, 144, .inl (fun _ => 0))), (q14, .inl (y 1, 144, .inl (fun _ => 0))), (q15, .inl (y 1, 144, .inl (fun _ => 0))), (q16, .inl (y 1, 144, .inl (fun _ => 0)))]) H := hP
  have hD : va_D A ([(h0, .inr (9, [.ref q0, .ref q1, .ref q2, .ref q3, .ref q4, .ref q5, .ref q6, .int 0, .int 0, .ref q7, .ref q8, .ref q9, .ref q10, .int 0, .int 0, .int 0, .ref q11, .int 0, .int 0, .int 0, .ref q12, .ref q13, .ref q14, .ref q15, .null, .null, .null, .null, .int 0, .int 0, .int 0])), (q0, .inl (y 1, 7, .inl (fun _ => 0))), (q1, .inl (y 1, 12, .inl (fun _ => 0))), (q2, .inl (y 1, 12, .inl (fun _ => 0))), (q3, .inl (y 1, 12, .inl (fun _ => 0))), (q4, .inl (y 1, 12, .inl (fun _ => 0))), (q5, .inl (y 1, 12, .inl (fun _ => 0))), (q6, .inl (y 1, 4, .inl (upd (upd (upd (upd (fun _ => 0) 0 230) 1 3) 2 100) 3 3))), (q7, .inl (y 1, 64, .inl (fun _ => 0))), (q8, .inl (y 1, 32, .inl (fun _ => 0))), (q9, .inl (y 1, 32, .inl (fun _ => 0))), (q10, .inl (y 1, 96, .inl (fun _ => 0))), (q11, .inl (y 1, 160, .inl (fun _ => 0))), (q12, .inl (y 1, 12, .inl (fun _ => 0))), (q13, .inl (y 1, 144, .inl (fun _ => 0))), (q14, .inl (y 1, 144, .inl (fun _ => 0))), (q15, .inl (y 1, 144, .inl (fun _ => 0))), (q16, .inl (y 1, 144, .inl (fun _ => 0)))]) := hD
  refine W.widen (k := 17) (n := 1043) (by omega) (by omega) ?_
  refine va_putF (D := D) (ci := 9) (v := .ref q16) (ty := .array .int) (C := RX10) (T := TX10) (N := 31) hx hb hts wu_X10 tyX10 tyX10_ok nmX10 hown hK hP hD hS 0 rfl rfl 24 (by decide) (hts _ iA_738) (fun _ h9 => h9) rfl hin rfl (by decide +kernel) rfl rfl (Nat.le_of_ble_eq_true rfl) dX10_init_160 (fun H locs hP hD hS => ?_)
  have hP : va_P D vwCl ([(h0, .inr (9, [.ref q0, .ref q1, .ref q2, .ref q3, .ref q4, .ref q5, .ref q6, .int 0, .int 0, .ref q7, .ref q8, .ref q9, .ref q10, .int 0, .int 0, .int 0, .ref q11, .int 0, .int 0, .int 0, .ref q12, .ref q13, .ref q14, .ref q15, .ref q16, .null, .null, .null, .int 0, .int 0, .int 0])), (q0, .inl (y 1, 7, .inl (fun _ => 0))), (q1, .inl (y 1, 12, .inl (fun _ => 0))), (q2, .inl (y 1, 12, .inl (fun _ => 0))), (q3, .inl (y 1, 12, .inl (fun _ => 0))), (q4, .inl (y 1, 12, .inl (fun _ => 0))), (q5, .inl (y 1, 12, .inl (fun _ => 0))), (q6, .inl (y 1, 4, .inl (upd (upd (upd (upd (fun _ => 0) 0 230) 1 3) 2 100) 3 3))), (q7, .inl (y 1, 64, .inl (fun _ => 0))), (q8, .inl (y 1, 32, .inl (fun _ => 0))), (q9, .inl (y 1, 32, .inl (fun _ => 0))), (q10, .inl (y 1, 96, .inl (fun _ => 0))), (q11, .inl (y 1, 160, .inl (fun _ => 0))), (q12, .inl (y 1, 12, .inl (fun _ => 0))), (q13, .inl (y 1, 144, .inl (fun _ => 0))), (q14, .inl (y 1, 144, .inl (fun _ => 0))), (q15, .inl (y 1, 144, .inl (fun _ => 0))), (q16, .inl (y 1, 144, .inl (fun _ => 0)))]) H := hP
  have hD : va_D A ([(h0, .inr (9, [.ref q0, .ref q1, .ref q2, .ref q3, .ref q4, .ref q5, .ref q6, .int 0, .int 0, .ref q7, .ref q8, .ref q9, .ref q10, .int 0, .int 0, .int 0, .ref q11, .int 0, .int 0, .int 0, .ref q12, .ref q13, .ref q14, .ref q15, .ref q16, .null, .null, .null, .int 0, .int 0, .int 0])), (q0, .inl (y 1, 7, .inl (fun _ => 0))), (q1, .inl (y 1, 12, .inl (fun _ => 0))), (q2, .inl (y 1, 12, .inl (fun _ => 0))), (q3, .inl (y 1, 12, .inl (fun _ => 0))), (q4, .inl (y 1, 12, .inl (fun _ => 0))), (q5, .inl (y 1, 12, .inl (fun _ => 0))), (q6, .inl (y 1, 4, .inl (upd (upd (upd (upd (fun _ => 0) 0 230) 1 3) 2 100) 3 3))), (q7, .inl (y 1, 64, .inl (fun _ => 0))), (q8, .inl (y 1, 32, .inl (fun _ => 0))), (q9, .inl (y 1, 32, .inl (fun _ => 0))), (q10, .inl (y 1, 96, .inl (fun _ => 0))), (q11, .inl (y 1, 160, .inl (fun _ => 0))), (q12, .inl (y 1, 12, .inl (fun _ => 0))), (q13, .inl (y 1, 144, .inl (fun _ => 0))), (q14, .inl (y 1, 144, .inl (fun _ => 0))), (q15, .inl (y 1, 144, .inl (fun _ => 0))), (q16, .inl (y 1, 144, .inl (fun _ => 0)))]) := hD
  refine lv_aload_n hx hb dX10_init_163 rfl (lv_at hl 0 rfl) ?_
  refine lv_bipush (v := 12) hx hb dX10_init_164 (by decide) ?_
  refine va_newa (atype := .int) (ty := .int) (n := 12) (N' := 12) (a0 := (12, .inl (fun _ => 0))) hx hb (hts _ iA_108) rfl hK hP hD hS hA (fun _ => rfl) (by decide) (by decide) (by decide) (Nat.le_of_ble_eq_true rfl) (Nat.le_of_ble_eq_true rfl) dX10_init_166 (fun q17 cA H hK2 hP hD hS => ?_)
  have ec : cA = y 1 := n_cls1 hK2
  subst ec
  have hP : va_P D vwCl ([(h0, .inr (9, [.ref q0, .ref q1, .ref q2, .ref q3, .ref q4, .ref q5, .ref q6, .int 0, .int 0, .ref q7, .ref q8, .ref q9, .ref q10, .int 0, .int 0, .int 0, .ref q11, .int 0, .int 0, .int 0, .ref q12, .ref q13, .ref q14, .ref q15, .ref q16, .null, .null, .null, .int 0, .int 0, .int 0])), (q0, .inl (y 1, 7, .inl (fun _ => 0))), (q1, .inl (y 1, 12, .inl (fun _ => 0))), (q2, .inl (y 1, 12, .inl (fun _ => 0))), (q3, .inl (y 1, 12, .inl (fun _ => 0))), (q4, .inl (y 1, 12, .inl (fun _ => 0))), (q5, .inl (y 1, 12, .inl (fun _ => 0))), (q6, .inl (y 1, 4, .inl (upd (upd (upd (upd (fun _ => 0) 0 230) 1 3) 2 100) 3 3))), (q7, .inl (y 1, 64, .inl (fun _ => 0))), (q8, .inl (y 1, 32, .inl (fun _ => 0))), (q9, .inl (y 1, 32, .inl (fun _ => 0))), (q10, .inl (y 1, 96, .inl (fun _ => 0))), (q11, .inl (y 1, 160, .inl (fun _ => 0))), (q12, .inl (y 1, 12, .inl (fun _ => 0))), (q13, .inl (y 1, 144, .inl (fun _ => 0))), (q14, .inl (y 1, 144, .inl (fun _ => 0))), (q15, .inl (y 1, 144, .inl (fun _ => 0))), (q16, .inl (y 1, 144, .inl (fun _ => 0))), (q17, .inl (y 1, 12, .inl (fun _ => 0)))]) H := hP
  have hD : va_D A ([(h0, .inr (9, [.ref q0, .ref q1, .ref q2, .ref q3, .ref q4, .ref q5, .ref q6, .int 0, .int 0, .ref q7, .ref q8, .ref q9, .ref q10, .int 0, .int 0, .int 0, .ref q11, .int 0, .int 0, .int 0, .ref q12, .ref q13, .ref q14, .ref q15, .ref q16, .null, .null, .null, .int 0, .int 0, .int 0])), (q0, .inl (y 1, 7, .inl (fun _ => 0))), (q1, .inl (y 1, 12, .inl (fun _ => 0))), (q2, .inl (y 1, 12, .inl (fun _ => 0))), (q3, .inl (y 1, 12, .inl (fun _ => 0))), (q4, .inl (y 1, 12, .inl (fun _ => 0))), (q5, .inl (y 1, 12, .inl (fun _ => 0))), (q6, .inl (y 1, 4, .inl (upd (upd (upd (upd (fun _ => 0) 0 230) 1 3) 2 100) 3 3))), (q7, .inl (y 1, 64, .inl (fun _ => 0))), (q8, .inl (y 1, 32, .inl (fun _ => 0))), (q9, .inl (y 1, 32, .inl (fun _ => 0))), (q10, .inl (y 1, 96, .inl (fun _ => 0))), (q11, .inl (y 1, 160, .inl (fun _ => 0))), (q12, .inl (y 1, 12, .inl (fun _ => 0))), (q13, .inl (y 1, 144, .inl (fun _ => 0))), (q14, .inl (y 1, 144, .inl (fun _ => 0))), (q15, .inl (y 1, 144, .inl (fun _ => 0))), (q16, .inl (y 1, 144, .inl (fun _ => 0))), (q17, .inl (y 1, 12, .inl (fun _ => 0)))]) := hD
  refine W.widen (k := 18) (n := 1055) (by omega) (by omega) ?_
  refine va_putF (D := D) (ci := 9) (v := .ref q17) (ty := .array .int) (C := RX10) (T := TX10) (N := 31) hx hb hts wu_X10 tyX10 tyX10_ok nmX10 hown hK hP hD hS 0 rfl rfl 25 (by decide) (hts _ iA_739) (fun _ h9 => h9) rfl hin rfl (by decide +kernel) rfl rfl (Nat.le_of_ble_eq_true rfl) dX10_init_168 (fun H locs hP hD hS => ?_)
  have hP : va_P D vwCl ([(h0, .inr (9, [.ref q0, .ref q1, .ref q2, .ref q3, .ref q4, .ref q5, .ref q6, .int 0, .int 0, .ref q7, .ref q8, .ref q9, .ref q10, .int 0, .int 0, .int 0, .ref q11, .int 0, .int 0, .int 0, .ref q12, .ref q13, .ref q14, .ref q15, .ref q16, .ref q17, .null, .null, .int 0, .int 0, .int 0])), (q0, .inl (y 1, 7, .inl (fun _ => 0))), (q1, .inl (y 1, 12, .inl (fun _ => 0))), (q2, .inl (y 1, 12, .inl (fun _ => 0))), (q3, .inl (y 1, 12, .inl (fun _ => 0))), (q4, .inl (y 1, 12, .inl (fun _ => 0))), (q5, .inl (y 1, 12, .inl (fun _ => 0))), (q6, .inl (y 1, 4, .inl (upd (upd (upd (upd (fun _ => 0) 0 230) 1 3) 2 100) 3 3))), (q7, .inl (y 1, 64, .inl (fun _ => 0))), (q8, .inl (y 1, 32, .inl (fun _ => 0))), (q9, .inl (y 1, 32, .inl (fun _ => 0))), (q10, .inl (y 1, 96, .inl (fun _ => 0))), (q11, .inl (y 1, 160, .inl (fun _ => 0))), (q12, .inl (y 1, 12, .inl (fun _ => 0))), (q13, .inl (y 1, 144, .inl (fun _ => 0))), (q14, .inl (y 1, 144, .inl (fun _ => 0))), (q15, .inl (y 1, 144, .inl (fun _ => 0))), (q16, .inl (y 1, 144, .inl (fun _ => 0))), (q17, .inl (y 1, 12, .inl (fun _ => 0)))]) H := hP
  have hD : va_D A ([(h0, .inr (9, [.ref q0, .ref q1, .ref q2, .ref q3, .ref q4, .ref q5, .ref q6, .int 0, .int 0, .ref q7, .ref q8, .ref q9, .ref q10, .int 0, .int 0, .int 0, .ref q11, .int 0, .int 0, .int 0, .ref q12, .ref q13, .ref q14, .ref q15, .ref q16, .ref q17, .null, .null, .int 0, .int 0, .int 0])), (q0, .inl (y 1, 7, .inl (fun _ => 0))), (q1, .inl (y 1, 12, .inl (fun _ => 0))), (q2, .inl (y 1, 12, .inl (fun _ => 0))), (q3, .inl (y 1, 12, .inl (fun _ => 0))), (q4, .inl (y 1, 12, .inl (fun _ => 0))), (q5, .inl (y 1, 12, .inl (fun _ => 0))), (q6, .inl (y 1, 4, .inl (upd (upd (upd (upd (fun _ => 0) 0 230) 1 3) 2 100) 3 3))), (q7, .inl (y 1, 64, .inl (fun _ => 0))), (q8, .inl (y 1, 32, .inl (fun _ => 0))), (q9, .inl (y 1, 32, .inl (fun _ => 0))), (q10, .inl (y 1, 96, .inl (fun _ => 0))), (q11, .inl (y 1, 160, .inl (fun _ => 0))), (q12, .inl (y 1, 12, .inl (fun _ => 0))), (q13, .inl (y 1, 144, .inl (fun _ => 0))), (q14, .inl (y 1, 144, .inl (fun _ => 0))), (q15, .inl (y 1, 144, .inl (fun _ => 0))), (q16, .inl (y 1, 144, .inl (fun _ => 0))), (q17, .inl (y 1, 12, .inl (fun _ => 0)))]) := hD
  refine lv_aload_n hx hb dX10_init_171 rfl (lv_at hl 0 rfl) ?_
  refine lv_bipush (v := 6) hx hb dX10_init_172 (by decide) ?_
  refine va_newa (atype := .int) (ty := .int) (n := 6) (N' := 6) (a0 := (6, .inl (fun _ => 0))) hx hb (hts _ iA_108) rfl hK hP hD hS hA (fun _ => rfl) (by decide) (by decide) (by decide) (Nat.le_of_ble_eq_true rfl) (Nat.le_of_ble_eq_true rfl) dX10_init_174 (fun q18 cA H hK2 hP hD hS => ?_)
  have ec : cA = y 1 := n_cls1 hK2
  subst ec
  have hP : va_P D vwCl ([(h0, .inr (9, [.ref q0, .ref q1, .ref q2, .ref q3, .ref q4, .ref q5, .ref q6, .int 0, .int 0, .ref q7, .ref q8, .ref q9, .ref q10, .int 0, .int 0, .int 0, .ref q11, .int 0, .int 0, .int 0, .ref q12, .ref q13, .ref q14, .ref q15, .ref q16, .ref q17, .null, .null, .int 0, .int 0, .int 0])), (q0, .inl (y 1, 7, .inl (fun _ => 0))), (q1, .inl (y 1, 12, .inl (fun _ => 0))), (q2, .inl (y 1, 12, .inl (fun _ => 0))), (q3, .inl (y 1, 12, .inl (fun _ => 0))), (q4, .inl (y 1, 12, .inl (fun _ => 0))), (q5, .inl (y 1, 12, .inl (fun _ => 0))), (q6, .inl (y 1, 4, .inl (upd (upd (upd (upd (fun _ => 0) 0 230) 1 3) 2 100) 3 3))), (q7, .inl (y 1, 64, .inl (fun _ => 0))), (q8, .inl (y 1, 32, .inl (fun _ => 0))), (q9, .inl (y 1, 32, .inl (fun _ => 0))), (q10, .inl (y 1, 96, .inl (fun _ => 0))), (q11, .inl (y 1, 160, .inl (fun _ => 0))), (q12, .inl (y 1, 12, .inl (fun _ => 0))), (q13, .inl (y 1, 144, .inl (fun _ => 0))), (q14, .inl (y 1, 144, .inl (fun _ => 0))), (q15, .inl (y 1, 144, .inl (fun _ => 0))), (q16, .inl (y 1, 144, .inl (fun _ => 0))), (q17, .inl (y 1, 12, .inl (fun _ => 0))), (q18, .inl (y 1, 6, .inl (fun _ => 0)))]) H := hP
  have hD : va_D A ([(h0, .inr (9, [.ref q0, .ref q1, .ref q2, .ref q3, .ref q4, .ref q5, .ref q6, .int 0, .int 0, .ref q7, .ref q8, .ref q9, .ref q10, .int 0, .int 0, .int 0, .ref q11, .int 0, .int 0, .int 0, .ref q12, .ref q13, .ref q14, .ref q15, .ref q16, .ref q17, .null, .null, .int 0, .int 0, .int 0])), (q0, .inl (y 1, 7, .inl (fun _ => 0))), (q1, .inl (y 1, 12, .inl (fun _ => 0))), (q2, .inl (y 1, 12, .inl (fun _ => 0))), (q3, .inl (y 1, 12, .inl (fun _ => 0))), (q4, .inl (y 1, 12, .inl (fun _ => 0))), (q5, .inl (y 1, 12, .inl (fun _ => 0))), (q6, .inl (y 1, 4, .inl (upd (upd (upd (upd (fun _ => 0) 0 230) 1 3) 2 100) 3 3))), (q7, .inl (y 1, 64, .inl (fun _ => 0))), (q8, .inl (y 1, 32, .inl (fun _ => 0))), (q9, .inl (y 1, 32, .inl (fun _ => 0))), (q10, .inl (y 1, 96, .inl (fun _ => 0))), (q11, .inl (y 1, 160, .inl (fun _ => 0))), (q12, .inl (y 1, 12, .inl (fun _ => 0))), (q13, .inl (y 1, 144, .inl (fun _ => 0))), (q14, .inl (y 1, 144, .inl (fun _ => 0))), (q15, .inl (y 1, 144, .inl (fun _ => 0))), (q16, .inl (y 1, 144, .inl (fun _ => 0))), (q17, .inl (y 1, 12, .inl (fun _ => 0))), (q18, .inl (y 1, 6, .inl (fun _ => 0)))]) := hD
  refine W.widen (k := 19) (n := 1061) (by omega) (by omega) ?_
  refine va_putF (D := D) (ci := 9) (v := .ref q18) (ty := .array .int) (C := RX10) (T := TX10) (N := 31) hx hb hts wu_X10 tyX10 tyX10_ok nmX10 hown hK hP hD hS 0 rfl rfl 26 (by decide) (hts _ iA_740) (fun _ h9 => h9) rfl hin rfl (by decide +kernel) rfl rfl (Nat.le_of_ble_eq_true rfl) dX10_init_176 (fun H locs hP hD hS => ?_)
  have hP : va_P D vwCl ([(h0, .inr (9, [.ref q0, .ref q1, .ref q2, .ref q3, .ref q4, .ref q5, .ref q6, .int 0, .int 0, .ref q7, .ref q8, .ref q9, .ref q10, .int 0, .int 0, .int 0, .ref q11, .int 0, .int 0, .int 0, .ref q12, .ref q13, .ref q14, .ref q15, .ref q16, .ref q17, .ref q18, .null, .int 0, .int 0, .int 0])), (q0, .inl (y 1, 7, .inl (fun _ => 0))), (q1, .inl (y 1, 12, .inl (fun _ => 0))), (q2, .inl (y 1, 12, .inl (fun _ => 0))), (q3, .inl (y 1, 12, .inl (fun _ => 0))), (q4, .inl (y 1, 12, .inl (fun _ => 0))), (q5, .inl (y 1, 12, .inl (fun _ => 0))), (q6, .inl (y 1, 4, .inl (upd (upd (upd (upd (fun _ => 0) 0 230) 1 3) 2 100) 3 3))), (q7, .inl (y 1, 64, .inl (fun _ => 0))), (q8, .inl (y 1, 32, .inl (fun _ => 0))), (q9, .inl (y 1, 32, .inl (fun _ => 0))), (q10, .inl (y 1, 96, .inl (fun _ => 0))), (q11, .inl (y 1, 160, .inl (fun _ => 0))), (q12, .inl (y 1, 12, .inl (fun _ => 0))), (q13, .inl (y 1, 144, .inl (fun _ => 0))), (q14, .inl (y 1, 144, .inl (fun _ => 0))), (q15, .inl (y 1, 144, .inl (fun _ => 0))), (q16, .inl (y 1, 144, .inl (fun _ => 0))), (q17, .inl (y 1, 12, .inl (fun _ => 0))), (q18, .inl (y 1, 6, .inl (fun _ => 0)))]) H := hP
  have hD : va_D A ([(h0, .inr (9, [.ref q0, .ref q1, .ref q2, .ref q3, .ref q4, .ref q5, .ref q6, .int 0, .int 0, .ref q7, .ref q8, .ref q9, .ref q10, .int 0, .int 0, .int 0, .ref q11, .int 0, .int 0, .int 0, .ref q12, .ref q13, .ref q14, .ref q15, .ref q16, .ref q17, .ref q18, .null, .int 0, .int 0, .int 0])), (q0, .inl (y 1, 7, .inl (fun _ => 0))), (q1, .inl (y 1, 12, .inl (fun _ => 0))), (q2, .inl (y 1, 12, .inl (fun _ => 0))), (q3, .inl (y 1, 12, .inl (fun _ => 0))), (q4, .inl (y 1, 12, .inl (fun _ => 0))), (q5, .inl (y 1, 12, .inl (fun _ => 0))), (q6, .inl (y 1, 4, .inl (upd (upd (upd (upd (fun _ => 0) 0 230) 1 3) 2 100) 3 3))), (q7, .inl (y 1, 64, .inl (fun _ => 0))), (q8, .inl (y 1, 32, .inl (fun _ => 0))), (q9, .inl (y 1, 32, .inl (fun _ => 0))), (q10, .inl (y 1, 96, .inl (fun _ => 0))), (q11, .inl (y 1, 160, .inl (fun _ => 0))), (q12, .inl (y 1, 12, .inl (fun _ => 0))), (q13, .inl (y 1, 144, .inl (fun _ => 0))), (q14, .inl (y 1, 144, .inl (fun _ => 0))), (q15, .inl (y 1, 144, .inl (fun _ => 0))), (q16, .inl (y 1, 144, .inl (fun _ => 0))), (q17, .inl (y 1, 12, .inl (fun _ => 0))), (q18, .inl (y 1, 6, .inl (fun _ => 0)))]) := hD
  refine lv_aload_n hx hb dX10_init_179 rfl (lv_at hl 0 rfl) ?_
  refine lv_bipush (v := 6) hx hb dX10_init_180 (by decide) ?_
  refine va_newa (atype := .int) (ty := .int) (n := 6) (N' := 6) (a0 := (6, .inl (fun _ => 0))) hx hb (hts _ iA_108) rfl hK hP hD hS hA (fun _ => rfl) (by decide) (by decide) (by decide) (Nat.le_of_ble_eq_true rfl) (Nat.le_of_ble_eq_true rfl) dX10_init_182 (fun q19 cA H hK2 hP hD hS => ?_)
  have ec : cA = y 1 := n_cls1 hK2
  subst ec
  have hP : va_P D vwCl ([(h0, .inr (9, [.ref q0, .ref q1, .ref q2, .ref q3, .ref q4, .ref q5, .ref q6, .int 0, .int 0, .ref q7, .ref q8, .ref q9, .ref q10, .int 0, .int 0, .int 0, .ref q11, .int 0, .int 0, .int 0, .ref q12, .ref q13, .ref q14, .ref q15, .ref q16, .ref q17, .ref q18, .null, .int 0, .int 0, .int 0])), (q0, .inl (y 1, 7, .inl (fun _ => 0))), (q1, .inl (y 1, 12, .inl (fun _ => 0))), (q2, .inl (y 1, 12, .inl (fun _ => 0))), (q3, .inl (y 1, 12, .inl (fun _ => 0))), (q4, .inl (y 1, 12, .inl (fun _ => 0))), (q5, .inl (y 1, 12, .inl (fun _ => 0))), (q6, .inl (y 1, 4, .inl (upd (upd (upd (upd (fun _ => 0) 0 230) 1 3) 2 100) 3 3))), (q7, .inl (y 1, 64, .inl (fun _ => 0))), (q8, .inl (y 1, 32, .inl (fun _ => 0))), (q9, .inl (y 1, 32, .inl (fun _ => 0))), (q10, .inl (y 1, 96, .inl (fun _ => 0))), (q11, .inl (y 1, 160, .inl (fun _ => 0))), (q12, .inl (y 1, 12, .inl (fun _ => 0))), (q13, .inl (y 1, 144, .inl (fun _ => 0))), (q14, .inl (y 1, 144, .inl (fun _ => 0))), (q15, .inl (y 1, 144, .inl (fun _ => 0))), (q16, .inl (y 1, 144, .inl (fun _ => 0))), (q17, .inl (y 1, 12, .inl (fun _ => 0))), (q18, .inl (y 1, 6, .inl (fun _ => 0))), (q19, .inl (y 1, 6, .inl (fun _ => 0)))]) H := hP
  have hD : va_D A ([(h0, .inr (9, [.ref q0, .ref q1, .ref q2, .ref q3, .ref q4, .ref q5, .ref q6, .int 0, .int 0, .ref q7, .ref q8, .ref q9, .ref q10, .int 0, .int 0, .int 0, .ref q11, .int 0, .int 0, .int 0, .ref q12, .ref q13, .ref q14, .ref q15, .ref q16, .ref q17, .ref q18, .null, .int 0, .int 0, .int 0])), (q0, .inl (y 1, 7, .inl (fun _ => 0))), (q1, .inl (y 1, 12, .inl (fun _ => 0))), (q2, .inl (y 1, 12, .inl (fun _ => 0))), (q3, .inl (y 1, 12, .inl (fun _ => 0))), (q4, .inl (y 1, 12, .inl (fun _ => 0))), (q5, .inl (y 1, 12, .inl (fun _ => 0))), (q6, .inl (y 1, 4, .inl (upd (upd (upd (upd (fun _ => 0) 0 230) 1 3) 2 100) 3 3))), (q7, .inl (y 1, 64, .inl (fun _ => 0))), (q8, .inl (y 1, 32, .inl (fun _ => 0))), (q9, .inl (y 1, 32, .inl (fun _ => 0))), (q10, .inl (y 1, 96, .inl (fun _ => 0))), (q11, .inl (y 1, 160, .inl (fun _ => 0))), (q12, .inl (y 1, 12, .inl (fun _ => 0))), (q13, .inl (y 1, 144, .inl (fun _ => 0))), (q14, .inl (y 1, 144, .inl (fun _ => 0))), (q15, .inl (y 1, 144, .inl (fun _ => 0))), (q16, .inl (y 1, 144, .inl (fun _ => 0))), (q17, .inl (y 1, 12, .inl (fun _ => 0))), (q18, .inl (y 1, 6, .inl (fun _ => 0))), (q19, .inl (y 1, 6, .inl (fun _ => 0)))]) := hD
  refine W.widen (k := 20) (n := 1067) (by omega) (by omega) ?_
  refine va_putF (D := D) (ci := 9) (v := .ref q19) (ty := .array .int) (C := RX10) (T := TX10) (N := 31) hx hb hts wu_X10 tyX10 tyX10_ok nmX10 hown hK hP hD hS 0 rfl rfl 27 (by decide) (hts _ iA_741) (fun _ h9 => h9) rfl hin rfl (by decide +kernel) rfl rfl (Nat.le_of_ble_eq_true rfl) dX10_init_184 (fun H locs hP hD hS => ?_)
  have hP : va_P D vwCl ([(h0, .inr (9, [.ref q0, .ref q1, .ref q2, .ref q3, .ref q4, .ref q5, .ref q6, .int 0, .int 0, .ref q7, .ref q8, .ref q9, .ref q10, .int 0, .int 0, .int 0, .ref q11, .int 0, .int 0, .int 0, .ref q12, .ref q13, .ref q14, .ref q15, .ref q16, .ref q17, .ref q18, .ref q19, .int 0, .int 0, .int 0])), (q0, .inl (y 1, 7, .inl (fun _ => 0))), (q1, .inl (y 1, 12, .inl (fun _ => 0))), (q2, .inl (y 1, 12, .inl (fun _ => 0))), (q3, .inl (y 1, 12, .inl (fun _ => 0))), (q4, .inl (y 1, 12, .inl (fun _ => 0))), (q5, .inl (y 1, 12, .inl (fun _ => 0))), (q6, .inl (y 1, 4, .inl (upd (upd (upd (upd (fun _ => 0) 0 230) 1 3) 2 100) 3 3))), (q7, .inl (y 1, 64, .inl (fun _ => 0))), (q8, .inl (y 1, 32, .inl (fun _ => 0))), (q9, .inl (y 1, 32, .inl (fun _ => 0))), (q10, .inl (y 1, 96, .inl (fun _ => 0))), (q11, .inl (y 1, 160, .inl (fun _ => 0))), (q12, .inl (y 1, 12, .inl (fun _ => 0))), (q13, .inl (y 1, 144, .inl (fun _ => 0))), (q14, .inl (y 1, 144, .inl (fun _ => 0))), (q15, .inl (y 1, 144, .inl (fun _ => 0))), (q16, .inl (y 1, 144, .inl (fun _ => 0))), (q17, .inl (y 1, 12, .inl (fun _ => 0))), (q18, .inl (y 1, 6, .inl (fun _ => 0))), (q19, .inl (y 1, 6, .inl (fun _ => 0)))]) H := hP
  have hD : va_D A ([(h0, .inr (9, [.ref q0, .ref q1, .ref q2, .ref q3, .ref q4, .ref q5, .ref q6, .int 0, .int 0, .ref q7, .ref q8, .ref q9, .ref q10, .int 0, .int 0, .int 0, .ref q11, .int 0, .int 0, .int 0, .ref q12, .ref q13, .ref q14, .ref q15, .ref q16, .ref q17, .ref q18, .ref q19, .int 0, .int 0, .int 0])), (q0, .inl (y 1, 7, .inl (fun _ => 0))), (q1, .inl (y 1, 12, .inl (fun _ => 0))), (q2, .inl (y 1, 12, .inl (fun _ => 0))), (q3, .inl (y 1, 12, .inl (fun _ => 0))), (q4, .inl (y 1, 12, .inl (fun _ => 0))), (q5, .inl (y 1, 12, .inl (fun _ => 0))), (q6, .inl (y 1, 4, .inl (upd (upd (upd (upd (fun _ => 0) 0 230) 1 3) 2 100) 3 3))), (q7, .inl (y 1, 64, .inl (fun _ => 0))), (q8, .inl (y 1, 32, .inl (fun _ => 0))), (q9, .inl (y 1, 32, .inl (fun _ => 0))), (q10, .inl (y 1, 96, .inl (fun _ => 0))), (q11, .inl (y 1, 160, .inl (fun _ => 0))), (q12, .inl (y 1, 12, .inl (fun _ => 0))), (q13, .inl (y 1, 144, .inl (fun _ => 0))), (q14, .inl (y 1, 144, .inl (fun _ => 0))), (q15, .inl (y 1, 144, .inl (fun _ => 0))), (q16, .inl (y 1, 144, .inl (fun _ => 0))), (q17, .inl (y 1, 12, .inl (fun _ => 0))), (q18, .inl (y 1, 6, .inl (fun _ => 0))), (q19, .inl (y 1, 6, .inl (fun _ => 0)))]) := hD
  exact W.vret hx hb hr (fun t ht hW => ⟨⟨(fun k => [q0, q1, q2, q3, q4, q5, q6, q7, q8, q9, q10, q11, q12, q13, q14, q15, q16, q17, q18, q19].getD k 0), rfl, trivial, by rw [ht]; exact hP, hD⟩, hS.F ht⟩) hS.2.2 dX10_init_187
