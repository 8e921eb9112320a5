/-! part 38: constructors: the ways of a world that grows -/
abbrev nC : Type := Nat → ClassId
def nTy (y : nC) : List (ClassId × FieldType) := [(y 0, .char), (y 1, .int), (y 2, .object RX1), (y 3, .array .int)]
def va_AOA (ty : FieldType) (U : State) : Prop := (Cond.arrayOver (.array ty)).before #[] U = true
theorem va_AOA.of {ty : FieldType} {A : Array Value} {U : State} (h : (Cond.arrayOver (.array ty)).before A U = true) : va_AOA ty U := h
theorem va_AOA.use {ty : FieldType} {A : Array Value} {U : State} (h : va_AOA ty U) : (Cond.arrayOver (.array ty)).before A U = true := h
theorem va_AOA.warm {ty : FieldType} {s U : State} (hW : s.WarmedH U.vm) (h : va_AOA ty s) : va_AOA ty U := over_moved (a := #[]) (a' := #[]) hW.alike h
theorem va_AOA.same {ty : FieldType} {u U : State} (hv : u.vm = U.vm) (h : va_AOA ty u) : va_AOA ty U := over_moved (a := #[]) (a' := #[]) (by rw [hv]; exact Vm.Alike.refl U.vm) h
/-- the words that aren't good ones -/
def nN (U : State) : Prop := (va_Nw (.methodLinkNest RX5 21 yX1_init RX9) U ∧ va_Nw (.methodLinkNest RX9 21 yX4_init RX9) U ∧ va_Nw (.methodLinkNest RX9 28 yX2_init RX9) U ∧ va_Nw (.methodLinkNest RX9 35 yX7_init RX9) U) ∧ (va_Nw (.methodLinkNest RX9 42 yX3_init RX9) U ∧ va_Nw (.methodLinkNest RX9 49 yX6_init RX9) U ∧ va_Nw (.methodLinkNest RX9 56 yX8_init RX9) U) ∧ va_AO RX1 U ∧ va_AOA .int U
theorem nN.warm {s U : State} (hW : s.WarmedH U.vm) (h : nN s) : nN U := ⟨⟨h.1.1.warmM hW, h.1.2.1.warmM hW, h.1.2.2.1.warmM hW, h.1.2.2.2.warmM hW⟩, ⟨h.2.1.1.warmM hW, h.2.1.2.1.warmM hW, h.2.1.2.2.warmM hW⟩, va_AO.moved hW.alike h.2.2.1, va_AOA.warm hW h.2.2.2⟩
theorem nN.same {u U : State} (hv : u.vm = U.vm) (h : nN u) : nN U := ⟨⟨h.1.1.same rfl hv, h.1.2.1.same rfl hv, h.1.2.2.1.same rfl hv, h.1.2.2.2.same rfl hv⟩, ⟨h.2.1.1.same rfl hv, h.2.1.2.1.same rfl hv, h.2.1.2.2.same rfl hv⟩, va_AO.moved (by rw [hv]; exact Vm.Alike.refl U.vm) h.2.2.1, va_AOA.same hv h.2.2.2⟩
section
variable {D : va_G} {cl : List vw_C} {A0 : Nat → Prop} {wr w1 : va_W} {q : Nat} {d : va_E} {H H0 H1 : Heap} {locs : List Loc}
theorem n_last (hP : va_P D cl (wr ++ [(q, d)]) H) : va_P D cl [(q, d)] H := fun k x hx => by
  have hk : k < 1 := (List.getElem?_eq_some_iff.mp hx).1
  have hk0 : k = 0 := by omega
  subst hk0
  exact hP wr.length x (by rw [List.getElem?_append_right (Nat.le_refl _), Nat.sub_self]; exact hx)
theorem n_one (h0 : Nat) (d : va_E) : va_D (fun _ => True) [(h0, d)] := ⟨fun i j x z hi hj _ => by
    have h1 : i < 1 := (List.getElem?_eq_some_iff.mp hi).1
    have h2 : j < 1 := (List.getElem?_eq_some_iff.mp hj).1
    omega, fun _ _ _ => trivial⟩
theorem n_at (hD : va_D A0 (wr ++ [(q, d)])) : A0 q := hD.2 wr.length (q, d) (by rw [List.getElem?_append_right (Nat.le_refl _), Nat.sub_self]; rfl)
theorem n_free (hD : va_D A0 (wr ++ [(q, d)])) (hS : va_S A0 H0 H locs) (hA : ∀ x, H0.size ≤ x → A0 x) : ∀ x, va_A [(q, d)] H.size x → A0 x := by
  rintro x (⟨k, e, h⟩ | h)
  · have hk : k < 1 := (List.getElem?_eq_some_iff.mp h).1
    have hk0 : k = 0 := by omega
    subst hk0
    cases h
    exact n_at hD
  · exact hA x (Nat.le_trans hS.1 h)
theorem n_join (hP : va_P D cl (wr ++ [(q, d)]) H) (hD : va_D A0 (wr ++ [(q, d)])) (hk : ∀ x : Nat, x < H.size → ¬ va_A [(q, d)] H.size x → H1[x]? = H[x]?) (hF : ∀ x, va_A [(q, d)] H.size x → A0 x) (hP1 : va_P D cl w1 H1) (hD1 : va_D (va_A [(q, d)] H.size) w1) : va_P D cl (wr ++ w1) H1 ∧ va_D A0 (wr ++ w1) := by
  have out : ∀ (k : Nat) (x : Nat × va_E), wr[k]? = some x → x.1 < H.size ∧ ¬ va_A [(q, d)] H.size x.1 := by
    intro k x hx
    have hl : k < wr.length := (List.getElem?_eq_some_iff.mp hx).1
    have h1 : (wr ++ [(q, d)])[k]? = some x := by rw [List.getElem?_append_left hl]; exact hx
    have h2 := (hP k x h1).lt
    refine ⟨h2, ?_⟩
    rintro (⟨j, e, h⟩ | h)
    · have hj : j < 1 := (List.getElem?_eq_some_iff.mp h).1
      have hj0 : j = 0 := by omega
      subst hj0
      have e1 : q = x.1 := congrArg Prod.fst (Option.some.inj h)
      have h3 : (wr ++ [(q, d)])[wr.length]? = some (q, d) := by rw [List.getElem?_append_right (Nat.le_refl _), Nat.sub_self]; rfl
      have := hD.1 k wr.length x (q, d) h1 h3 e1.symm
      omega
    · omega
  have inr : ∀ (k : Nat) (x : Nat × va_E), wr[k]? = some x → (wr ++ [(q, d)])[k]? = some x := fun k x hx => by
    rw [List.getElem?_append_left (List.getElem?_eq_some_iff.mp hx).1]
    exact hx
  refine ⟨va_P.app (fun k x hx => (hP k x (inr k x hx)).kept (hk x.1 (out k x hx).1 (out k x hx).2)) hP1, ?_, ?_⟩
  · intro i j x z hi hj hxz
    by_cases h1 : i < wr.length
    · rw [List.getElem?_append_left h1] at hi
      by_cases h2 : j < wr.length
      · rw [List.getElem?_append_left h2] at hj
        exact hD.1 i j x z (inr i x hi) (inr j z hj) hxz
      · rw [List.getElem?_append_right (by omega)] at hj
        exact absurd (hD1.2 _ z hj) (by rw [← hxz]; exact (out i x hi).2)
    · rw [List.getElem?_append_right (by omega)] at hi
      by_cases h2 : j < wr.length
      · rw [List.getElem?_append_left h2] at hj
        exact absurd (hD1.2 _ x hi) (by rw [hxz]; exact (out j z hj).2)
      · rw [List.getElem?_append_right (by omega)] at hj
        have := hD1.1 _ _ x z hi hj hxz
        omega
  · intro k x hx
    by_cases h1 : k < wr.length
    · rw [List.getElem?_append_left h1] at hx
      exact hD.2 k x (inr k x hx)
    · rw [List.getElem?_append_right (by omega)] at hx
      exact hF x.1 (hD1.2 _ x hx)
end
def nPc (D : va_G) (y : nC) (h0 sz : Nat) (d : va_E) : Array Value → State → Prop := va_Pc [.ref h0] (fun U => U.heap.size = sz ∧ va_P D vwCl [(h0, d)] U.heap ∧ va_K D vwCl (nTy y) U ∧ nN U)
def nQc {S : Type} (D : va_G) (y : nC) (h0 sz : Nat) (d : va_E) (w : S → va_W) : Array Value → State → Outcome → State → Prop := va_Qv (fun _ : S => True) (fun u t => va_P D vwCl (w u) t.heap ∧ va_D (va_A [(h0, d)] sz) (w u)) (va_A [(h0, d)] sz)
def nMet {S : Type} (l : Launch) (x : MethodName) (ws : List Cond) (rm : Room) (D : va_G) (y : nC) (h0 sz : Nat) (d : va_E) (w : S → va_W) (mc ms : Nat) : Prop := Met l x ws rm (nPc D y h0 sz d) (nQc D y h0 sz d w) mc ms (va_A [(h0, d)] sz)
theorem nPc_blind (D : va_G) (y : nC) (h0 sz : Nat) (d : va_E) : FrameBlind (nPc D y h0 sz d) := fun _ U g mk q => ⟨q.1, q.2.1, q.2.2.1, va_K.moved (u := U) (U := U.calling g mk _) (Vm.Alike.refl U.vm) q.2.2.2.1, nN.same (u := U) (U := U.calling g mk _) rfl q.2.2.2.2⟩
