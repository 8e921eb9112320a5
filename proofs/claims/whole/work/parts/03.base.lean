/-! the system's memory as ints by cell and slot; references never change behind the constructors -/
abbrev wMem : Type := Nat → Nat → Int32
def wup (M : wMem) (k j : Nat) (v : Int32) : wMem := fun a => if a = k then upd (M k) j v else M a
/-- dC and dI; the address of each cell; the four kinds of arrays; the addresses of the four tables; the least address of the system -/
abbrev wE : Type := va_G × (Nat → Nat) × (Nat → ClassId) × (Nat → Nat) × Nat
def wD (E : wE) : va_G := E.1
def wad (E : wE) : Nat → Nat := E.2.1
def wcy (E : wE) : Nat → ClassId := E.2.2.1
def wst (E : wE) : Nat → Nat := E.2.2.2.1
def wbs (E : wE) : Nat := E.2.2.2.2
def wA (E : wE) : Nat → Prop := fun q => wbs E ≤ q
def wkL : List Nat := [8, 4, 22, 21, 0, 0, 0, 0, 0, 0, 0, 0, 0, 0, 0, 0, 4, 22, 21, 0, 0, 0, 0, 0, 0, 0, 0, 0, 0, 0, 0, 3, 4, 22, 21, 0, 0, 0, 0, 0, 0, 0, 0, 0, 0, 0, 0, 1, 20, 6, 2, 21, 21, 5, 23, 21, 21, 21, 21, 21, 21, 21, 21, 21, 21, 21, 21, 7, 21, 21, 9, 21, 21, 21, 21, 21, 21, 21, 21, 21, 21, 21, 21, 21, 21, 21, 21, 21, 21, 21, 21]
def wlL : List Nat := [0, 0, 12, 4, 0, 0, 0, 0, 0, 0, 0, 0, 0, 0, 0, 0, 0, 12, 4, 0, 0, 0, 0, 0, 0, 0, 0, 0, 0, 0, 0, 0, 0, 12, 4, 0, 0, 0, 0, 0, 0, 0, 0, 0, 0, 0, 0, 0, 64, 0, 0, 6, 6, 0, 12, 12, 12, 12, 12, 12, 12, 12, 12, 12, 12, 12, 12, 0, 12, 6, 0, 7, 12, 12, 12, 12, 12, 4, 64, 32, 32, 96, 160, 12, 144, 144, 144, 144, 12, 6, 6]
def wkd (k : Nat) : Nat := wkL.getD k 99
def wln (k : Nat) : Nat := wlL.getD k 0
def wen (E : wE) (k : Nat) (m : Nat → Int32) : va_E := match wkd k with
  | 0 => .inr (0, [.int (m 0), .int (m 1), .int (m 2), .int (m 3), .int (m 4)])
  | 1 => .inr (1, [.ref (wad E (k + 1)), .int (m 1)])
  | 2 => .inr (2, [.ref (wad E (k + 1)), .ref (wad E (k + 2)), .int (m 2)])
  | 3 => .inr (3, [.ref (wad E (k + 1))])
  | 4 => .inr (4, [.ref (wad E (k + 1)), .ref (wad E (k + 2)), .int (m 2), .int (m 3)])
  | 5 => .inr (5, [.ref (wad E (k + 1))])
  | 6 => .inr (6, [.int (m 0), .int (m 1), .int (m 2), .int (m 3), .int (m 4), .int (m 5)])
  | 7 => .inr (7, [.ref (wad E (k + 1))])
  | 8 => .inr (8, [.ref (wad E 1), .ref (wad E 16), .ref (wad E 31), .ref (wad E 47), .ref (wad E 49), .ref (wad E 50), .ref (wad E 53), .ref (wad E 67), .ref (wad E 69), .int (m 9)])
  | 9 => .inr (9, [.ref (wad E 71), .ref (wad E 72), .ref (wad E 73), .ref (wad E 74), .ref (wad E 75), .ref (wad E 76), .ref (wad E 77), .int (m 7), .int (m 8), .ref (wad E 78), .ref (wad E 79), .ref (wad E 80), .ref (wad E 81), .int (m 13), .int (m 14), .int (m 15), .ref (wad E 82), .int (m 17), .int (m 18), .int (m 19), .ref (wad E 83), .ref (wad E 84), .ref (wad E 85), .ref (wad E 86), .ref (wad E 87), .ref (wad E 88), .ref (wad E 89), .ref (wad E 90), .int (m 28), .int (m 29), .int (m 30)])
  | 20 => .inl (wcy E 0, wln k, .inl m)
  | 21 => .inl (wcy E 1, wln k, .inl m)
  | 22 => .inl (wcy E 2, wln k, .inr (.inr (.inr (.inr (fun i => some (wad E (k + 2 + i)))))))
  | _ => .inl (wcy E 3, wln k, .inr (.inr (.inr (.inr (fun i => some (wad E (k + 1 + i)))))))
theorem wen_0 {E : wE} {k : Nat} {m : Nat → Int32} (h : wkd k = 0) : wen E k m = .inr (0, [.int (m 0), .int (m 1), .int (m 2), .int (m 3), .int (m 4)]) := by simp only [wen, h]
theorem wen_1 {E : wE} {k : Nat} {m : Nat → Int32} (h : wkd k = 1) : wen E k m = .inr (1, [.ref (wad E (k + 1)), .int (m 1)]) := by simp only [wen, h]
theorem wen_2 {E : wE} {k : Nat} {m : Nat → Int32} (h : wkd k = 2) : wen E k m = .inr (2, [.ref (wad E (k + 1)), .ref (wad E (k + 2)), .int (m 2)]) := by simp only [wen, h]
theorem wen_3 {E : wE} {k : Nat} {m : Nat → Int32} (h : wkd k = 3) : wen E k m = .inr (3, [.ref (wad E (k + 1))]) := by simp only [wen, h]
theorem wen_4 {E : wE} {k : Nat} {m : Nat → Int32} (h : wkd k = 4) : wen E k m = .inr (4, [.ref (wad E (k + 1)), .ref (wad E (k + 2)), .int (m 2), .int (m 3)]) := by simp only [wen, h]
theorem wen_5 {E : wE} {k : Nat} {m : Nat → Int32} (h : wkd k = 5) : wen E k m = .inr (5, [.ref (wad E (k + 1))]) := by simp only [wen, h]
theorem wen_6 {E : wE} {k : Nat} {m : Nat → Int32} (h : wkd k = 6) : wen E k m = .inr (6, [.int (m 0), .int (m 1), .int (m 2), .int (m 3), .int (m 4), .int (m 5)]) := by simp only [wen, h]
theorem wen_7 {E : wE} {k : Nat} {m : Nat → Int32} (h : wkd k = 7) : wen E k m = .inr (7, [.ref (wad E (k + 1))]) := by simp only [wen, h]
theorem wen_8 {E : wE} {k : Nat} {m : Nat → Int32} (h : wkd k = 8) : wen E k m = .inr (8, [.ref (wad E 1), .ref (wad E 16), .ref (wad E 31), .ref (wad E 47), .ref (wad E 49), .ref (wad E 50), .ref (wad E 53), .ref (wad E 67), .ref (wad E 69), .int (m 9)]) := by simp only [wen, h]
theorem wen_9 {E : wE} {k : Nat} {m : Nat → Int32} (h : wkd k = 9) : wen E k m = .inr (9, [.ref (wad E 71), .ref (wad E 72), .ref (wad E 73), .ref (wad E 74), .ref (wad E 75), .ref (wad E 76), .ref (wad E 77), .int (m 7), .int (m 8), .ref (wad E 78), .ref (wad E 79), .ref (wad E 80), .ref (wad E 81), .int (m 13), .int (m 14), .int (m 15), .ref (wad E 82), .int (m 17), .int (m 18), .int (m 19), .ref (wad E 83), .ref (wad E 84), .ref (wad E 85), .ref (wad E 86), .ref (wad E 87), .ref (wad E 88), .ref (wad E 89), .ref (wad E 90), .int (m 28), .int (m 29), .int (m 30)]) := by simp only [wen, h]
theorem wen_20 {E : wE} {k : Nat} {m : Nat → Int32} (h : wkd k = 20) : wen E k m = .inl (wcy E 0, wln k, .inl m) := by simp only [wen, h]
theorem wen_21 {E : wE} {k : Nat} {m : Nat → Int32} (h : wkd k = 21) : wen E k m = .inl (wcy E 1, wln k, .inl m) := by simp only [wen, h]
theorem wen_22 {E : wE} {k : Nat} {m : Nat → Int32} (h : wkd k = 22) : wen E k m = .inl (wcy E 2, wln k, .inr (.inr (.inr (.inr (fun i => some (wad E (k + 2 + i))))))) := by simp only [wen, h]
theorem wen_23 {E : wE} {k : Nat} {m : Nat → Int32} (h : wkd k = 23) : wen E k m = .inl (wcy E 3, wln k, .inr (.inr (.inr (.inr (fun i => some (wad E (k + 1 + i))))))) := by simp only [wen, h]
theorem wkd_lt {k n : Nat} (h : wkd k = n) (hn : n ≠ 99) : k < 91 := Nat.lt_of_not_le fun hle => hn (by rw [← h]; unfold wkd; rw [List.getD_eq_getElem?_getD, List.getElem?_eq_none (show wkL.length ≤ k from hle)]; rfl)
theorem wlt_0 {k : Nat} (h : wkd k = 0) : k < 91 := wkd_lt h (by decide)
theorem wlt_1 {k : Nat} (h : wkd k = 1) : k < 91 := wkd_lt h (by decide)
theorem wlt_2 {k : Nat} (h : wkd k = 2) : k < 91 := wkd_lt h (by decide)
theorem wlt_3 {k : Nat} (h : wkd k = 3) : k < 91 := wkd_lt h (by decide)
theorem wlt_4 {k : Nat} (h : wkd k = 4) : k < 91 := wkd_lt h (by decide)
theorem wlt_5 {k : Nat} (h : wkd k = 5) : k < 91 := wkd_lt h (by decide)
theorem wlt_6 {k : Nat} (h : wkd k = 6) : k < 91 := wkd_lt h (by decide)
theorem wlt_7 {k : Nat} (h : wkd k = 7) : k < 91 := wkd_lt h (by decide)
theorem wlt_8 {k : Nat} (h : wkd k = 8) : k < 91 := wkd_lt h (by decide)
theorem wlt_9 {k : Nat} (h : wkd k = 9) : k < 91 := wkd_lt h (by decide)
theorem wlt_20 {k : Nat} (h : wkd k = 20) : k < 91 := wkd_lt h (by decide)
theorem wlt_21 {k : Nat} (h : wkd k = 21) : k < 91 := wkd_lt h (by decide)
theorem wlt_22 {k : Nat} (h : wkd k = 22) : k < 91 := wkd_lt h (by decide)
theorem wlt_23 {k : Nat} (h : wkd k = 23) : k < 91 := wkd_lt h (by decide)
theorem wpt_0_0 {E : wE} {k : Nat} {m : Nat → Int32} {v : Int32} (h : wkd k = 0) : (Sum.inr (0, ([.int (m 0), .int (m 1), .int (m 2), .int (m 3), .int (m 4)] : List Value).set 0 (.int v)) : va_E) = wen E k (upd m 0 v) := by rw [wen_0 h]; rfl
theorem wpt_0_1 {E : wE} {k : Nat} {m : Nat → Int32} {v : Int32} (h : wkd k = 0) : (Sum.inr (0, ([.int (m 0), .int (m 1), .int (m 2), .int (m 3), .int (m 4)] : List Value).set 1 (.int v)) : va_E) = wen E k (upd m 1 v) := by rw [wen_0 h]; rfl
theorem wpt_0_2 {E : wE} {k : Nat} {m : Nat → Int32} {v : Int32} (h : wkd k = 0) : (Sum.inr (0, ([.int (m 0), .int (m 1), .int (m 2), .int (m 3), .int (m 4)] : List Value).set 2 (.int v)) : va_E) = wen E k (upd m 2 v) := by rw [wen_0 h]; rfl
theorem wpt_0_3 {E : wE} {k : Nat} {m : Nat → Int32} {v : Int32} (h : wkd k = 0) : (Sum.inr (0, ([.int (m 0), .int (m 1), .int (m 2), .int (m 3), .int (m 4)] : List Value).set 3 (.int v)) : va_E) = wen E k (upd m 3 v) := by rw [wen_0 h]; rfl
theorem wpt_0_4 {E : wE} {k : Nat} {m : Nat → Int32} {v : Int32} (h : wkd k = 0) : (Sum.inr (0, ([.int (m 0), .int (m 1), .int (m 2), .int (m 3), .int (m 4)] : List Value).set 4 (.int v)) : va_E) = wen E k (upd m 4 v) := by rw [wen_0 h]; rfl
theorem wpt_1_1 {E : wE} {k : Nat} {m : Nat → Int32} {v : Int32} (h : wkd k = 1) : (Sum.inr (1, ([.ref (wad E (k + 1)), .int (m 1)] : List Value).set 1 (.int v)) : va_E) = wen E k (upd m 1 v) := by rw [wen_1 h]; rfl
theorem wpt_2_2 {E : wE} {k : Nat} {m : Nat → Int32} {v : Int32} (h : wkd k = 2) : (Sum.inr (2, ([.ref (wad E (k + 1)), .ref (wad E (k + 2)), .int (m 2)] : List Value).set 2 (.int v)) : va_E) = wen E k (upd m 2 v) := by rw [wen_2 h]; rfl
theorem wpt_4_2 {E : wE} {k : Nat} {m : Nat → Int32} {v : Int32} (h : wkd k = 4) : (Sum.inr (4, ([.ref (wad E (k + 1)), .ref (wad E (k + 2)), .int (m 2), .int (m 3)] : List Value).set 2 (.int v)) : va_E) = wen E k (upd m 2 v) := by rw [wen_4 h]; rfl
theorem wpt_4_3 {E : wE} {k : Nat} {m : Nat → Int32} {v : Int32} (h : wkd k = 4) : (Sum.inr (4, ([.ref (wad E (k + 1)), .ref (wad E (k + 2)), .int (m 2), .int (m 3)] : List Value).set 3 (.int v)) : va_E) = wen E k (upd m 3 v) := by rw [wen_4 h]; rfl
theorem wpt_6_0 {E : wE} {k : Nat} {m : Nat → Int32} {v : Int32} (h : wkd k = 6) : (Sum.inr (6, ([.int (m 0), .int (m 1), .int (m 2), .int (m 3), .int (m 4), .int (m 5)] : List Value).set 0 (.int v)) : va_E) = wen E k (upd m 0 v) := by rw [wen_6 h]; rfl
theorem wpt_6_1 {E : wE} {k : Nat} {m : Nat → Int32} {v : Int32} (h : wkd k = 6) : (Sum.inr (6, ([.int (m 0), .int (m 1), .int (m 2), .int (m 3), .int (m 4), .int (m 5)] : List Value).set 1 (.int v)) : va_E) = wen E k (upd m 1 v) := by rw [wen_6 h]; rfl
theorem wpt_6_2 {E : wE} {k : Nat} {m : Nat → Int32} {v : Int32} (h : wkd k = 6) : (Sum.inr (6, ([.int (m 0), .int (m 1), .int (m 2), .int (m 3), .int (m 4), .int (m 5)] : List Value).set 2 (.int v)) : va_E) = wen E k (upd m 2 v) := by rw [wen_6 h]; rfl
theorem wpt_6_3 {E : wE} {k : Nat} {m : Nat → Int32} {v : Int32} (h : wkd k = 6) : (Sum.inr (6, ([.int (m 0), .int (m 1), .int (m 2), .int (m 3), .int (m 4), .int (m 5)] : List Value).set 3 (.int v)) : va_E) = wen E k (upd m 3 v) := by rw [wen_6 h]; rfl
theorem wpt_6_4 {E : wE} {k : Nat} {m : Nat → Int32} {v : Int32} (h : wkd k = 6) : (Sum.inr (6, ([.int (m 0), .int (m 1), .int (m 2), .int (m 3), .int (m 4), .int (m 5)] : List Value).set 4 (.int v)) : va_E) = wen E k (upd m 4 v) := by rw [wen_6 h]; rfl
theorem wpt_6_5 {E : wE} {k : Nat} {m : Nat → Int32} {v : Int32} (h : wkd k = 6) : (Sum.inr (6, ([.int (m 0), .int (m 1), .int (m 2), .int (m 3), .int (m 4), .int (m 5)] : List Value).set 5 (.int v)) : va_E) = wen E k (upd m 5 v) := by rw [wen_6 h]; rfl
theorem wpt_8_9 {E : wE} {k : Nat} {m : Nat → Int32} {v : Int32} (h : wkd k = 8) : (Sum.inr (8, ([.ref (wad E 1), .ref (wad E 16), .ref (wad E 31), .ref (wad E 47), .ref (wad E 49), .ref (wad E 50), .ref (wad E 53), .ref (wad E 67), .ref (wad E 69), .int (m 9)] : List Value).set 9 (.int v)) : va_E) = wen E k (upd m 9 v) := by rw [wen_8 h]; rfl
theorem wpt_9_7 {E : wE} {k : Nat} {m : Nat → Int32} {v : Int32} (h : wkd k = 9) : (Sum.inr (9, ([.ref (wad E 71), .ref (wad E 72), .ref (wad E 73), .ref (wad E 74), .ref (wad E 75), .ref (wad E 76), .ref (wad E 77), .int (m 7), .int (m 8), .ref (wad E 78), .ref (wad E 79), .ref (wad E 80), .ref (wad E 81), .int (m 13), .int (m 14), .int (m 15), .ref (wad E 82), .int (m 17), .int (m 18), .int (m 19), .ref (wad E 83), .ref (wad E 84), .ref (wad E 85), .ref (wad E 86), .ref (wad E 87), .ref (wad E 88), .ref (wad E 89), .ref (wad E 90), .int (m 28), .int (m 29), .int (m 30)] : List Value).set 7 (.int v)) : va_E) = wen E k (upd m 7 v) := by rw [wen_9 h]; rfl
theorem wpt_9_8 {E : wE} {k : Nat} {m : Nat → Int32} {v : Int32} (h : wkd k = 9) : (Sum.inr (9, ([.ref (wad E 71), .ref (wad E 72), .ref (wad E 73), .ref (wad E 74), .ref (wad E 75), .ref (wad E 76), .ref (wad E 77), .int (m 7), .int (m 8), .ref (wad E 78), .ref (wad E 79), .ref (wad E 80), .ref (wad E 81), .int (m 13), .int (m 14), .int (m 15), .ref (wad E 82), .int (m 17), .int (m 18), .int (m 19), .ref (wad E 83), .ref (wad E 84), .ref (wad E 85), .ref (wad E 86), .ref (wad E 87), .ref (wad E 88), .ref (wad E 89), .ref (wad E 90), .int (m 28), .int (m 29), .int (m 30)] : List Value).set 8 (.int v)) : va_E) = wen E k (upd m 8 v) := by rw [wen_9 h]; rfl
theorem wpt_9_13 {E : wE} {k : Nat} {m : Nat → Int32} {v : Int32} (h : wkd k = 9) : (Sum.inr (9, ([.ref (wad E 71), .ref (wad E 72), .ref (wad E 73), .ref (wad E 74), .ref (wad E 75), .ref (wad E 76), .ref (wad E 77), .int (m 7), .int (m 8), .ref (wad E 78), .ref (wad E 79), .ref (wad E 80), .ref (wad E 81), .int (m 13), .int (m 14), .int (m 15), .ref (wad E 82), .int (m 17), .int (m 18), .int (m 19), .ref (wad E 83), .ref (wad E 84), .ref (wad E 85), .ref (wad E 86), .ref (wad E 87), .ref (wad E 88), .ref (wad E 89), .ref (wad E 90), .int (m 28), .int (m 29), .int (m 30)] : List Value).set 13 (.int v)) : va_E) = wen E k (upd m 13 v) := by rw [wen_9 h]; rfl
theorem wpt_9_14 {E : wE} {k : Nat} {m : Nat → Int32} {v : Int32} (h : wkd k = 9) : (Sum.inr (9, ([.ref (wad E 71), .ref (wad E 72), .ref (wad E 73), .ref (wad E 74), .ref (wad E 75), .ref (wad E 76), .ref (wad E 77), .int (m 7), .int (m 8), .ref (wad E 78), .ref (wad E 79), .ref (wad E 80), .ref (wad E 81), .int (m 13), .int (m 14), .int (m 15), .ref (wad E 82), .int (m 17), .int (m 18), .int (m 19), .ref (wad E 83), .ref (wad E 84), .ref (wad E 85), .ref (wad E 86), .ref (wad E 87), .ref (wad E 88), .ref (wad E 89), .ref (wad E 90), .int (m 28), .int (m 29), .int (m 30)] : List Value).set 14 (.int v)) : va_E) = wen E k (upd m 14 v) := by rw [wen_9 h]; rfl
theorem wpt_9_15 {E : wE} {k : Nat} {m : Nat → Int32} {v : Int32} (h : wkd k = 9) : (Sum.inr (9, ([.ref (wad E 71), .ref (wad E 72), .ref (wad E 73), .ref (wad E 74), .ref (wad E 75), .ref (wad E 76), .ref (wad E 77), .int (m 7), .int (m 8), .ref (wad E 78), .ref (wad E 79), .ref (wad E 80), .ref (wad E 81), .int (m 13), .int (m 14), .int (m 15), .ref (wad E 82), .int (m 17), .int (m 18), .int (m 19), .ref (wad E 83), .ref (wad E 84), .ref (wad E 85), .ref (wad E 86), .ref (wad E 87), .ref (wad E 88), .ref (wad E 89), .ref (wad E 90), .int (m 28), .int (m 29), .int (m 30)] : List Value).set 15 (.int v)) : va_E) = wen E k (upd m 15 v) := by rw [wen_9 h]; rfl
theorem wpt_9_17 {E : wE} {k : Nat} {m : Nat → Int32} {v : Int32} (h : wkd k = 9) : (Sum.inr (9, ([.ref (wad E 71), .ref (wad E 72), .ref (wad E 73), .ref (wad E 74), .ref (wad E 75), .ref (wad E 76), .ref (wad E 77), .int (m 7), .int (m 8), .ref (wad E 78), .ref (wad E 79), .ref (wad E 80), .ref (wad E 81), .int (m 13), .int (m 14), .int (m 15), .ref (wad E 82), .int (m 17), .int (m 18), .int (m 19), .ref (wad E 83), .ref (wad E 84), .ref (wad E 85), .ref (wad E 86), .ref (wad E 87), .ref (wad E 88), .ref (wad E 89), .ref (wad E 90), .int (m 28), .int (m 29), .int (m 30)] : List Value).set 17 (.int v)) : va_E) = wen E k (upd m 17 v) := by rw [wen_9 h]; rfl
theorem wpt_9_18 {E : wE} {k : Nat} {m : Nat → Int32} {v : Int32} (h : wkd k = 9) : (Sum.inr (9, ([.ref (wad E 71), .ref (wad E 72), .ref (wad E 73), .ref (wad E 74), .ref (wad E 75), .ref (wad E 76), .ref (wad E 77), .int (m 7), .int (m 8), .ref (wad E 78), .ref (wad E 79), .ref (wad E 80), .ref (wad E 81), .int (m 13), .int (m 14), .int (m 15), .ref (wad E 82), .int (m 17), .int (m 18), .int (m 19), .ref (wad E 83), .ref (wad E 84), .ref (wad E 85), .ref (wad E 86), .ref (wad E 87), .ref (wad E 88), .ref (wad E 89), .ref (wad E 90), .int (m 28), .int (m 29), .int (m 30)] : List Value).set 18 (.int v)) : va_E) = wen E k (upd m 18 v) := by rw [wen_9 h]; rfl
theorem wpt_9_19 {E : wE} {k : Nat} {m : Nat → Int32} {v : Int32} (h : wkd k = 9) : (Sum.inr (9, ([.ref (wad E 71), .ref (wad E 72), .ref (wad E 73), .ref (wad E 74), .ref (wad E 75), .ref (wad E 76), .ref (wad E 77), .int (m 7), .int (m 8), .ref (wad E 78), .ref (wad E 79), .ref (wad E 80), .ref (wad E 81), .int (m 13), .int (m 14), .int (m 15), .ref (wad E 82), .int (m 17), .int (m 18), .int (m 19), .ref (wad E 83), .ref (wad E 84), .ref (wad E 85), .ref (wad E 86), .ref (wad E 87), .ref (wad E 88), .ref (wad E 89), .ref (wad E 90), .int (m 28), .int (m 29), .int (m 30)] : List Value).set 19 (.int v)) : va_E) = wen E k (upd m 19 v) := by rw [wen_9 h]; rfl
theorem wpt_9_28 {E : wE} {k : Nat} {m : Nat → Int32} {v : Int32} (h : wkd k = 9) : (Sum.inr (9, ([.ref (wad E 71), .ref (wad E 72), .ref (wad E 73), .ref (wad E 74), .ref (wad E 75), .ref (wad E 76), .ref (wad E 77), .int (m 7), .int (m 8), .ref (wad E 78), .ref (wad E 79), .ref (wad E 80), .ref (wad E 81), .int (m 13), .int (m 14), .int (m 15), .ref (wad E 82), .int (m 17), .int (m 18), .int (m 19), .ref (wad E 83), .ref (wad E 84), .ref (wad E 85), .ref (wad E 86), .ref (wad E 87), .ref (wad E 88), .ref (wad E 89), .ref (wad E 90), .int (m 28), .int (m 29), .int (m 30)] : List Value).set 28 (.int v)) : va_E) = wen E k (upd m 28 v) := by rw [wen_9 h]; rfl
theorem wpt_9_29 {E : wE} {k : Nat} {m : Nat → Int32} {v : Int32} (h : wkd k = 9) : (Sum.inr (9, ([.ref (wad E 71), .ref (wad E 72), .ref (wad E 73), .ref (wad E 74), .ref (wad E 75), .ref (wad E 76), .ref (wad E 77), .int (m 7), .int (m 8), .ref (wad E 78), .ref (wad E 79), .ref (wad E 80), .ref (wad E 81), .int (m 13), .int (m 14), .int (m 15), .ref (wad E 82), .int (m 17), .int (m 18), .int (m 19), .ref (wad E 83), .ref (wad E 84), .ref (wad E 85), .ref (wad E 86), .ref (wad E 87), .ref (wad E 88), .ref (wad E 89), .ref (wad E 90), .int (m 28), .int (m 29), .int (m 30)] : List Value).set 29 (.int v)) : va_E) = wen E k (upd m 29 v) := by rw [wen_9 h]; rfl
theorem wpt_9_30 {E : wE} {k : Nat} {m : Nat → Int32} {v : Int32} (h : wkd k = 9) : (Sum.inr (9, ([.ref (wad E 71), .ref (wad E 72), .ref (wad E 73), .ref (wad E 74), .ref (wad E 75), .ref (wad E 76), .ref (wad E 77), .int (m 7), .int (m 8), .ref (wad E 78), .ref (wad E 79), .ref (wad E 80), .ref (wad E 81), .int (m 13), .int (m 14), .int (m 15), .ref (wad E 82), .int (m 17), .int (m 18), .int (m 19), .ref (wad E 83), .ref (wad E 84), .ref (wad E 85), .ref (wad E 86), .ref (wad E 87), .ref (wad E 88), .ref (wad E 89), .ref (wad E 90), .int (m 28), .int (m 29), .int (m 30)] : List Value).set 30 (.int v)) : va_E) = wen E k (upd m 30 v) := by rw [wen_9 h]; rfl
theorem wk_row0 : ∀ k, k < 91 → wkd k = 4 → (wkd (k + 1) = 22 ∧ wkd (k + 2) = 21 ∧ wln (k + 1) = 12 ∧ wln (k + 2) = 4) := by decide +kernel
theorem wk_lmp0 : ∀ k, k < 91 → wkd k = 22 → (wln k = 12 ∧ ∀ i, i < 12 → wkd (k + 2 + i) = 0) := by decide +kernel
theorem wk_lst0 : ∀ k, k < 91 → wkd k = 23 → (wln k = 12 ∧ ∀ i, i < 12 → (wkd (k + 1 + i) = 21 ∧ wln (k + 1 + i) = 12)) := by decide +kernel
theorem wk4_1 {k : Nat} (h : wkd k = 4) : wkd (k + 1) = 22 := (wk_row0 k (wkd_lt h (by decide)) h).1
theorem wk4_2 {k : Nat} (h : wkd k = 4) : wkd (k + 2) = 21 := (wk_row0 k (wkd_lt h (by decide)) h).2.1
theorem wl4_2 {k : Nat} (h : wkd k = 4) : wln (k + 2) = 4 := (wk_row0 k (wkd_lt h (by decide)) h).2.2.2
theorem wl22 {k : Nat} (h : wkd k = 22) : wln k = 12 := (wk_lmp0 k (wkd_lt h (by decide)) h).1
theorem wl23 {k : Nat} (h : wkd k = 23) : wln k = 12 := (wk_lst0 k (wkd_lt h (by decide)) h).1
theorem wix_lt {i : Int32} {n : Nat} (h : vp_in i n) : i.toNatClampNeg < n := Nat.not_le.mp fun q => h (Or.inr q)
theorem wk22_i {k : Nat} {i : Int32} (h : wkd k = 22) (hi : vp_in i 12) : wkd (k + 2 + i.toNatClampNeg) = 0 := (wk_lmp0 k (wkd_lt h (by decide)) h).2 _ (wix_lt hi)
theorem wk23_i {k : Nat} {i : Int32} (h : wkd k = 23) (hi : vp_in i 12) : wkd (k + 1 + i.toNatClampNeg) = 21 := ((wk_lst0 k (wkd_lt h (by decide)) h).2 _ (wix_lt hi)).1
theorem wl23_i {k : Nat} {i : Int32} (h : wkd k = 23) (hi : vp_in i 12) : wln (k + 1 + i.toNatClampNeg) = 12 := ((wk_lst0 k (wkd_lt h (by decide)) h).2 _ (wix_lt hi)).2
/-! the words of the pure functions that the methods are: a name for a value, a look at an index, at a divisor, at a truth value, a loop -/
def wlet {α β : Type} (e : α) (f : α → Option β) : Option β := f e
theorem wlet_y {α β : Type} {x e : α} {f : α → Option β} {r : β} (ex : x = e) (h : wlet e f = some r) : f x = some r := by subst ex; exact h
def wpr {α β γ : Type} (f : α → β → Option γ) : α × β → Option γ := fun q => f q.1 q.2
theorem wbind_p {α β γ : Type} {o : Option (α × β)} {f : α → β → Option γ} {r : γ} (h : o.bind (wpr f) = some r) : ∃ a b, o = some (a, b) ∧ f a b = some r := by
  obtain ⟨⟨a, b⟩, h1, h2⟩ := Option.bind_eq_some_iff.mp h
  exact ⟨a, b, h1, h2⟩
theorem wlet_e {α β : Type} {e : α} {f : α → Option β} {r : β} (h : wlet e f = some r) : ∃ x, x = e ∧ f x = some r := ⟨e, rfl, h⟩
theorem wbind_e {α β : Type} {o : Option α} {f : α → Option β} {r : β} (h : o.bind f = some r) : ∃ x, o = some x ∧ f x = some r := Option.bind_eq_some_iff.mp h
def wgi {β : Type} (i : Int32) (n : Nat) (a : Option β) : Option β := if 0 ≤ i.toInt ∧ i.toInt < n then a else none
theorem wgi_e {β : Type} {i : Int32} {n : Nat} {a : Option β} {r : β} (h : wgi i n a = some r) : vp_in i n ∧ a = some r := by
  unfold wgi at h
  by_cases q : 0 ≤ i.toInt ∧ i.toInt < n
  · rw [if_pos q] at h
    exact ⟨vp_in_iff.mpr q, h⟩
  · rw [if_neg q] at h
    cases h
def wgz {β : Type} (y : Int32) (a : Option β) : Option β := if y = 0 then none else a
theorem wgz_e {β : Type} {y : Int32} {a : Option β} {r : β} (h : wgz y a = some r) : ¬ y = 0 ∧ a = some r := by
  unfold wgz at h
  by_cases q : y = 0
  · rw [if_pos q] at h
    cases h
  · rw [if_neg q] at h
    exact ⟨q, h⟩
def wgzl {β : Type} (y : Int64) (a : Option β) : Option β := if y = 0 then none else a
theorem wgzl_e {β : Type} {y : Int64} {a : Option β} {r : β} (h : wgzl y a = some r) : ¬ y = 0 ∧ a = some r := by
  unfold wgzl at h
  by_cases q : y = 0
  · rw [if_pos q] at h
    cases h
  · rw [if_neg q] at h
    exact ⟨q, h⟩
def wb (b : Bool) : Int32 := if b then 1 else 0
theorem wb_n (b : Bool) : narrow .boolean (.int (wb b)) = .int (wb b) := by cases b <;> rfl
theorem wb_f (b : Bool) : fits .boolean (.int (wb b)) = true := by cases b <;> rfl
def wrb {β : Type} (x : Int32) (f : Bool → Option β) : Option β := if x = 0 then f false else if x = 1 then f true else none
theorem wrb_e {β : Type} {x : Int32} {f : Bool → Option β} {r : β} (h : wrb x f = some r) : ∃ b, x = wb b ∧ f b = some r := by
  unfold wrb at h
  by_cases q : x = 0
  · rw [if_pos q] at h
    exact ⟨false, q, h⟩
  · rw [if_neg q] at h
    by_cases q1 : x = 1
    · rw [if_pos q1] at h
      exact ⟨true, q1, h⟩
    · rw [if_neg q1] at h
      cases h
theorem wif_e {β : Type} {c : Prop} {_ : Decidable c} {a b : Option β} {r : β} (h : (if c then a else b) = some r) : (c ∧ a = some r) ∨ (¬ c ∧ b = some r) := by
  by_cases q : c
  · rw [if_pos q] at h
    exact Or.inl ⟨q, h⟩
  · rw [if_neg q] at h
    exact Or.inr ⟨q, h⟩
def wloop {S β : Type} (b : (S → Option β) → S → Option β) : Nat → S → Option β
  | 0 => fun _ => none
  | n + 1 => b (wloop b n)
theorem wloop_W {S β : Type} {b : (S → Option β) → S → Option β} {P : S → Prop} {r : β} (h : ∀ rec : S → Option β, (∀ s, rec s = some r → P s) → ∀ s, b rec s = some r → P s) : ∀ (n : Nat) (s : S), wloop b n s = some r → P s
  | 0, _, hf => by cases hf
  | n + 1, s, hf => h (wloop b n) (fun s hs => wloop_W h n s hs) s hf
noncomputable def wfuel : Nat := Classical.choose (⟨2000, rfl⟩ : ∃ n : Nat, n = 2000)
theorem wfuel_is : wfuel = 2000 := Classical.choose_spec (⟨2000, rfl⟩ : ∃ n : Nat, n = 2000)
theorem wlet_eq {α β : Type} (e : α) (f : α → Option β) : wlet e f = f e := Eq.trans rfl rfl
/-! the world -/
def wws (E : wE) (M : wMem) : va_W := (List.range 91).map fun k => (wad E k, wen E k (M k))
def wH (E : wE) (M : wMem) (H : Heap) : Prop := va_P (wD E) vwCl (wws E M) H
def wtys (E : wE) : List (ClassId × FieldType) := [(wcy E 0, .char), (wcy E 1, .int), (wcy E 2, .object RX1), (wcy E 3, .array .int)]
def wV (E : wE) (U : State) : Prop := va_K (wD E) vwCl (wtys E) U
def wG (E : wE) : Prop := (∀ i j, i < 91 → j < 91 → wad E i = wad E j → i = j) ∧ ∀ k, k < 91 → wbs E ≤ wad E k
def wtab (t : Nat) (j : Nat) : Int32 := match t with
  | 0 => ([1, 0, 1, 1] : List Int32).getD j 0
  | 1 => ([999, 99, 999, 9] : List Int32).getD j 0
  | 2 => ([1, 0, 1, 1] : List Int32).getD j 0
  | _ => ([999, 99, 999, 9] : List Int32).getD j 0
def wZ (E : wE) (U : State) (H : Heap) : Prop := (va_Z RX9 "LEAST_SETTING" "[I" (.ref (wst E 0)) (wA E) U H ∧ va_T .int (wst E 0) 4 (fun j => .int (wtab 0 j)) (wA E) U H) ∧ (va_Z RX9 "GREATEST_SETTING" "[I" (.ref (wst E 1)) (wA E) U H ∧ va_T .int (wst E 1) 4 (fun j => .int (wtab 1 j)) (wA E) U H) ∧ (va_Z RX10 "LEAST_SET" "[I" (.ref (wst E 2)) (wA E) U H ∧ va_T .int (wst E 2) 4 (fun j => .int (wtab 2 j)) (wA E) U H) ∧ (va_Z RX10 "MOST_SET" "[I" (.ref (wst E 3)) (wA E) U H ∧ va_T .int (wst E 3) 4 (fun j => .int (wtab 3 j)) (wA E) U H) ∧ va_Nw (.fieldLinkNest RX5 66 "OneLampAllOut" "LEAST_SETTING" "[I" "OneLampAllOut") U ∧ va_Nw (.fieldLinkNest RX5 69 "OneLampAllOut" "GREATEST_SETTING" "[I" "OneLampAllOut") U
theorem wZ.same {E : wE} {u U : State} {H : Heap} (hv : u.vm = U.vm) (h : wZ E u H) : wZ E U H := by
  have hvm : u.vm.Alike U.vm := by rw [hv]; exact Vm.Alike.refl U.vm
  exact ⟨⟨h.1.1.moved hvm, h.1.2.moved hvm⟩, ⟨h.2.1.1.moved hvm, h.2.1.2.moved hvm⟩, ⟨h.2.2.1.1.moved hvm, h.2.2.1.2.moved hvm⟩, ⟨h.2.2.2.1.1.moved hvm, h.2.2.2.1.2.moved hvm⟩, va_Nw.same rfl hv h.2.2.2.2.1, va_Nw.same rfl hv h.2.2.2.2.2⟩
theorem wZ.warm {E : wE} {u U : State} {H : Heap} (hw : u.WarmedH U.vm) (h : wZ E u H) : wZ E U H := by
  have hvm : u.vm.Alike U.vm := hw.alike
  exact ⟨⟨h.1.1.moved hvm, h.1.2.moved hvm⟩, ⟨h.2.1.1.moved hvm, h.2.1.2.moved hvm⟩, ⟨h.2.2.1.1.moved hvm, h.2.2.1.2.moved hvm⟩, ⟨h.2.2.2.1.1.moved hvm, h.2.2.2.1.2.moved hvm⟩, va_Nw.warmF hw h.2.2.2.2.1, va_Nw.warmF hw h.2.2.2.2.2⟩
theorem wZ.kept {E : wE} {U : State} {H H1 : Heap} (h : wZ E U H) (hq : ∀ a : Nat, a < H.size → ¬ wA E a → H1[a]? = H[a]?) : wZ E U H1 := ⟨⟨h.1.1.kept hq, h.1.2.kept hq⟩, ⟨h.2.1.1.kept hq, h.2.1.2.kept hq⟩, ⟨h.2.2.1.1.kept hq, h.2.2.1.2.kept hq⟩, ⟨h.2.2.2.1.1.kept hq, h.2.2.2.1.2.kept hq⟩, h.2.2.2.2.1, h.2.2.2.2.2⟩
theorem wws_at (E : wE) (M : wMem) {k : Nat} (hk : k < 91) : (wws E M)[k]? = some (wad E k, wen E k (M k)) := by
  unfold wws
  rw [List.getElem?_map, List.getElem?_range hk]
  rfl
theorem wws_get {E : wE} {M : wMem} {k : Nat} {q : Nat × va_E} (h : (wws E M)[k]? = some q) : k < 91 ∧ q = (wad E k, wen E k (M k)) := by
  have hk : k < 91 := by
    have := (List.getElem?_eq_some_iff.mp h).1
    simpa [wws] using this
  rw [wws_at E M hk] at h
  exact ⟨hk, (Option.some.inj h).symm⟩
theorem wws_D {E : wE} (hG : wG E) (M : wMem) : va_D (wA E) (wws E M) := by
  refine ⟨fun i j p q hi hj h => ?_, fun k q hk => ?_⟩
  · obtain ⟨h1, rfl⟩ := wws_get hi
    obtain ⟨h2, rfl⟩ := wws_get hj
    exact hG.1 i j h1 h2 h
  · obtain ⟨h1, rfl⟩ := wws_get hk
    exact hG.2 k h1
theorem wup_at (M : wMem) (k j : Nat) (v : Int32) : wup M k j v k = upd (M k) j v := by simp [wup]
theorem wup_ne {M : wMem} {k j a : Nat} {v : Int32} (h : a ≠ k) : wup M k j v a = M a := by simp [wup, h]
theorem wws_set {E : wE} {M : wMem} {k j : Nat} {v : Int32} {e : va_E} (hk : k < 91) (he : e = wen E k (upd (M k) j v)) : (wws E M).set k (wad E k, e) = wws E (wup M k j v) := by
  subst he
  apply List.ext_getElem?
  intro a
  by_cases ha : a = k
  · subst ha
    rw [List.getElem?_set_self (by simp [wws]; exact hk), wws_at E _ hk, wup_at]
  · rw [List.getElem?_set_ne (fun q => ha q.symm)]
    by_cases h9 : a < 91
    · rw [wws_at E M h9, wws_at E _ h9, wup_ne ha]
    · rw [List.getElem?_eq_none (by simp [wws]; omega), List.getElem?_eq_none (by simp [wws]; omega)]
/-- a method's start and end -/
def wP (E : wE) (M : wMem) (U : State) : Prop := wG E ∧ wV E U ∧ wZ E U U.heap ∧ wH E M U.heap
def wQ (E : wE) (v : Option Value) (M' : wMem) : Array Value → State → Outcome → State → Prop := fun _ st oc t => (oc = .returned v ∧ wP E M' t) ∧ va_F (wA E) st t
def wMet (l : Launch) (y : MethodName) (ws : List Cond) (rm : Room) (E : wE) (M : wMem) (As : List Value) (v : Option Value) (M' : wMem) : Prop := Met l y ws rm (va_Pc As (wP E M)) (wQ E v M') 0 0 (wA E)
theorem wP_blind (E : wE) (M : wMem) (As : List Value) : FrameBlind (va_Pc As (wP E M)) := fun _ U g mk q => ⟨q.1, q.2.1, va_K.moved (u := U) (U := U.calling g mk _) (Vm.Alike.refl U.vm) q.2.2.1, wZ.same (u := U) (U := U.calling g mk _) rfl q.2.2.2.1, q.2.2.2.2⟩
/-- what holds all through a method -/
def wB (E : wE) (p : Program) (s : State) (m : MethodId) (args : Array Value) (meth : Method) (c : Code) (cc : ByteArray) (nL : Nat) (own : String) (ret : Option FieldType) : Prop := p.tables.exec = Jvm.exec ∧ c.code = cc ∧ meth.sig.returnType = ret ∧ c.maxLocals = nL ∧ s.vm.findClass own = some m.cls ∧ (∀ w ∈ wsA, w.before args s = true) ∧ meth.locks = false ∧ wG E ∧ wV E s ∧ wZ E s s.heap
theorem wc_of {l : Launch} {y : MethodName} {rm : Room} {E : wE} {M M' : wMem} {As : List Value} {v : Option Value} {cc : ByteArray} {maxL : Nat} {ret : Option FieldType} (hy : plainName y.cls = true) (hlen : (lg_sl As).length ≤ maxL)
    (body : ∀ (p : Program) (e : Env) (s : State) (m : MethodId) (below : List Frame) (meth : Method) (c : Code) (ls : Array Slot), wB E p s m As.toArray meth c cc maxL y.cls ret → wH E M s.heap → lv_has ls maxL (lv_args 0 As) → W p l e rm s m As.toArray below meth c s.heap [] 0 0 (MQ below (wQ E v M') As.toArray s 0 0 (wA E)) (F0 m 0 ls [])) : wMet l y (wsM y cc maxL ret) rm E M As v M' := by
  refine Met.ofW (cc := cc) (maxL := maxL) (ret := ret) hy rfl ?_
  intro p e s m args below meth c s₁ B hml hv
  obtain ⟨rfl, hG, hV, hZ, hH⟩ := hv
  have hts := atoms_spec (ws := wsM y cc maxL ret) B.pre
  have hown : s.vm.findClass y.cls = some m.cls := findClass_of_methodNamed B.named
  have hl := lv_entry As (n := maxL) hlen
  rw [lg_entry_eq]
  generalize (lg_sl As ++ List.replicate (maxL - (lg_sl As).length) Slot.unset).toArray = ls at hl ⊢
  exact body p e s m below meth c ls ⟨B.exec, B.bytes, B.returns, hml, hown, fun w h => hts w (List.mem_cons_of_mem _ h), B.notSynchronized, hG, hV, hZ⟩ hH hl
section
variable {p : Program} {l : Launch} {e : Env} {R : Room} {s : State} {m : MethodId} {args : Array Value} {below : List Frame} {meth : Method} {c : Code} {H : Heap} {locs : List Loc} {cells slots : Nat} {Q : State → Prop}
variable {cc : ByteArray} {pc : Nat} {ls : Array Slot} {rest : List Value} {E : wE} {M : wMem} {H0 : Heap}
theorem wm_get (hexec : p.tables.exec = Jvm.exec) (hb : c.code = cc) {own C : String} {T : u_T} {N ci index : Nat} {Ts : List Cond} (hts : ∀ w ∈ Ts, w.before args s = true) (hin : ∀ w ∈ u_ws C T N, w ∈ Ts) (hown : s.vm.findClass own = some m.cls) (hV : wV E s) (hW : wH E M H) {k : Nat} (hk : k < 91) {fs : List Value} (he : wen E k (M k) = .inr (ci, fs)) (hc : vwCl[ci]? = some (C, T, N)) (j : Nat) (hj : j < N) (hlink : (Cond.fieldLink own index (T j).1 (T j).2.1 (T j).2.2.1).before args s = true) {v : Value} (hv : fs[j]? = some v) (hdg : decode cc pc = .ok (.getfield index, 3))
    (kk : W p l e R s m args below meth c H locs cells slots Q (F0 m (pc + 3) ls (v :: rest))) : W p l e R s m args below meth c H locs cells slots Q (F0 m pc ls (.ref (wad E k) :: rest)) :=
  va_get hexec hb hts hin hown hV hW k (by rw [wws_at E M hk, he]) hc j hj hlink (fun _ h => h) hv hdg kk
theorem wm_put (hexec : p.tables.exec = Jvm.exec) (hb : c.code = cc) {own C : String} {T : u_T} {N ci index : Nat} {Ts : List Cond} (hts : ∀ w ∈ Ts, w.before args s = true) (hin : ∀ w ∈ u_ws C T N, w ∈ Ts) (ty0 : Nat → FieldType) (hty : ∀ k, k < N → parseFieldDescriptor (T k).2.2.1 = some (ty0 k)) (hnm : ∀ a, a < N → ∀ b, b < N → a ≠ b → (T a).2.1 ≠ (T b).2.1) (hown : s.vm.findClass own = some m.cls) (hG : wG E) (hV : wV E s) (hW : wH E M H) (hS : va_S (wA E) H0 H locs) {k : Nat} (hk : k < 91) {fs : List Value} (he : wen E k (M k) = .inr (ci, fs)) (hc : vwCl[ci]? = some (C, T, N)) (j : Nat) (hj : j < N) (hlink : (Cond.fieldLink own index (T j).1 (T j).2.1 (T j).2.2.1).before args s = true) (hfin : (T j).2.2.2 = false) (ty : FieldType) (v : Int32) (hd : parseFieldDescriptor (T j).2.2.1 = some ty) (hn : narrow ty (.int v) = .int v) (hfit : fits ty (.int v) = true) (hl : j < fs.length) (he2 : .inr (ci, fs.set j (.int v)) = wen E k (upd (M k) j v)) (hdg : decode cc pc = .ok (.putfield index, 3))
    (kk : ∀ (H1 : Heap) (locs1 : List Loc), wH E (wup M k j v) H1 → va_S (wA E) H0 H1 locs1 → W p l e R s m args below meth c H1 locs1 cells slots Q (F0 m (pc + 3) ls rest)) : W p l e R s m args below meth c H locs cells slots Q (F0 m pc ls (.int v :: .ref (wad E k) :: rest)) := by
  refine va_put (ty := ty) (v := .int v) hexec hb hts hin ty0 hty hnm hown hV hW (wws_D hG M) hS k (by rw [wws_at E M hk, he]) hc j hj hlink (fun _ h => h) hfin hd hn hfit hl hdg (fun H1 locs1 hP _ hS1 => kk H1 locs1 ?_ hS1)
  rw [wws_set hk he2] at hP
  exact hP
theorem wm_iald (hexec : p.tables.exec = Jvm.exec) (hb : c.code = cc) (hV : wV E s) (hW : wH E M H) {k : Nat} (hk : wkd k = 21) {n : Nat} (hn : wln k = n) {i : Int32} (hin : vp_in i n) (hdg : decode cc pc = .ok (.iaload, 1))
    (kk : W p l e R s m args below meth c H locs cells slots Q (F0 m (pc + 1) ls (.int (M k i.toNatClampNeg) :: rest))) : W p l e R s m args below meth c H locs cells slots Q (F0 m pc ls (.int i :: .ref (wad E k) :: rest)) := by
  subst hn
  exact va_iald hexec hb hV hW k 1 (by rw [wws_at E M (wkd_lt hk (by decide)), wen_21 hk]) rfl hin hdg kk
theorem wm_cald (hexec : p.tables.exec = Jvm.exec) (hb : c.code = cc) (hV : wV E s) (hW : wH E M H) {k : Nat} (hk : wkd k = 20) {n : Nat} (hn : wln k = n) {i : Int32} (hin : vp_in i n) (hdg : decode cc pc = .ok (.caload, 1))
    (kk : W p l e R s m args below meth c H locs cells slots Q (F0 m (pc + 1) ls (.int (M k i.toNatClampNeg) :: rest))) : W p l e R s m args below meth c H locs cells slots Q (F0 m pc ls (.int i :: .ref (wad E k) :: rest)) := by
  subst hn
  exact va_cald hexec hb hV hW k 0 (by rw [wws_at E M (wkd_lt hk (by decide)), wen_20 hk]) rfl hin hdg kk
theorem wm_iast (hexec : p.tables.exec = Jvm.exec) (hb : c.code = cc) (hG : wG E) (hV : wV E s) (hW : wH E M H) (hS : va_S (wA E) H0 H locs) {k : Nat} (hk : wkd k = 21) {n : Nat} (hn : wln k = n) {i x : Int32} (hin : vp_in i n) (hdg : decode cc pc = .ok (.iastore, 1))
    (kk : ∀ (H1 : Heap) (locs1 : List Loc), wH E (wup M k i.toNatClampNeg x) H1 → va_S (wA E) H0 H1 locs1 → W p l e R s m args below meth c H1 locs1 cells slots Q (F0 m (pc + 1) ls rest)) : W p l e R s m args below meth c H locs cells slots Q (F0 m pc ls (.int x :: .int i :: .ref (wad E k) :: rest)) := by
  subst hn
  refine va_iast hexec hb hV hW (wws_D hG M) hS k 1 (by rw [wws_at E M (wkd_lt hk (by decide)), wen_21 hk]) rfl hin hdg (fun H1 locs1 hP _ hS1 => kk H1 locs1 ?_ hS1)
  rw [wws_set (j := i.toNatClampNeg) (v := x) (wkd_lt hk (by decide)) (by rw [wen_21 hk])] at hP
  exact hP
theorem wm_cast (hexec : p.tables.exec = Jvm.exec) (hb : c.code = cc) (hG : wG E) (hV : wV E s) (hW : wH E M H) (hS : va_S (wA E) H0 H locs) {k : Nat} (hk : wkd k = 20) {n : Nat} (hn : wln k = n) {i x : Int32} (hin : vp_in i n) (hdg : decode cc pc = .ok (.castore, 1))
    (kk : ∀ (H1 : Heap) (locs1 : List Loc), wH E (wup M k i.toNatClampNeg (vp_nar .char x)) H1 → va_S (wA E) H0 H1 locs1 → W p l e R s m args below meth c H1 locs1 cells slots Q (F0 m (pc + 1) ls rest)) : W p l e R s m args below meth c H locs cells slots Q (F0 m pc ls (.int x :: .int i :: .ref (wad E k) :: rest)) := by
  subst hn
  refine va_cast hexec hb hV hW (wws_D hG M) hS k 0 (by rw [wws_at E M (wkd_lt hk (by decide)), wen_20 hk]) rfl hin hdg (fun H1 locs1 hP _ hS1 => kk H1 locs1 ?_ hS1)
  rw [wws_set (j := i.toNatClampNeg) (v := vp_nar .char x) (wkd_lt hk (by decide)) (by rw [wen_20 hk])] at hP
  exact hP
theorem wm_aldL (hexec : p.tables.exec = Jvm.exec) (hb : c.code = cc) (hV : wV E s) (hW : wH E M H) {k : Nat} (hk : wkd k = 22) {i : Int32} (hin : vp_in i 12) (hdg : decode cc pc = .ok (.aaload, 1))
    (kk : W p l e R s m args below meth c H locs cells slots Q (F0 m (pc + 1) ls (.ref (wad E (k + 2 + i.toNatClampNeg)) :: rest))) : W p l e R s m args below meth c H locs cells slots Q (F0 m pc ls (.int i :: .ref (wad E k) :: rest)) := by
  refine va_aldq (n := 12) (f := fun i => some (wad E (k + 2 + i))) hexec hb hV hW k 2 ?_ rfl hin hdg kk
  rw [wws_at E M (wkd_lt hk (by decide)), wen_22 hk, wl22 hk]
theorem wm_aldA (hexec : p.tables.exec = Jvm.exec) (hb : c.code = cc) (hV : wV E s) (hW : wH E M H) {k : Nat} (hk : wkd k = 23) {i : Int32} (hin : vp_in i 12) (hdg : decode cc pc = .ok (.aaload, 1))
    (kk : W p l e R s m args below meth c H locs cells slots Q (F0 m (pc + 1) ls (.ref (wad E (k + 1 + i.toNatClampNeg)) :: rest))) : W p l e R s m args below meth c H locs cells slots Q (F0 m pc ls (.int i :: .ref (wad E k) :: rest)) := by
  have hlt : i.toNatClampNeg < 12 := wix_lt hin
  have ha : (wws E M)[k]? = some (wad E k, .inl (wcy E 3, 12, .inr (.inr (.inr (.inr (fun i => some (wad E (k + 1 + i)))))))) := by rw [wws_at E M (wkd_lt hk (by decide)), wen_23 hk, wl23 hk]
  exact W.aald (v := va_rf (some (wad E (k + 1 + i.toNatClampNeg)))) (ty := .array .int) hexec hb (hW k _ ha) ((hV.2 3 _ rfl).1 12 (fun j => va_rf (some (wad E (k + 1 + j))))) rfl (fun q => by cases q) (by show ¬ (i < 0 ∨ (arrV _ _ _).slots.size ≤ _); rw [arrV_size]; exact hin) (by show (arrV _ _ _).slots[_]? = _; rw [arrV_read _ _ hlt]) rfl rfl hdg kk
theorem wm_alen (hexec : p.tables.exec = Jvm.exec) (hb : c.code = cc) (hV : wV E s) (hW : wH E M H) {k : Nat} (hk : wkd k = 21) (hdg : decode cc pc = .ok (.arraylength, 1))
    (kk : W p l e R s m args below meth c H locs cells slots Q (F0 m (pc + 1) ls (.int (nI (wln k)) :: rest))) : W p l e R s m args below meth c H locs cells slots Q (F0 m pc ls (.ref (wad E k) :: rest)) :=
  va_alen hexec hb hV hW k 1 (x := (wln k, .inl (M k))) (by rw [wws_at E M (wkd_lt hk (by decide)), wen_21 hk]) rfl rfl hdg kk
theorem wlet_M {β : Type} {M' : wMem} {f : wMem → Option β} {r : β} (hW : wH E M' H) (h : wlet M' f = some r) : ∃ M2, wH E M2 H ∧ f M2 = some r := ⟨M', hW, h⟩
/-- behind a call -/
theorem wc_go {v : Option Value} {M' : wMem} {st0 st1 : List Value} {a : Array Value} (hr : va_Run p l e R s m args below meth c H locs cells slots 0 0 (F0 m pc ls st0) rest (wQ E v M' a) (wA E)) (hS : va_S (wA E) H0 H locs) (hst : v.toList ++ rest = st1)
    (kk : ∀ (H1 : Heap) (locs1 : List Loc), wH E M' H1 → va_S (wA E) H0 H1 locs1 → W p l e R s m args below meth c H1 locs1 cells slots Q (F0 m (pc + 3) ls st1)) : W p l e R s m args below meth c H locs cells slots Q (F0 m pc ls st0) := by
  intro T hT X
  obtain ⟨v', st₀, t, T', L, h0, X', hL, e1, e2, ⟨⟨hv, hp⟩, hz, hk⟩, st⟩ := hr T hT X
  cases hv
  rw [h0] at hz hk
  subst hst
  obtain ⟨t2, a1, b1⟩ := kk T'.heap (locs ++ L) (by rw [e1]; exact hp.2.2.2)
    ⟨Nat.le_trans hS.1 (by rw [e1]; exact hz), fun q h1 h2 => by rw [e1, hk q (Nat.lt_of_lt_of_le h1 hS.1) h2]; exact hS.2.1 q h1 h2, fun q hq => by
      rcases List.mem_append.mp hq with h | h
      · exact hS.2.2 q h
      · exact hL q h⟩ T' rfl X'
  exact ⟨t2, st t2 a1, b1⟩
/-- what a callee is given -/
theorem wc_pre {As : List Value} (hG : wG E) (hV : wV E s) (hZ : wZ E s s.heap) (hW : wH E M H) (hS : va_S (wA E) s.heap H locs) : PreS s H (va_Pc As (wP E M)) As := ⟨wP_blind E M As, fun U hU hw => ⟨rfl, hG, va_K.moved hw.alike hV, (hZ.kept (fun a h1 h2 => by rw [hU]; exact hS.2.1 a h1 h2)).warm hw, by rw [hU]; exact hW⟩⟩
section
variable {y : MethodName} {bytes : ByteArray} {maxL nL n index : Nat} {ret : Option FieldType} {ws : List Cond} {rm : Room} {own C : String} {As : List Value} {v : Option Value} {M' : wMem} {st0 st1 : List Value}
theorem wc_V (hx : p.tables.exec = Jvm.exec) (hb : c.code = cc) (hml : c.maxLocals = nL) (hown : s.vm.findClass own = some m.cls) (hts : ∀ w ∈ wsA, w.before args s = true) (hG : wG E) (hV : wV E s) (hZ : wZ E s s.heap) {k : Nat} (hk : k < 91) {ci : Nat} {fs : List Value} {q : vw_C} (he : wen E k (M k) = .inr (ci, fs)) (hc : vwCl[ci]? = some q) (hM : wMet l y ws rm E M (.ref (wad E k) :: As) v M') (cw : CallW R s args own q.1 index y bytes maxL ret ws rm 0 0 n) (hn : As.length = n) (hsize : ls.size = nL) (hst0 : st0 = As.reverse ++ .ref (wad E k) :: rest) (hcat : (rest.map fun v => v.category).sum ≤ 8) (hdg : decode cc pc = .ok (.invokevirtual index, 3)) (hf : cells ≤ R.cells ∧ slots ≤ R.slots) (hW : wH E M H) (hS : va_S (wA E) s.heap H locs) (hst : v.toList ++ rest = st1)
    (kk : ∀ (H1 : Heap) (locs1 : List Loc), wH E M' H1 → va_S (wA E) s.heap H1 locs1 → W p l e R s m args below meth c H1 locs1 cells slots Q (F0 m (pc + 3) ls st1)) : W p l e R s m args below meth c H locs cells slots Q (F0 m pc ls st0) := by
  have hp := wc_pre (As := .ref (wad E k) :: As) hG hV hZ hW hS
  exact wc_go (va_runV (As := As) (rest := rest) ⟨hx, hb, hml, hown, hts⟩ hM cw ⟨hp.1, va_recv hV hW hc (q0 := k) (by rw [wws_at E M hk, he]), hp.2⟩ rfl hn hsize hst0 (lv_room hcat) hdg hf) hS hst kk
theorem wc_S (hx : p.tables.exec = Jvm.exec) (hb : c.code = cc) (hml : c.maxLocals = nL) (hown : s.vm.findClass own = some m.cls) (hts : ∀ w ∈ wsA, w.before args s = true) (hG : wG E) (hV : wV E s) (hZ : wZ E s s.heap) (hM : wMet l y ws rm E M As v M') (cw : CallB R s args own index y bytes maxL ret ws rm 0 0 n ∧ (Cond.static y).before args s = true) (hn : As.length = n) (hsize : ls.size = nL) (hst0 : st0 = As.reverse ++ rest) (hcat : (rest.map fun v => v.category).sum ≤ 8) (hdg : decode cc pc = .ok (.invokestatic index, 3)) (hf : cells ≤ R.cells ∧ slots ≤ R.slots) (hW : wH E M H) (hS : va_S (wA E) s.heap H locs) (hst : v.toList ++ rest = st1)
    (kk : ∀ (H1 : Heap) (locs1 : List Loc), wH E M' H1 → va_S (wA E) s.heap H1 locs1 → W p l e R s m args below meth c H1 locs1 cells slots Q (F0 m (pc + 3) ls st1)) : W p l e R s m args below meth c H locs cells slots Q (F0 m pc ls st0) :=
  wc_go (va_runS (As := As) (rest := rest) ⟨hx, hb, hml, hown, hts⟩ hM cw (wc_pre hG hV hZ hW hS) rfl hn hsize hst0 (lv_room hcat) hdg hf) hS hst kk
end
/-- the end of a method -/
theorem wr_q {v : Option Value} (hG : wG E) (hV : wV E s) (hZ : wZ E s s.heap) (hW : wH E M H) (hS : va_S (wA E) s.heap H locs) : ∀ t : State, t.heap = H → s.WarmedH t.vm → wQ E v M args s (.returned v) t := fun t ht hw => ⟨⟨rfl, hG, va_K.moved hw.alike hV, (hZ.kept (fun a h1 h2 => by rw [ht]; exact hS.2.1 a h1 h2)).warm hw, by rw [ht]; exact hW⟩, hS.F ht⟩
end
