/-! part 28: calls that change what is held -/
section
variable {M : wMem} {n : Nat} {L : Nat → Nat → Int32} {st : Nat → Int32} {hr : Int32} {t : Nat} {A R : Nat → Int32} {c : Nat} {p a : Nat → Nat} {o : wKt}
theorem wRow_st {k : Nat} (h : wRow M k n L st hr) {j : Nat} (x : Int32) : wRow (wup M (k + 2) j x) k n L (sSet st j x) hr ∧ wOff k M (wup M (k + 2) j x) := by
  have hn := h.1
  refine ⟨⟨h.1, ?_, ?_, ?_, ?_⟩, fun b hb => wup_cell (by omega)⟩
  · rw [wup_cell (by omega)]
    exact h.2.1
  · intro i hi f hf
    rw [wup_cell (by omega)]
    exact h.2.2.1 i hi f hf
  · intro i hi
    unfold sSet
    by_cases q : i = j
    · rw [if_pos q, q, wup_same]
    · rw [if_neg q, wup_slot q]
      exact h.2.2.2.1 i hi
  · rw [wup_cell (by omega)]
    exact h.2.2.2.2
theorem wMod_st (h : wMod M n L st hr) {j : Nat} (x : Int32) : wMod (wup M 77 j x) n L (sSet st j x) hr := by
  refine ⟨h.1, ?_, ?_, ?_, ?_⟩
  · rw [wup_cell (by omega)]
    exact h.2.1
  · intro i hi f hf
    rw [wup_cell (by omega)]
    exact h.2.2.1 i hi f hf
  · intro i hi
    unfold sSet
    by_cases q : i = j
    · rw [if_pos q, q, wup_same]
    · rw [if_neg q, wup_slot q]
      exact h.2.2.2.1 i hi
  · rw [wup_cell (by omega)]
    exact h.2.2.2.2
/-- another row, all else as it was -/
theorem wCa.row (h : wCa M n L st hr t A R c p a o) {M' : wMem} {n' : Nat} {L' : Nat → Nat → Int32} {st' : Nat → Int32} {hr' : Int32} (h1 : wRow M' 1 n' L' st' hr') (e : wOff 1 M M') : wCa M' n' L' st' hr' t A R c p a o ∧ wHi M M' :=
  ⟨⟨h1, ⟨by rw [e 47 (by omega)]; exact h.2.1.1, fun i hi => by rw [e 48 (by omega)]; exact h.2.1.2 i hi⟩, fun j hj => by rw [e 69 (by omega)]; exact h.2.2.1 j hj, wTold_keep h.2.2.2.1 (by rw [e 50 (by omega)]) (e 51 (by omega)) (e 52 (by omega)), wCo_keep h.2.2.2.2 (by rw [e 0 (by omega)]) (fun b _ _ => e b (by omega))⟩, fun b hb => e b (by omega)⟩
def wOr (M M' : wMem) : Prop := (∀ b, (b < 70 ∨ b = 71 ∨ b = 78 ∨ b = 82 ∨ b = 89 ∨ b = 90) → M' b = M b) ∧ ∀ j, j = 13 ∨ j = 17 ∨ j = 28 → M' 70 j = M 70 j
theorem wFm.or {M M' : wMem} (h : wFm M M') : wOr M M' := ⟨fun b hb => h.1 b (by omega) (by omega) (by omega) (by omega), fun j hj => h.2 j (by omega)⟩
theorem wOr.up (M : wMem) (j : Nat) (x : Int32) : wOr M (wup M 77 j x) := ⟨fun b hb => wup_cell (by omega), fun j hj => by rw [wup_cell (by omega)]⟩
theorem wOr.tr {M1 M2 M3 : wMem} (h : wOr M1 M2) (h2 : wOr M2 M3) : wOr M1 M3 := ⟨fun b hb => (h2.1 b hb).trans (h.1 b hb), fun j hj => (h2.2 j hj).trans (h.2 j hj)⟩
theorem wMa.row (h : wMa M n L st hr t A R c p a o) {M' : wMem} {n' : Nat} {L' : Nat → Nat → Int32} {st' : Nat → Int32} {hr' : Int32} (h1 : wMod M' n' L' st' hr') (e : wOr M M') : wMa M' n' L' st' hr' t A R c p a o ∧ wLo M M' :=
  ⟨⟨h1, ⟨by rw [e.2 13 (by omega)]; exact h.2.1.1, fun i hi => by rw [e.1 78 (by omega)]; exact h.2.1.2 i hi⟩, fun j hj => by rw [e.1 71 (by omega)]; exact h.2.2.1 j hj, wToldM_keep h.2.2.2.1 (by rw [e.2 28 (by omega)]) (e.1 89 (by omega)) (e.1 90 (by omega)), wMo_keep h.2.2.2.2 (by rw [e.2 17 (by omega)]) (fun j _ => by rw [e.1 82 (by omega)])⟩, fun b hb => e.1 b (by omega)⟩
theorem wAns_row {f g : wMem → Option (Int32 × wMem)} (hI : wI M n L st hr t A R c p a o) (r : Int32) {n' : Nat} {L' : Nat → Nat → Int32} {st' : Nat → Int32} {hr' : Int32} (hok : wOkR n' L' st' hr') (hf : ∃ M1, f M = some (r, M1) ∧ wRow M1 1 n' L' st' hr' ∧ wOff 1 M M1) (hg : ∀ M1, wMa M1 n L st hr t A R c p a o → ∃ M2, g M1 = some (r, M2) ∧ wMod M2 n' L' st' hr' ∧ wOr M1 M2) : wAns f g M := by
  refine wAns_go (n' := n') (L' := L') (st' := st') (hr' := hr') (t' := t) (A' := A) (R' := R) (c' := c) (p' := p) (a' := a) (o' := o) hI r ⟨hok, hI.2.2.2⟩ ?_ ?_
  · obtain ⟨M1, u1, u2, u3⟩ := hf
    exact ⟨M1, u1, hI.1.row u2 u3⟩
  · intro M1 h1
    obtain ⟨M2, u1, u2, u3⟩ := hg M1 h1
    exact ⟨M2, u1, h1.row u2 u3⟩
theorem wtab02 (i : Nat) : wtab 2 i = wtab 0 i := rfl
theorem wtab13 (i : Nat) : wtab 3 i = wtab 1 i := rfl
theorem wOkS_set {i : Nat} {y : Int32} (h : wOkS st) (hi : i < 4) (h1 : wtab 0 i ≤ y) (h2 : y ≤ wtab 1 i) : wOkS (sSet st i y) := by
  have e0 : (0 : Int32).toInt = 0 := rfl
  have e1 : (1 : Int32).toInt = 1 := rfl
  have e9 : (9 : Int32).toInt = 9 := rfl
  have e99 : (99 : Int32).toInt = 99 := rfl
  have e999 : (999 : Int32).toInt = 999 := rfl
  rw [i_le] at h1 h2
  obtain ⟨a1, a2, a3, a4⟩ := h
  match i, hi with
  | 0, _ =>
    have b1 : wtab 0 0 = 1 := rfl
    have b2 : wtab 1 0 = 999 := rfl
    rw [b1] at h1
    rw [b2] at h2
    refine ⟨?_, ?_, ?_, ?_⟩
    · rw [sSet_same]; omega
    · rw [sSet_ne (by decide)]; exact a2
    · rw [sSet_ne (by decide)]; exact a3
    · rw [sSet_ne (by decide)]; exact a4
  | 1, _ =>
    have b1 : wtab 0 1 = 0 := rfl
    have b2 : wtab 1 1 = 99 := rfl
    rw [b1] at h1
    rw [b2] at h2
    refine ⟨?_, ?_, ?_, ?_⟩
    · rw [sSet_ne (by decide)]; exact a1
    · rw [sSet_same]; omega
    · rw [sSet_ne (by decide)]; exact a3
    · rw [sSet_ne (by decide)]; exact a4
  | 2, _ =>
    have b1 : wtab 0 2 = 1 := rfl
    have b2 : wtab 1 2 = 999 := rfl
    rw [b1] at h1
    rw [b2] at h2
    refine ⟨?_, ?_, ?_, ?_⟩
    · rw [sSet_ne (by decide)]; exact a1
    · rw [sSet_ne (by decide)]; exact a2
    · rw [sSet_same]; omega
    · rw [sSet_ne (by decide)]; exact a4
  | 3, _ =>
    have b1 : wtab 0 3 = 1 := rfl
    have b2 : wtab 1 3 = 9 := rfl
    rw [b1] at h1
    rw [b2] at h2
    refine ⟨?_, ?_, ?_, ?_⟩
    · rw [sSet_ne (by decide)]; exact a1
    · rw [sSet_ne (by decide)]; exact a2
    · rw [sSet_ne (by decide)]; exact a3
    · rw [sSet_same]; omega
theorem k_set (hI : wI M n L st hr t A R c p a o) (x y : Int32) : wAns (fun M => fX9_set M x y) (fun M => fX10_set M x y) M := by
  have e0 : (0 : Int32).toInt = 0 := rfl
  have e3 : (3 : Int32).toInt = 3 := rfl
  by_cases q : x < 0 ∨ 3 < x
  · exact wAns_ref hI (-2) (e := 1) (by decide) (by
      show fX9_set M x y = _
      unfold fX9_set fX9_set_9
      by_cases q1 : x < 0
      · rw [if_pos q1, c_r2]
        rfl
      · rw [if_neg q1, if_neg (Int32.not_le.mpr (q.resolve_left q1)), c_r2]
        rfl) (fun M1 h1 => by
      show fX10_set M1 x y = _
      unfold fX10_set
      rw [isIn_f M1 q, Option.bind_some, if_pos wb_fa, m_r2]
      rfl)
  · have q1 : ¬ x < 0 := fun z => q (Or.inl z)
    have q2 : ¬ 3 < x := fun z => q (Or.inr z)
    obtain ⟨i, hi, rfl⟩ := i_ix (x := x) (n := 4) q1 (fun z => by
      have e4 : (nI 4).toInt = 4 := rfl
      rw [i_le] at z
      rw [i_lt] at q2
      omega) (by decide)
    by_cases z1 : wtab 0 i ≤ y
    · by_cases z2 : y ≤ wtab 1 i
      · refine wAns_row hI (st i) (st' := sSet st i y) (n' := n) (L' := L) (hr' := hr) ⟨hI.2.2.1.1, wOkS_set hI.2.2.1.2.1 hi z1 z2, hI.2.2.1.2.2⟩ ⟨wup M 3 i y, ?_, wRow_st hI.1.1 y⟩ (fun M1 h1 => ⟨wup M1 77 i y, ?_, wMod_st h1.1 y, wOr.up M1 i y⟩)
        · show fX9_set M (nI i) y = _
          unfold fX9_set
          rw [if_neg q1, if_pos (Int32.not_lt.mp q2), wgi_n hi (by decide), nI_clamp (by omega), if_pos z1, wgi_n hi (by decide), if_pos z2, wgi_n hi (by decide), wlet_eq, wgi_n hi (by decide), wlet_eq, show M 3 i = st i from hI.1.1.2.2.2.1 i hi]
        · show fX10_set M1 (nI i) y = _
          unfold fX10_set fX10_bound
          rw [isIn_t M1 q1 q2, Option.bind_some, if_neg wb_tn, wgi_n hi (by decide), wgi_n hi (by decide), nI_clamp (by omega), wtab02, wtab13, if_pos z1, if_pos z2, Option.bind_some, if_pos rfl, wgi_n hi (by decide), wlet_eq, wgi_n hi (by decide), wlet_eq, h1.1.2.2.2.1 i hi]
      · exact wAns_ref hI (-6) (e := 5) (by decide) (by
          show fX9_set M (nI i) y = _
          unfold fX9_set
          rw [if_neg q1, if_pos (Int32.not_lt.mp q2), wgi_n hi (by decide), nI_clamp (by omega), if_pos z1, wgi_n hi (by decide), if_neg z2, c_r6]
          rfl) (fun M1 h1 => by
          show fX10_set M1 (nI i) y = _
          unfold fX10_set fX10_bound
          rw [isIn_t M1 q1 q2, Option.bind_some, if_neg wb_tn, wgi_n hi (by decide), wgi_n hi (by decide), nI_clamp (by omega), wtab02, wtab13, if_pos z1, if_neg z2, Option.bind_some, if_neg (by decide), m_r6]
          rfl)
    · exact wAns_ref hI (-4) (e := 3) (by decide) (by
        show fX9_set M (nI i) y = _
        unfold fX9_set
        rw [if_neg q1, if_pos (Int32.not_lt.mp q2), wgi_n hi (by decide), nI_clamp (by omega), if_neg z1, c_r4]
        rfl) (fun M1 h1 => by
        show fX10_set M1 (nI i) y = _
        unfold fX10_set fX10_bound
        rw [isIn_t M1 q1 q2, Option.bind_some, if_neg wb_tn, wgi_n hi (by decide), wgi_n hi (by decide), nI_clamp (by omega), wtab02, wtab13, if_neg z1, Option.bind_some, if_neg (by decide), m_r4]
        rfl)
theorem sFlow_ok (h : wOkS st) : 0 ≤ (sFlow L n (st 0)).toInt ∧ (sFlow L n (st 0)).toInt ≤ 9999 := by
  have e0 : (0 : Int32).toInt = 0 := rfl
  have e9 : (9999 : Int32).toInt = 9999 := rfl
  unfold sFlow sFlowT
  split
  · split
    · rename_i q
      have q' := q
      rw [i_lt] at q'
      have hb := h.1
      have e100 : (100 * st 0).toInt = 100 * (st 0).toInt := by
        rw [Int32.toInt_mul]
        have e100 : (100 : Int32).toInt = 100 := rfl
        rw [e100]
        exact Int.bmod_eq_of_le (by omega) (by omega)
      split
      · rename_i z
        rw [i_lt] at z
        have e1 := lg_idiv_nonneg (x := 100 * st 0) (y := sDrags L n) (by rw [e100]; omega) (by omega)
        refine ⟨?_, by omega⟩
        rw [e1, e100]
        exact Int.ediv_nonneg (by omega) (by omega)
      · omega
    · omega
  · omega
theorem sDrag_ok (v : Nat → Int32) : 0 ≤ (sDrag v).toInt ∧ (sDrag v).toInt ≤ 20 := by
  have e0 : (0 : Int32).toInt = 0 := rfl
  have e15 : (15 : Int32).toInt = 15 := rfl
  have e6 : (6 : Int32).toInt = 6 := rfl
  have e20 : (20 : Int32).toInt = 20 := rfl
  have e10 : (10 : Int32).toInt = 10 := rfl
  unfold sDrag
  split
  · omega
  · split
    · omega
    · split
      · omega
      · split <;> omega
theorem sBright_ok (v : Nat → Int32) {fl : Int32} (h : 0 ≤ fl.toInt ∧ fl.toInt ≤ 9999) : 0 ≤ (sBright v fl).toInt ∧ (sBright v fl).toInt ≤ 9999 := by
  have e0 : (0 : Int32).toInt = 0 := rfl
  have e100 : (100 : Int32).toInt = 100 := rfl
  unfold sBright
  split
  · have hd := sDrag_ok v
    have m1 : 0 ≤ fl.toInt * (sDrag v).toInt := Int.mul_nonneg h.1 hd.1
    have m2 : fl.toInt * (sDrag v).toInt ≤ 9999 * 20 := Int.mul_le_mul h.2 hd.2 hd.1 (by omega)
    have e1 : (fl * sDrag v).toInt = fl.toInt * (sDrag v).toInt := by
      rw [Int32.toInt_mul]
      exact Int.bmod_eq_of_le (by omega) (by omega)
    rw [lg_idiv_nonneg (by rw [e1]; exact m1) (by omega), e1, e100]
    omega
  · omega
theorem wOkL_hour (h : wOkL L n) (hs : wOkS st) : wOkL (sHour L n st hr) n := by
  intro i hi
  have e10 : (10 : Int32).toInt = 10 := rfl
  rcases sHour_3 (L := L) (n := n) (st := st) (hr := hr) i with e | e
  · rw [e]
    exact h i hi
  · rw [e]
    refine ⟨?_, sMin_le _⟩
    have hb := sBright_ok (L i) (sFlow_ok (L := L) (n := n) hs)
    have hl := h i hi
    have e1 := lg_idiv_nonneg (x := sBright (L i) (sFlow L n (st 0))) (y := 10) (by omega) (by omega)
    rw [e10] at e1
    have e2 : (L i 3 + sBright (L i) (sFlow L n (st 0)) / 10).toInt = (L i 3).toInt + (sBright (L i) (sFlow L n (st 0)) / 10).toInt := by
      rw [Int32.toInt_add]
      exact Int.bmod_eq_of_le (by omega) (by omega)
    unfold sMin
    split
    · omega
    · decide
theorem k_hour (hI : wI M n L st hr t A R c p a o) : wAns (fun M => fX9_hour M) (fun M => fX10_hour M) M := by
  have e9 : (9999 : Int32).toInt = 9999 := rfl
  have hh := hI.2.2.1.2.2
  by_cases q : hr = 9999
  · have g1 : ¬ M 1 3 < 9999 := by
      rw [hI.1.1.2.2.2.2, q]
      decide
    exact wAns_ref hI (-6) (e := 5) (by decide) (by
      show fX9_hour M = _
      unfold fX9_hour
      rw [if_neg g1, c_r6]
      rfl) (fun M1 h1 => by
      show fX10_hour M1 = _
      unfold fX10_hour
      rw [if_pos (h1.1.2.2.2.2.trans q), m_r6]
      rfl)
  · have g1 : M 1 3 < 9999 := by
      rw [hI.1.1.2.2.2.2, i_lt]
      have := mt (i_eq hr 9999).mpr q
      have := hh.2
      omega
    obtain ⟨M1, u1, u2, u3⟩ := c_hour hI.1.1
    have hok : wOkH (hr + 1) := by
      have g2 := g1
      rw [hI.1.1.2.2.2.2, i_lt] at g2
      have h0 := hh.1
      have e1 : (hr + 1).toInt = hr.toInt + 1 := by
        have e11 : (1 : Int32).toInt = 1 := rfl
        rw [Int32.toInt_add, e11]
        exact Int.bmod_eq_of_le (by omega) (by omega)
      unfold wOkH
      omega
    refine wAns_row hI (sGone L (sHour L n st hr) n) ⟨wOkL_hour hI.2.2.1.1 hI.2.2.1.2.1, hI.2.2.1.2.1, hok⟩ ⟨M1, ?_, u2, u3⟩ (fun M1 h1 => ?_)
    · show fX9_hour M = _
      unfold fX9_hour
      rw [if_pos g1, u1]
      rfl
    · obtain ⟨M2, v1, v2, v3⟩ := m_hour h1.1 hI.le
      refine ⟨M2, ?_, v2, v3.or⟩
      show fX10_hour M1 = _
      unfold fX10_hour
      rw [if_neg (fun z => q (h1.1.2.2.2.2.symm.trans z)), v1]
      rfl
theorem wOkL_at (h : wOkL L n) {i : Nat} {v : Nat → Int32} (hv : 0 ≤ (v 3).toInt ∧ (v 3).toInt ≤ 9999) : wOkL (fun j => if j = i then v else L j) n := by
  intro j hj
  by_cases q : j = i
  · simp only [if_pos q]
    exact hv
  · simp only [if_neg q]
    exact h j hj
theorem k_swap (hI : wI M n L st hr t A R c p a o) (x : Int32) : wAns (fun M => fX9_swap M x) (fun M => fX10_swap M x) M := by
  have hn := hI.1.1.1
  have e0 : (0 : Int32).toInt = 0 := rfl
  have e1 : (1 : Int32).toInt = 1 := rfl
  have hs := hI.2.2.1.2.1.2.1
  by_cases q1 : ¬ x < 0 ∧ ¬ nI n ≤ x
  · obtain ⟨i, hi, rfl⟩ := i_ix q1.1 q1.2 (by omega)
    have c3 : M 3 1 = st 1 := hI.1.1.2.2.2.1 1 (by decide)
    by_cases q2 : st 1 = 0
    · have g1 : ¬ (0 : Int32) < M 3 1 := by
        rw [c3, q2]
        decide
      exact wAns_ref hI (-3) (e := 2) (by decide) (by
        show fX9_swap M (nI i) = _
        unfold fX9_swap
        rw [c_has hI.1.1, Option.bind_some, decide_eq_true q1, if_neg wb_tn, w14, cl1, if_neg g1, c_r3]
        rfl) (fun M1 h1 => by
        show fX10_swap M1 (nI i) = _
        unfold fX10_swap
        rw [m_lamp h1.1, Option.bind_some, decide_eq_true q1, if_neg wb_tn, w14, cl1, if_pos ((h1.1.2.2.2.1 1 (by decide)).trans q2), m_r3]
        rfl)
    · have g1 : (0 : Int32) < M 3 1 := by
        rw [c3, i_lt]
        have := mt (i_eq (st 1) 0).mpr q2
        omega
      have es : (st 1 - 1).toInt = (st 1).toInt - 1 := by
        rw [Int32.toInt_sub]
        exact Int.bmod_eq_of_le (by omega) (by omega)
      have g2 : 0 < (st 1).toInt := by
        have := mt (i_eq (st 1) 0).mpr q2
        omega
      have b1 := wRow_st hI.1.1 (j := 1) (st 1 - 1)
      obtain ⟨M2, u1, u2, u3⟩ := c_anew (b1.1.2.2.1 i hi)
      have u4 := wRow_lamp (L' := fun j => if j = i then sAnew (L i) else L j) b1.1 hi u2 u3 (if_pos rfl) (fun j _ hj => if_neg hj)
      have hok : wOkR n (fun j => if j = i then sAnew (L i) else L j) (sSet st 1 (st 1 - 1)) hr := by
        refine ⟨wOkL_at hI.2.2.1.1 (by rw [sAnew_3]; decide), ?_, hI.2.2.1.2.2⟩
        obtain ⟨a1, a2, a3, a4⟩ := hI.2.2.1.2.1
        refine ⟨?_, ?_, ?_, ?_⟩
        · rw [sSet_ne (by decide)]; exact a1
        · rw [sSet_same]; omega
        · rw [sSet_ne (by decide)]; exact a3
        · rw [sSet_ne (by decide)]; exact a4
      refine wAns_row hI (wb (sLive (fun j => if j = i then sAnew (L i) else L j) n)) hok ⟨M2, ?_, u4.1, b1.2.tr u4.2⟩ (fun M1 h1 => ?_)
      · show fX9_swap M (nI i) = _
        unfold fX9_swap
        rw [c_has hI.1.1, Option.bind_some, decide_eq_true q1, if_neg wb_tn, w14, cl1, if_pos g1, w14, w14, wlet_eq, wgi_n (by omega) (by decide), nI_clamp (by omega), c3, show fX1_putAnew (wup M 3 1 (st 1 - 1)) (2 + 2 + i) = _ from u1, Option.bind_some, c_live u4.1, Option.bind_some, asNum]
        rfl
      · have m3 : M1 77 1 = st 1 := h1.1.2.2.2.1 1 (by decide)
        have b2 := wMod_st h1.1 (j := 1) (st 1 - 1)
        obtain ⟨M3, v1, v2, v3⟩ := m_anew (L' := fun j => if j = i then sAnew (L i) else L j) b2 hi (if_pos rfl) (fun j _ hj => if_neg hj)
        refine ⟨M3, ?_, v2, (wOr.up M1 1 (st 1 - 1)).tr v3.or⟩
        show fX10_swap M1 (nI i) = _
        unfold fX10_swap
        rw [m_lamp h1.1, Option.bind_some, decide_eq_true q1, if_neg wb_tn, w14, cl1, m3, if_neg q2, w14, w14, wlet_eq, v1, Option.bind_some, m_live v2, Option.bind_some]
        cases sLive (fun j => if j = i then sAnew (L i) else L j) n <;> rfl
  · exact wAns_ref hI (-1) (e := 0) (by decide) (by
      show fX9_swap M x = _
      unfold fX9_swap
      rw [c_has hI.1.1, Option.bind_some, decide_eq_false q1, if_pos wb_fa, c_r1]
      rfl) (fun M1 h1 => by
      show fX10_swap M1 x = _
      unfold fX10_swap
      rw [m_lamp h1.1, Option.bind_some, decide_eq_false q1, if_pos wb_fa, m_r1]
      rfl)
theorem k_touch (hI : wI M n L st hr t A R c p a o) (x : Int32) : wAns (fun M => fX9_touch M x) (fun M => fX10_touch M x) M := by
  have hn := hI.1.1.1
  by_cases q1 : ¬ x < 0 ∧ ¬ nI n ≤ x
  · obtain ⟨i, hi, rfl⟩ := i_ix q1.1 q1.2 (by omega)
    obtain ⟨M1, u1, u2, u3⟩ := c_touchAt hI.1.1 hi
    refine wAns_row hI (sTouch (L i) (st 3) 4) (n' := n) (L' := fun j => if j = i then sTouch (L i) (st 3) else L j) (st' := st) (hr' := hr) ⟨wOkL_at hI.2.2.1.1 (by rw [sTouch_3]; exact hI.2.2.1.1 i hi), hI.2.2.1.2⟩ ⟨M1, ?_, u2, u3⟩ (fun M1 h1 => ?_)
    · have k1 : M1 (2 + 2 + i) 4 = sTouch (L i) (st 3) 4 := (u2.2.2.1 i hi 4 (by decide)).trans (congrFun (if_pos rfl) 4)
      show fX9_touch M (nI i) = _
      unfold fX9_touch
      rw [c_has hI.1.1, Option.bind_some, decide_eq_true q1, if_neg wb_tn, u1, Option.bind_some, wgi_n (by omega) (by decide), nI_clamp (by omega), k1]
    · obtain ⟨M2, v1, v2, v3⟩ := m_touch (L' := fun j => if j = i then sTouch (L i) (st 3) else L j) h1.1 hi (if_pos rfl) (fun j _ hj => if_neg hj)
      have k1 : M2 76 i = sTouch (L i) (st 3) 4 := (m_4 v2 hi).trans (congrFun (if_pos rfl) 4)
      refine ⟨M2, ?_, v2, v3.or⟩
      show fX10_touch M1 (nI i) = _
      unfold fX10_touch
      rw [m_lamp h1.1, Option.bind_some, decide_eq_true q1, if_neg wb_tn, v1, Option.bind_some, wgi_n (by omega) (by decide), nI_clamp (by omega), k1]
  · exact wAns_ref hI (-1) (e := 0) (by decide) (by
      show fX9_touch M x = _
      unfold fX9_touch
      rw [c_has hI.1.1, Option.bind_some, decide_eq_false q1, if_pos wb_fa, c_r1]
      rfl) (fun M1 h1 => by
      show fX10_touch M1 x = _
      unfold fX10_touch
      rw [m_lamp h1.1, Option.bind_some, decide_eq_false q1, if_pos wb_fa, m_r1]
      rfl)
theorem k_feed (hI : wI M n L st hr t A R c p a o) (x : Int32) : wAns (fun M => fX9_feed M x) (fun M => fX10_feed M x) M := by
  have ht := hI.2.2.2.1.1
  have e47 := hI.1.2.1.1
  by_cases q1 : 0 ≤ x
  · by_cases q2 : 255 < x
    · have q3 : ¬ x ≤ 255 := Int32.not_le.mpr q2
      exact wAns_ref hI (-6) (e := 5) (by decide) (by
        show fX9_feed M x = _
        unfold fX9_feed fX9_feed_30
        rw [if_pos q1, if_pos q2, c_r6]
        rfl) (fun M1 h1 => by
        show fX10_feed M1 x = _
        unfold fX10_feed fX10_bound fX10_feed_25
        rw [if_pos q1, if_neg q3, Option.bind_some, if_neg (by decide), if_neg (by decide), m_r6]
        rfl)
    · have q3 : x ≤ 255 := Int32.not_lt.mp q2
      by_cases q4 : t = 64
      · subst q4
        have g1 : ¬ M 47 1 < 64 := by
          rw [e47]
          decide
        exact wAns_ref hI (-6) (e := 5) (by decide) (by
          show fX9_feed M x = _
          unfold fX9_feed fX9_feed_30
          rw [if_pos q1, if_neg q2, if_neg g1, c_r6]
          rfl) (fun M1 h1 => by
          show fX10_feed M1 x = _
          unfold fX10_feed fX10_bound fX10_feed_25
          rw [if_pos q1, if_pos q3, Option.bind_some, if_pos rfl, if_pos (show M1 70 13 = 64 from h1.2.1.1), if_neg (by decide), m_r6]
          rfl)
      · obtain ⟨v, hv, rfl⟩ := nI_of (Int32.not_lt.mpr q1)
        have hv2 : v ≤ 255 := (nI_leI (b := 255) hv (by decide)).mp q3
        have g1 : nI t < (64 : Int32) := (nI_ltI (b := 64) (by omega) (by decide)).mpr (by omega)
        have g2 : ¬ (64 : Int32) ≤ nI t := Int32.not_le.mpr g1
        have ec : vp_nar .char ((Int32.toUInt32 (nI v) % 65536).toInt32) = nI v := by
          rw [pk_vc, pk_char, pk_tn (by omega), Nat.mod_eq_of_lt (by omega)]
        refine wAns_go (n' := n) (L' := L) (st' := st) (hr' := hr) (t' := t + 1) (A' := fun i => if i = t then nI v else A i) (R' := R) (c' := c) (p' := p) (a' := a) (o' := o) hI (nI (t + 1)) ⟨hI.2.2.1, ⟨by omega, fun i hi => ?_⟩, hI.2.2.2.2⟩ ⟨wup (wup M 48 t (nI v)) 47 1 (nI (t + 1)), ?_, ?_, fun b hb => by rw [wup_cell (by omega), wup_cell (by omega)]⟩ (fun M1 h1 => ⟨wup (wup M1 78 t (nI v)) 70 13 (nI (t + 1)), ?_, ?_, fun b hb => by rw [wup_cell (by omega), wup_cell (by omega)]⟩)
        · by_cases z : i = t
          · exact ⟨v, by omega, if_pos z⟩
          · obtain ⟨w, hw, e⟩ := hI.2.2.2.1.2 i (by omega)
            exact ⟨w, hw, (if_neg z).trans e⟩
        · show fX9_feed M (nI v) = _
          unfold fX9_feed fX2_add
          rw [if_pos q1, if_neg q2, e47, if_pos g1, if_neg g2, wgi_n (by omega) (by decide), nI_clamp (by omega), ec, wlet_eq, wlet_eq, wup_cell (by decide), e47, nI_1, Option.bind_some, wup_same]
        · have h := hI.1
          have eb : ∀ b, b ≠ 47 → b ≠ 48 → wup (wup M 48 t (nI v)) 47 1 (nI (t + 1)) b = M b := fun b h1 h2 => by rw [wup_cell h1, wup_cell h2]
          refine ⟨wRow_keep h.1 (fun b h1 h2 => eb b (by omega) (by omega)), ⟨wup_same _ _ _ _, fun i hi => ?_⟩, fun j hj => by rw [eb 69 (by omega) (by omega)]; exact h.2.2.1 j hj, wTold_keep h.2.2.2.1 (by rw [eb 50 (by omega) (by omega)]) (eb 51 (by omega) (by omega)) (eb 52 (by omega) (by omega)), wCo_keep h.2.2.2.2 (by rw [eb 0 (by omega) (by omega)]) (fun b _ _ => eb b (by omega) (by omega))⟩
          show _ = if i = t then nI v else A i
          rw [wup_cell (by decide)]
          by_cases z : i = t
          · rw [z, if_pos rfl, wup_same]
          · rw [wup_slot z, if_neg z]
            exact h.2.1.2 i (by omega)
        · show fX10_feed M1 (nI v) = _
          unfold fX10_feed fX10_bound fX10_feed_25
          have k1 : wup M1 78 t (nI v) 70 13 = nI t := by rw [wup_cell (by decide), h1.2.1.1]
          have g3 : ¬ M1 70 13 = 64 := by
            rw [h1.2.1.1]
            exact fun z => q4 ((nI_eq (b := 64) (by omega) (by decide)).mp z)
          rw [if_pos q1, if_pos q3, Option.bind_some, if_pos rfl, if_neg g3, if_pos rfl, h1.2.1.1, wgi_n (by omega) (by decide), nI_clamp (by omega), wlet_eq, wlet_eq, k1, nI_1, wup_same]
        · have h := h1
          have eb : ∀ b, b ≠ 70 → b ≠ 78 → wup (wup M1 78 t (nI v)) 70 13 (nI (t + 1)) b = M1 b := fun b h1 h2 => by rw [wup_cell h1, wup_cell h2]
          have es : ∀ j, j ≠ 13 → wup (wup M1 78 t (nI v)) 70 13 (nI (t + 1)) 70 j = M1 70 j := fun j hj => by rw [wup_slot hj, wup_cell (by decide)]
          refine ⟨⟨h.1.1, by rw [es 7 (by omega)]; exact h.1.2.1, fun i hi f hf => by rw [eb _ (by omega) (by omega)]; exact h.1.2.2.1 i hi f hf, fun j hj => by rw [eb _ (by omega) (by omega)]; exact h.1.2.2.2.1 j hj, by rw [es 8 (by omega)]; exact h.1.2.2.2.2⟩, ⟨wup_same _ _ _ _, fun i hi => ?_⟩, fun j hj => by rw [eb 71 (by omega) (by omega)]; exact h.2.2.1 j hj, wToldM_keep h.2.2.2.1 (es 28 (by omega)) (eb 89 (by omega) (by omega)) (eb 90 (by omega) (by omega)), wMo_keep h.2.2.2.2 (es 17 (by omega)) (fun j hj => by rw [eb 82 (by omega) (by omega)])⟩
          show _ = if i = t then nI v else A i
          rw [wup_cell (by decide)]
          by_cases z : i = t
          · rw [z, if_pos rfl, wup_same]
          · rw [wup_slot z, if_neg z]
            exact h.2.1.2 i (by omega)
  · exact wAns_ref hI (-4) (e := 3) (by decide) (by
      show fX9_feed M x = _
      unfold fX9_feed
      rw [if_neg q1, c_r4]
      rfl) (fun M1 h1 => by
      show fX10_feed M1 x = _
      unfold fX10_feed fX10_bound fX10_feed_25
      rw [if_neg q1, Option.bind_some, if_neg (by decide), if_neg (by decide), m_r4]
      rfl)
theorem k_judge (hI : wI M n L st hr t A R c p a o) : wAns (fun M => fX9_judge M) (fun M => fX10_judge M) M := by
  refine wAns_go (n' := n) (L' := L) (st' := st) (hr' := hr) (t' := t) (A' := A) (R' := R) (c' := 0) (p' := p) (a' := a) (o' := o) hI (sFirst (sJd p a n) 0 c) hI.2.2 ⟨wup M 50 2 0, c_judge hI.1.1 hI.1.2.2.2.1, ?_, fun b hb => wup_cell (by omega)⟩ (fun M1 h1 => ⟨wup M1 70 28 0, m_judge h1.1 h1.2.2.2.1, ?_, fun b hb => wup_cell (by omega)⟩)
  · have h := hI.1
    have eb : ∀ b, b ≠ 50 → wup M 50 2 0 b = M b := fun b h1 => wup_cell h1
    exact ⟨wRow_keep h.1 (fun b h1 h2 => eb b (by omega)), ⟨by rw [eb 47 (by omega)]; exact h.2.1.1, fun i hi => by rw [eb 48 (by omega)]; exact h.2.1.2 i hi⟩, fun j hj => by rw [eb 69 (by omega)]; exact h.2.2.1 j hj, ⟨by omega, wup_same _ _ _ _, fun k hk => by omega⟩, wCo_keep h.2.2.2.2 (by rw [eb 0 (by omega)]) (fun b _ _ => eb b (by omega))⟩
  · have h := h1
    have eb : ∀ b, b ≠ 70 → wup M1 70 28 0 b = M1 b := fun b h1 => wup_cell h1
    have es : ∀ j, j ≠ 28 → wup M1 70 28 0 70 j = M1 70 j := fun j hj => wup_slot hj
    exact ⟨⟨h.1.1, by rw [es 7 (by omega)]; exact h.1.2.1, fun i hi f hf => by rw [eb _ (by omega)]; exact h.1.2.2.1 i hi f hf, fun j hj => by rw [eb _ (by omega)]; exact h.1.2.2.2.1 j hj, by rw [es 8 (by omega)]; exact h.1.2.2.2.2⟩, ⟨by rw [es 13 (by omega)]; exact h.2.1.1, fun i hi => by rw [eb 78 (by omega)]; exact h.2.1.2 i hi⟩, fun j hj => by rw [eb 71 (by omega)]; exact h.2.2.1 j hj, ⟨by omega, wup_same _ _ _ _, fun k hk => by omega⟩, wMo_keep h.2.2.2.2 (es 17 (by omega)) (fun j hj => by rw [eb 82 (by omega)])⟩
theorem k_told (hI : wI M n L st hr t A R c p a o) (x y : Int32) : wAns (fun M => fX9_told M x y) (fun M => fX10_told M x y) M := by
  have hn := hI.1.1.1
  have hc := hI.1.2.2.2.1.1
  have e50 := hI.1.2.2.2.1.2.1
  by_cases q1 : ¬ x < 0 ∧ ¬ nI n ≤ x
  · obtain ⟨i, hi, rfl⟩ := i_ix q1.1 q1.2 (by omega)
    by_cases q2 : y = 0 ∨ y = 1
    · have f0 : fX9_told M (nI i) y = fX9_told_33 M (nI i) y := by
        unfold fX9_told
        rw [c_has hI.1.1, Option.bind_some, decide_eq_true q1, if_neg wb_tn]
        rcases q2 with rfl | rfl
        · rw [if_pos rfl]
        · rw [if_neg (by decide), if_pos rfl]
      obtain ⟨v, hv, rfl⟩ : ∃ v : Nat, v < 2 ∧ y = nI v := by
        rcases q2 with rfl | rfl
        · exact ⟨0, by omega, rfl⟩
        · exact ⟨1, by omega, rfl⟩
      by_cases q3 : c = 6
      · subst q3
        exact wAns_ref hI (-6) (e := 5) (by decide) (by
          show fX9_told M (nI i) (nI v) = _
          rw [f0]
          unfold fX9_told_33
          rw [if_neg (show ¬ M 50 2 < 6 by rw [e50]; decide), c_r6]
          rfl) (fun M1 h1 => by
          show fX10_told M1 (nI i) (nI v) = _
          unfold fX10_told
          rw [m_lamp h1.1, Option.bind_some, decide_eq_true q1, if_neg wb_tn, isIn01, Option.bind_some, decide_eq_true q2, if_neg wb_tn, if_pos (show M1 70 28 = 6 from h1.2.2.2.1.2.1), m_r6]
          rfl)
      · have g1 : nI c < (6 : Int32) := (nI_ltI (b := 6) (by omega) (by decide)).mpr (by omega)
        have g2 : ¬ (6 : Int32) ≤ nI c := Int32.not_le.mpr g1
        refine wAns_go (n' := n) (L' := L) (st' := st) (hr' := hr) (t' := t) (A' := A) (R' := R) (c' := c + 1) (p' := fun k => if k = c then i else p k) (a' := fun k => if k = c then v else a k) (o' := o) hI (nI (c + 1)) hI.2.2 ⟨wup (wup (wup M 51 c (nI i)) 52 c (nI v)) 50 2 (nI (c + 1)), ?_, ?_, fun b hb => by rw [wup_cell (by omega), wup_cell (by omega), wup_cell (by omega)]⟩ (fun M1 h1 => ⟨wup (wup (wup M1 89 c (nI i)) 90 c (nI v)) 70 28 (nI (c + 1)), ?_, ?_, fun b hb => by rw [wup_cell (by omega), wup_cell (by omega), wup_cell (by omega)]⟩)
        · show fX9_told M (nI i) (nI v) = _
          rw [f0]
          unfold fX9_told_33 fX3_add
          have k1 : wup M 51 c (nI i) 50 2 = nI c := by rw [wup_cell (by decide), e50]
          have k2 : wup (wup M 51 c (nI i)) 52 c (nI v) 50 2 = nI c := by rw [wup_cell (by decide), k1]
          rw [e50, if_pos g1, if_neg g2, wgi_n (by omega) (by decide), nI_clamp (by omega), wlet_eq, k1, wgi_n (by omega) (by decide), nI_clamp (by omega), wlet_eq, k2, wlet_eq, nI_1, Option.bind_some, wup_same]
        · have h := hI.1
          have eb : ∀ b, b ≠ 50 → b ≠ 51 → b ≠ 52 → wup (wup (wup M 51 c (nI i)) 52 c (nI v)) 50 2 (nI (c + 1)) b = M b := fun b h1 h2 h3 => by rw [wup_cell h1, wup_cell h3, wup_cell h2]
          refine ⟨wRow_keep h.1 (fun b h1 h2 => eb b (by omega) (by omega) (by omega)), ⟨by rw [eb 47 (by omega) (by omega) (by omega)]; exact h.2.1.1, fun i hi => by rw [eb 48 (by omega) (by omega) (by omega)]; exact h.2.1.2 i hi⟩, fun j hj => by rw [eb 69 (by omega) (by omega) (by omega)]; exact h.2.2.1 j hj, ⟨by omega, wup_same _ _ _ _, fun k hk => ?_⟩, wCo_keep h.2.2.2.2 (by rw [eb 0 (by omega) (by omega) (by omega)]) (fun b _ _ => eb b (by omega) (by omega) (by omega))⟩
          show _ = nI (if k = c then i else p k) ∧ _ = nI (if k = c then v else a k) ∧ (if k = c then i else p k) < 12 ∧ (if k = c then v else a k) < 2
          have c1 : wup (wup (wup M 51 c (nI i)) 52 c (nI v)) 50 2 (nI (c + 1)) 51 k = wup M 51 c (nI i) 51 k := by rw [wup_cell (by decide), wup_cell (by decide)]
          have c2 : wup (wup (wup M 51 c (nI i)) 52 c (nI v)) 50 2 (nI (c + 1)) 52 k = wup (wup M 51 c (nI i)) 52 c (nI v) 52 k := by rw [wup_cell (by decide)]
          rw [c1, c2]
          by_cases z : k = c
          · rw [if_pos z, if_pos z, z, wup_same, wup_same]
            exact ⟨rfl, rfl, by omega, hv⟩
          · rw [if_neg z, if_neg z, wup_slot z, wup_slot z, wup_cell (by decide)]
            exact h.2.2.2.1.2.2 k (by omega)
        · show fX10_told M1 (nI i) (nI v) = _
          unfold fX10_told
          have e28 := h1.2.2.2.1.2.1
          have g3 : ¬ M1 70 28 = 6 := by
            rw [e28]
            exact fun z => q3 ((nI_eq (b := 6) (by omega) (by decide)).mp z)
          have k1 : wup M1 89 c (nI i) 70 28 = nI c := by rw [wup_cell (by decide), e28]
          have k2 : wup (wup M1 89 c (nI i)) 90 c (nI v) 70 28 = nI c := by rw [wup_cell (by decide), k1]
          rw [m_lamp h1.1, Option.bind_some, decide_eq_true q1, if_neg wb_tn, isIn01, Option.bind_some, decide_eq_true q2, if_neg wb_tn, if_neg g3, e28, wgi_n (by omega) (by decide), nI_clamp (by omega), wlet_eq, k1, wgi_n (by omega) (by decide), nI_clamp (by omega), wlet_eq, k2, wlet_eq, nI_1, wup_same]
        · have h := h1
          have eb : ∀ b, b ≠ 70 → b ≠ 89 → b ≠ 90 → wup (wup (wup M1 89 c (nI i)) 90 c (nI v)) 70 28 (nI (c + 1)) b = M1 b := fun b h1 h2 h3 => by rw [wup_cell h1, wup_cell h3, wup_cell h2]
          have es : ∀ j, j ≠ 28 → wup (wup (wup M1 89 c (nI i)) 90 c (nI v)) 70 28 (nI (c + 1)) 70 j = M1 70 j := fun j hj => by rw [wup_slot hj, wup_cell (by decide), wup_cell (by decide)]
          refine ⟨⟨h.1.1, by rw [es 7 (by omega)]; exact h.1.2.1, fun i hi f hf => by rw [eb _ (by omega) (by omega) (by omega)]; exact h.1.2.2.1 i hi f hf, fun j hj => by rw [eb _ (by omega) (by omega) (by omega)]; exact h.1.2.2.2.1 j hj, by rw [es 8 (by omega)]; exact h.1.2.2.2.2⟩, ⟨by rw [es 13 (by omega)]; exact h.2.1.1, fun i hi => by rw [eb 78 (by omega) (by omega) (by omega)]; exact h.2.1.2 i hi⟩, fun j hj => by rw [eb 71 (by omega) (by omega) (by omega)]; exact h.2.2.1 j hj, ⟨by omega, wup_same _ _ _ _, fun k hk => ?_⟩, wMo_keep h.2.2.2.2 (es 17 (by omega)) (fun j hj => by rw [eb 82 (by omega) (by omega) (by omega)])⟩
          show _ = nI (if k = c then i else p k) ∧ _ = nI (if k = c then v else a k) ∧ (if k = c then i else p k) < 12 ∧ (if k = c then v else a k) < 2
          have c1 : wup (wup (wup M1 89 c (nI i)) 90 c (nI v)) 70 28 (nI (c + 1)) 89 k = wup M1 89 c (nI i) 89 k := by rw [wup_cell (by decide), wup_cell (by decide)]
          have c2 : wup (wup (wup M1 89 c (nI i)) 90 c (nI v)) 70 28 (nI (c + 1)) 90 k = wup (wup M1 89 c (nI i)) 90 c (nI v) 90 k := by rw [wup_cell (by decide)]
          rw [c1, c2]
          by_cases z : k = c
          · rw [if_pos z, if_pos z, z, wup_same, wup_same]
            exact ⟨rfl, rfl, by omega, hv⟩
          · rw [if_neg z, if_neg z, wup_slot z, wup_slot z, wup_cell (by decide)]
            exact h.2.2.2.1.2.2 k (by omega)
    · exact wAns_ref hI (-2) (e := 1) (by decide) (by
        show fX9_told M (nI i) y = _
        unfold fX9_told
        rw [c_has hI.1.1, Option.bind_some, decide_eq_true q1, if_neg wb_tn, if_neg (fun z => q2 (Or.inl z)), if_neg (fun z => q2 (Or.inr z)), c_r2]
        rfl) (fun M1 h1 => by
        show fX10_told M1 (nI i) y = _
        unfold fX10_told
        rw [m_lamp h1.1, Option.bind_some, decide_eq_true q1, if_neg wb_tn, isIn01, Option.bind_some, decide_eq_false q2, if_pos wb_fa, m_r2]
        rfl)
  · exact wAns_ref hI (-1) (e := 0) (by decide) (by
      show fX9_told M x y = _
      unfold fX9_told
      rw [c_has hI.1.1, Option.bind_some, decide_eq_false q1, if_pos wb_fa, c_r1]
      rfl) (fun M1 h1 => by
      show fX10_told M1 x y = _
      unfold fX10_told
      rw [m_lamp h1.1, Option.bind_some, decide_eq_false q1, if_pos wb_fa, m_r1]
      rfl)
end
