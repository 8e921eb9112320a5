/-! part 30: reading a statement -/
def sLet (A : Nat → Int32) (t q : Nat) : Int32 := if q < t then A q else -1
def sDg (x : Int32) : Bool := decide (¬ x < 48 ∧ ¬ 57 < x)
def sRd (A : Nat → Int32) (t : Nat) : Nat → Nat → Int32 → Int32 × Nat
  | 0, q, x => (x, q)
  | m + 1, q, x => if sDg (sLet A t q) = true then sRd A t m (q + 1) (10 * x + sLet A t q - 48) else (x, q)
theorem sRd_s (A : Nat → Int32) (t m q : Nat) (x : Int32) : sRd A t (m + 1) q x = if sDg (sLet A t q) = true then sRd A t m (q + 1) (10 * x + sLet A t q - 48) else (x, q) := rfl
theorem sRd_ge (A : Nat → Int32) (t : Nat) : ∀ m q x, q ≤ (sRd A t m q x).2 ∧ (sRd A t m q x).2 ≤ q + m
  | 0, q, x => ⟨Nat.le_refl _, Nat.le_refl _⟩
  | m + 1, q, x => by
    rw [sRd_s]
    split
    · have := sRd_ge A t m (q + 1) (10 * x + sLet A t q - 48)
      omega
    · exact ⟨Nat.le_refl _, by show q ≤ _; omega⟩
def sNm (A : Nat → Int32) (t m : Nat) (b : Bool × Nat) : Int32 × Bool × Nat := if b.1 = true then ((sRd A t m b.2 0).1, decide ((sRd A t m b.2 0).2 ≠ b.2), (sRd A t m b.2 0).2) else (0, false, b.2)
def sSg (A : Nat → Int32) (t : Nat) (ch : Int32) (b : Bool × Nat) : Bool × Nat := if b.1 = true ∧ sLet A t b.2 = ch then (true, b.2 + 1) else (false, b.2)
theorem sNm_f (A : Nat → Int32) (t m q : Nat) : sNm A t m (false, q) = (0, false, q) := rfl
theorem sNm_t (A : Nat → Int32) (t m q : Nat) : sNm A t m (true, q) = ((sRd A t m q 0).1, decide ((sRd A t m q 0).2 ≠ q), (sRd A t m q 0).2) := rfl
theorem sSg_f (A : Nat → Int32) (t q : Nat) (ch : Int32) : sSg A t ch (false, q) = (false, q) := if_neg (fun z => by cases z.1)
theorem sNm_le (A : Nat → Int32) (t m : Nat) (b : Bool × Nat) : b.2 ≤ (sNm A t m b).2.2 ∧ (sNm A t m b).2.2 ≤ b.2 + m := by
  unfold sNm
  split
  · exact sRd_ge A t m b.2 0
  · exact ⟨Nat.le_refl _, by show b.2 ≤ _; omega⟩
theorem sSg_le (A : Nat → Int32) (t : Nat) (ch : Int32) (b : Bool × Nat) : b.2 ≤ (sSg A t ch b).2 ∧ (sSg A t ch b).2 ≤ b.2 + 1 := by
  unfold sSg
  split
  · exact ⟨by show b.2 ≤ b.2 + 1; omega, Nat.le_refl _⟩
  · exact ⟨Nat.le_refl _, by show b.2 ≤ _; omega⟩
def wLt (M : wMem) (t : Nat) (A : Nat → Int32) : Prop := t ≤ 64 ∧ M 47 1 = nI t ∧ ∀ i, i < t → M 48 i = A i
def wLm (M : wMem) (t : Nat) (A : Nat → Int32) : Prop := t ≤ 64 ∧ M 70 13 = nI t ∧ ∀ i, i < t → M 78 i = A i
def wPs (M : wMem) (b : Bool × Nat) : Prop := M 49 4 = nI b.2 ∧ M 49 5 = wb b.1
def wO49 (M M' : wMem) : Prop := ∀ b j, (b ≠ 49 ∨ (j ≠ 4 ∧ j ≠ 5)) → M' b j = M b j
theorem wO49.rf (M : wMem) : wO49 M M := fun _ _ _ => rfl
theorem wO49.tr {M1 M2 M3 : wMem} (h : wO49 M1 M2) (h2 : wO49 M2 M3) : wO49 M1 M3 := fun b j hj => (h2 b j hj).trans (h b j hj)
section
variable {M : wMem} {t : Nat} {A : Nat → Int32}
theorem wO49.lt {M' : wMem} (e : wO49 M M') (h : wLt M t A) : wLt M' t A := ⟨h.1, by rw [e 47 1 (by omega)]; exact h.2.1, fun i hi => by rw [e 48 i (by omega)]; exact h.2.2 i hi⟩
theorem c_let (h : wLt M t A) {q : Nat} (hq : q < 2 ^ 31) : fX2_signAt M (nI q) = some (sLet A t q) := by
  have ht := h.1
  unfold fX2_signAt sLet
  rw [if_neg (nI_pos hq), h.2.1]
  by_cases z : q < t
  · rw [if_neg (nI_ge z (by omega)), if_pos z, wgi_n (by omega) (by decide), nI_clamp hq, h.2.2 q z]
  · rw [if_pos (nI_le (by omega) hq), if_neg z]
theorem m_let (h : wLm M t A) {q : Nat} (hq : q < 2 ^ 31) (h14 : M 70 14 = nI q) : fX10_nextLetter M = some (sLet A t q) := by
  have ht := h.1
  unfold fX10_nextLetter sLet
  rw [h.2.1, h14]
  by_cases z : q < t
  · rw [if_neg (nI_ge z (by omega)), if_pos z, wgi_n (by omega) (by decide), nI_clamp hq, h.2.2 q z]
  · rw [if_pos (nI_le (by omega) hq), if_neg z]
theorem c_dig (M : wMem) (x : Int32) : fX7_isDigit M x = some (sDg x) := by
  unfold fX7_isDigit sDg
  by_cases q1 : x < 48
  · rw [if_pos q1, decide_eq_false (fun z => z.1 q1)]
  · rw [if_neg q1]
    by_cases q2 : 57 < x
    · rw [if_pos q2, decide_eq_false (fun z => z.2 q2)]
    · rw [if_neg q2, decide_eq_true ⟨q1, q2⟩]
theorem m_dig (M : wMem) (x : Int32) : fX10_isIn M x 48 57 = some (sDg x) := by
  unfold fX10_isIn sDg
  by_cases q1 : x < 48
  · rw [if_pos q1, decide_eq_false (fun z => z.1 q1)]
  · rw [if_neg q1]
    by_cases q2 : 57 < x
    · rw [if_pos q2, decide_eq_false (fun z => z.2 q2)]
    · rw [if_neg q2, decide_eq_true ⟨q1, q2⟩]
/-- how a number ends -/
theorem c_num65 {M1 M2 : wMem} (ho : wO49 M1 M2) {q0 k : Nat} {x : Int32} (h4 : M2 49 4 = nI (q0 + k)) (h5 : M2 49 5 = 1) (hk : k < 2 ^ 31) : ∃ M', fX7_readNumber_65 M2 x (nI k) = some (x, M') ∧ wPs M' (decide (q0 + k ≠ q0), q0 + k) ∧ wO49 M1 M' := by
  unfold fX7_readNumber_65
  by_cases q : k = 0
  · subst q
    refine ⟨wup M2 49 5 0, by rw [if_pos (show nI 0 = 0 from rfl), wlet_eq], ⟨by rw [wup_slot (by decide)]; exact h4, ?_⟩, fun b j hj => by rw [wup_off (by omega)]; exact ho b j hj⟩
    rw [wup_same, decide_eq_false (by omega)]
    rfl
  · have g0 : ¬ nI k = 0 := fun z => q ((nI_eq (b := 0) hk (by decide)).mp z)
    refine ⟨M2, by rw [if_neg g0], ⟨h4, ?_⟩, ho⟩
    rw [h5, decide_eq_true (by omega)]
    rfl
theorem c_num (h : wLt M t A) {m : Nat} (hm : m ≤ 3) {b : Bool × Nat} (hb : b.2 ≤ 1000) (hp : wPs M b) : ∃ M', fX7_readNumber M (nI m) = some ((sNm A t m b).1, M') ∧ wPs M' (sNm A t m b).2 ∧ wO49 M M' := by
  obtain ⟨ok, q0⟩ := b
  have hb2 : q0 ≤ 1000 := hb
  cases ok with
  | false =>
    refine ⟨wup M 49 5 0, ?_, ⟨by rw [wup_slot (by decide)]; exact hp.1, wup_same _ _ _ _⟩, fun b j hj => wup_off (by omega)⟩
    unfold fX7_readNumber fX7_readNumber_5
    refine wloop_q (fun _ s => s = (0, 0, M)) (fun o => o = some ((sNm A t m (false, q0)).1, wup M 49 5 0)) ?_ wfuel 0 (0, 0, M) rfl (wfuel_lt (by omega))
    rintro rec e _ rfl
    left
    dsimp only
    unfold fX7_readNumber_5_b fX7_readNumber_65
    rw [if_pos (show M 49 5 = 0 from hp.2), if_pos rfl, wlet_eq]
    rfl
  | true =>
    rw [sNm_t]
    unfold fX7_readNumber fX7_readNumber_5
    refine wloop_q (fun e s => ∃ k, k + e = m ∧ s.2.1 = nI k ∧ s.2.2 49 4 = nI (q0 + k) ∧ s.2.2 49 5 = 1 ∧ wO49 M s.2.2 ∧ sRd A t m q0 0 = sRd A t e (q0 + k) s.1) (fun o => ∃ M', o = some ((sRd A t m q0 0).1, M') ∧ wPs M' (decide ((sRd A t m q0 0).2 ≠ q0), (sRd A t m q0 0).2) ∧ wO49 M M') ?_ wfuel m (0, 0, M) ⟨0, by omega, rfl, hp.1, hp.2, wO49.rf M, rfl⟩ (wfuel_lt (by omega))
    rintro rec e ⟨x, y, M2⟩ ⟨k, hk, rfl, h4, h5, hO, hs⟩
    dsimp only at h4 h5 hO hs ⊢
    unfold fX7_readNumber_5_b
    rw [h5, if_neg (show ¬ (1 : Int32) = 0 by decide)]
    cases e with
    | zero =>
      left
      have e1 : sRd A t m q0 0 = (x, q0 + k) := hs
      rw [if_pos (nI_le (by omega) (by omega)), e1]
      exact c_num65 hO h4 h5 (by omega)
    | succ e =>
      rw [sRd_s] at hs
      rw [if_neg (nI_ge (by omega) (by omega)), h4, c_let (hO.lt h) (by omega), Option.bind_some, c_dig, Option.bind_some]
      by_cases z : sDg (sLet A t (q0 + k)) = true
      · right
        rw [if_pos z] at hs
        obtain ⟨M3, hM3⟩ : ∃ M3, M3 = wup M2 49 4 (nI (q0 + (k + 1))) := ⟨_, rfl⟩
        have c1 : M3 49 4 = nI (q0 + (k + 1)) := by rw [hM3, wup_same]
        have c2 : M3 49 5 = 1 := by rw [hM3, wup_slot (by decide)]; exact h5
        have c3 : wO49 M M3 := fun b j hj => by rw [hM3, wup_off (by omega)]; exact hO b j hj
        refine ⟨e, (10 * x + sLet A t (q0 + k) - 48, nI (k + 1), M3), by omega, ⟨k + 1, by omega, rfl, c1, c2, c3, hs⟩, ?_⟩
        rw [z, if_neg wb_tn, Option.bind_some, hM3]
        simp only [wlet_eq, h4, nI_1, Nat.add_assoc]
      · left
        rw [if_neg z] at hs
        rw [show sDg (sLet A t (q0 + k)) = false by simpa using z, if_pos wb_fa, hs]
        exact c_num65 hO h4 h5 (by omega)
theorem c_sign (h : wLt M t A) {b : Bool × Nat} (hb : b.2 ≤ 1000) (hp : wPs M b) (ch : Int32) : ∃ M', fX7_readSign M ch = some M' ∧ wPs M' (sSg A t ch b) ∧ wO49 M M' := by
  obtain ⟨ok, q0⟩ := b
  have hb2 : q0 ≤ 1000 := hb
  have h4 : M 49 4 = nI q0 := hp.1
  unfold fX7_readSign
  cases ok with
  | false =>
    refine ⟨M, by rw [if_pos (show M 49 5 = 0 from hp.2)], ?_, wO49.rf M⟩
    rw [sSg_f]
    exact hp
  | true =>
    have h5 : M 49 5 = 1 := hp.2
    rw [h5, if_neg (show ¬ (1 : Int32) = 0 by decide), h4, c_let h (by omega), Option.bind_some]
    unfold sSg
    by_cases z : sLet A t q0 = ch
    · refine ⟨wup M 49 4 (nI (q0 + 1)), by rw [if_pos z, wlet_eq, nI_1], ?_, fun b j hj => wup_off (by omega)⟩
      rw [if_pos ⟨rfl, z⟩]
      exact ⟨wup_same _ _ _ _, by rw [wup_slot (by decide)]; exact hp.2⟩
    · refine ⟨wup M 49 5 0, by rw [if_neg z, wlet_eq], ?_, fun b j hj => wup_off (by omega)⟩
      rw [if_neg (fun y => z y.2)]
      exact ⟨by rw [wup_slot (by decide)]; exact h4, wup_same _ _ _ _⟩
/-- off the place of the next letter -/
def wO14 (M M' : wMem) : Prop := ∀ b j, (b ≠ 70 ∨ j ≠ 14) → M' b j = M b j
theorem wO14.rf (M : wMem) : wO14 M M := fun _ _ _ => rfl
theorem wO14.lm {M' : wMem} (e : wO14 M M') (h : wLm M t A) : wLm M' t A := ⟨h.1, by rw [e 70 13 (by omega)]; exact h.2.1, fun i hi => by rw [e 78 i (by omega)]; exact h.2.2 i hi⟩
theorem m_next1 (h : wLm M t A) {q : Nat} (hq : q ≤ 1000) (h14 : M 70 14 = nI q) (ch : Int32) : ∃ M', fX10_isNext M ch = some ((sSg A t ch (true, q)).1, M') ∧ M' 70 14 = nI (sSg A t ch (true, q)).2 ∧ wO14 M M' := by
  unfold fX10_isNext sSg
  rw [m_let h (by omega) h14, Option.bind_some]
  by_cases z : sLet A t q = ch
  · refine ⟨wup M 70 14 (nI (q + 1)), ?_, ?_, fun b j hj => wup_off (by omega)⟩
    · rw [if_pos z, if_pos ⟨rfl, z⟩, wlet_eq, h14, nI_1]
    · rw [if_pos ⟨rfl, z⟩, wup_same]
  · refine ⟨M, ?_, ?_, wO14.rf M⟩
    · rw [if_neg z, if_neg (fun y => z y.2)]
    · rw [if_neg (fun y => z y.2)]
      exact h14
theorem m_num (h : wLm M t A) {m : Nat} (hm : m ≤ 3) (hm1 : 1 ≤ m) {q x : Nat} (hq : q ≤ 1000) (hx : x < 96) (h14 : M 70 14 = nI q) : ∃ M', fX10_reads M (nI x) (nI m) = some ((sNm A t m (true, q)).2.1, M') ∧ M' 70 14 = nI (sNm A t m (true, q)).2.2 ∧ ((sNm A t m (true, q)).2.1 = true → M' 81 x = (sNm A t m (true, q)).1) ∧ ∀ b j, (b ≠ 70 ∨ j ≠ 14) → (b ≠ 81 ∨ j ≠ x) → M' b j = M b j := by
  rw [sNm_t]
  dsimp only
  unfold fX10_reads
  rw [m_let h (by omega) h14, Option.bind_some, m_dig, Option.bind_some]
  obtain ⟨m', hm'⟩ : ∃ m', m = m' + 1 := ⟨m - 1, by omega⟩
  by_cases z : sDg (sLet A t q) = true
  · have ge : q + 1 ≤ (sRd A t m q 0).2 := by
      rw [hm', sRd_s, if_pos z]
      exact (sRd_ge A t m' (q + 1) _).1
    rw [z, if_neg wb_tn, decide_eq_true (by omega)]
    unfold fX10_reads_21
    refine wloop_q (fun e s => ∃ k, k + e = m ∧ s.2.1 = nI k ∧ s.2.2 70 14 = nI (q + k) ∧ wO14 M s.2.2 ∧ sRd A t m q 0 = sRd A t e (q + k) s.1) (fun o => ∃ M' : wMem, o = some (true, M') ∧ M' 70 14 = nI (sRd A t m q 0).2 ∧ (true = true → M' 81 x = (sRd A t m q 0).1) ∧ ∀ b j, (b ≠ 70 ∨ j ≠ 14) → (b ≠ 81 ∨ j ≠ x) → M' b j = M b j) ?_ wfuel m (0, 0, M) ⟨0, by omega, rfl, h14, wO14.rf M, rfl⟩ (wfuel_lt (by omega))
    rintro rec e ⟨v, y, M2⟩ ⟨k, hk, rfl, h4, hO, hs⟩
    dsimp only at h4 hO hs ⊢
    have fin : ∀ v, fX10_reads_70 M2 (nI x) v = some (true, wup M2 81 x v) := fun v => by
      unfold fX10_reads_70
      rw [wgi_n hx (by decide), nI_clamp (by omega), wlet_eq]
    unfold fX10_reads_21_b
    cases e with
    | zero =>
      left
      have e1 : sRd A t m q 0 = (v, q + k) := hs
      rw [if_pos (nI_le (by omega) (by omega)), e1, fin]
      exact ⟨_, rfl, by rw [wup_cell (by decide)]; exact h4, fun _ => wup_same _ _ _ _, fun b j h1 h2 => by rw [wup_off h2]; exact hO b j h1⟩
    | succ e =>
      rw [sRd_s] at hs
      rw [if_neg (nI_ge (by omega) (by omega)), m_let (hO.lm h) (by omega) h4, Option.bind_some, m_dig, Option.bind_some]
      by_cases z : sDg (sLet A t (q + k)) = true
      · right
        rw [if_pos z] at hs
        obtain ⟨M3, hM3⟩ : ∃ M3, M3 = wup M2 70 14 (nI (q + (k + 1))) := ⟨_, rfl⟩
        have c1 : M3 70 14 = nI (q + (k + 1)) := by rw [hM3, wup_same]
        have c3 : wO14 M M3 := fun b j hj => by rw [hM3, wup_off (by omega)]; exact hO b j hj
        refine ⟨e, (10 * v + sLet A t (q + k) - 48, nI (k + 1), M3), by omega, ⟨k + 1, by omega, rfl, c1, c3, hs⟩, ?_⟩
        rw [z, if_neg wb_tn, Option.bind_some, hM3]
        simp only [wlet_eq, h4, nI_1, Nat.add_assoc]
      · left
        rw [if_neg z] at hs
        rw [show sDg (sLet A t (q + k)) = false by simpa using z, if_pos wb_fa, hs, fin]
        exact ⟨_, rfl, by rw [wup_cell (by decide)]; exact h4, fun _ => wup_same _ _ _ _, fun b j h1 h2 => by rw [wup_off h2]; exact hO b j h1⟩
  · have e1 : sRd A t m q 0 = (0, q) := by rw [hm', sRd_s, if_neg z]
    rw [show sDg (sLet A t q) = false by simpa using z, if_pos wb_fa, e1]
    refine ⟨M, ?_, h14, fun y => ?_, fun _ _ _ _ => rfl⟩
    · rw [decide_eq_false (by show ¬ q ≠ q; omega)]
    · rw [decide_eq_false (by show ¬ q ≠ q; omega)] at y
      cases y
end
