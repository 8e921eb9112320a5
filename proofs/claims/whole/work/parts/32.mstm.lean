/-! part 32: a statement, the model's way -/
/-- off the place of the next letter, and what a statement is kept in -/
def wOst (s : Nat) (M M' : wMem) : Prop := ∀ b j, (b ≠ 70 ∨ j ≠ 14) → (b ≠ 79 ∨ j ≠ s) → (b ≠ 80 ∨ j ≠ s) → (b ≠ 81 ∨ j < 3 * s ∨ 3 * s + 2 < j) → M' b j = M b j
def wRes (s : Nat) (k : Int32) (q : Nat) (v : Int32 × Int32 × Int32) (S : Bool × Nat) (M M' : wMem) : Prop := M' 70 14 = nI S.2 ∧ (S.1 = true → M' 79 s = k ∧ M' 80 s = nI q ∧ wVm M' s k v) ∧ wOst s M M'
def wO81 (x : Nat) (M M' : wMem) : Prop := ∀ b j, (b ≠ 70 ∨ j ≠ 14) → (b ≠ 81 ∨ j ≠ x) → M' b j = M b j
section
variable {M : wMem} {t : Nat} {A : Nat → Int32}
theorem wO81.lm {x : Nat} {M' : wMem} (e : wO81 x M M') (h : wLm M t A) : wLm M' t A := ⟨h.1, by rw [e 70 13 (by omega) (by omega)]; exact h.2.1, fun i hi => by rw [e 78 i (by omega) (by omega)]; exact h.2.2 i hi⟩
theorem m_stepN (K : wMem → Option (Bool × wMem)) (h : wLm M t A) {m : Nat} (hm : m ≤ 3) (hm1 : 1 ≤ m) {q x : Nat} (hq : q ≤ 1000) (hx : x < 96) (h14 : M 70 14 = nI q) : ∃ M', ((fX10_reads M (nI x) (nI m)).bind (wpr fun r M' => if wb r = 0 then some (false, M') else K M')) = (if (sNm A t m (true, q)).2.1 = true then K M' else some (false, M')) ∧ M' 70 14 = nI (sNm A t m (true, q)).2.2 ∧ ((sNm A t m (true, q)).2.1 = true → M' 81 x = (sNm A t m (true, q)).1) ∧ wO81 x M M' := by
  obtain ⟨M', u1, u2, u3, u4⟩ := m_num h hm hm1 hq hx h14
  refine ⟨M', ?_, u2, u3, u4⟩
  rw [u1, Option.bind_some, wpr_e]
  cases (sNm A t m (true, q)).2.1
  · rw [if_pos wb_fa, if_neg (by decide)]
  · rw [if_neg wb_tn, if_pos rfl]
theorem m_stepS (K : wMem → Option (Bool × wMem)) (h : wLm M t A) {q : Nat} (hq : q ≤ 1000) (h14 : M 70 14 = nI q) (ch : Int32) : ∃ M', ((fX10_isNext M ch).bind (wpr fun r M' => if wb r = 0 then some (false, M') else K M')) = (if (sSg A t ch (true, q)).1 = true then K M' else some (false, M')) ∧ M' 70 14 = nI (sSg A t ch (true, q)).2 ∧ wO14 M M' := by
  obtain ⟨M', u1, u2, u3⟩ := m_next1 h hq h14 ch
  refine ⟨M', ?_, u2, u3⟩
  rw [u1, Option.bind_some, wpr_e]
  cases (sSg A t ch (true, q)).1
  · rw [if_pos wb_fa, if_neg (by decide)]
  · rw [if_neg wb_tn, if_pos rfl]
theorem pr_f {b : Bool × Nat} (h : ¬ b.1 = true) : b = (false, b.2) := Prod.ext (by simpa using h) rfl
theorem pr_t {b : Bool × Nat} (h : b.1 = true) : b = (true, b.2) := Prod.ext h rfl
theorem m_st31 (h : wLm M t A) {q s : Nat} (hq : q ≤ 200) (hs : s < 32) (h14 : M 70 14 = nI q) (h15 : M 70 15 = nI s) (hk : sLet A t q = 100 ∨ sLet A t q = 103 ∨ sLet A t q = 112 ∨ sLet A t q = 117) : ∃ M', fX10_statement_31 M (sLet A t q) = some ((sStm A t q).1.1, M') ∧ wRes s (sLet A t q) q (sStm A t q).2 (sStm A t q).1 M M' := by
  obtain ⟨M5, hM5⟩ : ∃ M5, M5 = wup M 79 s (sLet A t q) := ⟨_, rfl⟩
  have a1 : M5 70 15 = nI s := by rw [hM5, wup_cell (by decide)]; exact h15
  have a2 : M5 70 14 = nI q := by rw [hM5, wup_cell (by decide)]; exact h14
  obtain ⟨M7, hM7⟩ : ∃ M7, M7 = wup M5 80 s (nI q) := ⟨_, rfl⟩
  have a3 : M7 70 15 = nI s := by rw [hM7, wup_cell (by decide)]; exact a1
  have a4 : M7 70 14 = nI q := by rw [hM7, wup_cell (by decide)]; exact a2
  obtain ⟨M8, hM8⟩ : ∃ M8, M8 = wup M7 70 14 (nI (q + 1)) := ⟨_, rfl⟩
  have a5 : M8 70 15 = nI s := by rw [hM8, wup_slot (by decide)]; exact a3
  have a6 : M8 70 14 = nI (q + 1) := by rw [hM8, wup_same]
  have a7 : M8 79 s = sLet A t q := by rw [hM8, wup_cell (by decide), hM7, wup_cell (by decide), hM5, wup_same]
  have a8 : M8 80 s = nI q := by rw [hM8, wup_cell (by decide), hM7, wup_same]
  have a9 : wOst s M M8 := fun b j h1 h2 h3 h4 => by rw [hM8, wup_off h1, hM7, wup_off h3, hM5, wup_off h2]
  have l8 : wLm M8 t A := ⟨h.1, by rw [a9 70 13 (by omega) (by omega) (by omega) (by omega)]; exact h.2.1, fun i hi => by rw [a9 78 i (by omega) (by omega) (by omega) (by omega)]; exact h.2.2 i hi⟩
  have e3 : 3 * nI s = nI (3 * s) := pk_mul 3 s
  have e31 : nI (3 * s) + 1 = nI (3 * s + 1) := nI_1 _
  have e32 : nI (3 * s) + 2 = nI (3 * s + 2) := nI_add _ 2
  have pq : (true, q + 1).2 = q + 1 := rfl
  unfold fX10_statement_31
  rw [h15, wgi_n hs (by decide), nI_clamp (by omega), wlet_eq, ← hM5, a1, wgi_n hs (by decide), nI_clamp (by omega), a2, wlet_eq, ← hM7, a4, nI_1, wlet_eq, ← hM8, a5, e3, wlet_eq, e31, e32]
  have fin : ∀ {M9 : wMem} {p : Nat}, wLm M9 t A → p ≤ 1000 → M9 70 14 = nI p → ∃ M', ((fX10_isNext M9 59).bind (wpr fun r M' => if wb r = 0 then some (false, M') else some (true, M'))) = some ((sSg A t 59 (true, p)).1, M') ∧ M' 70 14 = nI (sSg A t 59 (true, p)).2 ∧ wO14 M9 M' := by
    intro M9 p g1 g2 g3
    obtain ⟨M', u1, u2, u3⟩ := m_stepS (fun M' => some (true, M')) g1 g2 g3 59
    refine ⟨M', ?_, u2, u3⟩
    rw [u1]
    cases (sSg A t 59 (true, p)).1 <;> rfl
  have one : ∀ m, 1 ≤ m → m ≤ 3 → (sLet A t q = 103 ∨ sLet A t q = 117) → ∃ M', ((fX10_reads M8 (nI (3 * s)) (nI m)).bind (wpr fun r M' => if wb r = 0 then some (false, M') else (fX10_isNext M' 59).bind (wpr fun r M' => if wb r = 0 then some (false, M') else some (true, M')))) = some ((sSg A t 59 (sNm A t m (true, q + 1)).2).1, M') ∧ wRes s (sLet A t q) q ((sNm A t m (true, q + 1)).1, 0, 0) (sSg A t 59 (sNm A t m (true, q + 1)).2) M M' := by
    intro m hm1 hm kk
    obtain ⟨Ma, u1, u2, u3, u4⟩ := m_stepN (fun M' => (fX10_isNext M' 59).bind (wpr fun r M' => if wb r = 0 then some (false, M') else some (true, M'))) l8 hm hm1 (by omega) (show 3 * s < 96 by omega) a6
    have n1 := sNm_le A t m (true, q + 1)
    rw [u1]
    by_cases z : (sNm A t m (true, q + 1)).2.1 = true
    · obtain ⟨Mb, v1, v2, v3⟩ := fin (u4.lm l8) (show (sNm A t m (true, q + 1)).2.2 ≤ 1000 by omega) u2
      rw [← pr_t z] at v1 v2
      refine ⟨Mb, by rw [if_pos z, v1], v2, fun _ => ⟨?_, ?_, fun _ => ?_, fun y => ?_, fun y => ?_⟩, fun b j h1 h2 h3 h4 => ?_⟩
      · rw [v3 79 s (by omega), u4 79 s (by omega) (by omega), a7]
      · rw [v3 80 s (by omega), u4 80 s (by omega) (by omega), a8]
      · rw [v3 81 _ (by omega), u3 z]
      · rcases kk with kk | kk <;> · rw [kk] at y; exact absurd y (by decide)
      · rcases kk with kk | kk <;> · rw [kk] at y; exact absurd y (by decide)
      · rw [v3 b j h1, u4 b j h1 (by omega), a9 b j h1 h2 h3 h4]
    · rw [if_neg z, pr_f z, sSg_f]
      refine ⟨Ma, rfl, u2, fun y => (Bool.false_ne_true y).elim, fun b j h1 h2 h3 h4 => ?_⟩
      rw [u4 b j h1 (by omega), a9 b j h1 h2 h3 h4]
  unfold sStm
  by_cases k4 : sLet A t q = 117
  · rw [if_pos k4, if_neg (by rw [k4]; decide), if_neg (by rw [k4]; decide), if_neg (by rw [k4]; decide), if_pos k4]
    exact one 3 (by omega) (by omega) (Or.inr k4)
  rw [if_neg k4]
  by_cases k2 : sLet A t q = 103
  · rw [if_pos k2, if_neg (by rw [k2]; decide), if_pos k2]
    exact one 1 (by omega) (by omega) (Or.inl k2)
  rw [if_neg k2]
  by_cases k1 : sLet A t q = 100
  · rw [if_pos k1, if_pos k1]
    clear one
    obtain ⟨Ma, u1, u2, u3, u4⟩ := m_stepN (fun M39 => (fX10_isNext M39 44).bind (wpr fun r38 M39 => if wb r38 = 0 then some (false, M39) else (fX10_reads M39 (nI (3 * s + 1)) 1).bind (wpr fun r42 M43 => if wb r42 = 0 then some (false, M43) else (fX10_isNext M43 59).bind (wpr fun r46 M47 => if wb r46 = 0 then some (false, M47) else some (true, M47))))) l8 (m := 2) (by omega) (by omega) (by omega) (show 3 * s < 96 by omega) a6
    have n1 := sNm_le A t 2 (true, q + 1)
    rw [show ((fX10_reads M8 (nI (3 * s)) 2).bind _) = _ from u1]
    by_cases z1 : (sNm A t 2 (true, q + 1)).2.1 = true
    · rw [if_pos z1]
      obtain ⟨Mb, v1, v2, v3⟩ := m_stepS (fun M39 => (fX10_reads M39 (nI (3 * s + 1)) 1).bind (wpr fun r42 M43 => if wb r42 = 0 then some (false, M43) else (fX10_isNext M43 59).bind (wpr fun r46 M47 => if wb r46 = 0 then some (false, M47) else some (true, M47)))) (u4.lm l8) (show (sNm A t 2 (true, q + 1)).2.2 ≤ 1000 by omega) u2 44
      rw [← pr_t z1] at v1 v2
      have n2 := sSg_le A t 44 (sNm A t 2 (true, q + 1)).2
      rw [v1]
      by_cases z2 : (sSg A t 44 (sNm A t 2 (true, q + 1)).2).1 = true
      · rw [if_pos z2]
        obtain ⟨Mc, w1, w2, w3, w4⟩ := m_stepN (fun M43 => (fX10_isNext M43 59).bind (wpr fun r46 M47 => if wb r46 = 0 then some (false, M47) else some (true, M47))) (v3.lm (u4.lm l8)) (m := 1) (by omega) (by omega) (show (sSg A t 44 (sNm A t 2 (true, q + 1)).2).2 ≤ 1000 by omega) (show 3 * s + 1 < 96 by omega) v2
        rw [← pr_t z2] at w1 w2 w3
        have n3 := sNm_le A t 1 (sSg A t 44 (sNm A t 2 (true, q + 1)).2)
        rw [show ((fX10_reads Mb (nI (3 * s + 1)) 1).bind _) = _ from w1]
        by_cases z3 : (sNm A t 1 (sSg A t 44 (sNm A t 2 (true, q + 1)).2)).2.1 = true
        · obtain ⟨Md, x1, x2, x3⟩ := fin (w4.lm (v3.lm (u4.lm l8))) (show (sNm A t 1 (sSg A t 44 (sNm A t 2 (true, q + 1)).2)).2.2 ≤ 1000 by omega) w2
          rw [← pr_t z3] at x1 x2
          refine ⟨Md, by rw [if_pos z3, x1], x2, fun _ => ⟨?_, ?_, fun _ => ?_, fun _ => ?_, fun y => ?_⟩, fun b j h1 h2 h3 h4 => ?_⟩
          · rw [x3 79 s (by omega), w4 79 s (by omega) (by omega), v3 79 s (by omega), u4 79 s (by omega) (by omega), a7]
          · rw [x3 80 s (by omega), w4 80 s (by omega) (by omega), v3 80 s (by omega), u4 80 s (by omega) (by omega), a8]
          · rw [x3 81 _ (by omega), w4 81 _ (by omega) (by omega), v3 81 _ (by omega), u3 z1]
          · rw [x3 81 _ (by omega), w3 z3]
          · rw [k1] at y
            exact absurd y (by decide)
          · rw [x3 b j h1, w4 b j h1 (by omega), v3 b j h1, u4 b j h1 (by omega), a9 b j h1 h2 h3 h4]
        · rw [if_neg z3, pr_f z3, sSg_f]
          refine ⟨Mc, rfl, w2, fun y => (Bool.false_ne_true y).elim, fun b j h1 h2 h3 h4 => ?_⟩
          rw [w4 b j h1 (by omega), v3 b j h1, u4 b j h1 (by omega), a9 b j h1 h2 h3 h4]
      · rw [if_neg z2, pr_f z2, sNm_f, sSg_f]
        refine ⟨Mb, rfl, v2, fun y => (Bool.false_ne_true y).elim, fun b j h1 h2 h3 h4 => ?_⟩
        rw [v3 b j h1, u4 b j h1 (by omega), a9 b j h1 h2 h3 h4]
    · rw [if_neg z1, pr_f z1, sSg_f, sNm_f, sSg_f]
      refine ⟨Ma, rfl, u2, fun y => (Bool.false_ne_true y).elim, fun b j h1 h2 h3 h4 => ?_⟩
      rw [u4 b j h1 (by omega), a9 b j h1 h2 h3 h4]
  · have k3 : sLet A t q = 112 := by
      rcases hk with y | y | y | y
      · exact absurd y k1
      · exact absurd y k2
      · exact y
      · exact absurd y k4
    rw [if_neg k1, if_neg k1, if_neg k2, if_pos k3]
    clear one
    obtain ⟨Ma, u1, u2, u3, u4⟩ := m_stepN (fun M15 => (fX10_reads M15 (nI (3 * s + 1)) 2).bind (wpr fun r18 M19 => if wb r18 = 0 then some (false, M19) else (fX10_isNext M19 44).bind (wpr fun r22 M23 => if wb r22 = 0 then some (false, M23) else (fX10_reads M23 (nI (3 * s + 2)) 1).bind (wpr fun r26 M27 => if wb r26 = 0 then some (false, M27) else (fX10_isNext M27 59).bind (wpr fun r30 M31 => if wb r30 = 0 then some (false, M31) else some (true, M31)))))) l8 (m := 1) (by omega) (by omega) (by omega) (show 3 * s < 96 by omega) a6
    have n1 := sNm_le A t 1 (true, q + 1)
    rw [show ((fX10_reads M8 (nI (3 * s)) 1).bind _) = _ from u1]
    by_cases z1 : (sNm A t 1 (true, q + 1)).2.1 = true
    · rw [if_pos z1]
      obtain ⟨Me, y1, y2, y3, y4⟩ := m_stepN (fun M19 => (fX10_isNext M19 44).bind (wpr fun r22 M23 => if wb r22 = 0 then some (false, M23) else (fX10_reads M23 (nI (3 * s + 2)) 1).bind (wpr fun r26 M27 => if wb r26 = 0 then some (false, M27) else (fX10_isNext M27 59).bind (wpr fun r30 M31 => if wb r30 = 0 then some (false, M31) else some (true, M31))))) (u4.lm l8) (m := 2) (by omega) (by omega) (show (sNm A t 1 (true, q + 1)).2.2 ≤ 1000 by omega) (show 3 * s + 1 < 96 by omega) u2
      rw [← pr_t z1] at y1 y2 y3
      have n4 := sNm_le A t 2 (sNm A t 1 (true, q + 1)).2
      rw [show ((fX10_reads Ma (nI (3 * s + 1)) 2).bind _) = _ from y1]
      by_cases z4 : (sNm A t 2 (sNm A t 1 (true, q + 1)).2).2.1 = true
      · rw [if_pos z4]
        obtain ⟨Mb, v1, v2, v3⟩ := m_stepS (fun M39 => (fX10_reads M39 (nI (3 * s + 2)) 1).bind (wpr fun r42 M43 => if wb r42 = 0 then some (false, M43) else (fX10_isNext M43 59).bind (wpr fun r46 M47 => if wb r46 = 0 then some (false, M47) else some (true, M47)))) (y4.lm (u4.lm l8)) (show (sNm A t 2 (sNm A t 1 (true, q + 1)).2).2.2 ≤ 1000 by omega) y2 44
        rw [← pr_t z4] at v1 v2
        have n2 := sSg_le A t 44 (sNm A t 2 (sNm A t 1 (true, q + 1)).2).2
        rw [v1]
        by_cases z2 : (sSg A t 44 (sNm A t 2 (sNm A t 1 (true, q + 1)).2).2).1 = true
        · rw [if_pos z2]
          obtain ⟨Mc, w1, w2, w3, w4⟩ := m_stepN (fun M43 => (fX10_isNext M43 59).bind (wpr fun r46 M47 => if wb r46 = 0 then some (false, M47) else some (true, M47))) (v3.lm (y4.lm (u4.lm l8))) (m := 1) (by omega) (by omega) (show (sSg A t 44 (sNm A t 2 (sNm A t 1 (true, q + 1)).2).2).2 ≤ 1000 by omega) (show 3 * s + 2 < 96 by omega) v2
          rw [← pr_t z2] at w1 w2 w3
          have n3 := sNm_le A t 1 (sSg A t 44 (sNm A t 2 (sNm A t 1 (true, q + 1)).2).2)
          rw [show ((fX10_reads Mb (nI (3 * s + 2)) 1).bind _) = _ from w1]
          by_cases z3 : (sNm A t 1 (sSg A t 44 (sNm A t 2 (sNm A t 1 (true, q + 1)).2).2)).2.1 = true
          · obtain ⟨Md, x1, x2, x3⟩ := fin (w4.lm (v3.lm (y4.lm (u4.lm l8)))) (show (sNm A t 1 (sSg A t 44 (sNm A t 2 (sNm A t 1 (true, q + 1)).2).2)).2.2 ≤ 1000 by omega) w2
            rw [← pr_t z3] at x1 x2
            refine ⟨Md, by rw [if_pos z3, x1], x2, fun _ => ⟨?_, ?_, fun _ => ?_, fun _ => ?_, fun _ => ?_⟩, fun b j h1 h2 h3 h4 => ?_⟩
            · rw [x3 79 s (by omega), w4 79 s (by omega) (by omega), v3 79 s (by omega), y4 79 s (by omega) (by omega), u4 79 s (by omega) (by omega), a7]
            · rw [x3 80 s (by omega), w4 80 s (by omega) (by omega), v3 80 s (by omega), y4 80 s (by omega) (by omega), u4 80 s (by omega) (by omega), a8]
            · rw [x3 81 _ (by omega), w4 81 _ (by omega) (by omega), v3 81 _ (by omega), y4 81 _ (by omega) (by omega), u3 z1]
            · rw [x3 81 _ (by omega), w4 81 _ (by omega) (by omega), v3 81 _ (by omega), y3 z4]
            · rw [x3 81 _ (by omega), w3 z3]
            · rw [x3 b j h1, w4 b j h1 (by omega), v3 b j h1, y4 b j h1 (by omega), u4 b j h1 (by omega), a9 b j h1 h2 h3 h4]
          · rw [if_neg z3, pr_f z3, sSg_f]
            refine ⟨Mc, rfl, w2, fun y => (Bool.false_ne_true y).elim, fun b j h1 h2 h3 h4 => ?_⟩
            rw [w4 b j h1 (by omega), v3 b j h1, y4 b j h1 (by omega), u4 b j h1 (by omega), a9 b j h1 h2 h3 h4]
        · rw [if_neg z2, pr_f z2, sNm_f, sSg_f]
          refine ⟨Mb, rfl, v2, fun y => (Bool.false_ne_true y).elim, fun b j h1 h2 h3 h4 => ?_⟩
          rw [v3 b j h1, y4 b j h1 (by omega), u4 b j h1 (by omega), a9 b j h1 h2 h3 h4]
      · rw [if_neg z4, pr_f z4, sSg_f, sNm_f, sSg_f]
        refine ⟨Me, rfl, y2, fun y => (Bool.false_ne_true y).elim, fun b j h1 h2 h3 h4 => ?_⟩
        rw [y4 b j h1 (by omega), u4 b j h1 (by omega), a9 b j h1 h2 h3 h4]
    · rw [if_neg z1, pr_f z1, sNm_f, sSg_f, sNm_f, sSg_f]
      refine ⟨Ma, rfl, u2, fun y => (Bool.false_ne_true y).elim, fun b j h1 h2 h3 h4 => ?_⟩
      rw [u4 b j h1 (by omega), a9 b j h1 h2 h3 h4]
theorem m_stm (h : wLm M t A) {q s : Nat} (hq : q ≤ 200) (hs : s < 32) (h14 : M 70 14 = nI q) (h15 : M 70 15 = nI s) : ∃ M', fX10_statement M = some ((sStm A t q).1.1, M') ∧ wRes s (sLet A t q) q (sStm A t q).2 (sStm A t q).1 M M' := by
  unfold fX10_statement
  rw [m_let h (by omega) h14, Option.bind_some]
  by_cases k3 : sLet A t q = 112
  · rw [if_pos k3]
    exact m_st31 h hq hs h14 h15 (by simp [k3])
  rw [if_neg k3]
  by_cases k4 : sLet A t q = 117
  · rw [if_pos k4]
    exact m_st31 h hq hs h14 h15 (by simp [k4])
  rw [if_neg k4]
  by_cases k1 : sLet A t q = 100
  · rw [if_pos k1]
    exact m_st31 h hq hs h14 h15 (by simp [k1])
  rw [if_neg k1]
  by_cases k2 : sLet A t q = 103
  · rw [if_pos k2]
    exact m_st31 h hq hs h14 h15 (by simp [k2])
  rw [if_neg k2]
  unfold sStm
  rw [if_neg k1, if_neg k2, if_neg k3, if_neg k4]
  exact ⟨M, rfl, h14, fun y => (Bool.false_ne_true y).elim, fun _ _ _ _ _ _ => rfl⟩
end
