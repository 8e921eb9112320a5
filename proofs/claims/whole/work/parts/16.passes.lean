/-! part 16: the reference: all is put away, all is put back -/
section
variable {M : wMem}
theorem wrb_1 {β : Type} (f : Bool → Option β) : wrb 1 f = f true := by unfold wrb; rw [if_neg (by decide), if_pos rfl]
theorem wrb_0 {β : Type} (f : Bool → Option β) : wrb 0 f = f false := by unfold wrb; rw [if_pos rfl]
/-- a row of k is put away from place c on -/
def wSv (k c len : Nat) (M M' : wMem) : Prop := (∀ i, i < len → M' 82 (c + i) = M k i) ∧ (∀ j, (j < c ∨ c + len ≤ j) → M' 82 j = M 82 j) ∧ M' 70 19 = nI (c + len) ∧ (∀ j, j ≠ 19 → M' 70 j = M 70 j) ∧ ∀ b, b ≠ 70 → b ≠ 82 → M' b = M b
/-- a row is put back -/
def wRs (k c len : Nat) (M M' : wMem) : Prop := (∀ i, i < len → M' k i = M 82 (c + i)) ∧ M' 70 19 = nI (c + len) ∧ (∀ j, j ≠ 19 → M' 70 j = M 70 j) ∧ ∀ b, b ≠ 70 → b ≠ k → M' b = M b
theorem m_save {k c len : Nat} (hl : wln k = len) (hlen : len ≤ 12) (hc : c + len ≤ 160) (hk : k ≠ 70) (hk2 : k ≠ 82) (h18 : M 70 18 = 1) (h19 : M 70 19 = nI c) : ∃ M', fX10_passes M k = some M' ∧ wSv k c len M M' := by
  unfold fX10_passes fX10_passes_2
  refine wloop_q (fun d t => ∃ j, j + d = len ∧ t.1 = nI j ∧ (∀ i, i < j → t.2 82 (c + i) = M k i) ∧ (∀ i, (i < c ∨ c + j ≤ i) → t.2 82 i = M 82 i) ∧ t.2 70 19 = nI (c + j) ∧ (∀ i, i ≠ 19 → t.2 70 i = M 70 i) ∧ ∀ b, b ≠ 70 → b ≠ 82 → t.2 b = M b) (fun o => ∃ M', o = some M' ∧ wSv k c len M M') ?_ wfuel len (0, M) ⟨0, by omega, rfl, fun i hi => by omega, fun _ _ => rfl, h19, fun _ _ => rfl, fun _ _ _ => rfl⟩ (wfuel_lt (by omega))
  rintro rec d ⟨y, M1⟩ ⟨j, hj, rfl, a1, a2, a3, a4, a5⟩
  dsimp only at a1 a2 a3 a4 a5 ⊢
  unfold fX10_passes_2_b
  rw [hl]
  by_cases q : j < len
  · right
    have b18 : M1 70 18 = 1 := by rw [a4 18 (by decide)]; exact h18
    have ek : M1 k j = M k j := by rw [a5 k hk hk2]
    obtain ⟨M2, hM2⟩ : ∃ M2, M2 = wup (wup M1 82 (c + j) (M k j)) 70 19 (nI (c + (j + 1))) := ⟨_, rfl⟩
    have c1 : ∀ i, i < j + 1 → M2 82 (c + i) = M k i := by
      intro i hi
      rw [hM2, wup_cell (by decide)]
      by_cases z : i = j
      · subst z
        rw [wup_same]
      · rw [wup_slot (by omega)]
        exact a1 i (by omega)
    have c2 : ∀ i, (i < c ∨ c + (j + 1) ≤ i) → M2 82 i = M 82 i := by
      intro i hi
      rw [hM2, wup_cell (by decide), wup_slot (by omega)]
      exact a2 i (by omega)
    have c3 : M2 70 19 = nI (c + (j + 1)) := by rw [hM2, wup_same]
    have c4 : ∀ i, i ≠ 19 → M2 70 i = M 70 i := by
      intro i hi
      rw [hM2, wup_slot hi, wup_cell (by decide)]
      exact a4 i hi
    have c5 : ∀ b, b ≠ 70 → b ≠ 82 → M2 b = M b := by
      intro b b1 b2
      rw [hM2, wup_cell b1, wup_cell b2]
      exact a5 b b1 b2
    refine ⟨d - 1, (nI (j + 1), M2), by omega, ⟨j + 1, by omega, rfl, c1, c2, c3, c4, c5⟩, ?_⟩
    rw [if_neg (nI_ge q (by omega)), b18, if_neg (by decide), wgi_n q (by omega), a3, wgi_n (by omega) (by decide), nI_clamp (by omega), nI_clamp (by omega), ek]
    simp only [wlet_eq, fX10_passes_42, nI_1]
    have e : wup M1 82 (c + j) (M k j) 70 19 = nI (c + j) := by rw [wup_cell (by decide)]; exact a3
    rw [e, nI_1, hM2, Nat.add_assoc]
  · left
    have e : j = len := by omega
    subst e
    rw [if_pos (nI_le (Nat.le_refl _) (by omega))]
    exact ⟨M1, rfl, a1, a2, a3, a4, a5⟩
theorem m_rest {k c len : Nat} (hl : wln k = len) (hlen : len ≤ 12) (hc : c + len ≤ 160) (hk : k ≠ 70) (hk2 : k ≠ 82) (h18 : M 70 18 = 0) (h19 : M 70 19 = nI c) : ∃ M', fX10_passes M k = some M' ∧ wRs k c len M M' := by
  unfold fX10_passes fX10_passes_2
  refine wloop_q (fun d t => ∃ j, j + d = len ∧ t.1 = nI j ∧ (∀ i, i < j → t.2 k i = M 82 (c + i)) ∧ t.2 70 19 = nI (c + j) ∧ (∀ i, i ≠ 19 → t.2 70 i = M 70 i) ∧ ∀ b, b ≠ 70 → b ≠ k → t.2 b = M b) (fun o => ∃ M', o = some M' ∧ wRs k c len M M') ?_ wfuel len (0, M) ⟨0, by omega, rfl, fun i hi => by omega, h19, fun _ _ => rfl, fun _ _ _ => rfl⟩ (wfuel_lt (by omega))
  rintro rec d ⟨y, M1⟩ ⟨j, hj, rfl, a1, a3, a4, a5⟩
  dsimp only at a1 a3 a4 a5 ⊢
  unfold fX10_passes_2_b
  rw [hl]
  by_cases q : j < len
  · right
    have b18 : M1 70 18 = 0 := by rw [a4 18 (by decide)]; exact h18
    have ek : M1 82 (c + j) = M 82 (c + j) := by rw [a5 82 (by decide) (fun z => hk2 z.symm)]
    obtain ⟨M2, hM2⟩ : ∃ M2, M2 = wup (wup M1 k j (M 82 (c + j))) 70 19 (nI (c + (j + 1))) := ⟨_, rfl⟩
    have c1 : ∀ i, i < j + 1 → M2 k i = M 82 (c + i) := by
      intro i hi
      rw [hM2, wup_cell hk]
      by_cases z : i = j
      · subst z
        rw [wup_same]
      · rw [wup_slot (by omega)]
        exact a1 i (by omega)
    have c3 : M2 70 19 = nI (c + (j + 1)) := by rw [hM2, wup_same]
    have c4 : ∀ i, i ≠ 19 → M2 70 i = M 70 i := by
      intro i hi
      rw [hM2, wup_slot hi, wup_cell (fun z => hk z.symm)]
      exact a4 i hi
    have c5 : ∀ b, b ≠ 70 → b ≠ k → M2 b = M b := by
      intro b b1 b2
      rw [hM2, wup_cell b1, wup_cell b2]
      exact a5 b b1 b2
    refine ⟨d - 1, (nI (j + 1), M2), by omega, ⟨j + 1, by omega, rfl, c1, c3, c4, c5⟩, ?_⟩
    rw [if_neg (nI_ge q (by omega)), b18, if_pos rfl, a3, wgi_n (by omega) (by decide), wgi_n q (by omega), nI_clamp (by omega), nI_clamp (by omega), ek]
    simp only [wlet_eq, fX10_passes_42, nI_1]
    have e : wup M1 k j (M 82 (c + j)) 70 19 = nI (c + j) := by rw [wup_cell (fun z => hk z.symm)]; exact a3
    rw [e, nI_1, hM2, Nat.add_assoc]
  · left
    have e : j = len := by omega
    subst e
    rw [if_pos (nI_le (Nat.le_refl _) (by omega))]
    exact ⟨M1, rfl, a1, a3, a4, a5⟩
/-- all is put away from place c on -/
def wSvA (c : Nat) (M M' : wMem) : Prop := (∀ f, f < 5 → ∀ i, i < 12 → M' 82 (c + 12 * f + i) = M (72 + f) i) ∧ (∀ j, j < 4 → M' 82 (c + 60 + j) = M 77 j) ∧ M' 82 (c + 64) = M 70 7 ∧ M' 82 (c + 65) = M 70 8 ∧ (∀ j, (j < c ∨ c + 66 ≤ j) → M' 82 j = M 82 j) ∧ (∀ j, j ≠ 18 → j ≠ 19 → M' 70 j = M 70 j) ∧ ∀ b, b ≠ 70 → b ≠ 82 → M' b = M b
def wRsA (c : Nat) (M M' : wMem) : Prop := (∀ f, f < 5 → ∀ i, i < 12 → M' (72 + f) i = M 82 (c + 12 * f + i)) ∧ (∀ j, j < 4 → M' 77 j = M 82 (c + 60 + j)) ∧ M' 70 7 = M 82 (c + 64) ∧ M' 70 8 = M 82 (c + 65) ∧ (∀ j, j ≠ 7 → j ≠ 8 → j ≠ 18 → j ≠ 19 → M' 70 j = M 70 j) ∧ ∀ b, b ≠ 70 → (b < 72 ∨ 77 < b) → M' b = M b
theorem m_saveOne {c : Nat} (x : Int32) (hc : c < 160) (h18 : M 70 18 = 1) (h19 : M 70 19 = nI c) : fX10_passOne M x = some (x, wup (wup M 82 c x) 70 19 (nI (c + 1))) := by
  have e : wup M 82 c x 70 19 = nI c := by rw [wup_cell (by decide)]; exact h19
  simp only [fX10_passOne, fX10_passOne_20, fX10_passOne_38, wlet_eq, h18, h19, wgi_n hc (show 160 < 2 ^ 31 by decide), nI_clamp (show c < 2 ^ 31 by omega), e, nI_1]
  rw [if_neg (by decide), if_neg (by decide)]
theorem m_restOne {c : Nat} (x : Int32) (hc : c < 160) (h18 : M 70 18 = 0) (h19 : M 70 19 = nI c) : fX10_passOne M x = some (M 82 c, wup M 70 19 (nI (c + 1))) := by
  simp only [fX10_passOne, fX10_passOne_20, fX10_passOne_38, wlet_eq, h18, h19, wgi_n hc (show 160 < 2 ^ 31 by decide), nI_clamp (show c < 2 ^ 31 by omega), nI_1, if_true]
theorem m_saveAll {c : Nat} (a : Int32) (hc : 80 * a = nI c) (hc2 : c ≤ 80) : ∃ M', fX10_passesAll M a 1 = some M' ∧ wSvA c M M' := by
  simp only [fX10_passesAll, wlet_eq, wrb_1, hc]
  obtain ⟨M0, hM0⟩ : ∃ M0, M0 = wup (wup M 70 19 (nI c)) 70 18 (wb true) := ⟨_, rfl⟩
  rw [← hM0]
  have z18 : M0 70 18 = 1 := by rw [hM0, wup_same]; rfl
  have z19 : M0 70 19 = nI c := by rw [hM0, wup_slot (by decide), wup_same]
  have zN : ∀ b, b ≠ 70 → M0 b = M b := fun b hb => by rw [hM0, wup_cell hb, wup_cell hb]
  have zJ : ∀ j, j ≠ 18 → j ≠ 19 → M0 70 j = M 70 j := fun j h1 h2 => by rw [hM0, wup_slot h1, wup_slot h2]
  clear hM0
  obtain ⟨M1, f1, a1, b1, c1, d1, e1⟩ := m_save (M := M0) (k := 72) (c := c) (len := 12) rfl (by omega) (by omega) (by decide) (by decide) z18 z19
  have y1 : M1 70 18 = 1 := by rw [d1 18 (by decide)]; exact z18
  obtain ⟨M2, f2, a2, b2, c2, d2, e2⟩ := m_save (M := M1) (k := 73) (c := c + 12) (len := 12) rfl (by omega) (by omega) (by decide) (by decide) y1 c1
  have y2 : M2 70 18 = 1 := by rw [d2 18 (by decide)]; exact y1
  obtain ⟨M3, f3, a3, b3, c3, d3, e3⟩ := m_save (M := M2) (k := 74) (c := c + 12 + 12) (len := 12) rfl (by omega) (by omega) (by decide) (by decide) y2 c2
  have y3 : M3 70 18 = 1 := by rw [d3 18 (by decide)]; exact y2
  obtain ⟨M4, f4, a4, b4, c4, d4, e4⟩ := m_save (M := M3) (k := 75) (c := c + 12 + 12 + 12) (len := 12) rfl (by omega) (by omega) (by decide) (by decide) y3 c3
  have y4 : M4 70 18 = 1 := by rw [d4 18 (by decide)]; exact y3
  obtain ⟨M5, f5, a5, b5, c5, d5, e5⟩ := m_save (M := M4) (k := 76) (c := c + 12 + 12 + 12 + 12) (len := 12) rfl (by omega) (by omega) (by decide) (by decide) y4 c4
  have y5 : M5 70 18 = 1 := by rw [d5 18 (by decide)]; exact y4
  obtain ⟨M6, f6, a6, b6, c6, d6, e6⟩ := m_save (M := M5) (k := 77) (c := c + 12 + 12 + 12 + 12 + 12) (len := 4) rfl (by omega) (by omega) (by decide) (by decide) y5 c5
  have y6 : M6 70 18 = 1 := by rw [d6 18 (by decide)]; exact y5
  have x7 : M6 70 7 = M 70 7 := by rw [d6 7 (by decide), d5 7 (by decide), d4 7 (by decide), d3 7 (by decide), d2 7 (by decide), d1 7 (by decide), zJ 7 (by decide) (by decide)]
  have x8 : M6 70 8 = M 70 8 := by rw [d6 8 (by decide), d5 8 (by decide), d4 8 (by decide), d3 8 (by decide), d2 8 (by decide), d1 8 (by decide), zJ 8 (by decide) (by decide)]
  rw [f1, Option.bind_some, f2, Option.bind_some, f3, Option.bind_some, f4, Option.bind_some, f5, Option.bind_some, f6, Option.bind_some, m_saveOne _ (show c + 12 + 12 + 12 + 12 + 12 + 4 < 160 by omega) y6 c6]
  simp only [Option.bind_some, wpr]
  obtain ⟨M7, hM7⟩ : ∃ M7, M7 = wup (wup (wup M6 82 (c + 12 + 12 + 12 + 12 + 12 + 4) (M6 70 7)) 70 19 (nI (c + 12 + 12 + 12 + 12 + 12 + 4 + 1))) 70 7 (M6 70 7) := ⟨_, rfl⟩
  rw [← hM7]
  have w18 : M7 70 18 = 1 := by rw [hM7, wup_slot (by decide), wup_slot (by decide), wup_cell (by decide)]; exact y6
  have w19 : M7 70 19 = nI (c + 12 + 12 + 12 + 12 + 12 + 4 + 1) := by rw [hM7, wup_slot (by decide), wup_same]
  have w8 : M7 70 8 = M 70 8 := by rw [hM7, wup_slot (by decide), wup_slot (by decide), wup_cell (by decide)]; exact x8
  have w82 : ∀ j, j ≠ c + 64 → M7 82 j = M6 82 j := fun j hj => by rw [hM7, wup_cell (by decide), wup_cell (by decide), wup_slot (by omega)]
  have w64 : M7 82 (c + 64) = M 70 7 := by
    rw [hM7, wup_cell (by decide), wup_cell (by decide), show c + 64 = c + 12 + 12 + 12 + 12 + 12 + 4 by omega, wup_same]
    exact x7
  have wJ : ∀ j, j ≠ 18 → j ≠ 19 → M7 70 j = M6 70 j := fun j h1 h2 => by
    rw [hM7]
    by_cases z : j = 7
    · subst z
      rw [wup_same]
    · rw [wup_slot z, wup_slot h2, wup_cell (by decide)]
  have wN : ∀ b, b ≠ 70 → b ≠ 82 → M7 b = M6 b := fun b h1 h2 => by rw [hM7, wup_cell h1, wup_cell h1, wup_cell h2]
  clear hM7
  rw [m_saveOne _ (show c + 12 + 12 + 12 + 12 + 12 + 4 + 1 < 160 by omega) w18 w19]
  simp only [Option.bind_some, wpr]
  refine ⟨_, rfl, ?_, ?_, ?_, ?_, ?_, ?_, ?_⟩
  · intro f hf i hi
    rw [wup_cell (by decide), wup_cell (by decide), wup_slot (by omega), w82 _ (by omega)]
    have hf5 : f = 0 ∨ f = 1 ∨ f = 2 ∨ f = 3 ∨ f = 4 := by omega
    rcases hf5 with rfl | rfl | rfl | rfl | rfl
    · rw [b6 _ (by omega), b5 _ (by omega), b4 _ (by omega), b3 _ (by omega), b2 _ (by omega), show c + 12 * 0 + i = c + i by omega, a1 i hi, zN 72 (by decide)]
    · rw [b6 _ (by omega), b5 _ (by omega), b4 _ (by omega), b3 _ (by omega), show c + 12 * 1 + i = c + 12 + i by omega, a2 i hi, e1 73 (by decide) (by decide), zN 73 (by decide)]
    · rw [b6 _ (by omega), b5 _ (by omega), b4 _ (by omega), show c + 12 * 2 + i = c + 12 + 12 + i by omega, a3 i hi, e2 74 (by decide) (by decide), e1 74 (by decide) (by decide), zN 74 (by decide)]
    · rw [b6 _ (by omega), b5 _ (by omega), show c + 12 * 3 + i = c + 12 + 12 + 12 + i by omega, a4 i hi, e3 75 (by decide) (by decide), e2 75 (by decide) (by decide), e1 75 (by decide) (by decide), zN 75 (by decide)]
    · rw [b6 _ (by omega), show c + 12 * 4 + i = c + 12 + 12 + 12 + 12 + i by omega, a5 i hi, e4 76 (by decide) (by decide), e3 76 (by decide) (by decide), e2 76 (by decide) (by decide), e1 76 (by decide) (by decide), zN 76 (by decide)]
  · intro j hj
    rw [wup_cell (by decide), wup_cell (by decide), wup_slot (by omega), w82 _ (by omega), show c + 60 + j = c + 12 + 12 + 12 + 12 + 12 + j by omega, a6 j hj, e5 77 (by decide) (by decide), e4 77 (by decide) (by decide), e3 77 (by decide) (by decide), e2 77 (by decide) (by decide), e1 77 (by decide) (by decide), zN 77 (by decide)]
  · rw [wup_cell (by decide), wup_cell (by decide), wup_slot (by omega)]
    exact w64
  · rw [wup_cell (by decide), wup_cell (by decide), show c + 65 = c + 12 + 12 + 12 + 12 + 12 + 4 + 1 by omega, wup_same]
    exact w8
  · intro j hj
    rw [wup_cell (by decide), wup_cell (by decide), wup_slot (by omega), w82 _ (by omega), b6 _ (by omega), b5 _ (by omega), b4 _ (by omega), b3 _ (by omega), b2 _ (by omega), b1 _ (by omega), zN 82 (by decide)]
  · intro j h1 h2
    by_cases z : j = 8
    · subst z
      rw [wup_same]
      exact w8
    · rw [wup_slot z, wup_slot h2, wup_cell (by decide), wJ j h1 h2, d6 j h2, d5 j h2, d4 j h2, d3 j h2, d2 j h2, d1 j h2, zJ j h1 h2]
  · intro b h1 h2
    rw [wup_cell h1, wup_cell h1, wup_cell h2, wN b h1 h2, e6 b h1 h2, e5 b h1 h2, e4 b h1 h2, e3 b h1 h2, e2 b h1 h2, e1 b h1 h2, zN b h1]
theorem m_restAll {c : Nat} (a : Int32) (hc : 80 * a = nI c) (hc2 : c ≤ 80) : ∃ M', fX10_passesAll M a 0 = some M' ∧ wRsA c M M' := by
  simp only [fX10_passesAll, wlet_eq, wrb_0, hc]
  obtain ⟨M0, hM0⟩ : ∃ M0, M0 = wup (wup M 70 19 (nI c)) 70 18 (wb false) := ⟨_, rfl⟩
  rw [← hM0]
  have z18 : M0 70 18 = 0 := by rw [hM0, wup_same]; rfl
  have z19 : M0 70 19 = nI c := by rw [hM0, wup_slot (by decide), wup_same]
  have zN : ∀ b, b ≠ 70 → M0 b = M b := fun b hb => by rw [hM0, wup_cell hb, wup_cell hb]
  have zJ : ∀ j, j ≠ 18 → j ≠ 19 → M0 70 j = M 70 j := fun j h1 h2 => by rw [hM0, wup_slot h1, wup_slot h2]
  clear hM0
  obtain ⟨M1, f1, a1, c1, d1, e1⟩ := m_rest (M := M0) (k := 72) (c := c) (len := 12) rfl (by omega) (by omega) (by decide) (by decide) z18 z19
  have y1 : M1 70 18 = 0 := by rw [d1 18 (by decide)]; exact z18
  obtain ⟨M2, f2, a2, c2, d2, e2⟩ := m_rest (M := M1) (k := 73) (c := c + 12) (len := 12) rfl (by omega) (by omega) (by decide) (by decide) y1 c1
  have y2 : M2 70 18 = 0 := by rw [d2 18 (by decide)]; exact y1
  obtain ⟨M3, f3, a3, c3, d3, e3⟩ := m_rest (M := M2) (k := 74) (c := c + 12 + 12) (len := 12) rfl (by omega) (by omega) (by decide) (by decide) y2 c2
  have y3 : M3 70 18 = 0 := by rw [d3 18 (by decide)]; exact y2
  obtain ⟨M4, f4, a4, c4, d4, e4⟩ := m_rest (M := M3) (k := 75) (c := c + 12 + 12 + 12) (len := 12) rfl (by omega) (by omega) (by decide) (by decide) y3 c3
  have y4 : M4 70 18 = 0 := by rw [d4 18 (by decide)]; exact y3
  obtain ⟨M5, f5, a5, c5, d5, e5⟩ := m_rest (M := M4) (k := 76) (c := c + 12 + 12 + 12 + 12) (len := 12) rfl (by omega) (by omega) (by decide) (by decide) y4 c4
  have y5 : M5 70 18 = 0 := by rw [d5 18 (by decide)]; exact y4
  obtain ⟨M6, f6, a6, c6, d6, e6⟩ := m_rest (M := M5) (k := 77) (c := c + 12 + 12 + 12 + 12 + 12) (len := 4) rfl (by omega) (by omega) (by decide) (by decide) y5 c5
  have y6 : M6 70 18 = 0 := by rw [d6 18 (by decide)]; exact y5
  have k1 : M1 82 = M 82 := by rw [e1 82 (by decide) (by decide), zN 82 (by decide)]
  have k2 : M2 82 = M 82 := by rw [e2 82 (by decide) (by decide), k1]
  have k3 : M3 82 = M 82 := by rw [e3 82 (by decide) (by decide), k2]
  have k4 : M4 82 = M 82 := by rw [e4 82 (by decide) (by decide), k3]
  have k5 : M5 82 = M 82 := by rw [e5 82 (by decide) (by decide), k4]
  have k6 : M6 82 = M 82 := by rw [e6 82 (by decide) (by decide), k5]
  rw [f1, Option.bind_some, f2, Option.bind_some, f3, Option.bind_some, f4, Option.bind_some, f5, Option.bind_some, f6, Option.bind_some, m_restOne _ (show c + 12 + 12 + 12 + 12 + 12 + 4 < 160 by omega) y6 c6]
  simp only [Option.bind_some, wpr]
  rw [k6]
  obtain ⟨M7, hM7⟩ : ∃ M7, M7 = wup (wup M6 70 19 (nI (c + 12 + 12 + 12 + 12 + 12 + 4 + 1))) 70 7 (M 82 (c + 12 + 12 + 12 + 12 + 12 + 4)) := ⟨_, rfl⟩
  rw [← hM7]
  have w18 : M7 70 18 = 0 := by rw [hM7, wup_slot (by decide), wup_slot (by decide)]; exact y6
  have w19 : M7 70 19 = nI (c + 12 + 12 + 12 + 12 + 12 + 4 + 1) := by rw [hM7, wup_slot (by decide), wup_same]
  have w7 : M7 70 7 = M 82 (c + 64) := by rw [hM7, wup_same, show c + 64 = c + 12 + 12 + 12 + 12 + 12 + 4 by omega]
  have w82 : M7 82 = M 82 := by rw [hM7, wup_cell (by decide), wup_cell (by decide), k6]
  have wJ : ∀ j, j ≠ 7 → j ≠ 19 → M7 70 j = M6 70 j := fun j h1 h2 => by rw [hM7, wup_slot h1, wup_slot h2]
  have wN : ∀ b, b ≠ 70 → M7 b = M6 b := fun b h1 => by rw [hM7, wup_cell h1, wup_cell h1]
  clear hM7
  rw [m_restOne _ (show c + 12 + 12 + 12 + 12 + 12 + 4 + 1 < 160 by omega) w18 w19]
  simp only [Option.bind_some, wpr]
  rw [w82]
  refine ⟨_, rfl, ?_, ?_, ?_, ?_, ?_, ?_⟩
  · intro f hf i hi
    rw [wup_cell (by omega), wup_cell (by omega), wN _ (by omega)]
    have hf5 : f = 0 ∨ f = 1 ∨ f = 2 ∨ f = 3 ∨ f = 4 := by omega
    rcases hf5 with rfl | rfl | rfl | rfl | rfl
    · rw [e6 _ (by decide) (by decide), e5 _ (by decide) (by decide), e4 _ (by decide) (by decide), e3 _ (by decide) (by decide), e2 _ (by decide) (by decide), show c + 12 * 0 + i = c + i by omega, a1 i hi, zN 82 (by decide)]
    · rw [e6 _ (by decide) (by decide), e5 _ (by decide) (by decide), e4 _ (by decide) (by decide), e3 _ (by decide) (by decide), show c + 12 * 1 + i = c + 12 + i by omega, a2 i hi, k1]
    · rw [e6 _ (by decide) (by decide), e5 _ (by decide) (by decide), e4 _ (by decide) (by decide), show c + 12 * 2 + i = c + 12 + 12 + i by omega, a3 i hi, k2]
    · rw [e6 _ (by decide) (by decide), e5 _ (by decide) (by decide), show c + 12 * 3 + i = c + 12 + 12 + 12 + i by omega, a4 i hi, k3]
    · rw [e6 _ (by decide) (by decide), show c + 12 * 4 + i = c + 12 + 12 + 12 + 12 + i by omega, a5 i hi, k4]
  · intro j hj
    rw [wup_cell (by decide), wup_cell (by decide), wN _ (by decide), show c + 60 + j = c + 12 + 12 + 12 + 12 + 12 + j by omega, a6 j hj, k5]
  · rw [wup_slot (by decide), wup_slot (by decide)]
    exact w7
  · rw [wup_same, show c + 65 = c + 12 + 12 + 12 + 12 + 12 + 4 + 1 by omega]
  · intro j h7 h8 h1 h2
    rw [wup_slot h8, wup_slot h2, wJ j h7 h2, d6 j h2, d5 j h2, d4 j h2, d3 j h2, d2 j h2, d1 j h2, zJ j h1 h2]
  · intro b h1 h2
    rw [wup_cell h1, wup_cell h1, wN b h1, e6 b h1 (by omega), e5 b h1 (by omega), e4 b h1 (by omega), e3 b h1 (by omega), e2 b h1 (by omega), e1 b h1 (by omega), zN b h1]
end
