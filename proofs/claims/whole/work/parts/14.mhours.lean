/-! part 14: the reference: an hour, what is put away and back -/
section
variable {M : wMem} {n : Nat} {L : Nat → Nat → Int32} {st : Nat → Int32} {hr : Int32}
theorem i_add0 (x : Int32) : x + 0 = x := by simp
theorem m_tail {M1 : wMem} {w : Nat → Int32} {i : Nat} {hr gr : Int32} (hi : i < 12) (h0 : M1 72 i = w 0) (h4 : M1 76 i = w 4) (h8 : M1 70 8 = hr) (h3 : M1 77 3 = gr) (rec : Int32 × Int32 × wMem → Option (Int32 × wMem)) (y1 y2 y3 : Int32) :
    ∃ M', fX10_goesHour_158 M1 rec y1 y2 y3 (nI i) = rec (y3 + (if ¬ sLoosen w hr gr 4 = 0 then 1 else 0), nI (i + 1), M') ∧ M' 76 i = sLoosen w hr gr 4 ∧ (∀ b, b ≠ 76 → M' b = M1 b) ∧ ∀ j, j ≠ i → M' 76 j = M1 76 j := by
  simp only [fX10_goesHour_158, fX10_goesHour_185, fX10_goesHour_201, fX10_goesHour_203, wlet_eq, wgi_n hi (show 12 < 2 ^ 31 by decide), nI_clamp (show i < 2 ^ 31 by omega), h4, m_hang h0 h8 h3 hi, Option.bind_some, wb_0, nI_1]
  unfold sLoosen
  by_cases q : w 4 = 0
  · cases hs : sHang w hr gr
    · refine ⟨M1, ?_, by simp [q, h4], fun _ _ => rfl, fun _ _ => rfl⟩
      simp [q]
    · refine ⟨wup M1 76 i 3, ?_, ?_, fun b hb => wup_cell hb, fun j hj => wup_slot hj⟩
      · simp [q, wup_same, sSet]
      · simp [q, wup_same, sSet]
  · refine ⟨M1, ?_, by simp [q, h4], fun _ _ => rfl, fun _ _ => rfl⟩
    simp [q]
theorem sSet_same (v : Nat → Int32) (j : Nat) (x : Int32) : sSet v j x j = x := by simp [sSet]
theorem sSet_ne {v : Nat → Int32} {j f : Nat} {x : Int32} (h : f ≠ j) : sSet v j x f = v f := by simp [sSet, h]
theorem sLoosen_ne {v : Nat → Int32} {hr gr : Int32} {f : Nat} (h : f ≠ 4) : sLoosen v hr gr f = v f := by
  unfold sLoosen
  split
  · exact sSet_ne h
  · rfl
theorem sBurn_ne {v : Nat → Int32} {fl : Int32} {f : Nat} (h : f ≠ 4) : sBurn v fl f = sBurn1 v fl f := by
  unfold sBurn
  split
  · exact sSet_ne h
  · rfl
theorem m_hourL {M1 : wMem} {v : Nat → Int32} {i : Nat} {hr gr fl : Int32} {live : Bool} (hi : i < 12) (h0 : M1 72 i = v 0) (h1 : M1 73 i = v 1) (h3 : M1 75 i = v 3) (h4 : M1 76 i = v 4) (h8 : M1 70 8 = hr) (hg : M1 77 3 = gr) (hgn : M1 83 i = if live = true then sBright v fl / 10 else 0) (hm : (v 3).toInt ≤ 9999) (rec : Int32 × Int32 × wMem → Option (Int32 × wMem)) (y3 : Int32) (hlamps : ¬ M1 70 7 ≤ nI i) :
    ∃ M', fX10_goesHour_58_b M1 rec fl (wb live) y3 (nI i) = rec (y3 + (if v 4 = 0 ∧ ¬ sHourL v live fl hr gr 4 = 0 then 1 else 0), nI (i + 1), M') ∧ M' 75 i = sHourL v live fl hr gr 3 ∧ M' 76 i = sHourL v live fl hr gr 4 ∧ (∀ b, b ≠ 75 → b ≠ 76 → M' b = M1 b) ∧ ∀ j, j ≠ i → M' 75 j = M1 75 j ∧ M' 76 j = M1 76 j := by
  unfold fX10_goesHour_58_b
  rw [if_neg hlamps]
  simp only [wlet_eq, wgi_n hi (show 12 < 2 ^ 31 by decide), nI_clamp (show i < 2 ^ 31 by omega), h4, h3, hgn, m_min, Option.bind_some, wb_0]
  by_cases q : v 4 = 0
  · rw [if_pos q]
    have hx : sMin (v 3 + if live = true then sBright v fl / 10 else 0) = (if live = true then sBurn1 v fl 3 else v 3) := by
      cases live
      · simp only [Bool.false_eq_true, if_false, i_add0]
        unfold sMin
        by_cases z : v 3 < 9999
        · rw [if_pos z]
        · rw [if_neg z, i_eq]
          rw [i_lt] at z
          have : (9999 : Int32).toInt = 9999 := by decide
          omega
      · simp [sBurn1, sSet]
    rw [hx]
    obtain ⟨M2, hM2⟩ : ∃ M2, M2 = wup M1 75 i (if live = true then sBurn1 v fl 3 else v 3) := ⟨_, rfl⟩
    rw [← hM2]
    have a0 : M2 72 i = v 0 := by rw [hM2, wup_cell (by decide)]; exact h0
    have a1 : M2 73 i = v 1 := by rw [hM2, wup_cell (by decide)]; exact h1
    have a3 : M2 75 i = (if live = true then sBurn1 v fl 3 else v 3) := by rw [hM2, wup_same]
    have a4 : M2 76 i = v 4 := by rw [hM2, wup_cell (by decide)]; exact h4
    have a8 : M2 70 8 = hr := by rw [hM2, wup_cell (by decide)]; exact h8
    have ag : M2 77 3 = gr := by rw [hM2, wup_cell (by decide)]; exact hg
    have aN : ∀ b, b ≠ 75 → M2 b = M1 b := fun b hb => by rw [hM2, wup_cell hb]
    have aJ : ∀ j, j ≠ i → M2 75 j = M1 75 j := fun j hj => by rw [hM2, wup_slot hj]
    clear hM2 hx
    -- behind the burning
    have fin : ∀ (M3 : wMem) (w : Nat → Int32), M3 72 i = w 0 → M3 76 i = w 4 → M3 75 i = w 3 → (∀ b, b ≠ 75 → b ≠ 76 → M3 b = M1 b) → (∀ j, j ≠ i → M3 75 j = M1 75 j ∧ M3 76 j = M1 76 j) → sHourL v live fl hr gr = sLoosen w hr gr → ∃ M', fX10_goesHour_158 M3 rec fl (wb live) y3 (nI i) = rec (y3 + (if v 4 = 0 ∧ ¬ sHourL v live fl hr gr 4 = 0 then 1 else 0), nI (i + 1), M') ∧ M' 75 i = sHourL v live fl hr gr 3 ∧ M' 76 i = sHourL v live fl hr gr 4 ∧ (∀ b, b ≠ 75 → b ≠ 76 → M' b = M1 b) ∧ ∀ j, j ≠ i → M' 75 j = M1 75 j ∧ M' 76 j = M1 76 j := by
      intro M3 w b0 b4 b3 bN bJ hw
      obtain ⟨M', t1, t2, t3, t4⟩ := m_tail (hr := hr) (gr := gr) hi b0 b4 (by rw [bN 70 (by decide) (by decide)]; exact h8) (by rw [bN 77 (by decide) (by decide)]; exact hg) rec fl (wb live) y3
      refine ⟨M', ?_, ?_, ?_, ?_, ?_⟩
      · rw [t1, hw]
        simp [q]
      · rw [hw, t3 75 (by decide), sLoosen_ne (by decide)]
        exact b3
      · rw [hw]
        exact t2
      · intro b c1 c2
        rw [t3 b c2]
        exact bN b c1 c2
      · intro j hj
        refine ⟨?_, ?_⟩
        · rw [t3 75 (by decide)]
          exact (bJ j hj).1
        · rw [t4 j hj]
          exact (bJ j hj).2
    cases live
    · rw [if_pos rfl]
      refine fin M2 v a0 a4 (by simpa using a3) (fun b c1 _ => aN b c1) (fun j hj => ⟨aJ j hj, by rw [aN 76 (by decide)]⟩) (by simp [sHourL, q])
    · rw [if_neg (by decide)]
      have e0 : sBurn1 v fl 0 = v 0 := sSet_ne (by decide)
      have e1 : sBurn1 v fl 1 = v 1 := sSet_ne (by decide)
      have e4 : sBurn1 v fl 4 = v 4 := sSet_ne (by decide)
      have a3' : M2 75 i = sBurn1 v fl 3 := by simpa using a3
      rw [m_die (v := sBurn1 v fl) (by rw [e0]; exact a0) (by rw [e1]; exact a1) a3' hi, Option.bind_some, m_brg2 (v := v) a0 hi, Option.bind_some]
      simp only [fX10_goesHour_157, wlet_eq, wgi_n hi (show 12 < 2 ^ 31 by decide), nI_clamp (show i < 2 ^ 31 by omega), a0, wb_0]
      have hb : sHourL v true fl hr gr = sLoosen (sBurn v fl) hr gr := by simp [sHourL, q]
      cases hd : sDie (sBurn1 v fl) fl
      · rw [if_pos rfl]
        have hB : sBurn v fl = sBurn1 v fl := by simp [sBurn, hd]
        exact fin M2 (sBurn v fl) (by rw [hB, e0]; exact a0) (by rw [hB, e4]; exact a4) (by rw [hB]; exact a3') (fun b c1 _ => aN b c1) (fun j hj => ⟨aJ j hj, by rw [aN 76 (by decide)]⟩) hb
      · rw [if_neg (by decide)]
        have hB : sBurn v fl = sSet (sBurn1 v fl) 4 (sDead v) := by simp [sBurn, hd]
        have go : ∃ M', fX10_goesHour_158 (wup M2 76 i (sDead v)) rec fl (wb true) y3 (nI i) = rec (y3 + (if v 4 = 0 ∧ ¬ sHourL v true fl hr gr 4 = 0 then 1 else 0), nI (i + 1), M') ∧ M' 75 i = sHourL v true fl hr gr 3 ∧ M' 76 i = sHourL v true fl hr gr 4 ∧ (∀ b, b ≠ 75 → b ≠ 76 → M' b = M1 b) ∧ ∀ j, j ≠ i → M' 75 j = M1 75 j ∧ M' 76 j = M1 76 j := by
          refine fin (wup M2 76 i (sDead v)) (sBurn v fl) ?_ ?_ ?_ ?_ ?_ hb
          · rw [wup_cell (by decide), hB, sSet_ne (by decide), e0]
            exact a0
          · rw [wup_same, hB, sSet_same]
          · rw [wup_cell (by decide), hB, sSet_ne (by decide)]
            exact a3'
          · intro b c1 c2
            rw [wup_cell c2]
            exact aN b c1
          · intro j hj
            rw [wup_cell (by decide), wup_slot hj]
            exact ⟨aJ j hj, by rw [aN 76 (by decide)]⟩
        unfold sDead at go
        cases hbg : sBrg v
        · rw [if_pos rfl]
          simp only [hbg, Bool.false_eq_true, if_false] at go
          by_cases z : v 0 = 3
          · rw [if_pos z]
            simpa [z] using go
          · rw [if_neg z]
            simpa [z] using go
        · rw [if_neg (by decide)]
          simpa [hbg] using go
  · rw [if_neg q]
    have hs : sHourL v live fl hr gr = v := by simp [sHourL, q]
    refine ⟨M1, ?_, by rw [hs]; exact h3, by rw [hs]; exact h4, fun _ _ _ => rfl, fun _ _ => ⟨rfl, rfl⟩⟩
    simp only [fX10_goesHour_203, wlet_eq, nI_1]
    simp [q]
end
