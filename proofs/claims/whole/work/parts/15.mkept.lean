/-! part 15: the reference: the hour's loops, putting anew, touching, what is put away and back -/
section
variable {M : wMem} {n : Nat} {L : Nat → Nat → Int32} {st : Nat → Int32} {hr : Int32}
/-- off the cells that an hour changes -/
def wFm (M M' : wMem) : Prop := (∀ b, b ≠ 70 → b ≠ 75 → b ≠ 76 → b ≠ 83 → M' b = M b) ∧ ∀ j, j ≠ 8 → M' 70 j = M 70 j
theorem wFm.rf (M : wMem) : wFm M M := ⟨fun _ _ _ _ _ => rfl, fun _ _ => rfl⟩
theorem wFm.tr {M1 M2 M3 : wMem} (h : wFm M1 M2) (h2 : wFm M2 M3) : wFm M1 M3 := ⟨fun b a1 a2 a3 a4 => (h2.1 b a1 a2 a3 a4).trans (h.1 b a1 a2 a3 a4), fun j hj => (h2.2 j hj).trans (h.2 j hj)⟩
theorem m_hourLoop {M1 : wMem} (h : wMod M1 n L st hr) (hF : wFm M M1) (hok : ∀ i, i < n → (L i 3).toInt ≤ 9999) (live : Bool) (fl : Int32) (hg : ∀ i, i < n → M1 83 i = if live = true then sBright (L i) fl / 10 else 0) (L' : Nat → Nat → Int32) (hL : ∀ i, L' i = sHourL (L i) live fl hr (st 3)) : ∃ M', fX10_goesHour_58 M1 fl (wb live) 0 0 = some (sGone L L' n, M') ∧ wMod M' n L' st (hr + 1) ∧ wFm M M' := by
  unfold fX10_goesHour_58
  have hn := h.1
  refine wloop_q (fun d t => ∃ j, j + d = n ∧ t.2.1 = nI j ∧ t.1 = sGone L L' j ∧ wMod t.2.2 n (sMix L L' j) st hr ∧ wFm M t.2.2 ∧ t.2.2 83 = M1 83) (fun o => ∃ M', o = some (sGone L L' n, M') ∧ wMod M' n L' st (hr + 1) ∧ wFm M M') ?_ wfuel n (0, 0, M1) ⟨0, by omega, rfl, rfl, by rw [sMix_0]; exact h, hF, rfl⟩ (wfuel_lt (by omega))
  rintro rec d ⟨x, y, M2⟩ ⟨j, hj, rfl, rfl, hR, hO, h83⟩
  dsimp only at hR hO h83 ⊢
  by_cases q : j < n
  · right
    have mj : sMix L L' j j = L j := sMix_ge (Nat.lt_irrefl j)
    obtain ⟨M', t1, t2, t3, t4, t5⟩ := m_hourL (M1 := M2) (v := L j) (i := j) (hr := hr) (gr := st 3) (fl := fl) (live := live) (by omega) (by rw [m_0 hR q, mj]) (by rw [m_1 hR q, mj]) (by rw [m_3 hR q, mj]) (by rw [m_4 hR q, mj]) hR.2.2.2.2 (hR.2.2.2.1 3 (by decide)) (by rw [h83]; exact hg j q) (hok j q) rec (sGone L L' j) (by rw [hR.2.1]; exact nI_ge q (by omega))
    refine ⟨d - 1, (sGone L L' (j + 1), nI (j + 1), M'), by omega, ⟨j + 1, by omega, rfl, rfl, ?_, ?_, ?_⟩, ?_⟩
    · show wMod M' n (sMix L L' (j + 1)) st hr
      refine ⟨hn, by rw [t4 70 (by decide) (by decide)]; exact hR.2.1, ?_, fun i hi => by rw [t4 77 (by decide) (by decide)]; exact hR.2.2.2.1 i hi, by rw [t4 70 (by decide) (by decide)]; exact hR.2.2.2.2⟩
      intro i hi f hf
      by_cases z : i = j
      · subst z
        rw [sMix_lt (Nat.lt_succ_self i), hL]
        have hf5 : f = 0 ∨ f = 1 ∨ f = 2 ∨ f = 3 ∨ f = 4 := by omega
        have keep : ∀ f, f ≠ 3 → f ≠ 4 → sHourL (L i) live fl hr (st 3) f = L i f := by
          intro f f3 f4
          unfold sHourL
          split
          · rw [sLoosen_ne f4]
            split
            · rw [sBurn_ne f4]
              exact sSet_ne f3
            · rfl
          · rfl
        rcases hf5 with rfl | rfl | rfl | rfl | rfl
        · rw [keep 0 (by decide) (by decide), t4 _ (by decide) (by decide), ← mj]
          exact hR.2.2.1 i hi 0 (by decide)
        · rw [keep 1 (by decide) (by decide), t4 _ (by decide) (by decide), ← mj]
          exact hR.2.2.1 i hi 1 (by decide)
        · rw [keep 2 (by decide) (by decide), t4 _ (by decide) (by decide), ← mj]
          exact hR.2.2.1 i hi 2 (by decide)
        · exact t2
        · exact t3
      · have e : sMix L L' (j + 1) i = sMix L L' j i := by
          by_cases z2 : i < j
          · rw [sMix_lt z2, sMix_lt (by omega)]
          · rw [sMix_ge z2, sMix_ge (by omega)]
        rw [e, ← hR.2.2.1 i hi f hf]
        by_cases f3 : f = 3
        · subst f3
          exact (t5 i z).1
        · by_cases f4 : f = 4
          · subst f4
            exact (t5 i z).2
          · rw [t4 _ (by omega) (by omega)]
    · show wFm M M'
      refine hO.tr ⟨fun b a1 a2 a3 a4 => t4 b a2 a3, fun i _ => by rw [t4 70 (by decide) (by decide)]⟩
    · show M' 83 = M1 83
      rw [t4 83 (by decide) (by decide)]
      exact h83
    · rw [t1, ← hL]
      rfl
  · left
    have e : j = n := by omega
    subst e
    unfold fX10_goesHour_58_b
    rw [hR.2.1, if_pos (nI_le (Nat.le_refl _) (by omega)), hR.2.2.2.2]
    refine ⟨wup M2 70 8 (hr + 1), rfl, ⟨hn, ?_, ?_, ?_, wup_same _ _ _ _⟩, hO.tr ⟨fun b a1 _ _ _ => wup_cell a1, fun i hi => wup_slot hi⟩⟩
    · rw [wup_slot (by decide)]
      exact hR.2.1
    · intro i hi f hf
      rw [wup_cell (by omega), hR.2.2.1 i hi f hf, sMix_lt hi]
    · intro i hi
      rw [wup_cell (by decide)]
      exact hR.2.2.2.1 i hi
theorem m_hour (h : wMod M n L st hr) (hok : ∀ i, i < n → (L i 3).toInt ≤ 9999) : ∃ M', fX10_goesHour M = some (sGone L (sHour L n st hr) n, M') ∧ wMod M' n (sHour L n st hr) st (hr + 1) ∧ wFm M M' := by
  have hn := h.1
  simp only [fX10_goesHour, m_flow h, m_live h, Option.bind_some, wlet_eq]
  unfold fX10_goesHour_15
  refine wloop_q (fun d t => ∃ j, j + d = n ∧ t.1 = nI j ∧ wMod t.2 n L st hr ∧ wFm M t.2 ∧ ∀ i, i < j → t.2 83 i = if sLive L n = true then sBright (L i) (sFlow L n (st 0)) / 10 else 0) (fun o => ∃ M', o = some (sGone L (sHour L n st hr) n, M') ∧ wMod M' n (sHour L n st hr) st (hr + 1) ∧ wFm M M') ?_ wfuel n (0, M) ⟨0, by omega, rfl, h, wFm.rf M, fun i hi => by omega⟩ (wfuel_lt (by omega))
  rintro rec d ⟨y, M1⟩ ⟨j, hj, rfl, hR, hO, hG⟩
  dsimp only at hR hO hG ⊢
  unfold fX10_goesHour_15_b
  by_cases q : j < n
  · right
    have z : ¬ (10 : Int32) = 0 := by decide
    have step : ∀ x : Int32, (x = if sLive L n = true then sBright (L j) (sFlow L n (st 0)) / 10 else 0) → wMod (wup M1 83 j x) n L st hr ∧ wFm M (wup M1 83 j x) ∧ ∀ i, i < j + 1 → wup M1 83 j x 83 i = if sLive L n = true then sBright (L i) (sFlow L n (st 0)) / 10 else 0 := by
      intro x hx
      refine ⟨⟨hn, by rw [wup_cell (by decide)]; exact hR.2.1, fun i hi f hf => by rw [wup_cell (by omega)]; exact hR.2.2.1 i hi f hf, fun i hi => by rw [wup_cell (by decide)]; exact hR.2.2.2.1 i hi, by rw [wup_cell (by decide)]; exact hR.2.2.2.2⟩, hO.tr ⟨fun b _ _ _ a4 => wup_cell a4, fun i _ => by rw [wup_cell (by decide)]⟩, ?_⟩
      intro i hi
      by_cases e : i = j
      · subst e
        rw [wup_same]
        exact hx
      · rw [wup_slot e]
        exact hG i (by omega)
    rw [hR.2.1, if_neg (nI_ge q (by omega)), m_bright hR q, Option.bind_some, wgz_n z]
    simp only [fX10_goesHour_48, wlet_eq, wgi_n (show j < 12 by omega) (show 12 < 2 ^ 31 by decide), nI_clamp (show j < 2 ^ 31 by omega), nI_1, wb_0]
    cases hl : sLive L n
    · obtain ⟨s1, s2, s3⟩ := step 0 (by simp [hl])
      exact ⟨d - 1, (nI (j + 1), wup M1 83 j 0), by omega, ⟨j + 1, by omega, rfl, s1, s2, by rw [hl] at s3; exact s3⟩, by simp⟩
    · obtain ⟨s1, s2, s3⟩ := step (sBright (L j) (sFlow L n (st 0)) / 10) (by simp [hl])
      exact ⟨d - 1, (nI (j + 1), wup M1 83 j (sBright (L j) (sFlow L n (st 0)) / 10)), by omega, ⟨j + 1, by omega, rfl, s1, s2, by rw [hl] at s3; exact s3⟩, by simp⟩
  · left
    have e : j = n := by omega
    subst e
    rw [hR.2.1, if_pos (nI_le (Nat.le_refl _) (by omega))]
    exact m_hourLoop hR hO hok (sLive L j) (sFlow L j (st 0)) hG (sHour L j st hr) (fun i => rfl)
/-- one lamp of the reference's has changed, in its hurt or state -/
theorem wMod_lamp {M' : wMem} {v : Nat → Int32} {L' : Nat → Nat → Int32} (h : wMod M n L st hr) {i : Nat} (hi : i < n) (h3 : M' 75 i = v 3) (h4 : M' 76 i = v 4) (hv : ∀ f, f ≠ 3 → f ≠ 4 → v f = L i f) (ho : ∀ b, b ≠ 75 → b ≠ 76 → M' b = M b) (hj : ∀ j, j ≠ i → M' 75 j = M 75 j ∧ M' 76 j = M 76 j) (e1 : L' i = v) (e2 : ∀ j, j < n → j ≠ i → L' j = L j) : wMod M' n L' st hr ∧ wFm M M' := by
  refine ⟨⟨h.1, by rw [ho 70 (by decide) (by decide)]; exact h.2.1, ?_, fun j hj => by rw [ho 77 (by decide) (by decide)]; exact h.2.2.2.1 j hj, by rw [ho 70 (by decide) (by decide)]; exact h.2.2.2.2⟩, fun b _ a2 a3 _ => ho b a2 a3, fun j _ => by rw [ho 70 (by decide) (by decide)]⟩
  intro j hjn f hf
  by_cases z : j = i
  · subst z
    rw [e1]
    by_cases f3 : f = 3
    · subst f3
      exact h3
    · by_cases f4 : f = 4
      · subst f4
        exact h4
      · rw [ho _ (by omega) (by omega), hv f f3 f4]
        exact h.2.2.1 j hjn f hf
  · rw [e2 j hjn z, ← h.2.2.1 j hjn f hf]
    by_cases f3 : f = 3
    · subst f3
      exact (hj j z).1
    · by_cases f4 : f = 4
      · subst f4
        exact (hj j z).2
      · rw [ho _ (by omega) (by omega)]
theorem m_anew (h : wMod M n L st hr) {i : Nat} (hi : i < n) {L' : Nat → Nat → Int32} (e1 : L' i = sAnew (L i)) (e2 : ∀ j, j < n → j ≠ i → L' j = L j) : ∃ M', fX10_putsAnew M (nI i) = some M' ∧ wMod M' n L' st hr ∧ wFm M M' := by
  have hn := h.1
  refine ⟨wup (wup M 76 i 0) 75 i 0, ?_, ?_⟩
  · simp only [fX10_putsAnew, wlet_eq, wgi_n (show i < 12 by omega) (show 12 < 2 ^ 31 by decide), nI_clamp (show i < 2 ^ 31 by omega)]
  · refine wMod_lamp (v := sAnew (L i)) h hi ?_ ?_ ?_ ?_ ?_ e1 e2
    · rw [wup_same]
      rfl
    · rw [wup_cell (by decide), wup_same]
      rfl
    · intro f f3 f4
      simp [sAnew, sSet, f3, f4]
    · intro b a1 a2
      rw [wup_cell a1, wup_cell a2]
    · intro j hj
      rw [wup_slot hj, wup_cell (by decide), wup_cell (by decide), wup_slot hj]
      exact ⟨rfl, rfl⟩
theorem m_touch (h : wMod M n L st hr) {i : Nat} (hi : i < n) {L' : Nat → Nat → Int32} (e1 : L' i = sTouch (L i) (st 3)) (e2 : ∀ j, j < n → j ≠ i → L' j = L j) : ∃ M', fX10_touches M (nI i) = some M' ∧ wMod M' n L' st hr ∧ wFm M M' := by
  have hn := h.1
  have eg : M 77 3 = st 3 := h.2.2.2.1 3 (by decide)
  have put : ∀ x : Int32, sTouch (L i) (st 3) = sSet (L i) 4 x → wMod (wup M 76 i x) n L' st hr ∧ wFm M (wup M 76 i x) := by
    intro x hx
    refine wMod_lamp (v := sTouch (L i) (st 3)) h hi ?_ ?_ ?_ ?_ ?_ e1 e2
    · rw [wup_cell (by decide), hx, sSet_ne (by decide)]
      exact m_3 h hi
    · rw [wup_same, hx, sSet_same]
    · intro f f3 f4
      rw [hx]
      exact sSet_ne f4
    · intro b _ a2
      exact wup_cell a2
    · intro j hj
      rw [wup_cell (by decide), wup_slot hj]
      exact ⟨rfl, rfl⟩
  have stay : sTouch (L i) (st 3) = L i → wMod M n L' st hr ∧ wFm M M := by
    intro hx
    refine ⟨⟨h.1, h.2.1, ?_, h.2.2.2⟩, wFm.rf M⟩
    intro j hj f hf
    by_cases z : j = i
    · subst z
      rw [e1, hx]
      exact h.2.2.1 j hj f hf
    · rw [e2 j hj z]
      exact h.2.2.1 j hj f hf
  simp only [fX10_touches, wlet_eq, wgi_n (show i < 12 by omega) (show 12 < 2 ^ 31 by decide), nI_clamp (show i < 2 ^ 31 by omega), m_4 h hi, m_lse h hi, Option.bind_some, wb_0, w34, cl3, eg]
  by_cases q3 : L i 4 = 3
  · exact ⟨_, by rw [if_pos q3], put 0 (by simp [sTouch, q3])⟩
  · by_cases q0 : L i 4 = 0
    · rw [if_neg q3, if_pos q0]
      cases hl : sLse (L i)
      · exact ⟨_, by rw [if_pos rfl], stay (by simp [sTouch, hl, q3])⟩
      · by_cases g3 : 3 < st 3
        · exact ⟨_, by rw [if_neg (by decide), if_pos g3], stay (by simp [sTouch, g3, q3])⟩
        · exact ⟨_, by rw [if_neg (by decide), if_neg g3], put 3 (by simp [sTouch, g3, q0, hl])⟩
    · exact ⟨_, by rw [if_neg q3, if_neg q0], stay (by simp [sTouch, q3, q0])⟩
end
