/-! part 13: the reference: a lamp, the row -/
section
variable {M : wMem} {n : Nat} {L : Nat → Nat → Int32} {st : Nat → Int32} {hr : Int32}
theorem m_0 (h : wMod M n L st hr) {i : Nat} (hi : i < n) : M 72 i = L i 0 := h.2.2.1 i hi 0 (by decide)
theorem m_1 (h : wMod M n L st hr) {i : Nat} (hi : i < n) : M 73 i = L i 1 := h.2.2.1 i hi 1 (by decide)
theorem m_2 (h : wMod M n L st hr) {i : Nat} (hi : i < n) : M 74 i = L i 2 := h.2.2.1 i hi 2 (by decide)
theorem m_3 (h : wMod M n L st hr) {i : Nat} (hi : i < n) : M 75 i = L i 3 := h.2.2.1 i hi 3 (by decide)
theorem m_4 (h : wMod M n L st hr) {i : Nat} (hi : i < n) : M 76 i = L i 4 := h.2.2.1 i hi 4 (by decide)
theorem m_lamp (h : wMod M n L st hr) (x : Int32) : fX10_isLamp M x = some (decide (¬ x < 0 ∧ ¬ nI n ≤ x)) := by
  unfold fX10_isLamp
  rw [h.2.1]
  by_cases q : x < 0 <;> by_cases q2 : nI n ≤ x <;> simp [q, q2]
theorem m_least (M : wMem) (a b : Int32) : fX10_least M a b = some (if b ≤ a then b else a) := by
  unfold fX10_least
  split <;> rfl
theorem m_min (M : wMem) (x : Int32) : fX10_least M 9999 x = some (sMin x) := by
  rw [m_least]
  unfold sMin
  congr 1
  by_cases q : x < 9999
  · rw [if_pos q, if_pos (Int32.le_of_lt q)]
  · rw [if_neg q]
    by_cases q2 : x ≤ 9999
    · rw [if_pos q2]
      exact Int32.le_antisymm q2 (Int32.not_lt.mp q)
    · rw [if_neg q2]
theorem m_drag (h : wMod M n L st hr) {i : Nat} (hi : i < n) : fX10_dragOf M (nI i) = some (sDrag (L i)) := by
  have hn := h.1
  unfold fX10_dragOf sDrag
  simp only [wgi_n (show i < 12 by omega) (show 12 < 2 ^ 31 by decide), nI_clamp (show i < 2 ^ 31 by omega), m_4 h hi, m_0 h hi]
  repeat' split
  all_goals first | rfl | simp_all
theorem m_bright (h : wMod M n L st hr) {i : Nat} (hi : i < n) (fl : Int32) : fX10_brightBy M (nI i) fl = some (sBright (L i) fl) := by
  have hn := h.1
  have z : ¬ (100 : Int32) = 0 := by decide
  simp only [fX10_brightBy, sBright, wgi_n (show i < 12 by omega) (show 12 < 2 ^ 31 by decide), nI_clamp (show i < 2 ^ 31 by omega), m_4 h hi, m_drag h hi, Option.bind_some, wgz_n z]
  split <;> rfl
theorem m_lse (h : wMod M n L st hr) {i : Nat} (hi : i < n) : fX10_isLoose M (nI i) = some (sLse (L i)) := by
  have hn := h.1
  simp only [fX10_isLoose, fX10_isLoose_20, sLse, wgi_n (show i < 12 by omega) (show 12 < 2 ^ 31 by decide), nI_clamp (show i < 2 ^ 31 by omega), m_0 h hi]
  repeat' split
  all_goals simp_all
theorem m_brg (h : wMod M n L st hr) {i : Nat} (hi : i < n) : fX10_doesBridge M (nI i) = some (sBrg (L i)) := by
  have hn := h.1
  simp only [fX10_doesBridge, fX10_doesBridge_20, sBrg, wgi_n (show i < 12 by omega) (show 12 < 2 ^ 31 by decide), nI_clamp (show i < 2 ^ 31 by omega), m_0 h hi]
  repeat' split
  all_goals simp_all
theorem m_lik (h : wMod M n L st hr) {i : Nat} (hi : i < n) : fX10_likelyOf M (nI i) = some (sLik (L i)) := by
  have hn := h.1
  have z : ¬ (10 : Int32) = 0 := by decide
  simp only [fX10_likelyOf, sLik, wgi_n (show i < 12 by omega) (show 12 < 2 ^ 31 by decide), nI_clamp (show i < 2 ^ 31 by omega), m_brg h hi, m_lse h hi, Option.bind_some, m_3 h hi, wgz_n z, wb_0]
  cases sBrg (L i) <;> cases sLse (L i) <;> simp
theorem m_die {M : wMem} {i : Nat} {v : Nat → Int32} (h0 : M 72 i = v 0) (h1 : M 73 i = v 1) (h3 : M 75 i = v 3) (hi : i < 12) (fl : Int32) : fX10_doesDie M (nI i) fl = some (sDie v fl) := by
  simp only [fX10_doesDie, fX10_doesDie_51, sDie, wgi_n hi (show 12 < 2 ^ 31 by decide), nI_clamp (show i < 2 ^ 31 by omega), h0, h1, h3]
  repeat' split
  all_goals simp_all
theorem m_brg2 {M : wMem} {i : Nat} {v : Nat → Int32} (h0 : M 72 i = v 0) (hi : i < 12) : fX10_doesBridge M (nI i) = some (sBrg v) := by
  simp only [fX10_doesBridge, fX10_doesBridge_20, sBrg, wgi_n hi (show 12 < 2 ^ 31 by decide), nI_clamp (show i < 2 ^ 31 by omega), h0]
  repeat' split
  all_goals simp_all
theorem w34 {β : Type} (x : Option β) : wgi 3 4 x = x := wgi_n (j := 3) (n := 4) (by decide) (by decide)
theorem w24 {β : Type} (x : Option β) : wgi 2 4 x = x := wgi_n (j := 2) (n := 4) (by decide) (by decide)
theorem w14 {β : Type} (x : Option β) : wgi 1 4 x = x := wgi_n (j := 1) (n := 4) (by decide) (by decide)
theorem w04 {β : Type} (x : Option β) : wgi 0 4 x = x := wgi_n (j := 0) (n := 4) (by decide) (by decide)
theorem cl0 : Int32.toNatClampNeg 0 = 0 := rfl
theorem cl1 : Int32.toNatClampNeg 1 = 1 := rfl
theorem cl2 : Int32.toNatClampNeg 2 = 2 := rfl
theorem cl3 : Int32.toNatClampNeg 3 = 3 := rfl
theorem m_hang {M : wMem} {i : Nat} {v : Nat → Int32} {hr gr : Int32} (h0 : M 72 i = v 0) (h8 : M 70 8 = hr) (h3 : M 77 3 = gr) (hi : i < 12) : fX10_doesHang M (nI i) = some (sHang v hr gr) := by
  have z : ¬ (10 : Int32) = 0 := by decide
  have z5 : ¬ (5 : Int32) = 0 := by decide
  simp only [fX10_doesHang, fX10_doesHang_26, fX10_doesHang_53, sHang, wgi_n hi (show 12 < 2 ^ 31 by decide), nI_clamp (show i < 2 ^ 31 by omega), h0, h8, cl3, h3, w34, wgz_n z, wgz_n z5]
  repeat' split
  all_goals simp_all
theorem m_drags (h : wMod M n L st hr) : fX10_drags M = some (sDrags L n) := by
  unfold fX10_drags fX10_drags_4
  have hn := h.1
  refine wloop_q (fun d t => ∃ j, j + d = n ∧ t.2 = nI j ∧ t.1 = sDrags L j) (fun o => o = some (sDrags L n)) ?_ wfuel n (0, 0) ⟨0, by omega, rfl, rfl⟩ (wfuel_lt (by omega))
  rintro rec d ⟨x, y⟩ ⟨j, hj, rfl, rfl⟩
  simp only [fX10_drags_4_b, wlet_eq, h.2.1]
  by_cases q : j < n
  · right
    refine ⟨d - 1, (sDrags L (j + 1), nI (j + 1)), by omega, ⟨j + 1, by omega, rfl, rfl⟩, ?_⟩
    rw [if_neg (nI_ge q (by omega)), m_drag h q, Option.bind_some, nI_1]
    rfl
  · left
    have e : j = n := by omega
    subst e
    rw [if_pos (nI_le (Nat.le_refl _) (by omega))]
theorem m_whole (h : wMod M n L st hr) {i d : Nat} (hd : i + d ≤ n) : ∀ (x : Int32), x.toInt = (i : Int) + d - 1 → fX10_isWhole M (nI i) x = some (sWhole L i d) := by
  intro x hx
  unfold fX10_isWhole fX10_isWhole_2
  have hn := h.1
  refine wloop_q (fun e t => ∃ j, i ≤ j ∧ j + e = i + d ∧ t = nI j ∧ sWhole L i d = sWhole L j e) (fun o => o = some (sWhole L i d)) ?_ wfuel d (nI i) ⟨i, by omega, by omega, rfl, rfl⟩ (wfuel_lt (by omega))
  rintro rec e t ⟨j, hij, hj, rfl, hs⟩
  simp only [fX10_isWhole_2_b, wlet]
  have hjT : (nI j).toInt = (j : Int) := nI_toInt (by omega)
  by_cases q : e = 0
  · left
    subst q
    rw [if_pos (by rw [i_lt, hx, hjT]; omega), hs]
    rfl
  · have hjn : j < n := by omega
    rw [if_neg (by rw [i_lt, hx, hjT]; omega), wgi_n (by omega) (by decide), wgi_n (by omega) (by decide), nI_clamp (by omega), m_4 h hjn]
    obtain ⟨e', rfl⟩ : ∃ e', e = e' + 1 := ⟨e - 1, by omega⟩
    have hw : sWhole L j (e' + 1) = (!sBrk (L j) && sWhole L (j + 1) e') := rfl
    by_cases q1 : L j 4 = 1
    · left
      have hb : sBrk (L j) = true := by simp [sBrk, q1]
      rw [if_pos q1, hs, hw, hb]
      rfl
    · by_cases q3 : L j 4 = 3
      · left
        have hb : sBrk (L j) = true := by simp [sBrk, q3]
        rw [if_neg q1, if_pos q3, hs, hw, hb]
        rfl
      · right
        have hb : sBrk (L j) = false := by simp [sBrk, q1, q3]
        refine ⟨e', nI (j + 1), by omega, ⟨j + 1, by omega, by omega, rfl, ?_⟩, ?_⟩
        · rw [hs, hw, hb]
          rfl
        · rw [if_neg q1, if_neg q3, nI_1]
theorem m_live (h : wMod M n L st hr) : fX10_isLive M = some (sLive L n) := by
  have hn := h.1
  have e : fX10_isWhole M 0 (M 70 7 - 1) = some (sWhole L 0 n) := by
    refine m_whole h (i := 0) (d := n) (by omega) _ ?_
    rw [h.2.1]
    exact (pk_sub_toInt (a := n) (b := 1) (by omega) (by omega)).trans (by omega)
  simp only [fX10_isLive, e, Option.bind_some, wb_0, m_drags h, sLive]
  rw [h.2.1]
  by_cases q : n = 0
  · subst q
    rw [if_pos (by decide)]
    simp [sWhole, sDrags]
  · rw [if_neg (nI_nle (by omega) (by omega))]
    cases sWhole L 0 n
    · simp
    · by_cases q : sDrags L n ≤ 0 <;> simp [q]
theorem sLive_pos {L : Nat → Nat → Int32} {n : Nat} (h : sLive L n = true) : 0 < sDrags L n := by
  simp only [sLive, Bool.and_eq_true, decide_eq_true_eq] at h
  exact Int32.not_le.mp h.2
theorem sFlowT_eq {ps d : Int32} (h : 0 < d) : sFlowT ps d = sMin (100 * ps / d) := by rw [sFlowT, if_pos h]; rfl
theorem i_pos_ne {d : Int32} (h : 0 < d) : ¬ d = 0 := fun z => by rw [z] at h; exact absurd h (by decide)
theorem m_flow (h : wMod M n L st hr) : fX10_flowNow M = some (sFlow L n (st 0)) := by
  have e0 : M 77 0 = st 0 := h.2.2.2.1 0 (by decide)
  simp only [fX10_flowNow, m_live h, Option.bind_some, wb_0, m_drags h, w04, cl0, e0, sFlow]
  cases hl : sLive L n
  · simp
  · have hp := sLive_pos hl
    simp only [Bool.true_eq_false, if_false, if_true, wgz_n (i_pos_ne hp), m_min, Option.bind_some, sFlowT_eq hp]
theorem m_many (h : wMod M n L st hr) (c : Int32) : fX10_stateMany M c = some (sMany L c n) := by
  unfold fX10_stateMany fX10_stateMany_4
  have hn := h.1
  refine wloop_q (fun d t => ∃ j, j + d = n ∧ t.2 = nI j ∧ t.1 = sMany L c j) (fun o => o = some (sMany L c n)) ?_ wfuel n (0, 0) ⟨0, by omega, rfl, rfl⟩ (wfuel_lt (by omega))
  rintro rec d ⟨x, y⟩ ⟨j, hj, rfl, rfl⟩
  simp only [fX10_stateMany_4_b, fX10_stateMany_28, wlet_eq, h.2.1]
  by_cases q : j < n
  · right
    refine ⟨d - 1, (sMany L c (j + 1), nI (j + 1)), by omega, ⟨j + 1, by omega, rfl, rfl⟩, ?_⟩
    rw [if_neg (nI_ge q (by omega)), wgi_n (by omega) (by decide), nI_clamp (by omega), m_4 h q, nI_1]
    simp only [sMany]
    split <;> simp
  · left
    have e : j = n := by omega
    subst e
    rw [if_pos (nI_le (Nat.le_refl _) (by omega))]
end
