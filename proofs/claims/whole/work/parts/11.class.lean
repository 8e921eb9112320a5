/-! part 11: the class: a lamp, a row -/
section
variable {M : wMem} {a : Nat} {v : Nat → Int32}
theorem c_well (h : wLp M a v) : fX1_isWell M a = some (decide (v 4 = 0)) := by
  unfold fX1_isWell
  rw [h 4 (by decide)]
  split <;> simp [*]
theorem c_drag (h : wLp M a v) : fX1_drag M a = some (sDrag v) := by
  unfold fX1_drag sDrag wlet
  rw [h 4 (by decide), h 0 (by decide)]
  repeat' split
  all_goals first | rfl | simp_all
theorem c_brk (h : wLp M a v) : fX1_breaksRow M a = some (sBrk v) := by
  unfold fX1_breaksRow fX1_breaksRow_16 sBrk
  rw [h 4 (by decide)]
  repeat' split
  all_goals simp_all
theorem c_brg (h : wLp M a v) : fX1_isBridger M a = some (sBrg v) := by
  unfold fX1_isBridger fX1_isBridger_16 sBrg
  rw [h 0 (by decide)]
  repeat' split
  all_goals simp_all
theorem c_lse (h : wLp M a v) : fX1_isLoose M a = some (sLse v) := by
  unfold fX1_isLoose fX1_isLoose_16 sLse
  rw [h 0 (by decide)]
  repeat' split
  all_goals simp_all
theorem c_bright (h : wLp M a v) (fl : Int32) : fX1_brightAt M a fl = some (sBright v fl) := by
  have z : ¬ (100 : Int32) = 0 := by decide
  simp only [fX1_brightAt, sBright, c_well h, Option.bind_some, c_drag h, wgz_n z, wb_0]
  by_cases q : v 4 = 0 <;> simp [q]
theorem c_lik (h : wLp M a v) : fX1_likely M a = some (sLik v) := by
  have z : ¬ (10 : Int32) = 0 := by decide
  simp only [fX1_likely, sLik, wlet_eq, c_brg h, Option.bind_some, c_lse h, wgz_n z, wb_0, h 3 (by decide)]
  cases sBrg v <;> cases sLse v <;> simp
theorem c_die (h : wLp M a v) (fl : Int32) : fX1_mustDie M a fl = some (sDie v fl) := by
  unfold fX1_mustDie sDie wlet
  rw [h 0 (by decide), h 1 (by decide), h 3 (by decide)]
  repeat' split
  all_goals simp_all
theorem c_dead (h : wLp M a v) : fX1_whenDead M a = some (sDead v) := by
  simp only [fX1_whenDead, sDead, c_brg h, Option.bind_some, wb_0, h 0 (by decide)]
  cases sBrg v <;> simp
  split <;> rfl
theorem c_hang (h : wLp M a v) (hr gr : Int32) : fX1_worksLoose M a hr gr = some (sHang v hr gr) := by
  unfold fX1_worksLoose sHang wlet
  rw [wgz_n (by decide), wgz_n (by decide), wgz_n (by decide), h 0 (by decide)]
  repeat' split
  all_goals simp_all
theorem wLp_set (h : wLp M a v) {j : Nat} (x : Int32) : wLp (wup M a j x) a (sSet v j x) := by
  intro f hf
  rw [wup_rd]
  unfold sSet
  by_cases q : f = j
  · simp [q]
  · simp [q, h f hf]
theorem wLp_off (h : wLp M a v) {b j : Nat} {x : Int32} (hb : a ≠ b) : wLp (wup M b j x) a v := by
  intro f hf
  rw [wup_cell hb]
  exact h f hf
theorem sBrg_set (v : Nat → Int32) (x : Int32) : sBrg (sSet v 3 x) = sBrg v := by simp [sBrg, sSet]
theorem sDead_set (v : Nat → Int32) (x : Int32) : sDead (sSet v 3 x) = sDead v := by simp [sDead, sBrg_set, sSet]
theorem c_burn (h : wLp M a v) (fl : Int32) : ∃ M', fX1_burn M a fl = some M' ∧ wLp M' a (sBurn v fl) ∧ ∀ b, b ≠ a → M' b = M b := by
  have z : ¬ (10 : Int32) = 0 := by decide
  simp only [fX1_burn, wlet_eq, c_bright h, Option.bind_some, wgz_n z, h 3 (by decide)]
  have h1 : wLp (wup M a 3 (if v 3 + sBright v fl / 10 < 9999 then v 3 + sBright v fl / 10 else 9999)) a (sBurn1 v fl) := wLp_set h _
  simp only [c_die h1, Option.bind_some, c_dead h1, wb_0]
  unfold sBurn
  have hd : sDead (sBurn1 v fl) = sDead v := sDead_set v _
  rw [hd]
  cases hq : sDie (sBurn1 v fl) fl
  · refine ⟨_, if_pos rfl, ?_, fun b hb => wup_cell hb⟩
    simpa using h1
  · refine ⟨_, if_neg (by simp), ?_, fun b hb => by rw [wup_cell hb, wup_cell hb]⟩
    simpa using wLp_set h1 _
theorem c_touchW (h : wLp M a v) (gr : Int32) : ∃ M', fX1_touchWith M a gr = some M' ∧ wLp M' a (sTouch v gr) ∧ ∀ b, b ≠ a → M' b = M b := by
  simp only [fX1_touchWith, wlet_eq, sTouch, h 4 (by decide), c_well h, Option.bind_some, c_lse h, wb_0]
  by_cases q3 : v 4 = 3
  · refine ⟨_, if_pos q3, ?_, fun b hb => wup_cell hb⟩
    rw [if_pos q3]
    exact wLp_set h _
  · rw [if_neg q3, if_neg q3]
    by_cases q0 : v 4 = 0
    · simp only [q0, decide_true, Bool.true_eq_false, if_false, true_and]
      cases hl : sLse v
      · exact ⟨M, by simp, by simpa using h, fun _ _ => rfl⟩
      · by_cases g3 : 3 < gr
        · exact ⟨M, by simp [g3], by simpa [g3] using h, fun _ _ => rfl⟩
        · refine ⟨wup M a 4 3, by simp only [Bool.true_eq_false, if_false, if_neg g3], ?_, fun b hb => wup_cell hb⟩
          rw [if_pos ⟨rfl, g3⟩]
          exact wLp_set h _
    · exact ⟨M, by simp [q0], by simpa [q0] using h, fun _ _ => rfl⟩
theorem c_anew (h : wLp M a v) : ∃ M', fX1_putAnew M a = some M' ∧ wLp M' a (sAnew v) ∧ ∀ b, b ≠ a → M' b = M b := ⟨_, rfl, wLp_set (wLp_set h _) _, fun b hb => by rw [wup_cell hb, wup_cell hb]⟩
end
section
variable {M : wMem} {k n : Nat} {L : Nat → Nat → Int32} {st : Nat → Int32} {hr : Int32}
theorem c_has (h : wRow M k n L st hr) (x : Int32) : fX5_has M k x = some (decide (¬ x < 0 ∧ ¬ nI n ≤ x)) := by
  unfold fX5_has
  rw [h.2.1]
  by_cases q : x < 0 <;> by_cases q2 : nI n ≤ x <;> simp [q, q2]
theorem c_drags (h : wRow M k n L st hr) : fX5_allDrags M k = some (sDrags L n) := by
  unfold fX5_allDrags fX5_allDrags_4
  refine wloop_q (fun d t => ∃ j, j + d = n ∧ t.2 = nI j ∧ t.1 = sDrags L j) (fun o => o = some (sDrags L n)) ?_ wfuel n (0, 0) ⟨0, by omega, rfl, rfl⟩ (wfuel_lt (by have := h.1; omega))
  rintro rec d ⟨x, y⟩ ⟨j, hj, rfl, rfl⟩
  have hn := h.1
  dsimp only
  unfold fX5_allDrags_4_b wlet
  rw [h.2.1]
  by_cases q : j < n
  · right
    refine ⟨d - 1, (sDrags L (j + 1), nI (j + 1)), by omega, ⟨j + 1, by omega, rfl, rfl⟩, ?_⟩
    rw [if_neg (nI_ge q (by omega)), wgi_n (by omega) (by decide), nI_clamp (by omega), c_drag (h.2.2.1 j q), Option.bind_some, nI_1]
    rfl
  · left
    have e : j = n := by omega
    subst e
    rw [if_pos (nI_le (Nat.le_refl _) (by omega))]
end
section
variable {M : wMem} {k n : Nat} {L : Nat → Nat → Int32} {st : Nat → Int32} {hr : Int32}
theorem c_whole (h : wRow M k n L st hr) {i d : Nat} (hd : i + d ≤ n) : ∀ (x : Int32), x.toInt = (i : Int) + d - 1 → fX5_isWhole M k (nI i) x = some (sWhole L i d) := by
  intro x hx
  unfold fX5_isWhole fX5_isWhole_2
  have hn := h.1
  refine wloop_q (fun e t => ∃ j, i ≤ j ∧ j + e = i + d ∧ t = nI j ∧ sWhole L i d = sWhole L j e) (fun o => o = some (sWhole L i d)) ?_ wfuel d (nI i) ⟨i, by omega, by omega, rfl, rfl⟩ (wfuel_lt (by omega))
  rintro rec e t ⟨j, hij, hj, rfl, hs⟩
  simp only [fX5_isWhole_2_b, wlet_eq, h.2.1]
  have hjT : (nI j).toInt = (j : Int) := nI_toInt (by omega)
  by_cases q : e = 0
  · left
    subst q
    rw [if_pos (by rw [i_lt, hx, hjT]; omega), hs]
    rfl
  · have hjn : j < n := by omega
    rw [if_neg (by rw [i_lt, hx, hjT]; omega), if_neg (nI_ge hjn (by omega)), wgi_n (by omega) (by decide), nI_clamp (by omega), c_brk (h.2.2.1 j hjn), Option.bind_some]
    obtain ⟨e', rfl⟩ : ∃ e', e = e' + 1 := ⟨e - 1, by omega⟩
    have hw : sWhole L j (e' + 1) = (!sBrk (L j) && sWhole L (j + 1) e') := rfl
    simp only [wb_0]
    cases hb : sBrk (L j)
    · right
      refine ⟨e', nI (j + 1), by omega, ⟨j + 1, by omega, by omega, rfl, ?_⟩, ?_⟩
      · rw [hs, hw, hb]
        rfl
      · simp only [if_true, nI_1]
    · left
      rw [hs, hw, hb]
      rfl
theorem c_live (h : wRow M k n L st hr) : fX5_isLive M k = some (sLive L n) := by
  have hn := h.1
  have e : fX5_isWhole M k 0 (M k 2 - 1) = some (sWhole L 0 n) := by
    refine c_whole h (i := 0) (d := n) (by omega) _ ?_
    rw [h.2.1]
    exact (pk_sub_toInt (a := n) (b := 1) (by omega) (by omega)).trans (by omega)
  simp only [fX5_isLive, e, Option.bind_some, wb_0, c_drags h, sLive]
  cases sWhole L 0 n
  · simp
  · by_cases q : sDrags L n ≤ 0 <;> simp [q]
theorem c_flowT (h : wRow M k n L st hr) (d : Int32) : fX5_flowThrough M k d = some (sFlowT (st 0) d) := by
  unfold fX5_flowThrough sFlowT
  have e : M (k + 2) (Int32.toNatClampNeg 0) = st 0 := h.2.2.2.1 0 (by decide)
  rw [e]
  by_cases q : 0 < d
  · have hz : ¬ d = 0 := fun z => by rw [z] at q; exact absurd q (by decide)
    rw [if_pos q, if_pos q, wgz_n hz]
    rfl
  · rw [if_neg q, if_neg q]
theorem c_flow (h : wRow M k n L st hr) : fX5_flowNow M k = some (sFlow L n (st 0)) := by
  simp only [fX5_flowNow, c_live h, Option.bind_some, wb_0, c_drags h, c_flowT h, sFlow]
  cases sLive L n <;> simp
theorem c_many (h : wRow M k n L st hr) (c : Int32) : fX5_howMany M k c = some (sMany L c n) := by
  unfold fX5_howMany fX5_howMany_4
  have hn := h.1
  refine wloop_q (fun d t => ∃ j, j + d = n ∧ t.2 = nI j ∧ t.1 = sMany L c j) (fun o => o = some (sMany L c n)) ?_ wfuel n (0, 0) ⟨0, by omega, rfl, rfl⟩ (wfuel_lt (by omega))
  rintro rec d ⟨x, y⟩ ⟨j, hj, rfl, rfl⟩
  simp only [fX5_howMany_4_b, fX5_howMany_28, wlet_eq, h.2.1]
  by_cases q : j < n
  · right
    refine ⟨d - 1, (sMany L c (j + 1), nI (j + 1)), by omega, ⟨j + 1, by omega, rfl, rfl⟩, ?_⟩
    rw [if_neg (nI_ge q (by omega)), wgi_n (by omega) (by decide), nI_clamp (by omega), h.2.2.1 j q 4 (by decide), nI_1]
    simp only [sMany]
    split <;> simp
  · left
    have e : j = n := by omega
    subst e
    rw [if_pos (nI_le (Nat.le_refl _) (by omega))]
theorem c_hurts (h : wRow M k n L st hr) : fX5_allHurt M k = some (sHurts L n) := by
  unfold fX5_allHurt fX5_allHurt_4
  have hn := h.1
  refine wloop_q (fun d t => ∃ j, j + d = n ∧ t.2 = nI j ∧ t.1 = sHurts L j) (fun o => o = some (sHurts L n)) ?_ wfuel n (0, 0) ⟨0, by omega, rfl, rfl⟩ (wfuel_lt (by omega))
  rintro rec d ⟨x, y⟩ ⟨j, hj, rfl, rfl⟩
  simp only [fX5_allHurt_4_b, wlet_eq, h.2.1]
  by_cases q : j < n
  · right
    refine ⟨d - 1, (sHurts L (j + 1), nI (j + 1)), by omega, ⟨j + 1, by omega, rfl, rfl⟩, ?_⟩
    rw [if_neg (nI_ge q (by omega)), wgi_n (by omega) (by decide), nI_clamp (by omega), h.2.2.1 j q 3 (by decide), nI_1]
    rfl
  · left
    have e : j = n := by omega
    subst e
    rw [if_pos (nI_le (Nat.le_refl _) (by omega))]
theorem c_brights (h : wRow M k n L st hr) : fX5_allBright M k = some (sBrights L (sFlow L n (st 0)) n) := by
  simp only [fX5_allBright, c_flow h, Option.bind_some]
  unfold fX5_allBright_9
  have hn := h.1
  refine wloop_q (fun d t => ∃ j, j + d = n ∧ t.2 = nI j ∧ t.1 = sBrights L (sFlow L n (st 0)) j) (fun o => o = some (sBrights L (sFlow L n (st 0)) n)) ?_ wfuel n (0, 0) ⟨0, by omega, rfl, rfl⟩ (wfuel_lt (by omega))
  rintro rec d ⟨x, y⟩ ⟨j, hj, rfl, rfl⟩
  simp only [fX5_allBright_9_b, wlet_eq, h.2.1]
  by_cases q : j < n
  · right
    refine ⟨d - 1, (sBrights L (sFlow L n (st 0)) (j + 1), nI (j + 1)), by omega, ⟨j + 1, by omega, rfl, rfl⟩, ?_⟩
    rw [if_neg (nI_ge q (by omega)), wgi_n (by omega) (by decide), nI_clamp (by omega), c_bright (h.2.2.1 j q), Option.bind_some, nI_1]
    rfl
  · left
    have e : j = n := by omega
    subst e
    rw [if_pos (nI_le (Nat.le_refl _) (by omega))]
/-- rows agree off the row's own cells -/
def wOff (k : Nat) (M M' : wMem) : Prop := ∀ b, (b < k ∨ k + 15 ≤ b) → M' b = M b
theorem wOff.rf (k : Nat) (M : wMem) : wOff k M M := fun _ _ => rfl
theorem wOff.tr {M1 M2 M3 : wMem} (h : wOff k M1 M2) (h2 : wOff k M2 M3) : wOff k M1 M3 := fun b hb => (h2 b hb).trans (h b hb)
/-- one lamp of a row has changed -/
theorem wRow_lamp {M' : wMem} {v : Nat → Int32} {L' : Nat → Nat → Int32} (h : wRow M k n L st hr) {i : Nat} (hi : i < n) (hv : wLp M' (k + 1 + 2 + i) v) (ho : ∀ b, b ≠ k + 1 + 2 + i → M' b = M b) (h1 : L' i = v) (h2 : ∀ j, j < n → j ≠ i → L' j = L j) : wRow M' k n L' st hr ∧ wOff k M M' := by
  have hn := h.1
  refine ⟨⟨h.1, ?_, ?_, ?_, ?_⟩, fun b hb => ho b (by omega)⟩
  · rw [ho k (by omega)]
    exact h.2.1
  · intro j hj
    by_cases q : j = i
    · subst q
      rw [h1]
      exact hv
    · intro f hf
      rw [ho _ (by omega), h2 j hj q]
      exact h.2.2.1 j hj f hf
  · intro j hj
    rw [ho _ (by omega)]
    exact h.2.2.2.1 j hj
  · rw [ho k (by omega)]
    exact h.2.2.2.2
theorem wRow_hr (h : wRow M k n L st hr) (x : Int32) : wRow (wup M k 3 x) k n L st x ∧ wOff k M (wup M k 3 x) := by
  have hn := h.1
  refine ⟨⟨h.1, ?_, ?_, ?_, wup_same _ _ _ _⟩, fun b hb => wup_cell (by omega)⟩
  · rw [wup_slot (by decide)]
    exact h.2.1
  · intro j hj f hf
    rw [wup_cell (by omega)]
    exact h.2.2.1 j hj f hf
  · intro j hj
    rw [wup_cell (by omega)]
    exact h.2.2.2.1 j hj
end
