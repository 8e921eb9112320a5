/-! part 17: what would come: the row hour by hour, in mind -/
def sHr (hr : Int32) : Nat → Int32
  | 0 => hr
  | h + 1 => sHr hr h + 1
def sLs (L : Nat → Nat → Int32) (n : Nat) (st : Nat → Int32) (hr : Int32) : Nat → Nat → Nat → Int32
  | 0 => L
  | h + 1 => sHour (sLs L n st hr h) n st (sHr hr h)
def wLe (L : Nat → Nat → Int32) (n : Nat) : Prop := ∀ i, i < n → (L i 3).toInt ≤ 9999
theorem sMin_le (x : Int32) : (sMin x).toInt ≤ 9999 := by
  unfold sMin
  have e : (9999 : Int32).toInt = 9999 := by decide
  by_cases q : x < 9999
  · rw [if_pos q]
    rw [i_lt] at q
    omega
  · rw [if_neg q]
    omega
theorem sHour_3 {L : Nat → Nat → Int32} {n : Nat} {st : Nat → Int32} {hr : Int32} (i : Nat) : sHour L n st hr i 3 = L i 3 ∨ sHour L n st hr i 3 = sMin (L i 3 + sBright (L i) (sFlow L n (st 0)) / 10) := by
  unfold sHour sHourL
  split
  · rw [sLoosen_ne (by decide)]
    split
    · right
      rw [sBurn_ne (by decide)]
      exact sSet_same _ _ _
    · left
      rfl
  · left
    rfl
theorem wLe_hour {L : Nat → Nat → Int32} {n : Nat} (h : wLe L n) (st : Nat → Int32) (hr : Int32) : wLe (sHour L n st hr) n := by
  intro i hi
  rcases sHour_3 (L := L) (n := n) (st := st) (hr := hr) i with e | e
  · rw [e]
    exact h i hi
  · rw [e]
    exact sMin_le _
theorem wLe_ls {L : Nat → Nat → Int32} {n : Nat} (h : wLe L n) (st : Nat → Int32) (hr : Int32) : ∀ k, wLe (sLs L n st hr k) n
  | 0 => h
  | k + 1 => wLe_hour (wLe_ls h st hr k) st _
/-- the first of i .. i + d less 1 of which P holds; -9 -/
def sFirst (P : Nat → Bool) (i : Nat) : Nat → Int32
  | 0 => -9
  | d + 1 => if P i = true then nI i else sFirst P (i + 1) d
def wFn (M M' : wMem) : Prop := (∀ b, b ≠ 70 → b ≠ 75 → b ≠ 76 → b ≠ 83 → M' b = M b) ∧ ∀ j, j ≠ 8 → j ≠ 29 → j ≠ 30 → M' 70 j = M 70 j
theorem wFn.rf (M : wMem) : wFn M M := ⟨fun _ _ _ _ _ => rfl, fun _ _ _ _ => rfl⟩
theorem wFn.tr {M1 M2 M3 : wMem} (h : wFn M1 M2) (h2 : wFn M2 M3) : wFn M1 M3 := ⟨fun b a1 a2 a3 a4 => (h2.1 b a1 a2 a3 a4).trans (h.1 b a1 a2 a3 a4), fun j a b c => (h2.2 j a b c).trans (h.2 j a b c)⟩
theorem wFm.n {M M' : wMem} (h : wFm M M') : wFn M M' := ⟨h.1, fun j a _ _ => h.2 j a⟩
/-- all that the reference holds of its own is as it was -/
def wKm (M M' : wMem) : Prop := (∀ f, f < 5 → ∀ i, i < 12 → M' (72 + f) i = M (72 + f) i) ∧ (∀ j, j < 4 → M' 77 j = M 77 j) ∧ (∀ j, j ≠ 18 → j ≠ 19 → j ≠ 29 → j ≠ 30 → M' 70 j = M 70 j) ∧ (∀ j, j < 80 → M' 82 j = M 82 j) ∧ ∀ b, b ≠ 70 → (b < 72 ∨ 77 < b) → b ≠ 82 → b ≠ 83 → M' b = M b
theorem m_back {M M1 M2 M3 : wMem} (h1 : wSvA 80 M M1) (h2 : wFn M1 M2) (h3 : wRsA 80 M2 M3) : wKm M M3 := by
  obtain ⟨a1, a2, a3, a4, a5, a6, a7⟩ := h1
  obtain ⟨c1, c2, c3, c4, c5, c6⟩ := h3
  have k : M2 82 = M1 82 := h2.1 82 (by decide) (by decide) (by decide) (by decide)
  refine ⟨?_, ?_, ?_, ?_, ?_⟩
  · intro f hf i hi
    rw [c1 f hf i hi, k, a1 f hf i hi]
  · intro j hj
    rw [c2 j hj, k, a2 j hj]
  · intro j h18 h19 h29 h30
    by_cases e7 : j = 7
    · subst e7
      rw [c3, k, a3]
    · by_cases e8 : j = 8
      · subst e8
        rw [c4, k, a4]
      · rw [c5 j e7 e8 h18 h19, h2.2 j e8 h29 h30, a6 j h18 h19]
  · intro j hj
    rw [c6 82 (by decide) (by decide), k, a5 j (by omega)]
  · intro b h70 h72 h82 h83
    rw [c6 b h70 h72, h2.1 b h70 (by omega) (by omega) h83, a7 b h70 h82]
theorem m_saved {M M1 : wMem} {n : Nat} {L : Nat → Nat → Int32} {st : Nat → Int32} {hr : Int32} {c : Nat} (h : wMod M n L st hr) (h1 : wSvA c M M1) : wMod M1 n L st hr := by
  obtain ⟨a1, a2, a3, a4, a5, a6, a7⟩ := h1
  exact ⟨h.1, by rw [a6 7 (by decide) (by decide)]; exact h.2.1, fun i hi f hf => by rw [a7 _ (by omega) (by omega)]; exact h.2.2.1 i hi f hf, fun j hj => by rw [a7 77 (by decide) (by decide)]; exact h.2.2.2.1 j hj, by rw [a6 8 (by decide) (by decide)]; exact h.2.2.2.2⟩
theorem save80 : (80 : Int32) * 1 = nI 80 := by decide
theorem m_begin {M : wMem} {n : Nat} {L : Nat → Nat → Int32} {st : Nat → Int32} {hr : Int32} (h : wMod M n L st hr) : ∃ M1, fX10_passesAll M 1 1 = some M1 ∧ wSvA 80 M M1 ∧ wMod M1 n L st hr := by
  obtain ⟨M1, e1, e2⟩ := m_saveAll (M := M) (c := 80) 1 save80 (by omega)
  exact ⟨M1, e1, e2, m_saved h e2⟩
theorem m_end {M M1 M2 : wMem} (h1 : wSvA 80 M M1) (h2 : wFn M1 M2) : ∃ M3, fX10_passesAll M2 1 0 = some M3 ∧ wKm M M3 := by
  obtain ⟨M3, e1, e2⟩ := m_restAll (M := M2) (c := 80) 1 save80 (by omega)
  exact ⟨M3, e1, m_back h1 h2 e2⟩
theorem wOff_row {M M' : wMem} {n : Nat} {L : Nat → Nat → Int32} {st : Nat → Int32} {hr : Int32} (h : wRow M 1 n L st hr) (ho : wOff 32 M M') : wRow M' 1 n L st hr := c_src h (k := 32) (by omega) ho
theorem c_begin {M : wMem} {n : Nat} {L : Nat → Nat → Int32} {st : Nat → Int32} {hr : Int32} (h : wRow M 1 n L st hr) : ∃ M1, fX4_startFrom M 1 = some M1 ∧ wRow M1 32 n L st hr ∧ wOff 32 M M1 := by
  obtain ⟨M1, e1, e2, e3⟩ := c_copy (k := 32) (k2 := 1) h (by omega)
  exact ⟨M1, by simp only [fX4_startFrom, e1, Option.bind_some], e2, e3⟩
section
variable {M : wMem} {n : Nat} {L : Nat → Nat → Int32} {st : Nat → Int32} {hr : Int32}
theorem lit400 {j : Nat} (h : j < 2 ^ 31) : ((400 : Int32) < nI j) ↔ 400 < j := nI_ltI (a := 400) (by decide) h
theorem c_lasts (h : wRow M 1 n L st hr) : ∃ M', fX9_lasts M = some (sFirst (fun k => !sLive (sLs L n st hr k) n) 0 401, M') ∧ wOff 32 M M' := by
  obtain ⟨M1, s1, s2, s3⟩ := c_begin h
  simp only [fX9_lasts, fX4_hoursTillDark, s1, Option.bind_some]
  suffices hx : ∃ M', fX4_hoursTillDark_8 M1 0 = some (sFirst (fun k => !sLive (sLs L n st hr k) n) 0 401, M') ∧ wOff 32 M M' by
    obtain ⟨M', x1, x2⟩ := hx
    exact ⟨M', by rw [x1]; rfl, x2⟩
  unfold fX4_hoursTillDark_8
  refine wloop_q (fun d t => ∃ j, j + d = 401 ∧ t.1 = nI j ∧ wRow t.2 32 n (sLs L n st hr j) st (sHr hr j) ∧ wOff 32 M t.2 ∧ sFirst (fun k => !sLive (sLs L n st hr k) n) 0 401 = sFirst (fun k => !sLive (sLs L n st hr k) n) j d) (fun o => ∃ M', o = some (sFirst (fun k => !sLive (sLs L n st hr k) n) 0 401, M') ∧ wOff 32 M M') ?_ wfuel 401 (0, M1) ⟨0, by omega, rfl, s2, s3, rfl⟩ (wfuel_lt (by omega))
  rintro rec d ⟨y, M2⟩ ⟨j, hj, rfl, hR, hO, hS⟩
  dsimp only at hR hO hS ⊢
  unfold fX4_hoursTillDark_8_b
  rw [c_live hR, Option.bind_some]
  by_cases q : 400 < j
  · left
    have hd : d = 0 := by omega
    subst hd
    rw [if_pos ((lit400 (by omega)).mpr q), hS]
    exact ⟨M2, rfl, hO⟩
  · rw [if_neg (fun z => q ((lit400 (by omega)).mp z))]
    obtain ⟨d', rfl⟩ : ∃ d', d = d' + 1 := ⟨d - 1, by omega⟩
    have hst : sFirst (fun k => !sLive (sLs L n st hr k) n) j (d' + 1) = if (!sLive (sLs L n st hr j) n) = true then nI j else sFirst (fun k => !sLive (sLs L n st hr k) n) (j + 1) d' := rfl
    cases hl : sLive (sLs L n st hr j) n
    · left
      rw [hS, hst, hl]
      exact ⟨M2, rfl, hO⟩
    · right
      obtain ⟨M3, t1, t2, t3⟩ := c_hour hR
      refine ⟨d', (nI (j + 1), M3), by omega, ⟨j + 1, by omega, rfl, t2, hO.tr t3, ?_⟩, ?_⟩
      · rw [hS, hst, hl]
        rfl
      · rw [if_neg (by decide), t1]
        simp only [Option.bind_some, wpr, wlet_eq, nI_1]
theorem nI_nonneg {j : Nat} (h : j < 2 ^ 31) : (0 : Int32) ≤ nI j := nI_pos' h
theorem m_lasts (h : wMod M n L st hr) (hok : wLe L n) : ∃ M', fX10_lasts M = some (sFirst (fun k => !sLive (sLs L n st hr k) n) 0 401, M') ∧ wKm M M' := by
  obtain ⟨M1, s1, s2, s3⟩ := m_begin h
  simp only [fX10_lasts, s1, Option.bind_some]
  unfold fX10_lasts_11
  refine wloop_q (fun d t => wFn M1 t.2.2 ∧ ((∃ j, j + d = 402 ∧ t.1 = -9 ∧ t.2.1 = nI j ∧ j ≤ 401 ∧ wMod t.2.2 n (sLs L n st hr j) st (sHr hr j) ∧ sFirst (fun k => !sLive (sLs L n st hr k) n) 0 401 = sFirst (fun k => !sLive (sLs L n st hr k) n) j (401 - j)) ∨ (0 ≤ t.1 ∧ t.1 = sFirst (fun k => !sLive (sLs L n st hr k) n) 0 401))) (fun o => ∃ M', o = some (sFirst (fun k => !sLive (sLs L n st hr k) n) 0 401, M') ∧ wKm M M') ?_ wfuel 402 (-9, 0, M1) ⟨wFn.rf M1, Or.inl ⟨0, by omega, rfl, rfl, by omega, s3, rfl⟩⟩ (wfuel_lt (by omega))
  rintro rec d ⟨x, y, M2⟩ ⟨hF, hI⟩
  dsimp only at hF hI ⊢
  unfold fX10_lasts_11_b
  obtain ⟨M9, z1, z2⟩ := m_end s2 hF
  rcases hI with ⟨j, hj, rfl, rfl, hj2, hR, hS⟩ | ⟨h0, hx⟩
  · by_cases q : 400 < j
    · left
      have e : j = 401 := by omega
      subst e
      rw [if_pos ((lit400 (by omega)).mpr q), hS]
      simp only [fX10_lasts_42, z1, Option.bind_some]
      exact ⟨M9, rfl, z2⟩
    · right
      obtain ⟨M3, t1, t2, t3⟩ := m_hour hR (wLe_ls hok st hr j)
      obtain ⟨k, hk⟩ : ∃ k, 401 - j = k + 1 := ⟨400 - j, by omega⟩
      have hst : sFirst (fun k => !sLive (sLs L n st hr k) n) j (k + 1) = if (!sLive (sLs L n st hr j) n) = true then nI j else sFirst (fun k => !sLive (sLs L n st hr k) n) (j + 1) k := rfl
      rw [if_neg (fun z => q ((lit400 (by omega)).mp z)), if_neg (by decide), m_live hR, Option.bind_some]
      simp only [fX10_lasts_31, t1, Option.bind_some, wpr, wlet_eq, nI_1, wb_0]
      cases hl : sLive (sLs L n st hr j) n
      · refine ⟨0, (nI j, nI (j + 1), M3), by omega, ⟨hF.tr t3.n, Or.inr ⟨nI_nonneg (by omega), ?_⟩⟩, by rw [if_pos rfl]⟩
        show nI j = _
        rw [hS, hk, hst, hl]
        rfl
      · refine ⟨d - 1, (-9, nI (j + 1), M3), by omega, ⟨hF.tr t3.n, Or.inl ⟨j + 1, by omega, rfl, rfl, by omega, t2, ?_⟩⟩, by rw [if_neg (by decide)]⟩
        rw [hS, hk, hst, hl, show 401 - (j + 1) = k by omega]
        rfl
  · left
    rw [if_pos h0]
    simp only [fX10_lasts_42, z1, Option.bind_some, ite_self]
    exact ⟨M9, by rw [hx], z2⟩
end
