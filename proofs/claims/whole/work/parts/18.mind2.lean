/-! part 18: in mind: bridged, light, keeps -/
section
variable {M : wMem} {n : Nat} {L : Nat → Nat → Int32} {st : Nat → Int32} {hr : Int32}
def sPb (L : Nat → Nat → Int32) (n : Nat) (st : Nat → Int32) (hr a : Int32) : Nat → Bool := fun k => decide (¬ sMany (sLs L n st hr k) 2 n < a)
theorem sFirst_s (P : Nat → Bool) (j d : Nat) : sFirst P j (d + 1) = if P j = true then nI j else sFirst P (j + 1) d := rfl
theorem c_bridged (h : wRow M 1 n L st hr) (a : Int32) : ∃ M', fX4_hoursTillBridged M 1 a = some (sFirst (sPb L n st hr a) 0 401, M') ∧ wOff 32 M M' := by
  obtain ⟨M1, s1, s2, s3⟩ := c_begin h
  simp only [fX4_hoursTillBridged, s1, Option.bind_some]
  unfold fX4_hoursTillBridged_8
  refine wloop_q (fun d t => ∃ j, j + d = 401 ∧ t.1 = nI j ∧ wRow t.2 32 n (sLs L n st hr j) st (sHr hr j) ∧ wOff 32 M t.2 ∧ sFirst (sPb L n st hr a) 0 401 = sFirst (sPb L n st hr a) j d) (fun o => ∃ M', o = some (sFirst (sPb L n st hr a) 0 401, M') ∧ wOff 32 M M') ?_ wfuel 401 (0, M1) ⟨0, by omega, rfl, s2, s3, rfl⟩ (wfuel_lt (by omega))
  rintro rec d ⟨y, M2⟩ ⟨j, hj, rfl, hR, hO, hS⟩
  dsimp only at hR hO hS ⊢
  unfold fX4_hoursTillBridged_8_b
  rw [c_many hR, Option.bind_some]
  by_cases q : 400 < j
  · left
    have hd : d = 0 := by omega
    subst hd
    rw [if_pos ((lit400 (by omega)).mpr q), hS]
    exact ⟨M2, rfl, hO⟩
  · rw [if_neg (fun z => q ((lit400 (by omega)).mp z))]
    obtain ⟨d', rfl⟩ : ∃ d', d = d' + 1 := ⟨d - 1, by omega⟩
    rw [sFirst_s _ j d'] at hS
    by_cases hl : sMany (sLs L n st hr j) 2 n < a
    · right
      obtain ⟨M3, t1, t2, t3⟩ := c_hour hR
      refine ⟨d', (nI (j + 1), M3), by omega, ⟨j + 1, by omega, rfl, t2, hO.tr t3, ?_⟩, ?_⟩
      · rw [hS, if_neg (by simp [sPb, hl])]
      · rw [if_pos hl, t1]
        simp only [Option.bind_some, wpr, wlet_eq, nI_1]
    · left
      rw [if_neg hl, hS, if_pos (by simp [sPb, hl])]
      exact ⟨M2, rfl, hO⟩
theorem m_bridged (h : wMod M n L st hr) (hok : wLe L n) (a : Int32) : ∃ M', ((fX10_passesAll M 1 1).bind fun M6 => fX10_bridged_30 M6 a (-9) 0) = some (sFirst (sPb L n st hr a) 0 401, M') ∧ wKm M M' := by
  obtain ⟨M1, s1, s2, s3⟩ := m_begin h
  simp only [s1, Option.bind_some]
  unfold fX10_bridged_30
  refine wloop_q (fun d t => wFn M1 t.2.2 ∧ ((∃ j, j + d = 402 ∧ t.1 = -9 ∧ t.2.1 = nI j ∧ j ≤ 401 ∧ wMod t.2.2 n (sLs L n st hr j) st (sHr hr j) ∧ sFirst (sPb L n st hr a) 0 401 = sFirst (sPb L n st hr a) j (401 - j)) ∨ (0 ≤ t.1 ∧ t.1 = sFirst (sPb L n st hr a) 0 401))) (fun o => ∃ M', o = some (sFirst (sPb L n st hr a) 0 401, M') ∧ wKm M M') ?_ wfuel 402 (-9, 0, M1) ⟨wFn.rf M1, Or.inl ⟨0, by omega, rfl, rfl, by omega, s3, rfl⟩⟩ (wfuel_lt (by omega))
  rintro rec d ⟨x, y, M2⟩ ⟨hF, hI⟩
  dsimp only at hF hI ⊢
  unfold fX10_bridged_30_b
  obtain ⟨M9, z1, z2⟩ := m_end s2 hF
  rcases hI with ⟨j, hj, rfl, rfl, hj2, hR, hS⟩ | ⟨h0, hx⟩
  · by_cases q : 400 < j
    · left
      have e : j = 401 := by omega
      subst e
      rw [if_pos ((lit400 (by omega)).mpr q), hS]
      simp only [fX10_bridged_65, z1, Option.bind_some]
      exact ⟨M9, rfl, z2⟩
    · right
      obtain ⟨M3, t1, t2, t3⟩ := m_hour hR (wLe_ls hok st hr j)
      obtain ⟨k, hk⟩ : ∃ k, 401 - j = k + 1 := ⟨400 - j, by omega⟩
      rw [if_neg (fun z => q ((lit400 (by omega)).mp z)), if_neg (by decide), m_many hR, Option.bind_some]
      simp only [fX10_bridged_54, t1, Option.bind_some, wpr, wlet_eq, nI_1]
      rw [hk, sFirst_s _ j k] at hS
      by_cases hl : sMany (sLs L n st hr j) 2 n < a
      · rw [if_neg (by simp [sPb, hl])] at hS
        refine ⟨d - 1, (-9, nI (j + 1), M3), by omega, ⟨hF.tr t3.n, Or.inl ⟨j + 1, by omega, rfl, rfl, by omega, t2, ?_⟩⟩, by rw [if_pos hl]⟩
        rw [hS, show 401 - (j + 1) = k by omega]
      · rw [if_pos (by simp [sPb, hl])] at hS
        exact ⟨0, (nI j, nI (j + 1), M3), by omega, ⟨hF.tr t3.n, Or.inr ⟨nI_nonneg (by omega), hS.symm⟩⟩, by rw [if_neg hl]⟩
  · left
    rw [if_pos h0]
    simp only [fX10_bridged_65, z1, Option.bind_some, ite_self]
    exact ⟨M9, by rw [hx], z2⟩
def sSum (F : Nat → Int32) : Nat → Int32
  | 0 => 0
  | k + 1 => sSum F k + F k
def sLt (L : Nat → Nat → Int32) (n : Nat) (st : Nat → Int32) (hr : Int32) : Nat → Int32 := fun k => sBrights (sLs L n st hr k) (sFlow (sLs L n st hr k) n (st 0)) n
theorem c_light (h : wRow M 1 n L st hr) {a : Nat} (ha : a ≤ 200) : ∃ M', fX4_lightOf M 1 (nI a) = some (sSum (sLt L n st hr) a, M') ∧ wOff 32 M M' := by
  obtain ⟨M1, s1, s2, s3⟩ := c_begin h
  simp only [fX4_lightOf, s1, Option.bind_some]
  unfold fX4_lightOf_11
  refine wloop_q (fun d t => ∃ j, j + d = a ∧ t.2.1 = nI j ∧ t.1 = sSum (sLt L n st hr) j ∧ wRow t.2.2 32 n (sLs L n st hr j) st (sHr hr j) ∧ wOff 32 M t.2.2) (fun o => ∃ M', o = some (sSum (sLt L n st hr) a, M') ∧ wOff 32 M M') ?_ wfuel a (0, 0, M1) ⟨0, by omega, rfl, rfl, s2, s3⟩ (wfuel_lt (by omega))
  rintro rec d ⟨x, y, M2⟩ ⟨j, hj, rfl, rfl, hR, hO⟩
  dsimp only at hR hO ⊢
  unfold fX4_lightOf_11_b
  by_cases q : j < a
  · right
    obtain ⟨M3, t1, t2, t3⟩ := c_hour hR
    refine ⟨d - 1, (sSum (sLt L n st hr) (j + 1), nI (j + 1), M3), by omega, ⟨j + 1, by omega, rfl, rfl, t2, hO.tr t3⟩, ?_⟩
    rw [if_neg (nI_ge q (by omega)), c_brights hR, Option.bind_some]
    simp only [wlet_eq, t1, Option.bind_some, wpr, nI_1]
    rfl
  · left
    have e : j = a := by omega
    subst e
    rw [if_pos (nI_le (Nat.le_refl _) (by omega))]
    exact ⟨M2, rfl, hO⟩
theorem m_light (h : wMod M n L st hr) (hok : wLe L n) {a : Nat} (ha : a ≤ 200) : ∃ M', ((fX10_passesAll M 1 1).bind fun M6 => fX10_light_30 M6 (nI a) 0 0) = some (sSum (sLt L n st hr) a, M') ∧ wKm M M' := by
  obtain ⟨M1, s1, s2, s3⟩ := m_begin h
  have hn := h.1
  simp only [s1, Option.bind_some]
  unfold fX10_light_30
  refine wloop_q (fun d t => ∃ j, j + d = a ∧ t.2.1 = nI j ∧ t.1 = sSum (sLt L n st hr) j ∧ wMod t.2.2 n (sLs L n st hr j) st (sHr hr j) ∧ wFn M1 t.2.2) (fun o => ∃ M', o = some (sSum (sLt L n st hr) a, M') ∧ wKm M M') ?_ wfuel a (0, 0, M1) ⟨0, by omega, rfl, rfl, s3, wFn.rf M1⟩ (wfuel_lt (by omega))
  rintro rec d ⟨x, y, M2⟩ ⟨j, hj, rfl, rfl, hR, hF⟩
  dsimp only at hR hF ⊢
  unfold fX10_light_30_b
  by_cases q : j < a
  · right
    obtain ⟨M3, t1, t2, t3⟩ := m_hour hR (wLe_ls hok st hr j)
    refine ⟨d - 1, (sSum (sLt L n st hr) (j + 1), nI (j + 1), M3), by omega, ⟨j + 1, by omega, rfl, rfl, t2, hF.tr t3.n⟩, ?_⟩
    rw [if_neg (nI_ge q (by omega)), m_flow hR, Option.bind_some]
    unfold fX10_light_45
    refine wloop_q (fun e t => ∃ i, i + e = n ∧ t.2 = nI i ∧ t.1 = sSum (sLt L n st hr) j + sBrights (sLs L n st hr j) (sFlow (sLs L n st hr j) n (st 0)) i) (fun o => o = rec (sSum (sLt L n st hr) (j + 1), nI (j + 1), M3)) ?_ wfuel n (sSum (sLt L n st hr) j, 0) ⟨0, by omega, rfl, (i_add0 _).symm⟩ (wfuel_lt (by omega))
    rintro rec2 e ⟨x2, y2⟩ ⟨i, hi, rfl, rfl⟩
    dsimp only
    unfold fX10_light_45_b
    rw [hR.2.1]
    by_cases q2 : i < n
    · right
      refine ⟨e - 1, (sSum (sLt L n st hr) j + sBrights (sLs L n st hr j) (sFlow (sLs L n st hr j) n (st 0)) (i + 1), nI (i + 1)), by omega, ⟨i + 1, by omega, rfl, rfl⟩, ?_⟩
      rw [if_neg (nI_ge q2 (by omega)), m_bright hR q2, Option.bind_some]
      simp only [wlet_eq, nI_1, sBrights, Int32.add_assoc]
    · left
      have e2 : i = n := by omega
      subst e2
      rw [if_pos (nI_le (Nat.le_refl _) (by omega)), t1]
      simp only [Option.bind_some, wpr, wlet_eq, nI_1]
      rfl
  · left
    have e : j = a := by omega
    subst e
    obtain ⟨M9, z1, z2⟩ := m_end s2 hF
    rw [if_pos (nI_le (Nat.le_refl _) (by omega)), z1]
    exact ⟨M9, rfl, z2⟩
def sKs (L : Nat → Nat → Int32) (n : Nat) (st : Nat → Int32) (hr : Int32) : Nat → Nat → Nat → Int32
  | 0 => L
  | k + 1 => sHour (fun i => sMend (sKs L n st hr k i)) n st (sHr hr k)
theorem sAnew_3 (v : Nat → Int32) : sAnew v 3 = 0 := by simp [sAnew, sSet]
theorem wLe_mend {L : Nat → Nat → Int32} {n : Nat} (h : wLe L n) : wLe (fun i => sMend (L i)) n := by
  intro i hi
  show (sMend (L i) 3).toInt ≤ 9999
  unfold sMend
  split
  · exact h i hi
  · rw [sAnew_3]
    decide
theorem wLe_ks {L : Nat → Nat → Int32} {n : Nat} (h : wLe L n) (st : Nat → Int32) (hr : Int32) : ∀ k, wLe (sKs L n st hr k) n
  | 0 => h
  | k + 1 => wLe_hour (wLe_mend (wLe_ks h st hr k)) st _
theorem c_keeps (h : wRow M 1 n L st hr) {a : Nat} (ha : a ≤ 200) : ∃ M', fX4_sparesTaken M 1 (nI a) = some (sSum (fun k => sBad (sKs L n st hr k) n) a, M') ∧ wOff 32 M M' := by
  obtain ⟨M1, s1, s2, s3⟩ := c_begin h
  simp only [fX4_sparesTaken, s1, Option.bind_some]
  unfold fX4_sparesTaken_11
  refine wloop_q (fun d t => ∃ j, j + d = a ∧ t.2.1 = nI j ∧ t.1 = sSum (fun k => sBad (sKs L n st hr k) n) j ∧ wRow t.2.2 32 n (sKs L n st hr j) st (sHr hr j) ∧ wOff 32 M t.2.2) (fun o => ∃ M', o = some (sSum (fun k => sBad (sKs L n st hr k) n) a, M') ∧ wOff 32 M M') ?_ wfuel a (0, 0, M1) ⟨0, by omega, rfl, rfl, s2, s3⟩ (wfuel_lt (by omega))
  rintro rec d ⟨x, y, M2⟩ ⟨j, hj, rfl, rfl, hR, hO⟩
  dsimp only at hR hO ⊢
  unfold fX4_sparesTaken_11_b
  by_cases q : j < a
  · right
    obtain ⟨M3, t1, t2, t3⟩ := c_mendAll hR
    obtain ⟨M4, u1, u2, u3⟩ := c_hour t2
    refine ⟨d - 1, (sSum (fun k => sBad (sKs L n st hr k) n) (j + 1), nI (j + 1), M4), by omega, ⟨j + 1, by omega, rfl, rfl, u2, (hO.tr t3).tr u3⟩, ?_⟩
    rw [if_neg (nI_ge q (by omega)), t1]
    simp only [wlet_eq, u1, Option.bind_some, wpr, nI_1]
    rfl
  · left
    have e : j = a := by omega
    subst e
    rw [if_pos (nI_le (Nat.le_refl _) (by omega))]
    exact ⟨M2, rfl, hO⟩
theorem m_keeps (h : wMod M n L st hr) (hok : wLe L n) {a : Nat} (ha : a ≤ 200) : ∃ M', ((fX10_passesAll M 1 1).bind fun M6 => fX10_keeps_30 M6 (nI a) 0 0) = some (sSum (fun k => sBad (sKs L n st hr k) n) a, M') ∧ wKm M M' := by
  obtain ⟨M1, s1, s2, s3⟩ := m_begin h
  have hn := h.1
  simp only [s1, Option.bind_some]
  unfold fX10_keeps_30
  refine wloop_q (fun d t => ∃ j, j + d = a ∧ t.2.1 = nI j ∧ t.1 = sSum (fun k => sBad (sKs L n st hr k) n) j ∧ wMod t.2.2 n (sKs L n st hr j) st (sHr hr j) ∧ wFn M1 t.2.2) (fun o => ∃ M', o = some (sSum (fun k => sBad (sKs L n st hr k) n) a, M') ∧ wKm M M') ?_ wfuel a (0, 0, M1) ⟨0, by omega, rfl, rfl, s3, wFn.rf M1⟩ (wfuel_lt (by omega))
  rintro rec d ⟨x, y, M2⟩ ⟨j, hj, rfl, rfl, hR, hF⟩
  dsimp only at hR hF ⊢
  unfold fX10_keeps_30_b
  by_cases q : j < a
  · right
    rw [if_neg (nI_ge q (by omega))]
    -- the inner loop
    have inner : ∃ M4, wMod M4 n (sKs L n st hr (j + 1)) st (sHr hr (j + 1)) ∧ wFn M1 M4 ∧ fX10_keeps_39 M2 rec (nI a) (sSum (fun k => sBad (sKs L n st hr k) n) j) (nI j) 0 = rec (sSum (fun k => sBad (sKs L n st hr k) n) (j + 1), nI (j + 1), M4) := by
      unfold fX10_keeps_39
      refine wloop_q (fun e t => ∃ i, i + e = n ∧ t.2.1 = nI i ∧ t.1 = sSum (fun k => sBad (sKs L n st hr k) n) j + sBad (sKs L n st hr j) i ∧ wMod t.2.2 n (sMix (sKs L n st hr j) (fun i => sMend (sKs L n st hr j i)) i) st (sHr hr j) ∧ wFn M1 t.2.2) (fun o => ∃ M4, wMod M4 n (sKs L n st hr (j + 1)) st (sHr hr (j + 1)) ∧ wFn M1 M4 ∧ o = rec (sSum (fun k => sBad (sKs L n st hr k) n) (j + 1), nI (j + 1), M4)) ?_ wfuel n (sSum (fun k => sBad (sKs L n st hr k) n) j, 0, M2) ⟨0, by omega, rfl, (i_add0 _).symm, by rw [sMix_0]; exact hR, hF⟩ (wfuel_lt (by omega))
      rintro rec2 e ⟨x2, y2, M5⟩ ⟨i, hi, rfl, rfl, hQ, hF5⟩
      dsimp only at hQ hF5 ⊢
      unfold fX10_keeps_39_b
      by_cases q2 : i < n
      · right
        have mi : sMix (sKs L n st hr j) (fun i => sMend (sKs L n st hr j i)) i i = sKs L n st hr j i := sMix_ge (Nat.lt_irrefl i)
        have hmix : ∀ x, x < n → x ≠ i → sMix (sKs L n st hr j) (fun i => sMend (sKs L n st hr j i)) (i + 1) x = sMix (sKs L n st hr j) (fun i => sMend (sKs L n st hr j i)) i x := fun x _ hne => by
          by_cases z : x < i
          · rw [sMix_lt z, sMix_lt (by omega)]
          · rw [sMix_ge z, sMix_ge (by omega)]
        have hnew : sMix (sKs L n st hr j) (fun i => sMend (sKs L n st hr j i)) (i + 1) i = sMend (sKs L n st hr j i) := sMix_lt (Nat.lt_succ_self i)
        have h4 := m_4 hQ q2
        rw [mi] at h4
        rw [hQ.2.1, if_neg (nI_ge q2 (by omega)), wgi_n (by omega) (by decide), nI_clamp (by omega), h4]
        simp only [fX10_keeps_70, wlet_eq, nI_1]
        by_cases z : sKs L n st hr j i 4 = 0
        · refine ⟨e - 1, (sSum (fun k => sBad (sKs L n st hr k) n) j + sBad (sKs L n st hr j) (i + 1), nI (i + 1), M5), by omega, ⟨i + 1, by omega, rfl, rfl, ?_, hF5⟩, ?_⟩
          · refine ⟨hQ.1, hQ.2.1, ?_, hQ.2.2.2⟩
            intro x hx f hf
            by_cases w : x = i
            · subst w
              rw [hnew]
              simp only [sMend, z, if_true]
              rw [← mi]
              exact hQ.2.2.1 x hx f hf
            · rw [hmix x hx w]
              exact hQ.2.2.1 x hx f hf
          · simp [z, sBad]
        · obtain ⟨M6, v1, v2, v3⟩ := m_anew (L' := sMix (sKs L n st hr j) (fun i => sMend (sKs L n st hr j i)) (i + 1)) hQ q2 (by rw [hnew, mi]; simp [sMend, z]) hmix
          refine ⟨e - 1, (sSum (fun k => sBad (sKs L n st hr k) n) j + sBad (sKs L n st hr j) (i + 1), nI (i + 1), M6), by omega, ⟨i + 1, by omega, rfl, rfl, v2, hF5.tr v3.n⟩, ?_⟩
          rw [if_neg z, v1, Option.bind_some]
          simp only [sBad, if_neg z, Int32.add_assoc]
      · left
        have e2 : i = n := by omega
        subst e2
        have hQ2 : wMod M5 i (fun x => sMend (sKs L i st hr j x)) st (sHr hr j) := ⟨hQ.1, hQ.2.1, fun x hx f hf => by rw [hQ.2.2.1 x hx f hf, sMix_lt hx], hQ.2.2.2⟩
        obtain ⟨M6, v1, v2, v3⟩ := m_hour hQ2 (wLe_mend (wLe_ks hok st hr j))
        refine ⟨M6, v2, hF5.tr v3.n, ?_⟩
        rw [hQ.2.1, if_pos (nI_le (Nat.le_refl _) (by omega)), v1]
        simp only [Option.bind_some, wpr, wlet_eq, nI_1]
        rfl
    obtain ⟨M4, u1, u2, u3⟩ := inner
    exact ⟨d - 1, (sSum (fun k => sBad (sKs L n st hr k) n) (j + 1), nI (j + 1), M4), by omega, ⟨j + 1, by omega, rfl, rfl, u1, u2⟩, u3⟩
  · left
    have e : j = a := by omega
    subst e
    obtain ⟨M9, z1, z2⟩ := m_end s2 hF
    rw [if_pos (nI_le (Nat.le_refl _) (by omega)), z1]
    exact ⟨M9, rfl, z2⟩
end
