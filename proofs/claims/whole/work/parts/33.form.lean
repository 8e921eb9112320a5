/-! part 33: all statements of the letters -/
theorem sNm_ok {A : Nat → Int32} {t m : Nat} {b : Bool × Nat} (h : (sNm A t m b).2.1 = true) : b.1 = true ∧ b.2 + 1 ≤ (sNm A t m b).2.2 := by
  have h1 := sNm_le A t m b
  unfold sNm at h h1 ⊢
  by_cases q : b.1 = true
  · rw [if_pos q] at h h1 ⊢
    have h2 : (sRd A t m b.2 0).2 ≠ b.2 := of_decide_eq_true h
    have h3 : b.2 ≤ (sRd A t m b.2 0).2 := h1.1
    exact ⟨q, by show b.2 + 1 ≤ (sRd A t m b.2 0).2; omega⟩
  · rw [if_neg q] at h
    exact (Bool.false_ne_true h).elim
theorem sSg_ok {A : Nat → Int32} {t : Nat} {ch : Int32} {b : Bool × Nat} (h : (sSg A t ch b).1 = true) (hc : ¬ ch = -1) : b.1 = true ∧ b.2 < t ∧ (sSg A t ch b).2 = b.2 + 1 := by
  unfold sSg at h ⊢
  by_cases q : b.1 = true ∧ sLet A t b.2 = ch
  · rw [if_pos q]
    refine ⟨q.1, ?_, rfl⟩
    have q2 := q.2
    unfold sLet at q2
    by_cases z : b.2 < t
    · exact z
    · rw [if_neg z] at q2
      exact absurd q2.symm hc
  · rw [if_neg q] at h
    exact (Bool.false_ne_true h).elim
theorem sStm_ok {A : Nat → Int32} {t q : Nat} (h : (sStm A t q).1.1 = true) : q + 3 ≤ (sStm A t q).1.2 ∧ (sStm A t q).1.2 ≤ t := by
  unfold sStm at h ⊢
  by_cases k1 : sLet A t q = 100
  · rw [if_pos k1] at h ⊢
    obtain ⟨a1, a2, a3⟩ := sSg_ok h (by decide)
    have b1 := sNm_ok a1
    have b2 := sSg_ok b1.1 (by decide)
    have b3 := (sNm_ok b2.1).2
    have e : (true, q + 1).2 = q + 1 := rfl
    have := b1.2
    have := b2.2.2
    exact ⟨by show _ ≤ (sSg A t 59 _).2; omega, by show (sSg A t 59 _).2 ≤ t; omega⟩
  rw [if_neg k1] at h ⊢
  by_cases k2 : sLet A t q = 103
  · rw [if_pos k2] at h ⊢
    obtain ⟨a1, a2, a3⟩ := sSg_ok h (by decide)
    have b1 := (sNm_ok a1).2
    have e : (true, q + 1).2 = q + 1 := rfl
    exact ⟨by show _ ≤ (sSg A t 59 _).2; omega, by show (sSg A t 59 _).2 ≤ t; omega⟩
  rw [if_neg k2] at h ⊢
  by_cases k3 : sLet A t q = 112
  · rw [if_pos k3] at h ⊢
    obtain ⟨a1, a2, a3⟩ := sSg_ok h (by decide)
    have b1 := sNm_ok a1
    have b2 := sSg_ok b1.1 (by decide)
    have b3 := sNm_ok b2.1
    have b4 := (sNm_ok b3.1).2
    have e : (true, q + 1).2 = q + 1 := rfl
    have := b1.2
    have := b2.2.2
    have := b3.2
    exact ⟨by show _ ≤ (sSg A t 59 _).2; omega, by show (sSg A t 59 _).2 ≤ t; omega⟩
  rw [if_neg k3] at h ⊢
  by_cases k4 : sLet A t q = 117
  · rw [if_pos k4] at h ⊢
    obtain ⟨a1, a2, a3⟩ := sSg_ok h (by decide)
    have b1 := (sNm_ok a1).2
    have e : (true, q + 1).2 = q + 1 := rfl
    exact ⟨by show _ ≤ (sSg A t 59 _).2; omega, by show (sSg A t 59 _).2 ≤ t; omega⟩
  rw [if_neg k4] at h
  exact (Bool.false_ne_true h).elim
theorem sStm_le (A : Nat → Int32) (t q : Nat) : (sStm A t q).1.2 ≤ q + 10 := by
  have e : (true, q + 1).2 = q + 1 := rfl
  unfold sStm
  by_cases k1 : sLet A t q = 100
  · rw [if_pos k1]
    have n1 := sNm_le A t 2 (true, q + 1)
    have n2 := sSg_le A t 44 (sNm A t 2 (true, q + 1)).2
    have n3 := sNm_le A t 1 (sSg A t 44 (sNm A t 2 (true, q + 1)).2)
    have n4 := sSg_le A t 59 (sNm A t 1 (sSg A t 44 (sNm A t 2 (true, q + 1)).2)).2
    show (sSg A t 59 _).2 ≤ _
    omega
  rw [if_neg k1]
  by_cases k2 : sLet A t q = 103
  · rw [if_pos k2]
    have n1 := sNm_le A t 1 (true, q + 1)
    have n2 := sSg_le A t 59 (sNm A t 1 (true, q + 1)).2
    show (sSg A t 59 _).2 ≤ _
    omega
  rw [if_neg k2]
  by_cases k3 : sLet A t q = 112
  · rw [if_pos k3]
    have n1 := sNm_le A t 1 (true, q + 1)
    have n2 := sNm_le A t 2 (sNm A t 1 (true, q + 1)).2
    have n3 := sSg_le A t 44 (sNm A t 2 (sNm A t 1 (true, q + 1)).2).2
    have n4 := sNm_le A t 1 (sSg A t 44 (sNm A t 2 (sNm A t 1 (true, q + 1)).2).2)
    have n5 := sSg_le A t 59 (sNm A t 1 (sSg A t 44 (sNm A t 2 (sNm A t 1 (true, q + 1)).2).2)).2
    show (sSg A t 59 _).2 ≤ _
    omega
  rw [if_neg k3]
  by_cases k4 : sLet A t q = 117
  · rw [if_pos k4]
    have n1 := sNm_le A t 3 (true, q + 1)
    have n2 := sSg_le A t 59 (sNm A t 3 (true, q + 1)).2
    show (sSg A t 59 _).2 ≤ _
    omega
  rw [if_neg k4]
  show q ≤ _
  omega
def sQ (A : Nat → Int32) (t : Nat) : Nat → Nat
  | 0 => 0
  | k + 1 => (sStm A t (sQ A t k)).1.2
def sOkS (A : Nat → Int32) (t k : Nat) : Bool := (sStm A t (sQ A t k)).1.1
theorem sQ_s (A : Nat → Int32) (t k : Nat) : sQ A t (k + 1) = (sStm A t (sQ A t k)).1.2 := rfl
theorem sQ_ok {A : Nat → Int32} {t : Nat} : ∀ k, (∀ j, j < k → sOkS A t j = true) → 3 * k ≤ sQ A t k ∧ sQ A t k ≤ t
  | 0, _ => ⟨Nat.le_refl _, Nat.zero_le _⟩
  | k + 1, h => by
    have h1 := sQ_ok k (fun j hj => h j (by omega))
    have h2 := sStm_ok (h k (by omega))
    rw [sQ_s]
    omega
def sF (A : Nat → Int32) (t : Nat) : Nat → Nat → Bool × Nat
  | 0, k => (true, k)
  | d + 1, k => if t ≤ sQ A t k then (if k = 0 then (false, 0) else (true, k)) else if sOkS A t k = true then sF A t d (k + 1) else (false, (sStm A t (sQ A t k)).1.2)
theorem sF_s (A : Nat → Int32) (t d k : Nat) : sF A t (d + 1) k = if t ≤ sQ A t k then (if k = 0 then (false, 0) else (true, k)) else if sOkS A t k = true then sF A t d (k + 1) else (false, (sStm A t (sQ A t k)).1.2) := rfl
theorem sF_true {A : Nat → Int32} {t : Nat} (ht : t ≤ 64) {N : Nat} : ∀ d k, k + d = 30 → (∀ j, j < k → sOkS A t j = true ∧ sQ A t j < t) → sF A t d k = (true, N) → 1 ≤ N ∧ t ≤ sQ A t N ∧ ∀ j, j < N → sOkS A t j = true ∧ sQ A t j < t
  | 0, k, hk, hg, h => by
    have := sQ_ok k (fun j hj => (hg j hj).1)
    omega
  | d + 1, k, hk, hg, h => by
    rw [sF_s] at h
    by_cases q : t ≤ sQ A t k
    · rw [if_pos q] at h
      by_cases z : k = 0
      · rw [if_pos z] at h
        cases h
      · rw [if_neg z] at h
        cases h
        exact ⟨by omega, q, hg⟩
    · rw [if_neg q] at h
      by_cases z : sOkS A t k = true
      · rw [if_pos z] at h
        refine sF_true ht d (k + 1) (by omega) (fun j hj => ?_) h
        by_cases y : j = k
        · subst y
          exact ⟨z, by omega⟩
        · exact hg j (by omega)
      · rw [if_neg z] at h
        cases h
def sFr (b : Bool × Nat) : Int32 := if b.1 = true then nI b.2 else -1000 - nI b.2
section
variable {M : wMem} {t : Nat} {A : Nat → Int32}
theorem c_form (h : wLt M t A) : ∃ M', fX9_formOfLetters M = some (sFr (sF A t 30 0), M') ∧ ∀ b j, b ≠ 49 → M' b j = M b j := by
  have ht := h.1
  obtain ⟨G, hG⟩ : ∃ G, G = sF A t 30 0 := ⟨_, rfl⟩
  rw [← hG]
  unfold fX9_formOfLetters fX9_formOfLetters_4
  refine wloop_q (fun d s => ∃ k, k + d = 30 ∧ s.1 = nI (sQ A t k) ∧ s.2.1 = nI k ∧ (∀ j, j < k → sOkS A t j = true) ∧ (∀ b j, b ≠ 49 → s.2.2 b j = M b j) ∧ G = sF A t d k) (fun o => ∃ M' : wMem, o = some (sFr (G), M') ∧ ∀ b j, b ≠ 49 → M' b j = M b j) ?_ wfuel 30 (0, 0, M) ⟨0, by omega, rfl, rfl, fun j hj => by omega, fun _ _ _ => rfl, hG⟩ (wfuel_lt (by omega))
  rintro rec d ⟨x, y, M2⟩ ⟨k, hk, rfl, rfl, hg, hO, hs⟩
  dsimp only at hO ⊢
  have hq := sQ_ok k hg
  obtain ⟨d', rfl⟩ : ∃ d', d = d' + 1 := ⟨d - 1, by omega⟩
  rw [sF_s] at hs
  have e47 : M2 47 1 = nI t := (hO 47 1 (by decide)).trans h.2.1
  have l2 : wLt M2 t A := ⟨ht, e47, fun i hi => (hO 48 i (by decide)).trans (h.2.2 i hi)⟩
  unfold fX9_formOfLetters_4_b fX9_formOfLetters_63
  rw [e47]
  by_cases q : t ≤ sQ A t k
  · left
    rw [if_pos (nI_le q (by omega))]
    rw [if_pos q] at hs
    by_cases z : k = 0
    · rw [if_pos z] at hs
      refine ⟨M2, ?_, hO⟩
      rw [hs, z, if_pos (show nI 0 = 0 from rfl)]
      rfl
    · rw [if_neg z] at hs
      refine ⟨M2, ?_, hO⟩
      have g0 : ¬ nI k = 0 := fun y => z ((nI_eq (b := 0) (by omega) (by decide)).mp y)
      rw [hs, if_neg g0]
      rfl
  · have g64 : ¬ (64 : Int32) ≤ nI k := nI_ge (show k < 64 by omega) (by decide)
    rw [if_neg q] at hs
    obtain ⟨M3, u1, u2, u3, u4, u5⟩ := c_read l2 (q := sQ A t k) (by omega)
    rw [if_neg (nI_ge (by omega) (by omega)), if_neg g64, u1, Option.bind_some, wlet_eq, u2.1, u2.2]
    by_cases z : sOkS A t k = true
    · right
      rw [if_pos z] at hs
      have z' : (sStm A t (sQ A t k)).1.1 = true := z
      refine ⟨d', (nI (sQ A t (k + 1)), nI (k + 1), M3), by omega, ⟨k + 1, by omega, rfl, rfl, fun j hj => ?_, fun b j hb => (u5 b j hb).trans (hO b j hb), hs⟩, ?_⟩
      · by_cases y : j = k
        · rw [y]
          exact z
        · exact hg j (by omega)
      · rw [z', if_neg wb_tn, wlet_eq, nI_1]
        rfl
    · left
      rw [if_neg z] at hs
      have z' : (sStm A t (sQ A t k)).1.1 = false := by
        have : ¬ (sStm A t (sQ A t k)).1.1 = true := z
        simpa using this
      refine ⟨M3, ?_, fun b j hb => (u5 b j hb).trans (hO b j hb)⟩
      rw [z', if_pos wb_fa, hs]
      rfl
/-- what the model has written down of the first k statements -/
def wNt (M : wMem) (A : Nat → Int32) (t k : Nat) : Prop := ∀ j, j < k → M 79 j = sLet A t (sQ A t j) ∧ M 80 j = nI (sQ A t j) ∧ wVm M j (sLet A t (sQ A t j)) (sStm A t (sQ A t j)).2
/-- off what reading changes -/
def wOrd (M M' : wMem) : Prop := (∀ b, b ≠ 70 → b ≠ 79 → b ≠ 80 → b ≠ 81 → M' b = M b) ∧ ∀ j, j ≠ 14 → j ≠ 15 → M' 70 j = M 70 j
theorem wOst.rd {s : Nat} {M0 M' : wMem} (h0 : wOrd M0 M) (h : wOst s M M') : wOrd M0 M' := ⟨fun b h1 h2 h3 h4 => by
    rw [← h0.1 b h1 h2 h3 h4]
    funext j
    exact h b j (by omega) (by omega) (by omega) (by omega), fun j h1 h2 => (h 70 j (by omega) (by omega) (by omega) (by omega)).trans (h0.2 j h1 h2)⟩
theorem wOrd.up {M0 : wMem} (h0 : wOrd M0 M) (x : Int32) : wOrd M0 (wup M 70 15 x) := ⟨fun b h1 h2 h3 h4 => by rw [wup_cell h1]; exact h0.1 b h1 h2 h3 h4, fun j h1 h2 => by rw [wup_slot h2]; exact h0.2 j h1 h2⟩
theorem wOrd.lm {M' : wMem} (e : wOrd M M') (h : wLm M t A) : wLm M' t A := ⟨h.1, by rw [e.2 13 (by omega) (by omega)]; exact h.2.1, fun i hi => by rw [e.1 78 (by omega) (by omega) (by omega) (by omega)]; exact h.2.2 i hi⟩
theorem wVm_off {M' : wMem} {s : Nat} {k : Int32} {v : Int32 × Int32 × Int32} (h : wVm M s k v) (e : ∀ i, i < 3 → M' 81 (3 * s + i) = M 81 (3 * s + i)) : wVm M' s k v := ⟨fun z => (e 0 (by omega)).trans (h.1 z), fun z => (e 1 (by omega)).trans (h.2.1 z), fun z => (e 2 (by omega)).trans (h.2.2 z)⟩
theorem m_form (h : wLm M t A) (h14 : M 70 14 = 0) (h15 : M 70 15 = 0) : ∃ M', fX10_string_12 M 1 = fX10_string_60 M' (wb (sF A t 30 0).1) ∧ wOrd M M' ∧ ((sF A t 30 0).1 = true → M' 70 15 = nI (sF A t 30 0).2 ∧ wNt M' A t (sF A t 30 0).2) ∧ ((sF A t 30 0).1 = false → M' 70 14 = nI (sF A t 30 0).2) := by
  have ht := h.1
  obtain ⟨G, hG⟩ : ∃ G, G = sF A t 30 0 := ⟨_, rfl⟩
  rw [← hG]
  unfold fX10_string_12
  refine wloop_q (fun e s => (∃ k d, e = d + 1 ∧ k + d = 30 ∧ s.1 = 1 ∧ s.2 70 14 = nI (sQ A t k) ∧ s.2 70 15 = nI k ∧ (∀ j, j < k → sOkS A t j = true) ∧ wOrd M s.2 ∧ wNt s.2 A t k ∧ G = sF A t d k) ∨ (e = 0 ∧ s.1 = 0 ∧ (G).1 = false ∧ s.2 70 14 = nI (G).2 ∧ wOrd M s.2)) (fun o => ∃ M', o = fX10_string_60 M' (wb (G).1) ∧ wOrd M M' ∧ ((G).1 = true → M' 70 15 = nI (G).2 ∧ wNt M' A t (G).2) ∧ ((G).1 = false → M' 70 14 = nI (G).2)) ?_ wfuel 31 (1, M) (Or.inl ⟨0, 30, rfl, by omega, rfl, h14, h15, fun j hj => by omega, ⟨fun _ _ _ _ _ => rfl, fun _ _ _ => rfl⟩, fun j hj => by omega, hG⟩) (wfuel_lt (by omega))
  rintro rec e ⟨x, M2⟩ (⟨k, d, rfl, hk, rfl, g14, g15, hg, hO, hN, hs⟩ | ⟨rfl, rfl, f1, f2, f3⟩)
  · dsimp only at g14 g15 hO hN ⊢
    have hq := sQ_ok k hg
    obtain ⟨d', rfl⟩ : ∃ d', d = d' + 1 := ⟨d - 1, by omega⟩
    have l2 := hO.lm h
    have step : fX10_string_12_b M2 rec 1 = fX10_string_34 M2 rec → (t ≤ sQ A t k → k = 0) → (∃ M', fX10_string_12_b M2 rec 1 = fX10_string_60 M' (wb (G).1) ∧ wOrd M M' ∧ ((G).1 = true → M' 70 15 = nI (G).2 ∧ wNt M' A t (G).2) ∧ ((G).1 = false → M' 70 14 = nI (G).2)) ∨ ∃ d'' s', d'' < d' + 1 + 1 ∧ ((∃ k d, d'' = d + 1 ∧ k + d = 30 ∧ s'.1 = 1 ∧ s'.2 70 14 = nI (sQ A t k) ∧ s'.2 70 15 = nI k ∧ (∀ j, j < k → sOkS A t j = true) ∧ wOrd M s'.2 ∧ wNt s'.2 A t k ∧ G = sF A t d k) ∨ (d'' = 0 ∧ s'.1 = 0 ∧ (G).1 = false ∧ s'.2 70 14 = nI (G).2 ∧ wOrd M s'.2)) ∧ fX10_string_12_b M2 rec 1 = rec s' := by
      intro hb h0
      right
      rw [hb]
      obtain ⟨M3, u1, u2, u3, u4⟩ := m_stm l2 (q := sQ A t k) (s := k) (by omega) (by omega) g14 g15
      have v15 : M3 70 15 = nI k := (u4 70 15 (by omega) (by omega) (by omega) (by omega)).trans g15
      rw [sF_s] at hs
      unfold fX10_string_34 fX10_string_53
      by_cases z : sOkS A t k = true
      · have z' : (sStm A t (sQ A t k)).1.1 = true := z
        have hlt : ¬ t ≤ sQ A t k := fun y => by
          have := sStm_ok z'
          omega
        rw [if_neg hlt, if_pos z] at hs
        obtain ⟨w1, w2, w3⟩ := u3 z'
        have c1 : ∀ j, j < k + 1 → wup M3 70 15 (nI (k + 1)) 79 j = sLet A t (sQ A t j) ∧ wup M3 70 15 (nI (k + 1)) 80 j = nI (sQ A t j) ∧ wVm (wup M3 70 15 (nI (k + 1))) j (sLet A t (sQ A t j)) (sStm A t (sQ A t j)).2 := by
          intro j hj
          rw [wup_cell (by decide), wup_cell (by decide)]
          by_cases y : j = k
          · rw [y]
            exact ⟨w1, w2, wVm_off w3 (fun i _ => by rw [wup_cell (by decide)])⟩
          · obtain ⟨n1, n2, n3⟩ := hN j (by omega)
            exact ⟨(u4 79 j (by omega) (by omega) (by omega) (by omega)).trans n1, (u4 80 j (by omega) (by omega) (by omega) (by omega)).trans n2, wVm_off n3 (fun i hi => by rw [wup_cell (by decide)]; exact u4 81 _ (by omega) (by omega) (by omega) (by omega))⟩
        have c2 : wup M3 70 15 (nI (k + 1)) 70 15 = nI (k + 1) := wup_same _ _ _ _
        refine ⟨d' + 1, (1, wup M3 70 15 (nI (k + 1))), by omega, Or.inl ⟨k + 1, d', rfl, by omega, rfl, ?_, c2, fun j hj => ?_, (wOst.rd hO u4).up _, c1, hs⟩, ?_⟩
        · show wup M3 70 15 (nI (k + 1)) 70 14 = _
          rw [wup_slot (by decide)]
          exact u2
        · by_cases y : j = k
          · rw [y]
            exact z
          · exact hg j (by omega)
        · rw [u1, Option.bind_some, wpr_e, wlet_eq, z', if_neg wb_tn, wlet_eq, v15, nI_1]
          rfl
      · have z' : (sStm A t (sQ A t k)).1.1 = false := by
          have : ¬ (sStm A t (sQ A t k)).1.1 = true := z
          simpa using this
        have hs2 : G = (false, (sStm A t (sQ A t k)).1.2) := by
          by_cases y : t ≤ sQ A t k
          · have k0 := h0 y
            rw [if_pos y, if_pos k0] at hs
            have y0 : t = 0 := by
              rw [k0] at hq y
              have : sQ A t 0 = 0 := rfl
              omega
            have e2 : (sStm A t (sQ A t k)).1.2 = 0 := by
              rw [k0, y0]
              rfl
            rw [hs, e2]
          · rw [if_neg y, if_neg z] at hs
            exact hs
        refine ⟨0, (0, wup M3 70 15 (nI k)), by omega, Or.inr ⟨rfl, rfl, by rw [hs2], ?_, (wOst.rd hO u4).up _⟩, ?_⟩
        · show wup M3 70 15 (nI k) 70 14 = _
          rw [wup_slot (by decide), hs2]
          exact u2
        · rw [u1, Option.bind_some, wpr_e, wlet_eq, z', if_pos wb_fa, wlet_eq, v15, i_add0]
          rfl
    by_cases q : t ≤ sQ A t k
    · by_cases z : k = 0
      · refine step ?_ (fun _ => z)
        unfold fX10_string_12_b
        rw [if_neg (show ¬ (1 : Int32) = 0 by decide), g14, l2.2.1, if_neg (nI_nlt q (by omega)), g15, if_pos (by rw [z]; rfl)]
      · left
        rw [sF_s, if_pos q, if_neg z] at hs
        have g0 : ¬ nI k = 0 := fun y => z ((nI_eq (b := 0) (by omega) (by decide)).mp y)
        refine ⟨M2, ?_, hO, fun _ => (by rw [hs]; exact ⟨g15, hN⟩), fun y => (by rw [hs] at y; cases y)⟩
        unfold fX10_string_12_b
        rw [if_neg (show ¬ (1 : Int32) = 0 by decide), g14, l2.2.1, if_neg (nI_nlt q (by omega)), g15, if_neg g0, hs]
        rfl
    · refine step ?_ (fun y => absurd y q)
      unfold fX10_string_12_b
      rw [if_neg (show ¬ (1 : Int32) = 0 by decide), g14, l2.2.1, if_pos (nI_lt (by omega) (by omega))]
  · left
    dsimp only at f2 f3 ⊢
    refine ⟨M2, ?_, f3, fun y => (by rw [f1] at y; cases y), fun _ => f2⟩
    unfold fX10_string_12_b
    rw [if_pos rfl, f1]
    rfl
end
