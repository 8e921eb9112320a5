/-! part 37: the call of a string -/
theorem sF_bd {A : Nat → Int32} {t p : Nat} (ht : t ≤ 64) : ∀ d k, sF A t d k = (false, p) → p ≤ 74
  | 0, k, h => by cases h
  | d + 1, k, h => by
    rw [sF_s] at h
    by_cases q : t ≤ sQ A t k
    · rw [if_pos q] at h
      by_cases z : k = 0
      · rw [if_pos z] at h
        cases h
        omega
      · rw [if_neg z] at h
        cases h
    · rw [if_neg q] at h
      by_cases z : sOkS A t k = true
      · rw [if_pos z] at h
        exact sF_bd ht d (k + 1) h
      · rw [if_neg z] at h
        have e : (sStm A t (sQ A t k)).1.2 = p := congrArg Prod.snd h
        have := sStm_le A t (sQ A t k)
        omega
theorem neg_lt {c p : Nat} (hc : c ≤ 5000) (hc0 : 0 < c) (hp : p ≤ 1000) : nI 0 - nI c - nI p < 0 := by
  have e : nI 0 - nI c - nI p = nI 0 - nI (c + p) := by
    rw [← nI_add, Int32.sub_eq_add_neg, Int32.sub_eq_add_neg, Int32.sub_eq_add_neg, Int32.neg_add, Int32.add_assoc, ← Int32.sub_eq_add_neg]
  rw [e]
  exact pk_sneg (by omega) (by omega)
section
variable {M : wMem} {n : Nat} {L : Nat → Nat → Int32} {st : Nat → Int32} {hr : Int32} {t : Nat} {A R : Nat → Int32} {c : Nat} {p a : Nat → Nat} {o : wKt}
theorem k_string (hI : wI M n L st hr t A R c p a o) : wAns (fun M => fX9_string M) (fun M => fX10_string M) M := by
  have ht := hI.2.2.2.1.1
  have hA := hI.2.2.2.1.2
  have lt : wLt M t A := ⟨ht, hI.1.2.1.1, hI.1.2.1.2⟩
  obtain ⟨M3, u1, u2⟩ := c_form lt
  have u2' : ∀ b, b ≠ 49 → M3 b = M b := fun b hb => funext (fun j => u2 b j hb)
  have row3 : wRow M3 1 n L st hr := wRow_keep hI.1.1 (fun b _ _ => u2' b (by omega))
  have okA : wOkA 0 A := ⟨by omega, fun i hi => by omega⟩
  -- the class's cells behind it
  have fc : ∀ (M9 : wMem) (w : wRw), (∀ b, (b < 1 ∨ 16 ≤ b) → (b < 32 ∨ 47 ≤ b) → b ≠ 49 → M9 b = M b) → wRow M9 1 w.1 w.2.1 w.2.2 hr → wCa (wup M9 47 1 0) w.1 w.2.1 w.2.2 hr 0 A R c p a o ∧ wHi M (wup M9 47 1 0) := by
    intro M9 w e h1
    have h := hI.1
    exact ⟨⟨wRow_keep h1 (fun b h1 h2 => wup_cell (by omega)), ⟨wup_same _ _ _ _, fun i hi => by omega⟩, fun j hj => by rw [wup_cell (by decide), e 69 (by omega) (by omega) (by omega)]; exact h.2.2.1 j hj, wTold_keep h.2.2.2.1 (by rw [wup_cell (by decide), e 50 (by omega) (by omega) (by omega)]) (by rw [wup_cell (by decide), e 51 (by omega) (by omega) (by omega)]) (by rw [wup_cell (by decide), e 52 (by omega) (by omega) (by omega)]), wCo_keep h.2.2.2.2 (by rw [wup_cell (by decide), e 0 (by omega) (by omega) (by omega)]) (fun b _ _ => by rw [wup_cell (by omega)]; exact e b (by omega) (by omega) (by omega))⟩, fun b hb => by rw [wup_cell (by omega)]; exact e b (by omega) (by omega) (by omega)⟩
  -- the model's, when all is read
  have fm : ∀ M1, wMa M1 n L st hr t A R c p a o → ∃ M7, fX10_string M1 = fX10_string_60 M7 (wb (sF A t 30 0).1) ∧ wMa (wup M7 70 13 0) n L st hr 0 A R c p a o ∧ wLo M1 (wup M7 70 13 0) ∧ ((sF A t 30 0).1 = true → M7 70 15 = nI (sF A t 30 0).2 ∧ wNt M7 A t (sF A t 30 0).2) ∧ ((sF A t 30 0).1 = false → M7 70 14 = nI (sF A t 30 0).2) := by
    intro M1 h
    obtain ⟨Ma, hMa⟩ : ∃ Ma, Ma = wup (wup M1 70 14 0) 70 15 0 := ⟨_, rfl⟩
    have ab : ∀ b, b ≠ 70 → Ma b = M1 b := fun b hb => by rw [hMa, wup_cell hb, wup_cell hb]
    have as : ∀ j, j ≠ 14 → j ≠ 15 → Ma 70 j = M1 70 j := fun j h1 h2 => by rw [hMa, wup_slot h2, wup_slot h1]
    have la : wLm Ma t A := ⟨ht, by rw [as 13 (by decide) (by decide)]; exact h.2.1.1, fun i hi => by rw [ab 78 (by decide)]; exact h.2.1.2 i hi⟩
    obtain ⟨M7, v1, v2, v3, v4⟩ := m_form la (by rw [hMa, wup_slot (by decide), wup_same]) (by rw [hMa, wup_same])
    have eb : ∀ b, b ≠ 70 → b ≠ 79 → b ≠ 80 → b ≠ 81 → wup M7 70 13 0 b = M1 b := fun b h1 h2 h3 h4 => by rw [wup_cell h1, v2.1 b h1 h2 h3 h4, ab b h1]
    have es : ∀ j, j ≠ 13 → j ≠ 14 → j ≠ 15 → wup M7 70 13 0 70 j = M1 70 j := fun j h1 h2 h3 => by rw [wup_slot h1, v2.2 j h2 h3, as j h2 h3]
    refine ⟨M7, ?_, ⟨⟨h.1.1, by rw [es 7 (by omega) (by omega) (by omega)]; exact h.1.2.1, fun i hi f hf => by rw [eb _ (by omega) (by omega) (by omega) (by omega)]; exact h.1.2.2.1 i hi f hf, fun j hj => by rw [eb _ (by omega) (by omega) (by omega) (by omega)]; exact h.1.2.2.2.1 j hj, by rw [es 8 (by omega) (by omega) (by omega)]; exact h.1.2.2.2.2⟩, ⟨wup_same _ _ _ _, fun i hi => by omega⟩, fun j hj => by rw [eb 71 (by omega) (by omega) (by omega) (by omega)]; exact h.2.2.1 j hj, wToldM_keep h.2.2.2.1 (es 28 (by omega) (by omega) (by omega)) (eb 89 (by omega) (by omega) (by omega) (by omega)) (eb 90 (by omega) (by omega) (by omega) (by omega)), wMo_keep h.2.2.2.2 (es 17 (by omega) (by omega) (by omega)) (fun j hj => by rw [eb 82 (by omega) (by omega) (by omega) (by omega)])⟩, fun b hb => eb b (by omega) (by omega) (by omega) (by omega), v3, v4⟩
    unfold fX10_string
    rw [wlet_eq, wlet_eq, ← hMa, v1]
  rcases hG : sF A t 30 0 with ⟨ok, N⟩
  rw [hG] at u1 fm
  cases ok with
  | false =>
    have hp := sF_bd ht 30 0 hG
    have u1' : fX9_formOfLetters M = some (-1000 - nI N, M3) := u1
    have gneg : -1000 - nI N < 0 := neg_lt (c := 1000) (by omega) (by omega) (by omega)
    refine wAns_go (n' := n) (L' := L) (st' := st) (hr' := hr) (t' := 0) (A' := A) (R' := R) (c' := c) (p' := p) (a' := a) (o' := o) hI (-1000 - nI N) ⟨hI.2.2.1, okA, hI.2.2.2.2⟩ ⟨wup M3 47 1 0, ?_, fc M3 (n, L, st) (fun b h1 h2 h3 => u2' b h3) row3⟩ (fun M1 h1 => ?_)
    · show fX9_string M = _
      unfold fX9_string fX9_string_44
      rw [u1', Option.bind_some, wpr_e, if_pos gneg, wlet_eq]
    · obtain ⟨M7, v1, v2, v3, v4, v5⟩ := fm M1 h1
      refine ⟨wup M7 70 13 0, ?_, v2, v3⟩
      show fX10_string M1 = _
      rw [v1]
      unfold fX10_string_60
      rw [wlet_eq, if_pos wb_fa, wup_slot (by decide), v5 rfl]
  | true =>
    obtain ⟨g1, g2, g3⟩ := sF_true ht 30 0 (by omega) (fun j hj => by omega) hG
    have hg : wGd A t N := ⟨ht, hA, g2, g3⟩
    have hN := hg.n
    have u1' : fX9_formOfLetters M = some (nI N, M3) := u1
    have gneg : ¬ nI N < 0 := nI_pos (by omega)
    obtain ⟨M8, w1, w2, w3⟩ := c_begin row3
    have lt8 : wLt M8 t A := ⟨ht, by rw [w3 47 (by omega), u2' 47 (by omega)]; exact lt.2.1, fun i hi => by rw [w3 48 (by omega), u2' 48 (by omega)]; exact lt.2.2 i hi⟩
    obtain ⟨M9, x1, x2, x3⟩ := c_takeL lt8 w2 hg
    have e9 : ∀ b, (b < 32 ∨ 47 ≤ b) → b ≠ 49 → M9 b = M b := fun b h1 h2 => by rw [x2 b h1 h2, w3 b (by omega), u2' b h2]
    rcases hS : sG A t (n, L, st) N 0 with _ | k
    · rw [hS] at x1 x3
      have x1' : fX9_takeLetters M8 32 = some (0, M9) := x1
      obtain ⟨M10, y1, y2, y3⟩ := c_copy (k := 1) (x3 rfl) (by omega)
      have hok : ∀ k, k ≤ N → (sW A t (n, L, st) k).1 ≤ 12 ∧ wOkR (sW A t (n, L, st) k).1 (sW A t (n, L, st) k).2.1 (sW A t (n, L, st) k).2.2 hr := by
        intro k
        induction k with
        | zero => exact fun _ => ⟨hI.1.1.1, hI.2.2.1⟩
        | succ k ih =>
          intro hk
          obtain ⟨i1, i2⟩ := ih (by omega)
          have hz : (sTk (sW A t (n, L, st) k) (sLet A t (sQ A t k)) (sStm A t (sQ A t k)).2).1 = true := sG_none N 0 hS k (by omega) (by omega)
          refine ⟨?_, sTk_ok i1 i2 (sStm_val hA _) hz⟩
          rw [sW_s]
          unfold sTk
          split
          · split <;> exact i1
          · split
            · split <;> exact i1
            · split
              · split
                · rename_i q
                  show (sW A t (n, L, st) k).1 + 1 ≤ 12
                  have := q.2.2.2
                  omega
                · exact i1
              · split
                · split <;> exact i1
                · exact i1
      refine wAns_go (n' := (sW A t (n, L, st) N).1) (L' := (sW A t (n, L, st) N).2.1) (st' := (sW A t (n, L, st) N).2.2) (hr' := hr) (t' := 0) (A' := A) (R' := R) (c' := c) (p' := p) (a' := a) (o' := o) hI (nI N) ⟨(hok N (Nat.le_refl N)).2, okA, hI.2.2.2.2⟩ ⟨wup M10 47 1 0, ?_, fc M10 (sW A t (n, L, st) N) (fun b h1 h2 h3 => by rw [y3 b (by omega)]; exact e9 b h2 h3) y2⟩ (fun M1 h1 => ?_)
      · show fX9_string M = _
        unfold fX9_string fX9_string_44
        rw [u1', Option.bind_some, wpr_e, if_neg gneg, w1, Option.bind_some, x1', Option.bind_some, wpr_e, if_pos (by decide), y1, Option.bind_some, wlet_eq]
      · obtain ⟨M7, v1, v2, v3, v4, v5⟩ := fm M1 h1
        obtain ⟨Mb, z1, z2, z3⟩ := m_begin v2.1
        obtain ⟨v6, v7⟩ := v4 rfl
        have eb : ∀ b, b ≠ 70 → b ≠ 82 → Mb b = M7 b := fun b h1 h2 => by rw [z2.2.2.2.2.2.2 b h1 h2, wup_cell h1]
        have nt : wNt Mb A t N := fun j hj => by
          obtain ⟨n1, n2, n3⟩ := v7 j hj
          exact ⟨by rw [eb 79 (by decide) (by decide)]; exact n1, by rw [eb 80 (by decide) (by decide)]; exact n2, wVm_off n3 (fun i _ => by rw [eb 81 (by decide) (by decide)])⟩
        have e15 : Mb 70 15 = nI N := by
          rw [z2.2.2.2.2.2.1 15 (by decide) (by decide), wup_slot (by decide)]
          exact v6
        obtain ⟨Mc, q1, q2, q3⟩ := (m_take86 z2 z3 e15 nt hg).1 hS
        refine ⟨Mc, ?_, ?_, fun b hb => by rw [q3.1 b (by omega), z2.2.2.2.2.2.2 b (by omega) (by omega)]; exact v3 b hb⟩
        · show fX10_string M1 = _
          rw [v1]
          unfold fX10_string_60
          rw [wlet_eq, if_neg wb_tn, z1, Option.bind_some, q1]
        · have h := v2
          have cb : ∀ b, (b < 70 ∨ b = 71 ∨ 77 < b) → b ≠ 82 → Mc b = wup M7 70 13 0 b := fun b h1 h2 => by rw [q3.1 b h1]; exact z2.2.2.2.2.2.2 b (by omega) h2
          have cs : ∀ j, j ≠ 7 → j ≠ 18 → j ≠ 19 → Mc 70 j = wup M7 70 13 0 70 j := fun j h1 h2 h3 => by rw [q3.2 j h1]; exact z2.2.2.2.2.2.1 j h2 h3
          exact ⟨q2, ⟨by rw [cs 13 (by omega) (by omega) (by omega)]; exact h.2.1.1, fun i hi => by omega⟩, fun j hj => by rw [cb 71 (by omega) (by omega)]; exact h.2.2.1 j hj, wToldM_keep h.2.2.2.1 (cs 28 (by omega) (by omega) (by omega)) (cb 89 (by omega) (by omega)) (cb 90 (by omega) (by omega)), wMo_keep h.2.2.2.2 (cs 17 (by omega) (by omega) (by omega)) (fun j hj => by rw [q3.1 82 (by omega)]; exact z2.2.2.2.2.1 j (by omega))⟩
    · rw [hS] at x1 x3
      have x1' : fX9_takeLetters M8 32 = some (-2000 - nI (sQ A t k), M9) := x1
      have hk := sG_some N 0 hS
      have hq := (g3 k (by omega)).2
      have gneg2 : ¬ 0 ≤ -2000 - nI (sQ A t k) := Int32.not_le.mpr (neg_lt (c := 2000) (by omega) (by omega) (by omega))
      refine wAns_go (n' := n) (L' := L) (st' := st) (hr' := hr) (t' := 0) (A' := A) (R' := R) (c' := c) (p' := p) (a' := a) (o' := o) hI (-2000 - nI (sQ A t k)) ⟨hI.2.2.1, okA, hI.2.2.2.2⟩ ⟨wup M9 47 1 0, ?_, fc M9 (n, L, st) (fun b h1 h2 h3 => e9 b h2 h3) (wRow_keep hI.1.1 (fun b _ _ => e9 b (by omega) (by omega)))⟩ (fun M1 h1 => ?_)
      · show fX9_string M = _
        unfold fX9_string fX9_string_44
        rw [u1', Option.bind_some, wpr_e, if_neg gneg, w1, Option.bind_some, x1', Option.bind_some, wpr_e, if_neg gneg2, wlet_eq]
      · obtain ⟨M7, v1, v2, v3, v4, v5⟩ := fm M1 h1
        obtain ⟨Mb, z1, z2, z3⟩ := m_begin v2.1
        obtain ⟨v6, v7⟩ := v4 rfl
        have eb : ∀ b, b ≠ 70 → b ≠ 82 → Mb b = M7 b := fun b h1 h2 => by rw [z2.2.2.2.2.2.2 b h1 h2, wup_cell h1]
        have nt : wNt Mb A t N := fun j hj => by
          obtain ⟨n1, n2, n3⟩ := v7 j hj
          exact ⟨by rw [eb 79 (by decide) (by decide)]; exact n1, by rw [eb 80 (by decide) (by decide)]; exact n2, wVm_off n3 (fun i _ => by rw [eb 81 (by decide) (by decide)])⟩
        have e15 : Mb 70 15 = nI N := by
          rw [z2.2.2.2.2.2.1 15 (by decide) (by decide), wup_slot (by decide)]
          exact v6
        obtain ⟨Mc, q1, q2⟩ := (m_take86 z2 z3 e15 nt hg).2 k hS
        refine ⟨Mc, ?_, v2.keep q2, fun b hb => by rw [q2.lo b hb]; exact v3 b hb⟩
        show fX10_string M1 = _
        rw [v1]
        unfold fX10_string_60
        rw [wlet_eq, if_neg wb_tn, z1, Option.bind_some, q1]
end
