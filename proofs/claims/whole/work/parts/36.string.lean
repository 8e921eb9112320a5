/-! part 36: a string of letters -/
def sW (A : Nat → Int32) (t : Nat) (w0 : wRw) : Nat → wRw
  | 0 => w0
  | k + 1 => (sTk (sW A t w0 k) (sLet A t (sQ A t k)) (sStm A t (sQ A t k)).2).2
theorem sW_s (A : Nat → Int32) (t : Nat) (w0 : wRw) (k : Nat) : sW A t w0 (k + 1) = (sTk (sW A t w0 k) (sLet A t (sQ A t k)) (sStm A t (sQ A t k)).2).2 := rfl
def sOkT (A : Nat → Int32) (t : Nat) (w0 : wRw) (k : Nat) : Bool := (sTk (sW A t w0 k) (sLet A t (sQ A t k)) (sStm A t (sQ A t k)).2).1
def sG (A : Nat → Int32) (t : Nat) (w0 : wRw) : Nat → Nat → Option Nat
  | 0, _ => none
  | d + 1, k => if sOkT A t w0 k = true then sG A t w0 d (k + 1) else some k
theorem sG_s (A : Nat → Int32) (t : Nat) (w0 : wRw) (d k : Nat) : sG A t w0 (d + 1) k = if sOkT A t w0 k = true then sG A t w0 d (k + 1) else some k := rfl
theorem sG_none {A : Nat → Int32} {t : Nat} {w0 : wRw} : ∀ d k, sG A t w0 d k = none → ∀ j, k ≤ j → j < k + d → sOkT A t w0 j = true
  | 0, k, _, j, h1, h2 => by omega
  | d + 1, k, h, j, h1, h2 => by
    rw [sG_s] at h
    by_cases z : sOkT A t w0 k = true
    · rw [if_pos z] at h
      by_cases y : j = k
      · rw [y]
        exact z
      · exact sG_none d (k + 1) h j (by omega) (by omega)
    · rw [if_neg z] at h
      cases h
theorem sG_some {A : Nat → Int32} {t : Nat} {w0 : wRw} {j : Nat} : ∀ d k, sG A t w0 d k = some j → k ≤ j ∧ j < k + d
  | 0, k, h => by cases h
  | d + 1, k, h => by
    rw [sG_s] at h
    by_cases z : sOkT A t w0 k = true
    · rw [if_pos z] at h
      have := sG_some d (k + 1) h
      omega
    · rw [if_neg z] at h
      cases h
      omega
def sTl (A : Nat → Int32) (t : Nat) : Option Nat → Int32
  | none => 0
  | some k => -2000 - nI (sQ A t k)
theorem sStm_kind {A : Nat → Int32} {t q : Nat} (h : (sStm A t q).1.1 = true) : sLet A t q = 100 ∨ sLet A t q = 103 ∨ sLet A t q = 112 ∨ sLet A t q = 117 := by
  unfold sStm at h
  by_cases k1 : sLet A t q = 100
  · exact Or.inl k1
  by_cases k2 : sLet A t q = 103
  · exact Or.inr (Or.inl k2)
  by_cases k3 : sLet A t q = 112
  · exact Or.inr (Or.inr (Or.inl k3))
  by_cases k4 : sLet A t q = 117
  · exact Or.inr (Or.inr (Or.inr k4))
  rw [if_neg k1, if_neg k2, if_neg k3, if_neg k4] at h
  exact (Bool.false_ne_true h).elim
theorem sTk_ok {w : wRw} {hr : Int32} {k : Int32} {v : Int32 × Int32 × Int32} (hn : w.1 ≤ 12) (h : wOkR w.1 w.2.1 w.2.2 hr) (hb : sVb k v) (hk : (sTk w k v).1 = true) : wOkR (sTk w k v).2.1 (sTk w k v).2.2.1 (sTk w k v).2.2.2 hr := by
  obtain ⟨a1, a2, a3, rfl, b1, b2, b3, b4, b5⟩ := hb
  unfold sTk at hk ⊢
  dsimp only at hk ⊢
  have pos : (0 : Int32) < nI a1 → (1 : Int32) ≤ nI a1 := fun q => by
    have : 0 < a1 := (nI_ltI (a := 0) (by decide) (by omega)).mp q
    exact nI_le (a := 1) (by omega) (by omega)
  by_cases k1 : k = 100
  · rw [if_pos k1] at hk ⊢
    by_cases q : (¬ nI a1 < 0 ∧ ¬ nI w.1 ≤ nI a1) ∧ nI a2 ≤ 3
    · rw [if_pos q]
      obtain ⟨i, hi, e⟩ := i_ix q.1.1 q.1.2 (by omega)
      have e2 : (nI a1).toNatClampNeg = i := by rw [e]; exact nI_clamp (by omega)
      refine ⟨?_, h.2⟩
      rw [e2]
      exact wOkL_at h.1 (by rw [sSet_ne (by decide)]; exact h.1 i hi)
    · rw [if_neg q] at hk
      exact (Bool.false_ne_true hk).elim
  rw [if_neg k1] at hk ⊢
  by_cases k2 : k = 103
  · rw [if_pos k2] at hk ⊢
    by_cases q : (0 : Int32) < nI a1
    · rw [if_pos q]
      have := b4 (Or.inl k2)
      exact ⟨h.1, wOkS_set h.2.1 (by decide) (pos q) (nI_le (b := 9) (by omega) (by decide)), h.2.2⟩
    · rw [if_neg q] at hk
      exact (Bool.false_ne_true hk).elim
  rw [if_neg k2] at hk ⊢
  by_cases k3 : k = 112
  · rw [if_pos k3] at hk ⊢
    by_cases q : nI a1 ≤ 5 ∧ ¬ nI a2 = 0 ∧ ¬ nI a3 = 0 ∧ w.1 < 12
    · rw [if_pos q]
      refine ⟨fun j hj => ?_, h.2⟩
      have hj' : j < w.1 + 1 := hj
      by_cases z : j = w.1
      · simp only [if_pos z]
        have : sLamp (nI a1, nI a2, nI a3) 3 = 0 := rfl
        rw [this]
        decide
      · simp only [if_neg z]
        exact h.1 j (by omega)
    · rw [if_neg q] at hk
      exact (Bool.false_ne_true hk).elim
  rw [if_neg k3] at hk ⊢
  by_cases k4 : k = 117
  · rw [if_pos k4] at hk ⊢
    by_cases q : (0 : Int32) < nI a1
    · rw [if_pos q]
      exact ⟨h.1, wOkS_set h.2.1 (by decide) (pos q) (nI_le (b := 999) (by omega) (by decide)), h.2.2⟩
    · rw [if_neg q] at hk
      exact (Bool.false_ne_true hk).elim
  rw [if_neg k4] at hk
  exact (Bool.false_ne_true hk).elim
/-- N statements, all well formed, and no letter behind them -/
def wGd (A : Nat → Int32) (t N : Nat) : Prop := t ≤ 64 ∧ (∀ i, i < t → ∃ a : Nat, a < 256 ∧ A i = nI a) ∧ t ≤ sQ A t N ∧ ∀ j, j < N → sOkS A t j = true ∧ sQ A t j < t
theorem wGd.n {A : Nat → Int32} {t N : Nat} (h : wGd A t N) : 3 * N ≤ 64 := by
  have := sQ_ok N (fun j hj => (h.2.2.2 j hj).1)
  have := h.1
  omega
section
variable {M : wMem} {n : Nat} {L : Nat → Nat → Int32} {st : Nat → Int32} {hr : Int32} {t N : Nat} {A : Nat → Int32}
theorem c_takeL (h : wLt M t A) (h1 : wRow M 32 n L st hr) (hg : wGd A t N) : ∃ M', fX9_takeLetters M 32 = some (sTl A t (sG A t (n, L, st) N 0), M') ∧ (∀ b, (b < 32 ∨ 47 ≤ b) → b ≠ 49 → M' b = M b) ∧ (sG A t (n, L, st) N 0 = none → wRow M' 32 (sW A t (n, L, st) N).1 (sW A t (n, L, st) N).2.1 (sW A t (n, L, st) N).2.2 hr) := by
  have hN := hg.n
  obtain ⟨G, hG⟩ : ∃ G, G = sG A t (n, L, st) N 0 := ⟨_, rfl⟩
  rw [← hG]
  unfold fX9_takeLetters fX9_takeLetters_4
  refine wloop_q (fun d s => ∃ k, k + d = N ∧ s.1 = nI (sQ A t k) ∧ s.2.1 = nI k ∧ (∀ b, (b < 32 ∨ 47 ≤ b) → b ≠ 49 → s.2.2 b = M b) ∧ wRow s.2.2 32 (sW A t (n, L, st) k).1 (sW A t (n, L, st) k).2.1 (sW A t (n, L, st) k).2.2 hr ∧ G = sG A t (n, L, st) d k) (fun o => ∃ M' : wMem, o = some (sTl A t G, M') ∧ (∀ b, (b < 32 ∨ 47 ≤ b) → b ≠ 49 → M' b = M b) ∧ (G = none → wRow M' 32 (sW A t (n, L, st) N).1 (sW A t (n, L, st) N).2.1 (sW A t (n, L, st) N).2.2 hr)) ?_ wfuel N (0, 0, M) ⟨0, by omega, rfl, rfl, fun _ _ _ => rfl, h1, hG⟩ (wfuel_lt (by omega))
  rintro rec d ⟨x, y, M2⟩ ⟨k, hk, rfl, rfl, hO, hR, hs⟩
  dsimp only at hO hR ⊢
  have e47 : M2 47 1 = nI t := by rw [hO 47 (by omega) (by decide)]; exact h.2.1
  have l2 : wLt M2 t A := ⟨h.1, e47, fun i hi => by rw [hO 48 (by omega) (by decide)]; exact h.2.2 i hi⟩
  have g64 : ¬ (64 : Int32) ≤ nI k := nI_ge (show k < 64 by omega) (by decide)
  have hq := sQ_ok k (fun j hj => (hg.2.2.2 j (by omega)).1)
  have ht := hg.1
  unfold fX9_takeLetters_4_b
  rw [if_neg g64, e47]
  cases d with
  | zero =>
    left
    have : k = N := by omega
    subst this
    rw [if_pos (nI_le hg.2.2.1 (by omega)), hs]
    exact ⟨M2, rfl, hO, fun _ => hR⟩
  | succ d =>
    obtain ⟨o1, o2⟩ := hg.2.2.2 k (by omega)
    have o1' : (sStm A t (sQ A t k)).1.1 = true := o1
    obtain ⟨M3, u1, u2, u3, u4, u5⟩ := c_read l2 (q := sQ A t k) (by omega)
    have r3 : wRow M3 32 (sW A t (n, L, st) k).1 (sW A t (n, L, st) k).2.1 (sW A t (n, L, st) k).2.2 hr := wRow_keep hR (fun b h1 h2 => funext (fun j => u5 b j (by omega)))
    obtain ⟨M4, v1, v2, v3⟩ := c_take r3 u3 u4 (sStm_val hg.2.1 _)
    have v1' : fX5_take M3 32 = some (sOkT A t (n, L, st) k, M4) := v1
    have oo : ∀ b, (b < 32 ∨ 47 ≤ b) → b ≠ 49 → M4 b = M b := fun b h1 h2 => by
      rw [v3 b (by omega), ← hO b h1 h2]
      exact funext (fun j => u5 b j h2)
    have e49 : M4 49 4 = nI (sQ A t (k + 1)) := by
      rw [v3 49 (by omega)]
      exact u2.1
    rw [if_neg (nI_ge o2 (by omega)), u1, Option.bind_some, v1', Option.bind_some, wpr_e]
    rw [sG_s] at hs
    by_cases z : sOkT A t (n, L, st) k = true
    · right
      rw [if_pos z] at hs
      refine ⟨d, (nI (sQ A t (k + 1)), nI (k + 1), M4), by omega, ⟨k + 1, by omega, rfl, rfl, oo, v2 z, hs⟩, ?_⟩
      rw [z, if_neg wb_tn, wlet_eq, e49, wlet_eq, nI_1]
    · left
      rw [if_neg z] at hs
      rw [show sOkT A t (n, L, st) k = false by simpa using z, if_pos wb_fa, hs]
      exact ⟨M4, rfl, oo, fun y => by cases y⟩
theorem m_take86 {M0 : wMem} (hsv : wSvA 80 M0 M) (h : wMod M n L st hr) (h15 : M 70 15 = nI N) (hnt : wNt M A t N) (hg : wGd A t N) : (sG A t (n, L, st) N 0 = none → ∃ M', fX10_string_86 M 0 = some (nI N, M') ∧ wMod M' (sW A t (n, L, st) N).1 (sW A t (n, L, st) N).2.1 (sW A t (n, L, st) N).2.2 hr ∧ wFt M M') ∧ ∀ j, sG A t (n, L, st) N 0 = some j → ∃ M', fX10_string_86 M 0 = some (-2000 - nI (sQ A t j), M') ∧ wKn M0 M' := by
  have hN := hg.n
  obtain ⟨G, hG⟩ : ∃ G, G = sG A t (n, L, st) N 0 := ⟨_, rfl⟩
  rw [← hG]
  unfold fX10_string_86
  refine wloop_q (fun d s => ∃ k, k + d = N ∧ s.1 = nI k ∧ wFt M s.2 ∧ wMod s.2 (sW A t (n, L, st) k).1 (sW A t (n, L, st) k).2.1 (sW A t (n, L, st) k).2.2 hr ∧ G = sG A t (n, L, st) d k) (fun o => (G = none → ∃ M' : wMem, o = some (nI N, M') ∧ wMod M' (sW A t (n, L, st) N).1 (sW A t (n, L, st) N).2.1 (sW A t (n, L, st) N).2.2 hr ∧ wFt M M') ∧ ∀ j, G = some j → ∃ M' : wMem, o = some (-2000 - nI (sQ A t j), M') ∧ wKn M0 M') ?_ wfuel N (0, M) ⟨0, by omega, rfl, wFt.rf M, h, hG⟩ (wfuel_lt (by omega))
  rintro rec d ⟨y, M2⟩ ⟨k, hk, rfl, hF, hR, hs⟩
  dsimp only at hF hR ⊢
  have e15 : M2 70 15 = nI N := (hF.2 15 (by decide)).trans h15
  unfold fX10_string_86_b
  rw [e15]
  cases d with
  | zero =>
    left
    have : k = N := by omega
    subst this
    rw [if_pos (nI_le (Nat.le_refl _) (by omega)), hs]
    exact ⟨fun _ => ⟨M2, rfl, hR, hF⟩, fun j hj => by cases hj⟩
  | succ d =>
    obtain ⟨o1, o2⟩ := hg.2.2.2 k (by omega)
    obtain ⟨n1, n2, n3⟩ := hnt k (by omega)
    obtain ⟨M4, v1, v2, v3⟩ := m_comes hR (s := k) (by omega) (by rw [hF.1 79 (by omega)]; exact n1) (wVm_off n3 (fun i _ => by rw [hF.1 81 (by omega)])) (sStm_val hg.2.1 _) (sStm_kind o1)
    have v1' : fX10_comes M2 (nI k) = some (sOkT A t (n, L, st) k, M4) := v1
    have f4 := hF.tr v3
    rw [if_neg (nI_ge (by omega) (by omega)), v1', Option.bind_some, wpr_e]
    rw [sG_s] at hs
    by_cases z : sOkT A t (n, L, st) k = true
    · right
      rw [if_pos z] at hs
      refine ⟨d, (nI (k + 1), M4), by omega, ⟨k + 1, by omega, rfl, f4, v2 z, hs⟩, ?_⟩
      rw [z, if_neg wb_tn, wlet_eq, nI_1]
    · left
      rw [if_neg z] at hs
      obtain ⟨M5, w1, w2⟩ := m_restAll (M := M4) (c := 80) 1 (by decide) (by omega)
      obtain ⟨s1, s2, s3, s4, s5, s6⟩ := w2
      obtain ⟨t1, t2, t3, t4, t5, t6, t7⟩ := hsv
      have e82 : M4 82 = M 82 := f4.1 82 (by omega)
      have e80 : M5 80 k = nI (sQ A t k) := by
        rw [s6 80 (by omega) (by omega), f4.1 80 (by omega)]
        exact n2
      rw [show sOkT A t (n, L, st) k = false by simpa using z, if_pos wb_fa, hs, w1, Option.bind_some, wgi_n (by omega) (by decide), nI_clamp (by omega), e80]
      refine ⟨fun y => (by cases y), fun j hj => ?_⟩
      cases hj
      refine ⟨M5, rfl, fun f hf i hi => ?_, fun j hj => ?_, fun j hj => ?_, fun j hj => ?_, fun b hb => ?_⟩
      · rw [s1 f hf i hi, e82]
        exact t1 f hf i hi
      · rw [s2 j hj, e82]
        exact t2 j hj
      · by_cases q7 : j = 7
        · rw [q7, s3, e82]
          exact t3
        · by_cases q8 : j = 8
          · rw [q8, s4, e82]
            exact t4
          · rw [s5 j q7 q8 (by omega) (by omega), f4.2 j q7]
            exact t6 j (by omega) (by omega)
      · rw [s6 82 (by omega) (by omega), e82]
        exact t5 j (by omega)
      · rw [s6 b (by omega) (by omega), f4.1 b (by omega)]
        exact t7 b (by omega) (by omega)
end
