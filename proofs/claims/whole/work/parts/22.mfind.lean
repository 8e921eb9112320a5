/-! part 22: the model's table of stretches -/
def wPu (M : wMem) (a a2 x : Nat) (c : Int32) (p : Nat) (f : Bool) : wMem := if f = true ∨ ¬ (M a x ≤ c) then wup (wup M a x c) a2 x (nI p) else M
def sNb (c : Int32) (p : Nat) (f : Bool) (b : Int32 × Nat) : Int32 × Nat := if f = true ∨ c < b.1 then (c, p) else b
theorem wPu_p {M : wMem} {a a2 x p : Nat} {c : Int32} {f : Bool} (h : f = true ∨ ¬ (M a x ≤ c)) : wPu M a a2 x c p f = wup (wup M a x c) a2 x (nI p) := if_pos h
theorem wPu_n {M : wMem} {a a2 x p : Nat} {c : Int32} {f : Bool} (h : ¬ (f = true ∨ ¬ (M a x ≤ c))) : wPu M a a2 x c p f = M := if_neg h
theorem wPu_off {M : wMem} {a a2 x p b : Nat} {c : Int32} {f : Bool} (h1 : b ≠ a) (h2 : b ≠ a2) : wPu M a a2 x c p f b = M b := by
  unfold wPu
  split
  · rw [wup_cell h2, wup_cell h1]
  · rfl
theorem wPu_slot {M : wMem} {a a2 x p b j : Nat} {c : Int32} {f : Bool} (h : j ≠ x) : wPu M a a2 x c p f b j = M b j := by
  unfold wPu
  split
  · rw [wup_slot h, wup_slot h]
  · rfl
theorem wPu_at {M : wMem} {a a2 x p : Nat} {c : Int32} {f : Bool} {b : Int32 × Nat} (ha : a ≠ a2) (h : f = false → M a x = b.1 ∧ M a2 x = nI b.2) : wPu M a a2 x c p f a x = (sNb c p f b).1 ∧ wPu M a a2 x c p f a2 x = nI (sNb c p f b).2 := by
  have t : wup (wup M a x c) a2 x (nI p) a x = c ∧ wup (wup M a x c) a2 x (nI p) a2 x = nI p := ⟨by rw [wup_cell ha, wup_same], wup_same _ _ _ _⟩
  unfold sNb
  by_cases q : f = true ∨ c < b.1
  · rw [if_pos q]
    rcases q with q | q
    · rw [wPu_p (Or.inl q)]
      exact t
    · cases f with
      | true =>
        rw [wPu_p (Or.inl rfl)]
        exact t
      | false =>
        rw [wPu_p (Or.inr (by rw [(h rfl).1]; exact Int32.not_le.mpr q))]
        exact t
  · rw [if_neg q]
    cases f with
    | true => exact absurd (Or.inl rfl) q
    | false =>
      rw [wPu_n (fun z => z.elim (by decide) (fun y => y (by rw [(h rfl).1]; exact Int32.not_lt.mp (fun r => q (Or.inr r)))))]
      exact h rfl
theorem m_155 {M : wMem} {rec : Int32 × wMem → Option wMem} {i p x : Nat} {c y2 y4 : Int32} (hp : p < 2 ^ 31) (hi : i + 1 < 2 ^ 31) (hx : x < 144) : fX10_findStretch_155 M rec (nI i) y2 (nI x) y4 (nI p) c = rec (nI (p + 1), wPu M 85 87 x c p (decide (p = i + 1))) := by
  unfold fX10_findStretch_155 fX10_findStretch_174 fX10_findStretch_190
  simp only [wgi_n hx (show 144 < 2 ^ 31 by decide), nI_clamp (show x < 2 ^ 31 by omega), wlet_eq, nI_1]
  by_cases q : p = i + 1
  · rw [if_pos (show nI p = nI (i + 1) by rw [q]), wPu_p (Or.inl (decide_eq_true q))]
  · rw [if_neg (fun z => q ((nI_eq hp hi).mp z))]
    by_cases z : M 85 x ≤ c
    · rw [if_pos z, wPu_n (fun y => y.elim (fun y => q (of_decide_eq_true y)) (fun y => y z))]
    · rw [if_neg z, wPu_p (Or.inr z)]
theorem m_117 {M : wMem} {rec : Int32 × wMem → Option wMem} {i p x : Nat} {c y2 y4 z0 z1 : Int32} (hp : p < 2 ^ 31) (hi : i + 1 < 2 ^ 31) (hx : x < 144) : fX10_findStretch_117 M rec (nI i) y2 (nI x) y4 (nI p) c z0 z1 = rec (nI (p + 1), wPu (wPu M 84 86 x c p (decide (p = i + 1))) 85 87 x (z0 + z1) p (decide (p = i + 1))) := by
  unfold fX10_findStretch_117 fX10_findStretch_139
  simp only [wgi_n hx (show 144 < 2 ^ 31 by decide), nI_clamp (show x < 2 ^ 31 by omega), wlet_eq, nI_1, m_155 hp hi hx]
  by_cases q : p = i + 1
  · rw [if_pos (show nI p = nI (i + 1) by rw [q]), wPu_p (M := M) (Or.inl (decide_eq_true q))]
  · rw [if_neg (fun z => q ((nI_eq hp hi).mp z))]
    by_cases z : M 84 x ≤ c
    · rw [if_pos z, wPu_n (M := M) (fun y => y.elim (fun y => q (of_decide_eq_true y)) (fun y => y z))]
    · rw [if_neg z, wPu_p (M := M) (Or.inr z)]
theorem sNb_t (c : Int32) (p : Nat) (b : Int32 × Nat) : sNb c p true b = (c, p) := if_pos (Or.inl rfl)
theorem sNb_f (c : Int32) (p : Nat) (b : Int32 × Nat) : sNb c p false b = if c < b.1 then (c, p) else b := by
  unfold sNb
  simp
theorem sR_step {w : Bool} {L : Nat → Nat → Int32} {i d p e : Nat} {b : Int32 × Nat} (hp : p + (e + 1) = i + d + 2) (hp1 : i + 1 ≤ p) (hB : i + 1 < p → sR w (sT w L) L i (d + 1) = sRun (sC w (sT w L) L i (d + 1)) p b (e + 1)) : sR w (sT w L) L i (d + 1) = sRun (sC w (sT w L) L i (d + 1)) (p + 1) (sNb (sC w (sT w L) L i (d + 1) p) p (decide (p = i + 1)) b) e := by
  by_cases q : p = i + 1
  · have z : e = d := by omega
    rw [decide_eq_true q, sNb_t, z, q]
    rfl
  · rw [decide_eq_false q, sNb_f, hB (by omega), sRun_s]
/-- off the model's table of stretches -/
def wOffF (M M' : wMem) : Prop := ∀ b, (b < 84 ∨ 87 < b) → M' b = M b
theorem wOffF.rf (M : wMem) : wOffF M M := fun _ _ => rfl
theorem wOffF.tr {M M' M'' : wMem} (h : wOffF M M') (h2 : wOffF M' M'') : wOffF M M'' := fun b hb => (h2 b hb).trans (h b hb)
section
variable {M : wMem} {k n : Nat} {L : Nat → Nat → Int32} {st : Nat → Int32} {hr : Int32}
theorem wOffF.mod {M' : wMem} (ho : wOffF M M') (h : wMod M n L st hr) : wMod M' n L st hr := 
  ⟨h.1, by rw [ho 70 (by omega)]; exact h.2.1, fun i hi f hf => by rw [ho _ (by omega)]; exact h.2.2.1 i hi f hf, fun j hj => by rw [ho _ (by omega)]; exact h.2.2.2.1 j hj, by rw [ho 70 (by omega)]; exact h.2.2.2.2⟩
def wTm (L : Nat → Nat → Int32) (M : wMem) (i d : Nat) : Prop := (M 84 (12 * i + (i + d)) = sT true L d i ∧ M 86 (12 * i + (i + d)) = (if d = 0 then -9 else nI (sAt true L d i))) ∧ (M 85 (12 * i + (i + d)) = sT false L d i ∧ M 87 (12 * i + (i + d)) = (if d = 0 then -9 else nI (sAt false L d i)))
theorem wTm_off {M' : wMem} {i d : Nat} (h : wTm L M i d) (e : ∀ b, M' b (12 * i + (i + d)) = M b (12 * i + (i + d))) : wTm L M' i d :=
  ⟨⟨(e _).trans h.1.1, (e _).trans h.1.2⟩, (e _).trans h.2.1, (e _).trans h.2.2⟩
theorem m_stretch (h : wMod M n L st hr) {i d : Nat} (hd : i + (d + 1) < n) (hT : ∀ j e, j + e < n → e ≤ d → wTm L M j e) : ∃ M2, fX10_findStretch M (nI i) (nI (i + (d + 1))) = some M2 ∧ wOffF M M2 ∧ (∀ b j, j ≠ 12 * i + (i + (d + 1)) → M2 b j = M b j) ∧ wTm L M2 i (d + 1) := by
  have hn := h.1
  have hw : fX10_weightOf M (nI i) (nI (i + (d + 1))) = some (sWeight L i 0 (d + 1 + 1)) := m_weight h (i := i) (d := d + 1 + 1) (by omega) (by omega)
  obtain ⟨x, hx⟩ : ∃ x, x = 12 * i + (i + (d + 1)) := ⟨_, rfl⟩
  have ex : 12 * nI i + nI (i + (d + 1)) = nI x := by
    show nI 12 * nI i + nI (i + (d + 1)) = nI x
    rw [pk_mul, nI_add, hx]
  unfold fX10_findStretch
  rw [wlet_eq, hw, Option.bind_some, wlet_eq, ex, nI_1, ← hx]
  unfold fX10_findStretch_20
  refine wloop_q (fun e t => ∃ p bt bf, p + e = i + d + 2 ∧ i + 1 ≤ p ∧ t.1 = nI p ∧ wOffF M t.2 ∧ (∀ b j, j ≠ x → t.2 b j = M b j) ∧ (i + 1 < p → (t.2 84 x = bt.1 ∧ t.2 86 x = nI bt.2) ∧ (t.2 85 x = bf.1 ∧ t.2 87 x = nI bf.2) ∧ sR true (sT true L) L i (d + 1) = sRun (sC true (sT true L) L i (d + 1)) p bt e ∧ sR false (sT false L) L i (d + 1) = sRun (sC false (sT false L) L i (d + 1)) p bf e)) (fun o => ∃ M2, o = some M2 ∧ wOffF M M2 ∧ (∀ b j, j ≠ x → M2 b j = M b j) ∧ wTm L M2 i (d + 1)) ?_ wfuel (d + 1) (nI (i + 1), M) ⟨i + 1, (0, 0), (0, 0), by omega, by omega, rfl, fun _ _ => rfl, fun _ _ _ => rfl, fun q => by omega⟩ (wfuel_lt (by omega))
  rintro rec e ⟨y, M2⟩ ⟨p, bt, bf, hp, hp1, rfl, hO, hS, hB⟩
  dsimp only at hO hS hB ⊢
  unfold fX10_findStretch_20_b
  by_cases q : e = 0
  · left
    subst q
    obtain ⟨⟨a1, a2⟩, ⟨a3, a4⟩, a5, a6⟩ := hB (by omega)
    have b1 : sR true (sT true L) L i (d + 1) = bt := a5
    have b2 : sR false (sT false L) L i (d + 1) = bf := a6
    rw [if_pos (nI_lt (by omega) (by omega))]
    refine ⟨M2, rfl, hO, hS, ⟨?_, ?_⟩, ?_, ?_⟩
    · rw [← hx, a1, sT_s, b1]
    · rw [← hx, a2, if_neg (show ¬ d + 1 = 0 by omega)]
      unfold sAt
      rw [b1]
    · rw [← hx, a3, sT_s, b2]
    · rw [← hx, a4, if_neg (show ¬ d + 1 = 0 by omega)]
      unfold sAt
      rw [b2]
  · right
    obtain ⟨e', rfl⟩ : ∃ e', e = e' + 1 := ⟨e - 1, by omega⟩
    obtain ⟨x1, hx1⟩ : ∃ x1, x1 = 12 * i + (i + (p - 1 - i)) := ⟨_, rfl⟩
    obtain ⟨x2, hx2⟩ : ∃ x2, x2 = 12 * p + (p + (i + (d + 1) - p)) := ⟨_, rfl⟩
    have e1 : 12 * nI i + nI p - 1 = nI x1 := by
      show nI 12 * nI i + nI p - nI 1 = _
      rw [pk_mul, nI_add, pk_sub (by omega)]
      congr 1
      omega
    have e2 : 12 * nI p + nI (i + (d + 1)) = nI x2 := by
      show nI 12 * nI p + nI (i + (d + 1)) = _
      rw [pk_mul, nI_add]
      congr 1
      omega
    obtain ⟨⟨t1, _⟩, t2, _⟩ := hT i (p - 1 - i) (by omega) (by omega)
    obtain ⟨⟨t3, _⟩, t4, _⟩ := hT p (i + (d + 1) - p) (by omega) (by omega)
    rw [← hx1] at t1 t2
    rw [← hx2] at t3 t4
    have r1 := (hS 84 x1 (by omega)).trans t1
    have r2 := (hS 85 x1 (by omega)).trans t2
    have r3 := (hS 84 x2 (by omega)).trans t3
    have r4 := (hS 85 x2 (by omega)).trans t4
    have hm : M2 74 p = L p 2 := (congrFun (hO 74 (by omega)) p).trans (h.2.2.1 p (by omega) 2 (by decide))
    have cT : sC true (sT true L) L i (d + 1) p = L p 2 * sWeight L i 0 (d + 1 + 1) + sT true L (p - 1 - i) i + sT true L (i + (d + 1) - p) p := if_pos rfl
    have cF : sC false (sT false L) L i (d + 1) p = L p 2 + sMax (sT false L (p - 1 - i) i) (sT false L (i + (d + 1) - p) p) := if_neg (by decide)
    obtain ⟨M3, hM3⟩ : ∃ M3, M3 = wPu (wPu M2 84 86 x (sC true (sT true L) L i (d + 1) p) p (decide (p = i + 1))) 85 87 x (sC false (sT false L) L i (d + 1) p) p (decide (p = i + 1)) := ⟨_, rfl⟩
    have k1 : wOffF M M3 := fun b hb => by rw [hM3, wPu_off (by omega) (by omega), wPu_off (by omega) (by omega)]; exact hO b hb
    have k2 : ∀ b j, j ≠ x → M3 b j = M b j := fun b j hj => by rw [hM3, wPu_slot hj, wPu_slot hj]; exact hS b j hj
    have fp : decide (p = i + 1) = false → i + 1 < p := fun z => by
      have := of_decide_eq_false z
      omega
    have k3 := wPu_at (M := M2) (a := 84) (a2 := 86) (x := x) (p := p) (c := sC true (sT true L) L i (d + 1) p) (f := decide (p = i + 1)) (b := bt) (by decide) (fun z => (hB (fp z)).1)
    have k4 := wPu_at (M := wPu M2 84 86 x (sC true (sT true L) L i (d + 1) p) p (decide (p = i + 1))) (a := 85) (a2 := 87) (x := x) (p := p) (c := sC false (sT false L) L i (d + 1) p) (f := decide (p = i + 1)) (b := bf) (by decide) (fun z => by rw [wPu_off (by decide) (by decide), wPu_off (by decide) (by decide)]; exact (hB (fp z)).2.1)
    rw [← hM3] at k4
    have k5 : M3 84 x = (sNb (sC true (sT true L) L i (d + 1) p) p (decide (p = i + 1)) bt).1 ∧ M3 86 x = nI (sNb (sC true (sT true L) L i (d + 1) p) p (decide (p = i + 1)) bt).2 := by
      rw [hM3, wPu_off (by decide) (by decide), wPu_off (b := 86) (by decide) (by decide)]
      exact k3
    have k6 := sR_step (b := bt) hp hp1 (fun z => (hB z).2.2.1)
    have k7 := sR_step (b := bf) hp hp1 (fun z => (hB z).2.2.2)
    refine ⟨e', (nI (p + 1), M3), by omega, ⟨p + 1, _, _, by omega, by omega, rfl, k1, k2, fun _ => ⟨k5, k4, k6, k7⟩⟩, ?_⟩
    rw [if_neg (nI_nlt (by omega) (by omega)), hM3, cT, cF]
    simp only [e1, e2, wgi_n (show p < 12 by omega) (show 12 < 2 ^ 31 by decide), wgi_n (show x1 < 144 by omega) (show 144 < 2 ^ 31 by decide), wgi_n (show x2 < 144 by omega) (show 144 < 2 ^ 31 by decide), nI_clamp (show p < 2 ^ 31 by omega), nI_clamp (show x1 < 2 ^ 31 by omega), nI_clamp (show x2 < 2 ^ 31 by omega), wlet_eq, r1, r2, r3, r4, hm, m_117 (show p < 2 ^ 31 by omega) (show i + 1 < 2 ^ 31 by omega) (show x < 144 by omega), sMax_le]
    split <;> rfl
theorem m_70 (h : wMod M n L st hr) {d : Nat} (hd : d + 1 < n) {M1 : wMem} (ho : wOffF M M1) (hT : ∀ j e, j + e < n → e ≤ d → wTm L M1 j e) (rec : Int32 × wMem → Option wMem) : ∃ M2, wOffF M M2 ∧ (∀ j e, j + e < n → e ≤ d + 1 → wTm L M2 j e) ∧ fX10_findStretches_70 M1 rec (nI (d + 1)) 0 = rec (nI (d + 1 + 1), M2) := by
  have hn := h.1
  unfold fX10_findStretches_70
  refine wloop_q (fun e t => ∃ i, i + e = n - (d + 1) ∧ t.1 = nI i ∧ wOffF M t.2 ∧ (∀ j e, j + e < n → e ≤ d → wTm L t.2 j e) ∧ ∀ j, j < i → wTm L t.2 j (d + 1)) (fun o => ∃ M2, wOffF M M2 ∧ (∀ j e, j + e < n → e ≤ d + 1 → wTm L M2 j e) ∧ o = rec (nI (d + 1 + 1), M2)) ?_ wfuel (n - (d + 1)) (0, M1) ⟨0, by omega, rfl, ho, hT, fun j hj => by omega⟩ (wfuel_lt (by omega))
  rintro rec2 e ⟨y, M2⟩ ⟨i, hi, rfl, hO, hA, hB⟩
  dsimp only at hO hA hB ⊢
  have hm : M2 70 7 = nI n := (hO.mod h).2.1
  unfold fX10_findStretches_70_b
  rw [nI_add, hm]
  by_cases q : n ≤ i + (d + 1)
  · left
    refine ⟨M2, hO, fun j f h1 h2 => ?_, by rw [if_pos (nI_le q (by omega)), wlet_eq, nI_1]⟩
    by_cases z : f = d + 1
    · subst z
      exact hB j (by omega)
    · exact hA j f h1 (by omega)
  · right
    obtain ⟨M3, u1, u2, u3, u4⟩ := m_stretch (hO.mod h) (show i + (d + 1) < n by omega) hA
    have c1 : ∀ j, j < i + 1 → wTm L M3 j (d + 1) := fun j hj => by
      by_cases z : j = i
      · rw [z]
        exact u4
      · exact wTm_off (hB j (by omega)) (fun b => u3 b _ (by omega))
    have c2 : ∀ j f, j + f < n → f ≤ d → wTm L M3 j f := fun j f h1 h2 => wTm_off (hA j f h1 h2) (fun b => u3 b _ (by omega))
    exact ⟨e - 1, (nI (i + 1), M3), by omega, ⟨i + 1, by omega, rfl, hO.tr u2, c2, c1⟩, by rw [if_neg (nI_ge (by omega) (by omega)), u1, Option.bind_some, wlet_eq, nI_1]⟩
theorem m_stretches (h : wMod M n L st hr) : ∃ M2, fX10_findStretches M = some M2 ∧ wOffF M M2 ∧ ∀ j e, j + e < n → wTm L M2 j e := by
  have hn := h.1
  have long : ∀ M1 : wMem, wOffF M M1 → (∀ j, j < n → wTm L M1 j 0) → ∃ M2, fX10_findStretches_60 M1 1 = some M2 ∧ wOffF M M2 ∧ ∀ j e, j + e < n → wTm L M2 j e := by
    intro M1 ho hz
    unfold fX10_findStretches_60
    refine wloop_q (fun e t => ∃ d, d + 1 + e = n + 1 ∧ t.1 = nI (d + 1) ∧ wOffF M t.2 ∧ ∀ j f, j + f < n → f ≤ d → wTm L t.2 j f) (fun o => ∃ M2, o = some M2 ∧ wOffF M M2 ∧ ∀ j e, j + e < n → wTm L M2 j e) ?_ wfuel n (1, M1) ⟨0, by omega, rfl, ho, fun j f h1 h2 => by
      have : f = 0 := by omega
      subst this
      exact hz j (by omega)⟩ (wfuel_lt (by omega))
    rintro rec e ⟨y, M2⟩ ⟨d, hd, rfl, hO, hA⟩
    dsimp only at hO hA ⊢
    have hm : M2 70 7 = nI n := (hO.mod h).2.1
    unfold fX10_findStretches_60_b
    rw [hm]
    by_cases q : n ≤ d + 1
    · left
      rw [if_pos (nI_le q (by omega))]
      exact ⟨M2, rfl, hO, fun j f h1 => hA j f h1 (by omega)⟩
    · right
      obtain ⟨M3, u1, u2, u3⟩ := m_70 h (show d + 1 < n by omega) hO hA rec
      exact ⟨e - 1, (nI (d + 1 + 1), M3), by omega, ⟨d + 1, by omega, rfl, u1, u2⟩, by rw [if_neg (nI_ge (by omega) (by omega)), u3]⟩
  unfold fX10_findStretches fX10_findStretches_2
  refine wloop_q (fun e t => ∃ i, i + e = n ∧ t.1 = nI i ∧ wOffF M t.2 ∧ ∀ j, j < i → wTm L t.2 j 0) (fun o => ∃ M2, o = some M2 ∧ wOffF M M2 ∧ ∀ j e, j + e < n → wTm L M2 j e) ?_ wfuel n (0, M) ⟨0, by omega, rfl, wOffF.rf M, fun j hj => by omega⟩ (wfuel_lt (by omega))
  rintro rec e ⟨y, M2⟩ ⟨i, hi, rfl, hO, hA⟩
  dsimp only at hO hA ⊢
  have hm : M2 70 7 = nI n := (hO.mod h).2.1
  unfold fX10_findStretches_2_b
  rw [hm]
  by_cases q : n ≤ i
  · left
    rw [if_pos (nI_le q (by omega))]
    exact long M2 hO (fun j hj => hA j (by omega))
  · right
    have e1 : 13 * nI i = nI (13 * i) := pk_mul 13 i
    obtain ⟨M3, hM3⟩ : ∃ M3, M3 = wup (wup (wup (wup M2 84 (13 * i) 0) 85 (13 * i) 0) 86 (13 * i) (-9)) 87 (13 * i) (-9) := ⟨_, rfl⟩
    have c1 : wOffF M M3 := fun b hb => by rw [hM3, wup_cell (by omega), wup_cell (by omega), wup_cell (by omega), wup_cell (by omega)]; exact hO b hb
    have c2 : ∀ j, j < i + 1 → wTm L M3 j 0 := fun j hj => by
      by_cases z : j = i
      · have ez : 12 * j + (j + 0) = 13 * i := by omega
        unfold wTm
        rw [ez, hM3, sT_0, sT_0, if_pos rfl, if_pos rfl]
        refine ⟨⟨?_, ?_⟩, ?_, ?_⟩
        · rw [wup_cell (by decide), wup_cell (by decide), wup_cell (by decide), wup_same]
        · rw [wup_cell (by decide), wup_same]
        · rw [wup_cell (by decide), wup_cell (by decide), wup_same]
        · rw [wup_same]
      · refine wTm_off (hA j (by omega)) (fun b => ?_)
        rw [hM3, wup_slot (by omega), wup_slot (by omega), wup_slot (by omega), wup_slot (by omega)]
    refine ⟨e - 1, (nI (i + 1), M3), by omega, ⟨i + 1, by omega, rfl, c1, c2⟩, ?_⟩
    rw [if_neg (nI_ge (by omega) (by omega)), hM3]
    simp only [e1, wgi_n (show 13 * i < 144 by omega) (show 144 < 2 ^ 31 by decide), nI_clamp (show 13 * i < 2 ^ 31 by omega), wlet_eq, nI_1]
end
