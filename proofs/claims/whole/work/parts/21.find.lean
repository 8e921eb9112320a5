/-! part 21: where to look first: stretches, shorter ones first -/
def sMax (a b : Int32) : Int32 := if a < b then b else a
theorem sMax_le (a b : Int32) : sMax a b = if a ≤ b then b else a := by
  unfold sMax
  by_cases q : a < b
  · rw [if_pos q, if_pos (Int32.le_of_lt q)]
  · rw [if_neg q]
    by_cases z : a ≤ b
    · rw [if_pos z]
      exact Int32.le_antisymm z (Int32.not_lt.mp q)
    · rw [if_neg z]
/-- what a look at p costs, in the stretch of i and d more (w: on the mean; else at worst) -/
def sC (w : Bool) (T : Nat → Nat → Int32) (L : Nat → Nat → Int32) (i d p : Nat) : Int32 := if w = true then L p 2 * sWeight L i 0 (d + 1) + T (p - 1 - i) i + T (i + d - p) p else L p 2 + sMax (T (p - 1 - i) i) (T (i + d - p) p)
/-- the least so far, and where, from p on -/
def sRun (c : Nat → Int32) (p : Nat) (b : Int32 × Nat) : Nat → Int32 × Nat
  | 0 => b
  | e + 1 => sRun c (p + 1) (if c p < b.1 then (c p, p) else b) e
theorem sRun_s (c : Nat → Int32) (p : Nat) (b : Int32 × Nat) (e : Nat) : sRun c p b (e + 1) = sRun c (p + 1) (if c p < b.1 then (c p, p) else b) e := rfl
theorem sRun_cong {c c' : Nat → Int32} : ∀ (e p : Nat) (b : Int32 × Nat), (∀ q, p ≤ q → q < p + e → c q = c' q) → sRun c p b e = sRun c' p b e
  | 0, _, _, _ => rfl
  | e + 1, p, b, h => by
    rw [sRun_s, sRun_s, h p (by omega) (by omega)]
    exact sRun_cong e (p + 1) _ (fun q h1 h2 => h q (by omega) (by omega))
theorem sRun_first {c : Nat → Int32} {p0 : Nat} : ∀ (e p : Nat) (b : Int32 × Nat), p0 ≤ b.2 → b.2 < p → b.1 = c b.2 → (∀ q, p0 ≤ q → q < b.2 → b.1 < c q) → (∀ q, p0 ≤ q → q < p → b.1 ≤ c q) → p0 ≤ (sRun c p b e).2 ∧ (sRun c p b e).2 < p + e ∧ (sRun c p b e).1 = c (sRun c p b e).2 ∧ ∀ q, p0 ≤ q → q < (sRun c p b e).2 → (sRun c p b e).1 < c q
  | 0, p, b, h1, h2, h3, h4, _ => ⟨h1, h2, h3, h4⟩
  | e + 1, p, b, h1, h2, h3, h4, h5 => by
    rw [sRun_s]
    by_cases q : c p < b.1
    · rw [if_pos q]
      have := sRun_first (c := c) (p0 := p0) e (p + 1) (c p, p) (by show p0 ≤ p; omega) (by show p < p + 1; omega) rfl (fun r r1 r2 => by
        show c p < c r
        have h6 := h5 r r1 r2
        rw [i_lt] at q ⊢
        rw [i_le] at h6
        omega) (fun r r1 r2 => by
        show c p ≤ c r
        by_cases z : r = p
        · rw [z]
          exact Int32.le_refl _
        · have h6 := h5 r r1 (by omega)
          rw [i_lt] at q
          rw [i_le] at h6 ⊢
          omega)
      exact ⟨this.1, by have := this.2.1; omega, this.2.2⟩
    · rw [if_neg q]
      have := sRun_first (c := c) (p0 := p0) e (p + 1) b h1 (by omega) h3 h4 (fun r r1 r2 => by
        by_cases z : r = p
        · rw [z]
          exact Int32.not_lt.mp q
        · exact h5 r r1 (by omega))
      exact ⟨this.1, by have := this.2.1; omega, this.2.2⟩
def sR (w : Bool) (T : Nat → Nat → Int32) (L : Nat → Nat → Int32) (i d : Nat) : Int32 × Nat := sRun (sC w T L i d) (i + 2) (sC w T L i d (i + 1), i + 1) (d - 1)
def sTab (w : Bool) (L : Nat → Nat → Int32) : Nat → Nat → Nat → Int32
  | 0 => fun _ _ => 0
  | D + 1 => fun d i => if d = D + 1 then (sR w (sTab w L D) L i (D + 1)).1 else sTab w L D d i
def sT (w : Bool) (L : Nat → Nat → Int32) (d i : Nat) : Int32 := sTab w L d d i
theorem sTab_le (w : Bool) (L : Nat → Nat → Int32) (i : Nat) : ∀ D d, d ≤ D → sTab w L D d i = sT w L d i
  | 0, d, h => by
    have : d = 0 := by omega
    subst this
    rfl
  | D + 1, d, h => by
    by_cases q : d = D + 1
    · subst q
      rfl
    · rw [← sTab_le w L i D d (by omega)]
      show (if d = D + 1 then _ else _) = _
      rw [if_neg q]
theorem sT_s (w : Bool) (L : Nat → Nat → Int32) (i d : Nat) : sT w L (d + 1) i = (sR w (sT w L) L i (d + 1)).1 := by
  have e : ∀ q, i + 1 ≤ q → q < i + d + 2 → sC w (sTab w L d) L i (d + 1) q = sC w (sT w L) L i (d + 1) q := by
    intro q h1 h2
    unfold sC
    rw [sTab_le w L i d (q - 1 - i) (by omega), sTab_le w L q d (i + (d + 1) - q) (by omega)]
  show (if d + 1 = d + 1 then (sR w (sTab w L d) L i (d + 1)).1 else sTab w L d (d + 1) i) = _
  rw [if_pos rfl]
  unfold sR
  rw [e (i + 1) (by omega) (by omega), sRun_cong (d + 1 - 1) (i + 2) _ (fun q h1 h2 => e q (by omega) (by omega))]
theorem sT_0 (w : Bool) (L : Nat → Nat → Int32) (i : Nat) : sT w L 0 i = 0 := rfl
def sAt (w : Bool) (L : Nat → Nat → Int32) (d i : Nat) : Nat := (sR w (sT w L) L i d).2
/-- the first place with which the least is had -/
theorem sAt_spec (w : Bool) (L : Nat → Nat → Int32) (i d : Nat) : i + 1 ≤ sAt w L (d + 1) i ∧ sAt w L (d + 1) i < i + d + 2 ∧ sT w L (d + 1) i = sC w (sT w L) L i (d + 1) (sAt w L (d + 1) i) ∧ ∀ q, i + 1 ≤ q → q < sAt w L (d + 1) i → ¬ sC w (sT w L) L i (d + 1) q = sT w L (d + 1) i := by
  have h := sRun_first (c := sC w (sT w L) L i (d + 1)) (p0 := i + 1) d (i + 2) (sC w (sT w L) L i (d + 1) (i + 1), i + 1) (Nat.le_refl _) (by show i + 1 < i + 2; omega) rfl (fun q h1 h2 => by have h3 : q < i + 1 := h2; omega) (fun q h1 h2 => by
    have : q = i + 1 := by omega
    rw [this]
    exact Int32.le_refl _)
  rw [sT_s]
  refine ⟨h.1, by have := h.2.1; show (sRun _ _ _ d).2 < _; omega, h.2.2.1, fun q h1 h2 h3 => ?_⟩
  have h4 := h.2.2.2 q h1 h2
  rw [h3] at h4
  exact Int32.lt_irrefl h4
section
variable {M : wMem} {k n : Nat} {L : Nat → Nat → Int32} {st : Nat → Int32} {hr : Int32}
theorem c_weight (h : wRow M k n L st hr) {i d : Nat} (hd : i + d ≤ n) (hd1 : 1 ≤ d) : fX6_weightOf M k (nI i) (nI (i + d - 1)) = some (sWeight L i 0 d) := by
  have hn := h.1
  unfold fX6_weightOf fX6_weightOf_5
  refine wloop_q (fun e t => ∃ j, i ≤ j ∧ j + e = i + d ∧ t.2 = nI j ∧ sWeight L i 0 d = sWeight L j t.1 e) (fun o => o = some (sWeight L i 0 d)) ?_ wfuel d (0, nI i) ⟨i, by omega, by omega, rfl, rfl⟩ (wfuel_lt (by omega))
  rintro rec e ⟨x, y⟩ ⟨j, hij, hj, rfl, hs⟩
  dsimp only at hs ⊢
  unfold fX6_weightOf_5_b
  by_cases q : e = 0
  · left
    subst q
    rw [if_pos (nI_lt (by omega) (by omega)), hs]
    rfl
  · right
    obtain ⟨e', rfl⟩ : ∃ e', e = e' + 1 := ⟨e - 1, by omega⟩
    refine ⟨e', (x + sLik (L j), nI (j + 1)), by omega, ⟨j + 1, by omega, by omega, rfl, ?_⟩, ?_⟩
    · rw [hs]
      rfl
    · rw [if_neg (nI_nlt (by omega) (by omega)), wgi_n (by omega) (by decide), nI_clamp (by omega), c_lik (h.2.2.1 j (by omega)), Option.bind_some]
      simp only [wlet_eq, nI_1]
theorem m_weight (h : wMod M n L st hr) {i d : Nat} (hd : i + d ≤ n) (hd1 : 1 ≤ d) : fX10_weightOf M (nI i) (nI (i + d - 1)) = some (sWeight L i 0 d) := by
  have hn := h.1
  unfold fX10_weightOf fX10_weightOf_5
  refine wloop_q (fun e t => ∃ j, i ≤ j ∧ j + e = i + d ∧ t.2 = nI j ∧ sWeight L i 0 d = sWeight L j t.1 e) (fun o => o = some (sWeight L i 0 d)) ?_ wfuel d (0, nI i) ⟨i, by omega, by omega, rfl, rfl⟩ (wfuel_lt (by omega))
  rintro rec e ⟨x, y⟩ ⟨j, hij, hj, rfl, hs⟩
  dsimp only at hs ⊢
  unfold fX10_weightOf_5_b
  by_cases q : e = 0
  · left
    subst q
    rw [if_pos (nI_lt (by omega) (by omega)), hs]
    rfl
  · right
    obtain ⟨e', rfl⟩ : ∃ e', e = e' + 1 := ⟨e - 1, by omega⟩
    refine ⟨e', (x + sLik (L j), nI (j + 1)), by omega, ⟨j + 1, by omega, by omega, rfl, ?_⟩, ?_⟩
    · rw [hs]
      rfl
    · rw [if_neg (nI_nlt (by omega) (by omega)), m_lik h (show j < n by omega), Option.bind_some]
      simp only [wlet_eq, nI_1]
/-- off the class's table of stretches -/
def wOffS (M M' : wMem) : Prop := ∀ b, (b < 55 ∨ 66 < b) → M' b = M b
theorem wOffS.rf (M : wMem) : wOffS M M := fun _ _ => rfl
theorem wOffS.row {M' : wMem} (ho : wOffS M M') (h : wRow M 1 n L st hr) : wRow M' 1 n L st hr := by
  have hn := h.1
  exact ⟨h.1, by rw [ho 1 (by omega)]; exact h.2.1, fun i hi f hf => by rw [ho _ (by omega)]; exact h.2.2.1 i hi f hf, fun j hj => by rw [ho _ (by omega)]; exact h.2.2.2.1 j hj, by rw [ho 1 (by omega)]; exact h.2.2.2.2⟩
/-- what the table holds -/
def wSt (w : Bool) (L : Nat → Nat → Int32) (M : wMem) (i d : Nat) : Prop := M (54 + 1 + i) (i + d) = sT w L d i
theorem c_cost (h : wRow M 1 n L st hr) {w : Bool} {i d p : Nat} (hd : i + d < n) (hp1 : i + 1 ≤ p) (hp2 : p ≤ i + d) (t1 : wSt w L M i (p - 1 - i)) (t2 : wSt w L M p (i + d - p)) : fX6_costOf M 1 (nI i) (nI (i + d)) (nI p) (sWeight L i 0 (d + 1)) (if w = true then 0 else 1) = some (sC w (sT w L) L i d p) := by
  have hn := h.1
  unfold wSt at t1 t2
  rw [show i + (p - 1 - i) = p - 1 by omega] at t1
  rw [show p + (i + d - p) = i + d by omega] at t2
  have e1 : nI p - 1 = nI (p - 1) := pk_sub (b := 1) (by omega)
  have hm : M (1 + 1 + 2 + p) 2 = L p 2 := h.2.2.1 p (by omega) 2 (by decide)
  simp only [fX6_costOf, sC, wlet_eq, e1, wgi_n (show p < 12 by omega) (show 12 < 2 ^ 31 by decide), wgi_n (show i < 12 by omega) (show 12 < 2 ^ 31 by decide), wgi_n (show p - 1 < 12 by omega) (show 12 < 2 ^ 31 by decide), wgi_n (show i + d < 12 by omega) (show 12 < 2 ^ 31 by decide), nI_clamp (show p < 2 ^ 31 by omega), nI_clamp (show i < 2 ^ 31 by omega), nI_clamp (show p - 1 < 2 ^ 31 by omega), nI_clamp (show i + d < 2 ^ 31 by omega), t1, t2]
  rw [hm]
  cases w
  · simp [sMax]
  · simp
theorem c_least (h : wRow M 1 n L st hr) {w : Bool} {i d : Nat} (hd : i + (d + 1) < n) (t1 : ∀ e, e ≤ d → wSt w L M i e) (t2 : ∀ q e, i < q → q + e = i + (d + 1) → wSt w L M q e) : fX6_leastOf M 1 (nI i) (nI (i + (d + 1))) (if w = true then 0 else 1) = some (sT w L (d + 1) i) := by
  have hn := h.1
  have cost : ∀ p, i + 1 ≤ p → p ≤ i + (d + 1) → fX6_costOf M 1 (nI i) (nI (i + (d + 1))) (nI p) (sWeight L i 0 (d + 1 + 1)) (if w = true then 0 else 1) = some (sC w (sT w L) L i (d + 1) p) := fun p h1 h2 => c_cost h hd h1 h2 (t1 _ (by omega)) (t2 p _ (by omega) (by omega))
  have hw : fX6_weightOf M 1 (nI i) (nI (i + (d + 1))) = some (sWeight L i 0 (d + 1 + 1)) := by
    have := c_weight h (i := i) (d := d + 1 + 1) (by omega) (by omega)
    rw [show i + (d + 1 + 1) - 1 = i + (d + 1) by omega] at this
    exact this
  have e2 : nI i + 2 = nI (i + 2) := nI_add i 2
  unfold fX6_leastOf
  rw [hw, Option.bind_some, nI_1, cost (i + 1) (by omega) (by omega), Option.bind_some, wlet_eq, e2, sT_s]
  unfold fX6_leastOf_29
  refine wloop_q (fun e t => ∃ p b, p + e = i + d + 2 ∧ i + 2 ≤ p ∧ t.2 = nI p ∧ t.1 = b.1 ∧ sR w (sT w L) L i (d + 1) = sRun (sC w (sT w L) L i (d + 1)) p b e) (fun o => o = some (sR w (sT w L) L i (d + 1)).1) ?_ wfuel d (sC w (sT w L) L i (d + 1) (i + 1), nI (i + 2)) ⟨i + 2, (sC w (sT w L) L i (d + 1) (i + 1), i + 1), by omega, by omega, rfl, rfl, rfl⟩ (wfuel_lt (by omega))
  rintro rec e ⟨x, y⟩ ⟨p, b, hp, hp2, rfl, rfl, hs⟩
  dsimp only
  unfold fX6_leastOf_29_b
  by_cases q : e = 0
  · left
    subst q
    rw [if_pos (nI_lt (by omega) (by omega)), hs]
    rfl
  · right
    obtain ⟨e', rfl⟩ : ∃ e', e = e' + 1 := ⟨e - 1, by omega⟩
    rw [sRun_s] at hs
    refine ⟨e', ((if sC w (sT w L) L i (d + 1) p < b.1 then sC w (sT w L) L i (d + 1) p else b.1), nI (p + 1)), by omega, ⟨p + 1, _, by omega, by omega, rfl, ?_, hs⟩, ?_⟩
    · dsimp only
      split <;> rfl
    · rw [if_neg (nI_nlt (by omega) (by omega)), cost p (by omega) (by omega), Option.bind_some]
      simp only [wlet_eq, nI_1]
theorem wSt_off {w : Bool} {M' : wMem} {i d : Nat} (h : wSt w L M i d) (e : M' (54 + 1 + i) (i + d) = M (54 + 1 + i) (i + d)) : wSt w L M' i d := e.trans h
/-- the table is filled up to the stretches of m more -/
theorem c_fill40 (h : wRow M 1 n L st hr) {w : Bool} {i0 dd m : Nat} (hd : i0 + dd < n) (hm : m + 1 ≤ dd) {M1 : wMem} (ho : wOffS M M1) (hT : ∀ i d, i0 ≤ i → i + d ≤ i0 + dd → d ≤ m → wSt w L M1 i d) (rec : Int32 × wMem → Option wMem) :
    ∃ M2, wOffS M M2 ∧ (∀ i d, i0 ≤ i → i + d ≤ i0 + dd → d ≤ m + 1 → wSt w L M2 i d) ∧ fX6_fill_40 M1 rec 1 (nI i0) (nI (i0 + dd)) (if w = true then 0 else 1) (nI (m + 1)) (nI i0) = rec (nI (m + 1 + 1), M2) := by
  have hn := h.1
  unfold fX6_fill_40
  refine wloop_q (fun e t => ∃ i, i + e = i0 + dd - m ∧ i0 ≤ i ∧ t.1 = nI i ∧ wOffS M t.2 ∧ (∀ j d, i0 ≤ j → j + d ≤ i0 + dd → d ≤ m → wSt w L t.2 j d) ∧ ∀ j, i0 ≤ j → j < i → wSt w L t.2 j (m + 1)) (fun o => ∃ M2, wOffS M M2 ∧ (∀ i d, i0 ≤ i → i + d ≤ i0 + dd → d ≤ m + 1 → wSt w L M2 i d) ∧ o = rec (nI (m + 1 + 1), M2)) ?_ wfuel (dd - m) (nI i0, M1) ⟨i0, by omega, by omega, rfl, ho, hT, fun j h1 h2 => by omega⟩ (wfuel_lt (by omega))
  rintro rec2 e ⟨y, M2⟩ ⟨i, hi, hi0, rfl, hO, hA, hB⟩
  dsimp only at hO hA hB ⊢
  unfold fX6_fill_40_b
  rw [nI_add]
  by_cases q : i + (m + 1) ≤ i0 + dd
  · right
    have hl := c_least (hO.row h) (w := w) (i := i) (d := m) (by omega) (fun e he => hA i e hi0 (by omega) he) (fun p e h1 h2 => hA p e (by omega) (by omega) (by omega))
    obtain ⟨M3, hM3⟩ : ∃ M3, M3 = wup M2 (54 + 1 + i) (i + (m + 1)) (sT w L (m + 1) i) := ⟨_, rfl⟩
    have c1 : wOffS M M3 := fun b hb => by rw [hM3, wup_cell (by omega)]; exact hO b hb
    have c2 : ∀ j d, i0 ≤ j → j + d ≤ i0 + dd → d ≤ m → wSt w L M3 j d := fun j d h1 h2 h3 => wSt_off (hA j d h1 h2 h3) (by rw [hM3, wup_off (by omega)])
    have c3 : ∀ j, i0 ≤ j → j < i + 1 → wSt w L M3 j (m + 1) := by
      intro j h1 h2
      by_cases z : j = i
      · subst z
        unfold wSt
        rw [hM3, wup_same]
      · exact wSt_off (hB j h1 (by omega)) (by rw [hM3, wup_cell (by omega)])
    refine ⟨e - 1, (nI (i + 1), M3), by omega, ⟨i + 1, by omega, by omega, rfl, c1, c2, c3⟩, ?_⟩
    rw [if_neg (nI_nlt (by omega) (by omega)), wgi_n (by omega) (by decide), hl, Option.bind_some, wgi_n (by omega) (by decide), nI_clamp (by omega), nI_clamp (by omega), hM3]
    simp only [wlet_eq, nI_1]
  · left
    refine ⟨M2, hO, ?_, ?_⟩
    · intro j d h1 h2 h3
      by_cases z : d = m + 1
      · subst z
        exact hB j h1 (by omega)
      · exact hA j d h1 h2 (by omega)
    · rw [if_pos (nI_lt (by omega) (by omega)), wlet_eq, nI_1]
theorem c_fill (h : wRow M 1 n L st hr) {w : Bool} {i0 dd : Nat} (hd : i0 + dd < n) : ∃ M2, fX6_fill M 1 (nI i0) (nI (i0 + dd)) (if w = true then 0 else 1) = some M2 ∧ wOffS M M2 ∧ ∀ i d, i0 ≤ i → i + d ≤ i0 + dd → wSt w L M2 i d := by
  have hn := h.1
  -- the longer ones
  have long : ∀ M1 : wMem, wOffS M M1 → (∀ i, i0 ≤ i → i ≤ i0 + dd → wSt w L M1 i 0) → ∃ M2, fX6_fill_29 M1 1 (nI i0) (nI (i0 + dd)) (if w = true then 0 else 1) 1 = some M2 ∧ wOffS M M2 ∧ ∀ i d, i0 ≤ i → i + d ≤ i0 + dd → wSt w L M2 i d := by
    intro M1 ho hz
    unfold fX6_fill_29
    refine wloop_q (fun e t => ∃ m, m + e = dd ∧ t.1 = nI (m + 1) ∧ wOffS M t.2 ∧ ∀ i d, i0 ≤ i → i + d ≤ i0 + dd → d ≤ m → wSt w L t.2 i d) (fun o => ∃ M2, o = some M2 ∧ wOffS M M2 ∧ ∀ i d, i0 ≤ i → i + d ≤ i0 + dd → wSt w L M2 i d) ?_ wfuel dd (1, M1) ⟨0, by omega, rfl, ho, fun i d h1 h2 h3 => by
      have : d = 0 := by omega
      subst this
      exact hz i h1 (by omega)⟩ (wfuel_lt (by omega))
    rintro rec e ⟨y, M2⟩ ⟨m, hm, rfl, hO, hA⟩
    dsimp only at hO hA ⊢
    unfold fX6_fill_29_b
    have e1 : nI (i0 + dd) - nI i0 = nI dd := by
      rw [pk_sub (by omega)]
      congr 1
      omega
    rw [e1]
    by_cases q : m < dd
    · right
      obtain ⟨M3, u1, u2, u3⟩ := c_fill40 h (w := w) hd (show m + 1 ≤ dd by omega) hO hA rec
      exact ⟨e - 1, (nI (m + 1 + 1), M3), by omega, ⟨m + 1, by omega, rfl, u1, u2⟩, by rw [if_neg (nI_nlt (by omega) (by omega)), u3]⟩
    · left
      exact ⟨M2, by rw [if_pos (nI_lt (by omega) (by omega))], hO, fun i d h1 h2 => hA i d h1 h2 (by omega)⟩
  unfold fX6_fill fX6_fill_3
  refine wloop_q (fun e t => ∃ i, i + e = i0 + dd + 1 ∧ i0 ≤ i ∧ t.1 = nI i ∧ wOffS M t.2 ∧ ∀ j, i0 ≤ j → j < i → wSt w L t.2 j 0) (fun o => ∃ M2, o = some M2 ∧ wOffS M M2 ∧ ∀ i d, i0 ≤ i → i + d ≤ i0 + dd → wSt w L M2 i d) ?_ wfuel (dd + 1) (nI i0, M) ⟨i0, by omega, by omega, rfl, wOffS.rf M, fun j h1 h2 => by omega⟩ (wfuel_lt (by omega))
  rintro rec e ⟨y, M2⟩ ⟨i, hi, hi0, rfl, hO, hA⟩
  dsimp only at hO hA ⊢
  unfold fX6_fill_3_b
  by_cases q : i ≤ i0 + dd
  · right
    obtain ⟨M3, hM3⟩ : ∃ M3, M3 = wup M2 (54 + 1 + i) i 0 := ⟨_, rfl⟩
    have c1 : wOffS M M3 := fun b hb => by rw [hM3, wup_cell (by omega)]; exact hO b hb
    have c2 : ∀ j, i0 ≤ j → j < i + 1 → wSt w L M3 j 0 := by
      intro j h1 h2
      by_cases z : j = i
      · subst z
        unfold wSt
        rw [hM3]
        show wup M2 (54 + 1 + j) j 0 (54 + 1 + j) j = _
        rw [wup_same]
        rfl
      · exact wSt_off (hA j h1 (by omega)) (by rw [hM3, wup_cell (by omega)])
    refine ⟨e - 1, (nI (i + 1), M3), by omega, ⟨i + 1, by omega, by omega, rfl, c1, c2⟩, ?_⟩
    rw [if_neg (nI_nlt (by omega) (by omega)), wgi_n (by omega) (by decide), wgi_n (by omega) (by decide), nI_clamp (by omega), hM3]
    simp only [wlet_eq, nI_1]
  · left
    rw [if_pos (nI_lt (by omega) (by omega))]
    exact long M2 hO (fun j h1 h2 => hA j h1 (by omega))
theorem three (A B C : Prop) [Decidable A] [Decidable B] [Decidable C] : (if decide A = false then some false else if decide B = false then some false else if C then some false else some true) = some (decide (A ∧ B ∧ ¬ C)) := by
  by_cases q1 : A <;> by_cases q2 : B <;> by_cases q3 : C <;> simp [q1, q2, q3]
theorem c_stretch (h : wRow M k n L st hr) (x y : Int32) : fX5_hasStretch M k x y = some (decide ((¬ x < 0 ∧ ¬ nI n ≤ x) ∧ (¬ y < 0 ∧ ¬ nI n ≤ y) ∧ ¬ y < x)) := by
  simp only [fX5_hasStretch, c_has h, Option.bind_some, wb_0]
  exact three _ _ _
theorem m_lamps (h : wMod M n L st hr) (x y : Int32) : fX10_areLamps M x y = some (decide ((¬ x < 0 ∧ ¬ nI n ≤ x) ∧ (¬ y < 0 ∧ ¬ nI n ≤ y) ∧ ¬ y < x)) := by
  simp only [fX10_areLamps, m_lamp h, Option.bind_some, wb_0]
  exact three _ _ _
theorem c_cost0 (h : wRow M 1 n L st hr) {w : Bool} {i d : Nat} (hd : i + d < n) : ∃ M2, fX6_leastCost M 1 (nI i) (nI (i + d)) (if w = true then 0 else 1) = some (sT w L d i, M2) ∧ wOffS M M2 ∧ ∀ j e, i ≤ j → j + e ≤ i + d → wSt w L M2 j e := by
  have hn := h.1
  obtain ⟨M2, u1, u2, u3⟩ := c_fill h (w := w) hd
  refine ⟨M2, ?_, u2, u3⟩
  have e1 : decide ((¬ nI i < 0 ∧ ¬ nI n ≤ nI i) ∧ (¬ nI (i + d) < 0 ∧ ¬ nI n ≤ nI (i + d)) ∧ ¬ nI (i + d) < nI i) = true := by
    simp [nI_pos (show i < 2 ^ 31 by omega), nI_pos (show i + d < 2 ^ 31 by omega), nI_ge (show i < n by omega) (show n < 2 ^ 31 by omega), nI_ge hd (show n < 2 ^ 31 by omega), nI_nlt (show i ≤ i + d by omega) (show i + d < 2 ^ 31 by omega)]
  unfold fX6_leastCost
  rw [c_stretch h, Option.bind_some, e1, if_neg (by decide), u1, Option.bind_some, wgi_n (by omega) (by decide), wgi_n (by omega) (by decide), nI_clamp (by omega), nI_clamp (by omega)]
  have := u3 i d (by omega) (by omega)
  unfold wSt at this
  rw [this]
theorem c_best (h : wRow M 1 n L st hr) {w : Bool} {i d : Nat} (hd : i + d < n) : ∃ M2, fX6_bestPlace M 1 (nI i) (nI (i + d)) (if w = true then 0 else 1) = some ((if d = 0 then -9 else nI (sAt w L d i)), M2) ∧ wOffS M M2 := by
  have hn := h.1
  obtain ⟨M2, u1, u2, u3⟩ := c_cost0 h (w := w) hd
  refine ⟨M2, ?_, u2⟩
  have hw : fX6_weightOf M2 1 (nI i) (nI (i + d)) = some (sWeight L i 0 (d + 1)) := c_weight (u2.row h) (i := i) (d := d + 1) (by omega) (by omega)
  unfold fX6_bestPlace
  rw [u1, Option.bind_some]
  simp only [wpr, hw, Option.bind_some, wlet_eq, nI_1]
  unfold fX6_bestPlace_24
  cases d with
  | zero =>
    refine wloop_q (fun _ t => t = nI (i + 1)) (fun o => o = some (-9, M2)) ?_ wfuel 0 (nI (i + 1)) rfl (wfuel_lt (by omega))
    rintro rec e _ rfl
    left
    unfold fX6_bestPlace_24_b
    rw [if_pos (nI_lt (by omega) (by omega))]
  | succ d =>
    obtain ⟨s1, s2, s3, s4⟩ := sAt_spec w L i d
    rw [if_neg (show ¬ d + 1 = 0 by omega)]
    refine wloop_q (fun e t => ∃ p, p + e = sAt w L (d + 1) i ∧ i + 1 ≤ p ∧ t = nI p) (fun o => o = some (nI (sAt w L (d + 1) i), M2)) ?_ wfuel (sAt w L (d + 1) i - (i + 1)) (nI (i + 1)) ⟨i + 1, by omega, by omega, rfl⟩ (wfuel_lt (by omega))
    rintro rec e y ⟨p, hp, hp1, rfl⟩
    unfold fX6_bestPlace_24_b
    rw [if_neg (nI_nlt (by omega) (by omega)), c_cost (u2.row h) hd hp1 (by omega) (u3 _ _ (by omega) (by omega)) (u3 _ _ (by omega) (by omega)), Option.bind_some]
    by_cases q : e = 0
    · left
      have e1 : p = sAt w L (d + 1) i := by omega
      rw [e1, if_pos s3.symm]
    · right
      refine ⟨e - 1, nI (p + 1), by omega, ⟨p + 1, by omega, by omega, rfl⟩, ?_⟩
      rw [if_neg (s4 p hp1 (by omega)), wlet_eq, nI_1]
end
