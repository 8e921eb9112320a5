/-! part 23: the order of swaps -/
def sUp (O : Nat → Nat) (q j : Nat) : Nat → Nat := fun r => if r = q then j else O r
def sIns (L : Nat → Nat → Int32) (j : Nat) : (Nat → Nat) → Nat → (Nat → Nat)
  | O, 0 => sUp O 0 j
  | O, q + 1 => if L (O q) 2 * sLik (L j) ≤ L j 2 * sLik (L (O q)) then sUp O (q + 1) j else sIns L j (sUp O (q + 1) (O q)) q
def sOrd (L : Nat → Nat → Int32) : Nat → Nat → Nat
  | 0 => fun _ => 0
  | i + 1 => sIns L i (sOrd L i) i
theorem sUp_lt {O : Nat → Nat} {q j n : Nat} (h : ∀ r, O r < n) (hj : j < n) : ∀ r, sUp O q j r < n := by
  intro r
  unfold sUp
  split
  · exact hj
  · exact h r
theorem sIns_s (L : Nat → Nat → Int32) (j : Nat) (O : Nat → Nat) (q : Nat) : sIns L j O (q + 1) = if L (O q) 2 * sLik (L j) ≤ L j 2 * sLik (L (O q)) then sUp O (q + 1) j else sIns L j (sUp O (q + 1) (O q)) q := rfl
theorem sIns_lt {L : Nat → Nat → Int32} {j n : Nat} (hj : j < n) : ∀ (q : Nat) (O : Nat → Nat), (∀ r, O r < n) → ∀ r, sIns L j O q r < n
  | 0, O, h => sUp_lt h hj
  | q + 1, O, h => by
    rw [sIns_s]
    split
    · exact sUp_lt h hj
    · exact sIns_lt hj q _ (sUp_lt h (h q))
theorem sOrd_lt {L : Nat → Nat → Int32} {n : Nat} (hn : 0 < n) : ∀ i, i ≤ n → ∀ r, sOrd L i r < n
  | 0, _ => fun _ => hn
  | i + 1, h => sIns_lt (by omega) i _ (sOrd_lt hn i (by omega))
def sOSum (L : Nat → Nat → Int32) (O : Nat → Nat) (r : Nat) (x y : Int32) : Nat → Int32
  | 0 => y
  | e + 1 => sOSum L O (r + 1) (x + L (O r) 2) (y + sLik (L (O r)) * (x + L (O r) 2)) e
theorem sOSum_s (L : Nat → Nat → Int32) (O : Nat → Nat) (r : Nat) (x y : Int32) (e : Nat) : sOSum L O r x y (e + 1) = sOSum L O (r + 1) (x + L (O r) 2) (y + sLik (L (O r)) * (x + L (O r) 2)) e := rfl
def wOfc (c : Nat) (M M' : wMem) : Prop := ∀ b, b ≠ c → M' b = M b
theorem wOfc.rf (c : Nat) (M : wMem) : wOfc c M M := fun _ _ => rfl
theorem wOfc.tr {c : Nat} {M M' M'' : wMem} (h : wOfc c M M') (h2 : wOfc c M' M'') : wOfc c M M'' := fun b hb => (h2 b hb).trans (h b hb)
theorem wOfc.up {c j : Nat} {x : Int32} {M M' : wMem} (h : wOfc c M M') : wOfc c M (wup M' c j x) := fun b hb => by rw [wup_cell hb]; exact h b hb
section
variable {M : wMem} {k n : Nat} {L : Nat → Nat → Int32} {st : Nat → Int32} {hr : Int32}
theorem wOfc.row {c : Nat} (hc : 15 < c) {M' : wMem} (ho : wOfc c M M') (h : wRow M 1 n L st hr) : wRow M' 1 n L st hr := by
  have hn := h.1
  exact ⟨h.1, by rw [ho 1 (by omega)]; exact h.2.1, fun i hi f hf => by rw [ho _ (by omega)]; exact h.2.2.1 i hi f hf, fun j hj => by rw [ho _ (by omega)]; exact h.2.2.2.1 j hj, by rw [ho 1 (by omega)]; exact h.2.2.2.2⟩
theorem wOfc.mod {c : Nat} (hc : 77 < c) {M' : wMem} (ho : wOfc c M M') (h : wMod M n L st hr) : wMod M' n L st hr :=
  ⟨h.1, by rw [ho 70 (by omega)]; exact h.2.1, fun i hi f hf => by rw [ho _ (by omega)]; exact h.2.2.1 i hi f hf, fun j hj => by rw [ho _ (by omega)]; exact h.2.2.2.1 j hj, by rw [ho 70 (by omega)]; exact h.2.2.2.2⟩
theorem wUp_ord {c q v i : Nat} {O : Nat → Nat} {M2 : wMem} (hA : ∀ r, r ≤ i → r ≠ q → M2 c r = nI (O r)) : ∀ r, r ≤ i → wup M2 c q (nI v) c r = nI (sUp O q v r) := by
  intro r hr
  unfold sUp
  by_cases z : r = q
  · rw [if_pos z, z, wup_same]
  · rw [if_neg z, wup_slot z]
    exact hA r hr z
theorem c_ar12 (h : wRow M 1 n L st hr) {i : Nat} (hi : i < n) {M1 : wMem} (ho : wOfc 68 M M1) {O : Nat → Nat} (hO : ∀ r, O r < n) (hA : ∀ r, r < i → M1 68 r = nI (O r)) (rec : Int32 × wMem → Option wMem) : ∃ M2, wOfc 68 M M2 ∧ (∀ r, r < i + 1 → M2 68 r = nI (sIns L i O i r)) ∧ fX8_arrange_12 M1 rec 1 (nI i) (nI i) = rec (nI (i + 1), M2) := by
  have hn := h.1
  unfold fX8_arrange_12
  refine wloop_q (fun q t => ∃ P, q ≤ i ∧ t.1 = nI q ∧ wOfc 68 M t.2 ∧ (∀ r, P r < n) ∧ (∀ r, r ≤ i → r ≠ q → t.2 68 r = nI (P r)) ∧ sIns L i P q = sIns L i O i) (fun o => ∃ M2, wOfc 68 M M2 ∧ (∀ r, r < i + 1 → M2 68 r = nI (sIns L i O i r)) ∧ o = rec (nI (i + 1), M2)) ?_ wfuel i (nI i, M1) ⟨O, by omega, rfl, ho, hO, fun r h1 h2 => hA r (by omega), rfl⟩ (wfuel_lt (by omega))
  rintro rec2 q ⟨y, M2⟩ ⟨P, hq, rfl, hW, hP, hB, hs⟩
  dsimp only at hW hB ⊢
  unfold fX8_arrange_12_b fX8_arrange_61
  cases q with
  | zero =>
    left
    rw [if_pos (show nI 0 ≤ 0 by decide), wgi_n (by omega) (by decide), nI_clamp (by omega), wlet_eq, wlet_eq, nI_1, ← hs]
    exact ⟨_, hW.up, fun r hr => wUp_ord hB r (by omega), rfl⟩
  | succ q =>
    have e1 : nI (q + 1) - 1 = nI q := pk_sub (a := q + 1) (b := 1) (by omega)
    have hr1 := hW.row (by decide) h
    have m1 : M2 68 q = nI (P q) := hB q (by omega) (by omega)
    have k1 : wLp M2 (1 + 1 + 2 + i) (L i) := hr1.2.2.1 i hi
    have k2 : wLp M2 (1 + 1 + 2 + P q) (L (P q)) := hr1.2.2.1 (P q) (hP q)
    have hPq := hP q
    have hcf : fX8_comesFirst M2 (1 + 1 + 2 + i) (1 + 1 + 2 + P q) = some (decide (¬ (L (P q) 2 * sLik (L i) ≤ L i 2 * sLik (L (P q))))) := by
      unfold fX8_comesFirst
      rw [c_lik k2, Option.bind_some, c_lik k1, Option.bind_some, k1 2 (by decide), k2 2 (by decide)]
      split
      · rename_i z
        rw [decide_eq_false (fun y => y z)]
      · rename_i z
        rw [decide_eq_true z]
    have g0 : ¬ nI (q + 1) ≤ 0 := nI_ge (show 0 < q + 1 by omega) (by omega)
    rw [if_neg g0, e1, wgi_n (by omega) (by decide), wgi_n (by omega) (by decide), nI_clamp (show q < 2 ^ 31 by omega), m1, wgi_n (by omega) (by decide), nI_clamp (show i < 2 ^ 31 by omega), nI_clamp (show P q < 2 ^ 31 by omega), hcf, Option.bind_some]
    by_cases z : L (P q) 2 * sLik (L i) ≤ L i 2 * sLik (L (P q))
    · left
      rw [decide_eq_false (fun y => y z), if_pos (show wb false = 0 from rfl), wgi_n (by omega) (by decide), nI_clamp (by omega), wlet_eq, wlet_eq, nI_1, ← hs, sIns_s, if_pos z]
      exact ⟨_, hW.up, fun r hr => wUp_ord hB r (by omega), rfl⟩
    · right
      rw [sIns_s, if_neg z] at hs
      have hC := wUp_ord (v := P q) hB
      obtain ⟨M3, hM3⟩ : ∃ M3, M3 = wup M2 68 (q + 1) (nI (P q)) := ⟨_, rfl⟩
      rw [← hM3] at hC
      refine ⟨q, (nI q, M3), by omega, ⟨sUp P (q + 1) (P q), by omega, rfl, by rw [hM3]; exact hW.up, sUp_lt hP hPq, fun r h1 _ => hC r h1, hs⟩, ?_⟩
      rw [decide_eq_true z, if_neg (by decide), wgi_n (by omega) (by decide), wgi_n (by omega) (by decide), nI_clamp (by omega), wlet_eq, wlet_eq, pk_m1, hM3]
theorem c_arrange (h : wRow M 1 n L st hr) : ∃ M2, fX8_arrange M 1 = some M2 ∧ wOfc 68 M M2 ∧ ∀ r, r < n → M2 68 r = nI (sOrd L n r) := by
  have hn := h.1
  unfold fX8_arrange fX8_arrange_2
  refine wloop_q (fun e t => ∃ i, i + e = n ∧ t.1 = nI i ∧ wOfc 68 M t.2 ∧ ∀ r, r < i → t.2 68 r = nI (sOrd L i r)) (fun o => ∃ M2, o = some M2 ∧ wOfc 68 M M2 ∧ ∀ r, r < n → M2 68 r = nI (sOrd L n r)) ?_ wfuel n (0, M) ⟨0, by omega, rfl, wOfc.rf _ M, fun r h => by omega⟩ (wfuel_lt (by omega))
  rintro rec e ⟨y, M2⟩ ⟨i, hi, rfl, hW, hA⟩
  dsimp only at hW hA ⊢
  have hm : M2 1 2 = nI n := (hW.row (by decide) h).2.1
  unfold fX8_arrange_2_b
  rw [hm]
  by_cases q : n ≤ i
  · left
    have : i = n := by omega
    subst this
    rw [if_pos (nI_le q (by omega))]
    exact ⟨M2, rfl, hW, hA⟩
  · right
    obtain ⟨M3, u1, u2, u3⟩ := c_ar12 h (show i < n by omega) hW (sOrd_lt (L := L) (show 0 < n by omega) i (by omega)) hA rec
    exact ⟨e - 1, (nI (i + 1), M3), by omega, ⟨i + 1, by omega, rfl, u1, u2⟩, by rw [if_neg (nI_ge (by omega) (by omega)), u3]⟩
theorem m_or12 (h : wMod M n L st hr) {i : Nat} (hi : i < n) {M1 : wMem} (ho : wOfc 88 M M1) {O : Nat → Nat} (hO : ∀ r, O r < n) (hA : ∀ r, r < i → M1 88 r = nI (O r)) (rec : Int32 × wMem → Option wMem) : ∃ M2, wOfc 88 M M2 ∧ (∀ r, r < i + 1 → M2 88 r = nI (sIns L i O i r)) ∧ fX10_findOrder_12 M1 rec (nI i) (nI i) = rec (nI (i + 1), M2) := by
  have hn := h.1
  unfold fX10_findOrder_12
  refine wloop_q (fun q t => ∃ P, q ≤ i ∧ t.1 = nI q ∧ wOfc 88 M t.2 ∧ (∀ r, P r < n) ∧ (∀ r, r ≤ i → r ≠ q → t.2 88 r = nI (P r)) ∧ sIns L i P q = sIns L i O i) (fun o => ∃ M2, wOfc 88 M M2 ∧ (∀ r, r < i + 1 → M2 88 r = nI (sIns L i O i r)) ∧ o = rec (nI (i + 1), M2)) ?_ wfuel i (nI i, M1) ⟨O, by omega, rfl, ho, hO, fun r h1 h2 => hA r (by omega), rfl⟩ (wfuel_lt (by omega))
  rintro rec2 q ⟨y, M2⟩ ⟨P, hq, rfl, hW, hP, hB, hs⟩
  dsimp only at hW hB ⊢
  unfold fX10_findOrder_12_b fX10_findOrder_77
  cases q with
  | zero =>
    left
    rw [if_pos (show nI 0 ≤ 0 by decide), wgi_n (by omega) (by decide), nI_clamp (by omega), wlet_eq, wlet_eq, nI_1, ← hs]
    exact ⟨_, hW.up, fun r hr => wUp_ord hB r (by omega), rfl⟩
  | succ q =>
    have e1 : nI (q + 1) - 1 = nI q := pk_sub (a := q + 1) (b := 1) (by omega)
    have hr1 := hW.mod (by decide) h
    have m1 : M2 88 q = nI (P q) := hB q (by omega) (by omega)
    have k1 : M2 74 i = L i 2 := hr1.2.2.1 i hi 2 (by decide)
    have k2 : M2 74 (P q) = L (P q) 2 := hr1.2.2.1 (P q) (hP q) 2 (by decide)
    have hPq := hP q
    have g0 : ¬ nI (q + 1) ≤ 0 := nI_ge (show 0 < q + 1 by omega) (by omega)
    rw [if_neg g0, e1, wgi_n (by omega) (by decide), wgi_n (by omega) (by decide), nI_clamp (show q < 2 ^ 31 by omega), m1, m_lik hr1 hPq, Option.bind_some, wgi_n (by omega) (by decide), wgi_n (by omega) (by decide), m_lik hr1 hi, Option.bind_some, nI_clamp (show i < 2 ^ 31 by omega), nI_clamp (show P q < 2 ^ 31 by omega), k1, k2]
    by_cases z : L (P q) 2 * sLik (L i) ≤ L i 2 * sLik (L (P q))
    · left
      rw [if_pos z, wgi_n (by omega) (by decide), nI_clamp (by omega), wlet_eq, wlet_eq, nI_1, ← hs, sIns_s, if_pos z]
      exact ⟨_, hW.up, fun r hr => wUp_ord hB r (by omega), rfl⟩
    · right
      rw [sIns_s, if_neg z] at hs
      have hC := wUp_ord (v := P q) hB
      obtain ⟨M3, hM3⟩ : ∃ M3, M3 = wup M2 88 (q + 1) (nI (P q)) := ⟨_, rfl⟩
      rw [← hM3] at hC
      refine ⟨q, (nI q, M3), by omega, ⟨sUp P (q + 1) (P q), by omega, rfl, by rw [hM3]; exact hW.up, sUp_lt hP hPq, fun r h1 _ => hC r h1, hs⟩, ?_⟩
      rw [if_neg z, wgi_n (by omega) (by decide), wgi_n (by omega) (by decide), nI_clamp (by omega), wlet_eq, wlet_eq, pk_m1, hM3]
theorem m_order (h : wMod M n L st hr) : ∃ M2, fX10_findOrder M = some M2 ∧ wOfc 88 M M2 ∧ ∀ r, r < n → M2 88 r = nI (sOrd L n r) := by
  have hn := h.1
  unfold fX10_findOrder fX10_findOrder_2
  refine wloop_q (fun e t => ∃ i, i + e = n ∧ t.1 = nI i ∧ wOfc 88 M t.2 ∧ ∀ r, r < i → t.2 88 r = nI (sOrd L i r)) (fun o => ∃ M2, o = some M2 ∧ wOfc 88 M M2 ∧ ∀ r, r < n → M2 88 r = nI (sOrd L n r)) ?_ wfuel n (0, M) ⟨0, by omega, rfl, wOfc.rf _ M, fun r h => by omega⟩ (wfuel_lt (by omega))
  rintro rec e ⟨y, M2⟩ ⟨i, hi, rfl, hW, hA⟩
  dsimp only at hW hA ⊢
  have hm : M2 70 7 = nI n := (hW.mod (by decide) h).2.1
  unfold fX10_findOrder_2_b
  rw [hm]
  by_cases q : n ≤ i
  · left
    have : i = n := by omega
    subst this
    rw [if_pos (nI_le q (by omega))]
    exact ⟨M2, rfl, hW, hA⟩
  · right
    obtain ⟨M3, u1, u2, u3⟩ := m_or12 h (show i < n by omega) hW (sOrd_lt (L := L) (show 0 < n by omega) i (by omega)) hA rec
    exact ⟨e - 1, (nI (i + 1), M3), by omega, ⟨i + 1, by omega, rfl, u1, u2⟩, by rw [if_neg (nI_ge (by omega) (by omega)), u3]⟩
theorem c_sum (h : wRow M 1 n L st hr) (hA : ∀ r, r < n → M 68 r = nI (sOrd L n r)) : fX8_cost M 1 = some (sOSum L (sOrd L n) 0 0 0 n) := by
  have hn := h.1
  unfold fX8_cost fX8_cost_7
  refine wloop_q (fun e t => ∃ r, r + e = n ∧ t.2.2 = nI r ∧ sOSum L (sOrd L n) 0 0 0 n = sOSum L (sOrd L n) r t.1 t.2.1 e) (fun o => o = some (sOSum L (sOrd L n) 0 0 0 n)) ?_ wfuel n (0, 0, 0) ⟨0, by omega, rfl, rfl⟩ (wfuel_lt (by omega))
  rintro rec e ⟨x, y, z⟩ ⟨r, hr1, rfl, hs⟩
  dsimp only at hs ⊢
  unfold fX8_cost_7_b
  rw [h.2.1]
  cases e with
  | zero =>
    left
    rw [if_pos (nI_le (by omega) (by omega)), hs]
    rfl
  | succ e =>
    right
    have hl := sOrd_lt (L := L) (show 0 < n by omega) n (by omega) r
    have k2 : wLp M (1 + 1 + 2 + sOrd L n r) (L (sOrd L n r)) := h.2.2.1 _ hl
    rw [sOSum_s] at hs
    refine ⟨e, (_, _, nI (r + 1)), by omega, ⟨r + 1, by omega, rfl, hs⟩, ?_⟩
    rw [if_neg (nI_ge (by omega) (by omega)), wgi_n (by omega) (by decide), nI_clamp (show r < 2 ^ 31 by omega), hA r (by omega), wgi_n (by omega) (by decide), nI_clamp (by omega), wlet_eq, c_lik k2, Option.bind_some, k2 2 (by decide), wlet_eq, wlet_eq, nI_1]
theorem m_sum (h : wMod M n L st hr) (hA : ∀ r, r < n → M 88 r = nI (sOrd L n r)) : fX10_orderSum_24 M 0 0 0 = some (sOSum L (sOrd L n) 0 0 0 n, M) := by
  have hn := h.1
  unfold fX10_orderSum_24
  refine wloop_q (fun e t => ∃ r, r + e = n ∧ t.2.2 = nI r ∧ sOSum L (sOrd L n) 0 0 0 n = sOSum L (sOrd L n) r t.1 t.2.1 e) (fun o => o = some (sOSum L (sOrd L n) 0 0 0 n, M)) ?_ wfuel n (0, 0, 0) ⟨0, by omega, rfl, rfl⟩ (wfuel_lt (by omega))
  rintro rec e ⟨x, y, z⟩ ⟨r, hr1, rfl, hs⟩
  dsimp only at hs ⊢
  unfold fX10_orderSum_24_b
  rw [h.2.1]
  cases e with
  | zero =>
    left
    rw [if_pos (nI_le (by omega) (by omega)), hs]
    rfl
  | succ e =>
    right
    have hl := sOrd_lt (L := L) (show 0 < n by omega) n (by omega) r
    have k2 : M 74 (sOrd L n r) = L (sOrd L n r) 2 := h.2.2.1 _ hl 2 (by decide)
    rw [sOSum_s] at hs
    refine ⟨e, (_, _, nI (r + 1)), by omega, ⟨r + 1, by omega, rfl, hs⟩, ?_⟩
    rw [if_neg (nI_ge (by omega) (by omega)), wgi_n (by omega) (by decide), nI_clamp (show r < 2 ^ 31 by omega), hA r (by omega), wgi_n (by omega) (by decide), nI_clamp (by omega), wlet_eq, wgi_n (by omega) (by decide), m_lik h hl, Option.bind_some, k2, wlet_eq, wlet_eq, nI_1]
end
