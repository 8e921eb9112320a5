/-! part 35: taking a statement, the model's way -/
def wFt (M M' : wMem) : Prop := (∀ b, (b < 70 ∨ b = 71 ∨ 77 < b) → M' b = M b) ∧ ∀ j, j ≠ 7 → M' 70 j = M 70 j
theorem wFt.rf (M : wMem) : wFt M M := ⟨fun _ _ => rfl, fun _ _ => rfl⟩
theorem wFt.tr {M1 M2 M3 : wMem} (h : wFt M1 M2) (h2 : wFt M2 M3) : wFt M1 M3 := ⟨fun b hb => (h2.1 b hb).trans (h.1 b hb), fun j hj => (h2.2 j hj).trans (h.2 j hj)⟩
section
variable {M : wMem} {n : Nat} {L : Nat → Nat → Int32} {st : Nat → Int32} {hr : Int32}
theorem m_comes (h : wMod M n L st hr) {s : Nat} (hs : s < 32) {k : Int32} {v : Int32 × Int32 × Int32} (hk : M 79 s = k) (hv : wVm M s k v) (hb : sVb k v) (hk4 : k = 100 ∨ k = 103 ∨ k = 112 ∨ k = 117) : ∃ M', fX10_comes M (nI s) = some ((sTk (n, L, st) k v).1, M') ∧ ((sTk (n, L, st) k v).1 = true → wMod M' (sTk (n, L, st) k v).2.1 (sTk (n, L, st) k v).2.2.1 (sTk (n, L, st) k v).2.2.2 hr) ∧ wFt M M' := by
  obtain ⟨a1, a2, a3, rfl, b1, b2, b3, b4, b5⟩ := hb
  have hn := h.1
  have e3 : 3 * nI s = nI (3 * s) := pk_mul 3 s
  have e31 : nI (3 * s) + 1 = nI (3 * s + 1) := nI_1 _
  have e32 : nI (3 * s) + 2 = nI (3 * s + 2) := nI_add _ 2
  have v1 : M 81 (3 * s) = nI a1 := hv.1 hk4
  have w0 : ∀ {β : Type} (x : Option β), wgi (nI (3 * s)) 96 x = x := fun x => wgi_n (by omega) (by decide)
  have w1 : ∀ {β : Type} (x : Option β), wgi (nI (3 * s + 1)) 96 x = x := fun x => wgi_n (by omega) (by decide)
  have w2 : ∀ {β : Type} (x : Option β), wgi (nI (3 * s + 2)) 96 x = x := fun x => wgi_n (by omega) (by decide)
  have c0 : (nI (3 * s)).toNatClampNeg = 3 * s := nI_clamp (by omega)
  have c1 : (nI (3 * s + 1)).toNatClampNeg = 3 * s + 1 := nI_clamp (by omega)
  have c2 : (nI (3 * s + 2)).toNatClampNeg = 3 * s + 2 := nI_clamp (by omega)
  have set : ∀ j, j < 4 → ∃ M', (if wup M 77 j (nI a1) 81 (3 * s) ≤ 0 then some (false, wup M 77 j (nI a1)) else some (true, wup M 77 j (nI a1))) = some (decide ((0 : Int32) < nI a1), M') ∧ ((0 : Int32) < nI a1 → wMod M' n L (sSet st j (nI a1)) hr) ∧ wFt M M' := by
    intro j hj
    refine ⟨wup M 77 j (nI a1), ?_, fun _ => wMod_st h _, fun b hb => wup_cell (by omega), fun i hi => by rw [wup_cell (by decide)]⟩
    rw [wup_cell (by decide), v1]
    by_cases q : (0 : Int32) < nI a1
    · rw [if_neg (Int32.not_le.mpr q), decide_eq_true q]
    · rw [if_pos (Int32.not_lt.mp q), decide_eq_false q]
  unfold fX10_comes
  rw [wlet_eq, wgi_n hs (by decide), nI_clamp (by omega), wlet_eq, hk, e3]
  by_cases k2 : k = 103
  · rw [if_pos k2, w0, w34, wlet_eq, w0, c0, cl3, v1]
    obtain ⟨M', u1, u2, u3⟩ := set 3 (by decide)
    rw [u1]
    unfold sTk
    rw [if_neg (show ¬ k = 100 by rw [k2]; decide), if_pos k2]
    dsimp only
    by_cases q : (0 : Int32) < nI a1
    · rw [if_pos q, decide_eq_true q]
      exact ⟨M', rfl, fun _ => u2 q, u3⟩
    · rw [if_neg q, decide_eq_false q]
      exact ⟨M', rfl, fun z => (Bool.false_ne_true z).elim, u3⟩
  rw [if_neg k2]
  by_cases k3 : k = 112
  · rw [if_pos k3]
    have b4' := b4 (Or.inr k3)
    have v2 : M 81 (3 * s + 1) = nI a2 := hv.2.1 (Or.inr k3)
    have v3 : M 81 (3 * s + 2) = nI a3 := hv.2.2 k3
    unfold fX10_comesLamp
    rw [w0, e31, e32, w1, w2, c0, c1, c2, v1, v2, v3, h.2.1]
    unfold sTk
    rw [if_neg (show ¬ k = 100 by rw [k3]; decide), if_neg k2, if_pos k3]
    dsimp only
    by_cases q1 : 5 < nI a1
    · rw [if_pos q1, if_neg (fun z => Int32.not_le.mpr q1 z.1)]
      exact ⟨M, rfl, fun z => (Bool.false_ne_true z).elim, wFt.rf M⟩
    rw [if_neg q1]
    by_cases q2 : nI a2 = 0
    · rw [if_pos q2, if_neg (fun z => z.2.1 q2)]
      exact ⟨M, rfl, fun z => (Bool.false_ne_true z).elim, wFt.rf M⟩
    rw [if_neg q2]
    by_cases q3 : nI a3 = 0
    · rw [if_pos q3, if_neg (fun z => z.2.2.1 q3)]
      exact ⟨M, rfl, fun z => (Bool.false_ne_true z).elim, wFt.rf M⟩
    rw [if_neg q3]
    by_cases q4 : n = 12
    · rw [if_pos (by rw [q4]; rfl), if_neg (fun z => by have := z.2.2.2; omega)]
      exact ⟨M, rfl, fun z => (Bool.false_ne_true z).elim, wFt.rf M⟩
    have g4 : ¬ nI n = 12 := fun z => q4 ((nI_eq (b := 12) (by omega) (by decide)).mp z)
    have hn12 : n < 12 := by omega
    rw [if_neg g4, if_pos ⟨Int32.not_lt.mp q1, q2, q3, hn12⟩, w0, wgi_n hn12 (by decide), nI_clamp (by omega)]
    have r7 : ∀ (N : wMem) (b x : Nat) (y : Int32), b ≠ 70 → N 70 7 = nI n → wup N b x y 70 7 = nI n := fun N b x y hb hN => by rw [wup_cell (fun z => hb z.symm)]; exact hN
    obtain ⟨Ma, hMa⟩ : ∃ Ma, Ma = wup M 72 n (nI a1) := ⟨_, rfl⟩
    have ma7 : Ma 70 7 = nI n := by rw [hMa]; exact r7 _ _ _ _ (by decide) h.2.1
    have ma81 : Ma 81 (3 * s + 1) = nI a2 := by rw [hMa, wup_cell (by decide)]; exact v2
    obtain ⟨Mb, hMb⟩ : ∃ Mb, Mb = wup Ma 73 n (nI a2) := ⟨_, rfl⟩
    have mb7 : Mb 70 7 = nI n := by rw [hMb]; exact r7 _ _ _ _ (by decide) ma7
    have mb81 : Mb 81 (3 * s + 2) = nI a3 := by rw [hMb, wup_cell (by decide), hMa, wup_cell (by decide)]; exact v3
    obtain ⟨Mc, hMc⟩ : ∃ Mc, Mc = wup Mb 74 n (nI a3) := ⟨_, rfl⟩
    have mc7 : Mc 70 7 = nI n := by rw [hMc]; exact r7 _ _ _ _ (by decide) mb7
    obtain ⟨Md, hMd⟩ : ∃ Md, Md = wup Mc 75 n 0 := ⟨_, rfl⟩
    have md7 : Md 70 7 = nI n := by rw [hMd]; exact r7 _ _ _ _ (by decide) mc7
    obtain ⟨Me, hMe⟩ : ∃ Me, Me = wup Md 76 n 0 := ⟨_, rfl⟩
    have me7 : Me 70 7 = nI n := by rw [hMe]; exact r7 _ _ _ _ (by decide) md7
    have off : ∀ b, (b < 72 ∨ 76 < b) → Me b = M b := fun b hb => by rw [hMe, wup_cell (by omega), hMd, wup_cell (by omega), hMc, wup_cell (by omega), hMb, wup_cell (by omega), hMa, wup_cell (by omega)]
    have offs : ∀ b j, j ≠ n → Me b j = M b j := fun b j hj => by rw [hMe, wup_slot hj, hMd, wup_slot hj, hMc, wup_slot hj, hMb, wup_slot hj, hMa, wup_slot hj]
    have at0 : ∀ f, f < 5 → Me (72 + f) n = sLamp (nI a1, nI a2, nI a3) f := by
      intro f hf
      match f, hf with
      | 0, _ => rw [hMe, wup_cell (by decide), hMd, wup_cell (by decide), hMc, wup_cell (by decide), hMb, wup_cell (by decide), hMa, wup_same]; rfl
      | 1, _ => rw [hMe, wup_cell (by decide), hMd, wup_cell (by decide), hMc, wup_cell (by decide), hMb, wup_same]; rfl
      | 2, _ => rw [hMe, wup_cell (by decide), hMd, wup_cell (by decide), hMc, wup_same]; rfl
      | 3, _ => rw [hMe, wup_cell (by decide), hMd, wup_same]; rfl
      | 4, _ => rw [hMe, wup_same]; rfl
    refine ⟨wup Me 70 7 (nI (n + 1)), ?_, fun _ => ⟨by show n + 1 ≤ 12; omega, wup_same _ _ _ _, ?_, ?_, ?_⟩, fun b hb => by rw [wup_cell (by omega)]; exact off b (by omega), fun j hj => by rw [wup_slot hj]; exact congrFun (off 70 (by omega)) j⟩
    · rw [wlet_eq, ← hMa, w1, ma7, wgi_n hn12 (by decide), nI_clamp (by omega), ma81, wlet_eq, ← hMb, w2, mb7, wgi_n hn12 (by decide), nI_clamp (by omega), mb81, wlet_eq, ← hMc, mc7, wgi_n hn12 (by decide), nI_clamp (by omega), wlet_eq, ← hMd, md7, wgi_n hn12 (by decide), nI_clamp (by omega), wlet_eq, ← hMe, me7, nI_1, wlet_eq]
      rfl
    · intro i hi f hf
      have hi' : i < n + 1 := hi
      show _ = (if i = n then sLamp (nI a1, nI a2, nI a3) else L i) f
      rw [wup_cell (by omega)]
      by_cases z : i = n
      · rw [if_pos z, z]
        exact at0 f hf
      · rw [if_neg z, offs _ _ z]
        exact h.2.2.1 i (by omega) f hf
    · intro j hj
      rw [wup_cell (by omega), off _ (by omega)]
      exact h.2.2.2.1 j hj
    · rw [wup_slot (by decide), off _ (by omega)]
      exact h.2.2.2.2
  rw [if_neg k3]
  by_cases k4 : k = 117
  · rw [if_pos k4, w0, w04, wlet_eq, w0, c0, cl0, v1]
    obtain ⟨M', u1, u2, u3⟩ := set 0 (by decide)
    rw [u1]
    unfold sTk
    rw [if_neg (show ¬ k = 100 by rw [k4]; decide), if_neg k2, if_neg k3, if_pos k4]
    dsimp only
    by_cases q : (0 : Int32) < nI a1
    · rw [if_pos q, decide_eq_true q]
      exact ⟨M', rfl, fun _ => u2 q, u3⟩
    · rw [if_neg q, decide_eq_false q]
      exact ⟨M', rfl, fun z => (Bool.false_ne_true z).elim, u3⟩
  have k1 : k = 100 := by
    rcases hk4 with y | y | y | y
    · exact y
    · exact absurd y k2
    · exact absurd y k3
    · exact absurd y k4
  have v2 : M 81 (3 * s + 1) = nI a2 := hv.2.1 (Or.inl k1)
  rw [if_neg k4, w0, c0, v1, m_lamp h, Option.bind_some, e31, w1, c1, v2]
  unfold sTk
  rw [if_pos k1]
  dsimp only
  by_cases q1 : ¬ nI a1 < 0 ∧ ¬ nI n ≤ nI a1
  · obtain ⟨i, hi, e⟩ := i_ix q1.1 q1.2 (by omega)
    have e2 : (nI a1).toNatClampNeg = i := by rw [e]; exact nI_clamp (by omega)
    rw [decide_eq_true q1, if_neg wb_tn]
    by_cases q2 : nI a2 ≤ 3
    · have w12 : ∀ {β : Type} (x : Option β), wgi (nI a1) 12 x = x := fun x => by rw [e]; exact wgi_n (by omega) (by decide)
      rw [if_pos q2, if_pos ⟨q1, q2⟩, w0, w1, w12, e2, wlet_eq]
      refine ⟨wup M 76 i (nI a2), rfl, fun _ => ⟨hn, ?_, ?_, ?_, ?_⟩, fun b hb => wup_cell (by omega), fun j hj => by rw [wup_cell (by decide)]⟩
      · rw [wup_cell (by decide)]
        exact h.2.1
      · intro j hj f hf
        show _ = (if j = i then sSet (L i) 4 (nI a2) else L j) f
        by_cases z : j = i
        · rw [if_pos z, z]
          by_cases y : f = 4
          · rw [y, sSet_same]
            exact wup_same _ _ _ _
          · rw [sSet_ne y, wup_cell (by omega)]
            exact h.2.2.1 i hi f hf
        · rw [if_neg z, wup_slot z]
          exact h.2.2.1 j hj f hf
      · intro j hj
        rw [wup_cell (by omega)]
        exact h.2.2.2.1 j hj
      · rw [wup_cell (by decide)]
        exact h.2.2.2.2
    · rw [if_neg q2, if_neg (fun z => q2 z.2)]
      exact ⟨M, rfl, fun z => (Bool.false_ne_true z).elim, wFt.rf M⟩
  · rw [decide_eq_false q1, if_pos wb_fa, if_neg (fun z => q1 z.1)]
    exact ⟨M, rfl, fun z => (Bool.false_ne_true z).elim, wFt.rf M⟩
end
