/-! part 34: taking a statement -/
theorem sRd_val {A : Nat → Int32} {t : Nat} (hA : ∀ i, i < t → ∃ a : Nat, a < 256 ∧ A i = nI a) : ∀ m q w, ∃ w', (sRd A t m q (nI w)).1 = nI w' ∧ w' < (w + 1) * 10 ^ m
  | 0, q, w => ⟨w, rfl, by rw [Nat.pow_zero]; omega⟩
  | m + 1, q, w => by
    rw [sRd_s, Nat.pow_succ]
    by_cases z : sDg (sLet A t q) = true
    · rw [if_pos z]
      obtain ⟨z1, z2⟩ : ¬ sLet A t q < 48 ∧ ¬ 57 < sLet A t q := of_decide_eq_true z
      by_cases y : q < t
      · obtain ⟨a, ha, e⟩ := hA q y
        have e1 : sLet A t q = nI a := (if_pos y).trans e
        rw [e1] at z1 z2 ⊢
        have h1 : 48 ≤ a := by
          have := mt (nI_ltI (b := 48) (by omega) (by decide)).mpr z1
          omega
        have h2 : a ≤ 57 := by
          have := mt (nI_ltI (a := 57) (by decide) (by omega)).mpr z2
          omega
        have e2 : 10 * nI w + nI a - 48 = nI (10 * w + a - 48) := by
          show nI 10 * nI w + nI a - nI 48 = _
          rw [pk_mul, nI_add, pk_sub (by omega)]
        rw [e2]
        obtain ⟨w', h3, h4⟩ := sRd_val hA m (q + 1) (10 * w + a - 48)
        refine ⟨w', h3, Nat.lt_of_lt_of_le h4 ?_⟩
        have h5 : (10 * w + a - 48 + 1) * 10 ^ m ≤ ((w + 1) * 10) * 10 ^ m := Nat.mul_le_mul_right _ (by omega)
        rw [Nat.mul_assoc, Nat.mul_comm 10 (10 ^ m)] at h5
        exact h5
      · have e1 : sLet A t q = -1 := if_neg y
        rw [e1] at z1
        exact absurd (by decide) z1
    · rw [if_neg z]
      refine ⟨w, rfl, ?_⟩
      have h1 : 0 < 10 ^ m * 10 := Nat.mul_pos (Nat.pow_pos (by decide)) (by decide)
      have h2 : w + 1 ≤ (w + 1) * (10 ^ m * 10) := Nat.le_mul_of_pos_right _ h1
      omega
theorem sNm_val {A : Nat → Int32} {t : Nat} (hA : ∀ i, i < t → ∃ a : Nat, a < 256 ∧ A i = nI a) (m : Nat) (b : Bool × Nat) : ∃ w, (sNm A t m b).1 = nI w ∧ w < 10 ^ m := by
  unfold sNm
  by_cases q : b.1 = true
  · rw [if_pos q]
    obtain ⟨w, h1, h2⟩ := sRd_val hA m b.2 0
    exact ⟨w, h1, by omega⟩
  · rw [if_neg q]
    exact ⟨0, rfl, Nat.pow_pos (by decide)⟩
/-- what the numbers of a statement are within -/
def sVb (k : Int32) (v : Int32 × Int32 × Int32) : Prop := ∃ a1 a2 a3 : Nat, v = (nI a1, nI a2, nI a3) ∧ a1 < 1000 ∧ a2 < 100 ∧ a3 < 10 ∧ (k = 103 ∨ k = 112 → a1 < 10) ∧ (k = 100 → a2 < 10)
theorem sStm_val {A : Nat → Int32} {t : Nat} (hA : ∀ i, i < t → ∃ a : Nat, a < 256 ∧ A i = nI a) (q : Nat) : sVb (sLet A t q) (sStm A t q).2 := by
  unfold sStm sVb
  by_cases k1 : sLet A t q = 100
  · rw [if_pos k1]
    obtain ⟨w1, e1, h1⟩ := sNm_val hA 2 (true, q + 1)
    obtain ⟨w2, e2, h2⟩ := sNm_val hA 1 (sSg A t 44 (sNm A t 2 (true, q + 1)).2)
    refine ⟨w1, w2, 0, by rw [e1, e2]; rfl, by omega, by omega, by omega, fun y => ?_, fun _ => by omega⟩
    rw [k1] at y
    exact absurd y (by decide)
  rw [if_neg k1]
  by_cases k2 : sLet A t q = 103
  · rw [if_pos k2]
    obtain ⟨w1, e1, h1⟩ := sNm_val hA 1 (true, q + 1)
    exact ⟨w1, 0, 0, by rw [e1]; rfl, by omega, by omega, by omega, fun _ => by omega, fun y => absurd y k1⟩
  rw [if_neg k2]
  by_cases k3 : sLet A t q = 112
  · rw [if_pos k3]
    obtain ⟨w1, e1, h1⟩ := sNm_val hA 1 (true, q + 1)
    obtain ⟨w2, e2, h2⟩ := sNm_val hA 2 (sNm A t 1 (true, q + 1)).2
    obtain ⟨w3, e3, h3⟩ := sNm_val hA 1 (sSg A t 44 (sNm A t 2 (sNm A t 1 (true, q + 1)).2).2)
    exact ⟨w1, w2, w3, by rw [e1, e2, e3], by omega, by omega, by omega, fun _ => by omega, fun y => absurd y k1⟩
  rw [if_neg k3]
  by_cases k4 : sLet A t q = 117
  · rw [if_pos k4]
    obtain ⟨w1, e1, h1⟩ := sNm_val hA 3 (true, q + 1)
    exact ⟨w1, 0, 0, by rw [e1]; rfl, by omega, by omega, by omega, fun y => absurd y (fun y => y.elim k2 k3), fun y => absurd y k1⟩
  rw [if_neg k4]
  exact ⟨0, 0, 0, rfl, by omega, by omega, by omega, fun y => absurd y (fun y => y.elim k2 k3), fun y => absurd y k1⟩
abbrev wRw := Nat × (Nat → Nat → Int32) × (Nat → Int32)
def sLamp (v : Int32 × Int32 × Int32) : Nat → Int32 := fun f => if f = 0 then v.1 else if f = 1 then v.2.1 else if f = 2 then v.2.2 else 0
def sTk (w : wRw) (k : Int32) (v : Int32 × Int32 × Int32) : Bool × wRw :=
  if k = 100 then (if (¬ v.1 < 0 ∧ ¬ nI w.1 ≤ v.1) ∧ v.2.1 ≤ 3 then (true, w.1, (fun j => if j = v.1.toNatClampNeg then sSet (w.2.1 v.1.toNatClampNeg) 4 v.2.1 else w.2.1 j), w.2.2) else (false, w))
  else if k = 103 then (if 0 < v.1 then (true, w.1, w.2.1, sSet w.2.2 3 v.1) else (false, w))
  else if k = 112 then (if v.1 ≤ 5 ∧ ¬ v.2.1 = 0 ∧ ¬ v.2.2 = 0 ∧ w.1 < 12 then (true, w.1 + 1, (fun j => if j = w.1 then sLamp v else w.2.1 j), w.2.2) else (false, w))
  else if k = 117 then (if 0 < v.1 then (true, w.1, w.2.1, sSet w.2.2 0 v.1) else (false, w))
  else (false, w)
section
variable {M : wMem} {n : Nat} {L : Nat → Nat → Int32} {st : Nat → Int32} {hr : Int32}
theorem c_setting (h : wRow M 32 n L st hr) {j a : Nat} (hj : j < 4) (h0 : wtab 0 j = 1) (h1 : nI a ≤ wtab 1 j) (ha : a < 2 ^ 31) : ∃ M', fX5_takeSetting M 32 (nI j) (nI a) = some (decide ((0 : Int32) < nI a), M') ∧ ((0 : Int32) < nI a → wRow M' 32 n L (sSet st j (nI a)) hr) ∧ wOff 32 M M' := by
  unfold fX5_takeSetting
  rw [wgi_n hj (by decide), nI_clamp (by omega), h0]
  by_cases q : (0 : Int32) < nI a
  · have q' : 0 < a := (nI_ltI (a := 0) (by decide) ha).mp q
    have g : ¬ nI a < 1 := fun z => by
      have := (nI_ltI (b := 1) ha (by decide)).mp z
      omega
    have b := wRow_st h (j := j) (nI a)
    refine ⟨wup M 34 j (nI a), ?_, fun _ => b.1, b.2⟩
    rw [if_neg g, wgi_n hj (by decide), if_pos h1, wgi_n hj (by decide), wlet_eq, decide_eq_true q]
  · have q' : ¬ 0 < a := fun z => q ((nI_ltI (a := 0) (by decide) ha).mpr z)
    have g : nI a < 1 := (nI_ltI (b := 1) ha (by decide)).mpr (by omega)
    exact ⟨M, by rw [if_pos g, decide_eq_false q], fun z => absurd z q, wOff.rf 32 M⟩
theorem c_take (h : wRow M 32 n L st hr) {k : Int32} {v : Int32 × Int32 × Int32} (hk : M 49 0 = k) (hv : wVl M k v) (hb : sVb k v) : ∃ M', fX5_take M 32 = some ((sTk (n, L, st) k v).1, M') ∧ ((sTk (n, L, st) k v).1 = true → wRow M' 32 (sTk (n, L, st) k v).2.1 (sTk (n, L, st) k v).2.2.1 (sTk (n, L, st) k v).2.2.2 hr) ∧ wOff 32 M M' := by
  obtain ⟨a1, a2, a3, rfl, b1, b2, b3, b4, b5⟩ := hb
  have hn := h.1
  unfold fX5_take sTk
  rw [wlet_eq, hk]
  dsimp only
  by_cases k1 : k = 100
  · rw [if_pos k1, if_pos k1, hv.1 (Or.inl k1), hv.2.1 (Or.inl k1)]
    unfold fX5_takeCondition
    dsimp only
    rw [c_has h, Option.bind_some]
    by_cases q1 : ¬ nI a1 < 0 ∧ ¬ nI n ≤ nI a1
    · obtain ⟨i, hi, e⟩ := i_ix q1.1 q1.2 (by omega)
      have e2 : (nI a1).toNatClampNeg = i := by rw [e]; exact nI_clamp (by omega)
      rw [decide_eq_true q1, if_neg wb_tn, if_neg (nI_pos (by omega))]
      by_cases q2 : nI a2 ≤ 3
      · have u2 : wLp (wup M (32 + 1 + 2 + i) 4 (nI a2)) (32 + 1 + 2 + i) (sSet (L i) 4 (nI a2)) := wLp_set (h.2.2.1 i hi) _
        have u4 := wRow_lamp (L' := fun j => if j = i then sSet (L i) 4 (nI a2) else L j) h hi u2 (fun b hb => wup_cell hb) (if_pos rfl) (fun j _ hj => if_neg hj)
        rw [if_pos q2, if_pos ⟨q1, q2⟩, e2, e, wgi_n (by omega) (by decide), wlet_eq]
        exact ⟨_, rfl, fun _ => u4.1, u4.2⟩
      · rw [if_neg q2, if_neg (fun z => q2 z.2)]
        exact ⟨M, rfl, fun z => (Bool.false_ne_true z).elim, wOff.rf 32 M⟩
    · rw [decide_eq_false q1, if_pos wb_fa, if_neg (fun z => q1 z.1)]
      exact ⟨M, rfl, fun z => (Bool.false_ne_true z).elim, wOff.rf 32 M⟩
  rw [if_neg k1, if_neg k1]
  by_cases k2 : k = 103
  · rw [if_pos k2, if_pos k2, hv.1 (Or.inr (Or.inl k2))]
    have b4' := b4 (Or.inl k2)
    obtain ⟨M', u1, u2, u3⟩ := c_setting h (j := 3) (a := a1) (by decide) rfl (nI_le (b := 9) (by omega) (by decide)) (by omega)
    dsimp only
    rw [show fX5_takeSetting M 32 3 (nI a1) = _ from u1, Option.bind_some, wpr_e]
    by_cases q : (0 : Int32) < nI a1
    · rw [if_pos q, decide_eq_true q]
      exact ⟨M', rfl, fun _ => u2 q, u3⟩
    · rw [if_neg q, decide_eq_false q]
      exact ⟨M', rfl, fun z => (Bool.false_ne_true z).elim, u3⟩
  rw [if_neg k2, if_neg k2]
  by_cases k3 : k = 112
  · rw [if_pos k3, if_pos k3, hv.1 (Or.inr (Or.inr (Or.inl k3))), hv.2.1 (Or.inr k3), hv.2.2 k3]
    dsimp only
    have b4' := b4 (Or.inr k3)
    unfold fX5_addLamp fX5_addLamp_35 fX5_addLamp_36
    rw [if_neg (nI_pos (by omega))]
    by_cases q1 : 5 < nI a1
    · rw [if_pos q1, if_pos (show (0 : Int32) = 0 from rfl), if_neg (fun z => Int32.not_le.mpr q1 z.1)]
      exact ⟨M, rfl, fun z => (Bool.false_ne_true z).elim, wOff.rf 32 M⟩
    · rw [if_neg q1]
      by_cases q2 : nI a2 = 0
      · rw [if_pos (show nI a2 < 1 by rw [q2]; decide), if_pos (show (0 : Int32) = 0 from rfl), if_neg (fun z => z.2.1 q2)]
        exact ⟨M, rfl, fun z => (Bool.false_ne_true z).elim, wOff.rf 32 M⟩
      · have q2' : ¬ a2 = 0 := fun z => q2 (by rw [z]; rfl)
        have g2 : ¬ nI a2 < 1 := fun z => by
          have := (nI_ltI (b := 1) (by omega) (by decide)).mp z
          omega
        have g3 : ¬ 99 < nI a2 := fun z => by
          have := (nI_ltI (a := 99) (by decide) (by omega)).mp z
          omega
        rw [if_neg g2, if_neg g3]
        by_cases q3 : nI a3 = 0
        · rw [if_pos (show nI a3 < 1 by rw [q3]; decide), if_pos (show (0 : Int32) = 0 from rfl), if_neg (fun z => z.2.2.1 q3)]
          exact ⟨M, rfl, fun z => (Bool.false_ne_true z).elim, wOff.rf 32 M⟩
        · have q3' : ¬ a3 = 0 := fun z => q3 (by rw [z]; rfl)
          have g4 : ¬ nI a3 < 1 := fun z => by
            have := (nI_ltI (b := 1) (by omega) (by decide)).mp z
            omega
          have g5 : ¬ 9 < nI a3 := fun z => by
            have := (nI_ltI (a := 9) (by decide) (by omega)).mp z
            omega
          rw [if_neg g4, if_neg g5, if_neg (by decide), h.2.1]
          by_cases q4 : n < 12
          · have g6 : nI n < (12 : Int32) := (nI_ltI (b := 12) (by omega) (by decide)).mpr q4
            rw [if_pos g6, if_pos ⟨Int32.not_lt.mp q1, q2, q3, q4⟩, wgi_n q4 (by decide), nI_clamp (by omega)]
            unfold fX1_begin fX1_putAnew
            obtain ⟨M7, hM7⟩ : ∃ M7, M7 = wup (wup (wup (wup (wup M (32 + 1 + 2 + n) 0 (nI a1)) (32 + 1 + 2 + n) 1 (nI a2)) (32 + 1 + 2 + n) 2 (nI a3)) (32 + 1 + 2 + n) 3 0) (32 + 1 + 2 + n) 4 0 := ⟨_, rfl⟩
            have o7 : ∀ b, b ≠ 32 + 1 + 2 + n → M7 b = M b := fun b hb => by rw [hM7, wup_cell hb, wup_cell hb, wup_cell hb, wup_cell hb, wup_cell hb]
            have e32 : M7 32 2 = nI n := by rw [o7 32 (by omega)]; exact h.2.1
            have v7 : wLp M7 (32 + 1 + 2 + n) (sLamp (nI a1, nI a2, nI a3)) := by
              intro f hf
              rw [hM7]
              match f, hf with
              | 0, _ => rw [wup_slot (by decide), wup_slot (by decide), wup_slot (by decide), wup_slot (by decide), wup_same]; rfl
              | 1, _ => rw [wup_slot (by decide), wup_slot (by decide), wup_slot (by decide), wup_same]; rfl
              | 2, _ => rw [wup_slot (by decide), wup_slot (by decide), wup_same]; rfl
              | 3, _ => rw [wup_slot (by decide), wup_same]; rfl
              | 4, _ => rw [wup_same]; rfl
            refine ⟨wup M7 32 2 (nI (n + 1)), ?_, fun _ => ⟨by show n + 1 ≤ 12; omega, wup_same _ _ _ _, ?_, ?_, ?_⟩, fun b hb => by rw [wup_cell (by omega)]; exact o7 b (by omega)⟩
            · simp only [wlet_eq, Option.bind_some]
              rw [← hM7, e32, nI_1]
              rfl
            · intro i hi f hf
              have hi' : i < n + 1 := hi
              show _ = (if i = n then sLamp (nI a1, nI a2, nI a3) else L i) f
              rw [wup_cell (by omega)]
              by_cases z : i = n
              · rw [if_pos z, z]
                exact v7 f hf
              · rw [if_neg z, o7 _ (by omega)]
                exact h.2.2.1 i (by omega) f hf
            · intro j hj
              rw [wup_cell (by omega), o7 _ (by omega)]
              exact h.2.2.2.1 j hj
            · rw [wup_slot (by decide), o7 _ (by omega)]
              exact h.2.2.2.2
          · have g6 : ¬ nI n < (12 : Int32) := fun z => q4 ((nI_ltI (b := 12) (by omega) (by decide)).mp z)
            rw [if_neg g6, if_neg (fun z => q4 z.2.2.2)]
            exact ⟨M, rfl, fun z => (Bool.false_ne_true z).elim, wOff.rf 32 M⟩
  rw [if_neg k3, if_neg k3]
  by_cases k4 : k = 117
  · rw [if_pos k4, if_pos k4, hv.1 (Or.inr (Or.inr (Or.inr k4)))]
    obtain ⟨M', u1, u2, u3⟩ := c_setting h (j := 0) (a := a1) (by decide) rfl (nI_le (b := 999) (by omega) (by decide)) (by omega)
    dsimp only
    rw [show fX5_takeSetting M 32 0 (nI a1) = _ from u1, Option.bind_some, wpr_e]
    by_cases q : (0 : Int32) < nI a1
    · rw [if_pos q, decide_eq_true q]
      exact ⟨M', rfl, fun _ => u2 q, u3⟩
    · rw [if_neg q, decide_eq_false q]
      exact ⟨M', rfl, fun z => (Bool.false_ne_true z).elim, u3⟩
  rw [if_neg k4, if_neg k4]
  exact ⟨M, rfl, fun z => (Bool.false_ne_true z).elim, wOff.rf 32 M⟩
end
