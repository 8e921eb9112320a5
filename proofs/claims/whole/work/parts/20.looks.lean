/-! ===== Int32 by its bits: bt x i ===== -/
def bt (x : Int32) (i : Nat) : Bool := x.toBitVec.getLsbD i
theorem b_ext {x y : Int32} (h : ∀ i, i < 32 → bt x i = bt y i) : x = y := Int32.toBitVec_inj.mp (BitVec.eq_of_getLsbD_eq (fun i hi => h i hi))
theorem b_or (x y : Int32) (i : Nat) : bt (x ||| y) i = (bt x i || bt y i) := by unfold bt; rw [Int32.toBitVec_or, BitVec.getLsbD_or]
theorem b_and (x y : Int32) (i : Nat) : bt (x &&& y) i = (bt x i && bt y i) := by unfold bt; rw [Int32.toBitVec_and, BitVec.getLsbD_and]
theorem b_xor (x y : Int32) (i : Nat) : bt (x ^^^ y) i = (bt x i ^^ bt y i) := by unfold bt; rw [Int32.toBitVec_xor, BitVec.getLsbD_xor]
theorem b_big {x : Int32} {i : Nat} (h : 32 ≤ i) : bt x i = false := BitVec.getLsbD_of_ge _ _ h
theorem b_255 (i : Nat) : bt 255 i = decide (i < 8) := by
  rcases Nat.lt_or_ge i 32 with h | h
  · exact (by decide +kernel : ∀ i, i < 32 → bt 255 i = decide (i < 8)) i h
  · rw [b_big h, decide_eq_false (by omega)]
theorem b_65535 (i : Nat) : bt 65535 i = decide (i < 16) := by
  rcases Nat.lt_or_ge i 32 with h | h
  · exact (by decide +kernel : ∀ i, i < 32 → bt 65535 i = decide (i < 16)) i h
  · rw [b_big h, decide_eq_false (by omega)]
theorem b_m1 : ∀ i, i < 32 → bt (-1) i = true := by decide +kernel
theorem b_0 (i : Nat) : bt 0 i = false := BitVec.getLsbD_zero
theorem s_l : ∀ n, n < 32 → ((nI n &&& 31).toBitVec.smod 32).toNat = n := by decide +kernel
theorem s_u : ∀ n, n < 32 → (((nI n).toUInt32 &&& Int32.toUInt32 31).toBitVec % 32).toNat = n := by decide +kernel
theorem b_shl (n : Nat) (hn : n < 32) (x : Int32) {i : Nat} (hi : i < 32) : bt (x <<< (nI n &&& 31)) i = (decide (n ≤ i) && bt x (i - n)) := by
  unfold bt
  rw [Int32.toBitVec_shiftLeft]
  show (x.toBitVec <<< ((nI n &&& 31).toBitVec.smod 32).toNat).getLsbD i = _
  rw [s_l n hn, BitVec.getLsbD_shiftLeft]
  rcases Nat.lt_or_ge i n with h | h
  · simp [h, Nat.not_le.mpr h]
  · simp [hi, h, Nat.not_lt.mpr h]
theorem b_ushr (n : Nat) (hn : n < 32) (x : Int32) (i : Nat) : bt ((x.toUInt32 >>> ((nI n).toUInt32 &&& Int32.toUInt32 31)).toInt32) i = bt x (n + i) := by
  show (x.toUInt32 >>> ((nI n).toUInt32 &&& Int32.toUInt32 31)).toBitVec.getLsbD i = x.toUInt32.toBitVec.getLsbD (n + i)
  rw [UInt32.toBitVec_shiftRight]
  show (x.toUInt32.toBitVec >>> (((nI n).toUInt32 &&& Int32.toUInt32 31).toBitVec % 32).toNat).getLsbD i = _
  rw [s_u n hn, BitVec.getLsbD_ushiftRight]
theorem b_sshr (n : Nat) (hn : n < 32) (x : Int32) {i : Nat} (hi : i < 32) : bt (x >>> (nI n &&& 31)) i = if n + i < 32 then bt x (n + i) else bt x 31 := by
  unfold bt
  rw [Int32.toBitVec_shiftRight]
  show (x.toBitVec.sshiftRight ((nI n &&& 31).toBitVec.smod 32).toNat).getLsbD i = _
  rw [s_l n hn, BitVec.getLsbD_sshiftRight, BitVec.msb_eq_getLsbD_last]
  simp [hi]
/-! part 20: told looks, and which goes first -/
theorem b_1 : ∀ i, i < 32 → bt 1 i = decide (i = 0) := by decide +kernel
theorem b_one {j i : Nat} (hj : j < 32) (hi : i < 32) : bt ((1 : Int32) <<< (nI j &&& 31)) i = decide (i = j) := by
  rw [b_shl j hj 1 hi, b_1 _ (by omega)]
  by_cases q : i = j
  · subst q
    simp
  · by_cases z : j ≤ i
    · have : ¬ (i - j = 0) := by omega
      simp [z, q, this]
    · simp [z, q]
theorem b_mask : ∀ p, p < 13 → ∀ i, i < 32 → bt (((1 : Int32) <<< (nI p &&& 31)) - 1) i = decide (i < p) := by decide +kernel
theorem b_not (x : Int32) {i : Nat} (hi : i < 32) : bt (x ^^^ (-1)) i = !bt x i := by
  rw [b_xor, b_m1 i hi]
  cases bt x i <;> rfl
theorem b_and1 (x : Int32) : (x &&& 1 = 0) ↔ bt x 0 = false := by
  constructor
  · intro h
    have := congrArg (fun y => bt y 0) h
    simp only [b_and, b_1 0 (by decide), b_0] at this
    simpa using this
  · intro h
    apply b_ext
    intro i hi
    rw [b_and, b_1 i hi, b_0]
    by_cases q : i = 0
    · subst q
      simp [h]
    · simp [q]
theorem b_has (x : Int32) {l : Nat} (hl : l < 32) : ((x >>> (nI l &&& 31)) &&& 1 = 0) ↔ bt x l = false := by
  rw [b_and1, b_sshr l hl x (by decide)]
  simp [hl]
/-- of lamp l: by the first m looks it may be the dead one -/
def sMay (p a : Nat → Nat) (l : Nat) : Nat → Bool
  | 0 => true
  | m + 1 => sMay p a l m && (decide (p m ≤ l) == decide (a m = 1))
def sOp (p a : Nat → Nat) (m : Nat) : Nat → Int32
  | 0 => 0
  | l + 1 => sOp p a m l ||| (if sMay p a l m = true then (1 : Int32) <<< (nI l &&& 31) else 0)
theorem sOp_bits (p a : Nat → Nat) (m : Nat) : ∀ n, n ≤ 12 → ∀ i, i < 32 → bt (sOp p a m n) i = (decide (i < n) && sMay p a i m)
  | 0, _, i, _ => by simp [sOp, b_0]
  | n + 1, hn, i, hi => by
    rw [sOp, b_or, sOp_bits p a m n (by omega) i hi]
    have e : bt (if sMay p a n m = true then (1 : Int32) <<< (nI n &&& 31) else 0) i = (decide (i = n) && sMay p a n m) := by
      cases hm : sMay p a n m
      · simp [b_0]
      · simp [b_one (show n < 32 by omega) hi]
    rw [e]
    by_cases q : i = n
    · subst q
      simp
    · by_cases z : i < n
      · simp [q, z, show i < n + 1 by omega]
      · simp [q, z, show ¬ i < n + 1 by omega]
def wTold (M : wMem) (c : Nat) (p a : Nat → Nat) : Prop := c ≤ 6 ∧ M 50 2 = nI c ∧ ∀ k, k < c → M 51 k = nI (p k) ∧ M 52 k = nI (a k) ∧ p k < 12 ∧ a k < 2
def wToldM (M : wMem) (c : Nat) (p a : Nat → Nat) : Prop := c ≤ 6 ∧ M 70 28 = nI c ∧ ∀ k, k < c → M 89 k = nI (p k) ∧ M 90 k = nI (a k) ∧ p k < 12 ∧ a k < 2
section
variable {M : wMem} {n : Nat} {L : Nat → Nat → Int32} {st : Nat → Int32} {hr : Int32} {c : Nat} {p a : Nat → Nat}
theorem c_left (ht : wTold M c p a) {m : Nat} (hm : m ≤ c) (hn : n ≤ 12) : fX3_leftAfter M (nI m) (nI n) = some (sOp p a m n) := by
  have hc := ht.1
  simp only [fX3_leftAfter, wlet_eq]
  unfold fX3_leftAfter_9
  refine wloop_q (fun d t => ∃ j, j + d = m ∧ t.2 = nI j ∧ ∀ i, i < 32 → bt t.1 i = (decide (i < n) && sMay p a i j)) (fun o => o = some (sOp p a m n)) ?_ wfuel m (((1 : Int32) <<< (nI n &&& 31)) - 1, 0) ⟨0, by omega, rfl, fun i hi => by rw [b_mask n (by omega) i hi]; simp [sMay]⟩ (wfuel_lt (by omega))
  rintro rec d ⟨x, y⟩ ⟨j, hj, rfl, hx⟩
  dsimp only at hx ⊢
  unfold fX3_leftAfter_9_b
  rw [ht.2.1]
  by_cases q : j < m
  · right
    obtain ⟨h1, h2, h3, h4⟩ := ht.2.2 j (by omega)
    rw [if_neg (nI_ge q (by omega)), if_neg (nI_ge (show j < c by omega) (by omega)), wgi_n (by omega) (by decide), nI_clamp (by omega), h1, h2, wlet_eq, wgi_n (by omega) (by decide)]
    simp only [fX3_leftAfter_58, wlet_eq, nI_1]
    by_cases z : a j = 1
    · refine ⟨d - 1, (x &&& ((((1 : Int32) <<< (nI (p j) &&& 31)) - 1) ^^^ (-1)), nI (j + 1)), by omega, ⟨j + 1, by omega, rfl, ?_⟩, ?_⟩
      · intro i hi
        rw [b_and, hx i hi, b_not _ hi, b_mask (p j) (by omega) i hi, sMay]
        by_cases w : i < p j
        · simp [w, z, show ¬ p j ≤ i by omega]
        · simp [w, z, show p j ≤ i by omega]
      · rw [if_pos (show nI (a j) = 1 by rw [z]; rfl)]
    · refine ⟨d - 1, (x &&& (((1 : Int32) <<< (nI (p j) &&& 31)) - 1), nI (j + 1)), by omega, ⟨j + 1, by omega, rfl, ?_⟩, ?_⟩
      · intro i hi
        rw [b_and, hx i hi, b_mask (p j) (by omega) i hi, sMay]
        by_cases w : i < p j
        · simp [w, z, show ¬ p j ≤ i by omega]
        · simp [w, z, show p j ≤ i by omega]
      · have hz : ¬ nI (a j) = 1 := fun e => z ((nI_eq (b := 1) (by omega) (by omega)).mp e)
        rw [if_neg hz]
  · left
    have e : j = m := by omega
    subst e
    rw [if_pos (nI_le (Nat.le_refl _) (by omega))]
    congr 1
    apply b_ext
    intro i hi
    rw [hx i hi, sOp_bits p a j n hn i hi]
theorem m_openBy (h : wMod M n L st hr) (ht : wToldM M c p a) {m : Nat} (hm : m ≤ c) : fX10_openBy M (nI m) = some (sOp p a m n) := by
  have hc := ht.1
  have hn := h.1
  unfold fX10_openBy fX10_openBy_4
  refine wloop_q (fun d t => ∃ l, l + d = n ∧ t.2 = nI l ∧ t.1 = sOp p a m l) (fun o => o = some (sOp p a m n)) ?_ wfuel n (0, 0) ⟨0, by omega, rfl, rfl⟩ (wfuel_lt (by omega))
  rintro rec d ⟨x, y⟩ ⟨l, hl, rfl, rfl⟩
  dsimp only
  unfold fX10_openBy_4_b
  rw [h.2.1]
  by_cases q : l < n
  · right
    refine ⟨d - 1, (sOp p a m (l + 1), nI (l + 1)), by omega, ⟨l + 1, by omega, rfl, rfl⟩, ?_⟩
    rw [if_neg (nI_ge q (by omega))]
    unfold fX10_openBy_18
    refine wloop_q (fun e t => ∃ k, k + e = m ∧ t.2 = nI k ∧ t.1 = wb (sMay p a l k)) (fun o => o = rec (sOp p a m (l + 1), nI (l + 1))) ?_ wfuel m (1, 0) ⟨0, by omega, rfl, rfl⟩ (wfuel_lt (by omega))
    rintro rec2 e ⟨x2, y2⟩ ⟨k, hk, rfl, rfl⟩
    dsimp only
    unfold fX10_openBy_18_b
    by_cases q2 : k < m
    · right
      obtain ⟨h1, h2, h3, h4⟩ := ht.2.2 k (by omega)
      refine ⟨e - 1, (wb (sMay p a l (k + 1)), nI (k + 1)), by omega, ⟨k + 1, by omega, rfl, rfl⟩, ?_⟩
      rw [if_neg (nI_ge q2 (by omega))]
      simp only [fX10_openBy_68, fX10_openBy_69, fX10_openBy_61, fX10_openBy_45, wlet_eq, nI_1, wgi_n (show k < 6 by omega) (show 6 < 2 ^ 31 by decide), nI_clamp (show k < 2 ^ 31 by omega), h1, h2, wb_0, sMay]
      have e1 : (nI l < nI (p k)) ↔ l < p k := nI_ltI (by omega) (by omega)
      have e2 : (nI (a k) = 1) ↔ a k = 1 := nI_eq (b := 1) (by omega) (by omega)
      have n11 : nI 1 = 1 := rfl
      cases hs : sMay p a l k
      · simp [wb_fa]
      · by_cases w : l < p k
        · have w2 : ¬ p k ≤ l := by omega
          by_cases z : a k = 1
          · simp [e1, e2, w, z, w2, wb_fa, n11]
          · simp [e1, e2, w, z, w2, wb_t, n11]
        · have w2 : p k ≤ l := by omega
          by_cases z : a k = 1
          · simp [e1, e2, w, z, w2, wb_t, n11]
          · simp [e1, e2, w, z, w2, wb_fa, n11]
    · left
      have e2 : k = m := by omega
      subst e2
      rw [if_pos (nI_le (Nat.le_refl _) (by omega))]
      simp only [fX10_openBy_90, wlet_eq, nI_1, wb_0, sOp]
      cases sMay p a l k <;> simp
  · left
    have e : l = n := by omega
    subst e
    rw [if_pos (nI_le (Nat.le_refl _) (by omega))]
def sJd (p a : Nat → Nat) (n : Nat) : Nat → Bool := fun k => decide (sOp p a (k + 1) n = 0)
theorem c_judge (h : wRow M 1 n L st hr) (ht : wTold M c p a) : fX9_judge M = some (sFirst (sJd p a n) 0 c, wup M 50 2 0) := by
  have hc := ht.1
  have e : fX3_firstThatLeavesNone M (nI n) = some (sFirst (sJd p a n) 0 c) := by
    unfold fX3_firstThatLeavesNone fX3_firstThatLeavesNone_2
    refine wloop_q (fun d t => ∃ k, k + d = c ∧ t = nI k ∧ sFirst (sJd p a n) 0 c = sFirst (sJd p a n) k d) (fun o => o = some (sFirst (sJd p a n) 0 c)) ?_ wfuel c 0 ⟨0, by omega, rfl, rfl⟩ (wfuel_lt (by omega))
    rintro rec d y ⟨k, hk, rfl, hS⟩
    unfold fX3_firstThatLeavesNone_2_b
    rw [ht.2.1]
    by_cases q : k < c
    · obtain ⟨d', rfl⟩ : ∃ d', d = d' + 1 := ⟨d - 1, by omega⟩
      rw [sFirst_s _ k d'] at hS
      rw [if_neg (nI_ge q (by omega)), nI_1, c_left ht (show k + 1 ≤ c by omega) h.1, Option.bind_some]
      by_cases z : sOp p a (k + 1) n = 0
      · left
        rw [if_pos z, hS, if_pos (by simp [sJd, z])]
      · right
        refine ⟨d', nI (k + 1), by omega, ⟨k + 1, by omega, rfl, ?_⟩, ?_⟩
        · rw [hS, if_neg (by simp [sJd, z])]
        · rw [if_neg z, wlet_eq]
    · left
      have e : k = c := by omega
      have e0 : d = 0 := by omega
      subst e0
      rw [e, if_pos (nI_le (Nat.le_refl _) (by omega)), hS]
      rfl
  simp only [fX9_judge, h.2.1, e, Option.bind_some, wlet_eq]
theorem m_judge (h : wMod M n L st hr) (ht : wToldM M c p a) : fX10_judge M = some (sFirst (sJd p a n) 0 c, wup M 70 28 0) := by
  have hc := ht.1
  simp only [fX10_judge, ht.2.1, wlet_eq]
  unfold fX10_judge_8
  refine wloop_q (fun d t => d ≤ c ∧ t.2 = nI d ∧ t.1 = sFirst (sJd p a n) d (c - d)) (fun o => o = some (sFirst (sJd p a n) 0 c, wup M 70 28 0)) ?_ wfuel c (-9, nI c) ⟨by omega, rfl, by rw [Nat.sub_self]; rfl⟩ (wfuel_lt (by omega))
  rintro rec d ⟨x, y⟩ ⟨hd, rfl, rfl⟩
  dsimp only
  unfold fX10_judge_8_b
  by_cases q : d = 0
  · left
    subst q
    rw [if_pos (show nI 0 ≤ (0 : Int32) by decide), wlet_eq, Nat.sub_zero]
  · right
    obtain ⟨d', rfl⟩ : ∃ d', d = d' + 1 := ⟨d - 1, by omega⟩
    rw [if_neg (nI_nle (by omega) (by omega)), m_openBy h ht hd, Option.bind_some]
    simp only [fX10_judge_27, wlet_eq, pk_m1, nI_pred]
    refine ⟨d', (sFirst (sJd p a n) d' (c - d'), nI d'), by omega, ⟨by omega, rfl, rfl⟩, ?_⟩
    have e1 : c - d' = (c - (d' + 1)) + 1 := by omega
    rw [e1, sFirst_s]
    by_cases z : sOp p a (d' + 1) n = 0
    · rw [if_pos z, if_pos (by simp [sJd, z])]
    · rw [if_neg z, if_neg (by simp [sJd, z])]
/-- lamps that were well and are no more -/
def sPo (L0 L : Nat → Nat → Int32) : Nat → Bool := fun i => decide (L0 i 4 = 0 ∧ ¬ L i 4 = 0)
def sNx (L : Nat → Nat → Int32) (n : Nat) (st : Nat → Int32) (hr : Int32) (w : Bool) (k : Nat) : Nat → Int32
  | 0 => -9
  | d + 1 => if sFirst (sPo L (sLs L n st hr k)) 0 n < 0 then sNx L n st hr w (k + 1) d else if w = true then sFirst (sPo L (sLs L n st hr k)) 0 n else nI k
theorem sNx_s (w : Bool) (k d : Nat) : sNx L n st hr w k (d + 1) = if sFirst (sPo L (sLs L n st hr k)) 0 n < 0 then sNx L n st hr w (k + 1) d else if w = true then sFirst (sPo L (sLs L n st hr k)) 0 n else nI k := rfl
theorem c_gone {M : wMem} {L' : Nat → Nat → Int32} {hr' : Int32} (h1 : wRow M 1 n L st hr) (h2 : wRow M 32 n L' st hr') : fX4_firstGone M 1 = some (sFirst (sPo L L') 0 n) := by
  have hn := h1.1
  unfold fX4_firstGone fX4_firstGone_2
  refine wloop_q (fun d t => ∃ i, i + d = n ∧ t = nI i ∧ sFirst (sPo L L') 0 n = sFirst (sPo L L') i d) (fun o => o = some (sFirst (sPo L L') 0 n)) ?_ wfuel n 0 ⟨0, by omega, rfl, rfl⟩ (wfuel_lt (by omega))
  rintro rec d y ⟨i, hi, rfl, hS⟩
  unfold fX4_firstGone_2_b
  rw [h2.2.1]
  by_cases q : i < n
  · obtain ⟨d', rfl⟩ : ∃ d', d = d' + 1 := ⟨d - 1, by omega⟩
    rw [sFirst_s _ i d'] at hS
    have hw : fX1_isWell M (33 + 2 + i) = some (decide (L' i 4 = 0)) := c_well (h2.2.2.1 i q)
    rw [if_neg (nI_ge q (by omega)), wgi_n (by omega) (by decide), wgi_n (by omega) (by decide), nI_clamp (by omega), c_well (h1.2.2.1 i q), Option.bind_some, hw, Option.bind_some]
    simp only [fX4_firstGone_42, wlet_eq, nI_1, wb_0]
    by_cases z : L i 4 = 0
    · by_cases z2 : L' i 4 = 0
      · right
        exact ⟨d', nI (i + 1), by omega, ⟨i + 1, by omega, rfl, by rw [hS, if_neg (by simp [sPo, z2])]⟩, by simp [z, z2]⟩
      · left
        have hp : sPo L L' i = true := by simp [sPo, z, z2]
        rw [hS, if_pos hp]
        simp [z, z2]
    · right
      exact ⟨d', nI (i + 1), by omega, ⟨i + 1, by omega, rfl, by rw [hS, if_neg (by simp [sPo, z])]⟩, by simp [z]⟩
  · left
    have e : i = n := by omega
    have e0 : d = 0 := by omega
    subst e0
    rw [e, if_pos (nI_le (Nat.le_refl _) (by omega)), hS]
    rfl
theorem c_next (h : wRow M 1 n L st hr) (w : Bool) : ∃ M', fX4_firstToGo M 1 (wb w) = some (sNx L n st hr w 1 400, M') ∧ wOff 32 M M' := by
  obtain ⟨M1, s1, s2, s3⟩ := c_begin h
  simp only [fX4_firstToGo, s1, Option.bind_some]
  unfold fX4_firstToGo_8
  refine wloop_q (fun d t => ∃ j, j + d = 400 ∧ t.1 = nI (j + 1) ∧ wRow t.2 32 n (sLs L n st hr j) st (sHr hr j) ∧ wOff 32 M t.2 ∧ sNx L n st hr w 1 400 = sNx L n st hr w (j + 1) d) (fun o => ∃ M', o = some (sNx L n st hr w 1 400, M') ∧ wOff 32 M M') ?_ wfuel 400 (1, M1) ⟨0, by omega, rfl, s2, s3, rfl⟩ (wfuel_lt (by omega))
  rintro rec d ⟨y, M2⟩ ⟨j, hj, rfl, hR, hO, hS⟩
  dsimp only at hR hO hS ⊢
  unfold fX4_firstToGo_8_b
  by_cases q : d = 0
  · left
    subst q
    rw [if_pos ((lit400 (by omega)).mpr (by omega)), hS]
    exact ⟨M2, rfl, hO⟩
  · obtain ⟨d', rfl⟩ : ∃ d', d = d' + 1 := ⟨d - 1, by omega⟩
    obtain ⟨M3, t1, t2, t3⟩ := c_hour hR
    have t2' : wRow M3 32 n (sLs L n st hr (j + 1)) st (sHr hr (j + 1)) := t2
    have hO3 := hO.tr t3
    have hg := c_gone (wOff_row h hO3) t2'
    rw [if_neg (fun z => absurd ((lit400 (by omega)).mp z) (by omega)), t1, Option.bind_some]
    simp only [wpr, hg, Option.bind_some, wlet_eq, nI_1]
    rw [sNx_s w (j + 1) d'] at hS
    by_cases z : sFirst (sPo L (sLs L n st hr (j + 1))) 0 n < 0
    · right
      refine ⟨d', (nI (j + 1 + 1), M3), by omega, ⟨j + 1, by omega, rfl, t2', hO3, ?_⟩, ?_⟩
      · rw [hS, if_pos z]
      · rw [if_pos z]
    · left
      rw [hS, if_neg z, if_neg z]
      cases w
      · exact ⟨M3, rfl, hO3⟩
      · exact ⟨M3, rfl, hO3⟩
theorem sFirst_cases (P : Nat → Bool) : ∀ d i, i + d < 2 ^ 31 → sFirst P i d = -9 ∨ ∃ j, i ≤ j ∧ j < i + d ∧ sFirst P i d = nI j
  | 0, _, _ => Or.inl rfl
  | d + 1, i, h => by
    rw [sFirst_s]
    by_cases q : P i = true
    · right
      exact ⟨i, by omega, by omega, if_pos q⟩
    · rw [if_neg q]
      rcases sFirst_cases P d (i + 1) (by omega) with e | ⟨j, h1, h2, h3⟩
      · exact Or.inl e
      · exact Or.inr ⟨j, by omega, by omega, h3⟩
theorem m9_neg : (-9 : Int32) < 0 := by decide
theorem sFirst_neg {P : Nat → Bool} {i d : Nat} (h : i + d < 2 ^ 31) : sFirst P i d < 0 ↔ sFirst P i d = -9 := by
  rcases sFirst_cases P d i h with e | ⟨j, h1, h2, h3⟩
  · rw [e]
    simp [m9_neg]
  · rw [h3]
    constructor
    · intro q
      exact absurd q (nI_pos (by omega))
    · intro q
      rw [q]
      exact m9_neg
theorem i_sub1 (x : Int32) : x - 1 = x + (-1) := by rw [Int32.sub_eq_add_neg]
/-- from the highest lamp down: which is out, and after how many hours -/
theorem m_outs {M1 : wMem} {L' : Nat → Nat → Int32} {hr' : Int32} (h : wMod M1 n L' st hr') (x : Int32) (hx : ∀ i, i < 32 → bt x i = (decide (i < n) && decide (L i 4 = 0))) (k : Nat) (rec : Int32 × wMem → Option wMem) (h29 : M1 70 29 = -9) (h30 : M1 70 30 = -9) :
    ∃ M2, wMod M2 n L' st hr' ∧ wFn M1 M2 ∧ M2 70 29 = sFirst (sPo L L') 0 n ∧ M2 70 30 = (if sFirst (sPo L L') 0 n < 0 then -9 else nI k) ∧ fX10_findNext_83 M1 rec x (nI k) (M1 70 7 - 1) = rec (nI (k + 1), M2) := by
  have hn := h.1
  rw [h.2.1]
  unfold fX10_findNext_83
  refine wloop_q (fun d t => d ≤ n ∧ t.1 = nI d - 1 ∧ wMod t.2 n L' st hr' ∧ wFn M1 t.2 ∧ t.2 70 29 = sFirst (sPo L L') d (n - d) ∧ t.2 70 30 = (if sFirst (sPo L L') d (n - d) < 0 then -9 else nI k)) (fun o => ∃ M2, wMod M2 n L' st hr' ∧ wFn M1 M2 ∧ M2 70 29 = sFirst (sPo L L') 0 n ∧ M2 70 30 = (if sFirst (sPo L L') 0 n < 0 then -9 else nI k) ∧ o = rec (nI (k + 1), M2)) ?_ wfuel n (nI n - 1, M1) ⟨by omega, rfl, h, wFn.rf M1, by rw [Nat.sub_self]; exact h29, by rw [Nat.sub_self]; exact h30⟩ (wfuel_lt (by omega))
  rintro rec2 d ⟨y, M2⟩ ⟨hd, rfl, hR, hF, b29, b30⟩
  dsimp only at hR hF b29 b30 ⊢
  unfold fX10_findNext_83_b
  by_cases q : d = 0
  · left
    subst q
    rw [Nat.sub_zero] at b29 b30
    exact ⟨M2, hR, hF, b29, b30, by rw [if_pos (show nI 0 - 1 < (0 : Int32) by decide), wlet_eq, nI_1]⟩
  · right
    obtain ⟨d', rfl⟩ : ∃ d', d = d' + 1 := ⟨d - 1, by omega⟩
    have e1 : n - d' = (n - (d' + 1)) + 1 := by omega
    rw [nI_pred, if_neg (nI_pos (by omega)), wgi_n (by omega) (by decide), nI_clamp (by omega), m_4 hR (show d' < n by omega)]
    simp only [fX10_findNext_117, wlet_eq]
    have hbit : ((x >>> (nI d' &&& 31)) &&& 1 = 0) ↔ ¬ L d' 4 = 0 := by
      rw [b_has x (show d' < 32 by omega), hx d' (by omega)]
      simp [show d' < n by omega]
    have stay : sPo L L' d' = false → (∃ d'' s', d'' < d' + 1 ∧ (d'' ≤ n ∧ s'.1 = nI d'' - 1 ∧ wMod s'.2 n L' st hr' ∧ wFn M1 s'.2 ∧ s'.2 70 29 = sFirst (sPo L L') d'' (n - d'') ∧ s'.2 70 30 = (if sFirst (sPo L L') d'' (n - d'') < 0 then -9 else nI k)) ∧ rec2 (nI d' + (-1), M2) = rec2 s') := by
      intro hp
      have e2 : sFirst (sPo L L') d' (n - d') = sFirst (sPo L L') (d' + 1) (n - (d' + 1)) := by rw [e1, sFirst_s, if_neg (by rw [hp]; decide)]
      exact ⟨d', (nI d' - 1, M2), by omega, ⟨by omega, rfl, hR, hF, by rw [e2]; exact b29, by rw [e2]; exact b30⟩, by rw [i_sub1]⟩
    by_cases z : L d' 4 = 0
    · by_cases z2 : L' d' 4 = 0
      · rw [if_neg (fun w => hbit.mp w z), if_pos z2]
        exact stay (by simp [sPo, z2])
      · rw [if_neg (fun w => hbit.mp w z), if_neg z2]
        have hp : sPo L L' d' = true := by simp [sPo, z, z2]
        have e2 : sFirst (sPo L L') d' (n - d') = nI d' := by rw [e1, sFirst_s, if_pos hp]
        refine ⟨d', (nI d' - 1, wup (wup M2 70 29 (nI d')) 70 30 (nI k)), by omega, ⟨by omega, rfl, ?_, ?_, ?_, ?_⟩, by rw [i_sub1]⟩
        · show wMod (wup (wup M2 70 29 (nI d')) 70 30 (nI k)) n L' st hr'
          refine ⟨hR.1, ?_, ?_, ?_, ?_⟩
          · rw [wup_slot (by decide), wup_slot (by decide)]
            exact hR.2.1
          · intro i hi f hf
            rw [wup_cell (by omega), wup_cell (by omega)]
            exact hR.2.2.1 i hi f hf
          · intro j hj
            rw [wup_cell (by decide), wup_cell (by decide)]
            exact hR.2.2.2.1 j hj
          · rw [wup_slot (by decide), wup_slot (by decide)]
            exact hR.2.2.2.2
        · show wFn M1 (wup (wup M2 70 29 (nI d')) 70 30 (nI k))
          exact hF.tr ⟨fun b a1 _ _ _ => by rw [wup_cell a1, wup_cell a1], fun j _ a2 a3 => by rw [wup_slot a3, wup_slot a2]⟩
        · show wup (wup M2 70 29 (nI d')) 70 30 (nI k) 70 29 = _
          rw [wup_slot (by decide), wup_same, e2]
        · show wup (wup M2 70 29 (nI d')) 70 30 (nI k) 70 30 = _
          rw [wup_same, e2, if_neg (nI_pos (by omega))]
    · rw [if_pos (hbit.mpr z)]
      exact stay (by simp [sPo, z])
theorem m_next57 {M0 M1 : wMem} (hsv : wSvA 80 M0 M1) (h : wMod M1 n L st hr) (hok : wLe L n) (x : Int32) (hx : ∀ i, i < 32 → bt x i = (decide (i < n) && decide (L i 4 = 0))) (h29 : M1 70 29 = -9) (h30 : M1 70 30 = -9) : ∃ M', fX10_findNext_57 M1 x 1 = some M' ∧ M' 70 29 = sNx L n st hr true 1 400 ∧ M' 70 30 = sNx L n st hr false 1 400 ∧ wKm M0 M' := by
  have hn := h.1
  unfold fX10_findNext_57
  have fin : ∀ M2 : wMem, wFn M1 M2 → M2 70 29 = sNx L n st hr true 1 400 → M2 70 30 = sNx L n st hr false 1 400 → ∃ M', fX10_findNext_129 M2 = some M' ∧ M' 70 29 = sNx L n st hr true 1 400 ∧ M' 70 30 = sNx L n st hr false 1 400 ∧ wKm M0 M' := by
    intro M2 hF e1 e2
    obtain ⟨M3, r1, r2⟩ := m_restAll (M := M2) (c := 80) 1 save80 (by omega)
    refine ⟨M3, by simp only [fX10_findNext_129, r1, Option.bind_some], ?_, ?_, m_back hsv hF r2⟩
    · rw [r2.2.2.2.2.1 29 (by decide) (by decide) (by decide) (by decide)]
      exact e1
    · rw [r2.2.2.2.2.1 30 (by decide) (by decide) (by decide) (by decide)]
      exact e2
  refine wloop_q (fun d t => wFn M1 t.2 ∧ ((∃ j, j + d = 401 ∧ j ≤ 400 ∧ t.1 = nI (j + 1) ∧ wMod t.2 n (sLs L n st hr j) st (sHr hr j) ∧ t.2 70 29 = -9 ∧ t.2 70 30 = -9 ∧ (∀ w, sNx L n st hr w 1 400 = sNx L n st hr w (j + 1) (400 - j))) ∨ (0 ≤ t.2 70 29 ∧ t.2 70 29 = sNx L n st hr true 1 400 ∧ t.2 70 30 = sNx L n st hr false 1 400))) (fun o => ∃ M', o = some M' ∧ M' 70 29 = sNx L n st hr true 1 400 ∧ M' 70 30 = sNx L n st hr false 1 400 ∧ wKm M0 M') ?_ wfuel 401 (1, M1) ⟨wFn.rf M1, Or.inl ⟨0, by omega, by omega, rfl, h, h29, h30, fun _ => rfl⟩⟩ (wfuel_lt (by omega))
  rintro rec d ⟨y, M2⟩ ⟨hF, hI⟩
  dsimp only at hF hI ⊢
  unfold fX10_findNext_57_b
  rcases hI with ⟨j, hj, hj2, rfl, hR, b29, b30, hS⟩ | ⟨h0, e1, e2⟩
  · by_cases q : j = 400
    · left
      subst q
      rw [if_pos ((lit400 (by omega)).mpr (by omega))]
      exact fin M2 hF (by rw [b29, hS true]; rfl) (by rw [b30, hS false]; rfl)
    · right
      obtain ⟨M3, t1, t2, t3⟩ := m_hour hR (wLe_ls hok st hr j)
      have t2' : wMod M3 n (sLs L n st hr (j + 1)) st (sHr hr (j + 1)) := t2
      have c29 : M3 70 29 = -9 := by rw [t3.2 29 (by decide)]; exact b29
      have c30 : M3 70 30 = -9 := by rw [t3.2 30 (by decide)]; exact b30
      obtain ⟨M4, u1, u2, u3, u4, u5⟩ := m_outs (L := L) t2' x hx (j + 1) rec c29 c30
      rw [if_neg (fun z => absurd ((lit400 (by omega)).mp z) (by omega)), b29, if_neg (by decide), t1, Option.bind_some]
      simp only [wpr, wlet_eq]
      rw [u5]
      obtain ⟨r, hr9⟩ : ∃ r, 400 - j = r + 1 := ⟨399 - j, by omega⟩
      have hS2 : ∀ w, sNx L n st hr w 1 400 = if sFirst (sPo L (sLs L n st hr (j + 1))) 0 n < 0 then sNx L n st hr w (j + 1 + 1) r else if w = true then sFirst (sPo L (sLs L n st hr (j + 1))) 0 n else nI (j + 1) := fun w => by rw [hS w, hr9, sNx_s]
      refine ⟨d - 1, (nI (j + 1 + 1), M4), by omega, ⟨(hF.tr t3.n).tr u2, ?_⟩, rfl⟩
      by_cases z : sFirst (sPo L (sLs L n st hr (j + 1))) 0 n < 0
      · left
        refine ⟨j + 1, by omega, by omega, rfl, u1, ?_, ?_, ?_⟩
        · show M4 70 29 = -9
          rw [u3]
          exact (sFirst_neg (by omega)).mp z
        · show M4 70 30 = -9
          rw [u4, if_pos z]
        · intro w
          rw [hS2 w, if_pos z, show 400 - (j + 1) = r by omega]
      · right
        refine ⟨?_, ?_, ?_⟩
        · show 0 ≤ M4 70 29
          rw [u3]
          exact Int32.not_lt.mp z
        · show M4 70 29 = _
          rw [u3, hS2 true, if_neg z, if_pos rfl]
        · show M4 70 30 = _
          rw [u4, hS2 false, if_neg z, if_neg z, if_neg (by decide)]
  · left
    rw [if_pos h0, ite_self]
    exact fin M2 hF e1 e2
theorem m_next (h : wMod M n L st hr) (hok : wLe L n) : ∃ M', fX10_findNext M = some M' ∧ M' 70 29 = sNx L n st hr true 1 400 ∧ M' 70 30 = sNx L n st hr false 1 400 ∧ wKm M M' := by
  have hn := h.1
  simp only [fX10_findNext, wlet_eq]
  obtain ⟨M0, hM0⟩ : ∃ M0, M0 = wup (wup M 70 29 (-9)) 70 30 (-9) := ⟨_, rfl⟩
  rw [← hM0]
  have g29 : M0 70 29 = -9 := by rw [hM0, wup_slot (by decide), wup_same]
  have g30 : M0 70 30 = -9 := by rw [hM0, wup_same]
  have gK : wKm M M0 := ⟨fun f _ i _ => by rw [hM0, wup_cell (by omega), wup_cell (by omega)], fun j _ => by rw [hM0, wup_cell (by decide), wup_cell (by decide)], fun j _ _ a b => by rw [hM0, wup_slot b, wup_slot a], fun j _ => by rw [hM0, wup_cell (by decide), wup_cell (by decide)], fun b a _ _ _ => by rw [hM0, wup_cell a, wup_cell a]⟩
  clear hM0
  obtain ⟨M1, s1, s2, s3⟩ := m_begin (gK.mod h)
  have h29 : M1 70 29 = -9 := by rw [s2.2.2.2.2.2.1 29 (by decide) (by decide)]; exact g29
  have h30 : M1 70 30 = -9 := by rw [s2.2.2.2.2.2.1 30 (by decide) (by decide)]; exact g30
  rw [s1, Option.bind_some]
  suffices hx : ∃ M', fX10_findNext_22 M1 0 0 = some M' ∧ M' 70 29 = sNx L n st hr true 1 400 ∧ M' 70 30 = sNx L n st hr false 1 400 ∧ wKm M0 M' by
    obtain ⟨M', x1, x2, x3, x4⟩ := hx
    exact ⟨M', x1, x2, x3, gK.tr x4⟩
  unfold fX10_findNext_22
  refine wloop_q (fun d t => ∃ j, j + d = n ∧ t.2 = nI j ∧ ∀ i, i < 32 → bt t.1 i = (decide (i < j) && decide (L i 4 = 0))) (fun o => ∃ M', o = some M' ∧ M' 70 29 = sNx L n st hr true 1 400 ∧ M' 70 30 = sNx L n st hr false 1 400 ∧ wKm M0 M') ?_ wfuel n (0, 0) ⟨0, by omega, rfl, fun i _ => by rw [b_0]; simp⟩ (wfuel_lt (by omega))
  rintro rec d ⟨x, y⟩ ⟨j, hj, rfl, hx⟩
  dsimp only at hx ⊢
  unfold fX10_findNext_22_b
  rw [s3.2.1]
  by_cases q : j < n
  · right
    rw [if_neg (nI_ge q (by omega)), wgi_n (by omega) (by decide), nI_clamp (by omega), m_4 s3 q]
    simp only [fX10_findNext_47, wlet_eq, nI_1]
    by_cases z : L j 4 = 0
    · refine ⟨d - 1, (x ||| (1 : Int32) <<< (nI j &&& 31), nI (j + 1)), by omega, ⟨j + 1, by omega, rfl, ?_⟩, by rw [if_pos z]⟩
      intro i hi
      show bt (x ||| (1 : Int32) <<< (nI j &&& 31)) i = _
      rw [b_or, hx i hi, b_one (by omega) hi]
      by_cases e : i = j
      · subst e
        simp [z]
      · by_cases w : i < j
        · simp [e, w, show i < j + 1 by omega]
        · simp [e, w, show ¬ i < j + 1 by omega]
    · refine ⟨d - 1, (x ||| 0, nI (j + 1)), by omega, ⟨j + 1, by omega, rfl, ?_⟩, by rw [if_neg z]⟩
      intro i hi
      show bt (x ||| 0) i = _
      rw [b_or, hx i hi, b_0]
      by_cases e : i = j
      · subst e
        simp [z]
      · by_cases w : i < j
        · simp [w, show i < j + 1 by omega]
        · simp [w, show ¬ i < j + 1 by omega]
  · left
    have e : j = n := by omega
    rw [e, if_pos (nI_le (Nat.le_refl _) (by omega))]
    rw [e] at hx
    exact m_next57 s2 s3 hok x hx h29 h30
end
