/-! part 27: calls that only look -/
section
variable {M : wMem} {n : Nat} {L : Nat → Nat → Int32} {st : Nat → Int32} {hr : Int32} {t : Nat} {A R : Nat → Int32} {c : Nat} {p a : Nat → Nat} {o : wKt}
def wAns0 (f g : wMem → Option Int32) (M : wMem) : Prop := ∃ r, f M = some r ∧ g M = some r
theorem k_flow (hI : wI M n L st hr t A R c p a o) : wAns0 (fun M => fX9_flow M) (fun M => fX10_flow M) M := by
  refine ⟨sFlow L n (st 0), ?_, ?_⟩
  · show fX9_flow M = _
    unfold fX9_flow
    rw [c_flow hI.1.1]
    rfl
  · show fX10_flow M = _
    unfold fX10_flow
    rw [m_flow hI.2.1.1]
    rfl
theorem k_openTo (hI : wI M n L st hr t A R c p a o) : wAns0 (fun M => fX9_openTo M) (fun M => fX10_openTo M) M := by
  refine ⟨sOp p a c n, ?_, ?_⟩
  · show fX9_openTo M = _
    unfold fX9_openTo
    rw [hI.1.2.2.2.1.2.1, hI.1.1.2.1, c_left hI.1.2.2.2.1 (Nat.le_refl c) hI.1.1.1]
    rfl
  · show fX10_openTo M = _
    unfold fX10_openTo
    rw [hI.2.1.2.2.2.1.2.1, m_openBy hI.2.1.1 hI.2.1.2.2.2.1 (Nat.le_refl c)]
    rfl
def sJoin (L : Nat → Nat → Int32) (n : Nat) (st : Nat → Int32) : Int32 := if sLive L n = true then st 2 / (if 1 < sFlow L n (st 0) / 10 then sFlow L n (st 0) / 10 else 1) else 0
theorem k_joined (hI : wI M n L st hr t A R c p a o) : wAns0 (fun M => fX9_joined M) (fun M => fX10_joined M) M := by
  have z10 : ¬ (10 : Int32) = 0 := by decide
  refine ⟨sJoin L n st, ?_, ?_⟩
  · show fX9_joined M = _
    unfold fX9_joined fX5_stringsWithinLimit sJoin
    rw [c_live hI.1.1, Option.bind_some]
    cases sLive L n
    · rw [if_pos (show wb false = 0 from rfl), if_neg (by decide)]
      rfl
    · have hz : ¬ (if 1 < sFlow L n (st 0) / 10 then sFlow L n (st 0) / 10 else (1 : Int32)) = 0 := by
        split
        · rename_i q
          intro z
          rw [z] at q
          exact absurd q (by decide)
        · decide
      rw [if_neg (show ¬ wb true = 0 by decide), if_pos rfl, w24, c_flow hI.1.1, Option.bind_some, wgz_n z10, wgz_n hz, cl2, hI.1.1.2.2.2.1 2 (by decide)]
      rfl
  · show fX10_joined M = _
    unfold fX10_joined fX10_joined_31 sJoin
    rw [m_flow hI.2.1.1, Option.bind_some, wgz_n z10, wlet_eq, m_live hI.2.1.1, Option.bind_some]
    cases sLive L n
    · rw [if_pos (show wb false = 0 from rfl), if_neg (by decide)]
    · rw [if_neg (show ¬ wb true = 0 by decide), if_pos rfl, w24, cl2, hI.2.1.1.2.2.2.1 2 (by decide)]
      generalize sFlow L n (st 0) / 10 = x
      by_cases q : 1 ≤ x
      · have hz : ¬ x = 0 := by
          intro z
          rw [z] at q
          exact absurd q (by decide)
        rw [if_pos q, wgz_n hz]
        by_cases q2 : 1 < x
        · rw [if_pos q2]
        · have : x = 1 := Int32.le_antisymm (Int32.not_lt.mp q2) q
          rw [if_neg q2, this]
      · have q2 : ¬ 1 < x := fun z => q (Int32.le_of_lt z)
        rw [if_neg q, if_neg q2, wgz_n (by decide)]
theorem m_hurts (h : wMod M n L st hr) : fX10_count_131 M 0 0 = some (sHurts L n) := by
  have hn := h.1
  unfold fX10_count_131
  refine wloop_q (fun e t => ∃ i, i + e = n ∧ t.1 = sHurts L i ∧ t.2 = nI i) (fun o => o = some (sHurts L n)) ?_ wfuel n (0, 0) ⟨0, by omega, rfl, rfl⟩ (wfuel_lt (by omega))
  rintro rec e ⟨x, y⟩ ⟨i, hi, rfl, rfl⟩
  dsimp only
  unfold fX10_count_131_b
  rw [h.2.1]
  by_cases q : n ≤ i
  · left
    have : i = n := by omega
    rw [if_pos (nI_le q (by omega)), this]
  · right
    refine ⟨e - 1, (sHurts L (i + 1), nI (i + 1)), by omega, ⟨i + 1, by omega, rfl, rfl⟩, ?_⟩
    rw [if_neg (nI_ge (by omega) (by omega)), wgi_n (by omega) (by decide), nI_clamp (by omega), m_3 h (by omega), wlet_eq, wlet_eq, nI_1]
    rfl
theorem asNum (M : wMem) (b : Bool) : fX9_asNumber M (wb b) = some (wb b) := by cases b <;> rfl
theorem ifNum (b : Bool) : (if wb b = 0 then some (0 : Int32) else some 1) = some (wb b) := by cases b <;> rfl
theorem isIn_f (M : wMem) {x lo hi : Int32} (h : x < lo ∨ hi < x) : fX10_isIn M x lo hi = some false := by
  unfold fX10_isIn
  by_cases q : x < lo
  · rw [if_pos q]
  · rw [if_neg q, if_pos (h.resolve_left q)]
theorem isIn_t (M : wMem) {x lo hi : Int32} (h1 : ¬ x < lo) (h2 : ¬ hi < x) : fX10_isIn M x lo hi = some true := by
  unfold fX10_isIn
  rw [if_neg h1, if_neg h2]

theorem wb_tn : ¬ wb true = 0 := by decide
theorem k_count (hI : wI M n L st hr t A R c p a o) (x : Int32) : wAns0 (fun M => fX9_count M x) (fun M => fX10_count M x) M := by
  have hr1 := hI.1.1
  have hm := hI.2.1.1
  show ∃ r, fX9_count M x = some r ∧ fX10_count M x = some r
  unfold fX9_count fX10_count
  by_cases q0 : x = 0
  · subst q0
    refine ⟨nI n, ?_, ?_⟩
    · rw [if_pos rfl, hr1.2.1]
    · rw [isIn_f M (Or.inl (by decide)), Option.bind_some, if_pos wb_fa, isIn_f M (by decide), Option.bind_some, if_pos wb_fa, if_pos rfl, hm.2.1]
  by_cases q1 : x = 1
  · subst q1
    refine ⟨sMany L 0 n, ?_, ?_⟩
    · rw [if_neg (by decide), if_pos rfl, c_many hr1]
      rfl
    · rw [isIn_f M (Or.inl (by decide)), Option.bind_some, if_pos wb_fa, isIn_t M (by decide) (by decide), Option.bind_some, if_neg wb_tn, show (1 : Int32) - 1 = 0 by decide, m_many hm]
      rfl
  by_cases q2 : x = 2
  · subst q2
    refine ⟨sMany L 1 n, ?_, ?_⟩
    · rw [if_neg (by decide), if_neg (by decide), if_pos rfl, c_many hr1]
      rfl
    · rw [isIn_f M (Or.inl (by decide)), Option.bind_some, if_pos wb_fa, isIn_t M (by decide) (by decide), Option.bind_some, if_neg wb_tn, show (2 : Int32) - 1 = 1 by decide, m_many hm]
      rfl
  by_cases q3 : x = 3
  · subst q3
    refine ⟨sMany L 2 n, ?_, ?_⟩
    · rw [if_neg (by decide), if_neg (by decide), if_neg (by decide), if_pos rfl, c_many hr1]
      rfl
    · rw [isIn_f M (Or.inl (by decide)), Option.bind_some, if_pos wb_fa, isIn_t M (by decide) (by decide), Option.bind_some, if_neg wb_tn, show (3 : Int32) - 1 = 2 by decide, m_many hm]
      rfl
  by_cases q4 : x = 4
  · subst q4
    refine ⟨sMany L 3 n, ?_, ?_⟩
    · rw [if_neg (by decide), if_neg (by decide), if_neg (by decide), if_neg (by decide), if_pos rfl, c_many hr1]
      rfl
    · rw [isIn_f M (Or.inl (by decide)), Option.bind_some, if_pos wb_fa, isIn_t M (by decide) (by decide), Option.bind_some, if_neg wb_tn, show (4 : Int32) - 1 = 3 by decide, m_many hm]
      rfl
  by_cases q5 : x = 5
  · subst q5
    refine ⟨hr, ?_, ?_⟩
    · rw [if_neg (by decide), if_neg (by decide), if_neg (by decide), if_neg (by decide), if_neg (by decide), if_pos rfl, hr1.2.2.2.2]
    · rw [isIn_f M (Or.inl (by decide)), Option.bind_some, if_pos wb_fa, isIn_f M (by decide), Option.bind_some, if_pos wb_fa, if_neg (by decide), if_neg (by decide), if_neg (by decide), if_neg (by decide), if_neg (by decide), if_pos rfl, hm.2.2.2.2]
  by_cases q6 : x = 6
  · subst q6
    refine ⟨wb (sLive L n), ?_, ?_⟩
    · rw [if_neg (by decide), if_neg (by decide), if_neg (by decide), if_neg (by decide), if_neg (by decide), if_neg (by decide), if_pos rfl, c_live hr1, Option.bind_some, asNum]
      rfl
    · rw [isIn_f M (Or.inl (by decide)), Option.bind_some, if_pos wb_fa, isIn_f M (by decide), Option.bind_some, if_pos wb_fa, if_neg (by decide), if_neg (by decide), if_neg (by decide), if_neg (by decide), if_neg (by decide), if_neg (by decide), if_pos rfl, m_live hm, Option.bind_some, ifNum]
  by_cases q7 : x = 7
  · subst q7
    refine ⟨nI t, ?_, ?_⟩
    · rw [if_neg (by decide), if_neg (by decide), if_neg (by decide), if_neg (by decide), if_neg (by decide), if_neg (by decide), if_neg (by decide), if_pos rfl, hI.1.2.1.1]
    · rw [isIn_f M (Or.inl (by decide)), Option.bind_some, if_pos wb_fa, isIn_f M (by decide), Option.bind_some, if_pos wb_fa, if_neg (by decide), if_neg (by decide), if_neg (by decide), if_neg (by decide), if_neg (by decide), if_neg (by decide), if_neg (by decide), if_pos rfl, hI.2.1.2.1.1]
  by_cases q8 : x = 8
  · subst q8
    refine ⟨nI c, ?_, ?_⟩
    · rw [if_neg (by decide), if_neg (by decide), if_neg (by decide), if_neg (by decide), if_neg (by decide), if_neg (by decide), if_neg (by decide), if_neg (by decide), if_pos rfl, hI.1.2.2.2.1.2.1]
    · rw [isIn_f M (Or.inl (by decide)), Option.bind_some, if_pos wb_fa, isIn_f M (by decide), Option.bind_some, if_pos wb_fa, if_neg (by decide), if_neg (by decide), if_neg (by decide), if_neg (by decide), if_neg (by decide), if_neg (by decide), if_neg (by decide), if_neg (by decide), if_pos rfl, hI.2.1.2.2.2.1.2.1]
  by_cases q9 : x = 9
  · subst q9
    refine ⟨sHurts L n, ?_, ?_⟩
    · rw [if_neg (by decide), if_neg (by decide), if_neg (by decide), if_neg (by decide), if_neg (by decide), if_neg (by decide), if_neg (by decide), if_neg (by decide), if_neg (by decide), if_pos rfl, c_hurts hr1]
      rfl
    · rw [isIn_f M (Or.inl (by decide)), Option.bind_some, if_pos wb_fa, isIn_f M (by decide), Option.bind_some, if_pos wb_fa, if_neg (by decide), if_neg (by decide), if_neg (by decide), if_neg (by decide), if_neg (by decide), if_neg (by decide), if_neg (by decide), if_neg (by decide), if_neg (by decide), if_pos rfl, m_hurts hm]
  have e11 : (11 : Int32).toInt = 11 := rfl
  have e17 : (17 : Int32).toInt = 17 := rfl
  have e16 : (16 : Int32).toInt = 16 := rfl
  have e1 : (1 : Int32).toInt = 1 := rfl
  have e4 : (4 : Int32).toInt = 4 := rfl
  rw [if_neg q0, if_neg q1, if_neg q2, if_neg q3, if_neg q4, if_neg q5, if_neg q6, if_neg q7, if_neg q8, if_neg q9]
  by_cases z1 : x < 11 ∨ 16 < x
  · refine ⟨-9, ?_, ?_⟩
    · unfold fX9_refusalsOf
      by_cases z2 : x < 11
      · rw [if_pos z2]
        rfl
      · rw [if_neg z2, if_neg]
        · rfl
        · have := z1.resolve_left z2
          rw [i_lt] at this ⊢
          omega
    · have z3 : x < 1 ∨ 4 < x := by
        rw [i_lt, i_lt]
        have a1 := mt (i_eq x 1).mpr q1
        have a2 := mt (i_eq x 2).mpr q2
        have a3 := mt (i_eq x 3).mpr q3
        have a4 := mt (i_eq x 4).mpr q4
        have b2 : (2 : Int32).toInt = 2 := rfl
        have b3 : (3 : Int32).toInt = 3 := rfl
        omega
      rw [isIn_f M z1, Option.bind_some, if_pos wb_fa, isIn_f M z3, Option.bind_some, if_pos wb_fa, if_neg q0, if_neg q1, if_neg q2, if_neg q3, if_neg q4, if_neg q5, if_neg q6, if_neg q7, if_neg q8, if_neg q9]
  · have z2 : ¬ x < 11 := fun z => z1 (Or.inl z)
    have z3 : ¬ 16 < x := fun z => z1 (Or.inr z)
    obtain ⟨j, hj, rfl⟩ := nI_of (x := x) (fun z => by
      rw [i_lt] at z z2
      have e0 : (0 : Int32).toInt = 0 := rfl
      omega)
    have hj1 : 11 ≤ j := by
      have := mt (nI_ltI (b := 11) hj (by decide)).mpr z2
      omega
    have hj2 : j ≤ 16 := by
      have := mt (nI_ltI (a := 16) (by decide) hj).mpr z3
      omega
    have d1 : nI j - 11 = nI (j - 11) := pk_sub (b := 11) hj1
    have d2 : nI j - 10 = nI (j - 11 + 1) := by
      rw [show j - 11 + 1 = j - 10 by omega]
      exact pk_sub (b := 10) (by omega)
    refine ⟨R (j - 11), ?_, ?_⟩
    · unfold fX9_refusalsOf
      rw [if_neg z2, if_pos (show nI j < 17 from (nI_ltI (b := 17) hj (by decide)).mpr (by omega)), d1, wgi_n (by omega) (by decide), nI_clamp (by omega), hI.1.2.2.1 _ (by omega)]
      rfl
    · rw [isIn_t M z2 z3, Option.bind_some, if_neg wb_tn, d2, wgi_n (by omega) (by decide), nI_clamp (by omega), hI.2.1.2.2.1 _ (by omega)]
theorem k_meter (hI : wI M n L st hr t A R c p a o) (x y : Int32) : wAns (fun M => fX9_meter M x y) (fun M => fX10_meter M x y) M := by
  have hn := hI.1.1.1
  by_cases q1 : (¬ x < 0 ∧ ¬ nI n ≤ x) ∧ (¬ y < 0 ∧ ¬ nI n ≤ y) ∧ ¬ y < x
  · obtain ⟨i, hi, rfl⟩ := i_ix q1.1.1 q1.1.2 (by omega)
    obtain ⟨j, hj, rfl⟩ := i_ix q1.2.1.1 q1.2.1.2 (by omega)
    obtain ⟨d, rfl⟩ : ∃ d, j = i + d := ⟨j - i, by
      have := mt (nI_ltI (a := j) (b := i) (by omega) (by omega)).mpr q1.2.2
      omega⟩
    have et : (nI (i + d)).toInt = (i : Int) + (d + 1 : Nat) - 1 := by
      rw [nI_toInt (by omega)]
      omega
    refine wAns_keep hI (wb (sWhole L i (d + 1))) ⟨M, ?_, wKc.rf M⟩ (fun M1 h1 => ⟨M1, ?_, wKn.rf M1⟩)
    · show fX9_meter M (nI i) (nI (i + d)) = _
      unfold fX9_meter
      rw [c_stretch hI.1.1, Option.bind_some, decide_eq_true q1, if_neg wb_tn, c_whole hI.1.1 (i := i) (d := d + 1) (by omega) _ et, Option.bind_some, asNum]
      rfl
    · show fX10_meter M1 (nI i) (nI (i + d)) = _
      unfold fX10_meter
      rw [m_lamps h1.1, Option.bind_some, decide_eq_true q1, if_neg wb_tn, m_whole h1.1 (i := i) (d := d + 1) (by omega) _ et, Option.bind_some]
      cases sWhole L i (d + 1) <;> rfl
  · exact wAns_ref hI (-1) (e := 0) (by decide) (by
      show fX9_meter M x y = _
      unfold fX9_meter
      rw [c_stretch hI.1.1, Option.bind_some, decide_eq_false q1, if_pos wb_fa, c_r1]
      rfl) (fun M1 h1 => by
      show fX10_meter M1 x y = _
      unfold fX10_meter
      rw [m_lamps h1.1, Option.bind_some, decide_eq_false q1, if_pos wb_fa, m_r1]
      rfl)
theorem k_finder (hI : wI M n L st hr t A R c p a o) (x : Int32) : wAns (fun M => fX9_finder M x) (fun M => fX10_finder M x) M := by
  have hn := hI.1.1.1
  by_cases q1 : ¬ x < 0 ∧ ¬ nI n ≤ x
  · obtain ⟨i, hi, rfl⟩ := i_ix q1.1 q1.2 (by omega)
    have et : (nI i - 1).toInt = ((0 : Nat) : Int) + (i : Nat) - 1 := by
      have := pk_sub_toInt (a := i) (b := 1) (by omega) (by omega)
      have e1 : nI 1 = 1 := rfl
      rw [e1] at this
      rw [this]
      omega
    refine wAns_keep hI (wb (sWhole L 0 i)) ⟨M, ?_, wKc.rf M⟩ (fun M1 h1 => ⟨M1, ?_, wKn.rf M1⟩)
    · show fX9_finder M (nI i) = _
      unfold fX9_finder
      rw [c_has hI.1.1, Option.bind_some, decide_eq_true q1, if_neg wb_tn, show fX5_isWhole M 1 0 (nI i - 1) = _ from c_whole hI.1.1 (i := 0) (d := i) (by omega) _ et, Option.bind_some, asNum]
      rfl
    · show fX10_finder M1 (nI i) = _
      unfold fX10_finder
      rw [m_lamp h1.1, Option.bind_some, decide_eq_true q1, if_neg wb_tn, show fX10_isWhole M1 0 (nI i - 1) = _ from m_whole h1.1 (i := 0) (d := i) (by omega) _ et, Option.bind_some]
      cases sWhole L 0 i <;> rfl
  · exact wAns_ref hI (-1) (e := 0) (by decide) (by
      show fX9_finder M x = _
      unfold fX9_finder
      rw [c_has hI.1.1, Option.bind_some, decide_eq_false q1, if_pos wb_fa, c_r1]
      rfl) (fun M1 h1 => by
      show fX10_finder M1 x = _
      unfold fX10_finder
      rw [m_lamp h1.1, Option.bind_some, decide_eq_false q1, if_pos wb_fa, m_r1]
      rfl)
theorem k_lamp (hI : wI M n L st hr t A R c p a o) (x y : Int32) : wAns (fun M => fX9_lamp M x y) (fun M => fX10_lamp M x y) M := by
  have hn := hI.1.1.1
  by_cases q1 : ¬ x < 0 ∧ ¬ nI n ≤ x
  · obtain ⟨i, hi, rfl⟩ := i_ix q1.1 q1.2 (by omega)
    have hv : wLp M (2 + 2 + i) (L i) := hI.1.1.2.2.1 i hi
    have go : ∀ r, fX9_lamp M (nI i) y = some (r, M) → (∀ M1, wMa M1 n L st hr t A R c p a o → fX10_lamp M1 (nI i) y = some (r, M1)) → wAns (fun M => fX9_lamp M (nI i) y) (fun M => fX10_lamp M (nI i) y) M := fun r h1 h2 => wAns_keep hI r ⟨M, h1, wKc.rf M⟩ (fun M1 h => ⟨M1, h2 M1 h, wKn.rf M1⟩)
    by_cases z0 : y = 0
    · subst z0
      refine go (L i 0) ?_ (fun M1 h1 => ?_)
      · unfold fX9_lamp
        rw [c_has hI.1.1, Option.bind_some, decide_eq_true q1, if_neg wb_tn, wgi_n (by omega) (by decide), nI_clamp (by omega), if_pos rfl, hv 0 (by decide)]
      · unfold fX10_lamp
        rw [m_lamp h1.1, Option.bind_some, decide_eq_true q1, if_neg wb_tn, if_pos rfl, wgi_n (by omega) (by decide), nI_clamp (by omega), m_0 h1.1 hi]
    by_cases z1 : y = 1
    · subst z1
      refine go (L i 1) ?_ (fun M1 h1 => ?_)
      · unfold fX9_lamp
        rw [c_has hI.1.1, Option.bind_some, decide_eq_true q1, if_neg wb_tn, wgi_n (by omega) (by decide), nI_clamp (by omega), if_neg (by decide), if_pos rfl, hv 1 (by decide)]
      · unfold fX10_lamp
        rw [m_lamp h1.1, Option.bind_some, decide_eq_true q1, if_neg wb_tn, if_neg (by decide), if_pos rfl, wgi_n (by omega) (by decide), nI_clamp (by omega), m_1 h1.1 hi]
    by_cases z2 : y = 2
    · subst z2
      refine go (L i 2) ?_ (fun M1 h1 => ?_)
      · unfold fX9_lamp
        rw [c_has hI.1.1, Option.bind_some, decide_eq_true q1, if_neg wb_tn, wgi_n (by omega) (by decide), nI_clamp (by omega), if_neg (by decide), if_neg (by decide), if_pos rfl, hv 2 (by decide)]
      · unfold fX10_lamp
        rw [m_lamp h1.1, Option.bind_some, decide_eq_true q1, if_neg wb_tn, if_neg (by decide), if_neg (by decide), if_pos rfl, wgi_n (by omega) (by decide), nI_clamp (by omega), m_2 h1.1 hi]
    by_cases z3 : y = 3
    · subst z3
      refine go (L i 3) ?_ (fun M1 h1 => ?_)
      · unfold fX9_lamp
        rw [c_has hI.1.1, Option.bind_some, decide_eq_true q1, if_neg wb_tn, wgi_n (by omega) (by decide), nI_clamp (by omega), if_neg (by decide), if_neg (by decide), if_neg (by decide), if_pos rfl, hv 3 (by decide)]
      · unfold fX10_lamp
        rw [m_lamp h1.1, Option.bind_some, decide_eq_true q1, if_neg wb_tn, if_neg (by decide), if_neg (by decide), if_neg (by decide), if_pos rfl, wgi_n (by omega) (by decide), nI_clamp (by omega), m_3 h1.1 hi]
    by_cases z4 : y = 4
    · subst z4
      refine go (L i 4) ?_ (fun M1 h1 => ?_)
      · unfold fX9_lamp
        rw [c_has hI.1.1, Option.bind_some, decide_eq_true q1, if_neg wb_tn, wgi_n (by omega) (by decide), nI_clamp (by omega), if_neg (by decide), if_neg (by decide), if_neg (by decide), if_neg (by decide), if_pos rfl, hv 4 (by decide)]
      · unfold fX10_lamp
        rw [m_lamp h1.1, Option.bind_some, decide_eq_true q1, if_neg wb_tn, if_neg (by decide), if_neg (by decide), if_neg (by decide), if_neg (by decide), if_pos rfl, wgi_n (by omega) (by decide), nI_clamp (by omega), m_4 h1.1 hi]
    by_cases z5 : y = 5
    · subst z5
      refine go (sDrag (L i)) ?_ (fun M1 h1 => ?_)
      · unfold fX9_lamp
        rw [c_has hI.1.1, Option.bind_some, decide_eq_true q1, if_neg wb_tn, wgi_n (by omega) (by decide), nI_clamp (by omega), if_neg (by decide), if_neg (by decide), if_neg (by decide), if_neg (by decide), if_neg (by decide), if_pos rfl, c_drag hv]
        rfl
      · unfold fX10_lamp
        rw [m_lamp h1.1, Option.bind_some, decide_eq_true q1, if_neg wb_tn, if_neg (by decide), if_neg (by decide), if_neg (by decide), if_neg (by decide), if_neg (by decide), if_pos rfl, m_drag h1.1 hi]
        rfl
    by_cases z6 : y = 6
    · subst z6
      refine go (sBright (L i) (sFlow L n (st 0))) ?_ (fun M1 h1 => ?_)
      · unfold fX9_lamp
        rw [c_has hI.1.1, Option.bind_some, decide_eq_true q1, if_neg wb_tn, wgi_n (by omega) (by decide), nI_clamp (by omega), if_neg (by decide), if_neg (by decide), if_neg (by decide), if_neg (by decide), if_neg (by decide), if_neg (by decide), if_pos rfl, c_flow hI.1.1, Option.bind_some, c_bright hv]
        rfl
      · unfold fX10_lamp
        rw [m_lamp h1.1, Option.bind_some, decide_eq_true q1, if_neg wb_tn, if_neg (by decide), if_neg (by decide), if_neg (by decide), if_neg (by decide), if_neg (by decide), if_neg (by decide), if_pos rfl, m_flow h1.1, Option.bind_some, m_bright h1.1 hi]
        rfl
    by_cases z7 : y = 7
    · subst z7
      refine go (sLik (L i)) ?_ (fun M1 h1 => ?_)
      · unfold fX9_lamp
        rw [c_has hI.1.1, Option.bind_some, decide_eq_true q1, if_neg wb_tn, wgi_n (by omega) (by decide), nI_clamp (by omega), if_neg (by decide), if_neg (by decide), if_neg (by decide), if_neg (by decide), if_neg (by decide), if_neg (by decide), if_neg (by decide), if_pos rfl, c_lik hv]
        rfl
      · unfold fX10_lamp
        rw [m_lamp h1.1, Option.bind_some, decide_eq_true q1, if_neg wb_tn, if_neg (by decide), if_neg (by decide), if_neg (by decide), if_neg (by decide), if_neg (by decide), if_neg (by decide), if_neg (by decide), if_pos rfl, m_lik h1.1 hi]
        rfl
    exact wAns_ref hI (-2) (e := 1) (by decide) (by
      show fX9_lamp M (nI i) y = _
      unfold fX9_lamp
      rw [c_has hI.1.1, Option.bind_some, decide_eq_true q1, if_neg wb_tn, wgi_n (by omega) (by decide), if_neg z0, if_neg z1, if_neg z2, if_neg z3, if_neg z4, if_neg z5, if_neg z6, if_neg z7, c_r2]
      rfl) (fun M1 h1 => by
      show fX10_lamp M1 (nI i) y = _
      unfold fX10_lamp
      rw [m_lamp h1.1, Option.bind_some, decide_eq_true q1, if_neg wb_tn, if_neg z0, if_neg z1, if_neg z2, if_neg z3, if_neg z4, if_neg z5, if_neg z6, if_neg z7, m_r2]
      rfl)
  · exact wAns_ref hI (-1) (e := 0) (by decide) (by
      show fX9_lamp M x y = _
      unfold fX9_lamp
      rw [c_has hI.1.1, Option.bind_some, decide_eq_false q1, if_pos wb_fa, c_r1]
      rfl) (fun M1 h1 => by
      show fX10_lamp M1 x y = _
      unfold fX10_lamp
      rw [m_lamp h1.1, Option.bind_some, decide_eq_false q1, if_pos wb_fa, m_r1]
      rfl)
def sSt (n : Nat) (st : Nat → Int32) : Nat → Bool := fun k => decide (¬ sFlowT (st 0) (nI (10 * (n - k))) ≤ st 2)
theorem c_stop (h : wRow M 1 n L st hr) : fX5_bridgedAboveLimit M 1 = some (sFirst (sSt n st) 0 n) := by
  have hn := h.1
  unfold fX5_bridgedAboveLimit fX5_bridgedAboveLimit_2
  refine wloop_q (fun e t => ∃ i, i + e = n ∧ t = nI i ∧ sFirst (sSt n st) 0 n = sFirst (sSt n st) i e) (fun o => o = some (sFirst (sSt n st) 0 n)) ?_ wfuel n 0 ⟨0, by omega, rfl, rfl⟩ (wfuel_lt (by omega))
  rintro rec e y ⟨i, hi, rfl, hs⟩
  unfold fX5_bridgedAboveLimit_2_b
  rw [h.2.1]
  cases e with
  | zero =>
    left
    rw [if_pos (nI_le (by omega) (by omega)), hs]
    rfl
  | succ e =>
    have e1 : 10 * (nI n - nI i) = nI (10 * (n - i)) := by
      rw [pk_sub (by omega)]
      exact pk_mul 10 _
    rw [if_neg (nI_ge (by omega) (by omega)), e1, c_flowT h, Option.bind_some, w24, cl2, h.2.2.2.1 2 (by decide), hs, sFirst_s _ i e]
    unfold sSt
    by_cases q : sFlowT (st 0) (nI (10 * (n - i))) ≤ st 2
    · right
      refine ⟨e, nI (i + 1), by omega, ⟨i + 1, by omega, rfl, ?_⟩, ?_⟩
      · rw [if_neg (by rw [decide_eq_false (fun z => z q)]; decide)]
      · rw [if_pos q, wlet_eq, nI_1]
    · left
      rw [if_neg q, if_pos (decide_eq_true q)]
theorem m_stop (h : wMod M n L st hr) : fX10_stop_16 M 0 = some (sFirst (sSt n st) 0 n, M) := by
  have hn := h.1
  unfold fX10_stop_16
  refine wloop_q (fun e t => ∃ i, i + e = n ∧ t = nI i ∧ sFirst (sSt n st) 0 n = sFirst (sSt n st) i e) (fun o => o = some (sFirst (sSt n st) 0 n, M)) ?_ wfuel n 0 ⟨0, by omega, rfl, rfl⟩ (wfuel_lt (by omega))
  rintro rec e y ⟨i, hi, rfl, hs⟩
  unfold fX10_stop_16_b
  rw [h.2.1]
  cases e with
  | zero =>
    left
    rw [if_pos (nI_le (by omega) (by omega)), hs]
    rfl
  | succ e =>
    have e1 : 10 * (nI n - nI i) = nI (10 * (n - i)) := by
      rw [pk_sub (by omega)]
      exact pk_mul 10 _
    have g0 : (0 : Int32) < nI (10 * (n - i)) := (nI_ltI (a := 0) (by decide) (by omega)).mpr (by omega)
    have e2 : sFlowT (st 0) (nI (10 * (n - i))) = sMin (100 * st 0 / nI (10 * (n - i))) := sFlowT_eq g0
    rw [if_neg (nI_ge (by omega) (by omega)), e1, w04, wgz_n (i_pos_ne g0), cl0, h.2.2.2.1 0 (by decide), m_min, Option.bind_some, w24, cl2, h.2.2.2.1 2 (by decide), ← e2]
    by_cases q : sFlowT (st 0) (nI (10 * (n - i))) ≤ st 2
    · right
      refine ⟨e, nI (i + 1), by omega, ⟨i + 1, by omega, rfl, ?_⟩, ?_⟩
      · rw [hs, sFirst_s _ i e]
        unfold sSt
        rw [if_neg (by rw [decide_eq_false (fun z => z q)]; decide)]
      · rw [if_pos q, wlet_eq, nI_1]
    · left
      rw [if_neg q, hs, sFirst_s _ i e]
      unfold sSt
      rw [if_pos (decide_eq_true q)]
theorem k_stop (hI : wI M n L st hr t A R c p a o) : wAns (fun M => fX9_stop M) (fun M => fX10_stop M) M := by
  by_cases q0 : n = 0
  · subst q0
    exact wAns_ref hI (-3) (e := 2) (by decide) (by
      show fX9_stop M = _
      unfold fX9_stop
      rw [if_pos (show M 1 2 = 0 from hI.1.1.2.1), c_r3]
      rfl) (fun M1 h1 => by
      show fX10_stop M1 = _
      unfold fX10_stop
      rw [if_pos (show M1 70 7 = 0 from h1.1.2.1), m_r3]
      rfl)
  · have hn := hI.1.1.1
    refine wAns_keep hI (sFirst (sSt n st) 0 n) ⟨M, ?_, wKc.rf M⟩ (fun M1 h1 => ⟨M1, ?_, wKn.rf M1⟩)
    · show fX9_stop M = _
      unfold fX9_stop
      rw [hI.1.1.2.1, if_neg (nI_n0 hn q0), c_stop hI.1.1]
      rfl
    · show fX10_stop M1 = _
      unfold fX10_stop
      rw [h1.1.2.1, if_neg (nI_n0 hn q0), m_stop h1.1]
theorem k_two (hI : wI M n L st hr t A R c p a o) (x : Int32) : wAns (fun M => fX9_two M x) (fun M => fX10_two M x) M := by
  have hn := hI.1.1.1
  by_cases q : x = 0 ∨ x = 1
  · have e0 : fX9_two M x = fX9_two_21 M x := by
      unfold fX9_two
      rcases q with rfl | rfl
      · rw [if_pos rfl]
      · rw [if_neg (by decide), if_pos rfl]
    by_cases q0 : n = 0
    · subst q0
      exact wAns_ref hI ((4000000000000000000 : Int64) - Int32.toInt64 (-3)) (e := 2) (by decide) (by
        show fX9_two M x = _
        rw [e0]
        unfold fX9_two_21
        rw [if_pos (show M 1 2 = 0 from hI.1.1.2.1), c_r3]
        rfl) (fun M1 h1 => by
        show fX10_two M1 x = _
        unfold fX10_two
        rw [isIn01, Option.bind_some, decide_eq_true q, if_neg wb_tn, if_pos (show M1 70 7 = 0 from h1.1.2.1), m_l3]
        rfl)
    · by_cases q8 : n ≤ 8
      · have g8 : nI n ≤ (8 : Int32) := nI_le (b := 8) q8 (by decide)
        refine wAns_keep hI (sTwo (if x = 0 then 1 else 0) (100 ^ n) (sDO L n).1 (sDO L n).2) ⟨M, ?_, wKc.rf M⟩ (fun M1 h1 => ⟨M1, ?_, wKn.rf M1⟩)
        · show fX9_two M x = _
          rw [e0]
          unfold fX9_two_21 fX9_two_80
          rw [hI.1.1.2.1, if_neg (nI_n0 hn q0), if_pos g8, c_two hI.1.1 hI.2.2.1.1 (by omega) q8, c_two hI.1.1 hI.2.2.1.1 (by omega) q8]
          by_cases z : x = 0
          · rw [if_pos z, if_pos z]
            rfl
          · rw [if_neg z, if_neg z]
            rfl
        · show fX10_two M1 x = _
          unfold fX10_two
          rw [isIn01, Option.bind_some, decide_eq_true q, if_neg wb_tn, h1.1.2.1, if_neg (nI_n0 hn q0), if_pos g8, wlet_eq, wlet_eq, wlet_eq, m_two h1.1 hI.2.2.1.1 (by omega) q8]
      · have g8 : ¬ nI n ≤ (8 : Int32) := nI_ge (show 8 < n by omega) (by omega)
        exact wAns_ref hI ((4000000000000000000 : Int64) - Int32.toInt64 (-6)) (e := 5) (by decide) (by
          show fX9_two M x = _
          rw [e0]
          unfold fX9_two_21
          rw [hI.1.1.2.1, if_neg (nI_n0 hn q0), if_neg g8, c_r6]
          rfl) (fun M1 h1 => by
          show fX10_two M1 x = _
          unfold fX10_two
          rw [isIn01, Option.bind_some, decide_eq_true q, if_neg wb_tn, h1.1.2.1, if_neg (nI_n0 hn q0), if_neg g8, m_l6]
          rfl)
  · exact wAns_ref hI ((4000000000000000000 : Int64) - Int32.toInt64 (-2)) (e := 1) (by decide) (by
      show fX9_two M x = _
      unfold fX9_two fX9_two_21
      rw [if_neg (fun z => q (Or.inl z)), if_neg (fun z => q (Or.inr z)), c_r2]
      rfl) (fun M1 h1 => by
      show fX10_two M1 x = _
      unfold fX10_two
      rw [isIn01, Option.bind_some, decide_eq_false q, if_pos wb_fa, m_l2]
      rfl)
end
