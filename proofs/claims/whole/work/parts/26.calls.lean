/-! part 26: calls that leave all that counts as it was -/
section
variable {M : wMem} {n : Nat} {L : Nat → Nat → Int32} {st : Nat → Int32} {hr : Int32} {t : Nat} {A R : Nat → Int32} {c : Nat} {p a : Nat → Nat} {o : wKt}
theorem wI.le (hI : wI M n L st hr t A R c p a o) : wLe L n := fun i hi => (hI.2.2.1.1 i hi).2
theorem nI_n0 {n : Nat} (hn : n ≤ 12) (q : ¬ n = 0) : ¬ nI n = 0 := fun z => q ((nI_eq (b := 0) (by omega) (by decide)).mp z)
theorem isIn01 (M : wMem) (x : Int32) : fX10_isIn M x 0 1 = some (decide (x = 0 ∨ x = 1)) := by
  unfold fX10_isIn
  have e0 : (0 : Int32).toInt = 0 := rfl
  have e1 : (1 : Int32).toInt = 1 := rfl
  by_cases q1 : x < 0
  · rw [if_pos q1, decide_eq_false]
    rw [i_lt] at q1
    rintro (rfl | rfl) <;> omega
  · rw [if_neg q1]
    by_cases q2 : 1 < x
    · rw [if_pos q2, decide_eq_false]
      rw [i_lt] at q2
      rintro (rfl | rfl) <;> omega
    · rw [if_neg q2, decide_eq_true]
      rw [i_lt] at q1 q2
      rw [i_eq, i_eq x 1]
      omega
theorem k_lasts (hI : wI M n L st hr t A R c p a o) : wAns (fun M => fX9_lasts M) (fun M => fX10_lasts M) M := by
  obtain ⟨M1, u1, u2⟩ := c_lasts hI.1.1
  exact wAns_keep hI _ ⟨M1, u1, u2.kc⟩ (fun M1 h1 => by
    obtain ⟨M2, v1, v2⟩ := m_lasts h1.1 hI.le
    exact ⟨M2, v1, v2.kn⟩)
theorem k_next (hI : wI M n L st hr t A R c p a o) (x : Int32) : wAns (fun M => fX9_next M x) (fun M => fX10_next M x) M := by
  have two : ∀ w : Bool, fX9_next M x = fX9_next_33 M (wb w) → (∀ M1, wMa M1 n L st hr t A R c p a o → fX10_next M1 x = (fX10_findNext M1).bind fun M6 => some (M6 70 (if w = true then 29 else 30), M6)) → wAns (fun M => fX9_next M x) (fun M => fX10_next M x) M := by
    intro w h1 h2
    obtain ⟨M1, u1, u2⟩ := c_next hI.1.1 w
    refine wAns_keep hI (sNx L n st hr w 1 400) ⟨M1, ?_, u2.kc⟩ (fun M1 h1 => ?_)
    · show fX9_next M x = _
      rw [h1]
      unfold fX9_next_33
      rw [u1]
      rfl
    · obtain ⟨M2, v1, v2, v3, v4⟩ := m_next h1.1 hI.le
      refine ⟨M2, ?_, v4.kn⟩
      show fX10_next M1 x = _
      rw [h2 M1 h1, v1, Option.bind_some]
      cases w
      · rw [if_neg (by decide), v3]
      · rw [if_pos rfl, v2]
  by_cases q0 : x = 0
  · subst q0
    refine two true (by unfold fX9_next fX9_next_16; rw [if_pos rfl, if_pos rfl]; rfl) (fun M1 h1 => ?_)
    unfold fX10_next
    rw [isIn01, Option.bind_some, if_neg (by decide)]
    simp only [if_pos]
  · by_cases q1 : x = 1
    · subst q1
      refine two false (by unfold fX9_next fX9_next_16; rw [if_neg q0, if_pos rfl, if_neg q0]; rfl) (fun M1 h1 => ?_)
      unfold fX10_next
      rw [isIn01, Option.bind_some, if_neg (by decide)]
      simp only [if_neg q0]
      rfl
    · have qq : ¬ (x = 0 ∨ x = 1) := fun z => z.elim q0 q1
      exact wAns_ref hI (-2) (e := 1) (by decide) (by
        show fX9_next M x = _
        unfold fX9_next
        rw [if_neg q0, if_neg q1, c_r2]
        rfl) (fun M1 h1 => by
        show fX10_next M1 x = _
        unfold fX10_next
        rw [isIn01, Option.bind_some, decide_eq_false qq, if_pos (show wb false = 0 from rfl), m_r2]
        rfl)
theorem k_bridged (hI : wI M n L st hr t A R c p a o) (x : Int32) : wAns (fun M => fX9_bridged M x) (fun M => fX10_bridged M x) M := by
  by_cases q1 : 0 ≤ x
  · by_cases q2 : x ≤ 12
    · obtain ⟨M1, u1, u2⟩ := c_bridged hI.1.1 x
      refine wAns_keep hI (sFirst (sPb L n st hr x) 0 401) ⟨M1, ?_, u2.kc⟩ (fun M1 h1 => ?_)
      · show fX9_bridged M x = _
        unfold fX9_bridged
        rw [if_pos q1, if_pos q2, u1]
        rfl
      · obtain ⟨M2, v1, v2⟩ := m_bridged h1.1 hI.le x
        refine ⟨M2, ?_, v2.kn⟩
        show fX10_bridged M1 x = _
        unfold fX10_bridged fX10_bound
        rw [if_pos q1, if_pos q2, Option.bind_some, if_pos rfl, v1]
    · exact wAns_ref hI (-6) (e := 5) (by decide) (by
        show fX9_bridged M x = _
        unfold fX9_bridged
        rw [if_pos q1, if_neg q2, c_r6]
        rfl) (fun M1 h1 => by
        show fX10_bridged M1 x = _
        unfold fX10_bridged fX10_bound
        rw [if_pos q1, if_neg q2, Option.bind_some, if_neg (by decide), m_r6]
        rfl)
  · exact wAns_ref hI (-4) (e := 3) (by decide) (by
      show fX9_bridged M x = _
      unfold fX9_bridged
      rw [if_neg q1, c_r4]
      rfl) (fun M1 h1 => by
      show fX10_bridged M1 x = _
      unfold fX10_bridged fX10_bound
      rw [if_neg q1, Option.bind_some, if_neg (by decide), m_r4]
      rfl)
theorem k_light (hI : wI M n L st hr t A R c p a o) (x : Int32) : wAns (fun M => fX9_light M x) (fun M => fX10_light M x) M := by
  by_cases q1 : 0 ≤ x
  · by_cases q2 : x ≤ 200
    · obtain ⟨j, hj, rfl⟩ := nI_of (x := x) (fun z => by
        rw [i_lt] at z
        rw [i_le] at q1
        have e1 : (0 : Int32).toInt = 0 := rfl
        have e2 : (0 : Int32).toInt = 0 := rfl
        omega)
      have hj2 : j ≤ 200 := (nI_leI (b := 200) hj (by decide)).mp q2
      obtain ⟨M1, u1, u2⟩ := c_light hI.1.1 hj2
      refine wAns_keep hI (sSum (sLt L n st hr) j) ⟨M1, ?_, u2.kc⟩ (fun M1 h1 => ?_)
      · show fX9_light M (nI j) = _
        unfold fX9_light
        rw [if_pos q1, if_pos q2, u1]
        rfl
      · obtain ⟨M2, v1, v2⟩ := m_light h1.1 hI.le hj2
        refine ⟨M2, ?_, v2.kn⟩
        show fX10_light M1 (nI j) = _
        unfold fX10_light fX10_bound
        rw [if_pos q1, if_pos q2, Option.bind_some, if_pos rfl, v1]
    · exact wAns_ref hI (-6) (e := 5) (by decide) (by
        show fX9_light M x = _
        unfold fX9_light
        rw [if_pos q1, if_neg q2, c_r6]
        rfl) (fun M1 h1 => by
        show fX10_light M1 x = _
        unfold fX10_light fX10_bound
        rw [if_pos q1, if_neg q2, Option.bind_some, if_neg (by decide), m_r6]
        rfl)
  · exact wAns_ref hI (-4) (e := 3) (by decide) (by
      show fX9_light M x = _
      unfold fX9_light
      rw [if_neg q1, c_r4]
      rfl) (fun M1 h1 => by
      show fX10_light M1 x = _
      unfold fX10_light fX10_bound
      rw [if_neg q1, Option.bind_some, if_neg (by decide), m_r4]
      rfl)
theorem k_keeps (hI : wI M n L st hr t A R c p a o) (x : Int32) : wAns (fun M => fX9_keeps M x) (fun M => fX10_keeps M x) M := by
  by_cases q1 : 1 ≤ x
  · by_cases q2 : x ≤ 200
    · obtain ⟨j, hj, rfl⟩ := nI_of (x := x) (fun z => by
        rw [i_lt] at z
        rw [i_le] at q1
        have e1 : (1 : Int32).toInt = 1 := rfl
        have e2 : (0 : Int32).toInt = 0 := rfl
        omega)
      have hj2 : j ≤ 200 := (nI_leI (b := 200) hj (by decide)).mp q2
      obtain ⟨M1, u1, u2⟩ := c_keeps hI.1.1 hj2
      refine wAns_keep hI (sSum (fun k => sBad (sKs L n st hr k) n) j) ⟨M1, ?_, u2.kc⟩ (fun M1 h1 => ?_)
      · show fX9_keeps M (nI j) = _
        unfold fX9_keeps
        rw [if_pos q1, if_pos q2, u1]
        rfl
      · obtain ⟨M2, v1, v2⟩ := m_keeps h1.1 hI.le hj2
        refine ⟨M2, ?_, v2.kn⟩
        show fX10_keeps M1 (nI j) = _
        unfold fX10_keeps fX10_bound
        rw [if_pos q1, if_pos q2, Option.bind_some, if_pos rfl, v1]
    · exact wAns_ref hI (-6) (e := 5) (by decide) (by
        show fX9_keeps M x = _
        unfold fX9_keeps
        rw [if_pos q1, if_neg q2, c_r6]
        rfl) (fun M1 h1 => by
        show fX10_keeps M1 x = _
        unfold fX10_keeps fX10_bound
        rw [if_pos q1, if_neg q2, Option.bind_some, if_neg (by decide), m_r6]
        rfl)
  · exact wAns_ref hI (-4) (e := 3) (by decide) (by
      show fX9_keeps M x = _
      unfold fX9_keeps
      rw [if_neg q1, c_r4]
      rfl) (fun M1 h1 => by
      show fX10_keeps M1 x = _
      unfold fX10_keeps fX10_bound
      rw [if_neg q1, Option.bind_some, if_neg (by decide), m_r4]
      rfl)
theorem k_seeds (hI : wI M n L st hr t A R c p a o) (x y : Int32) : wAns (fun M => fX9_seeds M x y) (fun M => fX10_seeds M x y) M := by
  by_cases q1 : 1 ≤ x
  · by_cases q2 : x ≤ 50
    · obtain ⟨j, hj, rfl⟩ := nI_of (x := x) (fun z => by
        rw [i_lt] at z
        rw [i_le] at q1
        have e1 : (1 : Int32).toInt = 1 := rfl
        have e2 : (0 : Int32).toInt = 0 := rfl
        omega)
      have hj2 : j ≤ 50 := (nI_leI (b := 50) hj (by decide)).mp q2
      by_cases q0 : n = 0
      · subst q0
        exact wAns_ref hI (-3) (e := 2) (by decide) (by
          show fX9_seeds M (nI j) y = _
          unfold fX9_seeds
          rw [if_pos q1, if_pos q2, if_pos (show M 1 2 = 0 from hI.1.1.2.1), c_r3]
          rfl) (fun M1 h1 => by
          show fX10_seeds M1 (nI j) y = _
          unfold fX10_seeds fX10_bound fX10_seeds_22
          rw [if_pos q1, if_pos q2, Option.bind_some, if_pos rfl, if_pos (show M1 70 7 = 0 from h1.1.2.1), if_neg (by decide), m_r3]
          rfl)
      · have hn := hI.1.1.1
        obtain ⟨M1, u1, u2⟩ := c_seeds hI.1.1 (show 0 < n by omega) hj2 y
        refine wAns_keep hI (sMany (sSd L n st hr y j) 0 n) ⟨M1, ?_, u2.kc⟩ (fun M1 h1 => ?_)
        · show fX9_seeds M (nI j) y = _
          unfold fX9_seeds
          rw [if_pos q1, if_pos q2, hI.1.1.2.1, if_neg (nI_n0 hn q0), u1]
          rfl
        · obtain ⟨M2, v1, v2⟩ := m_seeds h1.1 hI.le (show 0 < n by omega) hj2 y
          refine ⟨M2, ?_, v2.kn⟩
          show fX10_seeds M1 (nI j) y = _
          unfold fX10_seeds fX10_bound
          rw [if_pos q1, if_pos q2, Option.bind_some, if_pos rfl, h1.1.2.1, if_neg (nI_n0 hn q0)]
          unfold fX10_seeds_22
          rw [if_pos rfl, v1]
    · exact wAns_ref hI (-6) (e := 5) (by decide) (by
        show fX9_seeds M x y = _
        unfold fX9_seeds
        rw [if_pos q1, if_neg q2, c_r6]
        rfl) (fun M1 h1 => by
        show fX10_seeds M1 x y = _
        unfold fX10_seeds fX10_bound fX10_seeds_22
        rw [if_pos q1, if_neg q2, Option.bind_some, if_neg (by decide), if_neg (by decide), m_r6]
        rfl)
  · exact wAns_ref hI (-4) (e := 3) (by decide) (by
      show fX9_seeds M x y = _
      unfold fX9_seeds
      rw [if_neg q1, c_r4]
      rfl) (fun M1 h1 => by
      show fX10_seeds M1 x y = _
      unfold fX10_seeds fX10_bound fX10_seeds_22
      rw [if_neg q1, Option.bind_some, if_neg (by decide), if_neg (by decide), m_r4]
      rfl)
theorem k_allAnew (hI : wI M n L st hr t A R c p a o) : wAns (fun M => fX9_allAnew M) (fun M => fX10_allAnew M) M := by
  by_cases q0 : n = 0
  · subst q0
    exact wAns_ref hI (-3) (e := 2) (by decide) (by
      show fX9_allAnew M = _
      unfold fX9_allAnew
      rw [if_pos (show M 1 2 = 0 from hI.1.1.2.1), c_r3]
      rfl) (fun M1 h1 => by
      show fX10_allAnew M1 = _
      unfold fX10_allAnew
      rw [if_pos (show M1 70 7 = 0 from h1.1.2.1), m_r3]
      rfl)
  · have hn := hI.1.1.1
    obtain ⟨M1, u1, u2⟩ := c_allAnew hI.1.1
    refine wAns_keep hI (sDown (fun e => sStay L n st hr e 0 60) 50) ⟨M1, ?_, u2.kc⟩ (fun M1 h1 => ?_)
    · show fX9_allAnew M = _
      unfold fX9_allAnew
      rw [hI.1.1.2.1, if_neg (nI_n0 hn q0), u1]
      rfl
    · obtain ⟨M2, v1, v2⟩ := m_allAnew h1.1 hI.le
      refine ⟨M2, ?_, v2.kn⟩
      show fX10_allAnew M1 = _
      unfold fX10_allAnew
      rw [h1.1.2.1, if_neg (nI_n0 hn q0), v1]
theorem k_order (hI : wI M n L st hr t A R c p a o) (x : Int32) : wAns (fun M => fX9_order M x) (fun M => fX10_order M x) M := by
  by_cases q1 : 0 ≤ x
  · have hn := hI.1.1.1
    by_cases q2 : nI n ≤ x
    · obtain ⟨M2, v1, v2, v3⟩ := m_order (hI.2.1).1
      refine wAns_keep hI (-9) ⟨M, ?_, wKc.rf M⟩ (fun M1 h1 => ?_)
      · show fX9_order M x = _
        unfold fX9_order
        rw [if_pos q1, c_has hI.1.1, Option.bind_some, decide_eq_false (fun z => z.2 q2), if_pos (show wb false = 0 from rfl)]
      · obtain ⟨M2, v1, v2, v3⟩ := m_order h1.1
        refine ⟨M2, ?_, v2.kn⟩
        show fX10_order M1 x = _
        unfold fX10_order
        rw [if_pos q1, v1, Option.bind_some, (v2.mod (by decide) h1.1).2.1, if_pos q2]
    · obtain ⟨i, hi, rfl⟩ := i_ix (x := x) (n := n) (Int32.not_lt.mpr q1) q2 (by omega)
      obtain ⟨M1, u1, u2, u3⟩ := c_arrange hI.1.1
      refine wAns_keep hI (nI (sOrd L n i)) ⟨M1, ?_, u2.kc⟩ (fun M1 h1 => ?_)
      · show fX9_order M (nI i) = _
        unfold fX9_order
        rw [if_pos q1, c_has hI.1.1, Option.bind_some, decide_eq_true (show ¬ nI i < 0 ∧ ¬ nI n ≤ nI i from ⟨Int32.not_lt.mpr q1, q2⟩), if_neg (by decide), u1, Option.bind_some, wgi_n (by omega) (by decide), nI_clamp (by omega), u3 i hi]
      · obtain ⟨M2, v1, v2, v3⟩ := m_order h1.1
        refine ⟨M2, ?_, v2.kn⟩
        show fX10_order M1 (nI i) = _
        unfold fX10_order
        rw [if_pos q1, v1, Option.bind_some, (v2.mod (by decide) h1.1).2.1, if_neg q2, wgi_n (by omega) (by decide), nI_clamp (by omega), v3 i hi]
  · exact wAns_ref hI (-4) (e := 3) (by decide) (by
      show fX9_order M x = _
      unfold fX9_order
      rw [if_neg q1, c_r4]
      rfl) (fun M1 h1 => by
      show fX10_order M1 x = _
      unfold fX10_order
      rw [if_neg q1, m_r4]
      rfl)
theorem k_orderSum (hI : wI M n L st hr t A R c p a o) : wAns (fun M => fX9_orderSum M) (fun M => fX10_orderSum M) M := by
  by_cases q0 : n = 0
  · subst q0
    exact wAns_ref hI (-3) (e := 2) (by decide) (by
      show fX9_orderSum M = _
      unfold fX9_orderSum
      rw [if_pos (show M 1 2 = 0 from hI.1.1.2.1), c_r3]
      rfl) (fun M1 h1 => by
      show fX10_orderSum M1 = _
      unfold fX10_orderSum
      rw [if_pos (show M1 70 7 = 0 from h1.1.2.1), m_r3]
      rfl)
  · have hn := hI.1.1.1
    obtain ⟨M1, u1, u2, u3⟩ := c_arrange hI.1.1
    refine wAns_keep hI (sOSum L (sOrd L n) 0 0 0 n) ⟨M1, ?_, u2.kc⟩ (fun M1 h1 => ?_)
    · show fX9_orderSum M = _
      unfold fX9_orderSum
      rw [hI.1.1.2.1, if_neg (nI_n0 hn q0), u1, Option.bind_some, c_sum (u2.row (by decide) hI.1.1) u3, Option.bind_some]
    · obtain ⟨M2, v1, v2, v3⟩ := m_order h1.1
      refine ⟨M2, ?_, v2.kn⟩
      show fX10_orderSum M1 = _
      unfold fX10_orderSum
      rw [h1.1.2.1, if_neg (nI_n0 hn q0), v1, Option.bind_some, m_sum (v2.mod (by decide) h1.1) v3]
theorem k_find (hI : wI M n L st hr t A R c p a o) (x y z : Int32) : wAns (fun M => fX9_find M x y z) (fun M => fX10_find M x y z) M := by
  have hn := hI.1.1.1
  by_cases q1 : (¬ x < 0 ∧ ¬ nI n ≤ x) ∧ (¬ y < 0 ∧ ¬ nI n ≤ y) ∧ ¬ y < x
  · obtain ⟨i, hi, rfl⟩ := i_ix q1.1.1 q1.1.2 (by omega)
    obtain ⟨j, hj, rfl⟩ := i_ix q1.2.1.1 q1.2.1.2 (by omega)
    obtain ⟨d, rfl⟩ : ∃ d, j = i + d := ⟨j - i, by
      have := mt (nI_ltI (a := j) (b := i) (by omega) (by omega)).mpr q1.2.2
      omega⟩
    have ix : 12 * nI i + nI (i + d) = nI (12 * i + (i + d)) := by
      show nI 12 * nI i + nI (i + d) = _
      rw [pk_mul, nI_add]
    have two : ∀ w : Bool, z = (if w = true then 0 else 1) → wAns (fun M => fX9_find M (nI i) (nI (i + d)) z) (fun M => fX10_find M (nI i) (nI (i + d)) z) M := by
      intro w hz
      obtain ⟨M1, u1, u2, u3⟩ := c_cost0 hI.1.1 (w := w) hj
      refine wAns_keep hI (sT w L d i) ⟨M1, ?_, u2.kc⟩ (fun M1 h1 => ?_)
      · show fX9_find M (nI i) (nI (i + d)) z = _
        unfold fX9_find fX9_find_34
        rw [c_stretch hI.1.1, Option.bind_some, decide_eq_true q1, if_neg (by decide), hz, u1]
        cases w
        · rw [if_neg (by decide), if_pos (by decide)]
          rfl
        · rw [if_pos (by decide)]
          rfl
      · obtain ⟨M2, v1, v2, v3⟩ := m_stretches h1.1
        refine ⟨M2, ?_, v2.kn⟩
        have v4 := v3 i d hj
        show fX10_find M1 (nI i) (nI (i + d)) z = _
        unfold fX10_find
        rw [m_lamps h1.1, Option.bind_some, decide_eq_true q1, if_neg (by decide), isIn01, Option.bind_some, decide_eq_true (show z = 0 ∨ z = 1 by rw [hz]; cases w <;> decide), if_neg (by decide), v1, Option.bind_some, hz, ix, wgi_n (by omega) (by decide), wgi_n (by omega) (by decide), nI_clamp (by omega)]
        cases w
        · rw [if_neg (by decide), v4.2.1]
        · rw [if_pos (by decide), v4.1.1]
    by_cases q2 : z = 0
    · exact two true q2
    · by_cases q3 : z = 1
      · exact two false q3
      · have qq : ¬ (z = 0 ∨ z = 1) := fun y => y.elim q2 q3
        exact wAns_ref hI (-2) (e := 1) (by decide) (by
          show fX9_find M (nI i) (nI (i + d)) z = _
          unfold fX9_find
          rw [c_stretch hI.1.1, Option.bind_some, decide_eq_true q1, if_neg (show ¬ wb true = 0 by decide), if_neg q2, if_neg q3, c_r2]
          rfl) (fun M1 h1 => by
          show fX10_find M1 (nI i) (nI (i + d)) z = _
          unfold fX10_find
          rw [m_lamps h1.1, Option.bind_some, decide_eq_true q1, if_neg (show ¬ wb true = 0 by decide), isIn01, Option.bind_some, decide_eq_false qq, if_pos (show wb false = 0 from rfl), m_r2]
          rfl)
  · exact wAns_ref hI (-1) (e := 0) (by decide) (by
      show fX9_find M x y z = _
      unfold fX9_find
      rw [c_stretch hI.1.1, Option.bind_some, decide_eq_false q1, if_pos (show wb false = 0 from rfl), c_r1]
      rfl) (fun M1 h1 => by
      show fX10_find M1 x y z = _
      unfold fX10_find
      rw [m_lamps h1.1, Option.bind_some, decide_eq_false q1, if_pos (show wb false = 0 from rfl), m_r1]
      rfl)
theorem k_look (hI : wI M n L st hr t A R c p a o) (x y z : Int32) : wAns (fun M => fX9_look M x y z) (fun M => fX10_look M x y z) M := by
  have hn := hI.1.1.1
  by_cases q1 : (¬ x < 0 ∧ ¬ nI n ≤ x) ∧ (¬ y < 0 ∧ ¬ nI n ≤ y) ∧ ¬ y < x
  · obtain ⟨i, hi, rfl⟩ := i_ix q1.1.1 q1.1.2 (by omega)
    obtain ⟨j, hj, rfl⟩ := i_ix q1.2.1.1 q1.2.1.2 (by omega)
    obtain ⟨d, rfl⟩ : ∃ d, j = i + d := ⟨j - i, by
      have := mt (nI_ltI (a := j) (b := i) (by omega) (by omega)).mpr q1.2.2
      omega⟩
    have ix : 12 * nI i + nI (i + d) = nI (12 * i + (i + d)) := by
      show nI 12 * nI i + nI (i + d) = _
      rw [pk_mul, nI_add]
    have two : ∀ w : Bool, z = (if w = true then 0 else 1) → wAns (fun M => fX9_look M (nI i) (nI (i + d)) z) (fun M => fX10_look M (nI i) (nI (i + d)) z) M := by
      intro w hz
      obtain ⟨M1, u1, u2⟩ := c_best hI.1.1 (w := w) hj
      refine wAns_keep hI (if d = 0 then -9 else nI (sAt w L d i)) ⟨M1, ?_, u2.kc⟩ (fun M1 h1 => ?_)
      · show fX9_look M (nI i) (nI (i + d)) z = _
        unfold fX9_look fX9_look_34
        rw [c_stretch hI.1.1, Option.bind_some, decide_eq_true q1, if_neg (by decide), hz, u1]
        cases w
        · rw [if_neg (by decide), if_pos (by decide)]
          rfl
        · rw [if_pos (by decide)]
          rfl
      · obtain ⟨M2, v1, v2, v3⟩ := m_stretches h1.1
        refine ⟨M2, ?_, v2.kn⟩
        have v4 := v3 i d hj
        show fX10_look M1 (nI i) (nI (i + d)) z = _
        unfold fX10_look
        rw [m_lamps h1.1, Option.bind_some, decide_eq_true q1, if_neg (by decide), isIn01, Option.bind_some, decide_eq_true (show z = 0 ∨ z = 1 by rw [hz]; cases w <;> decide), if_neg (by decide), v1, Option.bind_some, hz, ix, wgi_n (by omega) (by decide), wgi_n (by omega) (by decide), nI_clamp (by omega)]
        cases w
        · rw [if_neg (by decide), v4.2.2]
        · rw [if_pos (by decide), v4.1.2]
    by_cases q2 : z = 0
    · exact two true q2
    · by_cases q3 : z = 1
      · exact two false q3
      · have qq : ¬ (z = 0 ∨ z = 1) := fun y => y.elim q2 q3
        exact wAns_ref hI (-2) (e := 1) (by decide) (by
          show fX9_look M (nI i) (nI (i + d)) z = _
          unfold fX9_look
          rw [c_stretch hI.1.1, Option.bind_some, decide_eq_true q1, if_neg (show ¬ wb true = 0 by decide), if_neg q2, if_neg q3, c_r2]
          rfl) (fun M1 h1 => by
          show fX10_look M1 (nI i) (nI (i + d)) z = _
          unfold fX10_look
          rw [m_lamps h1.1, Option.bind_some, decide_eq_true q1, if_neg (show ¬ wb true = 0 by decide), isIn01, Option.bind_some, decide_eq_false qq, if_pos (show wb false = 0 from rfl), m_r2]
          rfl)
  · exact wAns_ref hI (-1) (e := 0) (by decide) (by
      show fX9_look M x y z = _
      unfold fX9_look
      rw [c_stretch hI.1.1, Option.bind_some, decide_eq_false q1, if_pos (show wb false = 0 from rfl), c_r1]
      rfl) (fun M1 h1 => by
      show fX10_look M1 x y z = _
      unfold fX10_look
      rw [m_lamps h1.1, Option.bind_some, decide_eq_false q1, if_pos (show wb false = 0 from rfl), m_r1]
      rfl)
end
