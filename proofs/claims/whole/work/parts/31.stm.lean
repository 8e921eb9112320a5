/-! part 31: a statement -/
def sStm (A : Nat → Int32) (t q : Nat) : (Bool × Nat) × Int32 × Int32 × Int32 :=
  if sLet A t q = 100 then (sSg A t 59 (sNm A t 1 (sSg A t 44 (sNm A t 2 (true, q + 1)).2)).2, (sNm A t 2 (true, q + 1)).1, (sNm A t 1 (sSg A t 44 (sNm A t 2 (true, q + 1)).2)).1, 0)
  else if sLet A t q = 103 then (sSg A t 59 (sNm A t 1 (true, q + 1)).2, (sNm A t 1 (true, q + 1)).1, 0, 0)
  else if sLet A t q = 112 then (sSg A t 59 (sNm A t 1 (sSg A t 44 (sNm A t 2 (sNm A t 1 (true, q + 1)).2).2)).2, (sNm A t 1 (true, q + 1)).1, (sNm A t 2 (sNm A t 1 (true, q + 1)).2).1, (sNm A t 1 (sSg A t 44 (sNm A t 2 (sNm A t 1 (true, q + 1)).2).2)).1)
  else if sLet A t q = 117 then (sSg A t 59 (sNm A t 3 (true, q + 1)).2, (sNm A t 3 (true, q + 1)).1, 0, 0)
  else ((false, q), 0, 0, 0)
def wVl (M : wMem) (k : Int32) (v : Int32 × Int32 × Int32) : Prop := (k = 100 ∨ k = 103 ∨ k = 112 ∨ k = 117 → M 49 1 = v.1) ∧ (k = 100 ∨ k = 112 → M 49 2 = v.2.1) ∧ (k = 112 → M 49 3 = v.2.2)
def wVm (M : wMem) (s : Nat) (k : Int32) (v : Int32 × Int32 × Int32) : Prop := (k = 100 ∨ k = 103 ∨ k = 112 ∨ k = 117 → M 81 (3 * s) = v.1) ∧ (k = 100 ∨ k = 112 → M 81 (3 * s + 1) = v.2.1) ∧ (k = 112 → M 81 (3 * s + 2) = v.2.2)
section
variable {M : wMem} {t : Nat} {A : Nat → Int32}
theorem wLt_up (h : wLt M t A) (j : Nat) (x : Int32) : wLt (wup M 49 j x) t A := ⟨h.1, by rw [wup_cell (by decide)]; exact h.2.1, fun i hi => by rw [wup_cell (by decide)]; exact h.2.2 i hi⟩
theorem wPs_up {b : Bool × Nat} (h : wPs M b) {j : Nat} (x : Int32) (h4 : j ≠ 4) (h5 : j ≠ 5) : wPs (wup M 49 j x) b := ⟨by rw [wup_slot (fun z => h4 z.symm)]; exact h.1, by rw [wup_slot (fun z => h5 z.symm)]; exact h.2⟩
theorem c_205 (h : wLt M t A) {b : Bool × Nat} (hb : b.2 ≤ 1000) (hp : wPs M b) : ∃ M', fX7_read_205 M = some M' ∧ wPs M' (sSg A t 59 b) ∧ wO49 M M' := by
  obtain ⟨M', u1, u2, u3⟩ := c_sign h hb hp 59
  exact ⟨M', by unfold fX7_read_205; rw [u1]; rfl, u2, u3⟩
theorem c_read (h : wLt M t A) {q : Nat} (hq : q ≤ 200) : ∃ M', fX7_read M (nI q) = some M' ∧ wPs M' (sStm A t q).1 ∧ M' 49 0 = sLet A t q ∧ wVl M' (sLet A t q) (sStm A t q).2 ∧ ∀ b j, b ≠ 49 → M' b j = M b j := by
  obtain ⟨M2, hM2⟩ : ∃ M2, M2 = wup (wup M 49 4 (nI q)) 49 5 1 := ⟨_, rfl⟩
  have l2 : wLt M2 t A := by rw [hM2]; exact wLt_up (wLt_up h _ _) _ _
  obtain ⟨M5, hM5⟩ : ∃ M5, M5 = wup M2 49 0 (sLet A t q) := ⟨_, rfl⟩
  have l5 : wLt M5 t A := by rw [hM5]; exact wLt_up l2 _ _
  have a4 : M5 49 4 = nI q := by rw [hM5, wup_slot (by decide), hM2, wup_slot (by decide), wup_same]
  have a5 : M5 49 5 = 1 := by rw [hM5, wup_slot (by decide), hM2, wup_same]
  have a0 : M5 49 0 = sLet A t q := by rw [hM5, wup_same]
  have ao : ∀ b j, b ≠ 49 → M5 b j = M b j := fun b j hb => by rw [hM5, wup_cell hb, hM2, wup_cell hb, wup_cell hb]
  obtain ⟨M7, hM7⟩ : ∃ M7, M7 = wup M5 49 4 (nI (q + 1)) := ⟨_, rfl⟩
  have l7 : wLt M7 t A := by rw [hM7]; exact wLt_up l5 _ _
  have p7 : wPs M7 (true, q + 1) := ⟨by rw [hM7, wup_same], by rw [hM7, wup_slot (by decide)]; exact a5⟩
  have b0 : M7 49 0 = sLet A t q := by rw [hM7, wup_slot (by decide)]; exact a0
  have bo : ∀ b j, b ≠ 49 → M7 b j = M b j := fun b j hb => by rw [hM7, wup_cell hb]; exact ao b j hb
  unfold fX7_read
  rw [wlet_eq, wlet_eq, ← hM2, c_let l2 (by omega), Option.bind_some, wlet_eq, ← hM5, wlet_eq, a0, a4, nI_1]
  unfold sStm
  by_cases k1 : sLet A t q = 100
  · rw [if_pos k1, if_pos k1, wlet_eq, ← hM7]
    obtain ⟨Ma, u1, u2, u3⟩ := c_num l7 (m := 2) (by omega) (b := (true, q + 1)) (by show q + 1 ≤ _; omega) p7
    have n1 := sNm_le A t 2 (true, q + 1)
    obtain ⟨Mb, v1, v2, v3⟩ := c_sign (wLt_up (u3.lt l7) 1 (sNm A t 2 (true, q + 1)).1) (by have : (true, q + 1).2 = q + 1 := rfl; omega) (wPs_up u2 _ (by decide) (by decide)) 44
    have n2 := sSg_le A t 44 (sNm A t 2 (true, q + 1)).2
    obtain ⟨Mc, w1, w2, w3⟩ := c_num (v3.lt (wLt_up (u3.lt l7) 1 (sNm A t 2 (true, q + 1)).1)) (m := 1) (by omega) (by have : (true, q + 1).2 = q + 1 := rfl; omega) v2
    have n3 := sNm_le A t 1 (sSg A t 44 (sNm A t 2 (true, q + 1)).2)
    obtain ⟨Md, x1, x2, x3⟩ := c_205 (wLt_up (w3.lt (v3.lt (wLt_up (u3.lt l7) 1 (sNm A t 2 (true, q + 1)).1))) 2 (sNm A t 1 (sSg A t 44 (sNm A t 2 (true, q + 1)).2)).1) (by have : (true, q + 1).2 = q + 1 := rfl; omega) (wPs_up w2 _ (by decide) (by decide))
    refine ⟨Md, ?_, x2, ?_, ⟨fun _ => ?_, fun _ => ?_, fun z => ?_⟩, fun b j hb => ?_⟩
    · rw [show fX7_readNumber M7 2 = _ from u1, Option.bind_some, wpr_e, wlet_eq, v1, Option.bind_some, show fX7_readNumber Mb 1 = _ from w1, Option.bind_some, wpr_e, wlet_eq, x1]
    · rw [x3 49 0 (by omega), wup_slot (by decide), w3 49 0 (by omega), v3 49 0 (by omega), wup_slot (by decide), u3 49 0 (by omega), b0]
    · rw [x3 49 1 (by omega), wup_slot (by decide), w3 49 1 (by omega), v3 49 1 (by omega), wup_same]
    · rw [x3 49 2 (by omega), wup_same]
    · rw [k1] at z
      exact absurd z (by decide)
    · rw [x3 b j (by omega), wup_cell hb, w3 b j (by omega), v3 b j (by omega), wup_cell hb, u3 b j (by omega), bo b j hb]
  rw [if_neg k1, if_neg k1]
  by_cases k2 : sLet A t q = 103
  · rw [if_pos k2, if_pos k2, wlet_eq, ← hM7]
    obtain ⟨Ma, u1, u2, u3⟩ := c_num l7 (m := 1) (by omega) (b := (true, q + 1)) (by show q + 1 ≤ _; omega) p7
    have n1 := sNm_le A t 1 (true, q + 1)
    obtain ⟨Md, x1, x2, x3⟩ := c_205 (wLt_up (u3.lt l7) 1 (sNm A t 1 (true, q + 1)).1) (by have : (true, q + 1).2 = q + 1 := rfl; omega) (wPs_up u2 _ (by decide) (by decide))
    refine ⟨Md, ?_, x2, ?_, ⟨fun _ => ?_, fun z => ?_, fun z => ?_⟩, fun b j hb => ?_⟩
    · rw [show fX7_readNumber M7 1 = _ from u1, Option.bind_some, wpr_e, wlet_eq, x1]
    · rw [x3 49 0 (by omega), wup_slot (by decide), u3 49 0 (by omega), b0]
    · rw [x3 49 1 (by omega), wup_same]
    · rw [k2] at z
      exact absurd z (by decide)
    · rw [k2] at z
      exact absurd z (by decide)
    · rw [x3 b j (by omega), wup_cell hb, u3 b j (by omega), bo b j hb]
  rw [if_neg k2, if_neg k2]
  by_cases k3 : sLet A t q = 112
  · rw [if_pos k3, if_pos k3, wlet_eq, ← hM7]
    obtain ⟨Ma, u1, u2, u3⟩ := c_num l7 (m := 1) (by omega) (b := (true, q + 1)) (by show q + 1 ≤ _; omega) p7
    have n1 := sNm_le A t 1 (true, q + 1)
    have la := wLt_up (u3.lt l7) 1 (sNm A t 1 (true, q + 1)).1
    obtain ⟨Me, y1, y2, y3⟩ := c_num la (m := 2) (by omega) (by have : (true, q + 1).2 = q + 1 := rfl; omega) (wPs_up u2 _ (by decide) (by decide))
    have n4 := sNm_le A t 2 (sNm A t 1 (true, q + 1)).2
    have le := wLt_up (y3.lt la) 2 (sNm A t 2 (sNm A t 1 (true, q + 1)).2).1
    obtain ⟨Mb, v1, v2, v3⟩ := c_sign le (by have : (true, q + 1).2 = q + 1 := rfl; omega) (wPs_up y2 _ (by decide) (by decide)) 44
    have n2 := sSg_le A t 44 (sNm A t 2 (sNm A t 1 (true, q + 1)).2).2
    obtain ⟨Mc, w1, w2, w3⟩ := c_num (v3.lt le) (m := 1) (by omega) (by have : (true, q + 1).2 = q + 1 := rfl; omega) v2
    have n3 := sNm_le A t 1 (sSg A t 44 (sNm A t 2 (sNm A t 1 (true, q + 1)).2).2)
    obtain ⟨Md, x1, x2, x3⟩ := c_205 (wLt_up (w3.lt (v3.lt le)) 3 (sNm A t 1 (sSg A t 44 (sNm A t 2 (sNm A t 1 (true, q + 1)).2).2)).1) (by have : (true, q + 1).2 = q + 1 := rfl; omega) (wPs_up w2 _ (by decide) (by decide))
    refine ⟨Md, ?_, x2, ?_, ⟨fun _ => ?_, fun _ => ?_, fun _ => ?_⟩, fun b j hb => ?_⟩
    · rw [show fX7_readNumber M7 1 = _ from u1, Option.bind_some, wpr_e, wlet_eq, show fX7_readNumber (wup Ma 49 1 (sNm A t 1 (true, q + 1)).1) 2 = _ from y1, Option.bind_some, wpr_e, wlet_eq, v1, Option.bind_some, show fX7_readNumber Mb 1 = _ from w1, Option.bind_some, wpr_e, wlet_eq, x1]
    · rw [x3 49 0 (by omega), wup_slot (by decide), w3 49 0 (by omega), v3 49 0 (by omega), wup_slot (by decide), y3 49 0 (by omega), wup_slot (by decide), u3 49 0 (by omega), b0]
    · rw [x3 49 1 (by omega), wup_slot (by decide), w3 49 1 (by omega), v3 49 1 (by omega), wup_slot (by decide), y3 49 1 (by omega), wup_same]
    · rw [x3 49 2 (by omega), wup_slot (by decide), w3 49 2 (by omega), v3 49 2 (by omega), wup_same]
    · rw [x3 49 3 (by omega), wup_same]
    · rw [x3 b j (by omega), wup_cell hb, w3 b j (by omega), v3 b j (by omega), wup_cell hb, y3 b j (by omega), wup_cell hb, u3 b j (by omega), bo b j hb]
  rw [if_neg k3, if_neg k3]
  by_cases k4 : sLet A t q = 117
  · rw [if_pos k4, if_pos k4, wlet_eq, ← hM7]
    obtain ⟨Ma, u1, u2, u3⟩ := c_num l7 (m := 3) (by omega) (b := (true, q + 1)) (by show q + 1 ≤ _; omega) p7
    have n1 := sNm_le A t 3 (true, q + 1)
    obtain ⟨Md, x1, x2, x3⟩ := c_205 (wLt_up (u3.lt l7) 1 (sNm A t 3 (true, q + 1)).1) (by have : (true, q + 1).2 = q + 1 := rfl; omega) (wPs_up u2 _ (by decide) (by decide))
    refine ⟨Md, ?_, x2, ?_, ⟨fun _ => ?_, fun z => ?_, fun z => ?_⟩, fun b j hb => ?_⟩
    · rw [show fX7_readNumber M7 3 = _ from u1, Option.bind_some, wpr_e, wlet_eq, x1]
    · rw [x3 49 0 (by omega), wup_slot (by decide), u3 49 0 (by omega), b0]
    · rw [x3 49 1 (by omega), wup_same]
    · rw [k4] at z
      exact absurd z (by decide)
    · rw [k4] at z
      exact absurd z (by decide)
    · rw [x3 b j (by omega), wup_cell hb, u3 b j (by omega), bo b j hb]
  rw [if_neg k4, if_neg k4, wlet_eq]
  have p8 : wPs (wup M5 49 5 0) (false, q) := ⟨by rw [wup_slot (by decide)]; exact a4, wup_same _ _ _ _⟩
  obtain ⟨Md, x1, x2, x3⟩ := c_205 (wLt_up l5 5 0) (by show q ≤ _; omega) p8
  rw [sSg_f] at x2
  refine ⟨Md, x1, x2, ?_, ⟨fun z => ?_, fun z => ?_, fun z => ?_⟩, fun b j hb => ?_⟩
  · rw [x3 49 0 (by omega), wup_slot (by decide), a0]
  · exact absurd z (fun z => z.elim k1 (fun z => z.elim k2 (fun z => z.elim k3 k4)))
  · exact absurd z (fun z => z.elim k1 k3)
  · exact absurd z k3
  · rw [x3 b j (by omega), wup_cell hb, ao b j hb]
end
