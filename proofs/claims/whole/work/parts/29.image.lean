/-! part 29: an image, and back to it -/
section
variable {M : wMem} {n : Nat} {L : Nat → Nat → Int32} {st : Nat → Int32} {hr : Int32} {t : Nat} {A R : Nat → Int32} {c : Nat} {p a : Nat → Nat} {o : wKt}
theorem k_image (hI : wI M n L st hr t A R c p a o) : wAns (fun M => fX9_image M) (fun M => fX10_image M) M := by
  obtain ⟨M1, u1, u2, u3⟩ := c_copy (k := 16) hI.1.1 (by omega)
  refine wAns_go (n' := n) (L' := L) (st' := st) (hr' := hr) (t' := t) (A' := A) (R' := R) (c' := c) (p' := p) (a' := a) (o' := some (n, L, st, hr)) hI hr ⟨hI.2.2.1, hI.2.2.2.1, hI.2.2.1⟩ ⟨wup M1 0 9 1, ?_, ?_, fun b hb => by rw [wup_cell (by omega)]; exact u3 b (by omega)⟩ (fun M1 h1 => ?_)
  · show fX9_image M = _
    unfold fX9_image
    rw [u1, Option.bind_some, wlet_eq]
    have k1 : wup M1 0 9 1 1 3 = hr := by
      rw [wup_cell (by decide), u3 1 (by omega)]
      exact hI.1.1.2.2.2.2
    rw [k1]
  · have h := hI.1
    have eb : ∀ b, 0 < b → (b < 16 ∨ 31 ≤ b) → wup M1 0 9 1 b = M b := fun b h1 h2 => by rw [wup_cell (by omega)]; exact u3 b (by omega)
    exact ⟨wRow_keep h.1 (fun b h1 h2 => eb b (by omega) (by omega)), ⟨by rw [eb 47 (by omega) (by omega)]; exact h.2.1.1, fun i hi => by rw [eb 48 (by omega) (by omega)]; exact h.2.1.2 i hi⟩, fun j hj => by rw [eb 69 (by omega) (by omega)]; exact h.2.2.1 j hj, wTold_keep h.2.2.2.1 (by rw [eb 50 (by omega) (by omega)]) (eb 51 (by omega) (by omega)) (eb 52 (by omega) (by omega)), wup_same _ _ _ _, wRow_keep u2 (fun b h1 h2 => wup_cell (by omega))⟩
  · obtain ⟨M2, v1, v2⟩ := m_saveAll (M := wup M1 70 17 1) (c := 0) 0 (by decide) (by omega)
    obtain ⟨s1, s2, s3, s4, s5, s6, s7⟩ := v2
    have es : ∀ j, j ≠ 17 → j ≠ 18 → j ≠ 19 → M2 70 j = M1 70 j := fun j h1 h2 h3 => by rw [s6 j h2 h3, wup_slot h1]
    have eb : ∀ b, b ≠ 70 → b ≠ 82 → M2 b = M1 b := fun b h1 h2 => by rw [s7 b h1 h2, wup_cell h1]
    have h := h1
    have hn := h.1.1
    refine ⟨M2, ?_, ⟨⟨h.1.1, by rw [es 7 (by omega) (by omega) (by omega)]; exact h.1.2.1, fun i hi f hf => by rw [eb _ (by omega) (by omega)]; exact h.1.2.2.1 i hi f hf, fun j hj => by rw [eb _ (by omega) (by omega)]; exact h.1.2.2.2.1 j hj, by rw [es 8 (by omega) (by omega) (by omega)]; exact h.1.2.2.2.2⟩, ⟨by rw [es 13 (by omega) (by omega) (by omega)]; exact h.2.1.1, fun i hi => by rw [eb 78 (by omega) (by omega)]; exact h.2.1.2 i hi⟩, fun j hj => by rw [eb 71 (by omega) (by omega)]; exact h.2.2.1 j hj, wToldM_keep h.2.2.2.1 (es 28 (by omega) (by omega) (by omega)) (eb 89 (by omega) (by omega)) (eb 90 (by omega) (by omega)), ?_, hn, ?_, ?_, ?_, ?_⟩, fun b hb => eb b (by omega) (by omega)⟩
    · show fX10_image M1 = _
      unfold fX10_image
      rw [wlet_eq, v1, Option.bind_some, es 8 (by omega) (by omega) (by omega), h.1.2.2.2.2]
    · rw [s6 17 (by omega) (by omega), wup_same]
    · intro i hi f hf
      have := s1 f hf i (by omega)
      rw [Nat.zero_add] at this
      rw [this, wup_cell (by omega)]
      exact h.1.2.2.1 i hi f hf
    · intro j hj
      have := s2 j hj
      rw [Nat.zero_add] at this
      rw [this, wup_cell (by omega)]
      exact h.1.2.2.2.1 j hj
    · exact s3.trans ((wup_slot (by omega)).trans h.1.2.1)
    · exact s4.trans ((wup_slot (by omega)).trans h.1.2.2.2.2)
theorem k_restore (hI : wI M n L st hr t A R c p a o) : wAns (fun M => fX9_restore M) (fun M => fX10_restore M) M := by
  cases o with
  | none =>
    exact wAns_ref hI (-3) (e := 2) (by decide) (by
      show fX9_restore M = _
      unfold fX9_restore
      rw [if_pos (show M 0 9 = 0 from hI.1.2.2.2.2), c_r3]
      rfl) (fun M1 h1 => by
      show fX10_restore M1 = _
      unfold fX10_restore
      rw [if_pos (show M1 70 17 = 0 from h1.2.2.2.2), m_r3]
      rfl)
  | some q =>
    obtain ⟨n', L', st', hr'⟩ := q
    obtain ⟨k0, k1⟩ : M 0 9 = 1 ∧ wRow M 16 n' L' st' hr' := hI.1.2.2.2.2
    have hok : wOkR n' L' st' hr' := hI.2.2.2.2
    obtain ⟨M1, u1, u2, u3⟩ := c_copy (k := 1) k1 (by omega)
    refine wAns_row hI hr' hok ⟨M1, ?_, u2, u3⟩ (fun M1 h1 => ?_)
    · show fX9_restore M = _
      unfold fX9_restore
      rw [k0, if_neg (by decide), u1, Option.bind_some, u2.2.2.2.2]
    · obtain ⟨g0, hn, g1, g2, g3, g4⟩ : M1 70 17 = 1 ∧ wKp M1 n' L' st' hr' := h1.2.2.2.2
      obtain ⟨M2, v1, v2⟩ := m_restAll (M := M1) (c := 0) 0 (by decide) (by omega)
      obtain ⟨s1, s2, s3, s4, s5, s6⟩ := v2
      have e8 : M2 70 8 = hr' := s4.trans g4
      refine ⟨M2, ?_, ⟨hn, s3.trans g3, fun i hi f hf => ?_, fun j hj => ?_, e8⟩, fun b hb => s6 b (by omega) (by omega), fun j hj => s5 j (by omega) (by omega) (by omega) (by omega)⟩
      · show fX10_restore M1 = _
        unfold fX10_restore
        rw [g0, if_neg (by decide), v1, Option.bind_some, e8]
      · have := s1 f hf i (by omega)
        rw [Nat.zero_add] at this
        exact this.trans (g1 i hi f hf)
      · have := s2 j hj
        rw [Nat.zero_add] at this
        exact this.trans (g2 j hj)
end
