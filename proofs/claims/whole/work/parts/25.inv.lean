/-! part 25: what both hold, call after call -/
abbrev wKt := Option (Nat × (Nat → Nat → Int32) × (Nat → Int32) × Int32)
def wCo (M : wMem) : wKt → Prop
  | none => M 0 9 = 0
  | some (n, L, st, hr) => M 0 9 = 1 ∧ wRow M 16 n L st hr
def wKp (M : wMem) (n : Nat) (L : Nat → Nat → Int32) (st : Nat → Int32) (hr : Int32) : Prop := n ≤ 12 ∧ (∀ i, i < n → ∀ f, f < 5 → M 82 (12 * f + i) = L i f) ∧ (∀ j, j < 4 → M 82 (60 + j) = st j) ∧ M 82 64 = nI n ∧ M 82 65 = hr
def wMo (M : wMem) : wKt → Prop
  | none => M 70 17 = 0
  | some (n, L, st, hr) => M 70 17 = 1 ∧ wKp M n L st hr
def wOkH (hr : Int32) : Prop := 0 ≤ hr.toInt ∧ hr.toInt ≤ 9999
def wOkR (n : Nat) (L : Nat → Nat → Int32) (st : Nat → Int32) (hr : Int32) : Prop := wOkL L n ∧ wOkS st ∧ wOkH hr
def wOkK : wKt → Prop
  | none => True
  | some (n, L, st, hr) => wOkR n L st hr
def wOkA (t : Nat) (A : Nat → Int32) : Prop := t ≤ 64 ∧ ∀ i, i < t → ∃ a : Nat, a < 256 ∧ A i = nI a
def wCa (M : wMem) (n : Nat) (L : Nat → Nat → Int32) (st : Nat → Int32) (hr : Int32) (t : Nat) (A R : Nat → Int32) (c : Nat) (p a : Nat → Nat) (o : wKt) : Prop := wRow M 1 n L st hr ∧ (M 47 1 = nI t ∧ ∀ i, i < t → M 48 i = A i) ∧ (∀ j, j < 6 → M 69 j = R j) ∧ wTold M c p a ∧ wCo M o
def wMa (M : wMem) (n : Nat) (L : Nat → Nat → Int32) (st : Nat → Int32) (hr : Int32) (t : Nat) (A R : Nat → Int32) (c : Nat) (p a : Nat → Nat) (o : wKt) : Prop := wMod M n L st hr ∧ (M 70 13 = nI t ∧ ∀ i, i < t → M 78 i = A i) ∧ (∀ j, j < 6 → M 71 (j + 1) = R j) ∧ wToldM M c p a ∧ wMo M o
def wI (M : wMem) (n : Nat) (L : Nat → Nat → Int32) (st : Nat → Int32) (hr : Int32) (t : Nat) (A R : Nat → Int32) (c : Nat) (p a : Nat → Nat) (o : wKt) : Prop := wCa M n L st hr t A R c p a o ∧ wMa M n L st hr t A R c p a o ∧ wOkR n L st hr ∧ wOkA t A ∧ wOkK o
def wInv (M : wMem) : Prop := ∃ n L st hr t A R c p a o, wI M n L st hr t A R c p a o
/-- the class's cells that count, and all of the model's, are kept -/
def wKc (M M' : wMem) : Prop := ∀ b, (b < 31 ∨ b = 47 ∨ b = 48 ∨ b = 50 ∨ b = 51 ∨ b = 52 ∨ 69 ≤ b) → M' b = M b
def wHi (M M' : wMem) : Prop := ∀ b, 70 ≤ b → M' b = M b
def wLo (M M' : wMem) : Prop := ∀ b, b < 70 → M' b = M b
theorem wKc.rf (M : wMem) : wKc M M := fun _ _ => rfl
theorem wKc.hi {M M' : wMem} (h : wKc M M') : wHi M M' := fun b hb => h b (by omega)
theorem wOff.kc {M M' : wMem} (h : wOff 32 M M') : wKc M M' := fun b hb => h b (by omega)
theorem wOffS.kc {M M' : wMem} (h : wOffS M M') : wKc M M' := fun b hb => h b (by omega)
theorem wOfc.kc {M M' : wMem} (h : wOfc 68 M M') : wKc M M' := fun b hb => h b (by omega)
/-- the model's cells that count, and all of the class's, are kept -/
def wKn (M M' : wMem) : Prop := (∀ f, f < 5 → ∀ i, i < 12 → M' (72 + f) i = M (72 + f) i) ∧ (∀ j, j < 4 → M' 77 j = M 77 j) ∧ (∀ j, j = 7 ∨ j = 8 ∨ j = 13 ∨ j = 17 ∨ j = 28 → M' 70 j = M 70 j) ∧ (∀ j, j < 80 → M' 82 j = M 82 j) ∧ ∀ b, (b < 70 ∨ b = 71 ∨ b = 78 ∨ b = 89 ∨ b = 90) → M' b = M b
theorem wKn.lo {M M' : wMem} (h : wKn M M') : wLo M M' := fun b hb => h.2.2.2.2 b (by omega)
theorem wKn.rf (M : wMem) : wKn M M := ⟨fun _ _ _ _ => rfl, fun _ _ => rfl, fun _ _ => rfl, fun _ _ => rfl, fun _ _ => rfl⟩
theorem wKm.kn {M M' : wMem} (h : wKm M M') : wKn M M' := ⟨h.1, h.2.1, fun j hj => h.2.2.1 j (by omega) (by omega) (by omega) (by omega), h.2.2.2.1, fun b hb => h.2.2.2.2 b (by omega) (by omega) (by omega) (by omega)⟩
theorem wOffF.kn {M M' : wMem} (h : wOffF M M') : wKn M M' := ⟨fun f hf i hi => by rw [h _ (by omega)], fun j hj => by rw [h _ (by omega)], fun j _ => by rw [h _ (by omega)], fun j hj => by rw [h _ (by omega)], fun b hb => h b (by omega)⟩
theorem wOfc.kn {M M' : wMem} (h : wOfc 88 M M') : wKn M M' := ⟨fun f hf i hi => by rw [h _ (by omega)], fun j hj => by rw [h _ (by omega)], fun j _ => by rw [h _ (by omega)], fun j hj => by rw [h _ (by omega)], fun b hb => h b (by omega)⟩
section
variable {M M' : wMem} {k n : Nat} {L : Nat → Nat → Int32} {st : Nat → Int32} {hr : Int32} {t : Nat} {A R : Nat → Int32} {c : Nat} {p a : Nat → Nat} {o : wKt}
theorem wRow_keep (h : wRow M k n L st hr) (e : ∀ b, k ≤ b → b < k + 15 → M' b = M b) : wRow M' k n L st hr := by
  have hn := h.1
  exact ⟨h.1, by rw [e k (by omega) (by omega)]; exact h.2.1, fun i hi f hf => by rw [e _ (by omega) (by omega)]; exact h.2.2.1 i hi f hf, fun j hj => by rw [e _ (by omega) (by omega)]; exact h.2.2.2.1 j hj, by rw [e k (by omega) (by omega)]; exact h.2.2.2.2⟩
theorem wCo_keep (h : wCo M o) (e0 : M' 0 9 = M 0 9) (e : ∀ b, 16 ≤ b → b < 31 → M' b = M b) : wCo M' o := by
  cases o with
  | none => exact e0.trans h
  | some q => exact ⟨e0.trans h.1, wRow_keep h.2 (fun b h1 h2 => e b h1 (by omega))⟩
theorem wMo_keep (h : wMo M o) (e0 : M' 70 17 = M 70 17) (e : ∀ j, j < 66 → M' 82 j = M 82 j) : wMo M' o := by
  cases o with
  | none => exact e0.trans h
  | some q =>
    have hn := h.2.1
    exact ⟨e0.trans h.1, hn, fun i hi f hf => by rw [e _ (by omega)]; exact h.2.2.1 i hi f hf, fun j hj => by rw [e _ (by omega)]; exact h.2.2.2.1 j hj, by rw [e _ (by omega)]; exact h.2.2.2.2.1, by rw [e _ (by omega)]; exact h.2.2.2.2.2⟩
theorem wTold_keep (h : wTold M c p a) (e0 : M' 50 2 = M 50 2) (e1 : M' 51 = M 51) (e2 : M' 52 = M 52) : wTold M' c p a := ⟨h.1, e0.trans h.2.1, fun k hk => by rw [e1, e2]; exact h.2.2 k hk⟩
theorem wToldM_keep (h : wToldM M c p a) (e0 : M' 70 28 = M 70 28) (e1 : M' 89 = M 89) (e2 : M' 90 = M 90) : wToldM M' c p a := ⟨h.1, e0.trans h.2.1, fun k hk => by rw [e1, e2]; exact h.2.2 k hk⟩
theorem wCa.keep (h : wCa M n L st hr t A R c p a o) (e : wKc M M') : wCa M' n L st hr t A R c p a o :=
  ⟨wRow_keep h.1 (fun b h1 h2 => e b (by omega)), ⟨by rw [e 47 (by omega)]; exact h.2.1.1, fun i hi => by rw [e 48 (by omega)]; exact h.2.1.2 i hi⟩, fun j hj => by rw [e 69 (by omega)]; exact h.2.2.1 j hj, wTold_keep h.2.2.2.1 (by rw [e 50 (by omega)]) (e 51 (by omega)) (e 52 (by omega)), wCo_keep h.2.2.2.2 (by rw [e 0 (by omega)]) (fun b _ _ => e b (by omega))⟩
theorem wCa.lo (h : wCa M n L st hr t A R c p a o) (e : wLo M M') : wCa M' n L st hr t A R c p a o :=
  ⟨wRow_keep h.1 (fun b h1 h2 => e b (by omega)), ⟨by rw [e 47 (by omega)]; exact h.2.1.1, fun i hi => by rw [e 48 (by omega)]; exact h.2.1.2 i hi⟩, fun j hj => by rw [e 69 (by omega)]; exact h.2.2.1 j hj, wTold_keep h.2.2.2.1 (by rw [e 50 (by omega)]) (e 51 (by omega)) (e 52 (by omega)), wCo_keep h.2.2.2.2 (by rw [e 0 (by omega)]) (fun b _ _ => e b (by omega))⟩
theorem wKn.mod (e : wKn M M') (h : wMod M n L st hr) : wMod M' n L st hr := by
  have hn := h.1
  exact ⟨h.1, by rw [e.2.2.1 7 (by omega)]; exact h.2.1, fun i hi f hf => by rw [e.1 f hf i (by omega)]; exact h.2.2.1 i hi f hf, fun j hj => by rw [e.2.1 j hj]; exact h.2.2.2.1 j hj, by rw [e.2.2.1 8 (by omega)]; exact h.2.2.2.2⟩
theorem wMa.keep (h : wMa M n L st hr t A R c p a o) (e : wKn M M') : wMa M' n L st hr t A R c p a o := by
  have eb := e.2.2.2.2
  exact ⟨e.mod h.1, ⟨by rw [e.2.2.1 13 (by omega)]; exact h.2.1.1, fun i hi => by rw [eb 78 (by omega)]; exact h.2.1.2 i hi⟩, fun j hj => by rw [eb 71 (by omega)]; exact h.2.2.1 j hj, wToldM_keep h.2.2.2.1 (e.2.2.1 28 (by omega)) (eb 89 (by omega)) (eb 90 (by omega)), wMo_keep h.2.2.2.2 (e.2.2.1 17 (by omega)) (fun j hj => e.2.2.2.1 j (by omega))⟩
theorem wMa.hi (h : wMa M n L st hr t A R c p a o) (e : wHi M M') : wMa M' n L st hr t A R c p a o :=
  ⟨⟨h.1.1, by rw [e 70 (by omega)]; exact h.1.2.1, fun i hi f hf => by rw [e _ (by omega)]; exact h.1.2.2.1 i hi f hf, fun j hj => by rw [e _ (by omega)]; exact h.1.2.2.2.1 j hj, by rw [e 70 (by omega)]; exact h.1.2.2.2.2⟩, ⟨by rw [e 70 (by omega)]; exact h.2.1.1, fun i hi => by rw [e 78 (by omega)]; exact h.2.1.2 i hi⟩, fun j hj => by rw [e 71 (by omega)]; exact h.2.2.1 j hj, wToldM_keep h.2.2.2.1 (by rw [e 70 (by omega)]) (e 89 (by omega)) (e 90 (by omega)), wMo_keep h.2.2.2.2 (by rw [e 70 (by omega)]) (fun j hj => by rw [e 82 (by omega)])⟩
def wAns {β : Type} (f g : wMem → Option (β × wMem)) (M : wMem) : Prop := ∃ r M1 M2, f M = some (r, M1) ∧ g M1 = some (r, M2) ∧ wInv M2
theorem wAns_go {β : Type} {f g : wMem → Option (β × wMem)} (hI : wI M n L st hr t A R c p a o) (r : β) {n' : Nat} {L' : Nat → Nat → Int32} {st' : Nat → Int32} {hr' : Int32} {t' : Nat} {A' R' : Nat → Int32} {c' : Nat} {p' a' : Nat → Nat} {o' : wKt} (hok : wOkR n' L' st' hr' ∧ wOkA t' A' ∧ wOkK o') (hf : ∃ M1, f M = some (r, M1) ∧ wCa M1 n' L' st' hr' t' A' R' c' p' a' o' ∧ wHi M M1) (hg : ∀ M1, wMa M1 n L st hr t A R c p a o → ∃ M2, g M1 = some (r, M2) ∧ wMa M2 n' L' st' hr' t' A' R' c' p' a' o' ∧ wLo M1 M2) : wAns f g M := by
  obtain ⟨M1, u1, u2, u3⟩ := hf
  obtain ⟨M2, v1, v2, v3⟩ := hg M1 (hI.2.1.hi u3)
  exact ⟨r, M1, M2, u1, v1, n', L', st', hr', t', A', R', c', p', a', o', u2.lo v3, v2, hok.1, hok.2.1, hok.2.2⟩
theorem wAns_keep {β : Type} {f g : wMem → Option (β × wMem)} (hI : wI M n L st hr t A R c p a o) (r : β) (hf : ∃ M1, f M = some (r, M1) ∧ wKc M M1) (hg : ∀ M1, wMa M1 n L st hr t A R c p a o → ∃ M2, g M1 = some (r, M2) ∧ wKn M1 M2) : wAns f g M := by
  refine wAns_go (R' := R) (c' := c) (p' := p) (a' := a) hI r hI.2.2 ?_ ?_
  · obtain ⟨M1, u1, u2⟩ := hf
    exact ⟨M1, u1, hI.1.keep u2, u2.hi⟩
  · intro M1 h1
    obtain ⟨M2, u1, u2⟩ := hg M1 h1
    exact ⟨M2, u1, h1.keep u2, u2.lo⟩
/-- no, and why: both count it -/
theorem wAns_ref {β : Type} {f g : wMem → Option (β × wMem)} (hI : wI M n L st hr t A R c p a o) (r : β) {e : Nat} (he : e < 6) (hf : f M = some (r, wup M 69 e (M 69 e + 1))) (hg : ∀ M1, wMa M1 n L st hr t A R c p a o → g M1 = some (r, wup M1 71 (e + 1) (M1 71 (e + 1) + 1))) : wAns f g M := by
  refine wAns_go (R' := fun j => if j = e then R e + 1 else R j) (c' := c) (p' := p) (a' := a) hI r hI.2.2 ⟨_, hf, ?_, fun b hb => wup_cell (by omega)⟩ (fun M1 h1 => ⟨_, hg M1 h1, ?_, fun b hb => wup_cell (by omega)⟩)
  · have h := hI.1
    have e1 : ∀ b, b ≠ 69 → wup M 69 e (M 69 e + 1) b = M b := fun b hb => wup_cell hb
    refine ⟨wRow_keep h.1 (fun b h1 h2 => e1 b (by omega)), ⟨by rw [e1 47 (by omega)]; exact h.2.1.1, fun i hi => by rw [e1 48 (by omega)]; exact h.2.1.2 i hi⟩, fun j hj => ?_, wTold_keep h.2.2.2.1 (by rw [e1 50 (by omega)]) (e1 51 (by omega)) (e1 52 (by omega)), wCo_keep h.2.2.2.2 (by rw [e1 0 (by omega)]) (fun b _ _ => e1 b (by omega))⟩
    show _ = if j = e then R e + 1 else R j
    by_cases q : j = e
    · rw [q, wup_same, if_pos rfl, h.2.2.1 e he]
    · rw [wup_slot q, if_neg q]
      exact h.2.2.1 j hj
  · have h := h1
    have e1 : ∀ b, b ≠ 71 → wup M1 71 (e + 1) (M1 71 (e + 1) + 1) b = M1 b := fun b hb => wup_cell hb
    refine ⟨⟨h.1.1, by rw [e1 70 (by omega)]; exact h.1.2.1, fun i hi f hf => by rw [e1 _ (by omega)]; exact h.1.2.2.1 i hi f hf, fun j hj => by rw [e1 _ (by omega)]; exact h.1.2.2.2.1 j hj, by rw [e1 70 (by omega)]; exact h.1.2.2.2.2⟩, ⟨by rw [e1 70 (by omega)]; exact h.2.1.1, fun i hi => by rw [e1 78 (by omega)]; exact h.2.1.2 i hi⟩, fun j hj => ?_, wToldM_keep h.2.2.2.1 (by rw [e1 70 (by omega)]) (e1 89 (by omega)) (e1 90 (by omega)), wMo_keep h.2.2.2.2 (by rw [e1 70 (by omega)]) (fun j hj => by rw [e1 82 (by omega)])⟩
    show _ = if j = e then R e + 1 else R j
    by_cases q : j = e
    · rw [q, wup_same, if_pos rfl, h.2.2.1 e he]
    · rw [wup_slot (by omega), if_neg q]
      exact h.2.2.1 j hj
end
theorem c_ref (M : wMem) {x : Int32} {e : Nat} (he : e < 6) (hx : -1 - x = nI e) : fX9_refuse M x = some (x, wup M 69 e (M 69 e + 1)) := by
  unfold fX9_refuse
  rw [wlet_eq, hx, if_neg (nI_pos (by omega)), if_neg (show ¬ (6 : Int32) ≤ nI e from nI_ge he (by decide)), wgi_n he (by decide), wgi_n he (by decide), nI_clamp (by omega), wlet_eq]
theorem m_ref (M : wMem) {x : Int32} {e : Nat} (he : e < 6) (hx : -x = nI (e + 1)) : fX10_no M x = some (x, wup M 71 (e + 1) (M 71 (e + 1) + 1)) := by
  unfold fX10_no
  rw [hx, wgi_n (by omega) (by decide), wgi_n (by omega) (by decide), nI_clamp (by omega), wlet_eq]
theorem m_low (M : wMem) {x : Int32} {e : Nat} (he : e < 6) (hx : -x = nI (e + 1)) : fX10_lowest M x = some ((4000000000000000000 : Int64) - Int32.toInt64 x, wup M 71 (e + 1) (M 71 (e + 1) + 1)) := by
  unfold fX10_lowest
  rw [hx, wgi_n (by omega) (by decide), wgi_n (by omega) (by decide), nI_clamp (by omega), wlet_eq]
theorem c_r1 (M : wMem) : fX9_refuse M (-1) = some (-1, wup M 69 0 (M 69 0 + 1)) := c_ref M (by decide) (by decide)
theorem c_r2 (M : wMem) : fX9_refuse M (-2) = some (-2, wup M 69 1 (M 69 1 + 1)) := c_ref M (by decide) (by decide)
theorem c_r3 (M : wMem) : fX9_refuse M (-3) = some (-3, wup M 69 2 (M 69 2 + 1)) := c_ref M (by decide) (by decide)
theorem c_r4 (M : wMem) : fX9_refuse M (-4) = some (-4, wup M 69 3 (M 69 3 + 1)) := c_ref M (by decide) (by decide)
theorem c_r6 (M : wMem) : fX9_refuse M (-6) = some (-6, wup M 69 5 (M 69 5 + 1)) := c_ref M (by decide) (by decide)
theorem m_r1 (M : wMem) : fX10_no M (-1) = some (-1, wup M 71 1 (M 71 1 + 1)) := m_ref M (e := 0) (by decide) (by decide)
theorem m_r2 (M : wMem) : fX10_no M (-2) = some (-2, wup M 71 2 (M 71 2 + 1)) := m_ref M (e := 1) (by decide) (by decide)
theorem m_r3 (M : wMem) : fX10_no M (-3) = some (-3, wup M 71 3 (M 71 3 + 1)) := m_ref M (e := 2) (by decide) (by decide)
theorem m_r4 (M : wMem) : fX10_no M (-4) = some (-4, wup M 71 4 (M 71 4 + 1)) := m_ref M (e := 3) (by decide) (by decide)
theorem m_r6 (M : wMem) : fX10_no M (-6) = some (-6, wup M 71 6 (M 71 6 + 1)) := m_ref M (e := 5) (by decide) (by decide)
theorem m_l2 (M : wMem) : fX10_lowest M (-2) = some ((4000000000000000000 : Int64) - Int32.toInt64 (-2), wup M 71 2 (M 71 2 + 1)) := m_low M (e := 1) (by decide) (by decide)
theorem m_l3 (M : wMem) : fX10_lowest M (-3) = some ((4000000000000000000 : Int64) - Int32.toInt64 (-3), wup M 71 3 (M 71 3 + 1)) := m_low M (e := 2) (by decide) (by decide)
theorem m_l6 (M : wMem) : fX10_lowest M (-6) = some ((4000000000000000000 : Int64) - Int32.toInt64 (-6), wup M 71 6 (M 71 6 + 1)) := m_low M (e := 5) (by decide) (by decide)
theorem wpr_e {α β γ : Type} (f : α → β → Option γ) (x : α) (y : β) : wpr f (x, y) = f x y := rfl
