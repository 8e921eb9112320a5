/-! part 12: the class: an hour, copies, touches -/
section
variable {M : wMem} {k n : Nat} {L : Nat → Nat → Int32} {st : Nat → Int32} {hr : Int32}
/-- the lamps below j are behind the hour, the others ahead of it -/
def sMix (L L' : Nat → Nat → Int32) (j : Nat) : Nat → Nat → Int32 := fun i => if i < j then L' i else L i
theorem sMix_0 (L L' : Nat → Nat → Int32) : sMix L L' 0 = L := by funext i; simp [sMix]
theorem sMix_lt {L L' : Nat → Nat → Int32} {j i : Nat} (h : i < j) : sMix L L' j i = L' i := by simp [sMix, h]
theorem sMix_ge {L L' : Nat → Nat → Int32} {j i : Nat} (h : ¬ i < j) : sMix L L' j i = L i := by simp [sMix, h]
theorem wRow_cong {L' : Nat → Nat → Int32} (h : wRow M k n L st hr) (e : ∀ i, i < n → L' i = L i) : wRow M k n L' st hr := ⟨h.1, h.2.1, fun i hi => by rw [e i hi]; exact h.2.2.1 i hi, h.2.2.2.1, h.2.2.2.2⟩
/-- what is done with one lamp in an hour -/
theorem c_hourL {a : Nat} {v : Nat → Int32} (hv : wLp M a v) {live : Bool} {fl gr : Int32} (hk : a ≠ k) (hk2 : a ≠ k + 2) (hh : M k 3 = hr) (hg : M (k + 2) 3 = gr) (rec : Int32 × Int32 × wMem → Option (Int32 × wMem)) (y3 y4 : Int32) :
    ∃ M', wLp M' a (sHourL v live fl hr gr) ∧ (∀ b, b ≠ a → M' b = M b) ∧
      (if wb (decide (v 4 = 0)) = 0 then fX5_passHour_67 M rec k (wb live) fl y3 y4 a (wb (decide (v 4 = 0))) else if wb live = 0 then fX5_passHour_67 M rec k (wb live) fl y3 y4 a (wb (decide (v 4 = 0))) else (fX1_burn M a fl).bind fun M29 => fX5_passHour_67 M29 rec k (wb live) fl y3 y4 a (wb (decide (v 4 = 0)))) = rec (y3 + (if v 4 = 0 ∧ ¬ sHourL v live fl hr gr 4 = 0 then 1 else 0), y4 + 1, M') := by
  have key : ∀ (M1 : wMem) (w : Nat → Int32), wLp M1 a w → (∀ b, b ≠ a → M1 b = M b) → ∃ M', wLp M' a (sLoosen w hr gr) ∧ (∀ b, b ≠ a → M' b = M b) ∧ fX5_passHour_67 M1 rec k (wb live) fl y3 y4 a (wb true) = rec (y3 + (if ¬ sLoosen w hr gr 4 = 0 then 1 else 0), y4 + 1, M') := by
    intro M1 w hw ho
    have e1 : M1 k 3 = hr := by rw [ho k hk.symm]; exact hh
    have e2 : M1 (k + 2) (Int32.toNatClampNeg 3) = gr := by rw [ho (k + 2) hk2.symm]; exact hg
    simp only [fX5_passHour_67, fX5_passHour_99, fX5_passHour_115, wlet_eq, c_well hw, Option.bind_some, e1, e2, c_hang hw, wb_0, wb_t]
    have w3 : ∀ x : Option (Int32 × wMem), wgi 3 4 x = x := fun x => wgi_n (j := 3) (n := 4) (by decide) (by decide)
    rw [w3]
    unfold sLoosen
    by_cases q : w 4 = 0
    · cases hs : sHang w hr gr
      · refine ⟨M1, by simpa [q] using hw, ho, ?_⟩
        simp [q]
      · have hw2 : wLp (wup M1 a 4 3) a (sSet w 4 3) := wLp_set hw 3
        refine ⟨wup M1 a 4 3, by simpa [q] using hw2, fun b hb => by rw [wup_cell hb]; exact ho b hb, ?_⟩
        have h4 : sSet w 4 3 4 = 3 := by simp [sSet]
        simp [q, c_well hw2, h4, wb_0]
    · refine ⟨M1, by simpa [q] using hw, ho, ?_⟩
      simp [q]
  by_cases q : v 4 = 0
  · cases live
    · obtain ⟨M', h1, h2, h3⟩ := key M v hv (fun _ _ => rfl)
      refine ⟨M', by simpa [sHourL, q] using h1, h2, ?_⟩
      simpa [sHourL, q, wb_t, wb_fa] using h3
    · obtain ⟨M1, b1, b2, b3⟩ := c_burn hv fl
      obtain ⟨M', h1, h2, h3⟩ := key M1 _ b2 b3
      refine ⟨M', by simpa [sHourL, q] using h1, h2, ?_⟩
      simpa [sHourL, q, wb_t, wb_fa, b1] using h3
  · refine ⟨M, by simpa [sHourL, q] using hv, fun _ _ => rfl, ?_⟩
    simp [q, wb_fa, fX5_passHour_67, fX5_passHour_99, fX5_passHour_115, wlet, c_well hv]
theorem c_hourLoop (h : wRow M k n L st hr) (live : Bool) (fl : Int32) (L' : Nat → Nat → Int32) (hL : ∀ i, L' i = sHourL (L i) live fl hr (st 3)) : ∃ M', fX5_passHour_27 M k (wb live) fl 0 0 = some (sGone L L' n, M') ∧ wRow M' k n L' st (hr + 1) ∧ wOff k M M' := by
  unfold fX5_passHour_27
  have hn := h.1
  refine wloop_q (fun d t => ∃ j, j + d = n ∧ t.2.1 = nI j ∧ t.1 = sGone L L' j ∧ wRow t.2.2 k n (sMix L L' j) st hr ∧ wOff k M t.2.2) (fun o => ∃ M', o = some (sGone L L' n, M') ∧ wRow M' k n L' st (hr + 1) ∧ wOff k M M') ?_ wfuel n (0, 0, M) ⟨0, by omega, rfl, rfl, by rw [sMix_0]; exact h, wOff.rf k M⟩ (wfuel_lt (by omega))
  rintro rec d ⟨x, y, M1⟩ ⟨j, hj, rfl, rfl, hR, hO⟩
  dsimp only at hR hO ⊢
  unfold fX5_passHour_27_b
  rw [hR.2.1]
  by_cases q : j < n
  · right
    have hv : wLp M1 (k + 1 + 2 + j) (L j) := by have := hR.2.2.1 j q; rwa [sMix_ge (Nat.lt_irrefl j)] at this
    obtain ⟨M', m1, m2, m3⟩ := c_hourL (k := k) (hr := hr) hv (live := live) (fl := fl) (gr := st 3) (by omega) (by omega) hR.2.2.2.2 (hR.2.2.2.1 3 (by decide)) rec (sGone L L' j) (nI j)
    obtain ⟨r1, r2⟩ := wRow_lamp (L' := sMix L L' (j + 1)) hR q m1 m2 (by rw [sMix_lt (Nat.lt_succ_self j), hL]) (fun i hi hne => by
      by_cases z : i < j
      · rw [sMix_lt z, sMix_lt (by omega)]
      · rw [sMix_ge z, sMix_ge (by omega)])
    refine ⟨d - 1, (sGone L L' (j + 1), nI (j + 1), M'), by omega, ⟨j + 1, by omega, rfl, rfl, r1, hO.tr r2⟩, ?_⟩
    rw [if_neg (nI_ge q (by omega)), wgi_n (by omega) (by decide), nI_clamp (by omega), c_well hv, Option.bind_some]
    simp only [wlet_eq]
    rw [m3, nI_1, ← hL]
    rfl
  · left
    have e : j = n := by omega
    subst e
    have hR2 : wRow M1 k j L' st hr := wRow_cong hR (fun i hi => (sMix_lt hi).symm)
    obtain ⟨r1, r2⟩ := wRow_hr hR2 (hr + 1)
    refine ⟨wup M1 k 3 (hr + 1), ?_, r1, hO.tr r2⟩
    rw [if_pos (nI_le (Nat.le_refl _) (by omega)), hR.2.2.2.2]
    rfl
theorem c_hour (h : wRow M k n L st hr) : ∃ M', fX5_passHour M k = some (sGone L (sHour L n st hr) n, M') ∧ wRow M' k n (sHour L n st hr) st (hr + 1) ∧ wOff k M M' := by
  obtain ⟨M', h1, h2⟩ := c_hourLoop h (sLive L n) (sFlow L n (st 0)) (sHour L n st hr) (fun i => rfl)
  refine ⟨M', ?_, h2⟩
  rw [← h1]
  simp only [fX5_passHour, c_live h, Option.bind_some, wlet_eq, wb_0, c_drags h, c_flowT h, fX5_passHour_21, sFlow]
  cases sLive L n <;> simp
theorem c_touchAt (h : wRow M k n L st hr) {i : Nat} (hi : i < n) : ∃ M', fX5_touchAt M k (nI i) = some M' ∧ wRow M' k n (fun j => if j = i then sTouch (L i) (st 3) else L j) st hr ∧ wOff k M M' := by
  have hn := h.1
  obtain ⟨M', m1, m2, m3⟩ := c_touchW (h.2.2.1 i hi) (st 3)
  obtain ⟨r1, r2⟩ := wRow_lamp (L' := fun j => if j = i then sTouch (L i) (st 3) else L j) h hi m2 m3 (by simp) (fun j _ hne => by simp [hne])
  refine ⟨M', ?_, r1, r2⟩
  have e2 : M (k + 2) (Int32.toNatClampNeg 3) = st 3 := h.2.2.2.1 3 (by decide)
  have w3 : ∀ x : Option wMem, wgi 3 4 x = x := fun x => wgi_n (j := 3) (n := 4) (by decide) (by decide)
  simp only [fX5_touchAt, c_has h, Option.bind_some, wb_0, e2, w3, wgi_n (show i < 12 by omega) (by decide), nI_clamp (show i < 2 ^ 31 by omega), m1]
  simp [nI_pos (show i < 2 ^ 31 by omega), nI_ge hi (by omega)]
theorem c_anewAll (h : wRow M k n L st hr) : ∃ M', fX5_putAllAnew M k = some M' ∧ wRow M' k n (fun i => sAnew (L i)) st hr ∧ wOff k M M' := by
  unfold fX5_putAllAnew fX5_putAllAnew_2
  have hn := h.1
  refine wloop_q (fun d t => ∃ j, j + d = n ∧ t.1 = nI j ∧ wRow t.2 k n (sMix L (fun i => sAnew (L i)) j) st hr ∧ wOff k M t.2) (fun o => ∃ M', o = some M' ∧ wRow M' k n (fun i => sAnew (L i)) st hr ∧ wOff k M M') ?_ wfuel n (0, M) ⟨0, by omega, rfl, by rw [sMix_0]; exact h, wOff.rf k M⟩ (wfuel_lt (by omega))
  rintro rec d ⟨y, M1⟩ ⟨j, hj, rfl, hR, hO⟩
  dsimp only at hR hO ⊢
  unfold fX5_putAllAnew_2_b
  rw [hR.2.1]
  by_cases q : j < n
  · right
    have hv : wLp M1 (k + 1 + 2 + j) (L j) := by have := hR.2.2.1 j q; rwa [sMix_ge (Nat.lt_irrefl j)] at this
    obtain ⟨M', m1, m2, m3⟩ := c_anew hv
    obtain ⟨r1, r2⟩ := wRow_lamp (L' := sMix L (fun i => sAnew (L i)) (j + 1)) hR q m2 m3 (by rw [sMix_lt (Nat.lt_succ_self j)]) (fun i hi hne => by
      by_cases z : i < j
      · rw [sMix_lt z, sMix_lt (by omega)]
      · rw [sMix_ge z, sMix_ge (by omega)])
    refine ⟨d - 1, (nI (j + 1), M'), by omega, ⟨j + 1, by omega, rfl, r1, hO.tr r2⟩, ?_⟩
    rw [if_neg (nI_ge q (by omega)), wgi_n (by omega) (by decide), nI_clamp (by omega), m1, Option.bind_some]
    simp only [wlet_eq, nI_1]
  · left
    have e : j = n := by omega
    subst e
    rw [if_pos (nI_le (Nat.le_refl _) (by omega))]
    exact ⟨M1, rfl, wRow_cong hR (fun i hi => (sMix_lt (L' := fun i => sAnew (L i)) hi).symm), hO⟩
def sMend (v : Nat → Int32) : Nat → Int32 := if v 4 = 0 then v else sAnew v
def sBad (L : Nat → Nat → Int32) : Nat → Int32
  | 0 => 0
  | n + 1 => sBad L n + (if L n 4 = 0 then 0 else 1)
theorem c_mendAll (h : wRow M k n L st hr) : ∃ M', fX5_mendAll M k = some (sBad L n, M') ∧ wRow M' k n (fun i => sMend (L i)) st hr ∧ wOff k M M' := by
  unfold fX5_mendAll fX5_mendAll_4
  have hn := h.1
  refine wloop_q (fun d t => ∃ j, j + d = n ∧ t.2.1 = nI j ∧ t.1 = sBad L j ∧ wRow t.2.2 k n (sMix L (fun i => sMend (L i)) j) st hr ∧ wOff k M t.2.2) (fun o => ∃ M', o = some (sBad L n, M') ∧ wRow M' k n (fun i => sMend (L i)) st hr ∧ wOff k M M') ?_ wfuel n (0, 0, M) ⟨0, by omega, rfl, rfl, by rw [sMix_0]; exact h, wOff.rf k M⟩ (wfuel_lt (by omega))
  rintro rec d ⟨x, y, M1⟩ ⟨j, hj, rfl, rfl, hR, hO⟩
  dsimp only at hR hO ⊢
  unfold fX5_mendAll_4_b
  rw [hR.2.1]
  by_cases q : j < n
  · right
    have hv : wLp M1 (k + 1 + 2 + j) (L j) := by have := hR.2.2.1 j q; rwa [sMix_ge (Nat.lt_irrefl j)] at this
    have hmix : ∀ i, i < n → i ≠ j → sMix L (fun i => sMend (L i)) (j + 1) i = sMix L (fun i => sMend (L i)) j i := fun i hi hne => by
      by_cases z : i < j
      · rw [sMix_lt z, sMix_lt (by omega)]
      · rw [sMix_ge z, sMix_ge (by omega)]
    rw [if_neg (nI_ge q (by omega)), wgi_n (by omega) (by decide), nI_clamp (by omega), c_well hv, Option.bind_some]
    simp only [wlet_eq, fX5_mendAll_36, nI_1, wb_0]
    by_cases z : L j 4 = 0
    · obtain ⟨r1, r2⟩ := wRow_lamp (L' := sMix L (fun i => sMend (L i)) (j + 1)) hR q hv (fun _ _ => rfl) (by rw [sMix_lt (Nat.lt_succ_self j)]; simp [sMend, z]) hmix
      refine ⟨d - 1, (sBad L (j + 1), nI (j + 1), M1), by omega, ⟨j + 1, by omega, rfl, rfl, r1, hO⟩, ?_⟩
      simp [z, sBad]
    · obtain ⟨M', m1, m2, m3⟩ := c_anew hv
      obtain ⟨r1, r2⟩ := wRow_lamp (L' := sMix L (fun i => sMend (L i)) (j + 1)) hR q m2 m3 (by rw [sMix_lt (Nat.lt_succ_self j)]; simp [sMend, z]) hmix
      refine ⟨d - 1, (sBad L (j + 1), nI (j + 1), M'), by omega, ⟨j + 1, by omega, rfl, rfl, r1, hO.tr r2⟩, ?_⟩
      simp [z, sBad, m1, wgi_n (show j < 12 by omega) (show 12 < 2 ^ 31 by decide)]
  · left
    have e : j = n := by omega
    subst e
    rw [if_pos (nI_le (Nat.le_refl _) (by omega))]
    exact ⟨M1, rfl, wRow_cong hR (fun i hi => (sMix_lt (L' := fun i => sMend (L i)) hi).symm), hO⟩
/-- a copy of a row -/
theorem c_copyL {a b : Nat} (hab : a ≠ b) {v : Nat → Int32} (hv : wLp M b v) : ∃ M', fX1_copyFrom M a b = some M' ∧ wLp M' a v ∧ ∀ c, c ≠ a → M' c = M c := by
  refine ⟨wup (wup (wup (wup (wup M a 0 (M b 0)) a 1 (M b 1)) a 2 (M b 2)) a 3 (M b 3)) a 4 (M b 4), ?_, ?_, fun c hc => ?_⟩
  · simp only [fX1_copyFrom, wlet_eq, wup_cell hab.symm]
  · intro f hf
    have hf5 : f = 0 ∨ f = 1 ∨ f = 2 ∨ f = 3 ∨ f = 4 := by omega
    rcases hf5 with rfl | rfl | rfl | rfl | rfl
    · rw [wup_slot (by decide), wup_slot (by decide), wup_slot (by decide), wup_slot (by decide), wup_same]
      exact hv 0 (by decide)
    · rw [wup_slot (by decide), wup_slot (by decide), wup_slot (by decide), wup_same]
      exact hv 1 (by decide)
    · rw [wup_slot (by decide), wup_slot (by decide), wup_same]
      exact hv 2 (by decide)
    · rw [wup_slot (by decide), wup_same]
      exact hv 3 (by decide)
    · rw [wup_same]
      exact hv 4 (by decide)
  · rw [wup_cell hc, wup_cell hc, wup_cell hc, wup_cell hc, wup_cell hc]
theorem c_src {k2 : Nat} (h : wRow M k2 n L st hr) (hd : k + 15 ≤ k2 ∨ k2 + 15 ≤ k) {M1 : wMem} (ho : wOff k M M1) : wRow M1 k2 n L st hr := by
  have hn := h.1
  have e : ∀ x, x < 15 → M1 (k2 + x) = M (k2 + x) := fun x hx => ho _ (by omega)
  have e0 : M1 k2 = M k2 := e 0 (by omega)
  refine ⟨h.1, ?_, fun i hi f hf => ?_, fun j hj => ?_, ?_⟩
  · rw [e0]
    exact h.2.1
  · have := e (1 + 2 + i) (by omega)
    rw [← Nat.add_assoc, ← Nat.add_assoc] at this
    rw [this]
    exact h.2.2.1 i hi f hf
  · rw [e 2 (by omega)]
    exact h.2.2.2.1 j hj
  · rw [e0]
    exact h.2.2.2.2
theorem c_copy43 {k2 : Nat} (h : wRow M k2 n L st hr) (hd : k + 15 ≤ k2 ∨ k2 + 15 ≤ k) {M1 : wMem} (ho : wOff k M M1) (b2 : M1 k 2 = nI n) (b3 : M1 k 3 = hr) (bs : ∀ j, j < 4 → M1 (k + 2) j = st j) : ∃ M', fX5_copyFrom_43 M1 k k2 0 = some M' ∧ wRow M' k n L st hr ∧ wOff k M M' := by
  have hn := h.1
  unfold fX5_copyFrom_43
  refine wloop_q (fun d t => ∃ j, j + d = n ∧ t.1 = nI j ∧ wOff k M t.2 ∧ t.2 k 2 = nI n ∧ t.2 k 3 = hr ∧ (∀ j, j < 4 → t.2 (k + 2) j = st j) ∧ ∀ i, i < j → wLp t.2 (k + 1 + 2 + i) (L i)) (fun o => ∃ M', o = some M' ∧ wRow M' k n L st hr ∧ wOff k M M') ?_ wfuel n (0, M1) ⟨0, by omega, rfl, ho, b2, b3, bs, fun i hi => by omega⟩ (wfuel_lt (by omega))
  rintro rec d ⟨y, M2⟩ ⟨j, hj, rfl, ho, b2, b3, bs, bl⟩
  dsimp only at ho b2 b3 bs bl ⊢
  unfold fX5_copyFrom_43_b
  rw [b2]
  by_cases q : j < n
  · right
    obtain ⟨M', m1, m2, m3⟩ := c_copyL (a := k + 1 + 2 + j) (b := k2 + 1 + 2 + j) (by omega) ((c_src h hd ho).2.2.1 j q)
    have c1 : wOff k M M' := fun b hb => by rw [m3 b (by omega)]; exact ho b hb
    have c2 : M' k 2 = nI n := by rw [m3 k (by omega)]; exact b2
    have c3 : M' k 3 = hr := by rw [m3 k (by omega)]; exact b3
    have c4 : ∀ j, j < 4 → M' (k + 2) j = st j := fun i hi => by rw [m3 _ (by omega)]; exact bs i hi
    have c5 : ∀ i, i < j + 1 → wLp M' (k + 1 + 2 + i) (L i) := by
      intro i hi
      by_cases z : i = j
      · subst z
        exact m2
      · intro f hf
        rw [m3 _ (by omega)]
        exact bl i (by omega) f hf
    refine ⟨d - 1, (nI (j + 1), M'), by omega, ⟨j + 1, by omega, rfl, c1, c2, c3, c4, c5⟩, ?_⟩
    rw [if_neg (nI_ge q (by omega)), wgi_n (by omega) (by decide), wgi_n (by omega) (by decide), nI_clamp (by omega), m1, Option.bind_some]
    simp only [wlet_eq, nI_1]
  · left
    have e : j = n := by omega
    subst e
    rw [if_pos (nI_le (Nat.le_refl _) (by omega))]
    exact ⟨M2, rfl, ⟨h.1, b2, bl, bs, b3⟩, ho⟩
theorem c_copy18 {k2 : Nat} (h : wRow M k2 n L st hr) (hd : k + 15 ≤ k2 ∨ k2 + 15 ≤ k) {M0 : wMem} (ho : wOff k M M0) (b2 : M0 k 2 = nI n) (b3 : M0 k 3 = hr) : ∃ M', fX5_copyFrom_18 M0 k k2 0 = some M' ∧ wRow M' k n L st hr ∧ wOff k M M' := by
  have hn := h.1
  unfold fX5_copyFrom_18
  refine wloop_q (fun d t => ∃ j, j + d = 4 ∧ t.1 = nI j ∧ wOff k M t.2 ∧ t.2 k 2 = nI n ∧ t.2 k 3 = hr ∧ ∀ i, i < j → t.2 (k + 2) i = st i) (fun o => ∃ M', o = some M' ∧ wRow M' k n L st hr ∧ wOff k M M') ?_ wfuel 4 (0, M0) ⟨0, by omega, rfl, ho, b2, b3, fun i hi => by omega⟩ (wfuel_lt (by omega))
  rintro rec d ⟨y, M2⟩ ⟨j, hj, rfl, ho, b2, b3, bs⟩
  dsimp only at ho b2 b3 bs ⊢
  unfold fX5_copyFrom_18_b
  by_cases q : j < 4
  · right
    obtain ⟨M', hM'⟩ : ∃ M', M' = wup M2 (k + 2) j (M2 (k2 + 2) j) := ⟨_, rfl⟩
    have c1 : wOff k M M' := fun b hb => by rw [hM', wup_cell (by omega)]; exact ho b hb
    have c2 : M' k 2 = nI n := by rw [hM', wup_cell (by omega)]; exact b2
    have c3 : M' k 3 = hr := by rw [hM', wup_cell (by omega)]; exact b3
    have c4 : ∀ i, i < j + 1 → M' (k + 2) i = st i := by
      intro i hi
      by_cases z : i = j
      · subst z
        rw [hM', wup_same]
        exact (c_src h hd ho).2.2.2.1 i (by omega)
      · rw [hM', wup_slot z]
        exact bs i (by omega)
    refine ⟨d - 1, (nI (j + 1), M'), by omega, ⟨j + 1, by omega, rfl, c1, c2, c3, c4⟩, ?_⟩
    have n1 : ¬ (3 : Int32) < nI j := nI_nlt (a := 3) (by omega) (by omega)
    rw [if_neg n1, wgi_n (by omega) (by decide), wgi_n (by omega) (by decide), nI_clamp (by omega), hM']
    simp only [wlet_eq, nI_1]
  · left
    have e : j = 4 := by omega
    have n1 : (3 : Int32) < nI j := by rw [e]; exact nI_lt (a := 3) (by decide) (by decide)
    rw [if_pos n1]
    rw [e] at bs
    exact c_copy43 h hd ho b2 b3 bs
theorem c_copy {k2 : Nat} (h : wRow M k2 n L st hr) (hd : k + 15 ≤ k2 ∨ k2 + 15 ≤ k) : ∃ M', fX5_copyFrom M k k2 = some M' ∧ wRow M' k n L st hr ∧ wOff k M M' := by
  have hn := h.1
  have hk : k2 ≠ k := by omega
  have e3 : wup M k 2 (M k2 2) k2 3 = hr := by rw [wup_cell hk]; exact h.2.2.2.2
  have hO0 : wOff k M (wup (wup M k 2 (nI n)) k 3 hr) := fun b hb => by rw [wup_cell (by omega), wup_cell (by omega)]
  have a2 : wup (wup M k 2 (nI n)) k 3 hr k 2 = nI n := by rw [wup_slot (by decide), wup_same]
  have a3 : wup (wup M k 2 (nI n)) k 3 hr k 3 = hr := wup_same _ _ _ _
  have := c_copy18 h hd hO0 a2 a3
  rw [h.2.1] at e3
  simp only [fX5_copyFrom, wlet_eq, h.2.1, e3]
  exact this
end
