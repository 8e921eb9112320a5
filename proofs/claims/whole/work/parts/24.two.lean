/-! part 24: one at least, two at least -/
def nL (a : Nat) : Int64 := Int64.ofNat a
theorem nL_to {a : Nat} (h : a < 2 ^ 63) : (nL a).toInt = a := Int64.toInt_ofNat_of_lt h
theorem nL_mul (a b : Nat) : nL a * nL b = nL (a * b) := (Int64.ofNat_mul a b).symm
theorem nL_add (a b : Nat) : nL a + nL b = nL (a + b) := (Int64.ofNat_add a b).symm
theorem nL_sub {a b : Nat} (h : b ≤ a) : nL a - nL b = nL (a - b) := by
  obtain ⟨c, rfl⟩ : ∃ c, a = c + b := ⟨a - b, by omega⟩
  rw [← nL_add, Int64.add_sub_cancel, Nat.add_sub_cancel]
theorem nL_mod {a b : Nat} (ha : a < 2 ^ 63) (hb : b < 2 ^ 63) : nL a - nL a / nL b * nL b = nL (a % b) := by
  apply Int64.toInt_inj.mp
  rw [Jvm.Kit.i64_rem_nonneg (by rw [nL_to ha]; omega), nL_to ha, nL_to hb, nL_to (Nat.lt_of_le_of_lt (Nat.mod_le a b) ha)]
  rfl
theorem nL_pos {a : Nat} (h : a < 2 ^ 63) (h0 : 0 < a) : nL a > 0 := by
  show (0 : Int64) < nL a
  rw [Int64.lt_iff_toInt_lt, nL_to h]
  show (0 : Int) < a
  omega
theorem nL_ne {a : Nat} (h : a < 2 ^ 63) (h0 : ¬ a = 0) : ¬ nL a = 0 := by
  intro q
  have z := congrArg Int64.toInt q
  rw [nL_to h] at z
  have : (a : Int) = 0 := z
  omega
theorem lc0 {a : Nat} (h : a < 2 ^ 63) : (lg_cmp (nL a) 0 = 0) ↔ a = 0 := by
  by_cases q : a = 0
  · subst q
    exact ⟨fun _ => rfl, fun _ => by decide⟩
  · unfold lg_cmp
    rw [if_pos (nL_pos h (by omega))]
    exact ⟨fun z => absurd z (by decide), fun z => absurd z q⟩
theorem lcp {a : Nat} (h : a < 2 ^ 63) (h0 : 0 < a) : (0 : Int32) < lg_cmp (nL a) 0 := by
  unfold lg_cmp
  rw [if_pos (nL_pos h h0)]
  decide
theorem nI_L {p : Nat} (h : p < 2 ^ 31) : Int32.toInt64 (nI p) = nL p := by
  apply Int64.toInt_inj.mp
  rw [Int32.toInt_toInt64, nI_toInt h, nL_to (by omega)]
theorem wgzl_n {β : Type} {y : Int64} {a : Option β} (h : ¬ y = 0) : wgzl y a = a := if_neg h
theorem mod_half {x y : Nat} (hy : y ≤ x) (h0 : 0 < y) : 2 * (x % y) ≤ x := by
  have h1 := Nat.mod_lt x h0
  have h2 := Nat.div_add_mod x y
  have h3 : 0 < x / y := Nat.div_pos hy h0
  have h4 : y ≤ y * (x / y) := Nat.le_mul_of_pos_right y h3
  omega
theorem eu_step {x y d : Nat} (hy : y ≤ x) (h0 : ¬ y = 0) (hm : x * y < 2 ^ d) : ∃ d', d = d' + 1 ∧ y * (x % y) < 2 ^ d' := by
  cases d with
  | zero =>
    have h5 : 0 < x * y := Nat.mul_pos (by omega) (by omega)
    rw [Nat.pow_zero] at hm
    omega
  | succ d =>
    refine ⟨d, rfl, ?_⟩
    have h1 := Nat.mul_le_mul_left y (mod_half hy (by omega))
    rw [Nat.mul_left_comm, Nat.mul_comm y x] at h1
    rw [Nat.pow_succ] at hm
    omega
theorem eu_gcd (x y : Nat) : Nat.gcd y (x % y) = Nat.gcd x y := by
  rw [Nat.gcd_comm x y, Nat.gcd_rec y x, Nat.gcd_comm]
section
variable {M : wMem} {k n : Nat} {L : Nat → Nat → Int32} {st : Nat → Int32} {hr : Int32}
theorem c_gcd {a b : Nat} (ha : a < 2 ^ 63) (hab : b ≤ a) (hp : a * b < 2 ^ 200) : fX0_greatestShared M (nL a) (nL b) = some (nL (Nat.gcd a b)) := by
  unfold fX0_greatestShared fX0_greatestShared_9
  refine wloop_q (fun d t => ∃ x y k, t = (nL x, nL y, nI k) ∧ k + d = 200 ∧ x < 2 ^ 63 ∧ y ≤ x ∧ x * y < 2 ^ d ∧ Nat.gcd x y = Nat.gcd a b) (fun o => o = some (nL (Nat.gcd a b))) ?_ wfuel 200 (nL a, nL b, 0) ⟨a, b, 0, rfl, by omega, ha, hab, hp, rfl⟩ (wfuel_lt (by omega))
  rintro rec d _ ⟨x, y, k, rfl, hk, hx, hy, hm, hg⟩
  dsimp only
  unfold fX0_greatestShared_9_b
  have g0 : ¬ (1000 : Int32) ≤ nI k := nI_ge (show k < 1000 by omega) (by decide)
  rw [if_neg g0]
  by_cases q : y = 0
  · left
    rw [if_pos ((lc0 (by omega)).mpr q), ← hg, q, Nat.gcd_zero_right]
  · right
    obtain ⟨d', rfl, h2⟩ := eu_step hy q hm
    have h3 := Nat.mod_lt x (show 0 < y by omega)
    refine ⟨d', (nL y, nL (x % y), nI (k + 1)), by omega, ⟨y, x % y, k + 1, rfl, by omega, by omega, by omega, h2, by rw [eu_gcd]; exact hg⟩, ?_⟩
    rw [if_neg (fun z => q ((lc0 (by omega)).mp z)), wgzl_n (nL_ne (by omega) q), wlet_eq, wlet_eq, nL_mod hx (by omega), nI_1]
theorem m_gcd {a b : Nat} (hb : b < 2 ^ 63) (hab : a ≤ b) (hp : b * a < 2 ^ 200) : fX10_divisor M (nL a) (nL b) = some (nL (Nat.gcd b a)) := by
  unfold fX10_divisor fX10_divisor_6
  refine wloop_q (fun d t => (∃ x y, t = (nL x, nL y) ∧ d ≤ 200 ∧ x < 2 ^ 63 ∧ y ≤ x ∧ x * y < 2 ^ d ∧ Nat.gcd x y = Nat.gcd b a) ∨ (t = (nL a, nL b) ∧ d = 201)) (fun o => o = some (nL (Nat.gcd b a))) ?_ wfuel 201 (nL a, nL b) (Or.inr ⟨rfl, rfl⟩) (wfuel_lt (by omega))
  rintro rec d _ (⟨x, y, rfl, hk, hx, hy, hm, hg⟩ | ⟨rfl, rfl⟩)
  · dsimp only
    unfold fX10_divisor_6_b
    by_cases q : y = 0
    · left
      rw [if_pos ((lc0 (by omega)).mpr q), ← hg, q, Nat.gcd_zero_right]
    · right
      obtain ⟨d', rfl, h2⟩ := eu_step hy q hm
      have h3 := Nat.mod_lt x (show 0 < y by omega)
      refine ⟨d', (nL y, nL (x % y)), by omega, Or.inl ⟨y, x % y, rfl, by omega, by omega, by omega, h2, by rw [eu_gcd]; exact hg⟩, ?_⟩
      rw [if_neg (fun z => q ((lc0 (by omega)).mp z)), wgzl_n (nL_ne (by omega) q), wlet_eq, nL_mod hx (by omega)]
  · dsimp only
    unfold fX10_divisor_6_b
    by_cases q : b = 0
    · left
      have : a = 0 := by omega
      rw [if_pos ((lc0 (by omega)).mpr q), q, this, Nat.gcd_zero_right]
    · right
      have h3 := Nat.mod_lt a (show 0 < b by omega)
      refine ⟨200, (nL b, nL (a % b)), by omega, Or.inl ⟨b, a % b, rfl, by omega, by omega, by omega, Nat.lt_of_le_of_lt (Nat.mul_le_mul_left b (Nat.mod_le a b)) hp, by rw [eu_gcd, Nat.gcd_comm]⟩, ?_⟩
      rw [if_neg (fun z => q ((lc0 (by omega)).mp z)), wgzl_n (nL_ne (by omega) q), wlet_eq, nL_mod (by omega) hb]
/-- how likely, in a hundred -/
def sPn (v : Nat → Int32) : Nat := if (sLik v).toInt.toNat < 99 then (sLik v).toInt.toNat else 99
theorem sLik_n {v : Nat → Int32} (h : 0 ≤ (v 3).toInt ∧ (v 3).toInt ≤ 9999) : ∃ l : Nat, 1 ≤ l ∧ l ≤ 1003 ∧ sLik v = nI l := by
  obtain ⟨a, ha, e⟩ := nI_of (x := v 3) (fun q => by rw [i_lt] at q; have : (0 : Int32).toInt = 0 := rfl; omega)
  have ha2 : a ≤ 9999 := by
    have := h.2
    rw [e, nI_toInt ha] at this
    omega
  have e1 : v 3 / 10 = nI (a / 10) := by
    rw [e]
    exact pk_div ha (by decide) (by decide)
  unfold sLik
  rw [e1]
  split
  · exact ⟨1, by omega, by omega, rfl⟩
  · split
    · exact ⟨a / 10 + 1 + 3, by omega, by omega, by rw [← nI_add, ← nI_add]; rfl⟩
    · exact ⟨a / 10 + 1, by omega, by omega, by rw [← nI_add]; rfl⟩
theorem sPn_s {v : Nat → Int32} (h : 0 ≤ (v 3).toInt ∧ (v 3).toInt ≤ 9999) : 1 ≤ sPn v ∧ sPn v ≤ 99 ∧ (if sLik v < 99 then sLik v else 99) = nI (sPn v) ∧ (if sLik v ≤ 99 then sLik v else 99) = nI (sPn v) := by
  obtain ⟨l, h1, h2, e⟩ := sLik_n h
  unfold sPn
  rw [e, nI_toInt (by omega), Int.toNat_natCast]
  have g1 : (nI l < 99) ↔ l < 99 := nI_ltI (b := 99) (by omega) (by omega)
  have g2 : (nI l ≤ 99) ↔ l ≤ 99 := nI_leI (b := 99) (by omega) (by omega)
  by_cases q : l < 99
  · rw [if_pos q, if_pos (g1.mpr q), if_pos (g2.mpr (by omega))]
    exact ⟨h1, by omega, rfl, rfl⟩
  · rw [if_neg q, if_neg (fun z => q (g1.mp z))]
    refine ⟨by omega, by omega, rfl, ?_⟩
    by_cases z : l ≤ 99
    · have : l = 99 := by omega
      rw [if_pos (g2.mpr z), this]
    · rw [if_neg (fun y => z (g2.mp y))]
      rfl
def sDO (L : Nat → Nat → Int32) : Nat → Nat × Nat
  | 0 => (1, 0)
  | i + 1 => ((sDO L i).1 * (100 - sPn (L i)), (sDO L i).2 * (100 - sPn (L i)) + (sDO L i).1 * sPn (L i))
theorem sDO_s (L : Nat → Nat → Int32) (i : Nat) : sDO L (i + 1) = ((sDO L i).1 * (100 - sPn (L i)), (sDO L i).2 * (100 - sPn (L i)) + (sDO L i).1 * sPn (L i)) := rfl
theorem sDO_le {n : Nat} (ho : wOkL L n) : ∀ i, i ≤ n → (sDO L i).1 + (sDO L i).2 ≤ 100 ^ i ∧ (1 ≤ i → (sDO L i).1 < 100 ^ i)
  | 0, _ => ⟨Nat.le_refl _, fun h => by omega⟩
  | i + 1, h => by
    obtain ⟨h1, h2, _⟩ := sPn_s (ho i (by omega))
    have ih := (sDO_le ho i (by omega)).1
    have hU : 0 < 100 ^ i := Nat.pow_pos (by decide)
    rw [sDO_s, Nat.pow_succ]
    generalize (sDO L i).1 = D at *
    generalize (sDO L i).2 = O at *
    generalize 100 ^ i = U at *
    generalize sPn (L i) = p at *
    obtain ⟨q, hq⟩ : ∃ q, q = 100 - p := ⟨_, rfl⟩
    show D * (100 - p) + (O * (100 - p) + D * p) ≤ U * 100 ∧ (1 ≤ i + 1 → D * (100 - p) < U * 100)
    rw [← hq]
    have e1 : D * q + D * p = D * 100 := by rw [← Nat.mul_add]; congr 1; omega
    have e2 : O * q ≤ O * 100 := Nat.mul_le_mul_left O (by omega)
    have e3 : D * q ≤ D * 99 := Nat.mul_le_mul_left D (by omega)
    exact ⟨by omega, fun _ => by omega⟩
/-- what is asked, of the three that are counted -/
def sTwo (z : Int32) (U D O : Nat) : Int64 := (if z = 0 then nL (U - D) else nL (U - D - O)) / nL (Nat.gcd (U - D) (U - D - O))
theorem two_bd {U D O : Nat} (hU : U ≤ 10000000000000000) : (U - D) * (U - D - O) < 2 ^ 200 :=
  Nat.lt_of_le_of_lt (Nat.mul_le_mul (show U - D ≤ 10000000000000000 by omega) (show U - D - O ≤ 10000000000000000 by omega)) (by decide)
theorem c_85 {z : Int32} {U D O : Nat} (hU : U ≤ 10000000000000000) (h1 : D < U) (h2 : D + O ≤ U) : fX0_ofTwo_85 M z (nL U) (nL D) (nL O) = some (sTwo z U D O) := by
  have hg : Nat.gcd (U - D) (U - D - O) ≤ U - D := Nat.le_of_dvd (by omega) (Nat.gcd_dvd_left _ _)
  have hg0 : 0 < Nat.gcd (U - D) (U - D - O) := Nat.gcd_pos_of_pos_left _ (by omega)
  unfold fX0_ofTwo_85 sTwo
  rw [wlet_eq, wlet_eq, nL_sub (by omega), nL_sub (by omega), c_gcd (by omega) (by omega) (two_bd hU), Option.bind_some, if_pos (lcp (by omega) hg0)]
  by_cases q : z = 0
  · rw [if_pos q, if_pos q, wgzl_n (nL_ne (by omega) (by omega))]
  · rw [if_neg q, if_neg q, wgzl_n (nL_ne (by omega) (by omega))]
theorem pow8 {i : Nat} (h : i ≤ 8) : 100 ^ i ≤ 10000000000000000 := Nat.pow_le_pow_right (by decide) h
theorem c_two (h : wRow M 1 n L st hr) (ho : wOkL L n) (h1 : 1 ≤ n) (h8 : n ≤ 8) (z : Int32) : fX0_ofTwo M 1 z = some (sTwo z (100 ^ n) (sDO L n).1 (sDO L n).2) := by
  have hn := h.1
  unfold fX0_ofTwo fX0_ofTwo_11
  rw [wlet_eq, wlet_eq, wlet_eq]
  refine wloop_q (fun e t => ∃ i, i + e = n ∧ t = (nL (100 ^ i), nL (sDO L i).1, nL (sDO L i).2, nI i)) (fun o => o = some (sTwo z (100 ^ n) (sDO L n).1 (sDO L n).2)) ?_ wfuel n (1, 1, 0, 0) ⟨0, by omega, rfl⟩ (wfuel_lt (by omega))
  rintro rec e _ ⟨i, hi, rfl⟩
  dsimp only
  unfold fX0_ofTwo_11_b
  rw [h.2.1]
  by_cases q : n ≤ i
  · left
    have : i = n := by omega
    subst this
    have hd := sDO_le ho i (by omega)
    rw [if_pos (nI_le q (by omega)), c_85 (pow8 h8) (hd.2 h1) hd.1]
  · right
    obtain ⟨p1, p2, p3, _⟩ := sPn_s (ho i (by omega))
    have g8 : ¬ (8 : Int32) ≤ nI i := nI_ge (show i < 8 by omega) (by decide)
    refine ⟨e - 1, (nL (100 ^ (i + 1)), nL (sDO L (i + 1)).1, nL (sDO L (i + 1)).2, nI (i + 1)), by omega, ⟨i + 1, by omega, rfl⟩, ?_⟩
    have e100 : (100 : Int64) - nL (sPn (L i)) = nL (100 - sPn (L i)) := nL_sub (a := 100) (by omega)
    have em : nL (100 ^ i) * (100 : Int64) = nL (100 ^ i * 100) := nL_mul _ 100
    rw [if_neg (nI_ge (by omega) (by omega)), if_neg g8, wgi_n (by omega) (by decide), nI_clamp (by omega), c_lik (h.2.2.1 i (by omega)), Option.bind_some, p3, nI_L (by omega), wlet_eq, wlet_eq, wlet_eq, wlet_eq, wlet_eq, e100, em, nL_mul, nL_mul, nL_mul, nL_add, nI_1, sDO_s, Nat.pow_succ]
theorem m_two_end {z : Int32} {U D O : Nat} (hU : U ≤ 10000000000000000) (h1 : D < U) (h2 : D + O ≤ U) (y : Int64) : fX10_two_146 M (nL (U - D - O)) (nL (U - D)) y = some (y / nL (Nat.gcd (U - D) (U - D - O)), M) := by
  have hg : Nat.gcd (U - D) (U - D - O) ≤ U - D := Nat.le_of_dvd (by omega) (Nat.gcd_dvd_left _ _)
  have hg0 : 0 < Nat.gcd (U - D) (U - D - O) := Nat.gcd_pos_of_pos_left _ (by omega)
  unfold fX10_two_146
  rw [m_gcd (by omega) (by omega) (two_bd hU), Option.bind_some, wgzl_n (nL_ne (by omega) (by omega))]
theorem m_two (h : wMod M n L st hr) (ho : wOkL L n) (h1 : 1 ≤ n) (h8 : n ≤ 8) (z : Int32) : fX10_two_57 M z 1 1 0 0 = some (sTwo (if z = 0 then 1 else 0) (100 ^ n) (sDO L n).1 (sDO L n).2, M) := by
  have hn := h.1
  unfold fX10_two_57
  refine wloop_q (fun e t => ∃ i, i + e = n ∧ t = (nL (100 ^ i), nL (sDO L i).1, nL (sDO L i).2, nI i)) (fun o => o = some (sTwo (if z = 0 then 1 else 0) (100 ^ n) (sDO L n).1 (sDO L n).2, M)) ?_ wfuel n (1, 1, 0, 0) ⟨0, by omega, rfl⟩ (wfuel_lt (by omega))
  rintro rec e _ ⟨i, hi, rfl⟩
  dsimp only
  unfold fX10_two_57_b
  rw [h.2.1]
  by_cases q : n ≤ i
  · left
    have : i = n := by omega
    subst this
    have hd := sDO_le ho i (by omega)
    rw [if_pos (nI_le q (by omega)), wlet_eq, wlet_eq, nL_sub (by omega), nL_sub (by omega), m_two_end (z := z) (pow8 h8) (hd.2 h1) hd.1, m_two_end (z := z) (pow8 h8) (hd.2 h1) hd.1]
    unfold sTwo
    by_cases y : z = 0
    · rw [if_pos y, if_pos y, if_neg (by decide)]
    · rw [if_neg y, if_neg y, if_pos rfl]
  · right
    obtain ⟨p1, p2, _, p3⟩ := sPn_s (ho i (by omega))
    refine ⟨e - 1, (nL (100 ^ (i + 1)), nL (sDO L (i + 1)).1, nL (sDO L (i + 1)).2, nI (i + 1)), by omega, ⟨i + 1, by omega, rfl⟩, ?_⟩
    have e100 : (100 : Int32) - nI (sPn (L i)) = nI (100 - sPn (L i)) := pk_sub (a := 100) (by omega)
    have em : nL (100 ^ i) * (100 : Int64) = nL (100 ^ i * 100) := nL_mul _ 100
    have el : fX10_least M 99 (sLik (L i)) = some (nI (sPn (L i))) := by
      unfold fX10_least
      rw [← p3]
      split <;> rfl
    rw [if_neg (nI_ge (by omega) (by omega)), m_lik h (by omega), Option.bind_some, el, Option.bind_some, e100, nI_L (by omega), nI_L (by omega), wlet_eq, wlet_eq, wlet_eq, wlet_eq, em, nL_mul, nL_mul, nL_mul, nL_add, nI_1, sDO_s, Nat.pow_succ]
end
