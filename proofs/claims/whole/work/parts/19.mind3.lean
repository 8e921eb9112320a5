/-! part 19: in mind: all anew, seeds -/
section
variable {M : wMem} {n : Nat} {L : Nat → Nat → Int32} {st : Nat → Int32} {hr : Int32}
/-- the row as the k-th hour begins, ahead of the putting anew -/
def sAn (L : Nat → Nat → Int32) (n : Nat) (st : Nat → Int32) (hr : Int32) (e : Nat) : Nat → Nat → Nat → Int32
  | 0 => L
  | k + 1 => sHour (if k % e = 0 then fun i => sAnew (sAn L n st hr e k i) else sAn L n st hr e k) n st (sHr hr k)
def sPre (L : Nat → Nat → Int32) (n : Nat) (st : Nat → Int32) (hr : Int32) (e k : Nat) : Nat → Nat → Int32 := if k % e = 0 then fun i => sAnew (sAn L n st hr e k i) else sAn L n st hr e k
theorem sAn_s (L : Nat → Nat → Int32) (n : Nat) (st : Nat → Int32) (hr : Int32) (e k : Nat) : sAn L n st hr e (k + 1) = sHour (sPre L n st hr e k) n st (sHr hr k) := rfl
theorem wLe_anew (L : Nat → Nat → Int32) (n : Nat) : wLe (fun i => sAnew (L i)) n := by
  intro i _
  show (sAnew (L i) 3).toInt ≤ 9999
  rw [sAnew_3]
  decide
theorem wLe_pre {e k : Nat} (h : wLe (sAn L n st hr e k) n) : wLe (sPre L n st hr e k) n := by
  unfold sPre
  split
  · exact wLe_anew _ n
  · exact h
theorem wLe_an (h : wLe L n) (e : Nat) : ∀ k, wLe (sAn L n st hr e k) n
  | 0 => h
  | k + 1 => wLe_hour (wLe_pre (wLe_an h e k)) st _
/-- live as each of the hours k .. k + d less 1 begins -/
def sStay (L : Nat → Nat → Int32) (n : Nat) (st : Nat → Int32) (hr : Int32) (e k : Nat) : Nat → Bool
  | 0 => true
  | d + 1 => sLive (sPre L n st hr e k) n && sStay L n st hr e (k + 1) d
theorem sStay_s (e k d : Nat) : sStay L n st hr e k (d + 1) = (sLive (sPre L n st hr e k) n && sStay L n st hr e (k + 1) d) := rfl
/-- till it is put anew -/
def sTill (e k : Nat) : Nat := if k % e = 0 then 0 else e - k % e
theorem sTill_0 {e k : Nat} (he : 1 ≤ e) : sTill e k = 0 ↔ k % e = 0 := by
  unfold sTill
  have := Nat.mod_lt k (show e > 0 by omega)
  split <;> omega
theorem sTill_s {e k : Nat} (he : 1 ≤ e) : (if k % e = 0 then e else sTill e k) = sTill e (k + 1) + 1 := by
  unfold sTill
  have h1 := Nat.mod_lt k (show e > 0 by omega)
  have h2 := Nat.mod_lt (k + 1) (show e > 0 by omega)
  have h3 : (k + 1) % e = if k % e + 1 = e then 0 else k % e + 1 := by
    rw [Nat.add_mod]
    by_cases e1 : e = 1
    · subst e1
      rw [if_pos (by omega)]
      omega
    · rw [Nat.mod_eq_of_lt (show 1 < e by omega)]
      split
      · rename_i q
        rw [q, Nat.mod_self]
      · exact Nat.mod_eq_of_lt (by omega)
  rw [h3]
  split <;> split <;> (try split) <;> omega
theorem c_stays {M0 : wMem} (h : wRow M0 32 n L st hr) {e : Nat} (he : 1 ≤ e) (he2 : e ≤ 50) : ∃ M', fX4_staysLive M0 (nI e) = some (sStay L n st hr e 0 60, M') ∧ wOff 32 M0 M' := by
  unfold fX4_staysLive fX4_staysLive_4
  refine wloop_q (fun d t => ∃ k, k + d = 60 ∧ t.2.1 = nI k ∧ t.1 = nI (sTill e k) ∧ wRow t.2.2 32 n (sAn L n st hr e k) st (sHr hr k) ∧ wOff 32 M0 t.2.2 ∧ sStay L n st hr e 0 60 = sStay L n st hr e k d) (fun o => ∃ M', o = some (sStay L n st hr e 0 60, M') ∧ wOff 32 M0 M') ?_ wfuel 60 (0, 0, M0) ⟨0, by omega, rfl, by simp [sTill]; rfl, h, wOff.rf 32 M0, rfl⟩ (wfuel_lt (by omega))
  rintro rec d ⟨x, y, M2⟩ ⟨k, hk, rfl, rfl, hR, hO, hS⟩
  dsimp only at hR hO hS ⊢
  unfold fX4_staysLive_4_b
  by_cases q : d = 0
  · left
    subst q
    rw [if_pos (show (60 : Int32) ≤ nI k from nI_le (a := 60) (by omega) (by omega)), hS]
    exact ⟨M2, rfl, hO⟩
  · rw [if_neg (show ¬ (60 : Int32) ≤ nI k from nI_ge (b := 60) (by omega) (by omega))]
    obtain ⟨d', rfl⟩ : ∃ d', d = d' + 1 := ⟨d - 1, by omega⟩
    rw [sStay_s e k d'] at hS
    have hm : sTill e k ≤ 50 := by unfold sTill; split <;> omega
    -- the second half of an hour's round
    have half : ∀ M3 : wMem, wRow M3 32 n (sPre L n st hr e k) st (sHr hr k) → wOff 32 M0 M3 → ((∃ M', fX4_staysLive_23 M3 rec (nI e) (nI (sTill e (k + 1) + 1)) (nI k) = some (sStay L n st hr e 0 60, M') ∧ wOff 32 M0 M') ∨ ∃ d'' s', d'' < d' + 1 ∧ (∃ k, k + d'' = 60 ∧ s'.2.1 = nI k ∧ s'.1 = nI (sTill e k) ∧ wRow s'.2.2 32 n (sAn L n st hr e k) st (sHr hr k) ∧ wOff 32 M0 s'.2.2 ∧ sStay L n st hr e 0 60 = sStay L n st hr e k d'') ∧ fX4_staysLive_23 M3 rec (nI e) (nI (sTill e (k + 1) + 1)) (nI k) = rec s') := by
      intro M3 hR3 hO3
      unfold fX4_staysLive_23
      rw [c_live hR3, Option.bind_some]
      cases hl : sLive (sPre L n st hr e k) n
      · left
        rw [hS, hl]
        exact ⟨M3, rfl, hO3⟩
      · right
        obtain ⟨M4, t1, t2, t3⟩ := c_hour hR3
        refine ⟨d', (nI (sTill e (k + 1)), nI (k + 1), M4), by omega, ⟨k + 1, by omega, rfl, rfl, t2, hO3.tr t3, ?_⟩, ?_⟩
        · rw [hS, hl]
          rfl
        · rw [if_neg (by decide), t1]
          simp only [Option.bind_some, wpr, wlet_eq, nI_1, pk_m1]
    by_cases z : k % e = 0
    · rw [if_pos (show nI (sTill e k) = 0 by rw [(sTill_0 he).mpr z]; rfl)]
      obtain ⟨M3, t1, t2, t3⟩ := c_anewAll hR
      rw [t1, Option.bind_some]
      have e1 := sTill_s (k := k) he
      rw [if_pos z] at e1
      have := half M3 (by unfold sPre; rw [if_pos z]; exact t2) (hO.tr t3)
      rw [← e1] at this
      exact this
    · have hz9 : ¬ nI (sTill e k) = 0 := fun q9 => z ((sTill_0 he).mp ((nI_eq (b := 0) (by omega) (by omega)).mp q9))
      rw [if_neg hz9]
      have e1 := sTill_s (k := k) he
      rw [if_neg z] at e1
      have := half M2 (by unfold sPre; rw [if_neg z]; exact hR) hO
      rw [← e1] at this
      exact this
/-- the greatest of e, e less 1 .. 1 by which it stays live; -9 -/
def sDown (P : Nat → Bool) : Nat → Int32
  | 0 => -9
  | e + 1 => if P (e + 1) = true then nI (e + 1) else sDown P e
theorem sDown_s (P : Nat → Bool) (e : Nat) : sDown P (e + 1) = if P (e + 1) = true then nI (e + 1) else sDown P e := rfl
theorem c_allAnew (h : wRow M 1 n L st hr) : ∃ M', fX4_greatestAnew M 1 = some (sDown (fun e => sStay L n st hr e 0 60) 50, M') ∧ wOff 32 M M' := by
  unfold fX4_greatestAnew fX4_greatestAnew_3
  refine wloop_q (fun d t => d ≤ 50 ∧ t.1 = nI d ∧ wOff 32 M t.2 ∧ sDown (fun e => sStay L n st hr e 0 60) 50 = sDown (fun e => sStay L n st hr e 0 60) d) (fun o => ∃ M', o = some (sDown (fun e => sStay L n st hr e 0 60) 50, M') ∧ wOff 32 M M') ?_ wfuel 50 (50, M) ⟨by omega, rfl, wOff.rf 32 M, rfl⟩ (wfuel_lt (by omega))
  rintro rec d ⟨y, M2⟩ ⟨hd, rfl, hO, hS⟩
  dsimp only at hO hS ⊢
  unfold fX4_greatestAnew_3_b
  by_cases q : d = 0
  · left
    subst q
    rw [if_pos (show nI 0 < (1 : Int32) by decide), hS]
    exact ⟨M2, rfl, hO⟩
  · obtain ⟨d', rfl⟩ : ∃ d', d = d' + 1 := ⟨d - 1, by omega⟩
    rw [if_neg (show ¬ nI (d' + 1) < (1 : Int32) from nI_nlt (b := 1) (by omega) (by omega))]
    obtain ⟨M3, t1, t2, t3⟩ := c_begin (wOff_row h hO)
    obtain ⟨M4, u1, u2⟩ := c_stays t2 (e := d' + 1) (by omega) (by omega)
    rw [t1, Option.bind_some, u1]
    simp only [Option.bind_some, wpr, wlet_eq, wb_0, pk_m1]
    rw [sDown_s _ d'] at hS
    cases hs : sStay L n st hr (d' + 1) 0 60
    · right
      refine ⟨d', (nI d', M4), by omega, ⟨by omega, rfl, (hO.tr t3).tr u2, ?_⟩, by rw [if_pos rfl]⟩
      rw [hS, hs, if_neg (by decide)]
    · left
      rw [hS, hs, if_neg (by decide), if_pos rfl]
      exact ⟨M4, rfl, (hO.tr t3).tr u2⟩
theorem m_liveBy (h : wMod M n L st hr) (hok : wLe L n) {e : Nat} (he : 1 ≤ e) (he2 : e ≤ 50) : ∃ M', fX10_isLiveBy M (nI e) = some (sStay L n st hr e 0 60, M') ∧ wKm M M' := by
  obtain ⟨M1, s1, s2, s3⟩ := m_begin h
  have hn := h.1
  simp only [fX10_isLiveBy, s1, Option.bind_some]
  unfold fX10_isLiveBy_10
  refine wloop_q (fun d t => wFn M1 t.2.2 ∧ ((∃ k, k + d = 61 ∧ k ≤ 60 ∧ t.1 = 1 ∧ t.2.1 = nI k ∧ wMod t.2.2 n (sAn L n st hr e k) st (sHr hr k) ∧ sStay L n st hr e 0 60 = sStay L n st hr e k (60 - k)) ∨ (t.1 = 0 ∧ sStay L n st hr e 0 60 = false))) (fun o => ∃ M', o = some (sStay L n st hr e 0 60, M') ∧ wKm M M') ?_ wfuel 61 (1, 0, M1) ⟨wFn.rf M1, Or.inl ⟨0, by omega, by omega, rfl, rfl, s3, rfl⟩⟩ (wfuel_lt (by omega))
  rintro rec d ⟨x, y, M2⟩ ⟨hF, hI⟩
  dsimp only at hF hI ⊢
  unfold fX10_isLiveBy_10_b
  obtain ⟨M9, z1, z2⟩ := m_end s2 hF
  rcases hI with ⟨k, hk, hk2, rfl, rfl, hR, hS⟩ | ⟨rfl, hx⟩
  · by_cases q : k = 60
    · left
      subst q
      rw [if_pos (show (60 : Int32) ≤ nI 60 by decide), hS]
      simp only [fX10_isLiveBy_66, z1, Option.bind_some, wlet_eq, wrb_1]
      exact ⟨M9, rfl, z2⟩
    · right
      rw [if_neg (show ¬ (60 : Int32) ≤ nI k from nI_ge (b := 60) (by omega) (by omega)), if_neg (by decide)]
      obtain ⟨r, hr9⟩ : ∃ r, 60 - k = r + 1 := ⟨59 - k, by omega⟩
      rw [hr9, sStay_s e k r] at hS
      have hrem : nI k - nI k / nI e * nI e = nI (k % e) := pk_rem (by omega) (by omega) (by omega)
      have hml := Nat.mod_lt k (show e > 0 by omega)
      -- the second half
      have half : ∀ M3 : wMem, wMod M3 n (sPre L n st hr e k) st (sHr hr k) → wFn M1 M3 → ∃ M4, wMod M4 n (sAn L n st hr e (k + 1)) st (sHr hr (k + 1)) ∧ wFn M1 M4 ∧ fX10_isLiveBy_50 M3 rec (nI e) (nI k) = rec (wb (sLive (sPre L n st hr e k) n), nI (k + 1), M4) := by
        intro M3 hR3 hF3
        obtain ⟨M4, t1, t2, t3⟩ := m_hour hR3 (wLe_pre (wLe_an hok e k))
        refine ⟨M4, t2, hF3.tr t3.n, ?_⟩
        unfold fX10_isLiveBy_50
        rw [m_live hR3, Option.bind_some, t1]
        simp only [Option.bind_some, wpr, wlet_eq, nI_1]
      have inner : ∃ M4, wMod M4 n (sAn L n st hr e (k + 1)) st (sHr hr (k + 1)) ∧ wFn M1 M4 ∧ fX10_isLiveBy_23 M2 rec (nI e) (nI k) 0 = rec (wb (sLive (sPre L n st hr e k) n), nI (k + 1), M4) := by
        unfold fX10_isLiveBy_23
        by_cases z : k % e = 0
        · refine wloop_q (fun g t => ∃ i, i + g = n ∧ t.1 = nI i ∧ wMod t.2 n (sMix (sAn L n st hr e k) (fun i => sAnew (sAn L n st hr e k i)) i) st (sHr hr k) ∧ wFn M1 t.2) (fun o => ∃ M4, wMod M4 n (sAn L n st hr e (k + 1)) st (sHr hr (k + 1)) ∧ wFn M1 M4 ∧ o = rec (wb (sLive (sPre L n st hr e k) n), nI (k + 1), M4)) ?_ wfuel n (0, M2) ⟨0, by omega, rfl, by rw [sMix_0]; exact hR, hF⟩ (wfuel_lt (by omega))
          rintro rec2 g ⟨y2, M5⟩ ⟨i, hi, rfl, hQ, hF5⟩
          dsimp only at hQ hF5 ⊢
          unfold fX10_isLiveBy_23_b
          by_cases q2 : i < n
          · right
            obtain ⟨M6, v1, v2, v3⟩ := m_anew (L' := sMix (sAn L n st hr e k) (fun i => sAnew (sAn L n st hr e k i)) (i + 1)) hQ q2 (by rw [sMix_lt (Nat.lt_succ_self i), sMix_ge (Nat.lt_irrefl i)]) (fun x _ hne => by
              by_cases w : x < i
              · rw [sMix_lt w, sMix_lt (by omega)]
              · rw [sMix_ge w, sMix_ge (by omega)])
            refine ⟨g - 1, (nI (i + 1), M6), by omega, ⟨i + 1, by omega, rfl, v2, hF5.tr v3.n⟩, ?_⟩
            rw [hQ.2.1, if_neg (nI_ge q2 (by omega)), wgz_n (nI_ne0 (by omega) (by omega)), hrem, z, if_pos (show nI 0 = 0 from rfl), v1, Option.bind_some]
            simp only [wlet_eq, nI_1]
          · left
            have e2 : i = n := by omega
            subst e2
            have hQ2 : wMod M5 i (sPre L i st hr e k) st (sHr hr k) := ⟨hQ.1, hQ.2.1, fun x hx f hf => by rw [hQ.2.2.1 x hx f hf, sMix_lt hx]; unfold sPre; rw [if_pos z], hQ.2.2.2⟩
            rw [hQ.2.1, if_pos (nI_le (Nat.le_refl _) (by omega))]
            exact half M5 hQ2 hF5
        · have hR2 : wMod M2 n (sPre L n st hr e k) st (sHr hr k) := by unfold sPre; rw [if_neg z]; exact hR
          refine wloop_q (fun g t => t = (0, M2)) (fun o => ∃ M4, wMod M4 n (sAn L n st hr e (k + 1)) st (sHr hr (k + 1)) ∧ wFn M1 M4 ∧ o = rec (wb (sLive (sPre L n st hr e k) n), nI (k + 1), M4)) ?_ wfuel 0 (0, M2) rfl (wfuel_lt (by omega))
          rintro rec2 g _ rfl
          left
          dsimp only
          unfold fX10_isLiveBy_23_b
          have hz : ¬ (nI (k % e) = 0) := nI_ne0 (by omega) (by omega)
          rw [wgz_n (nI_ne0 (by omega) (by omega)), hrem, if_neg hz, ite_self]
          exact half M2 hR2 hF
      obtain ⟨M4, u1, u2, u3⟩ := inner
      refine ⟨d - 1, (wb (sLive (sPre L n st hr e k) n), nI (k + 1), M4), by omega, ⟨u2, ?_⟩, u3⟩
      cases hl : sLive (sPre L n st hr e k) n
      · right
        refine ⟨rfl, ?_⟩
        rw [hS, hl]
        rfl
      · left
        refine ⟨k + 1, by omega, by omega, rfl, rfl, u1, ?_⟩
        rw [hS, hl, show 60 - (k + 1) = r by omega]
        rfl
  · left
    rw [if_pos rfl, ite_self, hx]
    simp only [fX10_isLiveBy_66, z1, Option.bind_some, wlet_eq, wrb_0]
    exact ⟨M9, rfl, z2⟩
theorem wKm.rf (M : wMem) : wKm M M := ⟨fun _ _ _ _ => rfl, fun _ _ => rfl, fun _ _ _ _ _ => rfl, fun _ _ => rfl, fun _ _ _ _ _ => rfl⟩
theorem wKm.tr {M1 M2 M3 : wMem} (h : wKm M1 M2) (h2 : wKm M2 M3) : wKm M1 M3 := ⟨fun f hf i hi => (h2.1 f hf i hi).trans (h.1 f hf i hi), fun j hj => (h2.2.1 j hj).trans (h.2.1 j hj), fun j a b c d => (h2.2.2.1 j a b c d).trans (h.2.2.1 j a b c d), fun j hj => (h2.2.2.2.1 j hj).trans (h.2.2.2.1 j hj), fun b a c d e => (h2.2.2.2.2 b a c d e).trans (h.2.2.2.2 b a c d e)⟩
theorem wKm.mod {M' : wMem} (h : wKm M M') (hm : wMod M n L st hr) : wMod M' n L st hr := by
  have hn := hm.1
  exact ⟨hm.1, by rw [h.2.2.1 7 (by decide) (by decide) (by decide) (by decide)]; exact hm.2.1, fun i hi f hf => by rw [h.1 f hf i (by omega)]; exact hm.2.2.1 i hi f hf, fun j hj => by rw [h.2.1 j hj]; exact hm.2.2.2.1 j hj, by rw [h.2.2.1 8 (by decide) (by decide) (by decide) (by decide)]; exact hm.2.2.2.2⟩
theorem m_allAnew (h : wMod M n L st hr) (hok : wLe L n) : ∃ M', fX10_allAnew_17 M 50 = some (sDown (fun e => sStay L n st hr e 0 60) 50, M') ∧ wKm M M' := by
  unfold fX10_allAnew_17
  refine wloop_q (fun d t => d ≤ 50 ∧ t.1 = nI d ∧ wKm M t.2 ∧ sDown (fun e => sStay L n st hr e 0 60) 50 = sDown (fun e => sStay L n st hr e 0 60) d) (fun o => ∃ M', o = some (sDown (fun e => sStay L n st hr e 0 60) 50, M') ∧ wKm M M') ?_ wfuel 50 (50, M) ⟨by omega, rfl, wKm.rf M, rfl⟩ (wfuel_lt (by omega))
  rintro rec d ⟨y, M2⟩ ⟨hd, rfl, hO, hS⟩
  dsimp only at hO hS ⊢
  unfold fX10_allAnew_17_b
  by_cases q : d = 0
  · left
    subst q
    rw [if_pos (show nI 0 ≤ (0 : Int32) by decide), hS]
    exact ⟨M2, rfl, hO⟩
  · obtain ⟨d', rfl⟩ : ∃ d', d = d' + 1 := ⟨d - 1, by omega⟩
    rw [if_neg (nI_nle (by omega) (by omega))]
    obtain ⟨M4, u1, u2⟩ := m_liveBy (hO.mod h) hok (e := d' + 1) (by omega) (by omega)
    rw [u1]
    simp only [Option.bind_some, wpr, wlet_eq, wb_0, pk_m1]
    rw [sDown_s _ d'] at hS
    cases hs : sStay L n st hr (d' + 1) 0 60
    · right
      refine ⟨d', (nI d', M4), by omega, ⟨by omega, rfl, hO.tr u2, ?_⟩, by rw [if_pos rfl]⟩
      rw [hS, hs, if_neg (by decide)]
    · left
      rw [hS, hs, if_neg (by decide), if_pos rfl]
      exact ⟨M4, rfl, hO.tr u2⟩
/-- seeds -/
def sZ (z : Int32) : Nat → Int32
  | 0 => z
  | k + 1 => sZ z k * 1103515245 + 12345
def sDraw (z : Int32) (n : Nat) : Nat := z.toBitVec.toNat % 2 ^ 31 / 65536 % n
theorem draw_eq (z : Int32) {n : Nat} (h0 : 0 < n) (hn : n ≤ 12) : (z &&& 2147483647) / 65536 - (z &&& 2147483647) / 65536 / nI n * nI n = nI (sDraw z n) := by
  have e1 : z &&& 2147483647 = nI (z.toBitVec.toNat % 2 ^ 31) := pk_and z (m := 2147483647) 31 (by decide)
  have hl : z.toBitVec.toNat % 2 ^ 31 < 2 ^ 31 := Nat.mod_lt _ (by decide)
  have e2 : nI (z.toBitVec.toNat % 2 ^ 31) / 65536 = nI (z.toBitVec.toNat % 2 ^ 31 / 65536) := pk_div (d := 65536) hl (by decide) (by decide)
  rw [e1, e2]
  exact pk_rem (Nat.lt_of_le_of_lt (Nat.div_le_self _ _) hl) h0 (by omega)
theorem sDraw_lt (z : Int32) {n : Nat} (h0 : 0 < n) : sDraw z n < n := Nat.mod_lt _ h0
def sTo (L : Nat → Nat → Int32) (i : Nat) (gr : Int32) : Nat → Nat → Int32 := fun j => if j = i then sTouch (L i) gr else L j
def sSd (L : Nat → Nat → Int32) (n : Nat) (st : Nat → Int32) (hr z : Int32) : Nat → Nat → Nat → Int32
  | 0 => L
  | k + 1 => sHour (sTo (sSd L n st hr z k) (sDraw (sZ z (k + 1)) n) (st 3)) n st (sHr hr k)
theorem sTouch_3 (v : Nat → Int32) (gr : Int32) : sTouch v gr 3 = v 3 := by
  unfold sTouch
  split
  · exact sSet_ne (by decide)
  · split
    · exact sSet_ne (by decide)
    · rfl
theorem wLe_to {L : Nat → Nat → Int32} {n : Nat} (h : wLe L n) (i : Nat) (gr : Int32) : wLe (sTo L i gr) n := by
  intro j hj
  unfold sTo
  split
  · rename_i e
    subst e
    rw [sTouch_3]
    exact h j hj
  · exact h j hj
theorem wLe_sd (h : wLe L n) (z : Int32) : ∀ k, wLe (sSd L n st hr z k) n
  | 0 => h
  | k + 1 => wLe_hour (wLe_to (wLe_sd h z k) _ _) st _
theorem c_draw (M : wMem) (z : Int32) {n : Nat} (h0 : 0 < n) (hn : n ≤ 12) : fX4_drawBelow M z (nI n) = some (nI (sDraw z n)) := by
  have z1 : ¬ (65536 : Int32) = 0 := by decide
  unfold fX4_drawBelow
  rw [if_pos (show (0 : Int32) < nI n from nI_lt (a := 0) h0 (by omega)), wgz_n z1, wgz_n (nI_ne0 h0 (by omega)), draw_eq _ h0 hn]
theorem c_touchTo {M : wMem} {k : Nat} (h : wRow M k n L st hr) {i : Nat} (hi : i < n) : ∃ M', fX5_touchAt M k (nI i) = some M' ∧ wRow M' k n (sTo L i (st 3)) st hr ∧ wOff k M M' := c_touchAt h hi
theorem sZ_s (z : Int32) (k : Nat) : sZ z (k + 1) = sZ z k * 1103515245 + 12345 := rfl
theorem sSd_s (z : Int32) (k : Nat) : sSd L n st hr z (k + 1) = sHour (sTo (sSd L n st hr z k) (sDraw (sZ z (k + 1)) n) (st 3)) n st (sHr hr k) := rfl
theorem c_seeds (h : wRow M 1 n L st hr) (h0 : 0 < n) {a : Nat} (ha : a ≤ 50) (z : Int32) : ∃ M', fX4_wellAfterTouches M 1 (nI a) z = some (sMany (sSd L n st hr z a) 0 n, M') ∧ wOff 32 M M' := by
  obtain ⟨M1, s1, s2, s3⟩ := c_begin h
  have hn := h.1
  simp only [fX4_wellAfterTouches, s1, Option.bind_some]
  unfold fX4_wellAfterTouches_12
  refine wloop_q (fun d t => ∃ j, j + d = a ∧ t.2.1 = nI j ∧ t.1 = sZ z j ∧ wRow t.2.2 32 n (sSd L n st hr z j) st (sHr hr j) ∧ wOff 32 M t.2.2) (fun o => ∃ M', o = some (sMany (sSd L n st hr z a) 0 n, M') ∧ wOff 32 M M') ?_ wfuel a (z, 0, M1) ⟨0, by omega, rfl, rfl, s2, s3⟩ (wfuel_lt (by omega))
  rintro rec d ⟨x, y, M2⟩ ⟨j, hj, rfl, rfl, hR, hO⟩
  dsimp only at hR hO ⊢
  unfold fX4_wellAfterTouches_12_b
  by_cases q : j < a
  · right
    obtain ⟨M3, t1, t2, t3⟩ := c_touchTo hR (sDraw_lt (sZ z (j + 1)) h0)
    obtain ⟨M4, u1, u2, u3⟩ := c_hour t2
    rw [← sSd_s] at u2
    refine ⟨d - 1, (sZ z (j + 1), nI (j + 1), M4), by omega, ⟨j + 1, by omega, rfl, rfl, u2, (hO.tr t3).tr u3⟩, ?_⟩
    rw [if_neg (nI_ge q (by omega)), wlet_eq, ← sZ_s, hR.2.1, c_draw _ _ h0 hn, Option.bind_some, t1, Option.bind_some, u1, Option.bind_some]
    simp only [wpr, wlet_eq, nI_1]
  · left
    have e : j = a := by omega
    subst e
    rw [if_pos (nI_le (Nat.le_refl _) (by omega)), c_many hR]
    exact ⟨M2, rfl, hO⟩
theorem m_seeds (h : wMod M n L st hr) (hok : wLe L n) (h0 : 0 < n) {a : Nat} (ha : a ≤ 50) (z : Int32) : ∃ M', ((fX10_passesAll M 1 1).bind fun M7 => fX10_seeds_44 M7 (nI a) z 0) = some (sMany (sSd L n st hr z a) 0 n, M') ∧ wKm M M' := by
  obtain ⟨M1, s1, s2, s3⟩ := m_begin h
  have hn := h.1
  rw [s1, Option.bind_some]
  unfold fX10_seeds_44
  refine wloop_q (fun d t => ∃ j, j + d = a ∧ t.2.1 = nI j ∧ t.1 = sZ z j ∧ wMod t.2.2 n (sSd L n st hr z j) st (sHr hr j) ∧ wFn M1 t.2.2) (fun o => ∃ M', o = some (sMany (sSd L n st hr z a) 0 n, M') ∧ wKm M M') ?_ wfuel a (z, 0, M1) ⟨0, by omega, rfl, rfl, s3, wFn.rf M1⟩ (wfuel_lt (by omega))
  rintro rec d ⟨x, y, M2⟩ ⟨j, hj, rfl, rfl, hR, hF⟩
  dsimp only at hR hF ⊢
  unfold fX10_seeds_44_b
  by_cases q : j < a
  · right
    obtain ⟨M3, t1, t2, t3⟩ := m_touch (L' := sTo (sSd L n st hr z j) (sDraw (sZ z (j + 1)) n) (st 3)) hR (sDraw_lt (sZ z (j + 1)) h0) (by simp [sTo]) (fun x _ hne => by simp [sTo, hne])
    obtain ⟨M4, u1, u2, u3⟩ := m_hour t2 (wLe_to (wLe_sd hok z j) _ _)
    rw [← sSd_s] at u2
    refine ⟨d - 1, (sZ z (j + 1), nI (j + 1), M4), by omega, ⟨j + 1, by omega, rfl, rfl, u2, (hF.tr t3.n).tr u3.n⟩, ?_⟩
    have z1 : ¬ (65536 : Int32) = 0 := by decide
    rw [if_neg (nI_ge q (by omega)), wlet_eq, ← sZ_s, hR.2.1, wgz_n z1, wgz_n (nI_ne0 h0 (by omega)), draw_eq _ h0 hn, t1, Option.bind_some, u1, Option.bind_some]
    simp only [wpr, wlet_eq, nI_1]
  · left
    have e : j = a := by omega
    subst e
    obtain ⟨M9, y1, y2⟩ := m_end s2 hF
    rw [if_pos (nI_le (Nat.le_refl _) (by omega)), m_many hR, Option.bind_some, y1]
    exact ⟨M9, rfl, y2⟩
end
