/-! part 10: pure facts: loops, memory, numbers; the words for a row of lamps -/
theorem wloop_q {S β : Type} {b : (S → Option β) → S → Option β} (I : Nat → S → Prop) (Q : Option β → Prop) (h : ∀ (rec : S → Option β) (d : Nat) (s : S), I d s → Q (b rec s) ∨ ∃ d' s', d' < d ∧ I d' s' ∧ b rec s = rec s') : ∀ (fuel d : Nat) (s : S), I d s → d < fuel → Q (wloop b fuel s) := by
  intro fuel
  induction fuel with
  | zero => intro d s _ hd; omega
  | succ n ih =>
    intro d s hI hd
    show Q (b (wloop b n) s)
    rcases h (wloop b n) d s hI with h1 | ⟨d', s', h1, h2, h3⟩
    · exact h1
    · rw [h3]
      exact ih d' s' h2 (by omega)
theorem wfuel_lt {d : Nat} (h : d < 2000) : d < wfuel := by rw [wfuel_is]; exact h
theorem wup_rd (M : wMem) (k j : Nat) (v : Int32) (a b : Nat) : wup M k j v a b = if a = k ∧ b = j then v else M a b := by
  unfold wup upd
  by_cases h : a = k
  · subst h
    by_cases h2 : b = j <;> simp [h2]
  · simp [h]
theorem wup_same (M : wMem) (k j : Nat) (v : Int32) : wup M k j v k j = v := by rw [wup_rd]; simp
theorem wup_cell {M : wMem} {k j a : Nat} {v : Int32} (h : a ≠ k) : wup M k j v a = M a := wup_ne h
theorem wup_slot {M : wMem} {k j a b : Nat} {v : Int32} (h : b ≠ j) : wup M k j v a b = M a b := by rw [wup_rd, if_neg (fun q => h q.2)]
theorem wup_off {M : wMem} {k j a b : Nat} {v : Int32} (h : a ≠ k ∨ b ≠ j) : wup M k j v a b = M a b := by
  rw [wup_rd, if_neg]
  intro q
  rcases h with h | h
  · exact h q.1
  · exact h q.2
theorem wgi_n {β : Type} {j n : Nat} {a : Option β} (h : j < n) (hn : n < 2 ^ 31) : wgi (nI j) n a = a := by
  unfold wgi
  rw [if_pos]
  rw [nI_toInt (by omega)]
  omega
theorem wgz_n {β : Type} {y : Int32} {a : Option β} (h : ¬ y = 0) : wgz y a = a := by unfold wgz; rw [if_neg h]
theorem wb_t : wb true = 1 := rfl
theorem wb_fa : wb false = 0 := rfl
theorem wb_0 (b : Bool) : (wb b = 0) = (b = false) := by cases b <;> simp [wb]
theorem nlit (n : Nat) : (OfNat.ofNat n : Int32) = nI n := rfl
theorem i_le (a b : Int32) : a ≤ b ↔ a.toInt ≤ b.toInt := Int32.le_iff_toInt_le
theorem i_lt (a b : Int32) : a < b ↔ a.toInt < b.toInt := Int32.lt_iff_toInt_lt
theorem i_eq (a b : Int32) : a = b ↔ a.toInt = b.toInt := Int32.toInt_inj.symm
theorem i_rng (x : Int32) : -2147483648 ≤ x.toInt ∧ x.toInt < 2147483648 := ⟨Int32.le_toInt x, Int32.toInt_lt x⟩
theorem i_ix {x : Int32} {n : Nat} (h0 : ¬ x < 0) (h : ¬ nI n ≤ x) (hn : n < 2 ^ 31) : ∃ j : Nat, j < n ∧ x = nI j := by
  rcases pk_ix x hn with q | q | q
  · exact absurd q h0
  · exact absurd q h
  · exact q
/-- the lamp at a cell holds v -/
def wLp (M : wMem) (a : Nat) (v : Nat → Int32) : Prop := ∀ f, f < 5 → M a f = v f
def sDrag (v : Nat → Int32) : Int32 := if v 4 = 2 then 0 else if v 0 = 3 then 15 else if v 0 = 4 then 6 else if v 0 = 5 then 20 else 10
def sBrk (v : Nat → Int32) : Bool := decide (v 4 = 1) || decide (v 4 = 3)
def sBright (v : Nat → Int32) (fl : Int32) : Int32 := if v 4 = 0 then fl * sDrag v / 100 else 0
def sBrg (v : Nat → Int32) : Bool := decide (v 0 = 1) || decide (v 0 = 5)
def sLse (v : Nat → Int32) : Bool := decide (v 0 = 2) || decide (v 0 = 3)
def sLik (v : Nat → Int32) : Int32 := if sBrg v = true then 1 else if sLse v = true then v 3 / 10 + 1 + 3 else v 3 / 10 + 1
def sDie (v : Nat → Int32) (fl : Int32) : Bool := if v 0 = 4 then decide (¬ fl ≤ 5 * v 1) else if v 0 = 5 then decide (¬ v 3 < 20 * v 1) else decide (¬ v 3 < 10 * v 1)
def sDead (v : Nat → Int32) : Int32 := if sBrg v = true then 2 else if v 0 = 3 then 3 else 1
def sHang (v : Nat → Int32) (hr gr : Int32) : Bool := if v 0 = 2 then decide (hr - hr / 10 * 10 = gr) else if v 0 = 3 then decide (hr - hr / 5 * 5 = gr - gr / 5 * 5) else false
def sMin (x : Int32) : Int32 := if x < 9999 then x else 9999
def sSet (v : Nat → Int32) (j : Nat) (x : Int32) : Nat → Int32 := fun f => if f = j then x else v f
def sBurn1 (v : Nat → Int32) (fl : Int32) : Nat → Int32 := sSet v 3 (sMin (v 3 + sBright v fl / 10))
def sBurn (v : Nat → Int32) (fl : Int32) : Nat → Int32 := if sDie (sBurn1 v fl) fl = true then sSet (sBurn1 v fl) 4 (sDead v) else sBurn1 v fl
def sLoosen (v : Nat → Int32) (hr gr : Int32) : Nat → Int32 := if v 4 = 0 ∧ sHang v hr gr = true then sSet v 4 3 else v
def sHourL (v : Nat → Int32) (live : Bool) (fl hr gr : Int32) : Nat → Int32 := if v 4 = 0 then sLoosen (if live = true then sBurn v fl else v) hr gr else v
def sTouch (v : Nat → Int32) (gr : Int32) : Nat → Int32 := if v 4 = 3 then sSet v 4 0 else if v 4 = 0 ∧ sLse v = true ∧ ¬ 3 < gr then sSet v 4 3 else v
def sAnew (v : Nat → Int32) : Nat → Int32 := sSet (sSet v 3 0) 4 0
def sDrags (L : Nat → Nat → Int32) : Nat → Int32
  | 0 => 0
  | n + 1 => sDrags L n + sDrag (L n)
/-- none of i .. i + d less 1 breaks it -/
def sWhole (L : Nat → Nat → Int32) (i : Nat) : Nat → Bool
  | 0 => true
  | d + 1 => !sBrk (L i) && sWhole L (i + 1) d
def sLive (L : Nat → Nat → Int32) (n : Nat) : Bool := sWhole L 0 n && decide (¬ sDrags L n ≤ 0)
def sFlowT (ps d : Int32) : Int32 := if 0 < d then (if 100 * ps / d < 9999 then 100 * ps / d else 9999) else 0
def sFlow (L : Nat → Nat → Int32) (n : Nat) (ps : Int32) : Int32 := if sLive L n = true then sFlowT ps (sDrags L n) else 0
def sHour (L : Nat → Nat → Int32) (n : Nat) (st : Nat → Int32) (hr : Int32) : Nat → Nat → Int32 := fun i => sHourL (L i) (sLive L n) (sFlow L n (st 0)) hr (st 3)
def sGone (L L' : Nat → Nat → Int32) : Nat → Int32
  | 0 => 0
  | n + 1 => sGone L L' n + (if L n 4 = 0 ∧ ¬ L' n 4 = 0 then 1 else 0)
def sMany (L : Nat → Nat → Int32) (c : Int32) : Nat → Int32
  | 0 => 0
  | n + 1 => sMany L c n + (if L n 4 = c then 1 else 0)
def sHurts (L : Nat → Nat → Int32) : Nat → Int32
  | 0 => 0
  | n + 1 => sHurts L n + L n 3
def sBrights (L : Nat → Nat → Int32) (fl : Int32) : Nat → Int32
  | 0 => 0
  | n + 1 => sBrights L fl n + sBright (L n) fl
/-- the weights of i .. i + d less 1, onto x -/
def sWeight (L : Nat → Nat → Int32) (i : Nat) (x : Int32) : Nat → Int32
  | 0 => x
  | d + 1 => sWeight L (i + 1) (x + sLik (L i)) d
def wRow (M : wMem) (k n : Nat) (L : Nat → Nat → Int32) (st : Nat → Int32) (hr : Int32) : Prop := n ≤ 12 ∧ M k 2 = nI n ∧ (∀ i, i < n → wLp M (k + 1 + 2 + i) (L i)) ∧ (∀ j, j < 4 → M (k + 2) j = st j) ∧ M k 3 = hr
def wMod (M : wMem) (n : Nat) (L : Nat → Nat → Int32) (st : Nat → Int32) (hr : Int32) : Prop := n ≤ 12 ∧ M 70 7 = nI n ∧ (∀ i, i < n → ∀ f, f < 5 → M (72 + f) i = L i f) ∧ (∀ j, j < 4 → M 77 j = st j) ∧ M 70 8 = hr
/-- what the numbers of a row are within -/
def wOkL (L : Nat → Nat → Int32) (n : Nat) : Prop := ∀ i, i < n → 0 ≤ (L i 3).toInt ∧ (L i 3).toInt ≤ 9999
def wOkS (st : Nat → Int32) : Prop := (1 ≤ (st 0).toInt ∧ (st 0).toInt ≤ 999) ∧ (0 ≤ (st 1).toInt ∧ (st 1).toInt ≤ 99) ∧ (1 ≤ (st 2).toInt ∧ (st 2).toInt ≤ 999) ∧ (1 ≤ (st 3).toInt ∧ (st 3).toInt ≤ 9)
