/-! ONE HOUR'S WATER: what a lane does, as numbers -/
/-- springs, kinds, and of each house its kind, the loss ahead, the brook ahead (-6: none) -/
abbrev LG : Type := (Nat → Int) × (Nat → Int) × (Nat → Nat) × (Nat → Int) × (Nat → Int)
def gS (G : LG) : Nat → Int := G.1
def gK (G : LG) : Nat → Int := G.2.1
def kdH (G : LG) : Nat → Nat := G.2.2.1
def loH (G : LG) : Nat → Int := G.2.2.2.1
def brH (G : LG) : Nat → Int := G.2.2.2.2
def brB (L : Nat) (b : Int) : Bool := decide (0 ≤ b) && L.testBit b.toNat
def aF (G : LG) (L h : Nat) (F : Int) : Int := if brB L (brH G h) then F + gS G 3 else F
def aQ (G : LG) (L h : Nat) (F Q : Int) : Int := if brB L (brH G h) then pipeQ (gS G 2) (loH G h) F Q + gS G 3 * gS G 4 else pipeQ (gS G 2) (loH G h) F Q
def haB (G : LG) (h : Nat) (F Q : Int) : Bool := harmB (gK G) (kdH G h) F Q
def caB (G : LG) (hour h : Nat) (F Q : Int) : Bool := canB (gS G) (gK G) hour (kdH G h) F Q
def svB (G : LG) (D hour h : Nat) (F Q : Int) : Bool := D.testBit h && !haB G h F Q && caB G hour h F Q
def wtK (G : LG) (h : Nat) : Int := gK G (12 + kdH G h)
/-- water and heat ahead of the pipe of house h -/
def fl (G : LG) (L D hour : Nat) (w : Int) : Nat → Int × Int
  | 0 => (gS G 0, gS G 0 * w)
  | h + 1 => (aF G L h (fl G L D hour w h).1, if svB G D hour h (aF G L h (fl G L D hour w h).1) (aQ G L h (fl G L D hour w h).1 (fl G L D hour w h).2) then aQ G L h (fl G L D hour w h).1 (fl G L D hour w h).2 - wtK G h else aQ G L h (fl G L D hour w h).1 (fl G L D hour w h).2)
/-- as they come to house h -/
def arF (G : LG) (L D hour : Nat) (w : Int) (h : Nat) : Int := aF G L h (fl G L D hour w h).1
def arQ (G : LG) (L D hour : Nat) (w : Int) (h : Nat) : Int := aQ G L h (fl G L D hour w h).1 (fl G L D hour w h).2
def isS (G : LG) (L D hour : Nat) (w : Int) (h : Nat) : Bool := svB G D hour h (arF G L D hour w h) (arQ G L D hour w h)
def isH (G : LG) (L D hour : Nat) (w : Int) (h : Nat) : Bool := haB G h (arF G L D hour w h) (arQ G L D hour w h)
def svN (G : LG) (L D hour : Nat) (w : Int) : Nat → Nat
  | 0 => 0
  | h + 1 => if isS G L D hour w h then svN G L D hour w h + 2 ^ h else svN G L D hour w h
def hmN (G : LG) (L D hour : Nat) (w : Int) : Nat → Nat
  | 0 => 0
  | h + 1 => if isH G L D hour w h then hmN G L D hour w h + 2 ^ h else hmN G L D hour w h
def lsN (G : LG) (L D hour : Nat) (w : Int) : Nat → Int
  | 0 => 0
  | h + 1 => lsN G L D hour w h + ((fl G L D hour w h).2 - pipeQ (gS G 2) (loH G h) (fl G L D hour w h).1 (fl G L D hour w h).2)
def tkN (G : LG) (L D hour : Nat) (w : Int) : Nat → Int
  | 0 => 0
  | h + 1 => if isS G L D hour w h then tkN G L D hour w h + wtK G h else tkN G L D hour w h
theorem fl_succ (G : LG) (L D hour : Nat) (w : Int) (h : Nat) : fl G L D hour w (h + 1) = (arF G L D hour w h, if isS G L D hour w h then arQ G L D hour w h - wtK G h else arQ G L D hour w h) := rfl
theorem svN_f {G : LG} {L D hour : Nat} {w : Int} {h : Nat} (e : isS G L D hour w h = false) : svN G L D hour w (h + 1) = svN G L D hour w h := by
  show (if _ then _ else _) = _
  rw [e]; rfl
theorem svN_t {G : LG} {L D hour : Nat} {w : Int} {h : Nat} (e : isS G L D hour w h = true) : svN G L D hour w (h + 1) = svN G L D hour w h + 2 ^ h := by
  show (if _ then _ else _) = _
  rw [e]; rfl
theorem hmN_f {G : LG} {L D hour : Nat} {w : Int} {h : Nat} (e : isH G L D hour w h = false) : hmN G L D hour w (h + 1) = hmN G L D hour w h := by
  show (if _ then _ else _) = _
  rw [e]; rfl
theorem hmN_t {G : LG} {L D hour : Nat} {w : Int} {h : Nat} (e : isH G L D hour w h = true) : hmN G L D hour w (h + 1) = hmN G L D hour w h + 2 ^ h := by
  show (if _ then _ else _) = _
  rw [e]; rfl
theorem tkN_f {G : LG} {L D hour : Nat} {w : Int} {h : Nat} (e : isS G L D hour w h = false) : tkN G L D hour w (h + 1) = tkN G L D hour w h := by
  show (if _ then _ else _) = _
  rw [e]; rfl
theorem tkN_t {G : LG} {L D hour : Nat} {w : Int} {h : Nat} (e : isS G L D hour w h = true) : tkN G L D hour w (h + 1) = tkN G L D hour w h + wtK G h := by
  show (if _ then _ else _) = _
  rw [e]; rfl
/-- what n houses may be -/
def LR (G : LG) (n b : Nat) : Prop := ∀ h, h < n → kdH G h < 6 ∧ (0 ≤ loH G h ∧ loH G h ≤ 9) ∧ (brH G h = -6 ∨ (0 ≤ brH G h ∧ brH G h < b))
def WBh (h : Nat) (F Q : Int) : Prop := 1 ≤ F ∧ F ≤ 50 + 30 * (h : Int) ∧ 0 ≤ Q ∧ Q ≤ 50000 + 9000 * (h : Int)
theorem WBh.wb {h : Nat} {F Q : Int} (hw : WBh h F Q) (h9 : h ≤ 10) : WB F Q := by
  obtain ⟨h1, h2, h3, h4⟩ := hw
  exact ⟨h1, by omega, h3, by omega⟩
theorem pipe_bd {A l F Q : Int} (hA : 0 ≤ A) (hl : 0 ≤ l) (hF : 0 ≤ F) (hQ : 0 ≤ Q) : 0 ≤ pipeQ A l F Q ∧ pipeQ A l F Q ≤ Q := by
  have b1 := Int.mul_nonneg hA hF
  have b2 := Int.mul_nonneg (show 0 ≤ 10 * l by omega) hF
  unfold pipeQ
  split
  · exact ⟨hQ, Int.le_refl _⟩
  · split
    · exact ⟨b1, by omega⟩
    · exact ⟨by omega, by omega⟩
theorem ar_bd {G : LG} {L h : Nat} {F Q : Int} (hR : Rng (gS G) (gK G)) (hl : 0 ≤ loH G h) (hw : WBh h F Q) : WBh (h + 1) (aF G L h F) (aQ G L h F Q) := by
  obtain ⟨h1, h2, h3, h4⟩ := hw
  obtain ⟨-, -, hA, hb, hc, -⟩ := hR
  have p := pipe_bd (A := gS G 2) (l := loH G h) (F := F) (Q := Q) hA.1 hl (by omega) h3
  have m := mul_bd (a := gS G 3) (b := gS G 4) (by omega) hb.2 hc.1 hc.2
  unfold WBh aF aQ
  split
  · exact ⟨by omega, by omega, by omega, by omega⟩
  · exact ⟨by omega, by omega, by omega, by omega⟩
theorem can_bd {G : LG} {D hour h : Nat} {F Q : Int} (hR : Rng (gS G) (gK G)) (hF : 0 ≤ F) (hk : kdH G h < 6) (hs : svB G D hour h F Q = true) : 0 ≤ Q - wtK G h ∧ 0 ≤ wtK G h ∧ wtK G h ≤ 9999 := by
  have hw := (hR.2.2.2.2.2 (kdH G h) hk).2.2.1
  unfold svB caB canB at hs
  simp only [Bool.and_eq_true, decide_eq_true_eq] at hs
  have b1 := Int.mul_nonneg hR.2.2.1.1 hF
  have := hs.2.2
  unfold wtK
  exact ⟨by omega, hw.1, hw.2⟩
theorem fl_bd {G : LG} {L D hour n b : Nat} {w : Int} (hR : Rng (gS G) (gK G)) (hw : 0 ≤ w ∧ w ≤ 1000) (hl : LR G n b) : ∀ h, h ≤ n → WBh h (fl G L D hour w h).1 (fl G L D hour w h).2
  | 0, _ => by
    have m := mul_bd (a := gS G 0) (b := w) (by have := hR.1; omega) hR.1.2 hw.1 hw.2
    have := hR.1
    exact ⟨by show 1 ≤ gS G 0; omega, by show gS G 0 ≤ _; omega, m.1, by show gS G 0 * w ≤ _; omega⟩
  | h + 1, hn => by
    have ih := fl_bd (D := D) (hour := hour) (L := L) hR hw hl h (by omega)
    have hh := hl h (by omega)
    have a := ar_bd (L := L) hR hh.2.1.1 ih
    rw [fl_succ]
    unfold isS
    by_cases hs : svB G D hour h (arF G L D hour w h) (arQ G L D hour w h) = true
    · rw [if_pos hs]
      have c := can_bd hR (by have := a.1; unfold arF; omega) hh.1 hs
      obtain ⟨a1, a2, a3, a4⟩ := a
      exact ⟨a1, a2, c.1, by have : arQ G L D hour w h ≤ 50000 + 9000 * ((h + 1 : Nat) : Int) := a4; have := c.2.1; show arQ G L D hour w h - wtK G h ≤ _; omega⟩
    · rw [if_neg hs]
      exact a
theorem ars_bd {G : LG} {L D hour n b : Nat} {w : Int} (hR : Rng (gS G) (gK G)) (hw : 0 ≤ w ∧ w ≤ 1000) (hl : LR G n b) {h : Nat} (hn : h < n) : WBh (h + 1) (arF G L D hour w h) (arQ G L D hour w h) :=
  ar_bd hR (hl h hn).2.1.1 (fl_bd hR hw hl h (by omega))
theorem svN_lt (G : LG) (L D hour : Nat) (w : Int) : ∀ h, svN G L D hour w h < 2 ^ h
  | 0 => Nat.one_pos
  | h + 1 => by
    have := svN_lt G L D hour w h
    unfold svN
    split <;> omega
theorem hmN_lt (G : LG) (L D hour : Nat) (w : Int) : ∀ h, hmN G L D hour w h < 2 ^ h
  | 0 => Nat.one_pos
  | h + 1 => by
    have := hmN_lt G L D hour w h
    unfold hmN
    split <;> omega
theorem or_pow {a h : Nat} (ha : a < 2 ^ h) : a ||| 2 ^ h = a + 2 ^ h := by
  have := Nat.two_pow_add_eq_or_of_lt ha 1
  rw [Nat.mul_one] at this
  rw [Nat.or_comm, ← this, Nat.add_comm]
theorem add_pow_bit {a h i : Nat} (ha : a < 2 ^ h) : (a + 2 ^ h).testBit i = (a.testBit i || decide (i = h)) := by
  rw [← or_pow ha, Nat.testBit_or, Nat.testBit_two_pow]
  congr 1
  simp [eq_comm]
theorem svN_bit (G : LG) (L D hour : Nat) (w : Int) : ∀ h i, (svN G L D hour w h).testBit i = (decide (i < h) && isS G L D hour w i)
  | 0, i => by simp [svN]
  | h + 1, i => by
    have ih := svN_bit G L D hour w h i
    unfold svN
    by_cases hi : i = h
    · subst hi
      have hz : (svN G L D hour w i).testBit i = false := by rw [ih]; simp
      cases hs : isS G L D hour w i
      · simp [hz]
      · simp [add_pow_bit (svN_lt G L D hour w i)]
    · have hlt : decide (i < h + 1) = decide (i < h) := by simp; omega
      split
      · rw [add_pow_bit (svN_lt G L D hour w h), ih, hlt]; simp [hi]
      · rw [ih, hlt]
theorem hmN_bit (G : LG) (L D hour : Nat) (w : Int) : ∀ h i, (hmN G L D hour w h).testBit i = (decide (i < h) && isH G L D hour w i)
  | 0, i => by simp [hmN]
  | h + 1, i => by
    have ih := hmN_bit G L D hour w h i
    unfold hmN
    by_cases hi : i = h
    · subst hi
      have hz : (hmN G L D hour w i).testBit i = false := by rw [ih]; simp
      cases hs : isH G L D hour w i
      · simp [hz]
      · simp [add_pow_bit (hmN_lt G L D hour w i)]
    · have hlt : decide (i < h + 1) = decide (i < h) := by simp; omega
      split
      · rw [add_pow_bit (hmN_lt G L D hour w h), ih, hlt]; simp [hi]
      · rw [ih, hlt]
/-- houses that are harmed, or draw and are not served -/
def wrN (G : LG) (L D hour : Nat) (w : Int) (n : Nat) : Nat := hmN G L D hour w n ||| (D ^^^ (D &&& svN G L D hour w n))
theorem nI_not {D a : Nat} : nI D &&& (nI a ^^^ (-1)) = nI (D ^^^ (D &&& a)) := by
  have t : ∀ n, (nI n).toBitVec = BitVec.ofNat 32 n := fun _ => rfl
  have e : (-1 : Int32).toBitVec = BitVec.allOnes 32 := by decide
  rw [← Int32.toBitVec_inj, Int32.toBitVec_and, Int32.toBitVec_xor, t, t, t, e]
  refine BitVec.eq_of_getLsbD_eq fun i hi => ?_
  rw [BitVec.getLsbD_and, BitVec.getLsbD_xor, BitVec.getLsbD_ofNat, BitVec.getLsbD_ofNat, BitVec.getLsbD_ofNat, BitVec.getLsbD_allOnes, Nat.testBit_xor, Nat.testBit_and]
  cases D.testBit i <;> cases a.testBit i <;> simp [hi]
theorem wrN_bit {G : LG} {L D hour : Nat} {w : Int} {n i : Nat} : (wrN G L D hour w n).testBit i = ((decide (i < n) && isH G L D hour w i) || (D.testBit i && !(decide (i < n) && isS G L D hour w i))) := by
  unfold wrN
  rw [Nat.testBit_or, hmN_bit, Nat.testBit_xor, Nat.testBit_and, svN_bit]
  cases D.testBit i <;> simp
