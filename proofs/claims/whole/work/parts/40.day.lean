/-! THE PAD: a day -/
def updN (f : Nat → Nat) (i v : Nat) : Nat → Nat := fun h => if h = i then v else f h
/-- hour, brooks, draws, and the rows of the hours ahead -/
abbrev DyS : Type := Nat × Nat × Nat × (Nat → Nat) × (Nat → Nat)
def dySt (b n : Nat) (a : DyS) (s : Nat) : Option DyS :=
  if s = 47 ∧ a.1 < 5 then some (a.1 + 1, 0, 0, updN a.2.2.2.1 a.1 a.2.1, updN a.2.2.2.2 a.1 a.2.2.1) else
  if 49 ≤ s ∧ s - 49 < b ∧ a.2.1.testBit (s - 49) = false then some (a.1, a.2.1 ||| 2 ^ (s - 49), a.2.2.1, a.2.2.2) else
  if 65 ≤ s ∧ s - 65 < n ∧ a.2.2.1.testBit (s - 65) = false then some (a.1, a.2.1, a.2.2.1 ||| 2 ^ (s - 65), a.2.2.2) else none
def runD (b n : Nat) (p : Nat → Nat) : Nat → Nat → DyS → Int × (Nat → Nat) × (Nat → Nat)
  | 0, i, a => (if a.1 < 5 then (i : Int) else -6, updN a.2.2.2.1 a.1 a.2.1, updN a.2.2.2.2 a.1 a.2.2.1)
  | m + 1, i, a => match dySt b n a (p i) with | none => ((i : Int), a.2.2.2) | some a' => runD b n p m (i + 1) a'
theorem runD_n {b n : Nat} {p : Nat → Nat} {m i : Nat} {a : DyS} (h : dySt b n a (p i) = none) : runD b n p (m + 1) i a = ((i : Int), a.2.2.2) := by rw [runD, h]
theorem runD_s {b n : Nat} {p : Nat → Nat} {m i : Nat} {a a' : DyS} (h : dySt b n a (p i) = some a') : runD b n p (m + 1) i a = runD b n p m (i + 1) a' := by rw [runD, h]
def DyOk (b n : Nat) (a : DyS) : Prop := a.1 ≤ 5 ∧ a.2.1 < 2 ^ b ∧ a.2.2.1 < 2 ^ n ∧ ∀ h, h < a.1 → a.2.2.2.1 h < 2 ^ b ∧ a.2.2.2.2 h < 2 ^ n
theorem dySt_ok {b n : Nat} {a a' : DyS} {s : Nat} (h : DyOk b n a) (e : dySt b n a s = some a') : DyOk b n a' := by
  obtain ⟨hr, B, D, rB, rD⟩ := a
  obtain ⟨h1, h2, h3, h4⟩ := h
  dsimp only at h1 h2 h3 h4
  unfold dySt at e
  dsimp only at e
  split at e
  · next c =>
    cases e
    refine ⟨by dsimp only; omega, Nat.pow_pos (by decide), Nat.pow_pos (by decide), fun h hh => ?_⟩
    dsimp only [updN] at hh ⊢
    by_cases q : h = hr
    · simp only [q, if_true]; exact ⟨h2, h3⟩
    · simp only [q, if_false]; exact h4 h (by omega)
  · split at e
    · next c =>
      cases e
      exact ⟨h1, Nat.or_lt_two_pow h2 (Nat.pow_lt_pow_right (by decide) c.2.1), h3, h4⟩
    · split at e
      · next c =>
        cases e
        exact ⟨h1, h2, Nat.or_lt_two_pow h3 (Nat.pow_lt_pow_right (by decide) c.2.1), h4⟩
      · cases e
def aD0 : DyS := (0, 0, 0, fun _ => 0, fun _ => 0)
theorem aD0_ok {b n : Nat} : DyOk b n aD0 := ⟨Nat.zero_le _, Nat.pow_pos (by decide), Nat.pow_pos (by decide), fun h hh => absurd hh (Nat.not_lt_zero h)⟩
theorem sub_zi {s t : Nat} : nI s - nI t = zi ((s : Int) - t) := by rw [nI_zi, nI_zi, zi_sub]
theorem zi_nat {s t : Nat} (h : t ≤ s) : zi ((s : Int) - t) = nI (s - t) := by rw [nI_zi]; congr 1; omega
theorem sp_keepHour {d : Nat} {k : mQ} {M : mM} {h B D : Nat} (hh : h < 6) (hk : k none (up (up M 21 h (nI B)) 22 h (nI D))) : wpD mB mNL (d + 2) zX4_keepHour [mR 4 0 15, mI (nI h), mI (nI B), mI (nI D)] M k :=
  v_X4_keepHour_0 _ _ _ (sp_setCell (by omega) (by decide) (sp_setCell (by omega) (by decide) hk))
theorem keep_rows {M : mM} {hr B D : Nat} {rB rD : Nat → Nat} (h : ∀ q, q < hr → M 21 q = nI (rB q) ∧ M 22 q = nI (rD q)) : ∀ q, q < hr + 1 → (up (up M 21 hr (nI B)) 22 hr (nI D)) 21 q = nI (updN rB hr B q) ∧ (up (up M 21 hr (nI B)) 22 hr (nI D)) 22 q = nI (updN rD hr D q) := fun q hq => by
  unfold updN
  by_cases e : q = hr
  · subst e
    simp only [if_true]
    exact ⟨by rw [up_k (by decide), up_at], up_at _ _ _ _⟩
  · simp only [e, if_false]
    have := h q (by omega)
    exact ⟨by rw [up_k (by decide), up_j e]; exact this.1, by rw [up_j e, up_k (by decide)]; exact this.2⟩
set_option maxHeartbeats 2000000 in
theorem sp_readDay {d : Nat} {k : mQ} {M : mM} {b n c : Nat} {p : Nat → Nat} (hb : b ≤ 4) (hn : n ≤ 8) (h38 : M 38 0 = nI n) (h381 : M 38 1 = nI b) (hc : c ≤ 48) (h15 : M 15 0 = nI c) (h20 : ∀ j, j < c → (33 ≤ p j ∧ p j ≤ 126) ∧ M 20 j = nI (p j))
    (h : ∀ M', (∀ k j, k < 21 ∨ 22 < k → M' k j = M k j) → ((runD b n p c 0 aD0).1 = -6 → ∀ q, q < 6 → M' 21 q = nI ((runD b n p c 0 aD0).2.1 q) ∧ M' 22 q = nI ((runD b n p c 0 aD0).2.2 q)) → k (mI (zi (runD b n p c 0 aD0).1)) M') : wpD mB mNL (d + 3) zX4_readDay [mR 4 0 15, mR 2 0 38] M k := by
  have p1 : 2 ^ b ≤ 2 ^ 4 := Nat.pow_le_pow_right (by decide) hb
  have p2 : 2 ^ n ≤ 2 ^ 8 := Nat.pow_le_pow_right (by decide) hn
  have key : ∀ r i (a : DyS) M1 u6 u7 u8, i + r = c → (∀ k j, k < 21 ∨ 22 < k → M1 k j = M k j) → (∀ q, q < a.1 → M1 21 q = nI (a.2.2.2.1 q) ∧ M1 22 q = nI (a.2.2.2.2 q)) → DyOk b n a →
      (∀ M', (∀ k j, k < 21 ∨ 22 < k → M' k j = M k j) → ((runD b n p r i a).1 = -6 → ∀ q, q < 6 → M' 21 q = nI ((runD b n p r i a).2.1 q) ∧ M' 22 q = nI ((runD b n p r i a).2.2 q)) → k (mI (zi (runD b n p r i a).1)) M') →
      jJ kB_X4_readDay (d + 2) k 1 [mR 4 0 15, mR 2 0 38, mI (nI a.1), mI (nI a.2.1), mI (nI a.2.2.1), mI (nI i), u6, u7, u8] [] M1 := by
    intro r
    induction r with
    | zero =>
      rintro i ⟨hr, B, D, rB, rD⟩ M1 u6 u7 u8 hi f rows ok hK
      have hic : i = c := by omega
      subst hic
      obtain ⟨q1, q2, q3, q4⟩ := ok
      dsimp only at rows q1 q2 q3 q4 ⊢
      have e15 : M1 15 0 = nI i := by rw [f 15 0 (by decide)]; exact h15
      refine v_X4_readDay_1 _ _ _ _ _ _ _ _ ?_
      rw [e15]
      refine ifle (by omega) (by omega) (fun _ => sp_keepHour (by omega) ?_) (fun q => by omega)
      have e2 : (up (up M1 21 hr (nI B)) 22 hr (nI D)) 15 0 = nI i := by rw [up_k (by decide), up_k (by decide)]; exact e15
      have f2 : ∀ k j, k < 21 ∨ 22 < k → (up (up M1 21 hr (nI B)) 22 hr (nI D)) k j = M k j := fun k j q => by rw [up_k (by omega), up_k (by omega)]; exact f k j q
      have fin := hK _ f2
      rw [runD] at fin
      dsimp only at fin
      have fin := fin (fun x q hq => by
        have : hr = 5 := by
          by_cases y : hr < 5
          · rw [if_pos y] at x; omega
          · omega
        exact keep_rows rows q (by omega))
      refine ifle (a := 5) (b := hr) (by decide) (by omega) (fun x => ?_) (fun x => ?_)
      · rw [if_neg (by omega)] at fin
        exact fin
      · rw [if_pos x, zi_nI] at fin
        rw [e2]
        exact fin
    | succ r ih =>
      rintro i ⟨hr, B, D, rB, rD⟩ M1 u6 u7 u8 hi f rows ok hK
      obtain ⟨q1, q2, q3, q4⟩ := id ok
      obtain ⟨s1, s2⟩ := h20 i (by omega)
      dsimp only at rows q1 q2 q3 q4 ⊢
      have e15 : M1 15 0 = nI c := by rw [f 15 0 (by decide)]; exact h15
      have e20 : M1 20 i = nI (p i) := by rw [f 20 i (by decide)]; exact s2
      have e38 : M1 38 0 = nI n := by rw [f 38 0 (by decide)]; exact h38
      have e381 : M1 38 1 = nI b := by rw [f 38 1 (by decide)]; exact h381
      have st : dySt b n (hr, B, D, rB, rD) (p i) = if p i = 47 ∧ hr < 5 then some (hr + 1, 0, 0, updN rB hr B, updN rD hr D) else if 49 ≤ p i ∧ p i - 49 < b ∧ B.testBit (p i - 49) = false then some (hr, B ||| 2 ^ (p i - 49), D, rB, rD) else if 65 ≤ p i ∧ p i - 65 < n ∧ D.testBit (p i - 65) = false then some (hr, B, D ||| 2 ^ (p i - 65), rB, rD) else none := rfl
      have none' : dySt b n (hr, B, D, rB, rD) (p i) = none → k (mI (nI i)) M1 := fun e => by
        have := hK M1 f
        rw [runD_n e] at this
        have := this (fun q => by
          have : (i : Int) = -6 := q
          omega)
        rw [zi_nI] at this
        exact this
      have some' : ∀ a', dySt b n (hr, B, D, rB, rD) (p i) = some a' → ∀ M2 u6 u7 u8, (∀ k j, k < 21 ∨ 22 < k → M2 k j = M k j) → (∀ q, q < a'.1 → M2 21 q = nI (a'.2.2.2.1 q) ∧ M2 22 q = nI (a'.2.2.2.2 q)) → jJ kB_X4_readDay (d + 2) k 1 [mR 4 0 15, mR 2 0 38, mI (nI a'.1), mI (nI a'.2.1), mI (nI a'.2.2.1), mI (nI (i + 1)), u6, u7, u8] [] M2 := fun a' e M2 u6 u7 u8 f2 rows2 => by
        refine ih (i + 1) a' M2 u6 u7 u8 (by omega) f2 rows2 (dySt_ok ok e) ?_
        rw [← runD_s e]
        exact hK
      have e49 : nI (p i) - 49 = zi ((p i : Int) - 49) := sub_zi (t := 49)
      have e65 : nI (p i) - 65 = zi ((p i : Int) - 65) := sub_zi (t := 65)
      have three : ¬ (p i = 47 ∧ hr < 5) → ¬ (49 ≤ p i ∧ p i - 49 < b ∧ B.testBit (p i - 49) = false) → jJ kB_X4_readDay (d + 2) k 3 [mR 4 0 15, mR 2 0 38, mI (nI hr), mI (nI B), mI (nI D), mI (nI i), mI (nI (p i)), mI (zi ((p i : Int) - 49)), mI (zi ((p i : Int) - 65))] [] M1 := fun n1 n2 => by
        rw [if_neg n1, if_neg n2] at st
        refine v_X4_readDay_3 _ _ _ _ _ _ _ _ ?_
        rw [e38, nI_zi n, show (0 : Int32) = zi 0 from rfl, zi_lt (by omega) (by omega) (by decide) (by decide), zi_le (by omega) (by omega) (by omega) (by omega)]
        refine ⟨fun x => none' (by rw [st, if_neg (by omega)]), fun x => ⟨fun y => none' (by rw [st, if_neg (by omega)]), fun y => ?_⟩⟩
        have z : zi ((p i : Int) - 65) = nI (p i - 65) := zi_nat (t := 65) (by omega)
        rw [z]
        refine sp_hasBit (by omega) (by omega) (ifb' (fun w => none' (by rw [st, if_neg (fun v => by rw [w] at v; cases v.2.2)])) (fun w => ?_))
        rw [if_pos ⟨by omega, by omega, w⟩] at st
        rw [sh_small (by omega), nI_or, nI_1]
        exact some' _ st M1 _ _ _ f rows
      have two : ¬ (p i = 47 ∧ hr < 5) → jJ kB_X4_readDay (d + 2) k 2 [mR 4 0 15, mR 2 0 38, mI (nI hr), mI (nI B), mI (nI D), mI (nI i), mI (nI (p i)), mI (zi ((p i : Int) - 49)), mI (zi ((p i : Int) - 65))] [] M1 := fun n1 => by
        refine v_X4_readDay_2 _ _ _ _ _ _ _ _ ?_
        rw [e381, nI_zi b, show (0 : Int32) = zi 0 from rfl, zi_lt (by omega) (by omega) (by decide) (by decide), zi_le (by omega) (by omega) (by omega) (by omega)]
        refine ⟨fun x => three n1 (by omega), fun x => ⟨fun y => three n1 (by omega), fun y => ?_⟩⟩
        have z : zi ((p i : Int) - 49) = nI (p i - 49) := zi_nat (t := 49) (by omega)
        have h3 := three n1
        rw [z] at h3 ⊢
        refine sp_hasBit (by omega) (by omega) (ifb' (fun w => h3 (fun v => by rw [w] at v; cases v.2.2)) (fun w => ?_))
        rw [if_neg n1, if_pos ⟨by omega, by omega, w⟩] at st
        rw [sh_small (by omega), nI_or, nI_1]
        exact some' _ st M1 _ _ _ f rows
      refine v_X4_readDay_1 _ _ _ _ _ _ _ _ ?_
      rw [e15]
      refine ifle (by omega) (by omega) (fun q => by omega) (fun _ => sp_cell (by omega) (by decide) ?_)
      rw [e20]
      show (_ ∧ _)
      rw [show (47 : Int32) = nI 47 from rfl, nI_eq (by omega) (by decide), e49, e65]
      refine ⟨fun x => two (fun y => x y.1), fun x => ifle (a := 5) (b := hr) (by decide) (by omega) (fun y => two (fun z => by omega)) (fun y => sp_keepHour (by omega) ?_)⟩
      rw [if_pos ⟨x, y⟩] at st
      rw [nI_1, nI_1]
      exact some' _ st _ _ _ _ (fun k j q => by rw [up_k (by omega), up_k (by omega)]; exact f k j q) (keep_rows rows)
  exact v_X4_readDay_0 _ (key c 0 aD0 M none none none (by omega) (fun _ _ _ => rfl) (fun q hq => absurd hq (Nat.not_lt_zero q)) aD0_ok h)

/-! the model's day -/
theorem bt16 {B D i : Nat} (hB : B < 16) : (B + 16 * D).testBit i = if i < 4 then B.testBit i else D.testBit (i - 4) := by
  rw [Nat.add_comm]
  exact Nat.testBit_two_pow_mul_add D (show B < 2 ^ 4 from hB) i
theorem or16b {B D j : Nat} (hB : B < 16) (hj : j < 4) : (B + 16 * D) ||| 2 ^ j = (B ||| 2 ^ j) + 16 * D := by
  have h2 : B ||| 2 ^ j < 16 := Nat.or_lt_two_pow (n := 4) hB (Nat.pow_lt_pow_right (by decide) hj)
  refine Nat.eq_of_testBit_eq fun i => ?_
  rw [Nat.testBit_or, bt16 hB, bt16 h2, Nat.testBit_or, Nat.testBit_two_pow]
  by_cases e : i < 4
  · simp only [e, if_true]
  · simp only [e, if_false]
    have : ¬ j = i := by omega
    simp [this]
theorem or16d {B D j : Nat} (hB : B < 16) : (B + 16 * D) ||| 2 ^ (4 + j) = B + 16 * (D ||| 2 ^ j) := by
  refine Nat.eq_of_testBit_eq fun i => ?_
  rw [Nat.testBit_or, bt16 hB, bt16 hB, Nat.testBit_or, Nat.testBit_two_pow, Nat.testBit_two_pow]
  by_cases e : i < 4
  · simp only [e, if_true]
    have : ¬ 4 + j = i := by omega
    simp [this]
  · simp only [e, if_false]
    have : (4 + j = i) ↔ (j = i - 4) := by omega
    simp [this]
set_option maxHeartbeats 2000000 in
theorem sp_dayFault {d : Nat} {k : mQ} {M : mM} {b n c : Nat} {p : Nat → Nat} (hb : b ≤ 4) (hn : 1 ≤ n ∧ n ≤ 8) (h04 : M 0 4 = nI n) (h06 : M 0 6 = nI b) (hc : c ≤ 48) (h02 : M 0 2 = nI c) (h3 : ∀ j, j < c → (33 ≤ p j ∧ p j ≤ 126) ∧ M 3 j = nI (p j))
    (h : k (mI (zi (runD b n p c 0 aD0).1)) M) : wpD mB mNL (d + 2) zX8_dayFault [mR 8 0 0] M k := by
  have p1 : 2 ^ b ≤ 2 ^ 4 := Nat.pow_le_pow_right (by decide) hb
  have p2 : 2 ^ n ≤ 2 ^ 8 := Nat.pow_le_pow_right (by decide) hn.2
  have key : ∀ r i (a : DyS) u4 u5 u6 u7, i + r = c → DyOk b n a → k (mI (zi (runD b n p r i a).1)) M →
      jJ kB_X8_dayFault (d + 1) k 1 [mR 8 0 0, mI (nI (a.1 + 1)), mI (nI (a.2.1 + 16 * a.2.2.1)), mI (nI i), u4, u5, u6, u7] [] M := by
    intro r
    induction r with
    | zero =>
      rintro i ⟨hr, B, D, rB, rD⟩ u4 u5 u6 u7 hi ok hK
      have hic : i = c := by omega
      subst hic
      obtain ⟨q1, q2, q3, q4⟩ := ok
      dsimp only at q1 q2 q3 q4 ⊢
      rw [runD] at hK
      dsimp only at hK
      refine v_X8_dayFault_1 _ _ _ _ _ _ _ ?_
      rw [h02, show (6 : Int32) = nI 6 from rfl, nI_eq (by omega) (by decide)]
      refine ifle (by omega) (by omega) (fun _ => ⟨fun x => ?_, fun x => ?_⟩) (fun q => by omega)
      · rw [if_pos (by omega), zi_nI] at hK
        exact hK
      · rw [if_neg (by omega)] at hK
        exact hK
    | succ r ih =>
      rintro i ⟨hr, B, D, rB, rD⟩ u4 u5 u6 u7 hi ok hK
      obtain ⟨q1, q2, q3, q4⟩ := id ok
      obtain ⟨s1, s2⟩ := h3 i (by omega)
      dsimp only at q1 q2 q3 q4 ⊢
      have hB : B < 16 := by omega
      have st : dySt b n (hr, B, D, rB, rD) (p i) = if p i = 47 ∧ hr < 5 then some (hr + 1, 0, 0, updN rB hr B, updN rD hr D) else if 49 ≤ p i ∧ p i - 49 < b ∧ B.testBit (p i - 49) = false then some (hr, B ||| 2 ^ (p i - 49), D, rB, rD) else if 65 ≤ p i ∧ p i - 65 < n ∧ D.testBit (p i - 65) = false then some (hr, B, D ||| 2 ^ (p i - 65), rB, rD) else none := rfl
      have none' : dySt b n (hr, B, D, rB, rD) (p i) = none → k (mI (nI i)) M := fun e => by
        rw [runD_n e, zi_nI] at hK
        exact hK
      have some' : ∀ a', dySt b n (hr, B, D, rB, rD) (p i) = some a' → ∀ u4 u5 u6 u7, jJ kB_X8_dayFault (d + 1) k 1 [mR 8 0 0, mI (nI (a'.1 + 1)), mI (nI (a'.2.1 + 16 * a'.2.2.1)), mI (nI (i + 1)), u4, u5, u6, u7] [] M := fun a' e u4 u5 u6 u7 => by
        refine ih (i + 1) a' u4 u5 u6 u7 (by omega) (dySt_ok ok e) ?_
        rw [← runD_s e]
        exact hK
      have e49 : nI (p i) - 49 = zi ((p i : Int) - 49) := sub_zi (t := 49)
      have e65 : nI (p i) - 65 = zi ((p i : Int) - 65) := sub_zi (t := 65)
      have t49 : (zi ((p i : Int) - 49)).toInt = (p i : Int) - 49 := zi_toInt (by omega) (by omega)
      have t65 : (zi ((p i : Int) - 65)).toInt = (p i : Int) - 65 := zi_toInt (by omega) (by omega)
      have six : ∀ (j : Nat) v5 v6 u7, j < 12 → ((B + 16 * D).testBit j = true → k (mI (nI i)) M) → ((B + 16 * D).testBit j = false → ∀ w, jJ kB_X8_dayFault (d + 1) k 1 [mR 8 0 0, mI (nI (hr + 1)), mI (nI ((B + 16 * D) ||| 2 ^ j)), mI (nI (i + 1)), mI (nI (p i)), mI v5, mI v6, mI w] [] M) →
          jJ kB_X8_dayFault (d + 1) k 6 [mR 8 0 0, mI (nI (hr + 1)), mI (nI (B + 16 * D)), mI (nI i), mI (nI (p i)), mI v5, mI v6, u7] [mI (nI j)] M := fun j v5 v6 u7 hj y1 y2 => by
        refine v_X8_dayFault_6 _ _ _ _ _ _ _ _ ⟨fun x => absurd x (nI_pos (by omega)), fun _ => sp_has (by omega) (by omega) (ifb (fun w => ?_) (fun w => y1 w))⟩
        rw [sh_small (by omega), nI_or, nI_1]
        exact y2 w _
      have six' : dySt b n (hr, B, D, rB, rD) (p i) = none → ∀ v5 v6 u7, jJ kB_X8_dayFault (d + 1) k 6 [mR 8 0 0, mI (nI (hr + 1)), mI (nI (B + 16 * D)), mI (nI i), mI (nI (p i)), mI v5, mI v6, u7] [mI (-6)] M := fun e v5 v6 u7 =>
        v_X8_dayFault_6 _ _ _ _ _ _ _ _ ⟨fun _ => none' e, fun x => absurd (by decide) x⟩
      have tb : (nI b - 1).toInt = (b : Int) - 1 := by rw [nI_zi, show (1 : Int32) = zi 1 from rfl, zi_sub, zi_toInt (by omega) (by omega)]
      have tn' : (nI n - 1).toInt = (n : Int) - 1 := by rw [nI_zi, show (1 : Int32) = zi 1 from rfl, zi_sub, zi_toInt (by omega) (by omega)]
      refine v_X8_dayFault_1 _ _ _ _ _ _ _ ?_
      rw [h02]
      refine ifle (by omega) (by omega) (fun q => by omega) (fun _ => ⟨vp_in_nI (by omega) (by decide), ?_⟩)
      rw [nI_clamp (by omega), s2, show (47 : Int32) = nI 47 from rfl, nI_eq (by omega) (by decide), h06, e49, e65, show (6 : Int32) = nI 6 from rfl, nI_eq (by omega) (by decide)]
      refine ⟨fun x => ?_, fun x => ⟨fun y => ?_, fun y => none' ?_⟩⟩
      · rw [if_neg (fun v => x v.1)] at st
        refine sp_inC (fun e => ⟨fun _ => ?_, fun v => absurd rfl v⟩) (fun e => ⟨fun v => absurd v (by decide), fun _ => ?_⟩) <;> rw [li0, t49, tb] at e
        · rw [if_neg (by omega)] at st
          refine sp_inC (fun e2 => ⟨fun _ => six' ?_ _ _ _, fun v => absurd rfl v⟩) (fun e2 => ⟨fun v => absurd v (by decide), fun _ => ?_⟩) <;> rw [li0, t65, h04, tn'] at e2
          · rw [st, if_neg (by omega)]
          · have z : zi ((p i : Int) - 65) = nI (p i - 65) := zi_nat (t := 65) (by omega)
            have e4 : (4 : Int32) + nI (p i - 65) = nI (4 + (p i - 65)) := by rw [show (4 : Int32) = nI 4 from rfl, nI_add]
            rw [z, e4]
            have tb2 : (B + 16 * D).testBit (4 + (p i - 65)) = D.testBit (p i - 65) := by rw [bt16 hB, if_neg (by omega)]; congr 1; omega
            refine six _ _ _ _ (by omega) (fun w => none' ?_) (fun w u => ?_) <;> rw [tb2] at w
            · rw [st, if_neg (fun v => by rw [w] at v; cases v.2.2)]
            · rw [if_pos ⟨by omega, by omega, w⟩] at st
              rw [or16d hB]
              exact some' _ st _ _ _ _
        · have z : zi ((p i : Int) - 49) = nI (p i - 49) := zi_nat (t := 49) (by omega)
          rw [z]
          have tb2 : (B + 16 * D).testBit (p i - 49) = B.testBit (p i - 49) := by rw [bt16 hB, if_pos (by omega)]
          refine six _ _ _ _ (by omega) (fun w => none' ?_) (fun w u => ?_) <;> rw [tb2] at w
          · rw [st, if_neg (fun v => by rw [w] at v; cases v.2.2), if_neg (by omega)]
          · rw [if_pos ⟨by omega, by omega, w⟩] at st
            rw [or16b hB (by omega)]
            exact some' _ st _ _ _ _
      · rw [if_pos ⟨x, by omega⟩] at st
        have := some' _ st (mI (nI (p i))) u5 u6 u7
        rw [nI_1, nI_1]
        exact this
      · rw [st, if_neg (by omega), if_neg (by omega), if_neg (by omega)]
  exact v_X8_dayFault_0 (key c 0 aD0 none none none none (by omega) aD0_ok h)
