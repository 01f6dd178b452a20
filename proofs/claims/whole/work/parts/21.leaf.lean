/-! THE CLASS' LEAVES -/
theorem ifle {a b : Nat} {A B : Prop} (ha : a < 2147483648) (hb : b < 2147483648) (h1 : a ≤ b → A) (h2 : b < a → B) : (nI a ≤ nI b → A) ∧ (¬ nI a ≤ nI b → B) :=
  ⟨fun c => h1 ((nI_leI ha hb).mp c), fun c => h2 (by rw [nI_leI ha hb] at c; omega)⟩
theorem iflt {a b : Nat} {A B : Prop} (ha : a < 2147483648) (hb : b < 2147483648) (h1 : a < b → A) (h2 : b ≤ a → B) : (nI a < nI b → A) ∧ (¬ nI a < nI b → B) :=
  ⟨fun c => h1 ((nI_ltI ha hb).mp c), fun c => h2 (by rw [nI_ltI ha hb] at c; omega)⟩
def bI (b : Bool) : Int32 := if b then 1 else 0
theorem bI_0 {b : Bool} : bI b = 0 ↔ b = false := by cases b <;> simp [bI]
theorem bI_01 (b : Bool) : bI b = 0 ∨ bI b = 1 := by cases b <;> simp [bI]
theorem ifb {b : Bool} {A B : Prop} (h1 : b = false → A) (h2 : b = true → B) : (bI b = 0 → A) ∧ (¬ bI b = 0 → B) :=
  ⟨fun c => h1 (bI_0.mp c), fun c => h2 (by cases b; exact absurd rfl c; rfl)⟩
theorem ifb' {b : Bool} {A B : Prop} (h1 : b = true → A) (h2 : b = false → B) : (¬ bI b = 0 → A) ∧ (bI b = 0 → B) :=
  ⟨fun c => h1 (by cases b; exact absurd rfl c; rfl), fun c => h2 (bI_0.mp c)⟩
theorem wpD_at {d z : Nat} {as as' : List mV} {M : mM} {k : mQ} (e : as = as') (h : wpD mB mNL d z as' M k) : wpD mB mNL d z as M k := e ▸ h
theorem sp_cell {d : Nat} {k : mQ} {M : mM} {L r i : Nat} (hi : i < L) (hL : L < 2147483648) (h : k (mI (M r i)) M) : wpD mB mNL (d + 1) zX7_cell [mR 50 L r, mI (nI i)] M k := by
  refine v_X7_cell_0 _ _ _ ⟨fun c => absurd c (nI_pos (by omega)), fun _ => ifle (a := L) (b := i) (by omega) (by omega) (fun c => by omega) (fun c => ⟨vp_in_nI hi (by omega), ?_⟩)⟩
  rw [nI_clamp (by omega)]
  exact h
theorem sp_cell_ro {d : Nat} {k : mQ} {M : mM} {L r i : Nat} (hi : i < L) (hL : L < 2147483648) (h : k (mI (M (1000 + r) i)) M) : wpD mB mNL (d + 1) zX7_cell [mR 51 L r, mI (nI i)] M k := by
  refine v_X7_cell_ro_0 _ _ _ ⟨fun c => absurd c (nI_pos (by omega)), fun _ => ifle (a := L) (b := i) (by omega) (by omega) (fun c => by omega) (fun c => ⟨vp_in_nI hi (by omega), ?_⟩)⟩
  rw [nI_clamp (by omega)]
  exact h
theorem sp_setCell {d : Nat} {k : mQ} {M : mM} {L r i : Nat} {v : Int32} (hi : i < L) (hL : L < 2147483648) (h : k none (up M r i v)) : wpD mB mNL (d + 1) zX7_setCell [mR 50 L r, mI (nI i), mI v] M k := by
  refine v_X7_setCell_0 _ _ _ _ ⟨fun c => absurd c (nI_pos (by omega)), fun _ => ifle (a := L) (b := i) (by omega) (by omega) (fun c => by omega) (fun c => ⟨vp_in_nI hi (by omega), ?_⟩)⟩
  rw [nI_clamp (by omega)]
  exact h
theorem sp_exchange {d : Nat} {k : mQ} {M : mM} {L r i : Nat} {v : Int32} (hi : i < L) (hL : L < 2147483648) (h : k (mI (M r i)) (up M r i v)) : wpD mB mNL (d + 2) zX7_exchange [mR 50 L r, mI (nI i), mI v] M k :=
  v_X7_exchange_0 _ _ _ _ (sp_cell hi hL (sp_setCell hi hL h))
/-- a row over another -/
def cpy (M : mM) (r0 r1 L : Nat) : mM := fun k j => if k = r1 ∧ j < L then M r0 j else M k j
theorem cpy_0 (M : mM) (r0 r1 : Nat) : cpy M r0 r1 0 = M := by
  funext k j
  simp [cpy]
theorem cpy_succ {M : mM} {r0 r1 i : Nat} (h : r0 ≠ r1) : up (cpy M r0 r1 i) r1 i (cpy M r0 r1 i r0 i) = cpy M r0 r1 (i + 1) := by
  funext k j
  simp only [cpy, up]
  by_cases hk : k = r1
  · subst hk
    by_cases hj : j = i
    · subst hj
      simp [h]
    · by_cases h2 : j < i
      · simp [hj, h2, show j < i + 1 by omega]
      · simp [hj, h2, show ¬ j < i + 1 by omega]
  · simp [hk]
theorem sp_copyRow {d : Nat} {k : mQ} {M : mM} {L r0 r1 : Nat} (hr : r0 ≠ r1) (hL : L < 2147483648) (h : k none (cpy M r0 r1 L)) : wpD mB mNL (d + 1) zX7_copyRow [mR 50 L r0, mR 50 L r1] M k := by
  refine v_X7_copyRow_0 _ _ _ _ ?_
  have key : ∀ m i, i + m = L → jJ kB_X7_copyRow d k 1 [mR 50 L r0, mR 50 L r1, mI (nI i)] [] (cpy M r0 r1 i) := by
    intro m
    induction m with
    | zero =>
      intro i hi
      refine v_X7_copyRow_1 _ _ _ _ _ (ifle (a := L) (b := i) (by omega) (by omega) (fun _ => ?_) (fun c => by omega))
      rw [show i = L by omega]
      exact h
    | succ m ih =>
      intro i hi
      refine v_X7_copyRow_1 _ _ _ _ _ (ifle (a := L) (b := i) (by omega) (by omega) (fun c => by omega) (fun _ => ifle (a := L) (b := i) (by omega) (by omega) (fun c => by omega) (fun _ => ⟨vp_in_nI (by omega) (by omega), vp_in_nI (by omega) (by omega), ?_⟩)))
      rw [nI_clamp (by omega), cpy_succ hr, nI_1]
      exact ih (i + 1) (by omega)
  have := key L 0 (by omega)
  rw [cpy_0] at this
  exact this
theorem sp_hasBit {d : Nat} {k : mQ} {M : mM} {a b : Nat} (ha : a < 2147483648) (hb : b < 32) (h : k (mI (bI (a.testBit b))) M) : wpD mB mNL (d + 1) zX7_hasBit [mI (nI a), mI (nI b)] M k := by
  refine v_X7_hasBit_0 _ _ ⟨fun c => absurd c (nI_pos (by omega)), fun _ => ifle (a := 32) (b := b) (by omega) (by omega) (fun c => by omega) (fun _ => ?_)⟩
  rw [nI_bit ha hb]
  cases hB : a.testBit b
  · rw [hB] at h
    exact ⟨fun _ => h, fun c => absurd rfl c⟩
  · rw [hB] at h
    exact ⟨fun c => absurd c (by decide), fun _ => h⟩
theorem sp_hasBit_neg {d : Nat} {k : mQ} {M : mM} {a b : Int32} (hb : b < 0) (h : k (mI 0) M) : wpD mB mNL (d + 1) zX7_hasBit [mI a, mI b] M k :=
  v_X7_hasBit_0 _ _ ⟨fun _ => h, fun c => absurd hb c⟩
/-! lanes -/
theorem sp_kindOf {d : Nat} {k : mQ} {M : mM} {o i : Nat} (hi : i < 8) (h : k (mI (M (o + 1) i)) M) : wpD mB mNL (d + 2) zX2_kindOf [mR 2 0 o, mI (nI i)] M k := v_X2_kindOf_0 _ _ (sp_cell hi (by decide) h)
theorem sp_lossAheadOf {d : Nat} {k : mQ} {M : mM} {o i : Nat} (hi : i < 8) (h : k (mI (M (o + 2) i)) M) : wpD mB mNL (d + 2) zX2_lossAheadOf [mR 2 0 o, mI (nI i)] M k := v_X2_lossAheadOf_0 _ _ (sp_cell hi (by decide) h)
theorem sp_brookAheadOf {d : Nat} {k : mQ} {M : mM} {o i : Nat} (hi : i < 8) (h : k (mI (M (o + 3) i)) M) : wpD mB mNL (d + 2) zX2_brookAheadOf [mR 2 0 o, mI (nI i)] M k := v_X2_brookAheadOf_0 _ _ (sp_cell hi (by decide) h)
theorem sp_isFull {d : Nat} {k : mQ} {M : mM} {o n : Nat} (hn : M o 0 = nI n) (h9 : n < 2147483648) (h : k (mI (bI (decide (8 ≤ n)))) M) : wpD mB mNL (d + 1) zX2_isFull [mR 2 0 o] M k := by
  refine v_X2_isFull_0 _ ?_
  rw [hn]
  refine iflt (a := n) (b := 8) (by omega) (by omega) (fun c => ?_) (fun c => ?_)
  · rw [show decide (8 ≤ n) = false by simp; omega] at h
    exact h
  · rw [show decide (8 ≤ n) = true by simp; omega] at h
    exact h
theorem sp_houseSets {d : Nat} {k : mQ} {M : mM} {o n : Nat} (hn : M o 0 = nI n) (h9 : n < 31) (h : k (mI (nI (2 ^ n))) M) : wpD mB mNL (d + 1) zX2_houseSets [mR 2 0 o] M k := by
  refine v_X2_houseSets_0 _ ?_
  rw [hn, sh_small h9]
  exact h
theorem sp_brookSets {d : Nat} {k : mQ} {M : mM} {o n : Nat} (hn : M o 1 = nI n) (h9 : n < 31) (h : k (mI (nI (2 ^ n))) M) : wpD mB mNL (d + 1) zX2_brookSets [mR 2 0 o] M k := by
  refine v_X2_brookSets_0 _ ?_
  rw [hn, sh_small h9]
  exact h
theorem sp_lclear {d : Nat} {k : mQ} {M : mM} {o : Nat} (h : k none (up (up M o 0 0) o 1 0)) : wpD mB mNL (d + 1) zX2_clear [mR 2 0 o] M k := v_X2_clear_0 _ h
/-- a lane over another -/
def cpyL (M : mM) (a o : Nat) : mM := cpy (cpy (cpy (up (up M o 0 (M a 0)) o 1 (M a 1)) (a + 1) (o + 1) 8) (a + 2) (o + 2) 8) (a + 3) (o + 3) 8
theorem sp_copyLane {d : Nat} {k : mQ} {M : mM} {o a : Nat} (h1 : a ≠ o) (h : k none (cpyL M a o)) : wpD mB mNL (d + 2) zX2_copyOf [mR 2 0 o, mR 2 0 a] M k := by
  refine v_X2_copyOf_0 _ _ ?_
  rw [up_k (v := M a 0) (k' := a) h1]
  exact sp_copyRow (by omega) (by decide) (sp_copyRow (by omega) (by decide) (sp_copyRow (by omega) (by decide) h))
def cpyF (M : mM) (a o : Nat) : mM := cpy (cpy (cpy (up M o 0 (M a 0)) (a + 1) (o + 1) 6) (a + 2) (o + 2) 6) (a + 3) (o + 3) 6
theorem sp_copyFelt {d : Nat} {k : mQ} {M : mM} {o a : Nat} (h1 : a ≠ o) (h : k none (cpyF M a o)) : wpD mB mNL (d + 2) zX1_copyOf [mR 1 0 o, mR 1 0 a] M k :=
  v_X1_copyOf_0 _ _ (sp_copyRow (by omega) (by decide) (sp_copyRow (by omega) (by decide) (sp_copyRow (by omega) (by decide) h)))
def cpyV (M : mM) (a o : Nat) : mM := cpyF (cpyL (cpy (cpy M (a + 1) (o + 1) 5) (a + 2) (o + 2) 30) (a + 3) (o + 3)) (a + 7) (o + 7)
theorem sp_copyValley {d : Nat} {k : mQ} {M : mM} {o a : Nat} (h1 : a ≠ o) (h : k none (cpyV M a o)) : wpD mB mNL (d + 3) zX6_copyOf [mR 6 0 o, mR 6 0 a] M k :=
  v_X6_copyOf_0 _ _ (sp_copyRow (by omega) (by decide) (sp_copyRow (by omega) (by decide) (sp_copyLane (by omega) (sp_copyFelt (by omega) h))))
/-! valleys -/
theorem sp_springValue {d : Nat} {k : mQ} {M : mM} {o i : Nat} (hi : i < 5) (h : k (mI (M (o + 1) i)) M) : wpD mB mNL (d + 2) zX6_springValue [mR 6 0 o, mI (nI i)] M k := v_X6_springValue_0 _ _ (sp_cell hi (by decide) h)
theorem sp_kindValue {d : Nat} {k : mQ} {M : mM} {o w c : Nat} (hw : w < 5) (hc : c < 6) (h : k (mI (M (o + 2) (6 * w + c))) M) : wpD mB mNL (d + 2) zX6_kindValue [mR 6 0 o, mI (nI w), mI (nI c)] M k := by
  refine v_X6_kindValue_0 _ _ _ ?_
  rw [show (6 : Int32) = nI 6 from rfl, pk_mul, nI_add, Nat.mul_comm w 6]
  exact sp_cell (by omega) (by decide) h
/-- what springs and kinds may be -/
def Rng (sp kv : Nat → Int) : Prop := (1 ≤ sp 0 ∧ sp 0 ≤ 50) ∧ (0 ≤ sp 1 ∧ sp 1 ≤ 1000) ∧ (0 ≤ sp 2 ∧ sp 2 ≤ 300) ∧ (1 ≤ sp 3 ∧ sp 3 ≤ 30) ∧ (0 ≤ sp 4 ∧ sp 4 ≤ 300) ∧
  ∀ c, c < 6 → (0 ≤ kv c ∧ kv c ≤ 1000) ∧ (0 ≤ kv (6 + c) ∧ kv (6 + c) ≤ 1000) ∧ (0 ≤ kv (12 + c) ∧ kv (12 + c) ≤ 9999) ∧ (0 ≤ kv (18 + c) ∧ kv (18 + c) ≤ 99) ∧ (0 ≤ kv (24 + c) ∧ kv (24 + c) ≤ 63)
/-- rows s and q of memory hold springs and kinds -/
def Hyd (sp kv : Nat → Int) (M : mM) (s q : Nat) : Prop := (∀ j, j < 5 → M s j = zi (sp j)) ∧ ∀ j, j < 30 → M q j = zi (kv j)
def WB (F Q : Int) : Prop := 1 ≤ F ∧ F ≤ 400 ∧ 0 ≤ Q ∧ Q ≤ 200000
theorem mul_bd {a b m n : Int} (h1 : 0 ≤ a) (h2 : a ≤ m) (h3 : 0 ≤ b) (h4 : b ≤ n) : 0 ≤ a * b ∧ a * b ≤ m * n :=
  ⟨Int.mul_nonneg h1 h3, Int.mul_le_mul h2 h4 h3 (Int.le_trans h1 h2)⟩
/-- a pipe of loss l -/
def pipeQ (A l F Q : Int) : Int := if Q < A * F then Q else if Q - 10 * l * F < A * F then A * F else Q - 10 * l * F
def harmB (kv : Nat → Int) (c : Nat) (F Q : Int) : Bool := decide (kv (6 + c) * F < Q)
def canB (sp kv : Nat → Int) (hour c : Nat) (F Q : Int) : Bool := (kv (24 + c)).toNat.testBit hour && decide (kv c * F ≤ Q) && decide (sp 2 * F ≤ Q - kv (12 + c))
theorem sp_heatBehindPipe {d : Nat} {k : mQ} {M : mM} {o : Nat} {sp kv : Nat → Int} {l F Q : Int} (hR : Rng sp kv) (hH : Hyd sp kv M (o + 1) (o + 2)) (hl : 0 ≤ l ∧ l ≤ 9) (hW : WB F Q) (h : k (mI (zi (pipeQ (sp 2) l F Q))) M) : wpD mB mNL (d + 3) zX6_heatBehindPipe [mR 6 0 o, mI (zi l), mI (zi F), mI (zi Q)] M k := by
  obtain ⟨-, -, hA, -⟩ := hR
  obtain ⟨w1, w2, w3, w4⟩ := hW
  refine v_X6_heatBehindPipe_0 _ _ _ _ (sp_springValue (i := 2) (by decide) ?_)
  have b1 := mul_bd hA.1 hA.2 (show 0 ≤ F by omega) w2
  have b2 := mul_bd (show 0 ≤ 10 * l by omega) (show 10 * l ≤ 90 by omega) (show 0 ≤ F by omega) w2
  show (_ ∧ _)
  rw [hH.1 2 (by decide), show (10 : Int32) = zi 10 from rfl]
  simp only [zi_mul, zi_sub]
  unfold pipeQ at h
  refine ⟨fun c => ?_, fun c => ?_⟩
  · rw [zi_le (by omega) (by omega) (by omega) (by omega)] at c
    rw [if_neg (by omega)] at h
    by_cases c2 : Q - 10 * l * F < sp 2 * F
    · rw [if_pos ((zi_lt (by omega) (by omega) (by omega) (by omega)).mpr c2)]
      rw [if_pos c2] at h
      exact h
    · rw [if_neg (fun q => c2 ((zi_lt (by omega) (by omega) (by omega) (by omega)).mp q))]
      rw [if_neg c2] at h
      exact h
  · rw [zi_le (by omega) (by omega) (by omega) (by omega)] at c
    rw [if_pos (by omega)] at h
    exact h
theorem sp_isHarmed {d : Nat} {k : mQ} {M : mM} {o c : Nat} {sp kv : Nat → Int} {F Q : Int} (hR : Rng sp kv) (hH : Hyd sp kv M (o + 1) (o + 2)) (hc : c < 6) (hW : WB F Q) (h : k (mI (bI (harmB kv c F Q))) M) : wpD mB mNL (d + 3) zX6_isHarmed [mR 6 0 o, mI (nI c), mI (zi F), mI (zi Q)] M k := by
  obtain ⟨-, hm, -⟩ := hR.2.2.2.2.2 c hc
  obtain ⟨w1, w2, w3, w4⟩ := hW
  refine v_X6_isHarmed_0 _ _ _ _ (sp_kindValue (w := 1) (by decide) hc ?_)
  have b1 := mul_bd hm.1 hm.2 (show 0 ≤ F by omega) w2
  show (_ ∧ _)
  rw [hH.2 _ (by omega), show 6 * 1 + c = 6 + c from rfl]
  simp only [zi_mul]
  rw [zi_le (by omega) (by omega) (by omega) (by omega)]
  unfold harmB at h
  refine ⟨fun c2 => ?_, fun c2 => ?_⟩
  · rw [show decide (kv (6 + c) * F < Q) = false by simp; omega] at h
    exact h
  · rw [show decide (kv (6 + c) * F < Q) = true by simp; omega] at h
    exact h
theorem nI_hours {z : Int} (h0 : 0 ≤ z) : zi z = nI z.toNat := by
  rw [nI_zi]
  congr 1
  omega
theorem sp_isWanting {d : Nat} {k : mQ} {M : mM} {o c hour : Nat} {sp kv : Nat → Int} (hR : Rng sp kv) (hH : Hyd sp kv M (o + 1) (o + 2)) (hc : c < 6) (hh : hour < 6) (h : k (mI (bI ((kv (24 + c)).toNat.testBit hour))) M) : wpD mB mNL (d + 3) zX6_isWanting [mR 6 0 o, mI (nI c), mI (nI hour)] M k := by
  obtain ⟨-, -, -, -, hm⟩ := hR.2.2.2.2.2 c hc
  refine v_X6_isWanting_0 _ _ _ (sp_kindValue (w := 4) (by decide) hc ?_)
  show wpD _ _ _ _ [mI (M (o + 2) (6 * 4 + c)), _] _ _
  rw [hH.2 _ (by omega), show 6 * 4 + c = 24 + c from rfl, nI_hours hm.1]
  exact sp_hasBit (by omega) (by omega) ⟨bI_01 _, h⟩
theorem sp_isServed {d : Nat} {k : mQ} {M : mM} {o c hour : Nat} {sp kv : Nat → Int} {F Q : Int} (hR : Rng sp kv) (hH : Hyd sp kv M (o + 1) (o + 2)) (hc : c < 6) (hh : hour < 6) (hW : WB F Q) (h : k (mI (bI (canB sp kv hour c F Q))) M) : wpD mB mNL (d + 3) zX6_isServed [mR 6 0 o, mI (nI c), mI (nI hour), mI (zi F), mI (zi Q)] M k := by
  obtain ⟨hn, -, hw, -, hm⟩ := hR.2.2.2.2.2 c hc
  have hA := hR.2.2.1
  obtain ⟨w1, w2, w3, w4⟩ := hW
  have b1 := mul_bd hn.1 hn.2 (show 0 ≤ F by omega) w2
  have b2 := mul_bd hA.1 hA.2 (show 0 ≤ F by omega) w2
  refine v_X6_isServed_0 _ _ _ _ _ (sp_kindValue (w := 4) (by decide) hc ?_)
  show wpD _ _ _ _ [mI (M (o + 2) (6 * 4 + c)), _] _ _
  rw [hH.2 _ (by omega), show 6 * 4 + c = 24 + c from rfl, nI_hours hm.1]
  unfold canB at h
  refine sp_hasBit (by omega) (by omega) (ifb (fun e => ?_) (fun e => ?_))
  · rw [e] at h
    exact h
  · rw [e] at h
    refine sp_kindValue (w := 0) (by decide) hc ?_
    show (_ ∧ _)
    rw [hH.2 _ (by omega), show 6 * 0 + c = c by omega]
    simp only [zi_mul]
    rw [zi_lt (by omega) (by omega) (by omega) (by omega)]
    refine ⟨fun c2 => ?_, fun c2 => sp_kindValue (w := 2) (by decide) hc (sp_springValue (i := 2) (by decide) ?_)⟩
    · rw [show decide (kv c * F ≤ Q) = false by simp; omega] at h
      exact h
    · rw [show decide (kv c * F ≤ Q) = true by simp; omega] at h
      show (_ ∧ _)
      rw [hH.2 _ (by omega), hH.1 _ (by omega), show 6 * 2 + c = 12 + c from rfl]
      simp only [zi_mul, zi_sub]
      rw [zi_lt (by omega) (by omega) (by omega) (by omega)]
      refine ⟨fun c3 => ?_, fun c3 => ?_⟩
      · rw [show decide (sp 2 * F ≤ Q - kv (12 + c)) = false by simp; omega] at h
        exact h
      · rw [show decide (sp 2 * F ≤ Q - kv (12 + c)) = true by simp; omega] at h
        exact h
