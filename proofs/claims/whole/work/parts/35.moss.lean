/-! CALLS: moss -/
/-- how many of the bits below n -/
def bnF (S : Nat) : Nat → Nat
  | 0 => 0
  | n + 1 => if S.testBit n then bnF S n + 1 else bnF S n
theorem bnF_le (S : Nat) : ∀ n, bnF S n ≤ n
  | 0 => Nat.le_refl 0
  | n + 1 => by
    have := bnF_le S n
    unfold bnF
    split <;> omega
theorem bnF_mono {S P : Nat} (h : ∀ i, S.testBit i = true → P.testBit i = true) : ∀ n, bnF S n ≤ bnF P n
  | 0 => Nat.le_refl 0
  | n + 1 => by
    have ih := bnF_mono h n
    unfold bnF
    cases e : S.testBit n
    · simp only [Bool.false_eq_true, if_false]
      split <;> omega
    · rw [h n e]
      simp only [if_true]
      omega
def bcF (v0 : Int32) : Int32 := (((((((v0 - (((v0.toUInt32 >>> ((1 : Int32).toUInt32 &&& Int32.toUInt32 31)).toInt32) &&& 1431655765)) &&& 858993459) + ((((v0 - (((v0.toUInt32 >>> ((1 : Int32).toUInt32 &&& Int32.toUInt32 31)).toInt32) &&& 1431655765)).toUInt32 >>> ((2 : Int32).toUInt32 &&& Int32.toUInt32 31)).toInt32) &&& 858993459)) + (((((v0 - (((v0.toUInt32 >>> ((1 : Int32).toUInt32 &&& Int32.toUInt32 31)).toInt32) &&& 1431655765)) &&& 858993459) + ((((v0 - (((v0.toUInt32 >>> ((1 : Int32).toUInt32 &&& Int32.toUInt32 31)).toInt32) &&& 1431655765)).toUInt32 >>> ((2 : Int32).toUInt32 &&& Int32.toUInt32 31)).toInt32) &&& 858993459)).toUInt32 >>> ((4 : Int32).toUInt32 &&& Int32.toUInt32 31)).toInt32)) &&& 252645135) + (((((((v0 - (((v0.toUInt32 >>> ((1 : Int32).toUInt32 &&& Int32.toUInt32 31)).toInt32) &&& 1431655765)) &&& 858993459) + ((((v0 - (((v0.toUInt32 >>> ((1 : Int32).toUInt32 &&& Int32.toUInt32 31)).toInt32) &&& 1431655765)).toUInt32 >>> ((2 : Int32).toUInt32 &&& Int32.toUInt32 31)).toInt32) &&& 858993459)) + (((((v0 - (((v0.toUInt32 >>> ((1 : Int32).toUInt32 &&& Int32.toUInt32 31)).toInt32) &&& 1431655765)) &&& 858993459) + ((((v0 - (((v0.toUInt32 >>> ((1 : Int32).toUInt32 &&& Int32.toUInt32 31)).toInt32) &&& 1431655765)).toUInt32 >>> ((2 : Int32).toUInt32 &&& Int32.toUInt32 31)).toInt32) &&& 858993459)).toUInt32 >>> ((4 : Int32).toUInt32 &&& Int32.toUInt32 31)).toInt32)) &&& 252645135).toUInt32 >>> ((8 : Int32).toUInt32 &&& Int32.toUInt32 31)).toInt32)) + ((((((((v0 - (((v0.toUInt32 >>> ((1 : Int32).toUInt32 &&& Int32.toUInt32 31)).toInt32) &&& 1431655765)) &&& 858993459) + ((((v0 - (((v0.toUInt32 >>> ((1 : Int32).toUInt32 &&& Int32.toUInt32 31)).toInt32) &&& 1431655765)).toUInt32 >>> ((2 : Int32).toUInt32 &&& Int32.toUInt32 31)).toInt32) &&& 858993459)) + (((((v0 - (((v0.toUInt32 >>> ((1 : Int32).toUInt32 &&& Int32.toUInt32 31)).toInt32) &&& 1431655765)) &&& 858993459) + ((((v0 - (((v0.toUInt32 >>> ((1 : Int32).toUInt32 &&& Int32.toUInt32 31)).toInt32) &&& 1431655765)).toUInt32 >>> ((2 : Int32).toUInt32 &&& Int32.toUInt32 31)).toInt32) &&& 858993459)).toUInt32 >>> ((4 : Int32).toUInt32 &&& Int32.toUInt32 31)).toInt32)) &&& 252645135) + (((((((v0 - (((v0.toUInt32 >>> ((1 : Int32).toUInt32 &&& Int32.toUInt32 31)).toInt32) &&& 1431655765)) &&& 858993459) + ((((v0 - (((v0.toUInt32 >>> ((1 : Int32).toUInt32 &&& Int32.toUInt32 31)).toInt32) &&& 1431655765)).toUInt32 >>> ((2 : Int32).toUInt32 &&& Int32.toUInt32 31)).toInt32) &&& 858993459)) + (((((v0 - (((v0.toUInt32 >>> ((1 : Int32).toUInt32 &&& Int32.toUInt32 31)).toInt32) &&& 1431655765)) &&& 858993459) + ((((v0 - (((v0.toUInt32 >>> ((1 : Int32).toUInt32 &&& Int32.toUInt32 31)).toInt32) &&& 1431655765)).toUInt32 >>> ((2 : Int32).toUInt32 &&& Int32.toUInt32 31)).toInt32) &&& 858993459)).toUInt32 >>> ((4 : Int32).toUInt32 &&& Int32.toUInt32 31)).toInt32)) &&& 252645135).toUInt32 >>> ((8 : Int32).toUInt32 &&& Int32.toUInt32 31)).toInt32)).toUInt32 >>> ((16 : Int32).toUInt32 &&& Int32.toUInt32 31)).toInt32)) &&& 63
theorem bcF_n {S : Nat} (hS : S < 256) : bcF (nI S) = nI (bnF S 8) := by
  have : ∀ S, S < 256 → bcF (nI S) = nI (bnF S 8) := by decide +kernel
  exact this S hS
theorem sp_bitCount {d : Nat} {k : mQ} {M : mM} {S : Nat} (hS : S < 256) (h : k (mI (nI (bnF S 8))) M) : wpD mB mNL (d + 1) zJ6_bitCount_0f7a4 [mI (nI S)] M k := by
  refine v_J6_bitCount_0f7a4_0 _ ?_
  show k (mI (bcF (nI S))) M
  rw [bcF_n hS]
  exact h
theorem sp_bits {d : Nat} {k : mQ} {M : mM} {S : Nat} (hS : S < 2147483648) (h : k (mI (nI (bnF S 8))) M) : wpD mB mNL (d + 1) zX8_bits [mI (nI S)] M k := by
  have key : ∀ m i, i + m = 8 → jJ kB_X8_bits d k 1 [mI (nI S), mI (nI (bnF S i)), mI (nI i)] [] M := by
    intro m
    induction m with
    | zero =>
      intro i hi
      have : i = 8 := by omega
      subst this
      exact v_X8_bits_1 _ _ _ (ifle (a := 8) (b := 8) (by decide) (by decide) (fun _ => h) (fun c => by omega))
    | succ m ih =>
      intro i hi
      have h9 := ih (i + 1) (by omega)
      refine v_X8_bits_1 _ _ _ (ifle (a := 8) (b := i) (by decide) (by omega) (fun c => by omega) (fun _ => ?_))
      rw [nI_bit hS (by omega), nI_add, nI_1]
      unfold bnF at h9
      cases e : S.testBit i <;> rw [e] at h9 <;> exact h9
  exact v_X8_bits_0 _ (key 8 0 (by decide))
/-! pipes -/
def pbN (G : LG) : Nat → Nat
  | 0 => 0
  | h + 1 => if 0 < loH G h then pbN G h + 2 ^ h else pbN G h
theorem pbN_lt (G : LG) : ∀ h, pbN G h < 2 ^ h
  | 0 => Nat.one_pos
  | h + 1 => by
    have := pbN_lt G h
    unfold pbN
    split <;> omega
theorem pbN_bit (G : LG) : ∀ h i, (pbN G h).testBit i = (decide (i < h) && decide (0 < loH G i))
  | 0, i => by simp [pbN]
  | h + 1, i => by
    have ih := pbN_bit G h i
    unfold pbN
    by_cases hi : i = h
    · subst hi
      have hz : (pbN G i).testBit i = false := by rw [ih]; simp
      by_cases hs : 0 < loH G i
      · simp [hs, add_pow_bit (pbN_lt G i)]
      · simp [hs, hz]
    · have hlt : decide (i < h + 1) = decide (i < h) := by simp; omega
      split
      · rw [add_pow_bit (pbN_lt G h), ih, hlt]; simp [hi]
      · rw [ih, hlt]
theorem sp_pipeBits {d : Nat} {k : mQ} {M : mM} {G : LG} {o n b : Nat} (hLn : LnC G M o n) (hn : n ≤ 8) (hLR : LR G n b) (h : k (mI (nI (pbN G n))) M) : wpD mB mNL (d + 3) zX2_pipeBits [mR 2 0 o] M k := by
  have key : ∀ m i, i + m = n → jJ kB_X2_pipeBits (d + 2) k 1 [mR 2 0 o, mI (nI (pbN G i)), mI (nI i)] [] M := by
    intro m
    induction m with
    | zero =>
      intro i hi
      have : i = n := by omega
      subst this
      refine v_X2_pipeBits_1 _ _ _ ?_
      rw [hLn.1]
      exact ifle (by omega) (by omega) (fun _ => h) (fun c => by omega)
    | succ m ih =>
      intro i hi
      have h9 := ih (i + 1) (by omega)
      have hl := (hLR i (by omega)).2.1
      refine v_X2_pipeBits_1 _ _ _ ?_
      rw [hLn.1]
      refine ifle (by omega) (by omega) (fun c => by omega) (fun _ => sp_lossAheadOf (by omega) ?_)
      show (_ ∧ _)
      rw [(hLn.2 i (by omega)).2.1, show (0 : Int32) = zi 0 from rfl, zi_le (by omega) (by omega) (by decide) (by decide), nI_1]
      unfold pbN at h9
      refine ⟨fun c => ?_, fun c => ?_⟩
      · rw [if_neg (by omega)] at h9; exact h9
      · rw [if_pos (by omega)] at h9
        rw [sh_small (by omega), nI_or_pow (pbN_lt G i)]
        exact h9
  exact v_X2_pipeBits_0 _ (key n 0 (by omega))
/-- moss over the pipes of a set -/
def covG (G : LG) (S : Nat) : LG := (gS G, gK G, kdH G, fun h => if S.testBit h then 0 else loH G h, brH G)
theorem covG_LR {G : LG} {S n b : Nat} (h : LR G n b) : LR (covG G S) n b := fun i hi => by
  have := h i hi
  refine ⟨this.1, ?_, this.2.2⟩
  show 0 ≤ (if S.testBit i then (0 : Int) else loH G i) ∧ (if S.testBit i then (0 : Int) else loH G i) ≤ 9
  split
  · exact ⟨by decide, by decide⟩
  · exact this.2.1
/-- what is no pipe needs no moss -/
theorem covG_and {G : LG} {S n b : Nat} (h : LR G n b) (hS : S < 2 ^ n) : covG G (S &&& pbN G n) = covG G S := by
  unfold covG
  have : (fun h => if (S &&& pbN G n).testBit h then (0 : Int) else loH G h) = fun h => if S.testBit h then 0 else loH G h := by
    funext i
    rw [Nat.testBit_and, pbN_bit]
    cases e : S.testBit i
    · simp
    · have hi : i < n := by
        rcases Nat.lt_or_ge i n with q | q
        · exact q
        · rw [Nat.testBit_lt_two_pow (Nat.lt_of_lt_of_le hS (Nat.pow_le_pow_right (by decide) q))] at e
          cases e
      have := (h i hi).2.1
      by_cases c : 0 < loH G i
      · simp [hi, c]
      · simp [c]
        omega
  rw [this]
theorem sp_coverPipes {d : Nat} {k : mQ} {M : mM} {G : LG} {o n S : Nat} (hLn : LnC G M o n) (hn : n ≤ 8) (hS : S < 2147483648)
    (h : ∀ M', (∀ k j, k ≠ o + 2 → M' k j = M k j) → LnC (covG G S) M' o n → k none M') : wpD mB mNL (d + 2) zX2_coverPipes [mR 2 0 o, mI (nI S)] M k := by
  have key : ∀ m i M1, i + m = n → (∀ k j, k ≠ o + 2 → M1 k j = M k j) → (∀ q, (q < i → M1 (o + 2) q = zi (loH (covG G S) q)) ∧ (i ≤ q → M1 (o + 2) q = M (o + 2) q)) → jJ kB_X2_coverPipes (d + 1) k 1 [mR 2 0 o, mI (nI S), mI (nI i)] [] M1 := by
    intro m
    induction m with
    | zero =>
      intro i M1 hi f r
      have : i = n := by omega
      subst this
      refine v_X2_coverPipes_1 _ _ _ ?_
      rw [f o 0 (by omega), hLn.1]
      refine ifle (by omega) (by omega) (fun _ => h M1 f ⟨by rw [f o 0 (by omega)]; exact hLn.1, fun q hq => ?_⟩) (fun c => by omega)
      rw [f (o + 1) q (by omega), f (o + 3) q (by omega)]
      exact ⟨(hLn.2 q hq).1, (r q).1 hq, (hLn.2 q hq).2.2⟩
    | succ m ih =>
      intro i M1 hi f r
      refine v_X2_coverPipes_1 _ _ _ ?_
      rw [f o 0 (by omega), hLn.1]
      refine ifle (by omega) (by omega) (fun c => by omega) (fun _ => sp_hasBit hS (by omega) (ifb (fun e => ?_) (fun e => sp_setCell (by omega) (by decide) ?_)))
      · rw [nI_1]
        refine ih (i + 1) M1 (by omega) f (fun q => ⟨fun hq => ?_, fun hq => (r q).2 (by omega)⟩)
        by_cases c : q = i
        · subst c
          rw [(r q).2 (Nat.le_refl q), (hLn.2 q (by omega)).2.1]
          show _ = zi (if S.testBit q then 0 else loH G q)
          rw [e]; rfl
        · exact (r q).1 (by omega)
      · rw [nI_1]
        refine ih (i + 1) _ (by omega) (fun k j hk => by rw [up_k hk]; exact f k j hk) (fun q => ⟨fun hq => ?_, fun hq => by rw [up_j (by omega)]; exact (r q).2 (by omega)⟩)
        by_cases c : q = i
        · subst c
          rw [up_at]
          show _ = zi (if S.testBit q then 0 else loH G q)
          rw [e]; rfl
        · rw [up_j c]
          exact (r q).1 (by omega)
  exact v_X2_coverPipes_0 _ _ (key n 0 M (by omega) (fun _ _ _ => rfl) (fun q => ⟨fun c => absurd c (Nat.not_lt_zero q), fun _ => rfl⟩))
abbrev TM (V : AV) (hour S : Nat) (w : Int) : Prop := TG (covG (vG V) S) (vn V) (vb V) hour w
def kyM (S : Nat) : Nat := 256 * bnF S 8 + S
theorem TM_ge {V : AV} {hour S : Nat} {w : Int} (hV : VOK V) (h : TM V hour S w) : 0 ≤ w ∧ w ≤ 1000 := by
  obtain ⟨o1, o2, o3, o4, -⟩ := hV
  have := TG.ge (G := covG (vG V) S) (n := vn V) (m := vb V) o1 (covG_LR o4) h
  omega
/-- sets of pipes -/
def PCs (V : AV) (most S : Nat) : Prop := S < 2 ^ vn V ∧ S &&& pbN (vG V) (vn V) = S ∧ bnF S 8 ≤ most
theorem moss_conv {V : AV} {hour kk : Nat} {f W : Int} (hV : VOK V) (h : Fnd (TM V hour) kyM (fun S => S < 2 ^ vn V ∧ bnF S 8 ≤ kk) f W) : Fnd (TM V hour) kyM (PCs V (min (bnF (pbN (vG V) (vn V)) 8) kk)) f W := by
  obtain ⟨o1, o2, o3, o4, -⟩ := hV
  have sub : ∀ S, PCs V (min (bnF (pbN (vG V) (vn V)) 8) kk) S → S < 2 ^ vn V ∧ bnF S 8 ≤ kk := fun S q => ⟨q.1, by have := q.2.2; omega⟩
  obtain ⟨h1, h2⟩ := h
  refine ⟨fun i hi w hw => h1 i (sub i hi) w hw, ?_⟩
  rcases h2 with a | ⟨a1, j, a2, a3, a4, a5⟩
  · exact Or.inl a
  · refine Or.inr ⟨a1, j, ?_, a3, a4, fun i hi hT => a5 i (sub i hi) hT⟩
    have lt : j &&& pbN (vG V) (vn V) ≤ j := Nat.and_le_left
    have bl : bnF (j &&& pbN (vG V) (vn V)) 8 ≤ bnF j 8 := bnF_mono (fun i e => by rw [Nat.testBit_and] at e; simp only [Bool.and_eq_true] at e; exact e.1) 8
    have b2 : bnF (j &&& pbN (vG V) (vn V)) 8 ≤ bnF (pbN (vG V) (vn V)) 8 := bnF_mono (fun i e => by rw [Nat.testBit_and] at e; simp only [Bool.and_eq_true] at e; exact e.2) 8
    have := a5 (j &&& pbN (vG V) (vn V)) ⟨by omega, by omega⟩ (by show TG _ _ _ _ _; rw [covG_and o4 a2.1]; exact a4)
    unfold kyM at this
    have e : j &&& pbN (vG V) (vn V) = j := by omega
    rw [e] at b2
    exact ⟨a2.1, e, by have := a2.2; omega⟩
def MossR (V : AV) (v1 v2 v3 x : Int32) : Prop := if ¬ ((0 ≤ v1.toInt ∧ v1.toInt ≤ 5) ∧ (0 ≤ v2.toInt ∧ v2.toInt ≤ 8) ∧ (0 ≤ v3.toInt ∧ v3.toInt ≤ 1)) then x = -2 else
  ∃ f W, Fnd (TM V (tn v1)) kyM (PCs V (min (bnF (pbN (vG V) (vn V)) 8) (tn v2))) f W ∧ x = if v3.toInt = 0 then zi f else zi W
theorem MossR.one {V : AV} {v1 v2 v3 x y : Int32} (hV : VOK V) (h : MossR V v1 v2 v3 x) (h' : MossR V v1 v2 v3 y) : x = y := by
  unfold MossR at h h'
  have p2 : 2 ^ vn V ≤ 2 ^ 8 := Nat.pow_le_pow_right (by decide) hV.2.1.2
  rcases ite_p h with ⟨c, h⟩ | ⟨c, h⟩ <;> rcases ite_p h' with ⟨c', h'⟩ | ⟨c', h'⟩
  · rw [h, h']
  · exact absurd c c'
  · exact absurd c' c
  · obtain ⟨f, W, h1, h2⟩ := h
    obtain ⟨f', W', g1, g2⟩ := h'
    obtain ⟨rfl, rfl⟩ := Fnd.one (fun i j hi hj e => by
      have a := hi.1
      have c := hj.1
      unfold kyM at e
      omega) h1 g1
    rw [h2, g2]
