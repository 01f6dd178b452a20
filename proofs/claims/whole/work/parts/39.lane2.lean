def aL0 : LnS := (0, 0, 0, false, fun _ => 0, fun _ => 0, fun _ => 0)
theorem aL0_ok : LnSk aL0 := ⟨by decide, by decide, by decide, fun h hh => absurd hh (Nat.not_lt_zero h)⟩
theorem ksI_9 {s : Nat} (h : kS s = 9) : ksI s = -6 := by unfold ksI; rw [h]; rfl
theorem ksI_k {s : Nat} (h : kS s < 6) : ksI s = nI (kS s) ∧ ksI s ≠ -6 := by
  have : ∀ n, n < 6 → nI n ≠ -6 := by decide
  unfold ksI
  rw [if_pos h]
  exact ⟨rfl, this _ h⟩
set_option maxHeartbeats 2000000 in
theorem sp_readLane {d : Nat} {k : mQ} {M : mM} {c : Nat} {p : Nat → Nat} (hc : c ≤ 48) (h15 : M 15 0 = nI c) (h20 : ∀ j, j < c → (33 ≤ p j ∧ p j ≤ 126) ∧ M 20 j = nI (p j)) (hR : ROK M)
    (h : ∀ M', (∀ k j, k < 16 ∨ 19 < k → M' k j = M k j) → ((runL p c 0 aL0).1 = -6 → LaC (runL p c 0 aL0).2 M' 16) → k (mI (zi (runL p c 0 aL0).1)) M') : wpD mB mNL (d + 4) zX4_readLane [mR 4 0 15] M k := by
  have key : ∀ r i (a : LnS) M1 u4 u5, i + r = c → (∀ k j, k < 16 ∨ 19 < k → M1 k j = M k j) → LaC a M1 16 → LnSk a →
      (∀ M', (∀ k j, k < 16 ∨ 19 < k → M' k j = M k j) → ((runL p r i a).1 = -6 → LaC (runL p r i a).2 M' 16) → k (mI (zi (runL p r i a).1)) M') →
      jJ kB_X4_readLane (d + 3) k 1 [mR 4 0 15, mI (nI a.2.2.1), mI (bI a.2.2.2.1), mI (nI i), u4, u5] [] M1 := by
    intro r
    induction r with
    | zero =>
      rintro i ⟨m, b, l, g, kd, lo, br⟩ M1 u4 u5 hi f hL ok hK
      have hic : i = c := by omega
      subst hic
      obtain ⟨l1, l2, l3⟩ := id hL
      obtain ⟨q1, q2, q3, -⟩ := ok
      dsimp only at l1 q1 q2 q3 ⊢
      have h15' : M1 15 0 = nI i := by rw [f 15 0 (by decide)]; exact h15
      have yes : (m = 0 ∨ 0 < l ∨ g = true) → k (mI (nI i)) M1 := fun q => by
        have := hK M1 f (fun _ => hL)
        rw [runL, if_pos q, zi_nI] at this
        exact this
      have no : ¬ (m = 0 ∨ 0 < l ∨ g = true) → k (mI (-6)) M1 := fun q => by
        have := hK M1 f (fun _ => hL)
        rw [runL, if_neg q] at this
        exact this
      refine v_X4_readLane_1 _ _ _ _ _ ?_
      rw [h15', l1]
      refine ifle (by omega) (by omega) (fun _ => ⟨fun c1 => yes (Or.inl (nI_inj (by omega) (by decide) c1)), fun c1 => iflt (a := 0) (b := l) (by decide) (by omega) (fun c2 => yes (Or.inr (Or.inl c2))) (fun c2 => ifb (fun e => no ?_) (fun e => yes (Or.inr (Or.inr e))))⟩) (fun q => by omega)
      rintro (x | x | x)
      · exact c1 (by rw [x]; rfl)
      · omega
      · rw [e] at x; cases x
    | succ r ih =>
      rintro i ⟨m, b, l, g, kd, lo, br⟩ M1 u4 u5 hi f hL ok h
      obtain ⟨l1, l2, l3⟩ := id hL
      obtain ⟨q1, q2, q3, -⟩ := id ok
      obtain ⟨s1, s2⟩ := h20 i (by omega)
      dsimp only at l1 l2 q1 q2 q3 ⊢
      have h15' : M1 15 0 = nI c := by rw [f 15 0 (by decide)]; exact h15
      have e20 : M1 20 i = nI (p i) := by rw [f 20 i (by decide)]; exact s2
      have none' : lnSt (m, b, l, g, kd, lo, br) (p i) = none → k (mI (nI i)) M1 := fun e => by
        have := h M1 f
        rw [runL_n e] at this
        have := this (fun q => by
          have : (i : Int) = -6 := q
          omega)
        rw [zi_nI] at this
        exact this
      have some' : ∀ a', lnSt (m, b, l, g, kd, lo, br) (p i) = some a' → ∀ M2 u4 u5, (∀ k j, k < 16 ∨ 19 < k → M2 k j = M k j) → LaC a' M2 16 → jJ kB_X4_readLane (d + 3) k 1 [mR 4 0 15, mI (nI a'.2.2.1), mI (bI a'.2.2.2.1), mI (nI (i + 1)), u4, u5] [] M2 := fun a' e M2 u4 u5 f2 hL2 => by
        refine ih (i + 1) a' M2 u4 u5 (by omega) f2 hL2 (lnSt_ok ok e) ?_
        rw [← runL_s e]
        exact h
      refine v_X4_readLane_1 _ _ _ _ _ ?_
      rw [h15', nI_1]
      refine ifle (by omega) (by omega) (fun q => by omega) (fun _ => sp_cell (by omega) (by decide) ?_)
      rw [e20]
      refine sp_kindBySign (hR.of (fun k j q => f k j (by omega))) (by omega) (sp_isFull l1 (by omega) (ifb (fun e8 => ?_) (fun e8 => none' ?_)))
      · have m8 : m < 8 := Nat.not_le.mp (of_decide_eq_false e8)
        rcases kS_le (p i) with hk | hk
        · obtain ⟨k1, k2⟩ := ksI_k hk
          refine ⟨fun q => absurd q k2, fun _ => ?_⟩
          rw [k1]
          refine sp_addHouse (o := 16) hL m8 hk (fun M2 a' ea f2 l2' => ?_)
          have := some' a' ea M2 (mI (nI (p i))) (mI (nI (kS (p i)))) (fun k j q => by rw [f2 k j (by omega)]; exact f k j q) l2'
          have e2 : a'.2.2.1 = 0 ∧ a'.2.2.2.1 = false := by
            unfold lnSt at ea
            dsimp only at ea
            rw [if_neg (by omega), if_pos hk] at ea
            cases ea
            exact ⟨rfl, rfl⟩
          rw [e2.1, e2.2] at this
          exact this
        · rw [ksI_9 hk]
          refine ⟨fun _ => ?_, fun q => absurd rfl q⟩
          have base : lnSt (m, b, l, g, kd, lo, br) (p i) = if 49 ≤ p i ∧ p i ≤ 57 ∧ l = 0 ∧ g = false then some (m, b, p i - 48, false, kd, lo, br) else if p i = 42 ∧ g = false ∧ b < 4 then some (m, b, l, true, kd, lo, br) else none := by
            unfold lnSt
            dsimp only
            rw [if_neg (by omega), if_neg (by omega)]
          have four : ¬ (49 ≤ p i ∧ p i ≤ 57 ∧ l = 0 ∧ g = false) → jJ kB_X4_readLane (d + 3) k 4 [mR 4 0 15, mI (nI l), mI (bI g), mI (nI i), mI (nI (p i)), mI (-6)] [] M1 := fun nd => by
            rw [if_neg nd] at base
            refine v_X4_readLane_4 _ _ _ _ _ ?_
            rw [show (42 : Int32) = nI 42 from rfl, nI_eq (by omega) (by decide), l2, nI_1]
            refine ⟨fun q => none' (by rw [base, if_neg (fun x => q x.1)]), fun q => ifb' (fun eg => none' (by rw [base, if_neg (fun x => by rw [eg] at x; cases x.2.1)])) (fun eg => ifle (a := 4) (b := b) (by decide) (by omega) (fun q2 => none' (by rw [base, if_neg (fun x => by omega)])) (fun q2 => ?_))⟩
            rw [if_pos ⟨q, eg, q2⟩] at base
            exact some' _ base M1 _ _ f hL
          rw [show (49 : Int32) = nI 49 from rfl, show (57 : Int32) = nI 57 from rfl, show (48 : Int32) = nI 48 from rfl, nI_ltI (by omega) (by decide), nI_ltI (by decide) (by omega)]
          refine ⟨fun q => four (by omega), fun w1 => ⟨fun q => four (by omega), fun w2 => ⟨fun q => four (fun x => q (by rw [x.2.2.1]; rfl)), fun w3 => ifb' (fun eg => four (fun x => by rw [eg] at x; cases x.2.2.2)) (fun eg => ?_)⟩⟩⟩
          have w4 : l = 0 := nI_inj (by omega) (by decide) w3
          rw [if_pos ⟨by omega, by omega, w4, eg⟩] at base
          have := some' _ base M1 (mI (nI (p i))) (mI (-6)) f hL
          have e48 : nI (p i) - nI 48 = nI (p i - 48) := by
            rw [nI_zi, nI_zi, nI_zi, zi_sub]
            congr 1
            omega
          rw [e48, eg]
          exact this
      · have m8 : 8 ≤ m := of_decide_eq_true e8
        unfold lnSt
        dsimp only
        rw [if_pos m8]
  refine v_X4_readLane_0 (sp_lclear ?_)
  refine key c 0 aL0 _ none none (by omega) (fun k j q => by rw [up_k (by omega), up_k (by omega)]) ⟨by rw [up_j (by decide), up_at]; rfl, by rw [up_at]; rfl, fun h hh => absurd hh (Nat.not_lt_zero h)⟩ aL0_ok h
/-- what the model knows of the place in the lane -/
def lv3 (a : LnS) : Nat := if a.2.2.2.1 then 2 else if a.2.2.1 = 0 then 0 else 1
def lv2 (a : LnS) : Nat := if a.2.2.2.1 then a.2.1 + 1 else a.2.1
theorem sp_lf7 {d : Nat} {k : mQ} {M : mM} {m v2 i : Nat} {v3 s : Int32} {u8 : mV} (D S H : Bool) (hm : m ≤ 8) (h8 : m = 8 → k (mI (nI i)) M) (h0 : D = false → S = false → H = false → k (mI (nI i)) M)
    (h1 : m ≠ 8 → (D = true ∨ S = true ∨ H = true) → jJ kB_X8_laneFault d k 1 [mR 8 0 0, mI (nI (if H then m + 1 else m)), mI (nI (if S then v2 + 1 else v2)), mI (nI (if H then 0 else if D then 1 else 2)), mI (nI (i + 1)), mI s, mI (bI D), mI (bI S), mI (bI H)] [] M) :
    jJ kB_X8_laneFault d k 7 [mR 8 0 0, mI (nI m), mI (nI v2), mI v3, mI (nI i), mI s, mI (bI D), mI (bI S), u8] [mI (bI H)] M := by
  have nine : m ≠ 8 → (D = true ∨ S = true ∨ H = true) → jJ kB_X8_laneFault d k 9 [mR 8 0 0, mI (nI m), mI (nI v2), mI v3, mI (nI i), mI s, mI (bI D), mI (bI S), mI (bI H)] [] M := fun q1 q2 => by
    have h9 := h1 q1 q2
    have e0 : ∀ x, nI x + (0 : Int32) = nI x := fun x => by rw [show (0 : Int32) = nI 0 from rfl, nI_add, Nat.add_zero]
    refine v_X8_laneFault_9 _ _ _ _ _ _ _ _ (ifb (fun eH => v_X8_laneFault_11 _ _ _ _ _ _ _ _ _ _ (ifb (fun eS => v_X8_laneFault_13 _ _ _ _ _ _ _ _ _ _ (ifb (fun _ => ifb (fun eD => ?_) (fun eD => ?_)) (fun x => ?_))) (fun eS => v_X8_laneFault_13 _ _ _ _ _ _ _ _ _ _ (ifb (fun _ => ifb (fun eD => ?_) (fun eD => ?_)) (fun x => ?_))))) (fun eH => v_X8_laneFault_11 _ _ _ _ _ _ _ _ _ _ (ifb (fun eS => v_X8_laneFault_13 _ _ _ _ _ _ _ _ _ _ (ifb (fun x => ?_) (fun _ => ?_))) (fun eS => v_X8_laneFault_13 _ _ _ _ _ _ _ _ _ _ (ifb (fun x => ?_) (fun _ => ?_))))))
    · rw [eD, eS, eH] at q2
      rcases q2 with q2 | q2 | q2 <;> cases q2
    · simp only [e0, nI_1]; simp only [eH, eS, eD] at h9 ⊢; exact h9
    · rw [x] at eH; cases eH
    · simp only [e0, nI_1]; simp only [eH, eS, eD] at h9 ⊢; exact h9
    · simp only [e0, nI_1]; simp only [eH, eS, eD] at h9 ⊢; exact h9
    · rw [x] at eH; cases eH
    · rw [x] at eH; cases eH
    · simp only [e0, nI_1]; simp only [eH, eS] at h9 ⊢; exact h9
    · rw [x] at eH; cases eH
    · simp only [e0, nI_1]; simp only [eH, eS] at h9 ⊢; exact h9
  refine v_X8_laneFault_7 _ _ _ _ _ _ _ _ _ ⟨fun c => h8 (nI_inj (by omega) (by decide) c), fun c => ?_⟩
  have m8 : m ≠ 8 := fun q => c (by rw [q]; rfl)
  exact ifb' (fun eD => nine m8 (Or.inl eD)) (fun eD => ifb' (fun eS => nine m8 (Or.inr (Or.inl eS))) (fun eS => ifb' (fun eH => nine m8 (Or.inr (Or.inr eH))) (fun eH => h0 eD eS eH)))

set_option maxHeartbeats 2000000 in
theorem sp_laneFault {d : Nat} {k : mQ} {M : mM} {c : Nat} {p : Nat → Nat} (hc : c ≤ 48) (h02 : M 0 2 = nI c) (h3 : ∀ j, j < c → (33 ≤ p j ∧ p j ≤ 126) ∧ M 3 j = nI (p j)) (h : k (mI (zi (runL p c 0 aL0).1)) M) : wpD mB mNL (d + 2) zX8_laneFault [mR 8 0 0] M k := by
  have key : ∀ r i (a : LnS) u5 u6 u7 u8, i + r = c → LnSk a → k (mI (zi (runL p r i a).1)) M → jJ kB_X8_laneFault (d + 1) k 1 [mR 8 0 0, mI (nI a.1), mI (nI (lv2 a)), mI (nI (lv3 a)), mI (nI i), u5, u6, u7, u8] [] M := by
    intro r
    induction r with
    | zero =>
      rintro i ⟨m, b, l, g, kd, lo, br⟩ u5 u6 u7 u8 hi ok hK
      have hic : i = c := by omega
      subst hic
      obtain ⟨q1, q2, q3, -⟩ := ok
      dsimp only at q1 q2 q3 ⊢
      have yes : (m = 0 ∨ 0 < l ∨ g = true) → k (mI (nI i)) M := fun q => by
        rw [runL, if_pos q, zi_nI] at hK
        exact hK
      have no : ¬ (m = 0 ∨ 0 < l ∨ g = true) → k (mI (-6)) M := fun q => by
        rw [runL, if_neg q] at hK
        exact hK
      refine v_X8_laneFault_1 _ _ _ _ _ _ _ _ ?_
      rw [h02]
      refine ifle (by omega) (by omega) (fun _ => ⟨fun c1 => yes (Or.inl (nI_inj (by omega) (by decide) c1)), fun c1 => ?_⟩) (fun q => by omega)
      have m0 : m ≠ 0 := fun q => c1 (by rw [q]; rfl)
      have l3 : lv3 (m, b, l, g, kd, lo, br) ≤ 2 := by
        unfold lv3
        repeat' split
        all_goals decide
      refine ifle (a := lv3 (m, b, l, g, kd, lo, br)) (b := 0) (by omega) (by decide) (fun c2 => no ?_) (fun c2 => yes ?_)
      · unfold lv3 at c2
        dsimp only at c2
        cases g
        · simp only [Bool.false_eq_true, if_false] at c2
          split at c2
          · rintro (x | x | x)
            · exact m0 x
            · omega
            · cases x
          · omega
        · simp only [if_true] at c2
          omega
      · unfold lv3 at c2
        dsimp only at c2
        cases g
        · simp only [Bool.false_eq_true, if_false] at c2
          split at c2
          · omega
          · right; left; omega
        · right; right; rfl
    | succ r ih =>
      rintro i ⟨m, b, l, g, kd, lo, br⟩ u5 u6 u7 u8 hi ok hK
      obtain ⟨q1, q2, q3, -⟩ := id ok
      obtain ⟨s1, s2⟩ := h3 i (by omega)
      dsimp only at q1 q2 q3 ⊢
      have none' : lnSt (m, b, l, g, kd, lo, br) (p i) = none → k (mI (nI i)) M := fun e => by
        rw [runL_n e, zi_nI] at hK
        exact hK
      have some' : ∀ a', lnSt (m, b, l, g, kd, lo, br) (p i) = some a' → ∀ u5 u6 u7 u8, jJ kB_X8_laneFault (d + 1) k 1 [mR 8 0 0, mI (nI a'.1), mI (nI (lv2 a')), mI (nI (lv3 a')), mI (nI (i + 1)), u5, u6, u7, u8] [] M := fun a' e u5 u6 u7 u8 => by
        refine ih (i + 1) a' u5 u6 u7 u8 (by omega) (lnSt_ok ok e) ?_
        rw [← runL_s e]
        exact hK
      -- the three flags
      have b2 : lv2 (m, b, l, g, kd, lo, br) = if g then b + 1 else b := rfl
      have b3 : lv3 (m, b, l, g, kd, lo, br) = if g then 2 else if l = 0 then 0 else 1 := rfl
      have seven : ∀ (D S : Bool) u8, (D = true ↔ (49 ≤ p i ∧ p i ≤ 57) ∧ lv3 (m, b, l, g, kd, lo, br) = 0) → (S = true ↔ p i = 42 ∧ lv3 (m, b, l, g, kd, lo, br) < 2 ∧ lv2 (m, b, l, g, kd, lo, br) < 4) → jJ kB_X8_laneFault (d + 1) k 7 [mR 8 0 0, mI (nI m), mI (nI (lv2 (m, b, l, g, kd, lo, br))), mI (nI (lv3 (m, b, l, g, kd, lo, br))), mI (nI i), mI (nI (p i)), mI (bI D), mI (bI S), u8] [mI (bI (decide (kS (p i) < 6)))] M := fun D S u8 hD hS => by
        have nk : kS (p i) < 6 → ¬ (49 ≤ p i ∧ p i ≤ 57) ∧ p i ≠ 42 := fun q => by
          rw [kS_eq] at q
          constructor
          · intro x
            rw [if_neg (by omega), if_neg (by omega), if_neg (by omega), if_neg (by omega), if_neg (by omega), if_neg (by omega)] at q
            omega
          · intro x
            rw [if_neg (by omega), if_neg (by omega), if_neg (by omega), if_neg (by omega), if_neg (by omega), if_neg (by omega)] at q
            omega
        have st : lnSt (m, b, l, g, kd, lo, br) (p i) = if 8 ≤ m then none else if kS (p i) < 6 then some (m + 1, (if g then b + 1 else b), 0, false, (fun h => if h = m then kS (p i) else kd h), (fun h => if h = m then (l : Int) else lo h), fun h => if h = m then (if g then (b : Int) else -6) else br h) else if 49 ≤ p i ∧ p i ≤ 57 ∧ l = 0 ∧ g = false then some (m, b, p i - 48, false, kd, lo, br) else if p i = 42 ∧ g = false ∧ b < 4 then some (m, b, l, true, kd, lo, br) else none := rfl
        have z3 : lv3 (m, b, l, g, kd, lo, br) = 0 ↔ l = 0 ∧ g = false := by
          rw [b3]
          cases g
          · by_cases x : l = 0 <;> simp [x]
          · simp
        have y3 : lv3 (m, b, l, g, kd, lo, br) < 2 ↔ g = false := by
          rw [b3]
          cases g
          · by_cases x : l = 0 <;> simp [x]
          · simp
        refine sp_lf7 D S _ q1 (fun x => none' (by rw [st, if_pos (by omega)])) (fun eD eS eH => none' ?_) (fun m8 any => ?_)
        · have hk : ¬ kS (p i) < 6 := of_decide_eq_false eH
          by_cases m8 : 8 ≤ m
          · rw [st, if_pos m8]
          · rw [st, if_neg m8, if_neg hk, if_neg, if_neg]
            · rintro ⟨x1, x2, x3⟩
              have : S = true := hS.mpr ⟨x1, y3.mpr x2, by rw [b2, x2]; exact x3⟩
              rw [this] at eS; cases eS
            · rintro ⟨x1, x2, x3, x4⟩
              have : D = true := hD.mpr ⟨⟨x1, x2⟩, z3.mpr ⟨x3, x4⟩⟩
              rw [this] at eD; cases eD
        · rw [if_neg (by omega)] at st
          by_cases hk : kS (p i) < 6
          · rw [if_pos hk] at st
            have eS : S = false := by
              cases S
              · rfl
              · exact absurd (hS.mp rfl).1 (nk hk).2
            have := some' _ st (mI (nI (p i))) (mI (bI D)) (mI (bI S)) (mI (bI (decide (kS (p i) < 6))))
            rw [eS] at this ⊢
            rw [decide_eq_true hk] at this ⊢
            exact this
          · rw [if_neg hk] at st
            rw [decide_eq_false hk] at any ⊢
            by_cases hd : 49 ≤ p i ∧ p i ≤ 57 ∧ l = 0 ∧ g = false
            · rw [if_pos hd] at st
              have eD : D = true := hD.mpr ⟨⟨hd.1, hd.2.1⟩, z3.mpr hd.2.2⟩
              have eS : S = false := by
                cases S
                · rfl
                · have := (hS.mp rfl).1
                  omega
              have := some' _ st (mI (nI (p i))) (mI (bI D)) (mI (bI S)) (mI (bI false))
              have l3' : lv3 (m, b, p i - 48, false, kd, lo, br) = 1 := by
                show (if (false : Bool) = true then 2 else if p i - 48 = 0 then 0 else 1) = 1
                rw [if_neg (by decide), if_neg (by omega)]
              have l2' : lv2 (m, b, p i - 48, false, kd, lo, br) = lv2 (m, b, l, g, kd, lo, br) := by rw [b2, hd.2.2.2]; rfl
              rw [l3', l2'] at this
              rw [eS, eD] at this ⊢
              exact this
            · rw [if_neg hd] at st
              have eD : D = false := by
                cases D
                · rfl
                · have x := hD.mp rfl
                  exact absurd ⟨x.1.1, x.1.2, z3.mp x.2⟩ hd
              have eS : S = true := by
                rw [eD] at any
                rcases any with x | x | x
                · cases x
                · exact x
                · cases x
              obtain ⟨x1, x2, x3⟩ := hS.mp eS
              have eg := y3.mp x2
              rw [b2, eg] at x3
              rw [if_pos ⟨x1, eg, x3⟩] at st
              have := some' _ st (mI (nI (p i))) (mI (bI D)) (mI (bI S)) (mI (bI false))
              have l2' : lv2 (m, b, l, true, kd, lo, br) = lv2 (m, b, l, g, kd, lo, br) + 1 := by rw [b2, eg]; rfl
              rw [l2'] at this
              rw [eS, eD] at this ⊢
              exact this
      have five : ∀ (D S : Bool) u7 u8, (D = true ↔ (49 ≤ p i ∧ p i ≤ 57) ∧ lv3 (m, b, l, g, kd, lo, br) = 0) → (S = true ↔ p i = 42 ∧ lv3 (m, b, l, g, kd, lo, br) < 2 ∧ lv2 (m, b, l, g, kd, lo, br) < 4) → jJ kB_X8_laneFault (d + 1) k 5 [mR 8 0 0, mI (nI m), mI (nI (lv2 (m, b, l, g, kd, lo, br))), mI (nI (lv3 (m, b, l, g, kd, lo, br))), mI (nI i), mI (nI (p i)), mI (bI D), u7, u8] [mI (bI S)] M := fun D S u7 u8 hD hS => by
        refine v_X8_laneFault_5 _ _ _ _ _ _ _ _ _ (sp_kindOfM (by omega) ?_)
        rcases kS_le (p i) with hk | hk
        · obtain ⟨k1, -⟩ := ksI_k hk
          have h7 := seven D S u8 hD hS
          rw [decide_eq_true hk] at h7
          rw [k1]
          exact ⟨fun x => absurd x (nI_pos (by omega)), fun _ => h7⟩
        · have h7 := seven D S u8 hD hS
          rw [decide_eq_false (by omega)] at h7
          rw [ksI_9 hk]
          exact ⟨fun _ => h7, fun x => absurd (by decide) x⟩
      have lv3b : lv3 (m, b, l, g, kd, lo, br) < 3 := by
        rw [b3]
        repeat' split
        all_goals decide
      have lv2b : lv2 (m, b, l, g, kd, lo, br) < 6 := by
        rw [b2]
        split <;> omega
      have three : ∀ (D : Bool) u6 u7 u8, (D = true ↔ (49 ≤ p i ∧ p i ≤ 57) ∧ lv3 (m, b, l, g, kd, lo, br) = 0) → jJ kB_X8_laneFault (d + 1) k 3 [mR 8 0 0, mI (nI m), mI (nI (lv2 (m, b, l, g, kd, lo, br))), mI (nI (lv3 (m, b, l, g, kd, lo, br))), mI (nI i), mI (nI (p i)), u6, u7, u8] [mI (bI D)] M := fun D u6 u7 u8 hD => by
        have four : ¬ (p i = 42 ∧ lv3 (m, b, l, g, kd, lo, br) < 2 ∧ lv2 (m, b, l, g, kd, lo, br) < 4) → jJ kB_X8_laneFault (d + 1) k 4 [mR 8 0 0, mI (nI m), mI (nI (lv2 (m, b, l, g, kd, lo, br))), mI (nI (lv3 (m, b, l, g, kd, lo, br))), mI (nI i), mI (nI (p i)), mI (bI D), u7, u8] [] M := fun no =>
          v_X8_laneFault_4 _ _ _ _ _ _ _ _ (five D false u7 u8 hD ⟨fun x => absurd x (by decide), fun x => absurd x no⟩)
        refine v_X8_laneFault_3 _ _ _ _ _ _ _ _ _ ?_
        rw [show (42 : Int32) = nI 42 from rfl, nI_eq (by omega) (by decide)]
        refine ⟨fun x => four (fun y => x y.1), fun x => ifle (a := 2) (b := lv3 (m, b, l, g, kd, lo, br)) (by decide) (by omega) (fun y => four (fun z => by omega)) (fun y => ifle (a := 4) (b := lv2 (m, b, l, g, kd, lo, br)) (by decide) (by omega) (fun w => four (fun z => by omega)) (fun w => ?_))⟩
        exact five D true u7 u8 hD ⟨fun _ => ⟨x, y, w⟩, fun _ => rfl⟩
      have two : ¬ ((49 ≤ p i ∧ p i ≤ 57) ∧ lv3 (m, b, l, g, kd, lo, br) = 0) → ∀ u6 u7 u8, jJ kB_X8_laneFault (d + 1) k 2 [mR 8 0 0, mI (nI m), mI (nI (lv2 (m, b, l, g, kd, lo, br))), mI (nI (lv3 (m, b, l, g, kd, lo, br))), mI (nI i), mI (nI (p i)), u6, u7, u8] [] M := fun no u6 u7 u8 =>
        v_X8_laneFault_2 _ _ _ _ _ _ _ _ (three false u6 u7 u8 ⟨fun x => absurd x (by decide), fun x => absurd x no⟩)
      refine v_X8_laneFault_1 _ _ _ _ _ _ _ _ ?_
      rw [h02]
      refine ifle (by omega) (by omega) (fun q => by omega) (fun _ => ⟨vp_in_nI (by omega) (by decide), ?_⟩)
      rw [nI_clamp (by omega), s2]
      have t49 : (49 : Int32).toInt = 49 := by decide
      have t57 : (57 : Int32).toInt = 57 := by decide
      refine sp_inC (fun e => ⟨fun _ => two ?_ _ _ _, fun x => absurd rfl x⟩) (fun e => ⟨fun x => absurd x (by decide), fun _ => ⟨fun x => two ?_ _ _ _, fun x => ?_⟩⟩) <;> rw [nI_ti (by omega), t49, t57] at e
      · omega
      · exact fun y => x (by rw [y.2]; rfl)
      · have := three true u6 u7 u8 ⟨fun _ => ⟨by omega, nI_inj (by omega) (by decide) x⟩, fun _ => rfl⟩
        exact this
  exact v_X8_laneFault_0 (key c 0 aL0 none none none none (by omega) aL0_ok h)
