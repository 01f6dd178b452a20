/-! UPDATES: lane -/
theorem runL_m6 {p : Nat → Nat} : ∀ m i a, (runL p m i a).1 = -6 → (runL p m i a).2.1 ≠ 0 ∧ (runL p m i a).2.2.2.1 = 0 ∧ (runL p m i a).2.2.2.2.1 = false
  | 0, i, a, h => by
    rw [runL] at h ⊢
    dsimp only at h ⊢
    by_cases q : a.1 = 0 ∨ 0 < a.2.2.1 ∨ a.2.2.2.1 = true
    · rw [if_pos q] at h
      omega
    · refine ⟨fun x => q (Or.inl x), Nat.eq_zero_of_not_pos (fun x => q (Or.inr (Or.inl x))), ?_⟩
      cases e : a.2.2.2.1
      · rfl
      · exact absurd (Or.inr (Or.inr e)) q
  | m + 1, i, a, h => by
    cases e : lnSt a (p i) with
    | none =>
      rw [runL_n e] at h
      have : (i : Int) = -6 := h
      omega
    | some a' =>
      rw [runL_s e] at h ⊢
      exact runL_m6 m (i + 1) a' h
def laV (V : AV) (a : LnS) : AV := ((gS (vG V), gK (vG V), a.2.2.2.2.1, a.2.2.2.2.2.1, a.2.2.2.2.2.2), a.1, a.2.1, 0, V.2.2.2.2)
def lanV (c : Nat) (p : Nat → Nat) : Int32 := if (runL p c 0 aL0).1 = -6 then nI (runL p c 0 aL0).2.1 else -5
def lanN (V : AV) (c : Nat) (p : Nat → Nat) : AV := if (runL p c 0 aL0).1 = -6 then laV V (runL p c 0 aL0).2 else V
def lanC (c : Nat) (p : Nat → Nat) : Nat := if (runL p c 0 aL0).1 = -6 then 0 else c
theorem runL_rng {c : Nat} {p : Nat → Nat} (hc : c ≤ 48) : ∀ m i a, i + m = c → (runL p m i a).1 = -6 ∨ (0 ≤ (runL p m i a).1 ∧ (runL p m i a).1 ≤ 48)
  | 0, i, a, hi => by
    rw [runL]
    dsimp only
    split <;> omega
  | m + 1, i, a, hi => by
    cases e : lnSt a (p i) with
    | none => rw [runL_n e]; dsimp only; omega
    | some a' => rw [runL_s e]; exact runL_rng hc m (i + 1) a' (by omega)
theorem laV_ok {V : AV} {c : Nat} {p : Nat → Nat} (h : VOK V) (e : (runL p c 0 aL0).1 = -6) : VOK (laV V (runL p c 0 aL0).2) := by
  obtain ⟨o1, -⟩ := h
  have k := runL_ok (p := p) c 0 aL0 aL0_ok
  obtain ⟨n1, n2, n3⟩ := runL_m6 c 0 aL0 e
  obtain ⟨k1, k2, k3, k4⟩ := k
  refine ⟨o1, ⟨?_, k1⟩, ?_, k4, Nat.zero_le 6, fun i hi => absurd hi (Nat.not_lt_zero i)⟩
  · show 1 ≤ (runL p c 0 aL0).2.1
    omega
  · show (runL p c 0 aL0).2.2.1 ≤ 4
    omega
theorem cx_lane {d : Nat} {k : mQ} {M : mM} {V : AV} {c K : Nat} {p : Nat → Nat} {I : Nat → AV} (hC : CS V c p K I M) (h : ∀ M', CFr M M' → CS (lanN V c p) (lanC c p) p K I M' → k (mI (lanV c p)) M') : wpD mB mNL (d + 5) zX7_lane [mR 7 0 14] M k := by
  obtain ⟨h1, h2, ⟨h3, h4, h5⟩, ⟨h6, h7, h8⟩, h9⟩ := id hC
  have rg := runL_rng (p := p) h3 c 0 aL0 (by omega)
  have lok := fun e => laV_ok (c := c) (p := p) h1 e
  have kok := runL_ok (p := p) c 0 aL0 aL0_ok
  unfold lanV lanN lanC at h
  refine v_X7_lane_0 (sp_readLane h3 h4 h5 h9 (fun M1 f1 l1 => ?_))
  generalize hr : runL p c 0 aL0 = r at *
  show (_ ∧ _)
  rw [lim6, zi_eq (by omega) (by omega) (by decide) (by decide)]
  refine ⟨fun e => ?_, fun e => ?_⟩
  · have l := l1 e
    refine sp_copyLane (d := d + 2) (by decide) (v_X1_clear_0 (d := d + 3) _ (v_X4_clear_0 (d := d + 3) ?_))
    have fr : ∀ k j, k ≠ 15 → k ≠ 42 → (k < 16 ∨ 19 < k) → (k < 38 ∨ 41 < k) → (up (up (cpyL M1 16 38) 42 0 0) 15 0 0) k j = M k j := fun k j q1 q2 q3 q4 => by
      rw [up_k q1, up_k q2, cpyL_out (by omega)]
      exact f1 k j q3
    have lc : ∀ k j, 38 ≤ k → k ≤ 41 → (up (up (cpyL M1 16 38) 42 0 0) 15 0 0) k j = cpyL M1 16 38 k j := fun k j q1 q2 => by rw [up_k (by omega), up_k (by omega)]
    have e38 : (up (up (cpyL M1 16 38) 42 0 0) 15 0 0) 38 0 = nI r.2.1 := by rw [lc _ _ (by decide) (by decide), cpyL_0.1]; exact l.1
    have := h (up (up (cpyL M1 16 38) 42 0 0) 15 0 0) (fun k j q => fr k j (by omega) (by omega) (by omega) (by omega)) (by
      rw [if_pos e, if_pos e]
      refine hC.rest (fun k j q => fr k j (by omega) (by omega) (by omega) (by omega)) (lok e) ⟨h2.1.of (fun j => fr _ j (by decide) (by decide) (by decide) (by decide)) (fun j => fr _ j (by decide) (by decide) (by decide) (by decide)), ⟨e38, fun i hi => ?_⟩, ?_, ?_, fun i hi => absurd hi (Nat.not_lt_zero i)⟩ ⟨by decide, up_at _ _ _ _, fun j hj => absurd hj (Nat.not_lt_zero j)⟩
      · have hi : i < r.2.1 := hi
        have i8 : i < 8 := by have := kok.1; omega
        rw [lc _ _ (by decide) (by decide), lc _ _ (by decide) (by decide), lc _ _ (by decide) (by decide)]
        rw [cpyL_r (i := 1) (a := 16) (o := 38) (by decide) (by decide) i8, cpyL_r (i := 2) (a := 16) (o := 38) (by decide) (by decide) i8, cpyL_r (i := 3) (a := 16) (o := 38) (by decide) (by decide) i8]
        exact l.2.2 i hi
      · rw [lc _ _ (by decide) (by decide), cpyL_0.2]
        exact l.2.1
      · rw [up_k (by decide), up_at]; rfl)
    rw [if_pos e, ← e38] at this
    exact this
  · have f0 : ∀ k j, k < 16 ∨ 19 < k → M1 k j = M k j := f1
    have := h M1 (fun k j q => f1 k j (by omega)) (by
      rw [if_neg e, if_neg e]
      exact hC.rest (fun k j q => f1 k j (by omega)) h1 (h2.of (fun k j a b => f1 k j (by omega))) ⟨h3, by rw [f1 15 0 (by decide)]; exact h4, fun j hj => by rw [f1 20 j (by decide)]; exact h5 j hj⟩)
    rw [if_neg e] at this
    exact this
