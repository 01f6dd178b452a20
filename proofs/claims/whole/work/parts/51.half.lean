/-! BOTH HALVES OF THE STATE -/
def CS (V : AV) (c : Nat) (p : Nat → Nat) (K : Nat) (I : Nat → AV) (M : mM) : Prop := VOK V ∧ VC V M 35 ∧ (c ≤ 48 ∧ M 15 0 = nI c ∧ ∀ j, j < c → (33 ≤ p j ∧ p j ≤ 126) ∧ M 20 j = nI (p j)) ∧ (K < 4 ∧ M 14 4 = nI K ∧ ∀ t, t < 2 → K.testBit t = true → VOK (I t) ∧ VC (I t) M (46 + 11 * t)) ∧ ROK M
def MS (V : AV) (c : Nat) (p : Nat → Nat) (K : Nat) (I : Nat → AV) (M : mM) : Prop := VM V (M 1) (M 2) (M 4) (M 5) (M 0 4) (M 0 6) (M 0 7) ∧ (M 0 2 = nI c ∧ ∀ j, j < c → M 3 j = nI (p j)) ∧
  ∀ t, t < 2 → M 13 t = bI (K.testBit t) ∧ (K.testBit t = true → VM (I t) (fun j => M 12 (80 * t + j)) (fun j => M 12 (80 * t + 5 + j)) (fun j => M 12 (80 * t + 35 + j)) (fun j => M 12 (80 * t + 59 + j)) (M 12 (80 * t + 77)) (M 12 (80 * t + 78)) (M 12 (80 * t + 79)))
theorem InvP.split {V : AV} {c K : Nat} {p : Nat → Nat} {M : mM} (h : InvP V c p K M) : ∃ I, CS V c p K I M ∧ MS V c p K I M := by
  obtain ⟨h1, h2, h3, ⟨h4, h5, h6, h7⟩, ⟨h8, h9, h10, h11⟩, h12⟩ := h
  obtain ⟨a1, a2⟩ := h10
  obtain ⟨b1, b2⟩ := h11
  have e0 : ∃ I0, K.testBit 0 = true → VOK I0 ∧ VC I0 M (46 + 11 * 0) ∧ VM I0 (fun j => M 12 (80 * 0 + j)) (fun j => M 12 (80 * 0 + 5 + j)) (fun j => M 12 (80 * 0 + 35 + j)) (fun j => M 12 (80 * 0 + 59 + j)) (M 12 (80 * 0 + 77)) (M 12 (80 * 0 + 78)) (M 12 (80 * 0 + 79)) := by
    by_cases e : K.testBit 0 = true
    · obtain ⟨I0, q⟩ := a2 e
      exact ⟨I0, fun _ => q⟩
    · exact ⟨V, fun q => absurd q e⟩
  have e1 : ∃ I1, K.testBit 1 = true → VOK I1 ∧ VC I1 M (46 + 11 * 1) ∧ VM I1 (fun j => M 12 (80 * 1 + j)) (fun j => M 12 (80 * 1 + 5 + j)) (fun j => M 12 (80 * 1 + 35 + j)) (fun j => M 12 (80 * 1 + 59 + j)) (M 12 (80 * 1 + 77)) (M 12 (80 * 1 + 78)) (M 12 (80 * 1 + 79)) := by
    by_cases e : K.testBit 1 = true
    · obtain ⟨I1, q⟩ := b2 e
      exact ⟨I1, fun _ => q⟩
    · exact ⟨V, fun q => absurd q e⟩
  obtain ⟨I0, i0⟩ := e0
  obtain ⟨I1, i1⟩ := e1
  refine ⟨fun t => if t = 0 then I0 else I1, ⟨h1, h2, ⟨h4, h5, fun j hj => ⟨(h7 j hj).1, (h7 j hj).2.1⟩⟩, ⟨h8, h9, fun t ht e => ?_⟩, h12⟩, h3, ⟨h6, fun j hj => (h7 j hj).2.2⟩, fun t ht => ?_⟩
  · rcases (by omega : t = 0 ∨ t = 1) with rfl | rfl
    · exact ⟨(i0 e).1, (i0 e).2.1⟩
    · exact ⟨(i1 e).1, (i1 e).2.1⟩
  · rcases (by omega : t = 0 ∨ t = 1) with rfl | rfl
    · exact ⟨a1, fun e => (i0 e).2.2⟩
    · exact ⟨b1, fun e => (i1 e).2.2⟩
theorem InvP.join {V : AV} {c K : Nat} {p : Nat → Nat} {I : Nat → AV} {M : mM} (h : CS V c p K I M) (g : MS V c p K I M) : InvP V c p K M := by
  obtain ⟨h1, h2, ⟨h3, h4, h5⟩, ⟨h6, h7, h8⟩, h9⟩ := h
  obtain ⟨g1, ⟨g2, g3⟩, g4⟩ := g
  refine ⟨h1, h2, g1, ⟨h3, h4, g2, fun j hj => ⟨(h5 j hj).1, (h5 j hj).2, g3 j hj⟩⟩, ⟨h6, h7, ⟨(g4 0 (by decide)).1, fun e => ⟨I 0, ?_, ?_, (g4 0 (by decide)).2 e⟩⟩, ⟨(g4 1 (by decide)).1, fun e => ⟨I 1, ?_, ?_, (g4 1 (by decide)).2 e⟩⟩⟩, h9⟩
  · exact (h8 0 (by decide) e).1
  · exact (h8 0 (by decide) e).2
  · exact (h8 1 (by decide) e).1
  · exact (h8 1 (by decide) e).2
/-- only the class' cells changed; only the model's -/
def CFr (M M' : mM) : Prop := ∀ k j, k < 14 ∨ 1000 ≤ k → M' k j = M k j
def MFr (M M' : mM) : Prop := ∀ k j, 14 ≤ k → M' k j = M k j
theorem MS.of {V : AV} {c K : Nat} {p : Nat → Nat} {I : Nat → AV} {M M' : mM} (h : MS V c p K I M) (f : CFr M M') : MS V c p K I M' := by
  have e : ∀ k, k < 14 → M' k = M k := fun k hk => funext fun j => f k j (Or.inl hk)
  unfold MS
  rw [e 1 (by decide), e 2 (by decide), e 4 (by decide), e 5 (by decide), e 0 (by decide), e 3 (by decide), e 12 (by decide), e 13 (by decide)]
  exact h
theorem CS.of {V : AV} {c K : Nat} {p : Nat → Nat} {I : Nat → AV} {M M' : mM} (h : CS V c p K I M) (f : MFr M M') : CS V c p K I M' := by
  obtain ⟨h1, h2, ⟨h3, h4, h5⟩, ⟨h6, h7, h8⟩, h9⟩ := h
  exact ⟨h1, h2.of (fun k j a b => f k j (by omega)), ⟨h3, by rw [f 15 0 (by decide)]; exact h4, fun j hj => by rw [f 20 j (by decide)]; exact h5 j hj⟩, ⟨h6, by rw [f 14 4 (by decide)]; exact h7, fun t ht e => ⟨(h8 t ht e).1, (h8 t ht e).2.of (fun k j a b => f k j (by omega))⟩⟩, h9.of (fun k j a => f k j (by omega))⟩
theorem CFr.up {M : mM} {k j : Nat} {v : Int32} (h : 14 ≤ k ∧ k < 1000) : CFr M (up M k j v) := fun k' j' q => up_k (by omega)
theorem MFr.up {M : mM} {k j : Nat} {v : Int32} (h : k < 14) : MFr M (up M k j v) := fun k' j' q => up_k (by omega)
theorem CFr.trans {M M' M'' : mM} (h : CFr M M') (h' : CFr M' M'') : CFr M M'' := fun k j q => (h' k j q).trans (h k j q)
theorem MFr.trans {M M' M'' : mM} (h : MFr M M') (h' : MFr M' M'') : MFr M M'' := fun k j q => (h' k j q).trans (h k j q)
/-! spring -/
def loS (i : Nat) : Int := if i = 0 ∨ i = 3 then 1 else 0
def hiS (i : Nat) : Int := if i = 0 then 50 else if i = 1 then 1000 else if i = 3 then 30 else 300
abbrev okSp (v1 v2 : Int32) : Prop := (0 ≤ v1.toInt ∧ v1.toInt ≤ 4) ∧ (loS (tn v1) ≤ v2.toInt ∧ v2.toInt ≤ hiS (tn v1))
def setS (V : AV) (i : Nat) (z : Int) : AV := (((fun j => if j = i then z else gS (vG V) j), (vG V).2), V.2)
def sprV (V : AV) (v1 v2 : Int32) : Int32 := if ¬ (0 ≤ v1.toInt ∧ v1.toInt ≤ 4) then -1 else if ¬ okSp v1 v2 then -2 else zi (gS (vG V) (tn v1))
def sprN (V : AV) (v1 v2 : Int32) : AV := if okSp v1 v2 then setS V (tn v1) v2.toInt else V
theorem setS_ok {V : AV} {i : Nat} {z : Int} (h : VOK V) (hi : i < 5) (hz : loS i ≤ z ∧ z ≤ hiS i) : VOK (setS V i z) := by
  obtain ⟨⟨r1, r2, r3, r4, r5, r6⟩, o⟩ := h
  refine ⟨?_, o⟩
  have e : ∀ j, gS (vG (setS V i z)) j = if j = i then z else gS (vG V) j := fun j => rfl
  have e2 : gK (vG (setS V i z)) = gK (vG V) := rfl
  unfold Rng
  rw [e, e, e, e, e, e2]
  unfold loS hiS at hz
  rcases (by omega : i = 0 ∨ i = 1 ∨ i = 2 ∨ i = 3 ∨ i = 4) with rfl | rfl | rfl | rfl | rfl <;> simp at hz ⊢ <;> exact ⟨by omega, by omega, by omega, by omega, by omega, r6⟩
theorem cx_spring {d : Nat} {k : mQ} {M : mM} {V : AV} {c K : Nat} {p : Nat → Nat} {I : Nat → AV} {v1 v2 : Int32} (hC : CS V c p K I M) (h : ∀ M', CFr M M' → CS (sprN V v1 v2) c p K I M' → k (mI (sprV V v1 v2)) M') : wpD mB mNL (d + 4) zX7_spring [mR 7 0 14, mI v1, mI v2] M k := by
  obtain ⟨h1, h2, h3, ⟨h6, h7, h8⟩, h9⟩ := id hC
  have stay : ¬ okSp v1 v2 → CS (sprN V v1 v2) c p K I M := fun e => by unfold sprN; rw [if_neg e]; exact hC
  have h0 := fun e => h M (fun _ _ _ => rfl) (stay e)
  unfold sprV at h0 h
  refine v_X7_spring_0 _ _ ?_
  rw [lt_zi, le_zi, li0, show (4 : Int32).toInt = 4 by decide]
  refine ⟨fun q => ?_, fun q => ⟨fun q2 => ?_, fun q2 => ?_⟩⟩
  · have := h0 (fun x => by have := x.1; omega)
    rw [if_pos (by omega)] at this
    exact this
  · have a1 : v1 = nI (tn v1) := tn_eq (by omega)
    have b1 : tn v1 < 5 := tn_lt (by omega) (by omega)
    have eL : ∀ i, i < 5 → (([1, 0, 0, 1, 0] : List Int32).getD i 0).toInt = loS i := by decide
    have eH : ∀ i, i < 5 → (([50, 1000, 300, 30, 300] : List Int32).getD i 0).toInt = hiS i := by decide
    have bad : ¬ (loS (tn v1) ≤ v2.toInt ∧ v2.toInt ≤ hiS (tn v1)) → k (mI (-2)) M := fun x => by
      have := h0 (fun y => x y.2)
      rw [if_neg (by omega), if_pos (fun y => x y.2)] at this
      exact this
    refine wpD_at (as' := [mR 51 5 1, mI (nI (tn v1))]) (by rw [← a1]) (sp_cell_ro (by omega) (by decide) ?_)
    show (_ ∧ _)
    rw [lt_zi, show M (1000 + 1) (tn v1) = _ from h9.1 _ b1, eL _ b1]
    refine ⟨fun x => bad (by omega), fun x => ?_⟩
    refine wpD_at (as' := [mR 51 5 2, mI (nI (tn v1))]) (by rw [← a1]) (sp_cell_ro (by omega) (by decide) ?_)
    show (_ ∧ _)
    rw [le_zi, show M (1000 + 2) (tn v1) = _ from h9.2.1 _ b1, eH _ b1]
    refine ⟨fun y => ?_, fun y => bad (by omega)⟩
    have hok : okSp v1 v2 := ⟨by omega, by omega⟩
    refine wpD_at (as' := [mR 50 5 36, mI (nI (tn v1)), mI v2]) (by rw [← a1]) (sp_exchange (d := d + 1) (by omega) (by decide) ?_)
    have := h (up M 36 (tn v1) v2) (CFr.up (by decide)) (by
      unfold sprN
      rw [if_pos hok]
      refine ⟨setS_ok h1 b1 hok.2, ?_, ⟨h3.1, by rw [up_k (by decide)]; exact h3.2.1, fun j hj => by rw [up_k (by decide)]; exact h3.2.2 j hj⟩, ⟨h6, by rw [up_k (by decide)]; exact h7, fun t ht e => ⟨(h8 t ht e).1, (h8 t ht e).2.of (fun k j a b => up_k (by omega))⟩⟩, h9.of (fun k j a => up_k (by omega))⟩
      obtain ⟨⟨x1, x2⟩, x3, x4, x5, x6⟩ := h2
      refine ⟨⟨fun j hj => ?_, fun j hj => by rw [up_k (by decide)]; exact x2 j hj⟩, x3.of (fun k j a b => up_k (by omega)), by rw [up_k (by decide)]; exact x4, by rw [up_k (by decide)]; exact x5, fun i hi => by rw [up_k (by decide), up_k (by decide), up_k (by decide)]; exact x6 i hi⟩
      show _ = zi (if j = tn v1 then v2.toInt else gS (vG V) j)
      by_cases e : j = tn v1
      · rw [if_pos e, e, up_at, zi_of]
      · rw [if_neg e, up_j e]; exact x1 j hj)
    rw [if_neg (by omega), if_neg (fun z => z hok), ← h2.1.1 _ b1] at this
    exact this
  · have := h0 (fun x => by have := x.1; omega)
    rw [if_pos (by omega)] at this
    exact this
