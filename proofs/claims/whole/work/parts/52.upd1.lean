/-! UPDATES: spring (model), kind, wipe, forget -/
theorem cm_spring {d : Nat} {k : mQ} {M : mM} {V : AV} {c K : Nat} {p : Nat → Nat} {I : Nat → AV} {v1 v2 : Int32} (hM : MS V c p K I M) (h : ∀ M', MFr M M' → MS (sprN V v1 v2) c p K I M' → k (mI (sprV V v1 v2)) M') : wpD mB mNL (d + 2) zX8_spring [mR 8 0 0, mI v1, mI v2] M k := by
  obtain ⟨⟨m1, m2⟩, m3, m4⟩ := id hM
  have stay : ¬ okSp v1 v2 → MS (sprN V v1 v2) c p K I M := fun e => by unfold sprN; rw [if_neg e]; exact hM
  have h0 := fun e => h M (fun _ _ _ => rfl) (stay e)
  unfold sprV at h0 h
  have l4 : (4 : Int32).toInt = 4 := by decide
  refine v_X8_spring_0 _ _ (sp_inC (fun e => ⟨fun x => absurd rfl x, fun _ => ?_⟩) (fun e => ⟨fun _ => ?_, fun x => absurd x (by decide)⟩)) <;> rw [li0, l4] at e
  · have := h0 (fun x => e x.1)
    rw [if_pos e] at this
    exact this
  · have a1 : v1 = nI (tn v1) := tn_eq e.1
    have b1 : tn v1 < 5 := tn_lt e.1 (by omega)
    have y1 : tn v1 = v1.toInt.toNat := rfl
    have eight : ∀ (lo hi : Int32) u4 u5, lo.toInt = loS (tn v1) → hi.toInt = hiS (tn v1) → jJ kB_X8_spring (d + 1) k 8 [mR 8 0 0, mI v1, mI v2, mI lo, u4, u5] [mI hi] M := fun lo hi u4 u5 e1 e2 => by
      refine v_X8_spring_8 _ _ _ _ _ _ (sp_inC (fun e3 => ⟨fun x => absurd rfl x, fun _ => ?_⟩) (fun e3 => ⟨fun _ => ⟨vpn _ a1 b1 (by decide), vpn _ a1 b1 (by decide), ?_⟩, fun x => absurd x (by decide)⟩)) <;> rw [e1, e2] at e3
      · have := h0 (fun x => e3 x.2)
        rw [if_neg (fun x => x e), if_pos (fun x => e3 x.2)] at this
        exact this
      · rw [cln _ a1 (by omega), m1 _ b1]
        have hok : okSp v1 v2 := ⟨e, e3⟩
        have := h (up M 1 (tn v1) v2) (MFr.up (by decide)) (by
          unfold sprN
          rw [if_pos hok]
          refine ⟨⟨fun j hj => ?_, m2⟩, m3, m4⟩
          show _ = zi (if j = tn v1 then v2.toInt else gS (vG V) j)
          by_cases e5 : j = tn v1
          · rw [if_pos e5, e5, up_at, zi_of]
          · rw [if_neg e5, up_j e5]; exact m1 j hj)
        rw [if_neg (fun x => x e), if_neg (fun x => x hok)] at this
        exact this
    have q0 : v1 = 0 ↔ v1.toInt = 0 := lit (n := 0) (by decide)
    have q1 : v1 = 1 ↔ v1.toInt = 1 := lit (n := 1) (by decide)
    have q3 : v1 = 3 ↔ v1.toInt = 3 := lit (n := 3) (by decide)
    have four : ∀ (lo : Int32) u3 u4 u5, lo.toInt = loS (tn v1) → jJ kB_X8_spring (d + 1) k 4 [mR 8 0 0, mI v1, mI v2, u3, u4, u5] [mI lo] M := fun lo u3 u4 u5 e1 => by
      refine v_X8_spring_4 _ _ _ _ _ _ ?_
      rw [q0, q1, q3]
      refine ⟨fun x => ⟨fun y => ⟨fun z => eight _ _ _ _ e1 ?_, fun z => eight _ _ _ _ e1 ?_⟩, fun y => eight _ _ _ _ e1 ?_⟩, fun x => eight _ _ _ _ e1 ?_⟩
      · rw [show (300 : Int32).toInt = 300 by decide]; unfold hiS; rw [if_neg (by omega), if_neg (by omega), if_neg (by omega)]
      · rw [show (30 : Int32).toInt = 30 by decide]; unfold hiS; rw [if_neg (by omega), if_neg (by omega), if_pos (by omega)]
      · rw [show (1000 : Int32).toInt = 1000 by decide]; unfold hiS; rw [if_neg (by omega), if_pos (by omega)]
      · rw [show (50 : Int32).toInt = 50 by decide]; unfold hiS; rw [if_pos (by omega)]
    have two : ∀ u3 u4 u5, (v1.toInt = 0 ∨ v1.toInt = 3) → jJ kB_X8_spring (d + 1) k 2 [mR 8 0 0, mI v1, mI v2, u3, u4, u5] [] M := fun u3 u4 u5 x =>
      v_X8_spring_2 _ _ _ _ _ (four _ _ _ _ (by rw [li1]; unfold loS; rw [if_pos (by omega)]))
    rw [q0, q3]
    refine ⟨fun x => two _ _ _ (Or.inl x), fun x => ⟨fun y => four _ _ _ _ (by rw [li0]; unfold loS; rw [if_neg (by omega)]), fun y => two _ _ _ (Or.inr y)⟩⟩
/-! kind -/
def hiK (i : Nat) : Int := if i = 0 ∨ i = 1 then 1000 else if i = 2 then 9999 else if i = 3 then 99 else 63
abbrev okKn (v1 v2 v3 : Int32) : Prop := (0 ≤ v1.toInt ∧ v1.toInt ≤ 5) ∧ (0 ≤ v2.toInt ∧ v2.toInt ≤ 4) ∧ (0 ≤ v3.toInt ∧ v3.toInt ≤ hiK (tn v2))
def setK (V : AV) (i : Nat) (z : Int) : AV := ((gS (vG V), (fun j => if j = i then z else gK (vG V) j), (vG V).2.2), V.2)
def kndV (V : AV) (v1 v2 v3 : Int32) : Int32 := if ¬ (0 ≤ v1.toInt ∧ v1.toInt ≤ 5) then -1 else if ¬ okKn v1 v2 v3 then -2 else zi (gK (vG V) (6 * tn v2 + tn v1))
def kndN (V : AV) (v1 v2 v3 : Int32) : AV := if okKn v1 v2 v3 then setK V (6 * tn v2 + tn v1) v3.toInt else V
theorem setK_ok {V : AV} {w q : Nat} {z : Int} (h : VOK V) (hw : w < 5) (hq : q < 6) (hz : 0 ≤ z ∧ z ≤ hiK w) : VOK (setK V (6 * w + q) z) := by
  obtain ⟨⟨r1, r2, r3, r4, r5, r6⟩, o⟩ := h
  refine ⟨⟨r1, r2, r3, r4, r5, fun c hc => ?_⟩, o⟩
  have e : ∀ j, gK (vG (setK V (6 * w + q) z)) j = if j = 6 * w + q then z else gK (vG V) j := fun j => rfl
  have r := r6 c hc
  rw [e, e, e, e, e]
  unfold hiK at hz
  refine ⟨?_, ?_, ?_, ?_, ?_⟩
  all_goals
    split
    · next c2 =>
      repeat' split at hz
      all_goals omega
    · omega
theorem CS.put {V V' : AV} {c K : Nat} {p : Nat → Nat} {I : Nat → AV} {M : mM} {k j : Nat} {v : Int32} (h : CS V c p K I M) (hk : k = 36 ∨ k = 37) (hV : VOK V') (hvc : VC V' (up M k j v) 35) : CS V' c p K I (up M k j v) := by
  obtain ⟨h1, h2, h3, ⟨h6, h7, h8⟩, h9⟩ := h
  exact ⟨hV, hvc, ⟨h3.1, by rw [up_k (by omega)]; exact h3.2.1, fun j hj => by rw [up_k (by omega)]; exact h3.2.2 j hj⟩, ⟨h6, by rw [up_k (by omega)]; exact h7, fun t ht e => ⟨(h8 t ht e).1, (h8 t ht e).2.of (fun k j a b => up_k (by omega))⟩⟩, h9.of (fun k j a => up_k (by omega))⟩
theorem l5n {v : Int32} : (0 ≤ v.toInt ∧ v.toInt ≤ 5) → tn v < 6 := fun h => tn_lt h.1 (by omega)
theorem cx_kind {d : Nat} {k : mQ} {M : mM} {V : AV} {c K : Nat} {p : Nat → Nat} {I : Nat → AV} {v1 v2 v3 : Int32} (hC : CS V c p K I M) (h : ∀ M', CFr M M' → CS (kndN V v1 v2 v3) c p K I M' → k (mI (kndV V v1 v2 v3)) M') : wpD mB mNL (d + 4) zX7_kind [mR 7 0 14, mI v1, mI v2, mI v3] M k := by
  obtain ⟨h1, h2, h3, ⟨h6, h7, h8⟩, h9⟩ := id hC
  have stay : ¬ okKn v1 v2 v3 → CS (kndN V v1 v2 v3) c p K I M := fun e => by unfold kndN; rw [if_neg e]; exact hC
  have h0 := fun e => h M (fun _ _ _ => rfl) (stay e)
  unfold kndV at h0 h
  refine v_X7_kind_0 _ _ _ (sp_isNoKind (fun e => ⟨fun x => absurd x (by decide), fun _ => ?_⟩) (fun e => ⟨fun _ => ?_, fun x => absurd rfl x⟩))
  · have := h0 (fun x => e x.1)
    rw [if_pos e] at this
    exact this
  · have bad : ¬ okKn v1 v2 v3 → k (mI (-2)) M := fun x => by
      have := h0 x
      rw [if_neg (fun y => y e), if_pos x] at this
      exact this
    rw [lt_zi, lt_zi, lt_zi, li0, show (4 : Int32).toInt = 4 by decide]
    refine ⟨fun q => bad (fun x => by have := x.2.1; omega), fun q1 => ⟨fun q => bad (fun x => by have := x.2.1; omega), fun q2 => ⟨fun q => bad (fun x => by have := x.2.2; omega), fun q3 => ?_⟩⟩⟩
    have a1 : v1 = nI (tn v1) := tn_eq e.1
    have b1 := l5n e
    have a2 : v2 = nI (tn v2) := tn_eq (by omega)
    have b2 : tn v2 < 5 := tn_lt (by omega) (by omega)
    have eH : ∀ i, i < 5 → (([1000, 1000, 9999, 99, 63] : List Int32).getD i 0).toInt = hiK i := by decide
    refine wpD_at (as' := [mR 51 5 4, mI (nI (tn v2))]) (by rw [← a2]) (sp_cell_ro (by omega) (by decide) ?_)
    show (_ ∧ _)
    rw [le_zi, show M (1000 + 4) (tn v2) = _ from h9.2.2.1 _ b2, eH _ b2]
    refine ⟨fun y => ?_, fun y => bad (fun x => y x.2.2.2)⟩
    have hok : okKn v1 v2 v3 := ⟨e, ⟨by omega, by omega⟩, by omega, y⟩
    have e6 : v2 * 6 + v1 = nI (6 * tn v2 + tn v1) := by
      conv => lhs; rw [a1, a2]
      rw [show (6 : Int32) = nI 6 from rfl, pk_mul, nI_add, Nat.mul_comm]
    rw [e6]
    refine sp_exchange (d := d + 1) (by omega) (by decide) ?_
    have := h (up M 37 (6 * tn v2 + tn v1) v3) (CFr.up (by decide)) (by
      unfold kndN
      rw [if_pos hok]
      refine hC.put (Or.inr rfl) (setK_ok h1 b2 b1 ⟨by omega, y⟩) ?_
      obtain ⟨⟨x1, x2⟩, x3, x4, x5, x6⟩ := h2
      refine ⟨⟨fun j hj => by rw [up_k (by decide)]; exact x1 j hj, fun j hj => ?_⟩, x3.of (fun k j a b => up_k (by omega)), by rw [up_k (by decide)]; exact x4, by rw [up_k (by decide)]; exact x5, fun i hi => by rw [up_k (by decide), up_k (by decide), up_k (by decide)]; exact x6 i hi⟩
      show _ = zi (if j = 6 * tn v2 + tn v1 then v3.toInt else gK (vG V) j)
      by_cases e : j = 6 * tn v2 + tn v1
      · rw [if_pos e, e, up_at, zi_of]
      · rw [if_neg e, up_j e]; exact x2 j hj)
    rw [if_neg (fun x => x e), if_neg (fun x => x hok), ← h2.1.2 _ (by omega)] at this
    exact this
theorem cm_kind {d : Nat} {k : mQ} {M : mM} {V : AV} {c K : Nat} {p : Nat → Nat} {I : Nat → AV} {v1 v2 v3 : Int32} (hM : MS V c p K I M) (h : ∀ M', MFr M M' → MS (kndN V v1 v2 v3) c p K I M' → k (mI (kndV V v1 v2 v3)) M') : wpD mB mNL (d + 2) zX8_kind [mR 8 0 0, mI v1, mI v2, mI v3] M k := by
  obtain ⟨⟨m1, m2, mr⟩, m3, m4⟩ := id hM
  have stay : ¬ okKn v1 v2 v3 → MS (kndN V v1 v2 v3) c p K I M := fun e => by unfold kndN; rw [if_neg e]; exact hM
  have h0 := fun e => h M (fun _ _ _ => rfl) (stay e)
  unfold kndV at h0 h
  have l4 : (4 : Int32).toInt = 4 := by decide
  refine v_X8_kind_0 _ _ _ (sp_inC (fun e => ⟨fun x => absurd rfl x, fun _ => ?_⟩) (fun e => ⟨fun _ => ?_, fun x => absurd x (by decide)⟩)) <;> rw [li0, li5] at e
  · have := h0 (fun x => e x.1)
    rw [if_pos e] at this
    exact this
  · have bad : ¬ okKn v1 v2 v3 → k (mI (-2)) M := fun x => by
      have := h0 x
      rw [if_neg (fun y => y e), if_pos x] at this
      exact this
    refine sp_inC (fun e2 => ⟨fun _ => bad (fun x => e2 (by rw [li0, l4]; exact x.2.1)), fun x => absurd rfl x⟩) (fun e2 => ⟨fun x => absurd x (by decide), fun _ => ?_⟩)
    rw [li0, l4] at e2
    have a1 : v1 = nI (tn v1) := tn_eq e.1
    have b1 := l5n e
    have a2 : v2 = nI (tn v2) := tn_eq (by omega)
    have b2 : tn v2 < 5 := tn_lt (by omega) (by omega)
    have y2 : tn v2 = v2.toInt.toNat := rfl
    have e6 : (6 : Int32) * v2 + v1 = nI (6 * tn v2 + tn v1) := by
      conv => lhs; rw [a1, a2]
      rw [show (6 : Int32) = nI 6 from rfl, pk_mul, nI_add]
    have fin : ∀ hi : Int32, hi.toInt = hiK (tn v2) → wpD mB mNL (d + 1) zX8_in [mI v3, mI 0, mI hi] M (fun r_14 M_13 => wI r_14 fun x_16 =>
            ((¬ x_16 = 0 → (vp_in ((6 * v2) + v1) 30 ∧ (vp_in ((6 * v2) + v1) 30 ∧ k (mI (M_13 2 (((6 * v2) + v1).toNatClampNeg))) (up M_13 2 (((6 * v2) + v1).toNatClampNeg) v3)))) ∧
               (x_16 = 0 → k (mI (-2)) M_13))) := fun hi eh => by
      refine sp_inC (fun e3 => ⟨fun x => absurd rfl x, fun _ => bad (fun x => e3 (by rw [li0, eh]; exact x.2.2))⟩) (fun e3 => ⟨fun _ => ⟨vpn _ e6 (by omega) (by decide), vpn _ e6 (by omega) (by decide), ?_⟩, fun x => absurd x (by decide)⟩)
      rw [li0, eh] at e3
      have hok : okKn v1 v2 v3 := ⟨e, e2, e3⟩
      rw [cln _ e6 (by omega), m2 _ (by omega)]
      have := h (up M 2 (6 * tn v2 + tn v1) v3) (MFr.up (by decide)) (by
        unfold kndN
        rw [if_pos hok]
        refine ⟨⟨m1, fun j hj => ?_, mr⟩, m3, m4⟩
        show _ = zi (if j = 6 * tn v2 + tn v1 then v3.toInt else gK (vG V) j)
        by_cases e5 : j = 6 * tn v2 + tn v1
        · rw [if_pos e5, e5, up_at, zi_of]
        · rw [if_neg e5, up_j e5]; exact m2 j hj)
      rw [if_neg (fun x => x e), if_neg (fun x => x hok)] at this
      exact this
    have q2 : v2 = 2 ↔ v2.toInt = 2 := lit (n := 2) (by decide)
    have q3 : v2 = 3 ↔ v2.toInt = 3 := lit (n := 3) (by decide)
    refine v_X8_mostOf_0 _ ?_
    rw [le_zi, li2, q2, q3]
    refine ⟨fun x => ⟨fun y => ⟨fun z => fin _ ?_, fun z => fin _ ?_⟩, fun y => fin _ ?_⟩, fun x => fin _ ?_⟩
    · rw [show (63 : Int32).toInt = 63 by decide]; unfold hiK; rw [if_neg (by omega), if_neg (by omega), if_neg (by omega)]
    · rw [show (99 : Int32).toInt = 99 by decide]; unfold hiK; rw [if_neg (by omega), if_neg (by omega), if_pos (by omega)]
    · rw [show (9999 : Int32).toInt = 9999 by decide]; unfold hiK; rw [if_neg (by omega), if_pos (by omega)]
    · rw [show (1000 : Int32).toInt = 1000 by decide]; unfold hiK; rw [if_pos (by omega)]
