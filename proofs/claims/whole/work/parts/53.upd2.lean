/-! UPDATES: say, wipe, felt, forget -/
theorem CS.rest {V V' : AV} {c c' K : Nat} {p p' : Nat → Nat} {I : Nat → AV} {M M' : mM} (h : CS V c p K I M) (f : ∀ k j, k = 14 ∨ (46 ≤ k ∧ k ≤ 67) ∨ 1000 ≤ k → M' k j = M k j) (hV : VOK V') (hvc : VC V' M' 35) (hp : c' ≤ 48 ∧ M' 15 0 = nI c' ∧ ∀ j, j < c' → (33 ≤ p' j ∧ p' j ≤ 126) ∧ M' 20 j = nI (p' j)) : CS V' c' p' K I M' := by
  obtain ⟨h1, h2, h3, ⟨h6, h7, h8⟩, h9⟩ := h
  exact ⟨hV, hvc, hp, ⟨h6, by rw [f 14 4 (by omega)]; exact h7, fun t ht e => ⟨(h8 t ht e).1, (h8 t ht e).2.of (fun k j a b => f k j (by omega))⟩⟩, h9.of (fun k j a => f k j (by omega))⟩
abbrev okSay (c : Nat) (v1 : Int32) : Prop := (33 ≤ v1.toInt ∧ v1.toInt ≤ 126) ∧ c ≠ 48
def sayV (c : Nat) (v1 : Int32) : Int32 := if ¬ (33 ≤ v1.toInt ∧ v1.toInt ≤ 126) then -2 else if c = 48 then -4 else nI (c + 1)
def sayC (c : Nat) (v1 : Int32) : Nat := if okSay c v1 then c + 1 else c
def sayP (c : Nat) (p : Nat → Nat) (v1 : Int32) : Nat → Nat := if okSay c v1 then updN p c (tn v1) else p
theorem l33 : (33 : Int32).toInt = 33 := by decide
theorem l126 : (126 : Int32).toInt = 126 := by decide
theorem cx_say {d : Nat} {k : mQ} {M : mM} {V : AV} {c K : Nat} {p : Nat → Nat} {I : Nat → AV} {v1 : Int32} (hC : CS V c p K I M) (h : ∀ M', CFr M M' → CS V (sayC c v1) (sayP c p v1) K I M' → k (mI (sayV c v1)) M') : wpD mB mNL (d + 3) zX7_say [mR 7 0 14, mI v1] M k := by
  obtain ⟨h1, h2, ⟨h3, h4, h5⟩, h6, h9⟩ := id hC
  have stay : ¬ okSay c v1 → CS V (sayC c v1) (sayP c p v1) K I M := fun e => by unfold sayC sayP; rw [if_neg e, if_neg e]; exact hC
  have h0 := fun e => h M (fun _ _ _ => rfl) (stay e)
  unfold sayV at h0 h
  refine v_X7_say_0 _ ?_
  rw [lt_zi, le_zi, l33, l126]
  refine ⟨fun q => ?_, fun q1 => ⟨fun q2 => ?_, fun q => ?_⟩⟩
  · have := h0 (fun x => by have := x.1; omega)
    rw [if_pos (by omega)] at this
    exact this
  · refine v_X4_addSign_0 _ ?_
    rw [h4]
    refine iflt (a := c) (b := 48) (by omega) (by decide) (fun q3 => sp_setCell (by omega) (by decide) ?_) (fun q3 => ⟨fun _ => ?_, fun x => absurd rfl x⟩)
    · refine ⟨fun x => absurd x (by decide), fun _ => ?_⟩
      have hok : okSay c v1 := ⟨by omega, by omega⟩
      have e15 : (up M 20 c v1) 15 0 + 1 = nI (c + 1) := by rw [up_k (by decide), h4, nI_1]
      rw [e15, up_at]
      have y1 : tn v1 = v1.toInt.toNat := rfl
      have a1 : v1 = nI (tn v1) := tn_eq (by omega)
      have := h (up (up M 20 c v1) 15 0 (nI (c + 1))) ((CFr.up (by decide)).trans (CFr.up (by decide))) (by
        unfold sayC sayP
        rw [if_pos hok, if_pos hok]
        refine hC.rest (fun k j q => by rw [up_k (by omega), up_k (by omega)]) h1 (h2.of (fun k j a b => by rw [up_k (by omega), up_k (by omega)])) ⟨by omega, by rw [up_at], fun j hj => ?_⟩
        rw [up_k (by decide)]
        unfold updN
        by_cases e : j = c
        · simp only [e, if_true]
          exact ⟨by omega, by rw [up_at]; exact a1⟩
        · simp only [e, if_false]
          rw [up_j e]
          exact h5 j (by omega))
      rw [if_neg (by omega), if_neg (by omega)] at this
      exact this
    · have := h0 (fun x => x.2 (by omega))
      rw [if_neg (by omega), if_pos (by omega)] at this
      exact this
  · have := h0 (fun x => by have := x.1; omega)
    rw [if_pos (by omega)] at this
    exact this
theorem cm_say {d : Nat} {k : mQ} {M : mM} {V : AV} {c K : Nat} {p : Nat → Nat} {I : Nat → AV} {v1 : Int32} (hc : c ≤ 48) (hM : MS V c p K I M) (h : ∀ M', MFr M M' → MS V (sayC c v1) (sayP c p v1) K I M' → k (mI (sayV c v1)) M') : wpD mB mNL (d + 2) zX8_say [mR 8 0 0, mI v1] M k := by
  obtain ⟨m1, ⟨m2, m3⟩, m4⟩ := id hM
  have stay : ¬ okSay c v1 → MS V (sayC c v1) (sayP c p v1) K I M := fun e => by unfold sayC sayP; rw [if_neg e, if_neg e]; exact hM
  have h0 := fun e => h M (fun _ _ _ => rfl) (stay e)
  unfold sayV at h0 h
  refine v_X8_say_0 _ (sp_inC (fun e => ⟨fun x => absurd rfl x, fun _ => ?_⟩) (fun e => ⟨fun _ => ?_, fun x => absurd x (by decide)⟩)) <;> rw [l33, l126] at e
  · have := h0 (fun x => e x.1)
    rw [if_pos e] at this
    exact this
  · rw [m2, show (48 : Int32) = nI 48 from rfl, nI_eq (by omega) (by decide), nI_clamp (by omega), nI_1]
    refine ⟨fun q => ⟨vp_in_nI (by omega) (by decide), ?_⟩, fun q => ?_⟩
    · have hok : okSay c v1 := ⟨e, q⟩
      have a1 : v1 = nI (tn v1) := tn_eq (by omega)
      have := h (up (up M 3 c v1) 0 2 (nI (c + 1))) ((MFr.up (by decide)).trans (MFr.up (by decide))) (by
        unfold sayC sayP
        rw [if_pos hok, if_pos hok]
        refine ⟨m1, ⟨up_at _ _ _ _, fun j hj => ?_⟩, m4⟩
        rw [up_k (by decide)]
        unfold updN
        by_cases e : j = c
        · simp only [e, if_true]
          rw [up_at]; exact a1
        · simp only [e, if_false]
          rw [up_j e]
          exact m3 j (by omega))
      rw [if_neg (fun x => x e), if_neg q] at this
      exact this
    · have := h0 (fun x => x.2 q)
      rw [if_neg (fun x => x e), if_pos q] at this
      exact this
theorem cx_wipe {d : Nat} {k : mQ} {M : mM} {V : AV} {c K : Nat} {p : Nat → Nat} {I : Nat → AV} (hC : CS V c p K I M) (h : ∀ M', CFr M M' → CS V 0 p K I M' → k (mI (nI c)) M') : wpD mB mNL (d + 2) zX7_wipe [mR 7 0 14] M k := by
  obtain ⟨h1, h2, ⟨h3, h4, h5⟩, h6, h9⟩ := id hC
  refine v_X7_wipe_0 (v_X4_clear_0 ?_)
  have := h (up M 15 0 0) (CFr.up (by decide)) (hC.rest (fun k j q => up_k (by omega)) h1 (h2.of (fun k j a b => up_k (by omega))) ⟨by decide, up_at _ _ _ _, fun j hj => absurd hj (Nat.not_lt_zero j)⟩)
  rw [← h4] at this
  exact this
theorem cm_wipe {d : Nat} {k : mQ} {M : mM} {V : AV} {c K : Nat} {p : Nat → Nat} {I : Nat → AV} (hM : MS V c p K I M) (h : ∀ M', MFr M M' → MS V 0 p K I M' → k (mI (nI c)) M') : wpD mB mNL (d + 1) zX8_wipe [mR 8 0 0] M k := by
  obtain ⟨m1, ⟨m2, m3⟩, m4⟩ := id hM
  refine v_X8_wipe_0 ?_
  have := h (up M 0 2 0) (MFr.up (by decide)) ⟨m1, ⟨up_at _ _ _ _, fun j hj => absurd hj (Nat.not_lt_zero j)⟩, m4⟩
  rw [← m2] at this
  exact this
/-! felt, forget -/
def setF (V : AV) (n : Nat) : AV := (vG V, vn V, vb V, n, V.2.2.2.2)
def addF (V : AV) (a : Nat) (lo hi : Int) : AV := (vG V, vn V, vb V, vf V + 1, updN (fH V) (vf V) a, (fun i => if i = vf V then lo else fA V i), fun i => if i = vf V then hi else fB V i)
abbrev okFe (V : AV) (v1 v2 v3 : Int32) : Prop := (0 ≤ v1.toInt ∧ v1.toInt < vn V) ∧ (0 ≤ v2.toInt ∧ v3.toInt ≤ 1000 ∧ v2.toInt ≤ v3.toInt) ∧ vf V ≠ 6
def feV (V : AV) (v1 v2 v3 : Int32) : Int32 := if ¬ (0 ≤ v1.toInt ∧ v1.toInt < vn V) then -1 else if ¬ (0 ≤ v2.toInt ∧ v3.toInt ≤ 1000 ∧ v2.toInt ≤ v3.toInt) then -2 else if vf V = 6 then -4 else nI (vf V + 1)
def feN (V : AV) (v1 v2 v3 : Int32) : AV := if okFe V v1 v2 v3 then addF V (tn v1) v2.toInt v3.toInt else V
theorem addF_ok {V : AV} {v1 v2 v3 : Int32} (h : VOK V) (e : okFe V v1 v2 v3) : VOK (addF V (tn v1) v2.toInt v3.toInt) := by
  obtain ⟨o1, o2, o3, o4, o5, o6⟩ := h
  refine ⟨o1, o2, o3, o4, ?_, fun i hi => ?_⟩
  · show vf V + 1 ≤ 6
    have := e.2.2
    omega
  · show updN (fH V) (vf V) (tn v1) i < vn V ∧ 0 ≤ (if i = vf V then v2.toInt else fA V i) ∧ (if i = vf V then v2.toInt else fA V i) ≤ (if i = vf V then v3.toInt else fB V i) ∧ (if i = vf V then v3.toInt else fB V i) ≤ 1000
    have hi : i < vf V + 1 := hi
    unfold updN
    by_cases q : i = vf V
    · simp only [q, if_true]
      exact ⟨tn_lt e.1.1 e.1.2, by omega⟩
    · simp only [q, if_false]
      exact o6 i (by omega)
theorem cx_felt {d : Nat} {k : mQ} {M : mM} {V : AV} {c K : Nat} {p : Nat → Nat} {I : Nat → AV} {v1 v2 v3 : Int32} (hC : CS V c p K I M) (h : ∀ M', CFr M M' → CS (feN V v1 v2 v3) c p K I M' → k (mI (feV V v1 v2 v3)) M') : wpD mB mNL (d + 3) zX7_felt [mR 7 0 14, mI v1, mI v2, mI v3] M k := by
  obtain ⟨h1, h2, ⟨h3, h4, h5⟩, h6, h9⟩ := id hC
  obtain ⟨o1, o2, o3, o4, o5, o6⟩ := id h1
  obtain ⟨x1, x2, x3, x4, x5⟩ := id h2
  have stay : ¬ okFe V v1 v2 v3 → CS (feN V v1 v2 v3) c p K I M := fun e => by unfold feN; rw [if_neg e]; exact hC
  have h0 := fun e => h M (fun _ _ _ => rfl) (stay e)
  unfold feV at h0 h
  have x4' : M 42 0 = nI (vf V) := x4
  refine v_X7_felt_0 _ _ _ (sp_isNoHouse x2.1 (by omega) (fun e => ⟨fun x => absurd x (by decide), fun _ => ?_⟩) (fun e => ⟨fun _ => ?_, fun x => absurd rfl x⟩))
  · have := h0 (fun x => e x.1)
    rw [if_pos e] at this
    exact this
  · have bad : ¬ (0 ≤ v2.toInt ∧ v3.toInt ≤ 1000 ∧ v2.toInt ≤ v3.toInt) → k (mI (-2)) M := fun x => by
      have := h0 (fun y => x y.2.1)
      rw [if_neg (fun y => y e), if_pos x] at this
      exact this
    rw [lt_zi, lt_zi, le_zi, li0, show (1000 : Int32).toInt = 1000 by decide]
    refine ⟨fun q => bad (by omega), fun q1 => ⟨fun q => bad (by omega), fun q2 => ⟨fun q3 => ?_, fun q => bad (by omega)⟩⟩⟩
    have a1 : v1 = nI (tn v1) := tn_eq e.1
    refine v_X1_add_0 _ _ _ _ ?_
    rw [x4']
    refine iflt (a := vf V) (b := 6) (by omega) (by decide) (fun q4 => sp_setCell (by omega) (by decide) ?_) (fun q4 => ⟨fun _ => ?_, fun x => absurd rfl x⟩)
    · have hok : okFe V v1 v2 v3 := ⟨e, by omega, by omega⟩
      have s1 : (up M (42 + 1) (vf V) v1) 42 0 = nI (vf V) := by rw [up_k (by decide)]; exact x4'
      refine wpD_at (as' := [mR 50 6 (42 + 2), mI (nI (vf V)), mI v2]) (by rw [← s1]) (sp_setCell (by omega) (by decide) ?_)
      have s2 : (up (up M (42 + 1) (vf V) v1) (42 + 2) (vf V) v2) 42 0 = nI (vf V) := by rw [up_k (by decide)]; exact s1
      refine wpD_at (as' := [mR 50 6 (42 + 3), mI (nI (vf V)), mI v3]) (by rw [← s2]) (sp_setCell (by omega) (by decide) ?_)
      have s3 : (up (up (up M (42 + 1) (vf V) v1) (42 + 2) (vf V) v2) (42 + 3) (vf V) v3) 42 0 + 1 = nI (vf V + 1) := by rw [up_k (by decide), s2, nI_1]
      refine ⟨fun x => absurd x (by decide), fun _ => ?_⟩
      rw [s3, up_at]
      have := h (up (up (up (up M (42 + 1) (vf V) v1) (42 + 2) (vf V) v2) (42 + 3) (vf V) v3) 42 0 (nI (vf V + 1))) ((((CFr.up (by decide)).trans (CFr.up (by decide))).trans (CFr.up (by decide))).trans (CFr.up (by decide))) (by
        unfold feN
        rw [if_pos hok]
        have fr : ∀ k j, k < 42 ∨ 45 < k → (up (up (up (up M (42 + 1) (vf V) v1) (42 + 2) (vf V) v2) (42 + 3) (vf V) v3) 42 0 (nI (vf V + 1))) k j = M k j := fun k j q => by rw [up_k (by omega), up_k (by omega), up_k (by omega), up_k (by omega)]
        refine hC.rest (fun k j q => fr k j (by omega)) (addF_ok h1 hok) ⟨x1.of (fun j => fr _ j (by decide)) (fun j => fr _ j (by decide)), x2.of (fun k j a b => fr k j (by omega)), by rw [fr _ _ (by decide)]; exact x3, up_at _ _ _ _, fun i hi => ?_⟩ ⟨h3, by rw [fr _ _ (by decide)]; exact h4, fun j hj => by rw [fr _ _ (by decide)]; exact h5 j hj⟩
        show _ = nI (updN (fH V) (vf V) (tn v1) i) ∧ _ = zi (if i = vf V then v2.toInt else fA V i) ∧ _ = zi (if i = vf V then v3.toInt else fB V i)
        have hi : i < vf V + 1 := hi
        unfold updN
        by_cases q : i = vf V
        · simp only [q, if_true]
          exact ⟨by rw [up_k (by decide), up_k (by decide), up_k (by decide), up_at]; exact a1, by rw [up_k (by decide), up_k (by decide), up_at, zi_of], by rw [up_k (by decide), up_at, zi_of]⟩
        · simp only [q, if_false]
          have := x5 i (by omega)
          exact ⟨by rw [up_k (by decide), up_k (by decide), up_k (by decide), up_j q]; exact this.1, by rw [up_k (by decide), up_k (by decide), up_j q, up_k (by decide)]; exact this.2.1, by rw [up_k (by decide), up_j q, up_k (by decide), up_k (by decide)]; exact this.2.2⟩)
      rw [if_neg (fun x => x e), if_neg (by omega), if_neg (by omega)] at this
      exact this
    · have := h0 (fun x => x.2.2 (by omega))
      rw [if_neg (fun x => x e), if_neg (by omega), if_pos (by omega)] at this
      exact this
