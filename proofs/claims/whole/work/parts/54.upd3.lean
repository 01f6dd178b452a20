/-! UPDATES: felt (model), forget, image -/
theorem cm_felt {d : Nat} {k : mQ} {M : mM} {V : AV} {c K : Nat} {p : Nat → Nat} {I : Nat → AV} {v1 v2 v3 : Int32} (h1 : VOK V) (hM : MS V c p K I M) (h : ∀ M', MFr M M' → MS (feN V v1 v2 v3) c p K I M' → k (mI (feV V v1 v2 v3)) M') : wpD mB mNL (d + 2) zX8_felt [mR 8 0 0, mI v1, mI v2, mI v3] M k := by
  obtain ⟨⟨m1, m2, m3, m4, m5, m6, m7⟩, m8, m9⟩ := id hM
  obtain ⟨o1, o2, o3, o4, o5, o6⟩ := id h1
  have stay : ¬ okFe V v1 v2 v3 → MS (feN V v1 v2 v3) c p K I M := fun e => by unfold feN; rw [if_neg e]; exact hM
  have h0 := fun e => h M (fun _ _ _ => rfl) (stay e)
  unfold feV at h0 h
  have l1000 : (1000 : Int32).toInt = 1000 := by decide
  refine v_X8_felt_0 _ _ _ ?_
  rw [m3]
  refine sp_inC (fun e => ⟨fun x => absurd rfl x, fun _ => ?_⟩) (fun e => ⟨fun _ => ?_, fun x => absurd x (by decide)⟩) <;> rw [li0, nI_pre1 o2.1 (by omega)] at e
  · have := h0 (fun x => by have := x.1; omega)
    rw [if_pos (by omega)] at this
    exact this
  · have bad : ¬ (0 ≤ v2.toInt ∧ v3.toInt ≤ 1000 ∧ v2.toInt ≤ v3.toInt) → k (mI (-2)) M := fun x => by
      have := h0 (fun y => x y.2.1)
      rw [if_neg (by omega), if_pos x] at this
      exact this
    refine sp_inC (fun e2 => ⟨fun _ => ?_, fun x => absurd rfl x⟩) (fun e2 => ⟨fun x => absurd x (by decide), fun _ => ?_⟩) <;> rw [li0, l1000] at e2
    · exact bad (by omega)
    · refine sp_inC (fun e3 => ⟨fun x => absurd rfl x, fun _ => ?_⟩) (fun e3 => ⟨fun _ => ?_, fun x => absurd x (by decide)⟩) <;> rw [l1000] at e3
      · exact bad (by omega)
      · have a1 : v1 = nI (tn v1) := tn_eq e.1
        have E3 : (3 : Int32) * nI (vf V) = nI (3 * vf V) := by rw [show (3 : Int32) = nI 3 from rfl, pk_mul]
        have E32 : nI (3 * vf V) + 2 = nI (3 * vf V + 2) := by rw [show (2 : Int32) = nI 2 from rfl, nI_add]
        rw [m6, show (6 : Int32) = nI 6 from rfl, nI_eq (by omega) (by decide), E3, E32, nI_1, nI_1, nI_clamp (by omega), nI_clamp (by omega), nI_clamp (by omega)]
        refine ⟨fun q => ⟨vp_in_nI (by omega) (by decide), vp_in_nI (by omega) (by decide), vp_in_nI (by omega) (by decide), ?_⟩, fun q => ?_⟩
        · have hok : okFe V v1 v2 v3 := ⟨by omega, by omega, q⟩
          have := h (up (up (up (up M 5 (3 * vf V) v1) 5 (3 * vf V + 1) v2) 5 (3 * vf V + 2) v3) 0 7 (nI (vf V + 1))) ((((MFr.up (by decide)).trans (MFr.up (by decide))).trans (MFr.up (by decide))).trans (MFr.up (by decide))) (by
            unfold feN
            rw [if_pos hok]
            refine ⟨⟨m1, m2, m3, m4, m5, up_at _ _ _ _, fun i hi => ?_⟩, m8, m9⟩
            show _ = nI (updN (fH V) (vf V) (tn v1) i) ∧ _ = zi (if i = vf V then v2.toInt else fA V i) ∧ _ = zi (if i = vf V then v3.toInt else fB V i)
            have hi : i < vf V + 1 := hi
            have r5 : ∀ j, (up (up (up (up M 5 (3 * vf V) v1) 5 (3 * vf V + 1) v2) 5 (3 * vf V + 2) v3) 0 7 (nI (vf V + 1))) 5 j = (up (up (up M 5 (3 * vf V) v1) 5 (3 * vf V + 1) v2) 5 (3 * vf V + 2) v3) 5 j := fun j => up_k (by decide)
            rw [r5, r5, r5]
            unfold updN
            by_cases q : i = vf V
            · simp only [q, if_true]
              refine ⟨?_, ?_, ?_⟩
              · rw [up_j (by omega), up_j (by omega), up_at]; exact a1
              · rw [up_j (by omega), up_at, zi_of]
              · rw [up_at, zi_of]
            · simp only [q, if_false]
              have := m7 i (by omega)
              rw [up_j (by omega), up_j (by omega), up_j (by omega), up_j (by omega), up_j (by omega), up_j (by omega), up_j (by omega), up_j (by omega), up_j (by omega)]
              exact this)
          rw [if_neg (by omega), if_neg (by omega), if_neg q] at this
          exact this
        · have := h0 (fun x => x.2.2 q)
          rw [if_neg (by omega), if_neg (by omega), if_pos q] at this
          exact this
theorem setF_ok {V : AV} (h : VOK V) : VOK (setF V 0) := by
  obtain ⟨o1, o2, o3, o4, o5, o6⟩ := h
  exact ⟨o1, o2, o3, o4, Nat.zero_le 6, fun i hi => absurd hi (Nat.not_lt_zero i)⟩
theorem cx_forget {d : Nat} {k : mQ} {M : mM} {V : AV} {c K : Nat} {p : Nat → Nat} {I : Nat → AV} (hC : CS V c p K I M) (h : ∀ M', CFr M M' → CS (setF V 0) c p K I M' → k (mI (nI (vf V))) M') : wpD mB mNL (d + 2) zX7_forget [mR 7 0 14] M k := by
  obtain ⟨h1, h2, ⟨h3, h4, h5⟩, h6, h9⟩ := id hC
  obtain ⟨x1, x2, x3, x4, x5⟩ := id h2
  refine v_X7_forget_0 (v_X1_clear_0 _ ?_)
  have := h (up M 42 0 0) (CFr.up (by decide)) (hC.rest (fun k j q => up_k (by omega)) (setF_ok h1) ⟨x1.of (fun j => up_k (by decide)) (fun j => up_k (by decide)), x2.of (fun k j a b => up_k (by omega)), by rw [up_k (by decide)]; exact x3, up_at _ _ _ _, fun i hi => absurd hi (Nat.not_lt_zero i)⟩ ⟨h3, by rw [up_k (by decide)]; exact h4, fun j hj => by rw [up_k (by decide)]; exact h5 j hj⟩)
  rw [← show M 42 0 = nI (vf V) from x4] at this
  exact this
theorem cm_forget {d : Nat} {k : mQ} {M : mM} {V : AV} {c K : Nat} {p : Nat → Nat} {I : Nat → AV} (hM : MS V c p K I M) (h : ∀ M', MFr M M' → MS (setF V 0) c p K I M' → k (mI (nI (vf V))) M') : wpD mB mNL (d + 1) zX8_forget [mR 8 0 0] M k := by
  obtain ⟨⟨m1, m2, m3, m4, m5, m6, m7⟩, m8, m9⟩ := id hM
  refine v_X8_forget_0 ?_
  have := h (up M 0 7 0) (MFr.up (by decide)) ⟨⟨m1, m2, m3, m4, m5, up_at _ _ _ _, fun i hi => absurd hi (Nat.not_lt_zero i)⟩, m8, m9⟩
  rw [← m6] at this
  exact this
/-! a valley over another -/
theorem cpyF_out {M : mM} {a o k j : Nat} (h : k < o ∨ o + 3 < k) : cpyF M a o k j = M k j := by
  unfold cpyF
  rw [cpy_out (by omega), cpy_out (by omega), cpy_out (by omega), up_k (by omega)]
theorem cpyF_0 {M : mM} {a o : Nat} : cpyF M a o o 0 = M a 0 := by
  unfold cpyF
  rw [cpy_out (by omega), cpy_out (by omega), cpy_out (by omega), up_at]
theorem cpyF_r {M : mM} {a o i j : Nat} (hd : a + 3 < o ∨ o + 3 < a) (hi : 1 ≤ i ∧ i ≤ 3) (hj : j < 6) : cpyF M a o (o + i) j = M (a + i) j := by
  unfold cpyF
  rcases (by omega : i = 1 ∨ i = 2 ∨ i = 3) with rfl | rfl | rfl
  · rw [cpy_out (by omega), cpy_out (by omega), cpy_in hj, up_k (by omega)]
  · rw [cpy_out (by omega), cpy_in hj, cpy_out (by omega), up_k (by omega)]
  · rw [cpy_in hj, cpy_out (by omega), cpy_out (by omega), up_k (by omega)]
theorem cpyV_out {M : mM} {a o k j : Nat} (h : k < o + 1 ∨ o + 10 < k) : cpyV M a o k j = M k j := by
  unfold cpyV
  rw [cpyF_out (by omega), cpyL_out (by omega), cpy_out (by omega), cpy_out (by omega)]
theorem VC.ofCpy {V : AV} {M : mM} {a o : Nat} (hV : VOK V) (h : VC V M a) (hd : a + 10 < o ∨ o + 10 < a) : VC V (cpyV M a o) o := by
  obtain ⟨h1, h2, h3, h4, h5⟩ := h
  have o2 := hV.2.1
  have o5 := hV.2.2.2.2.1
  have z : ∀ k j, a ≤ k → k ≤ a + 10 → (cpy (cpy M (a + 1) (o + 1) 5) (a + 2) (o + 2) 30) k j = M k j := fun k j q1 q2 => by rw [cpy_out (by omega), cpy_out (by omega)]
  have z2 : ∀ k j, a ≤ k → k ≤ a + 10 → (cpyL (cpy (cpy M (a + 1) (o + 1) 5) (a + 2) (o + 2) 30) (a + 3) (o + 3)) k j = M k j := fun k j q1 q2 => by rw [cpyL_out (by omega)]; exact z k j q1 q2
  have lf : ∀ k j, o ≤ k → k ≤ o + 6 → cpyV M a o k j = (cpyL (cpy (cpy M (a + 1) (o + 1) 5) (a + 2) (o + 2) 30) (a + 3) (o + 3)) k j := fun k j q1 q2 => by
    unfold cpyV
    rw [cpyF_out (by omega)]
  refine ⟨⟨fun j hj => ?_, fun j hj => ?_⟩, ⟨?_, fun i hi => ⟨?_, ?_, ?_⟩⟩, ?_, ?_, fun i hi => ⟨?_, ?_, ?_⟩⟩
  · rw [lf _ _ (by omega) (by omega), cpyL_out (by omega), cpy_out (by omega), cpy_in hj]
    exact h1.1 j hj
  · rw [lf _ _ (by omega) (by omega), cpyL_out (by omega), cpy_in hj, cpy_out (by omega)]
    exact h1.2 j hj
  · rw [lf _ _ (by omega) (by omega), cpyL_0.1, z _ _ (by omega) (by omega)]
    exact h2.1
  · rw [lf _ _ (by omega) (by omega), cpyL_r (by omega) (by omega) (by omega), z _ _ (by omega) (by omega)]
    exact (h2.2 i hi).1
  · rw [lf _ _ (by omega) (by omega), cpyL_r (by omega) (by omega) (by omega), z _ _ (by omega) (by omega)]
    exact (h2.2 i hi).2.1
  · rw [lf _ _ (by omega) (by omega), cpyL_r (by omega) (by omega) (by omega), z _ _ (by omega) (by omega)]
    exact (h2.2 i hi).2.2
  · rw [lf _ _ (by omega) (by omega), cpyL_0.2, z _ _ (by omega) (by omega)]
    exact h3
  · unfold cpyV
    rw [cpyF_0, z2 _ _ (by omega) (by omega)]
    exact h4
  · rw [show o + 8 = o + 7 + 1 from rfl]
    unfold cpyV
    rw [cpyF_r (by omega) (by omega) (by omega), z2 _ _ (by omega) (by omega)]
    exact (h5 i hi).1
  · rw [show o + 9 = o + 7 + 2 from rfl]
    unfold cpyV
    rw [cpyF_r (by omega) (by omega) (by omega), z2 _ _ (by omega) (by omega)]
    exact (h5 i hi).2.1
  · rw [show o + 10 = o + 7 + 3 from rfl]
    unfold cpyV
    rw [cpyF_r (by omega) (by omega) (by omega), z2 _ _ (by omega) (by omega)]
    exact (h5 i hi).2.2
