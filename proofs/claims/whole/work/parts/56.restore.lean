/-! UPDATES: restore -/
abbrev okRe (K : Nat) (v1 : Int32) : Prop := ok01 v1 ∧ K.testBit (tn v1) = true
def resV (K : Nat) (v1 : Int32) : Int32 := if ¬ ok01 v1 then -2 else if okRe K v1 then 1 else -3
def resN (V : AV) (K : Nat) (I : Nat → AV) (v1 : Int32) : AV := if okRe K v1 then I (tn v1) else V
theorem cx_restore {d : Nat} {k : mQ} {M : mM} {V : AV} {c K : Nat} {p : Nat → Nat} {I : Nat → AV} {v1 : Int32} (hC : CS V c p K I M) (h : ∀ M', CFr M M' → CS (resN V K I v1) c p K I M' → k (mI (resV K v1)) M') : wpD mB mNL (d + 4) zX7_restore [mR 7 0 14, mI v1] M k := by
  obtain ⟨h1, h2, ⟨h3, h4, h5⟩, ⟨h6, h7, h8⟩, h9⟩ := id hC
  have stay : ¬ okRe K v1 → k (mI (resV K v1)) M := fun e => h M (fun _ _ _ => rfl) (by unfold resN; rw [if_neg e]; exact hC)
  unfold resV at stay h
  have bad : ¬ ok01 v1 → k (mI (-2)) M := fun e => by
    have := stay (fun x => e x.1)
    rw [if_pos e] at this
    exact this
  refine v_X7_restore_0 _ ?_
  rw [lt_zi, lt_zi, li0, li2]
  refine ⟨fun q => bad (by omega), fun q1 => ⟨fun q2 => ?_, fun q => bad (by omega)⟩⟩
  have hok : ok01 v1 := ⟨by omega, by omega⟩
  have a1 : v1 = nI (tn v1) := tn_eq (by omega)
  have b1 : tn v1 < 2 := tn_lt (by omega) (by omega)
  refine wpD_at (as' := [mI (nI K), mI (nI (tn v1))]) (by rw [← a1, ← h7]) (sp_hasBit (d := d + 2) (by omega) (by omega) (ifb' (fun e => ?_) (fun e => ?_)))
  · have hre : okRe K v1 := ⟨hok, e⟩
    obtain ⟨i1, i2⟩ := h8 _ b1 e
    refine wpD_at (as' := [mR 7 0 14, mI (nI (tn v1))]) (by rw [← a1]) (sp_imageOf (d := d + 2) b1 ?_)
    refine sp_copyValley (d := d) (o := 35) (a := 46 + 11 * tn v1) (by omega) ?_
    have fr : ∀ k j, k < 36 ∨ 45 < k → cpyV M (46 + 11 * tn v1) 35 k j = M k j := fun k j q => cpyV_out (by omega)
    have := h (cpyV M (46 + 11 * tn v1) 35) (fun k j q => fr k j (by omega)) (by
      unfold resN
      rw [if_pos hre]
      exact ⟨i1, VC.ofCpy i1 i2 (by omega), ⟨h3, by rw [fr _ _ (by decide)]; exact h4, fun j hj => by rw [fr _ _ (by decide)]; exact h5 j hj⟩, ⟨h6, by rw [fr _ _ (by decide)]; exact h7, fun t ht e => ⟨(h8 t ht e).1, (h8 t ht e).2.of (fun k j a b => fr k j (by omega))⟩⟩, h9.of (fun k j a => fr k j (by omega))⟩)
    rw [if_neg (fun x => x hok), if_pos hre] at this
    exact this
  · have := stay (fun x => by have y := x.2; rw [e] at y; cases y)
    rw [if_neg (fun x => x hok), if_neg (fun x => by have y := x.2; rw [e] at y; cases y)] at this
    exact this
/-- a row out of the model's images -/
def cpD (M : mM) (dst off L : Nat) : mM := fun k j => if k = dst ∧ j < L then M 12 (off + j) else M k j
theorem cpD_0 (M : mM) (dst off : Nat) : cpD M dst off 0 = M := by
  funext k j
  unfold cpD
  rw [if_neg (by omega)]
theorem cpD_out {M : mM} {dst off L k j : Nat} (h : k ≠ dst) : cpD M dst off L k j = M k j := by
  unfold cpD
  rw [if_neg (by omega)]
theorem cpD_in {M : mM} {dst off L j : Nat} (h : j < L) : cpD M dst off L dst j = M 12 (off + j) := by
  unfold cpD
  rw [if_pos ⟨rfl, h⟩]
theorem cpD_succ {M : mM} {dst off i : Nat} (h : dst ≠ 12) : up (cpD M dst off i) dst i (cpD M dst off i 12 (off + i)) = cpD M dst off (i + 1) := by
  rw [cpD_out (by omega)]
  funext k j
  simp only [cpD, up]
  by_cases hk : k = dst
  · by_cases hj : j = i
    · simp [hk, hj]
    · have e : (j < i + 1) ↔ (j < i) := by omega
      simp [hk, hj, e]
  · simp [hk]
def reM (M : mM) (b : Nat) : mM := cpD (cpD (cpD (cpD M 1 b 5) 2 (b + 5) 30) 4 (b + 35) 24) 5 (b + 59) 18
theorem reM_out {M : mM} {b k j : Nat} (h : k ≠ 1 ∧ k ≠ 2 ∧ k ≠ 4 ∧ k ≠ 5) : reM M b k j = M k j := by
  unfold reM
  rw [cpD_out h.2.2.2, cpD_out h.2.2.1, cpD_out h.2.1, cpD_out h.1]
theorem cm_restore {d : Nat} {k : mQ} {M : mM} {V : AV} {c K : Nat} {p : Nat → Nat} {I : Nat → AV} {v1 : Int32} (hi : ∀ t, t < 2 → K.testBit t = true → vn (I t) ≤ 8 ∧ vf (I t) ≤ 6) (hM : MS V c p K I M) (h : ∀ M', MFr M M' → MS (resN V K I v1) c p K I M' → k (mI (resV K v1)) M') : wpD mB mNL (d + 2) zX8_restore [mR 8 0 0, mI v1] M k := by
  obtain ⟨m1, m2, m3⟩ := id hM
  have stay : ¬ okRe K v1 → k (mI (resV K v1)) M := fun e => h M (fun _ _ _ => rfl) (by unfold resN; rw [if_neg e]; exact hM)
  unfold resV at stay h
  have bad : ¬ ok01 v1 → k (mI (-2)) M := fun e => by
    have := stay (fun x => e x.1)
    rw [if_pos e] at this
    exact this
  refine v_X8_restore_0 _ (sp_inC (fun e => ⟨fun x => absurd rfl x, fun _ => bad (by rw [li0, li1] at e; exact e)⟩) (fun e => ⟨fun _ => ?_, fun x => absurd x (by decide)⟩))
  rw [li0, li1] at e
  have hok : ok01 v1 := e
  have a1 : v1 = nI (tn v1) := tn_eq (by omega)
  have b1 : tn v1 < 2 := tn_lt (by omega) (by omega)
  refine ⟨vpn _ a1 b1 (by decide), ?_⟩
  rw [cln _ a1 (by omega), (m3 _ b1).1]
  refine ifb' (fun et => ?_) (fun et => ?_)
  · have hre : okRe K v1 := ⟨hok, et⟩
    obtain ⟨n1, n2, n3, n4, n5, n6, n7⟩ := (m3 _ b1).2 et
    obtain ⟨i8, i6⟩ := hi _ b1 et
    have e80 : (80 : Int32) * v1 = nI (80 * tn v1) := by
      conv => lhs; rw [a1]
      rw [show (80 : Int32) = nI 80 from rfl, pk_mul]
    rw [e80]
    have hb160 : 80 * tn v1 + 80 ≤ 160 := by omega
    generalize hb : 80 * tn v1 = b at *
    have ad : ∀ a x, nI a + nI x = nI (a + x) := fun a x => nI_add _ _
    have a5 : nI b + 5 = nI (b + 5) := nI_add _ 5
    have a35 : nI b + 35 = nI (b + 35) := nI_add _ 35
    have a59 : nI b + 59 = nI (b + 59) := nI_add _ 59
    have a77 : nI b + 77 = nI (b + 77) := nI_add _ 77
    have a78 : nI b + 78 = nI (b + 78) := nI_add _ 78
    have a79 : nI b + 79 = nI (b + 79) := nI_add _ 79
    have fin : jJ kB_X8_restore (d + 1) k 9 [mR 8 0 0, mI v1, mI (nI b), mI (nI 18)] [] (reM M b) := by
      refine v_X8_restore_9 _ _ _ (ifle (a := 18) (b := 18) (by decide) (by decide) (fun _ => ⟨vpn _ a77 (by omega) (by decide), vpn _ a78 (by omega) (by decide), vpn _ a79 (by omega) (by decide), ?_⟩) (fun x => by omega))
      rw [cln _ a77 (by omega), cln _ a78 (by omega), cln _ a79 (by omega), reM_out (by decide), reM_out (by decide), reM_out (by decide), n3, n5, n6]
      have := h (up (up (up (reM M b) 0 4 (nI (vn (I (tn v1))))) 0 6 (nI (vb (I (tn v1))))) 0 7 (nI (vf (I (tn v1))))) (fun k j q => by rw [up_k (by omega), up_k (by omega), up_k (by omega)]; exact reM_out (by omega)) (by
        unfold resN
        rw [if_pos hre]
        have o : ∀ k, k ≠ 0 → ∀ j, (up (up (up (reM M b) 0 4 (nI (vn (I (tn v1))))) 0 6 (nI (vb (I (tn v1))))) 0 7 (nI (vf (I (tn v1))))) k j = reM M b k j := fun k q j => by rw [up_k q, up_k q, up_k q]
        have e12 : ∀ j, (up (up (up (reM M b) 0 4 (nI (vn (I (tn v1))))) 0 6 (nI (vb (I (tn v1))))) 0 7 (nI (vf (I (tn v1))))) 12 j = M 12 j := fun j => by rw [o 12 (by decide)]; exact reM_out (by decide)
        have e13 : ∀ j, (up (up (up (reM M b) 0 4 (nI (vn (I (tn v1))))) 0 6 (nI (vb (I (tn v1))))) 0 7 (nI (vf (I (tn v1))))) 13 j = M 13 j := fun j => by rw [o 13 (by decide)]; exact reM_out (by decide)
        refine ⟨⟨fun j hj => ?_, fun j hj => ?_, ?_, fun i hi => ?_, ?_, ?_, fun i hi => ?_⟩, ⟨?_, fun j hj => ?_⟩, fun t ht => ?_⟩
        · rw [o 1 (by decide)]
          unfold reM
          rw [cpD_out (by decide), cpD_out (by decide), cpD_out (by decide), cpD_in hj]
          exact n1 j hj
        · rw [o 2 (by decide)]
          unfold reM
          rw [cpD_out (by decide), cpD_out (by decide), cpD_in hj, cpD_out (by decide)]
          exact n2 j hj
        · rw [up_j (by decide), up_j (by decide), up_at]
        · have e4 : ∀ x, x < 24 → reM M b 4 x = M 12 (b + 35 + x) := fun x hx => by
            unfold reM
            rw [cpD_out (by decide), cpD_in hx, cpD_out (by decide), cpD_out (by decide)]
          rw [o 4 (by decide), o 4 (by decide), o 4 (by decide), e4 _ (by omega), e4 _ (by omega), e4 _ (by omega)]
          exact n4 i hi
        · rw [up_j (by decide), up_at]
        · rw [up_at]
        · have e5 : ∀ x, x < 18 → reM M b 5 x = M 12 (b + 59 + x) := fun x hx => by
            unfold reM
            rw [cpD_in hx, cpD_out (by decide), cpD_out (by decide), cpD_out (by decide)]
          rw [o 5 (by decide), o 5 (by decide), o 5 (by decide), e5 _ (by omega), e5 _ (by omega), e5 _ (by omega)]
          exact n7 i hi
        · rw [up_j (by decide), up_j (by decide), up_j (by decide), reM_out (by decide)]
          exact m2.1
        · rw [o 3 (by decide), reM_out (by decide)]
          exact m2.2 j hj
        · simp only [e12, e13]
          exact m3 t ht)
      rw [if_neg (fun x => x hok), if_pos hre] at this
      exact this
    have nine : ∀ r i, i + r = 18 → jJ kB_X8_restore (d + 1) k 9 [mR 8 0 0, mI v1, mI (nI b), mI (nI i)] [] (cpD (cpD (cpD (cpD M 1 b 5) 2 (b + 5) 30) 4 (b + 35) 24) 5 (b + 59) i) := by
      intro r
      induction r with
      | zero => intro i hi; rw [show i = 18 by omega]; exact fin
      | succ r ih =>
        intro i hi
        refine v_X8_restore_9 _ _ _ (ifle (a := 18) (b := i) (by decide) (by omega) (fun x => by omega) (fun _ => ?_))
        rw [a59, ad, nI_clamp (by omega), nI_clamp (by omega), nI_1, cpD_succ (by decide)]
        exact ⟨vp_in_nI (by omega) (by decide), vp_in_nI (by omega) (by decide), ih (i + 1) (by omega)⟩
    have seven : ∀ r i, i + r = 24 → jJ kB_X8_restore (d + 1) k 7 [mR 8 0 0, mI v1, mI (nI b), mI (nI i)] [] (cpD (cpD (cpD M 1 b 5) 2 (b + 5) 30) 4 (b + 35) i) := by
      intro r
      induction r with
      | zero =>
        intro i hi
        rw [show i = 24 by omega]
        have := nine 18 0 (by decide)
        rw [cpD_0] at this
        exact v_X8_restore_7 _ _ _ (ifle (a := 24) (b := 24) (by decide) (by decide) (fun _ => this) (fun x => by omega))
      | succ r ih =>
        intro i hi
        refine v_X8_restore_7 _ _ _ (ifle (a := 24) (b := i) (by decide) (by omega) (fun x => by omega) (fun _ => ?_))
        rw [a35, ad, nI_clamp (by omega), nI_clamp (by omega), nI_1, cpD_succ (by decide)]
        exact ⟨vp_in_nI (by omega) (by decide), vp_in_nI (by omega) (by decide), ih (i + 1) (by omega)⟩
    have five : ∀ r i, i + r = 30 → jJ kB_X8_restore (d + 1) k 5 [mR 8 0 0, mI v1, mI (nI b), mI (nI i)] [] (cpD (cpD M 1 b 5) 2 (b + 5) i) := by
      intro r
      induction r with
      | zero =>
        intro i hi
        rw [show i = 30 by omega]
        have := seven 24 0 (by decide)
        rw [cpD_0] at this
        exact v_X8_restore_5 _ _ _ (ifle (a := 30) (b := 30) (by decide) (by decide) (fun _ => this) (fun x => by omega))
      | succ r ih =>
        intro i hi
        refine v_X8_restore_5 _ _ _ (ifle (a := 30) (b := i) (by decide) (by omega) (fun x => by omega) (fun _ => ?_))
        rw [a5, ad, nI_clamp (by omega), nI_clamp (by omega), nI_1, cpD_succ (by decide)]
        exact ⟨vp_in_nI (by omega) (by decide), vp_in_nI (by omega) (by decide), ih (i + 1) (by omega)⟩
    have three : ∀ r i, i + r = 5 → jJ kB_X8_restore (d + 1) k 3 [mR 8 0 0, mI v1, mI (nI b), mI (nI i)] [] (cpD M 1 b i) := by
      intro r
      induction r with
      | zero =>
        intro i hi
        rw [show i = 5 by omega]
        have := five 30 0 (by decide)
        rw [cpD_0] at this
        exact v_X8_restore_3 _ _ _ (ifle (a := 5) (b := 5) (by decide) (by decide) (fun _ => this) (fun x => by omega))
      | succ r ih =>
        intro i hi
        refine v_X8_restore_3 _ _ _ (ifle (a := 5) (b := i) (by decide) (by omega) (fun x => by omega) (fun _ => ?_))
        rw [ad, nI_clamp (by omega), nI_clamp (by omega), nI_1, cpD_succ (by decide)]
        exact ⟨vp_in_nI (by omega) (by decide), vp_in_nI (by omega) (by decide), ih (i + 1) (by omega)⟩
    have := three 5 0 (by decide)
    rw [cpD_0] at this
    exact this
  · have := stay (fun x => by have y := x.2; rw [et] at y; cases y)
    rw [if_neg (fun x => x hok), if_neg (fun x => by have y := x.2; rw [et] at y; cases y)] at this
    exact this
