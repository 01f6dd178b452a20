/-! UPDATES: image -/
abbrev ok01 (v1 : Int32) : Prop := 0 ≤ v1.toInt ∧ v1.toInt ≤ 1
def imgV (v1 : Int32) : Int32 := if ok01 v1 then 1 else -2
def imgK (K : Nat) (v1 : Int32) : Nat := if ok01 v1 then K ||| 2 ^ tn v1 else K
def imgI (V : AV) (I : Nat → AV) (v1 : Int32) : Nat → AV := if ok01 v1 then (fun q => if q = tn v1 then V else I q) else I
theorem sp_imageOf {d : Nat} {k : mQ} {M : mM} {t : Nat} (ht : t < 2) (h : k (mR 6 0 (46 + 11 * t)) M) : wpD mB mNL (d + 1) zX7_imageOf [mR 7 0 14, mI (nI t)] M k := by
  refine v_X7_imageOf_0 _ ?_
  rcases (by omega : t = 0 ∨ t = 1) with rfl | rfl
  · exact ⟨fun x => absurd rfl x, fun _ => h⟩
  · exact ⟨fun _ => h, fun x => absurd x (by decide)⟩
theorem cx_image {d : Nat} {k : mQ} {M : mM} {V : AV} {c K : Nat} {p : Nat → Nat} {I : Nat → AV} {v1 : Int32} (hC : CS V c p K I M) (h : ∀ M', CFr M M' → CS V c p (imgK K v1) (imgI V I v1) M' → k (mI (imgV v1)) M') : wpD mB mNL (d + 4) zX7_image [mR 7 0 14, mI v1] M k := by
  obtain ⟨h1, h2, ⟨h3, h4, h5⟩, ⟨h6, h7, h8⟩, h9⟩ := id hC
  have stay : ¬ ok01 v1 → k (mI (-2)) M := fun e => by
    have := h M (fun _ _ _ => rfl) (by unfold imgK imgI; rw [if_neg e, if_neg e]; exact hC)
    unfold imgV at this
    rw [if_neg e] at this
    exact this
  refine v_X7_image_0 _ ?_
  rw [lt_zi, lt_zi, li0, li2]
  refine ⟨fun q => stay (by omega), fun q1 => ⟨fun q2 => ?_, fun q => stay (by omega)⟩⟩
  have hok : ok01 v1 := ⟨by omega, by omega⟩
  have a1 : v1 = nI (tn v1) := tn_eq (by omega)
  have b1 : tn v1 < 2 := tn_lt (by omega) (by omega)
  refine wpD_at (as' := [mR 7 0 14, mI (nI (tn v1))]) (by rw [← a1]) (sp_imageOf (d := d + 2) b1 ?_)
  refine sp_copyValley (d := d) (o := 46 + 11 * tn v1) (a := 35) (by omega) ?_
  have fr : ∀ k j, k < 46 ∨ 67 < k → cpyV M 35 (46 + 11 * tn v1) k j = M k j := fun k j q => cpyV_out (by omega)
  have e14 : cpyV M 35 (46 + 11 * tn v1) 14 4 ||| 1 <<< (v1 &&& 31) = nI (K ||| 2 ^ tn v1) := by
    rw [fr 14 4 (by decide), h7]
    conv => lhs; rw [a1]
    rw [sh_small (by omega), nI_or]
  show k (mI 1) (up _ 14 4 (cpyV M 35 (46 + 11 * tn v1) 14 4 ||| 1 <<< (v1 &&& 31)))
  rw [e14]
  have := h (up (cpyV M 35 (46 + 11 * tn v1)) 14 4 (nI (K ||| 2 ^ tn v1))) (fun k j q => by rw [up_k (by omega)]; exact fr k j (by omega)) (by
    unfold imgK imgI
    rw [if_pos hok, if_pos hok]
    refine ⟨h1, h2.of (fun k j a b => by rw [up_k (by omega)]; exact fr k j (by omega)), ⟨h3, by rw [up_k (by decide), fr _ _ (by decide)]; exact h4, fun j hj => by rw [up_k (by decide), fr _ _ (by decide)]; exact h5 j hj⟩, ⟨?_, up_at _ _ _ _, fun t ht e => ?_⟩, h9.of (fun k j a => by rw [up_k (by omega)]; exact fr k j (by omega))⟩
    · exact Nat.or_lt_two_pow (n := 2) h6 (Nat.pow_lt_pow_right (by decide) b1)
    · by_cases q : t = tn v1
      · simp only [q, if_true]
        exact ⟨h1, (VC.ofCpy h1 h2 (by omega)).of (fun k j a b => up_k (by omega))⟩
      · simp only [q, if_false]
        rw [Nat.testBit_or, Nat.testBit_two_pow, decide_eq_false (fun x => q x.symm), Bool.or_false] at e
        have := h8 t ht e
        refine ⟨this.1, this.2.of (fun k j a b => ?_)⟩
        rw [up_k (by omega)]
        exact cpyV_out (by omega))
  unfold imgV at this
  rw [if_pos hok] at this
  exact this
/-- a row into the model's images -/
def cpR (M : mM) (src off L : Nat) : mM := fun k j => if k = 12 ∧ off ≤ j ∧ j < off + L then M src (j - off) else M k j
theorem cpR_0 (M : mM) (src off : Nat) : cpR M src off 0 = M := by
  funext k j
  unfold cpR
  rw [if_neg (by omega)]
theorem cpR_succ {M : mM} {src off i : Nat} (h : src ≠ 12) : up (cpR M src off i) 12 (off + i) (cpR M src off i src i) = cpR M src off (i + 1) := by
  funext k j
  simp only [cpR, up]
  by_cases hk : k = 12
  · by_cases hj : j = off + i
    · subst hk hj
      simp [h]
    · by_cases h2 : off ≤ j ∧ j < off + i
      · have h3 : off ≤ j ∧ j < off + (i + 1) := by omega
        simp [hk, hj, h2, h3]
      · have h3 : ¬ (off ≤ j ∧ j < off + (i + 1)) := by omega
        simp only [hk, hj, and_false, if_false, true_and, h2, h3]
  · simp [hk]
theorem cpR_out {M : mM} {src off L k j : Nat} (h : k ≠ 12 ∨ j < off ∨ off + L ≤ j) : cpR M src off L k j = M k j := by
  unfold cpR
  rw [if_neg (by omega)]
theorem cpR_in {M : mM} {src off L j : Nat} (h : j < L) : cpR M src off L 12 (off + j) = M src j := by
  unfold cpR
  rw [if_pos (by omega)]
  congr 1
  omega
/-- the model's image -/
def imM (M : mM) (b : Nat) : mM := cpR (cpR (cpR (cpR M 1 b 5) 2 (b + 5) 30) 4 (b + 35) 24) 5 (b + 59) 18
theorem imM_out {M : mM} {b k j : Nat} (h : k ≠ 12 ∨ j < b ∨ b + 77 ≤ j) : imM M b k j = M k j := by
  unfold imM
  rw [cpR_out (by omega), cpR_out (by omega), cpR_out (by omega), cpR_out (by omega)]
theorem cm_image {d : Nat} {k : mQ} {M : mM} {V : AV} {c K : Nat} {p : Nat → Nat} {I : Nat → AV} {v1 : Int32} (hn : vn V ≤ 8 ∧ vf V ≤ 6) (hi : ∀ t, t < 2 → K.testBit t = true → vn (I t) ≤ 8 ∧ vf (I t) ≤ 6) (hM : MS V c p K I M) (h : ∀ M', MFr M M' → MS V c p (imgK K v1) (imgI V I v1) M' → k (mI (imgV v1)) M') : wpD mB mNL (d + 2) zX8_image [mR 8 0 0, mI v1] M k := by
  have stay : ¬ ok01 v1 → k (mI (-2)) M := fun e => by
    have := h M (fun _ _ _ => rfl) (by unfold imgK imgI; rw [if_neg e, if_neg e]; exact hM)
    unfold imgV at this
    rw [if_neg e] at this
    exact this
  refine v_X8_image_0 _ (sp_inC (fun e => ⟨fun x => absurd rfl x, fun _ => stay (by rw [li0, li1] at e; exact e)⟩) (fun e => ⟨fun _ => ?_, fun x => absurd x (by decide)⟩))
  rw [li0, li1] at e
  have hok : ok01 v1 := e
  have a1 : v1 = nI (tn v1) := tn_eq (by omega)
  have b1 : tn v1 < 2 := tn_lt (by omega) (by omega)
  have e80 : (80 : Int32) * v1 = nI (80 * tn v1) := by
    conv => lhs; rw [a1]
    rw [show (80 : Int32) = nI 80 from rfl, pk_mul]
  rw [e80]
  generalize hb : 80 * tn v1 = b at *
  have hb160 : b + 80 ≤ 160 := by omega
  have ad : ∀ a x, nI a + nI x = nI (a + x) := fun a x => nI_add _ _
  have a5 : nI b + 5 = nI (b + 5) := nI_add _ 5
  have a35 : nI b + 35 = nI (b + 35) := nI_add _ 35
  have a59 : nI b + 59 = nI (b + 59) := nI_add _ 59
  have a77 : nI b + 77 = nI (b + 77) := nI_add _ 77
  have a78 : nI b + 78 = nI (b + 78) := nI_add _ 78
  have a79 : nI b + 79 = nI (b + 79) := nI_add _ 79
  have fin : jJ kB_X8_image (d + 1) k 8 [mR 8 0 0, mI v1, mI (nI b), mI (nI 18)] [] (imM M b) := by
    refine v_X8_image_8 _ _ _ (ifle (a := 18) (b := 18) (by decide) (by decide) (fun _ => ⟨vpn _ a77 (by omega) (by decide), vpn _ a78 (by omega) (by decide), vpn _ a79 (by omega) (by decide), vpn _ a1 b1 (by decide), ?_⟩) (fun x => by omega))
    rw [cln _ a77 (by omega), cln _ a78 (by omega), cln _ a79 (by omega), cln _ a1 (by omega), imM_out (by omega), imM_out (by omega), imM_out (by omega), show vp_nar .boolean 1 = bI true from by decide]
    have := h (up (up (up (up (imM M b) 12 (b + 77) (M 0 4)) 12 (b + 78) (M 0 6)) 12 (b + 79) (M 0 7)) 13 (tn v1) (bI true)) (fun k j q => by rw [up_k (by omega), up_k (by omega), up_k (by omega), up_k (by omega)]; exact imM_out (by omega)) (by
      unfold imgK imgI
      rw [if_pos hok, if_pos hok]
      have lo : ∀ k j, k < 12 → (up (up (up (up (imM M b) 12 (b + 77) (M 0 4)) 12 (b + 78) (M 0 6)) 12 (b + 79) (M 0 7)) 13 (tn v1) (bI true)) k j = M k j := fun k j q => by rw [up_k (by omega), up_k (by omega), up_k (by omega), up_k (by omega)]; exact imM_out (by omega)
      have lo' : ∀ k, k < 12 → (up (up (up (up (imM M b) 12 (b + 77) (M 0 4)) 12 (b + 78) (M 0 6)) 12 (b + 79) (M 0 7)) 13 (tn v1) (bI true)) k = M k := fun k q => funext fun j => lo k j q
      have r12 : ∀ j, (up (up (up (up (imM M b) 12 (b + 77) (M 0 4)) 12 (b + 78) (M 0 6)) 12 (b + 79) (M 0 7)) 13 (tn v1) (bI true)) 12 j = if j = b + 79 then M 0 7 else if j = b + 78 then M 0 6 else if j = b + 77 then M 0 4 else imM M b 12 j := fun j => by
        rw [up_k (by decide)]
        simp only [up, true_and]
      obtain ⟨m1, m2, m3⟩ := id hM
      refine ⟨?_, ?_, fun t ht => ⟨?_, fun et => ?_⟩⟩
      · rw [lo' 1 (by decide), lo' 2 (by decide), lo' 4 (by decide), lo' 5 (by decide), lo' 0 (by decide)]
        exact m1
      · rw [lo' 0 (by decide), lo' 3 (by decide)]
        exact m2
      · rw [Nat.testBit_or, Nat.testBit_two_pow]
        by_cases q : t = tn v1
        · rw [q, up_at, decide_eq_true rfl, Bool.or_true]
        · rw [up_j q, up_k (by decide), up_k (by decide), up_k (by decide), imM_out (by omega), decide_eq_false (fun x => q x.symm), Bool.or_false]
          exact (m3 t ht).1
      · by_cases q : t = tn v1
        · simp only [q, if_true, hb]
          obtain ⟨n1, n2, n3, n4, n5, n6, n7⟩ := m1
          have inn : ∀ j, j < b + 77 → (up (up (up (up (imM M b) 12 (b + 77) (M 0 4)) 12 (b + 78) (M 0 6)) 12 (b + 79) (M 0 7)) 13 (tn v1) (bI true)) 12 j = imM M b 12 j := fun j hj => by
            rw [r12, if_neg (by omega), if_neg (by omega), if_neg (by omega)]
          refine ⟨fun j hj => ?_, fun j hj => ?_, ?_, fun i hi => ?_, ?_, ?_, fun i hi => ?_⟩
          · dsimp only
            rw [inn _ (by omega)]
            unfold imM
            rw [cpR_out (by omega), cpR_out (by omega), cpR_out (by omega), cpR_in hj]
            exact n1 j hj
          · dsimp only
            rw [inn _ (by omega)]
            unfold imM
            rw [cpR_out (by omega), cpR_out (by omega), cpR_in hj, cpR_out (by omega)]
            exact n2 j hj
          · rw [r12, if_neg (by omega), if_neg (by omega), if_pos rfl]
            exact n3
          · have e4 : ∀ x, x < 24 → imM M b 12 (b + 35 + x) = M 4 x := fun x hx => by
              unfold imM
              rw [cpR_out (by omega), cpR_in hx, cpR_out (by omega), cpR_out (by omega)]
            dsimp only
            rw [inn _ (by omega), inn _ (by omega), inn _ (by omega), e4 _ (by omega), e4 _ (by omega), e4 _ (by omega)]
            exact n4 i hi
          · rw [r12, if_neg (by omega), if_pos rfl]
            exact n5
          · rw [r12, if_pos rfl]
            exact n6
          · have e5 : ∀ x, x < 18 → imM M b 12 (b + 59 + x) = M 5 x := fun x hx => by
              unfold imM
              rw [cpR_in hx, cpR_out (by omega), cpR_out (by omega), cpR_out (by omega)]
            dsimp only
            rw [inn _ (by omega), inn _ (by omega), inn _ (by omega), e5 _ (by omega), e5 _ (by omega), e5 _ (by omega)]
            exact n7 i hi
        · simp only [q, if_false]
          rw [Nat.testBit_or, Nat.testBit_two_pow, decide_eq_false (fun x => q x.symm), Bool.or_false] at et
          have ot : ∀ j, 80 * t ≤ j → j < 80 * t + 80 → (up (up (up (up (imM M b) 12 (b + 77) (M 0 4)) 12 (b + 78) (M 0 6)) 12 (b + 79) (M 0 7)) 13 (tn v1) (bI true)) 12 j = M 12 j := fun j q1 q2 => by
            rw [r12, if_neg (by omega), if_neg (by omega), if_neg (by omega), imM_out (by omega)]
          obtain ⟨n1, n2, n3, n4, n5, n6, n7⟩ := (m3 t ht).2 et
          obtain ⟨i8, i6⟩ := hi t ht et
          refine ⟨fun j hj => ?_, fun j hj => ?_, ?_, fun i hi => ?_, ?_, ?_, fun i hi => ?_⟩
          · dsimp only
            rw [ot _ (by omega) (by omega)]; exact n1 j hj
          · dsimp only
            rw [ot _ (by omega) (by omega)]; exact n2 j hj
          · rw [ot _ (by omega) (by omega)]; exact n3
          · dsimp only
            rw [ot _ (by omega) (by omega), ot _ (by omega) (by omega), ot _ (by omega) (by omega)]; exact n4 i hi
          · rw [ot _ (by omega) (by omega)]; exact n5
          · rw [ot _ (by omega) (by omega)]; exact n6
          · dsimp only
            rw [ot _ (by omega) (by omega), ot _ (by omega) (by omega), ot _ (by omega) (by omega)]; exact n7 i hi)
    unfold imgV at this
    rw [if_pos hok] at this
    exact this
  have eight : ∀ r i, i + r = 18 → jJ kB_X8_image (d + 1) k 8 [mR 8 0 0, mI v1, mI (nI b), mI (nI i)] [] (cpR (cpR (cpR (cpR M 1 b 5) 2 (b + 5) 30) 4 (b + 35) 24) 5 (b + 59) i) := by
    intro r
    induction r with
    | zero => intro i hi; rw [show i = 18 by omega]; exact fin
    | succ r ih =>
      intro i hi
      refine v_X8_image_8 _ _ _ (ifle (a := 18) (b := i) (by decide) (by omega) (fun x => by omega) (fun _ => ?_))
      rw [a59, ad, nI_clamp (by omega), nI_clamp (by omega), nI_1, cpR_succ (by decide)]
      exact ⟨vp_in_nI (by omega) (by decide), vp_in_nI (by omega) (by decide), ih (i + 1) (by omega)⟩
  have six : ∀ r i, i + r = 24 → jJ kB_X8_image (d + 1) k 6 [mR 8 0 0, mI v1, mI (nI b), mI (nI i)] [] (cpR (cpR (cpR M 1 b 5) 2 (b + 5) 30) 4 (b + 35) i) := by
    intro r
    induction r with
    | zero =>
      intro i hi
      rw [show i = 24 by omega]
      have := eight 18 0 (by decide)
      rw [cpR_0] at this
      exact v_X8_image_6 _ _ _ (ifle (a := 24) (b := 24) (by decide) (by decide) (fun _ => this) (fun x => by omega))
    | succ r ih =>
      intro i hi
      refine v_X8_image_6 _ _ _ (ifle (a := 24) (b := i) (by decide) (by omega) (fun x => by omega) (fun _ => ?_))
      rw [a35, ad, nI_clamp (by omega), nI_clamp (by omega), nI_1, cpR_succ (by decide)]
      exact ⟨vp_in_nI (by omega) (by decide), vp_in_nI (by omega) (by decide), ih (i + 1) (by omega)⟩
  have four : ∀ r i, i + r = 30 → jJ kB_X8_image (d + 1) k 4 [mR 8 0 0, mI v1, mI (nI b), mI (nI i)] [] (cpR (cpR M 1 b 5) 2 (b + 5) i) := by
    intro r
    induction r with
    | zero =>
      intro i hi
      rw [show i = 30 by omega]
      have := six 24 0 (by decide)
      rw [cpR_0] at this
      exact v_X8_image_4 _ _ _ (ifle (a := 30) (b := 30) (by decide) (by decide) (fun _ => this) (fun x => by omega))
    | succ r ih =>
      intro i hi
      refine v_X8_image_4 _ _ _ (ifle (a := 30) (b := i) (by decide) (by omega) (fun x => by omega) (fun _ => ?_))
      rw [a5, ad, nI_clamp (by omega), nI_clamp (by omega), nI_1, cpR_succ (by decide)]
      exact ⟨vp_in_nI (by omega) (by decide), vp_in_nI (by omega) (by decide), ih (i + 1) (by omega)⟩
  have two : ∀ r i, i + r = 5 → jJ kB_X8_image (d + 1) k 2 [mR 8 0 0, mI v1, mI (nI b), mI (nI i)] [] (cpR M 1 b i) := by
    intro r
    induction r with
    | zero =>
      intro i hi
      rw [show i = 5 by omega]
      have := four 30 0 (by decide)
      rw [cpR_0] at this
      exact v_X8_image_2 _ _ _ (ifle (a := 5) (b := 5) (by decide) (by decide) (fun _ => this) (fun x => by omega))
    | succ r ih =>
      intro i hi
      refine v_X8_image_2 _ _ _ (ifle (a := 5) (b := i) (by decide) (by omega) (fun x => by omega) (fun _ => ?_))
      rw [ad, nI_clamp (by omega), nI_clamp (by omega), nI_1, cpR_succ (by decide)]
      exact ⟨vp_in_nI (by omega) (by decide), vp_in_nI (by omega) (by decide), ih (i + 1) (by omega)⟩
  have := two 5 0 (by decide)
  rw [cpR_0] at this
  exact this
