/-! THE CLASS' COURSE -/
theorem sp_springZ {d : Nat} {k : mQ} {M : mM} {o i : Nat} {sp kv : Nat → Int} (hH : Hyd sp kv M (o + 1) (o + 2)) (hi : i < 5) (h : k (mI (zi (sp i))) M) : wpD mB mNL (d + 2) zX6_springValue [mR 6 0 o, mI (nI i)] M k :=
  sp_springValue hi (by rw [hH.1 i hi]; exact h)
theorem sp_kindZ {d : Nat} {k : mQ} {M : mM} {o w c : Nat} {sp kv : Nat → Int} (hH : Hyd sp kv M (o + 1) (o + 2)) (hw : w < 5) (hc : c < 6) (h : k (mI (zi (kv (6 * w + c)))) M) : wpD mB mNL (d + 2) zX6_kindValue [mR 6 0 o, mI (nI w), mI (nI c)] M k :=
  sp_kindValue hw hc (by rw [hH.2 _ (by omega)]; exact h)
theorem Hyd.of {sp kv : Nat → Int} {M M' : mM} {s q : Nat} (h : Hyd sp kv M s q) (hs : ∀ j, M' s j = M s j) (hq : ∀ j, M' q j = M q j) : Hyd sp kv M' s q :=
  ⟨fun j hj => by rw [hs]; exact h.1 j hj, fun j hj => by rw [hq]; exact h.2 j hj⟩
theorem Hyd.up {sp kv : Nat → Int} {M : mM} {s q k j : Nat} {v : Int32} (h : Hyd sp kv M s q) (hs : s ≠ k) (hq : q ≠ k) : Hyd sp kv (up M k j v) s q :=
  h.of (fun _ => up_k hs) (fun _ => up_k hq)
/-- the lane at o is that of G, n houses -/
def LnC (G : LG) (M : mM) (o n : Nat) : Prop := M o 0 = nI n ∧ ∀ h, h < n → M (o + 1) h = nI (kdH G h) ∧ M (o + 2) h = zi (loH G h) ∧ M (o + 3) h = zi (brH G h)
theorem LnC.of {G : LG} {M M' : mM} {o n : Nat} (h : LnC G M o n) (h0 : ∀ k j, o ≤ k → k ≤ o + 3 → M' k j = M k j) : LnC G M' o n :=
  ⟨by rw [h0 o 0 (by omega) (by omega)]; exact h.1, fun i hi => ⟨by rw [h0 _ i (by omega) (by omega)]; exact (h.2 i hi).1, by rw [h0 _ i (by omega) (by omega)]; exact (h.2 i hi).2.1, by rw [h0 _ i (by omega) (by omega)]; exact (h.2 i hi).2.2⟩⟩
theorem nI_1eq : (1 : Int32) = nI 1 := rfl
set_option maxHeartbeats 4000000 in
theorem sp_meetHouse {d : Nat} {k : mQ} {M : mM} {i c hour : Nat} {sp kv : Nat → Int} {F Q : Int} {b : Bool} (hR : Rng sp kv) (hH : Hyd sp kv M 36 37) (hi : i < 8) (hk : M 39 i = nI c) (hc : c < 6) (hh : hour < 6) (hW : WB F Q)
    (h1 : harmB kv c F Q = true → k (mI 0) (up M 23 1 (M 23 1 ||| nI (2 ^ i)))) (h2 : harmB kv c F Q = false → (b && canB sp kv hour c F Q) = false → k (mI 0) M)
    (h3 : harmB kv c F Q = false → (b && canB sp kv hour c F Q) = true → k (mI (zi (kv (12 + c)))) (up (up M 23 0 (M 23 0 ||| nI (2 ^ i))) 23 4 (M 23 4 + zi (kv (12 + c))))) :
    wpD mB mNL (d + 4) zX0_meetHouse [mR 0 0 23, mI (nI i), mI (nI hour), mI (zi F), mI (zi Q), mI (bI b)] M k := by
  refine v_X0_meetHouse_0 _ _ _ _ _ (sp_kindOf hi ?_)
  refine wpD_at (as' := [mR 6 0 35, mI (nI c), mI (zi F), mI (zi Q)]) (by rw [← hk]) ?_
  refine sp_isHarmed hR hH hc hW (ifb (fun e1 => ifb (fun e2 => ?_) (fun e2 => ?_)) (fun e1 => ?_))
  · exact h2 e1 (by rw [e2]; rfl)
  · refine wpD_at (as' := [mR 6 0 35, mI (nI c), mI (nI hour), mI (zi F), mI (zi Q)]) (by rw [← hk]) ?_
    refine sp_isServed hR hH hc hh hW (ifb' (fun e3 => ?_) (fun e3 => ?_))
    · refine wpD_at (as' := [mR 6 0 35, mI (nI 2), mI (nI c)]) (by rw [← hk]; rfl) ?_
      refine sp_kindZ (hH.up (by decide) (by decide)) (by decide) hc ?_
      refine wpD_at (as' := [mR 6 0 35, mI (nI 2), mI (nI c)]) (by rw [← hk]; rfl) ?_
      refine sp_kindZ ((hH.up (by decide) (by decide)).up (by decide) (by decide)) (by decide) hc ?_
      have h4 := h3 e1 (by rw [e2, e3]; rfl)
      rw [← sh_small (show i < 31 by omega)] at h4
      exact h4
    · exact h2 e1 (by rw [e2, e3]; rfl)
  · rw [← sh_small (show i < 31 by omega)] at h1
    exact h1 e1
def FInv (G : LG) (L D hour : Nat) (w : Int) (M0 M : mM) (i : Nat) : Prop :=
  (∀ k j, k < 23 ∨ 25 < k → M k j = M0 k j) ∧ M 23 0 = nI (svN G L D hour w i) ∧ M 23 1 = nI (hmN G L D hour w i) ∧ M 23 3 = zi (lsN G L D hour w i) ∧ M 23 4 = zi (tkN G L D hour w i) ∧ ∀ h, h < i → M 24 h = zi (arF G L D hour w h) ∧ M 25 h = zi (arQ G L D hour w h)
/-- what the course knows when it has followed the lane's n houses -/
def FEnd (G : LG) (L D hour : Nat) (w : Int) (n : Nat) (M0 M : mM) : Prop :=
  FInv G L D hour w M0 M n ∧ M 24 n = zi (fl G L D hour w n).1 ∧ M 25 n = zi (fl G L D hour w n).2 ∧ M 23 2 = nI (wrN G L D hour w n)
theorem nI_or_pow {a h : Nat} (ha : a < 2 ^ h) : nI a ||| nI (2 ^ h) = nI (a + 2 ^ h) := by rw [nI_or, or_pow ha]
theorem brB_lt {L : Nat} {b : Int} (h : brB L b = true) : 0 ≤ b ∧ L.testBit b.toNat = true := by
  unfold brB at h
  simpa using h
set_option maxHeartbeats 4000000 in
theorem sp_follow {d : Nat} {k : mQ} {M : mM} {G : LG} {L D hour n b : Nat} {w : Int} (hR : Rng (gS G) (gK G)) (hH : Hyd (gS G) (gK G) M 36 37) (hw : 0 ≤ w ∧ w ≤ 1000) (hLn : LnC G M 38 n) (hn : n ≤ 8) (hLR : LR G n b) (hb : b ≤ 4) (hh : hour < 6) (hL : L < 16) (hD : D < 2147483648)
    (h : ∀ M', FEnd G L D hour w n M M' → k none M') : wpD mB mNL (d + 5) zX0_follow [mR 0 0 23, mI (zi w), mI (nI hour), mI (nI L), mI (nI D)] M k := by
  have key : ∀ r i M1 u, i + r = n → FInv G L D hour w M M1 i → jJ kB_X0_follow (d + 4) k 1 [mR 0 0 23, mI (zi w), mI (nI hour), mI (nI L), mI (nI D), mR 2 0 38, mI (zi (fl G L D hour w i).1), mI (zi (fl G L D hour w i).2), mI (nI i), u] [] M1 := by
    intro r
    induction r with
    | zero =>
      intro i M1 u hi hI
      obtain ⟨i1, i2, i3, i4, i5, i6⟩ := id hI
      have hin : i = n := by omega
      subst hin
      have e0 : M1 38 0 = nI i := by rw [i1 38 0 (by omega)]; exact hLn.1
      refine v_X0_follow_1 _ _ _ _ _ _ _ _ ?_
      rw [e0]
      refine ifle (by omega) (by omega) (fun _ => ?_) (fun c => by omega)
      refine sp_setCell (i := i) (by omega) (by decide) ?_
      refine wpD_at (as' := [mR 50 9 25, mI (nI i), mI (zi (fl G L D hour w i).2)]) (by rw [up_k (by decide), e0]) ?_
      refine sp_setCell (i := i) (by omega) (by decide) (h _ ⟨⟨fun k j hk => ?_, ?_, ?_, ?_, ?_, fun h hh => ⟨?_, ?_⟩⟩, ?_, ?_, ?_⟩)
      · rw [up_k (by omega), up_k (by omega), up_k (by omega)]; exact i1 k j hk
      · rw [up_j (by decide), up_k (by decide), up_k (by decide)]; exact i2
      · rw [up_j (by decide), up_k (by decide), up_k (by decide)]; exact i3
      · rw [up_j (by decide), up_k (by decide), up_k (by decide)]; exact i4
      · rw [up_j (by decide), up_k (by decide), up_k (by decide)]; exact i5
      · rw [up_k (by decide), up_k (by decide), up_j (by omega)]; exact (i6 h hh).1
      · rw [up_k (by decide), up_j (by omega), up_k (by decide)]; exact (i6 h hh).2
      · rw [up_k (by decide), up_k (by decide), up_at]
      · rw [up_k (by decide), up_at]
      · rw [up_at, up_k (by decide), up_k (by decide), up_k (by decide), up_k (by decide), i2, i3, nI_not, nI_or]
        rfl
    | succ r ih =>
      intro i M1 u hi hI
      obtain ⟨i1, i2, i3, i4, i5, i6⟩ := id hI
      have e0 : M1 38 0 = nI n := by rw [i1 38 0 (by omega)]; exact hLn.1
      have hln := hLn.2 i (by omega)
      have hlr := hLR i (by omega)
      have hH1 : Hyd (gS G) (gK G) M1 36 37 := hH.of (fun j => i1 36 j (by omega)) (fun j => i1 37 j (by omega))
      have bd := fl_bd (L := L) (D := D) (hour := hour) hR hw hLR i (by omega)
      have abd := ars_bd (L := L) (D := D) (hour := hour) hR hw hLR (h := i) (by omega)
      -- behind the brook
      have back : ∀ M2, (∀ k j, k ≠ 23 → M2 k j = M1 k j) → M2 23 0 = M1 23 0 → M2 23 1 = M1 23 1 → M2 23 3 = zi (lsN G L D hour w (i + 1)) → M2 23 4 = M1 23 4 → ∀ v9, jJ kB_X0_follow (d + 4) k 2 [mR 0 0 23, mI (zi w), mI (nI hour), mI (nI L), mI (nI D), mR 2 0 38, mI (zi (arF G L D hour w i)), mI (zi (arQ G L D hour w i)), mI (nI i), mI v9] [] M2 := by
        intro M2 m0 m1 m2 m3 m4 v9
        refine v_X0_follow_2 _ _ _ _ _ _ _ _ (sp_setCell (i := i) (by omega) (by decide) (sp_setCell (i := i) (by omega) (by decide) (sp_hasBit hD (by omega) ?_)))
        have hH3 : Hyd (gS G) (gK G) (up (up M2 24 i (zi (arF G L D hour w i))) 25 i (zi (arQ G L D hour w i))) 36 37 := (hH1.of (fun j => m0 36 j (by decide)) (fun j => m0 37 j (by decide))).up (by decide) (by decide) |>.up (by decide) (by decide)
        have hk3 : (up (up M2 24 i (zi (arF G L D hour w i))) 25 i (zi (arQ G L D hour w i))) 39 i = nI (kdH G i) := by rw [up_k (by decide), up_k (by decide), m0 39 i (by decide), i1 39 i (by omega)]; exact hln.1
        have fin : ∀ (M3 : mM) (v : Int32), v = (if isS G L D hour w i then zi (wtK G i) else 0) → (∀ k j, k ≠ 23 → k ≠ 24 → k ≠ 25 → M3 k j = M2 k j) → M3 23 0 = nI (svN G L D hour w (i + 1)) → M3 23 1 = nI (hmN G L D hour w (i + 1)) → M3 23 3 = M2 23 3 → M3 23 4 = zi (tkN G L D hour w (i + 1)) → (∀ j, M3 24 j = (up M2 24 i (zi (arF G L D hour w i))) 24 j) → (∀ j, M3 25 j = (up M2 25 i (zi (arQ G L D hour w i))) 25 j) →
            jJ kB_X0_follow (d + 4) k 1 [mR 0 0 23, mI (zi w), mI (nI hour), mI (nI L), mI (nI D), mR 2 0 38, mI (zi (arF G L D hour w i)), mI (zi (arQ G L D hour w i) - v), mI (nI i + 1), mI v9] [] M3 := by
          intro M3 v hv n0 n1 n2 n3 n4 n5 n6
          have e1 : zi (arQ G L D hour w i) - v = zi (fl G L D hour w (i + 1)).2 := by
            rw [fl_succ, hv]
            split
            · rw [zi_sub]
            · rw [show (0 : Int32) = zi 0 from rfl, zi_sub, Int.sub_zero]
          rw [e1, nI_1]
          refine ih (i + 1) M3 _ (by omega) ⟨fun k j hk => ?_, n1, n2, by rw [n3, m3], n4, fun h hh => ?_⟩
          · rw [n0 k j (by omega) (by omega) (by omega), m0 k j (by omega)]; exact i1 k j hk
          · rw [n5, n6]
            by_cases e : h = i
            · subst e
              exact ⟨up_at _ _ _ _, up_at _ _ _ _⟩
            · rw [up_j e, up_j e, m0 24 h (by decide), m0 25 h (by decide)]
              exact i6 h (by omega)
        refine sp_meetHouse hR hH3 (by omega) hk3 hlr.1 hh (abd.wb (by omega)) (fun e => ?_) (fun e e2 => ?_) (fun e e2 => ?_)
        · have hs : isS G L D hour w i = false := by unfold isS svB haB; rw [e]; simp
          have hm : isH G L D hour w i = true := e
          refine fin _ _ (by rw [hs]; rfl) (fun k j k1 k2 k3 => ?_) ?_ ?_ ?_ ?_ (fun j => ?_) (fun j => ?_)
          · rw [up_k k1, up_k k3, up_k k2]
          · rw [up_j (by decide), up_k (by decide), up_k (by decide), m1, i2, svN_f hs]
          · rw [up_at, up_k (by decide), up_k (by decide), m2, i3, nI_or_pow (hmN_lt _ _ _ _ _ _), hmN_t hm]
          · rw [up_j (by decide), up_k (by decide), up_k (by decide)]
          · rw [up_j (by decide), up_k (by decide), up_k (by decide), m4, i5, tkN_f hs]
          · rw [up_k (by decide), up_k (by decide)]
          · rw [up_k (by decide)]; simp [up]
        · have hs : isS G L D hour w i = false := by
            unfold isS svB haB caB
            have e3 : harmB (gK G) (kdH G i) (arF G L D hour w i) (arQ G L D hour w i) = false := e
            rw [e3]
            simpa using e2
          have hm : isH G L D hour w i = false := e
          refine fin _ _ (by rw [hs]; rfl) (fun k j k1 k2 k3 => ?_) ?_ ?_ ?_ ?_ (fun j => ?_) (fun j => ?_)
          · rw [up_k k3, up_k k2]
          · rw [up_k (by decide), up_k (by decide), m1, i2, svN_f hs]
          · rw [up_k (by decide), up_k (by decide), m2, i3, hmN_f hm]
          · rw [up_k (by decide), up_k (by decide)]
          · rw [up_k (by decide), up_k (by decide), m4, i5, tkN_f hs]
          · rw [up_k (by decide)]
          · simp [up]
        · have hs : isS G L D hour w i = true := by
            unfold isS svB haB caB
            have e3 : harmB (gK G) (kdH G i) (arF G L D hour w i) (arQ G L D hour w i) = false := e
            rw [e3]
            simpa using e2
          have hm : isH G L D hour w i = false := e
          refine fin _ _ (by rw [hs]; rfl) (fun k j k1 k2 k3 => ?_) ?_ ?_ ?_ ?_ (fun j => ?_) (fun j => ?_)
          · rw [up_k k1, up_k k1, up_k k3, up_k k2]
          · rw [up_j (by decide), up_at, up_k (by decide), up_k (by decide), m1, i2, nI_or_pow (svN_lt _ _ _ _ _ _), svN_t hs]
          · rw [up_j (by decide), up_j (by decide), up_k (by decide), up_k (by decide), m2, i3, hmN_f hm]
          · rw [up_j (by decide), up_j (by decide), up_k (by decide), up_k (by decide)]
          · rw [up_at, up_k (by decide), up_k (by decide), m4, i5, zi_add, tkN_t hs]
            rfl
          · rw [up_k (by decide), up_k (by decide), up_k (by decide)]
          · rw [up_k (by decide), up_k (by decide)]; simp [up]
      refine v_X0_follow_1 _ _ _ _ _ _ _ _ ?_
      rw [e0]
      refine ifle (by omega) (by omega) (fun c => by omega) (fun _ => sp_lossAheadOf (i := i) (by omega) ?_)
      refine wpD_at (as' := [mR 6 0 35, mI (zi (loH G i)), mI (zi (fl G L D hour w i).1), mI (zi (fl G L D hour w i).2)]) (by rw [i1 (38 + 2) i (by omega), hln.2.1]) ?_
      refine sp_heatBehindPipe hR hH1 hlr.2.1 (bd.wb (by omega)) (sp_brookAheadOf (i := i) (by omega) ?_)
      have eb : (up M1 23 3 (M1 23 3 + (zi (fl G L D hour w i).2 - zi (pipeQ (gS G 2) (loH G i) (fl G L D hour w i).1 (fl G L D hour w i).2)))) (38 + 3) i = zi (brH G i) := by rw [up_k (by decide), i1 (38 + 3) i (by omega)]; exact hln.2.2
      have els : M1 23 3 + (zi (fl G L D hour w i).2 - zi (pipeQ (gS G 2) (loH G i) (fl G L D hour w i).1 (fl G L D hour w i).2)) = zi (lsN G L D hour w (i + 1)) := by rw [i4, zi_sub, zi_add]; rfl
      rw [els] at eb ⊢
      have hH2 : Hyd (gS G) (gK G) (up M1 23 3 (zi (lsN G L D hour w (i + 1)))) 36 37 := hH1.up (by decide) (by decide)
      have m0 : ∀ k j, k ≠ 23 → (up M1 23 3 (zi (lsN G L D hour w (i + 1)))) k j = M1 k j := fun k j hk => up_k hk
      refine wpD_at (as' := [mI (nI L), mI (zi (brH G i))]) (by rw [← eb]) ?_
      rcases hlr.2.2 with hb6 | hb0
      · rw [hb6]
        refine sp_hasBit_neg (by decide) ⟨fun _ => ?_, fun c => absurd rfl c⟩
        have e1 : arF G L D hour w i = (fl G L D hour w i).1 := by unfold arF aF brB; rw [hb6]; rfl
        have e2 : arQ G L D hour w i = pipeQ (gS G 2) (loH G i) (fl G L D hour w i).1 (fl G L D hour w i).2 := by unfold arQ aQ brB; rw [hb6]; rfl
        rw [← e2, ← e1]
        exact back _ m0 (up_j (by decide)) (up_j (by decide)) (up_at _ _ _ _) (up_j (by decide)) _
      · have e9 : zi (brH G i) = nI (brH G i).toNat := by rw [nI_zi]; congr 1; omega
        rw [e9]
        refine sp_hasBit (by omega) (by omega) (ifb (fun e => ?_) (fun e => ?_))
        · have ebr : brB L (brH G i) = false := by unfold brB; rw [e]; simp
          have e1 : arF G L D hour w i = (fl G L D hour w i).1 := by unfold arF aF; rw [ebr]; rfl
          have e2 : arQ G L D hour w i = pipeQ (gS G 2) (loH G i) (fl G L D hour w i).1 (fl G L D hour w i).2 := by unfold arQ aQ; rw [ebr]; rfl
          rw [← e2, ← e1]
          exact back _ m0 (up_j (by decide)) (up_j (by decide)) (up_at _ _ _ _) (up_j (by decide)) _
        · have ebr : brB L (brH G i) = true := by unfold brB; rw [e]; simp; omega
          have e1 : arF G L D hour w i = (fl G L D hour w i).1 + gS G 3 := by unfold arF aF; rw [ebr]; rfl
          have e2 : arQ G L D hour w i = pipeQ (gS G 2) (loH G i) (fl G L D hour w i).1 (fl G L D hour w i).2 + gS G 3 * gS G 4 := by unfold arQ aQ; rw [ebr]; rfl
          refine sp_springZ (o := 35) (i := 3) hH2 (by decide) (sp_springZ (o := 35) (i := 3) hH2 (by decide) (sp_springZ (o := 35) (i := 4) hH2 (by decide) ?_))
          have h9 := back _ m0 (up_j (by decide)) (up_j (by decide)) (up_at _ _ _ _) (up_j (by decide)) (zi (pipeQ (gS G 2) (loH G i) (fl G L D hour w i).1 (fl G L D hour w i).2))
          rw [e1, e2, ← zi_add, ← zi_add, ← zi_mul] at h9
          exact h9
  refine v_X0_follow_0 _ _ _ _ (sp_springZ (o := 35) (i := 0) hH (by decide) ?_)
  have e1 : zi (gS G 0) * zi w = zi (fl G L D hour w 0).2 := by rw [zi_mul]; rfl
  show jJ _ _ _ _ [_, _, _, _, _, _, mI (zi (gS G 0)), mI (zi (gS G 0) * zi w), _, _] _ _
  rw [e1]
  refine key n 0 _ none (by omega) ⟨fun k j hk => ?_, ?_, ?_, ?_, ?_, fun h hh => absurd hh (Nat.not_lt_zero _)⟩
  · rw [up_k (by omega), up_k (by omega), up_k (by omega), up_k (by omega)]
  · simp [up, svN]; rfl
  · simp [up, hmN]; rfl
  · simp [up, lsN]; rfl
  · simp [up, tkN]; rfl
