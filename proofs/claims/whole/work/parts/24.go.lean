/-! THE MODEL'S COURSE -/
theorem sp_in {d : Nat} {k : mQ} {M : mM} {a b c : Int32} (h : k (mI (bI (decide (b.toInt ≤ a.toInt ∧ a.toInt ≤ c.toInt)))) M) : wpD mB mNL (d + 1) zX8_in [mI a, mI b, mI c] M k := by
  refine v_X8_in_0 _ _ _ ⟨fun c1 => ?_, fun c1 => ⟨fun c2 => ?_, fun c2 => ?_⟩⟩
  · rw [lt_zi] at c1
    rw [show decide (b.toInt ≤ a.toInt ∧ a.toInt ≤ c.toInt) = false by simp; omega] at h
    exact h
  · rw [lt_zi] at c1 c2
    rw [show decide (b.toInt ≤ a.toInt ∧ a.toInt ≤ c.toInt) = false by simp; omega] at h
    exact h
  · rw [lt_zi] at c1 c2
    rw [show decide (b.toInt ≤ a.toInt ∧ a.toInt ≤ c.toInt) = true by simp; omega] at h
    exact h
theorem sp_has {d : Nat} {k : mQ} {M : mM} {a b : Nat} (ha : a < 2147483648) (hb : b < 32) (h : k (mI (bI (a.testBit b))) M) : wpD mB mNL (d + 1) zX8_has [mI (nI a), mI (nI b)] M k := by
  refine v_X8_has_0 _ _ ?_
  rw [nI_bit ha hb]
  cases hB : a.testBit b
  · rw [hB] at h
    exact ⟨fun _ => h, fun c => absurd c (by decide)⟩
  · rw [hB] at h
    exact ⟨fun c => absurd rfl c, fun _ => h⟩
theorem vpn {x : Int32} (n : Nat) {N : Nat} (e : x = nI n) (h : n < N) (hN : N < 2147483648) : vp_in x N := by rw [e]; exact vp_in_nI h hN
theorem cln {x : Int32} (n : Nat) (e : x = nI n) (h : n < 2147483648) : x.toNatClampNeg = n := by rw [e]; exact nI_clamp h
theorem cl0 : (0 : Int32).toNatClampNeg = 0 := by decide
theorem cl1 : (1 : Int32).toNatClampNeg = 1 := by decide
theorem cl2 : (2 : Int32).toNatClampNeg = 2 := by decide
theorem cl3 : (3 : Int32).toNatClampNeg = 3 := by decide
theorem cl4 : (4 : Int32).toNatClampNeg = 4 := by decide
theorem pipe_le {A l F Q : Int} (h : Q ≤ A * F) (hl : 0 ≤ l) (hF : 0 ≤ F) : pipeQ A l F Q = Q := by
  have b2 := Int.mul_nonneg (show 0 ≤ 10 * l by omega) hF
  unfold pipeQ
  split
  · rfl
  · split <;> omega
/-- the model's lane that is tried is that of G, n houses -/
def LnM (G : LG) (M : mM) (n : Nat) : Prop := M 0 9 = nI n ∧ ∀ h, h < n → M 6 (3 * h) = nI (kdH G h) ∧ M 6 (3 * h + 1) = zi (loH G h) ∧ M 6 (3 * h + 2) = zi (brH G h)
/-- cells of the model that its course writes -/
def goC (k j : Nat) : Prop := k = 7 ∨ k = 8 ∨ (k = 0 ∧ 13 ≤ j ∧ j ≤ 16)
def GInv (G : LG) (L D hour : Nat) (w : Int) (M0 M : mM) (i : Nat) : Prop :=
  (∀ k j, ¬ goC k j → M k j = M0 k j) ∧ M 0 13 = nI (svN G L D hour w i) ∧ M 0 14 = nI (hmN G L D hour w i) ∧ M 0 15 = zi (lsN G L D hour w i) ∧ M 0 16 = zi (tkN G L D hour w i) ∧ ∀ h, h < i → M 7 h = zi (arF G L D hour w h) ∧ M 8 h = zi (arQ G L D hour w h)
def GEnd (G : LG) (L D hour : Nat) (w : Int) (n : Nat) (M0 M : mM) : Prop :=
  GInv G L D hour w M0 M n ∧ M 7 n = zi (fl G L D hour w n).1 ∧ M 8 n = zi (fl G L D hour w n).2
theorem up_goC {M : mM} {k j k' j' : Nat} {v : Int32} (h : goC k j) (h' : ¬ goC k' j') : up M k j v k' j' = M k' j' := by
  unfold up
  rw [if_neg]
  rintro ⟨rfl, rfl⟩
  exact h' h
theorem goC7 (j : Nat) : goC 7 j := Or.inl rfl
theorem goC8 (j : Nat) : goC 8 j := Or.inr (Or.inl rfl)
theorem goC0 {j : Nat} (h : 13 ≤ j ∧ j ≤ 16) : goC 0 j := Or.inr (Or.inr ⟨rfl, h⟩)
theorem ngo {k j : Nat} (h7 : k ≠ 7) (h8 : k ≠ 8) (h0 : k ≠ 0) : ¬ goC k j := by
  rintro (h | h | ⟨h, -⟩)
  · exact h7 h
  · exact h8 h
  · exact h0 h
theorem ngo0 {j : Nat} (h : j < 13 ∨ 16 < j) : ¬ goC 0 j := by
  rintro (h | h | ⟨-, h⟩)
  · cases h
  · cases h
  · omega
set_option maxHeartbeats 4000000 in
theorem sp_go {d : Nat} {k : mQ} {M : mM} {G : LG} {L D hour n b : Nat} {w : Int} (hR : Rng (gS G) (gK G)) (hH : Hyd (gS G) (gK G) M 1 2) (hw : 0 ≤ w ∧ w ≤ 1000) (hLn : LnM G M n) (hn : n ≤ 9) (hLR : LR G n b) (hb : b ≤ 4) (hh : hour < 6) (hL : L < 16) (hD : D < 2147483648)
    (h : ∀ M', GEnd G L D hour w n M M' → k none M') : wpD mB mNL (d + 2) zX8_go [mR 8 0 0, mI (nI hour), mI (nI L), mI (nI D), mI (zi w)] M k := by
  have hA := hR.2.2.1
  have key : ∀ r i M1 u9 u10 u11 u12 u13, i + r = n → GInv G L D hour w M M1 i → jJ kB_X8_go (d + 1) k 1 [mR 8 0 0, mI (nI hour), mI (nI L), mI (nI D), mI (zi w), mI (zi (gS G 2)), mI (zi (fl G L D hour w i).1), mI (zi (fl G L D hour w i).2), mI (nI i), u9, u10, u11, u12, u13] [] M1 := by
    intro r
    induction r with
    | zero =>
      intro i M1 u9 u10 u11 u12 u13 hi hI
      obtain ⟨i1, i2, i3, i4, i5, i6⟩ := id hI
      have hin : i = n := by omega
      subst hin
      have e0 : M1 0 9 = nI i := by rw [i1 0 9 (ngo0 (by omega))]; exact hLn.1
      refine v_X8_go_1 _ _ _ _ _ _ _ _ _ _ _ _ _ ?_
      rw [e0, nI_clamp (by omega)]
      refine ⟨fun _ => ⟨vp_in_nI (by omega) (by decide), vp_in_nI (by omega) (by decide), h _ ⟨⟨fun k j hk => ?_, ?_, ?_, ?_, ?_, fun h hh => ⟨?_, ?_⟩⟩, ?_, ?_⟩⟩, fun c => absurd (nI_le (Nat.le_refl i) (by omega)) c⟩
      · rw [up_goC (goC8 _) hk, up_goC (goC7 _) hk]; exact i1 k j hk
      · rw [up_k (by decide), up_k (by decide)]; exact i2
      · rw [up_k (by decide), up_k (by decide)]; exact i3
      · rw [up_k (by decide), up_k (by decide)]; exact i4
      · rw [up_k (by decide), up_k (by decide)]; exact i5
      · rw [up_k (by decide), up_j (by omega)]; exact (i6 h hh).1
      · rw [up_j (by omega), up_k (by decide)]; exact (i6 h hh).2
      · rw [up_k (by decide), up_at]
      · rw [up_at]
    | succ r ih =>
      intro i M1 u9 u10 u11 u12 u13 hi hI
      obtain ⟨i1, i2, i3, i4, i5, i6⟩ := id hI
      have e0 : M1 0 9 = nI n := by rw [i1 0 9 (ngo0 (by omega))]; exact hLn.1
      have hln := hLn.2 i (by omega)
      have hlr := hLR i (by omega)
      have hc := hR.2.2.2.2.2 (kdH G i) hlr.1
      have hH1 : Hyd (gS G) (gK G) M1 1 2 := hH.of (fun j => i1 1 j (ngo (by decide) (by decide) (by decide))) (fun j => i1 2 j (ngo (by decide) (by decide) (by decide)))
      have bd := fl_bd (L := L) (D := D) (hour := hour) hR hw hLR i (by omega)
      have abd := ars_bd (L := L) (D := D) (hour := hour) hR hw hLR (h := i) (by omega)
      obtain ⟨bd1, bd2, bd3, bd4⟩ := bd.wb (by omega)
      obtain ⟨ad1, ad2, ad3, ad4⟩ := abd.wb (by omega)
      have bA := mul_bd hA.1 hA.2 (show 0 ≤ (fl G L D hour w i).1 by omega) bd2
      have bA2 := mul_bd hA.1 hA.2 (show 0 ≤ arF G L D hour w i by omega) ad2
      have bP := mul_bd (show 0 ≤ 10 * loH G i by omega) (show 10 * loH G i ≤ 90 by omega) (show 0 ≤ (fl G L D hour w i).1 by omega) bd2
      have bM := mul_bd hc.2.1.1 hc.2.1.2 (show 0 ≤ arF G L D hour w i by omega) ad2
      have bN := mul_bd hc.1.1 hc.1.2 (show 0 ≤ arF G L D hour w i by omega) ad2
      have k0 : M1 6 (3 * i) = nI (kdH G i) := by rw [i1 6 _ (ngo (by decide) (by decide) (by decide))]; exact hln.1
      have k1 : M1 6 (3 * i + 1) = zi (loH G i) := by rw [i1 6 _ (ngo (by decide) (by decide) (by decide))]; exact hln.2.1
      have k2 : M1 6 (3 * i + 2) = zi (brH G i) := by rw [i1 6 _ (ngo (by decide) (by decide) (by decide))]; exact hln.2.2
      have E0 : (3 : Int32) * nI i = nI (3 * i) := by rw [show (3 : Int32) = nI 3 from rfl, pk_mul]
      have E1 : (3 : Int32) * nI i + 1 = nI (3 * i + 1) := by rw [E0, nI_1]
      have E2 : (3 : Int32) * nI i + 2 = nI (3 * i + 2) := by rw [E0, show (2 : Int32) = nI 2 from rfl, nI_add]
      have C0 : ((3 : Int32) * nI i).toNatClampNeg = 3 * i := cln _ E0 (by omega)
      have C1 : ((3 : Int32) * nI i + 1).toNatClampNeg = 3 * i + 1 := cln _ E1 (by omega)
      have C2 : ((3 : Int32) * nI i + 2).toNatClampNeg = 3 * i + 2 := cln _ E2 (by omega)
      have K6 : (6 : Int32) + nI (kdH G i) = nI (6 + kdH G i) := by rw [show (6 : Int32) = nI 6 from rfl, nI_add]
      have K12 : (12 : Int32) + nI (kdH G i) = nI (12 + kdH G i) := by rw [show (12 : Int32) = nI 12 from rfl, nI_add]
      have K24 : (24 : Int32) + nI (kdH G i) = nI (24 + kdH G i) := by rw [show (24 : Int32) = nI 24 from rfl, nI_add]
      -- the end of the round
      have fin : ∀ (M3 : mM) (q : Int) u9 u10 u11 u12 u13, (∀ k j, ¬ goC k j → M3 k j = M k j) → q = (fl G L D hour w (i + 1)).2 → M3 0 13 = nI (svN G L D hour w (i + 1)) → M3 0 14 = nI (hmN G L D hour w (i + 1)) → M3 0 15 = zi (lsN G L D hour w (i + 1)) → M3 0 16 = zi (tkN G L D hour w (i + 1)) → (∀ h, h < i + 1 → M3 7 h = zi (arF G L D hour w h) ∧ M3 8 h = zi (arQ G L D hour w h)) →
          jJ kB_X8_go (d + 1) k 1 [mR 8 0 0, mI (nI hour), mI (nI L), mI (nI D), mI (zi w), mI (zi (gS G 2)), mI (zi (arF G L D hour w i)), mI (zi q), mI (nI i + 1), u9, u10, u11, u12, u13] [] M3 := by
        intro M3 q u9 u10 u11 u12 u13 n0 hq n1 n2 n3 n4 n5
        rw [nI_1, hq]
        exact ih (i + 1) M3 _ _ _ _ _ (by omega) ⟨n0, n1, n2, n3, n4, n5⟩
      -- behind the brook: M2 still holds the round's start, but lost
      have back : ∀ M2 u11 u12 u13, (∀ k j, (k ≠ 0 ∨ j ≠ 15) → M2 k j = M1 k j) → M2 0 15 = zi (lsN G L D hour w (i + 1)) → jJ kB_X8_go (d + 1) k 5 [mR 8 0 0, mI (nI hour), mI (nI L), mI (nI D), mI (zi w), mI (zi (gS G 2)), mI (zi (arF G L D hour w i)), mI (zi (arQ G L D hour w i)), mI (nI i), mI (nI (kdH G i)), mI (zi (brH G i)), u11, u12, u13] [] M2 := by
        intro M2 u11 u12 u13 m0 m15
        have hH2 : Hyd (gS G) (gK G) M2 1 2 := hH1.of (fun j => m0 1 j (Or.inl (by decide))) (fun j => m0 2 j (Or.inl (by decide)))
        -- behind the harm: label 9
        have nine : ∀ M4 u13 (hb : Bool), hb = isH G L D hour w i → (∀ k j, ¬ goC k j → M4 k j = M k j) → M4 0 13 = nI (svN G L D hour w i) → M4 0 14 = nI (hmN G L D hour w (i + 1)) → M4 0 15 = zi (lsN G L D hour w (i + 1)) → M4 0 16 = zi (tkN G L D hour w i) → (∀ h, h < i + 1 → M4 7 h = zi (arF G L D hour w h) ∧ M4 8 h = zi (arQ G L D hour w h)) →
            wpD mB mNL (d + 1) zX8_has [mI (nI D), mI (nI i)] M4 (fun r_13 M_12 => wI r_13 fun x_15 =>
              ((x_15 = 0 → jJ kB_X8_go (d + 1) k 10 [mR 8 0 0, mI (nI hour), mI (nI L), mI (nI D), mI (zi w), mI (zi (gS G 2)), mI (zi (arF G L D hour w i)), mI (zi (arQ G L D hour w i)), mI (nI i), mI (nI (kdH G i)), mI (zi (brH G i)), mI (bI hb), mI (zi (wtK G i)), u13] [] M_12) ∧
               (¬ x_15 = 0 → (vp_in (24 + nI (kdH G i)) 30 ∧ wpD mB mNL (d + 1) zX8_has [mI (M_12 2 ((24 + nI (kdH G i)).toNatClampNeg)), mI (nI hour)] M_12 (fun r_17 M_16 => wI r_17 fun x_19 =>
                ((x_19 = 0 → jJ kB_X8_go (d + 1) k 10 [mR 8 0 0, mI (nI hour), mI (nI L), mI (nI D), mI (zi w), mI (zi (gS G 2)), mI (zi (arF G L D hour w i)), mI (zi (arQ G L D hour w i)), mI (nI i), mI (nI (kdH G i)), mI (zi (brH G i)), mI (bI hb), mI (zi (wtK G i)), u13] [] M_16) ∧
                 (¬ x_19 = 0 → jJ kB_X8_go (d + 1) k 11 [mR 8 0 0, mI (nI hour), mI (nI L), mI (nI D), mI (zi w), mI (zi (gS G 2)), mI (zi (arF G L D hour w i)), mI (zi (arQ G L D hour w i)), mI (nI i), mI (nI (kdH G i)), mI (zi (brH G i)), mI (bI hb), mI (zi (wtK G i)), u13] [mI 1] M_16))))))) := by
          intro M4 u13 hb ehb n0 n1 n2 n3 n4 n5
          have hH4 : Hyd (gS G) (gK G) M4 1 2 := hH.of (fun j => n0 1 j (ngo (by decide) (by decide) (by decide))) (fun j => n0 2 j (ngo (by decide) (by decide) (by decide)))
          have eend : isS G L D hour w i = (D.testBit i && !hb && canB (gS G) (gK G) hour (kdH G i) (arF G L D hour w i) (arQ G L D hour w i)) := by rw [ehb]; rfl
          have no : isS G L D hour w i = false → ∀ u, jJ kB_X8_go (d + 1) k 1 [mR 8 0 0, mI (nI hour), mI (nI L), mI (nI D), mI (zi w), mI (zi (gS G 2)), mI (zi (arF G L D hour w i)), mI (zi (arQ G L D hour w i)), mI (nI i + 1), mI (nI (kdH G i)), mI (zi (brH G i)), mI (bI hb), mI (zi (wtK G i)), u] [] M4 := by
            intro hs u
            exact fin M4 _ _ _ _ _ _ n0 (by rw [fl_succ, hs]; rfl) (by rw [svN_f hs]; exact n1) n2 n3 (by rw [tkN_f hs]; exact n4) n5
          have ten : isS G L D hour w i = false → ∀ u, jJ kB_X8_go (d + 1) k 10 [mR 8 0 0, mI (nI hour), mI (nI L), mI (nI D), mI (zi w), mI (zi (gS G 2)), mI (zi (arF G L D hour w i)), mI (zi (arQ G L D hour w i)), mI (nI i), mI (nI (kdH G i)), mI (zi (brH G i)), mI (bI hb), mI (zi (wtK G i)), u] [] M4 := by
            intro hs u
            refine v_X8_go_10 _ _ _ _ _ _ _ _ _ _ _ _ _ (v_X8_go_11 _ _ _ _ _ _ _ _ _ _ _ _ _ _ ⟨fun _ => no hs _, fun c => absurd rfl c⟩)
          refine sp_has hD (by omega) (ifb (fun e => ten (by rw [eend, e]; rfl) _) (fun e => ⟨vpn _ K24 (by omega) (by decide), ?_⟩))
          rw [cln _ K24 (by omega), hH4.2 _ (by omega), nI_hours hc.2.2.2.2.1]
          refine sp_has (by omega) (by omega) (ifb (fun e2 => ten (by rw [eend]; unfold canB; rw [e2]; simp) _) (fun e2 => v_X8_go_11 _ _ _ _ _ _ _ _ _ _ _ _ _ _ ⟨fun c => absurd c (by decide), fun _ => ?_⟩))
          refine ifb' (fun e3 => no (by rw [eend, e3]; simp) _) (fun e3 => ⟨vp_in_nI (by omega) (by decide), ?_⟩)
          rw [nI_clamp (by omega), hH4.2 _ (by omega), zi_mul, zi_mul, zi_sub, zi_lt (by omega) (by omega) (by omega) (by omega)]
          refine ⟨fun c => no (by rw [eend]; unfold canB; rw [show decide (gK G (kdH G i) * arF G L D hour w i ≤ arQ G L D hour w i) = false by simp; omega]; simp) _, fun c => ?_⟩
          have hwt : 0 ≤ wtK G i ∧ wtK G i ≤ 9999 := hc.2.2.1
          rw [zi_lt (by omega) (by omega) (by omega) (by omega)]
          have ecan : canB (gS G) (gK G) hour (kdH G i) (arF G L D hour w i) (arQ G L D hour w i) = decide (gS G 2 * arF G L D hour w i ≤ arQ G L D hour w i - wtK G i) := by
            unfold canB
            rw [e2, show decide (gK G (kdH G i) * arF G L D hour w i ≤ arQ G L D hour w i) = true by simp; omega]
            rfl
          refine ⟨fun c2 => no (by rw [eend, ecan, show decide (gS G 2 * arF G L D hour w i ≤ arQ G L D hour w i - wtK G i) = false by simp; omega]; simp) _, fun c2 => ?_⟩
          have hs : isS G L D hour w i = true := by rw [eend, e, e3, ecan]; simp; omega
          refine fin _ _ _ _ _ _ _ (fun k j hk => ?_) (by rw [fl_succ, hs]; rfl) ?_ ?_ ?_ ?_ (fun h hh => ?_)
          · rw [up_goC (goC0 (by omega)) hk, up_goC (goC0 (by omega)) hk]; exact n0 k j hk
          · rw [up_j (by decide), up_at, n1, sh_small (by omega), nI_or_pow (svN_lt _ _ _ _ _ _), svN_t hs]
          · rw [up_j (by decide), up_j (by decide)]; exact n2
          · rw [up_j (by decide), up_j (by decide)]; exact n3
          · rw [up_at, n4, zi_add, tkN_t hs]
          · rw [up_k (by decide), up_k (by decide), up_k (by decide), up_k (by decide)]; exact n5 h hh
        -- labels 5, 7
        have m4 : ∀ k j, ¬ goC k j → (up (up M2 7 i (zi (arF G L D hour w i))) 8 i (zi (arQ G L D hour w i))) k j = M k j := fun k j hk => by
          rw [up_goC (goC8 _) hk, up_goC (goC7 _) hk, m0 k j (by
            by_cases q : k = 0
            · right; rintro rfl; exact hk (q ▸ goC0 (by omega))
            · exact Or.inl q)]
          exact i1 k j hk
        have m5 : ∀ h, h < i + 1 → (up (up M2 7 i (zi (arF G L D hour w i))) 8 i (zi (arQ G L D hour w i))) 7 h = zi (arF G L D hour w h) ∧ (up (up M2 7 i (zi (arF G L D hour w i))) 8 i (zi (arQ G L D hour w i))) 8 h = zi (arQ G L D hour w h) := fun h hh => by
          by_cases q : h = i
          · subst q
            exact ⟨by rw [up_k (by decide), up_at], by rw [up_at]⟩
          · rw [up_k (by decide), up_j q, up_j q, up_k (by decide), m0 7 h (Or.inl (by decide)), m0 8 h (Or.inl (by decide))]
            exact i6 h (by omega)
        have wt12 : (up (up M2 7 i (zi (arF G L D hour w i))) 8 i (zi (arQ G L D hour w i))) 2 (12 + kdH G i) = zi (wtK G i) := by rw [up_k (by decide), up_k (by decide)]; exact hH2.2 _ (by omega)
        refine v_X8_go_5 _ _ _ _ _ _ _ _ _ _ _ _ _ ⟨vp_in_nI (by omega) (by decide), vp_in_nI (by omega) (by decide), vpn _ K6 (by omega) (by decide), ?_⟩
        rw [cln _ K6 (by omega), hH2.2 _ (by omega), zi_mul, zi_le (by omega) (by omega) (by omega) (by omega), nI_clamp (by omega)]
        refine ⟨fun c => ?_, fun c => ?_⟩
        · have hm : isH G L D hour w i = false := by unfold isH haB harmB; simp; omega
          refine v_X8_go_7 _ _ _ _ _ _ _ _ _ _ _ _ _ _ ⟨vpn _ K12 (by omega) (by decide), ?_⟩
          rw [cln _ K12 (by omega), wt12]
          refine ⟨fun _ => v_X8_go_9 _ _ _ _ _ _ _ _ _ _ _ _ _ _ _ ?_, fun c => absurd rfl c⟩
          refine nine _ _ false hm.symm (fun k j hk => ?_) ?_ ?_ ?_ ?_ (fun h hh => ?_)
          · rw [up_goC (goC0 (by omega)) hk]; exact m4 k j hk
          · rw [up_j (by decide), up_k (by decide), up_k (by decide), m0 0 13 (by decide)]; exact i2
          · rw [up_at, up_k (by decide), up_k (by decide), m0 0 14 (by decide), i3, hmN_f hm, show (0 : Int32) = nI 0 from rfl, nI_or, Nat.or_zero]
          · rw [up_j (by decide), up_k (by decide), up_k (by decide)]; exact m15
          · rw [up_j (by decide), up_k (by decide), up_k (by decide), m0 0 16 (by decide)]; exact i5
          · rw [up_k (by decide), up_k (by decide)]; exact m5 h hh
        · have hm : isH G L D hour w i = true := by unfold isH haB harmB; simp; omega
          refine v_X8_go_7 _ _ _ _ _ _ _ _ _ _ _ _ _ _ ⟨vpn _ K12 (by omega) (by decide), ?_⟩
          rw [cln _ K12 (by omega), wt12]
          refine ⟨fun c => absurd c (by decide), fun _ => v_X8_go_9 _ _ _ _ _ _ _ _ _ _ _ _ _ _ _ ?_⟩
          refine nine _ _ true hm.symm (fun k j hk => ?_) ?_ ?_ ?_ ?_ (fun h hh => ?_)
          · rw [up_goC (goC0 (by omega)) hk]; exact m4 k j hk
          · rw [up_j (by decide), up_k (by decide), up_k (by decide), m0 0 13 (by decide)]; exact i2
          · rw [up_at, up_k (by decide), up_k (by decide), m0 0 14 (by decide), i3, hmN_t hm, sh_small (by omega), nI_or_pow (hmN_lt _ _ _ _ _ _)]
          · rw [up_j (by decide), up_k (by decide), up_k (by decide)]; exact m15
          · rw [up_j (by decide), up_k (by decide), up_k (by decide), m0 0 16 (by decide)]; exact i5
          · rw [up_k (by decide), up_k (by decide)]; exact m5 h hh
      -- label 4: behind the pipe
      have four : ∀ M2 u11 u12 u13, (∀ k j, (k ≠ 0 ∨ j ≠ 15) → M2 k j = M1 k j) → M2 0 15 = zi (lsN G L D hour w (i + 1)) → jJ kB_X8_go (d + 1) k 4 [mR 8 0 0, mI (nI hour), mI (nI L), mI (nI D), mI (zi w), mI (zi (gS G 2)), mI (zi (fl G L D hour w i).1), mI (zi (pipeQ (gS G 2) (loH G i) (fl G L D hour w i).1 (fl G L D hour w i).2)), mI (nI i), mI (nI (kdH G i)), mI (zi (brH G i)), u11, u12, u13] [] M2 := by
        intro M2 u11 u12 u13 m0 m15
        have hH2 : Hyd (gS G) (gK G) M2 1 2 := hH1.of (fun j => m0 1 j (Or.inl (by decide))) (fun j => m0 2 j (Or.inl (by decide)))
        refine v_X8_go_4 _ _ _ _ _ _ _ _ _ _ _ _ _ ?_
        rcases hlr.2.2 with hb6 | hb0
        · refine ⟨fun _ => ?_, fun c => absurd (by rw [hb6]; decide) c⟩
          have e1 : arF G L D hour w i = (fl G L D hour w i).1 := by unfold arF aF brB; rw [hb6]; rfl
          have e2 : arQ G L D hour w i = pipeQ (gS G 2) (loH G i) (fl G L D hour w i).1 (fl G L D hour w i).2 := by unfold arQ aQ brB; rw [hb6]; rfl
          rw [← e2, ← e1]
          exact back M2 _ _ _ m0 m15
        · have e9 : zi (brH G i) = nI (brH G i).toNat := by rw [nI_zi]; congr 1; omega
          refine ⟨fun c => absurd c (by rw [e9]; exact nI_pos (by omega)), fun _ => ?_⟩
          have no : brB L (brH G i) = false → jJ kB_X8_go (d + 1) k 5 [mR 8 0 0, mI (nI hour), mI (nI L), mI (nI D), mI (zi w), mI (zi (gS G 2)), mI (zi (fl G L D hour w i).1), mI (zi (pipeQ (gS G 2) (loH G i) (fl G L D hour w i).1 (fl G L D hour w i).2)), mI (nI i), mI (nI (kdH G i)), mI (zi (brH G i)), u11, u12, u13] [] M2 := by
            intro ebr
            have e1 : arF G L D hour w i = (fl G L D hour w i).1 := by unfold arF aF; rw [ebr]; rfl
            have e2 : arQ G L D hour w i = pipeQ (gS G 2) (loH G i) (fl G L D hour w i).1 (fl G L D hour w i).2 := by unfold arQ aQ; rw [ebr]; rfl
            rw [← e2, ← e1]
            exact back M2 _ _ _ m0 m15
          refine wpD_at (as' := [mI (nI L), mI (nI (brH G i).toNat)]) (by rw [e9]) ?_
          refine sp_has (by omega) (by omega) (ifb (fun e => no (by unfold brB; rw [e]; simp)) (fun e => ⟨vpn 3 rfl (by decide) (by decide), vpn 3 rfl (by decide) (by decide), vpn 4 rfl (by decide) (by decide), ?_⟩))
          have ebr : brB L (brH G i) = true := by unfold brB; rw [e]; simp; omega
          have e1 : arF G L D hour w i = (fl G L D hour w i).1 + gS G 3 := by unfold arF aF; rw [ebr]; rfl
          have e2 : arQ G L D hour w i = pipeQ (gS G 2) (loH G i) (fl G L D hour w i).1 (fl G L D hour w i).2 + gS G 3 * gS G 4 := by unfold arQ aQ; rw [ebr]; rfl
          rw [cl3, cl4, hH2.1 3 (by decide), hH2.1 4 (by decide), zi_mul, zi_add, zi_add, ← e2, ← e1]
          exact back M2 _ _ _ m0 m15
      refine v_X8_go_1 _ _ _ _ _ _ _ _ _ _ _ _ _ ?_
      rw [e0, C0, C1, C2, k0, k1, k2]
      refine ifle (by omega) (by omega) (fun c => by omega) (fun _ => ⟨vpn _ E0 (by omega) (by decide), vpn _ E2 (by omega) (by decide), ?_⟩)
      simp only [zi_mul, zi_sub, show (10 : Int32) = zi 10 from rfl]
      rw [zi_le (by omega) (by omega) (by omega) (by omega), zi_le (by omega) (by omega) (by omega) (by omega)]
      refine ⟨fun c => ?_, fun c => ⟨vpn _ E1 (by omega) (by decide), fun c2 => ?_, fun c2 => ?_⟩⟩
      · have ep := pipe_le (l := loH G i) c hlr.2.1.1 (by omega)
        have h9 := four M1 u11 u12 u13 (fun _ _ _ => rfl) (by rw [i4]; show _ = zi (_ + ((fl G L D hour w i).2 - _)); rw [ep, Int.sub_self, Int.add_zero])
        rw [ep] at h9
        exact h9
      · have ep : pipeQ (gS G 2) (loH G i) (fl G L D hour w i).1 (fl G L D hour w i).2 = (fl G L D hour w i).2 - 10 * loH G i * (fl G L D hour w i).1 := by unfold pipeQ; rw [if_neg (by omega), if_neg (by omega)]
        have h9 := four (up M1 0 15 (M1 0 15 + (zi (fl G L D hour w i).2 - zi ((fl G L D hour w i).2 - 10 * loH G i * (fl G L D hour w i).1)))) (mI (zi ((fl G L D hour w i).2 - 10 * loH G i * (fl G L D hour w i).1))) u12 u13 (fun k j hk => by rcases hk with q | q; exact up_k q; exact up_j q) (by rw [up_at, i4, zi_sub, zi_add, ← ep]; rfl)
        rw [ep] at h9
        exact v_X8_go_3 _ _ _ _ _ _ _ _ _ _ _ _ _ _ h9
      · have ep : pipeQ (gS G 2) (loH G i) (fl G L D hour w i).1 (fl G L D hour w i).2 = gS G 2 * (fl G L D hour w i).1 := by unfold pipeQ; rw [if_neg (by omega), if_pos (by omega)]
        have h9 := four (up M1 0 15 (M1 0 15 + (zi (fl G L D hour w i).2 - zi (gS G 2 * (fl G L D hour w i).1)))) (mI (zi (gS G 2 * (fl G L D hour w i).1))) u12 u13 (fun k j hk => by rcases hk with q | q; exact up_k q; exact up_j q) (by rw [up_at, i4, zi_sub, zi_add, ← ep]; rfl)
        rw [ep] at h9
        exact v_X8_go_3 _ _ _ _ _ _ _ _ _ _ _ _ _ _ h9
  refine v_X8_go_0 _ _ _ _ ⟨vpn 2 rfl (by decide) (by decide), vpn 0 rfl (by decide) (by decide), ?_⟩
  rw [cl2, cl0, hH.1 2 (by decide), hH.1 0 (by decide), zi_mul]
  refine key n 0 _ _ _ _ _ _ (by omega) ⟨fun k j hk => ?_, ?_, ?_, ?_, ?_, fun h hh => absurd hh (Nat.not_lt_zero _)⟩
  · rw [up_goC (goC0 (by omega)) hk, up_goC (goC0 (by omega)) hk, up_goC (goC0 (by omega)) hk, up_goC (goC0 (by omega)) hk]
  · simp [up, svN]; rfl
  · simp [up, hmN]; rfl
  · simp [up, lsN]; rfl
  · simp [up, tkN]; rfl
