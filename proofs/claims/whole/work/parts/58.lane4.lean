set_option maxHeartbeats 2000000 in
theorem cm_lane {d : Nat} {k : mQ} {M : mM} {V : AV} {c K : Nat} {p : Nat → Nat} {I : Nat → AV} (hc : c ≤ 48) (hp : ∀ j, j < c → 33 ≤ p j ∧ p j ≤ 126) (hM : MS V c p K I M) (h : ∀ M', MFr M M' → MS (lanN V c p) (lanC c p) p K I M' → k (mI (lanV c p)) M') : wpD mB mNL (d + 3) zX8_lane [mR 8 0 0] M k := by
  obtain ⟨⟨m1, m2, mr⟩, ⟨m3, m4⟩, m5⟩ := id hM
  have rg := runL_rng (p := p) hc c 0 aL0 (by omega)
  unfold lanV lanN lanC at h
  have h3 : ∀ j, j < c → (33 ≤ p j ∧ p j ≤ 126) ∧ M 3 j = nI (p j) := fun j hj => ⟨hp j hj, m4 j hj⟩
  refine v_X8_lane_0 (sp_laneFault (d := d) hc m3 h3 ?_)
  generalize hr : runL p c 0 aL0 = R at *
  show (_ ∧ _)
  rw [show (0 : Int32) = zi 0 from rfl, zi_lt (by omega) (by omega) (by decide) (by decide)]
  refine ⟨fun e => ?_, fun e => ?_⟩
  · have e6 : R.1 = -6 := by omega
    have key : ∀ r i (a : LnS) M1 u, i + r = c → LnSk a → runL p r i a = R → (∀ k j, ¬ (k = 4 ∨ (k = 0 ∧ (j = 4 ∨ j = 6 ∨ j = 7))) → M1 k j = M k j) → M1 0 4 = nI a.1 → M1 0 6 = nI (lv2 a) → M1 0 7 = 0 → (∀ q, q < a.1 → M1 4 (3 * q) = nI (a.2.2.2.2.1 q) ∧ M1 4 (3 * q + 1) = zi (a.2.2.2.2.2.1 q) ∧ M1 4 (3 * q + 2) = zi (a.2.2.2.2.2.2 q)) →
        jJ kB_X8_lane (d + 2) k 2 [mR 8 0 0, mI (nI a.2.2.1), mI (zi (if a.2.2.2.1 then (a.2.1 : Int) else -6)), mI (nI i), u] [] M1 := by
      intro r
      induction r with
      | zero =>
        intro i a M1 u hi ok hrun f e4 e06 e07 rows
        have hic : i = c := by omega
        subst hic
        have hR2 : R.2 = a := by rw [← hrun]; rfl
        have mm := runL_m6 (p := p) i 0 aL0 (by rw [hr]; exact e6)
        rw [hr, hR2] at mm
        have g0 : lv2 a = a.2.1 := by unfold lv2; rw [mm.2.2]; rfl
        have e02 : M1 0 2 = nI i := by rw [f 0 2 (by omega)]; exact m3
        refine v_X8_lane_2 _ _ _ _ ?_
        rw [e02]
        refine ifle (by omega) (by omega) (fun _ => ?_) (fun x => by omega)
        have := h (up M1 0 2 0) (fun k j q => by rw [up_k (by omega)]; exact f k j (by omega)) (by
          rw [if_pos e6, if_pos e6, hR2]
          have o : ∀ k, k ≠ 0 → ∀ j, (up M1 0 2 0) k j = M1 k j := fun k q j => up_k q
          refine ⟨⟨fun j hj => ?_, fun j hj => ?_, ?_, fun q hq => ?_, ?_, ?_, fun q hq => absurd hq (Nat.not_lt_zero q)⟩, ⟨up_at _ _ _ _, fun j hj => absurd hj (Nat.not_lt_zero j)⟩, fun t ht => ?_⟩
          · rw [o 1 (by decide), f 1 j (by omega)]; exact m1 j hj
          · rw [o 2 (by decide), f 2 j (by omega)]; exact m2 j hj
          · rw [up_j (by decide)]; exact e4
          · rw [o 4 (by decide), o 4 (by decide), o 4 (by decide)]; exact rows q hq
          · rw [up_j (by decide), e06, g0]; rfl
          · rw [up_j (by decide)]; exact e07
          · have f12 : ∀ j, M1 12 j = M 12 j := fun j => f 12 j (by omega)
            have f13 : ∀ j, M1 13 j = M 13 j := fun j => f 13 j (by omega)
            simp only [o 12 (by decide), o 13 (by decide), f12, f13]
            exact m5 t ht)
        rw [if_pos e6, hR2] at this
        rw [e4]
        exact this
      | succ r ih =>
        intro i a M1 u hi ok hrun f e4 e06 e07 rows
        obtain ⟨a', ea⟩ : ∃ a', lnSt a (p i) = some a' := by
          cases x : lnSt a (p i) with
          | none =>
            rw [runL_n x] at hrun
            rw [← hrun] at e6
            have : (i : Int) = -6 := e6
            omega
          | some a' => exact ⟨a', rfl⟩
        have hrun' := hrun
        rw [runL_s ea] at hrun'
        have ok' := lnSt_ok ok ea
        have s3 := h3 i (by omega)
        have e02 : M1 0 2 = nI c := by rw [f 0 2 (by omega)]; exact m3
        have e3 : M1 3 i = nI (p i) := by rw [f 3 i (by omega)]; exact s3.2
        have nx := fun M2 u => ih (i + 1) a' M2 u (by omega) ok' hrun'
        obtain ⟨m, b, l, g, kd, lo, br⟩ := a
        obtain ⟨q1, q2, q3, -⟩ := id ok
        dsimp only at e4 e06 rows q1 q2 q3 ⊢
        have m8 : m < 8 := by
          rcases Nat.lt_or_ge m 8 with x | x
          · exact x
          · unfold lnSt at ea; dsimp only at ea; rw [if_pos x] at ea; cases ea
        unfold lnSt at ea
        dsimp only at ea
        rw [if_neg (by omega)] at ea
        refine v_X8_lane_2 _ _ _ _ ?_
        rw [e02, nI_clamp (by omega), e3, show (42 : Int32) = nI 42 from rfl, nI_eq (by omega) (by decide), nI_1]
        refine ifle (by omega) (by omega) (fun x => by omega) (fun _ => ⟨vp_in_nI (by omega) (by decide), fun x => ?_, fun x => ?_⟩)
        · refine sp_kindOfM (by omega) ?_
          rcases kS_le (p i) with hk | hk
          · obtain ⟨k1, -⟩ := ksI_k hk
            rw [if_pos hk] at ea
            cases ea
            rw [k1]
            refine ⟨fun y => absurd y (nI_pos (by omega)), fun _ => sp_kindOfM (by omega) ?_⟩
            rw [k1]
            have E3 : (3 : Int32) * nI m = nI (3 * m) := by rw [show (3 : Int32) = nI 3 from rfl, pk_mul]
            have E32 : nI (3 * m) + 2 = nI (3 * m + 2) := nI_add _ 2
            show (vp_in (3 * M1 0 4) 24 ∧ _)
            rw [e4, E3, E32, nI_1, nI_1, nI_clamp (by omega), nI_clamp (by omega), nI_clamp (by omega)]
            refine ⟨vp_in_nI (by omega) (by decide), vp_in_nI (by omega) (by decide), vp_in_nI (by omega) (by decide), ?_⟩
            refine nx _ _ (fun k j q => ?_) (up_at _ _ _ _) ?_ ?_ (fun q hq => ?_)
            · have n4 : k ≠ 4 := fun y => q (Or.inl y)
              unfold up
              rw [if_neg (by omega), if_neg (by omega), if_neg (by omega), if_neg (by omega)]
              exact f k j q
            · rw [up_j (by decide), up_k (by decide), up_k (by decide), up_k (by decide), e06]
              unfold lv2
              dsimp only
              cases g <;> rfl
            · rw [up_j (by decide), up_k (by decide), up_k (by decide), up_k (by decide)]; exact e07
            · dsimp only at hq ⊢
              rw [up_k (k := 0) (by decide), up_k (k := 0) (by decide), up_k (k := 0) (by decide)]
              by_cases y : q = m
              · subst y
                simp only [if_true]
                refine ⟨?_, ?_, ?_⟩
                · rw [up_j (by omega), up_j (by omega), up_at]
                · rw [up_j (by omega), up_at, nI_zi]
                · rw [up_at]
              · simp only [y, if_false]
                rw [up_j (by omega), up_j (by omega), up_j (by omega), up_j (by omega), up_j (by omega), up_j (by omega), up_j (by omega), up_j (by omega), up_j (by omega)]
                exact rows q (by omega)
          · rw [ksI_9 hk]
            rw [if_neg (by omega)] at ea
            refine ⟨fun _ => ?_, fun y => absurd (by decide) y⟩
            by_cases hd : 49 ≤ p i ∧ p i ≤ 57 ∧ l = 0 ∧ g = false
            · rw [if_pos hd] at ea
              cases ea
              have e48 : nI (p i) - 48 = nI (p i - 48) := (sub_zi (t := 48)).trans (zi_nat (by omega))
              rw [e48]
              have := nx M1 (mI (nI (p i))) f e4 (by rw [e06]; unfold lv2; dsimp only; rw [hd.2.2.2]) e07 rows
              rw [hd.2.2.2]
              exact this
            · rw [if_neg hd, if_neg (fun y => x y.1)] at ea
              cases ea
        · have k42 : ¬ kS (p i) < 6 := by rw [x]; decide
          rw [if_neg k42, if_neg (by omega)] at ea
          split at ea
          · next hs =>
            cases ea
            have hb : lv2 (m, b, l, g, kd, lo, br) = b := by unfold lv2; dsimp only; rw [hs.2.1]; rfl
            rw [hb] at e06
            rw [e06, nI_1]
            have := nx (up M1 0 6 (nI (b + 1))) (mI (nI (p i))) (fun k j q => by
              unfold up
              rw [if_neg (by omega)]
              exact f k j q) (by rw [up_j (by decide)]; exact e4) (up_at _ _ _ _) (by rw [up_j (by decide)]; exact e07) (fun q hq => by rw [up_k (by decide), up_k (by decide), up_k (by decide)]; exact rows q hq)
            dsimp only at this
            simp only [if_true] at this
            rw [zi_nI] at this
            exact this
          · cases ea
    exact key c 0 aL0 _ none (by omega) aL0_ok hr (fun k j q => by
      unfold up
      rw [if_neg (by omega), if_neg (by omega), if_neg (by omega)]) (by rw [up_j (by decide), up_j (by decide), up_at]; rfl) (by rw [up_j (by decide), up_at]; rfl) (up_at _ _ _ _) (fun q hq => absurd hq (Nat.not_lt_zero q))
  · have := h M (fun _ _ _ => rfl) (by
      rw [if_neg (by omega), if_neg (by omega)]
      exact hM)
    rw [if_neg (by omega)] at this
    exact this
