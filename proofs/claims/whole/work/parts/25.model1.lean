/-! THE MODEL: its lane, worths, the best plan by trying all -/
def LnP (G : LG) (M : mM) (n : Nat) : Prop := M 0 4 = nI n ∧ ∀ h, h < n → M 4 (3 * h) = nI (kdH G h) ∧ M 4 (3 * h + 1) = zi (loH G h) ∧ M 4 (3 * h + 2) = zi (brH G h)
theorem sp_asLane {d : Nat} {k : mQ} {M : mM} {G : LG} {n : Nat} (hP : LnP G M n) (hn : n ≤ 8) (h : ∀ M', (∀ k j, ¬ (k = 6 ∨ (k = 0 ∧ j = 9)) → M' k j = M k j) → LnM G M' n → k none M') : wpD mB mNL (d + 1) zX8_asLane [mR 8 0 0] M k := by
  have E3 : (3 : Int32) * nI n = nI (3 * n) := by rw [show (3 : Int32) = nI 3 from rfl, pk_mul]
  have key : ∀ r i M1, i + r = 3 * n → (∀ k j, ¬ (k = 6 ∨ (k = 0 ∧ j = 9)) → M1 k j = M k j) → M1 0 9 = nI n → (∀ j, j < i → M1 6 j = M 4 j) → jJ kB_X8_asLane d k 1 [mR 8 0 0, mI (nI i)] [] M1 := by
    intro r
    induction r with
    | zero =>
      intro i M1 hi h0 h9 h6
      refine v_X8_asLane_1 _ ?_
      rw [h0 0 4 (by omega), hP.1, E3]
      refine ifle (by omega) (by omega) (fun _ => h M1 h0 ⟨h9, fun j hj => ?_⟩) (fun c => by omega)
      have := hP.2 j hj
      rw [h6 _ (by omega), h6 _ (by omega), h6 _ (by omega)]
      exact this
    | succ r ih =>
      intro i M1 hi h0 h9 h6
      refine v_X8_asLane_1 _ ?_
      rw [h0 0 4 (by omega), hP.1, E3]
      refine ifle (by omega) (by omega) (fun c => by omega) (fun _ => ⟨vp_in_nI (by omega) (by decide), vp_in_nI (by omega) (by decide), ?_⟩)
      rw [nI_clamp (by omega), nI_1]
      refine ih (i + 1) _ (by omega) (fun k j hk => ?_) ?_ (fun j hj => ?_)
      · rw [up_k (by omega)]; exact h0 k j hk
      · rw [up_k (by decide)]; exact h9
      · by_cases e : j = i
        · subst e
          rw [up_at, h0 4 j (by omega)]
        · rw [up_j e]; exact h6 j (by omega)
  refine v_X8_asLane_0 (key (3 * n) 0 _ (by omega) (fun k j hk => ?_) ?_ (fun j hj => absurd hj (Nat.not_lt_zero _)))
  · unfold up
    rw [if_neg (by omega)]
  · rw [up_at]; exact hP.1
/-- worths of the houses of a set -/
def wtS (G : LG) (S : Nat) : Nat → Int
  | 0 => 0
  | n + 1 => if S.testBit n then wtS G S n + gK G (18 + kdH G n) else wtS G S n
theorem wtS_bd {G : LG} {S n b : Nat} (hR : Rng (gS G) (gK G)) (hLR : LR G n b) : ∀ m, m ≤ n → 0 ≤ wtS G S m ∧ wtS G S m ≤ 99 * (m : Int)
  | 0, _ => by simp [wtS]
  | m + 1, hm => by
    have ih := wtS_bd (S := S) hR hLR m (by omega)
    have hc := (hR.2.2.2.2.2 (kdH G m) (hLR m (by omega)).1).2.2.2.1
    unfold wtS
    split
    · exact ⟨by omega, by omega⟩
    · exact ⟨by omega, by omega⟩
theorem sp_worthOf {d : Nat} {k : mQ} {M : mM} {G : LG} {n b S : Nat} (hH : Hyd (gS G) (gK G) M 1 2) (hLn : LnM G M n) (hn : n ≤ 9) (hLR : LR G n b) (hS : S < 2147483648) (h : k (mI (zi (wtS G S n))) M) : wpD mB mNL (d + 2) zX8_worthOf [mR 8 0 0, mI (nI S)] M k := by
  have key : ∀ r i, i + r = n → jJ kB_X8_worthOf (d + 1) k 1 [mR 8 0 0, mI (nI S), mI (zi (wtS G S i)), mI (nI i)] [] M := by
    intro r
    induction r with
    | zero =>
      intro i hi
      have hin : i = n := by omega
      subst hin
      refine v_X8_worthOf_1 _ _ _ ?_
      rw [hLn.1]
      exact ifle (by omega) (by omega) (fun _ => h) (fun c => by omega)
    | succ r ih =>
      intro i hi
      have hln := hLn.2 i (by omega)
      have hlr := hLR i (by omega)
      refine v_X8_worthOf_1 _ _ _ ?_
      rw [hLn.1]
      have E0 : (3 : Int32) * nI i = nI (3 * i) := by rw [show (3 : Int32) = nI 3 from rfl, pk_mul]
      have K18 : (18 : Int32) + nI (kdH G i) = nI (18 + kdH G i) := by rw [show (18 : Int32) = nI 18 from rfl, nI_add]
      have h9 := ih (i + 1) (by omega)
      refine ifle (by omega) (by omega) (fun c => by omega) (fun _ => sp_has hS (by omega) (ifb (fun e => ?_) (fun e => ⟨vpn _ E0 (by omega) (by decide), ?_⟩)))
      · rw [show (0 : Int32) = zi 0 from rfl, zi_add, Int.add_zero, nI_1]
        unfold wtS at h9
        rw [e] at h9
        exact h9
      · rw [cln _ E0 (by omega), hln.1, K18]
        refine ⟨vp_in_nI (by omega) (by decide), ?_⟩
        rw [nI_clamp (by omega), hH.2 _ (by omega), zi_add, nI_1]
        unfold wtS at h9
        rw [e] at h9
        exact h9
  exact v_X8_worthOf_0 _ (key n 0 (by omega))
theorem sp_areBits {d : Nat} {k : mQ} {M : mM} {n b : Nat} {v1 v2 v3 : Int32} (h4 : M 0 4 = nI n) (h6 : M 0 6 = nI b) (hn : n ≤ 9) (hb : b ≤ 9) (h : k (mI (bI (decide ((0 ≤ v1.toInt ∧ v1.toInt ≤ 5) ∧ (0 ≤ v2.toInt ∧ v2.toInt < 2 ^ b) ∧ (0 ≤ v3.toInt ∧ v3.toInt < 2 ^ n))))) M) : wpD mB mNL (d + 2) zX8_areBits [mR 8 0 0, mI v1, mI v2, mI v3] M k := by
  have e : ∀ m, m ≤ 9 → ((1 : Int32) <<< (nI m &&& 31) - 1).toInt = 2 ^ m - 1 := by decide
  refine v_X8_areBits_0 _ _ _ (sp_in (ifb (fun e1 => ?_) (fun e1 => sp_in ?_)))
  · rw [show decide ((0 ≤ v1.toInt ∧ v1.toInt ≤ 5) ∧ (0 ≤ v2.toInt ∧ v2.toInt < 2 ^ b) ∧ (0 ≤ v3.toInt ∧ v3.toInt < 2 ^ n)) = false by
      have e1 : ¬ (0 ≤ v1.toInt ∧ v1.toInt ≤ 5) := of_decide_eq_false e1
      simp only [decide_eq_false_iff_not]
      exact fun q => e1 q.1] at h
    exact h
  have e1 : (0 ≤ v1.toInt ∧ v1.toInt ≤ 5) := of_decide_eq_true e1
  rw [h6, e b hb]
  refine ifb (fun e2 => ?_) (fun e2 => sp_in ?_)
  · rw [show decide ((0 ≤ v1.toInt ∧ v1.toInt ≤ 5) ∧ (0 ≤ v2.toInt ∧ v2.toInt < 2 ^ b) ∧ (0 ≤ v3.toInt ∧ v3.toInt < 2 ^ n)) = false by
      have e2 : ¬ (0 ≤ v2.toInt ∧ v2.toInt ≤ 2 ^ b - 1) := of_decide_eq_false e2
      simp only [decide_eq_false_iff_not]
      exact fun q => e2 ⟨q.2.1.1, by have := q.2.1.2; omega⟩] at h
    exact h
  have e2 : (0 ≤ v2.toInt ∧ v2.toInt ≤ 2 ^ b - 1) := of_decide_eq_true e2
  rw [h4, e n hn]
  refine ifb (fun e3 => ?_) (fun e3 => ?_)
  · rw [show decide ((0 ≤ v1.toInt ∧ v1.toInt ≤ 5) ∧ (0 ≤ v2.toInt ∧ v2.toInt < 2 ^ b) ∧ (0 ≤ v3.toInt ∧ v3.toInt < 2 ^ n)) = false by
      have e3 : ¬ (0 ≤ v3.toInt ∧ v3.toInt ≤ 2 ^ n - 1) := of_decide_eq_false e3
      simp only [decide_eq_false_iff_not]
      exact fun q => e3 ⟨q.2.2.1, by have := q.2.2.2; omega⟩] at h
    exact h
  · rw [show decide ((0 ≤ v1.toInt ∧ v1.toInt ≤ 5) ∧ (0 ≤ v2.toInt ∧ v2.toInt < 2 ^ b) ∧ (0 ≤ v3.toInt ∧ v3.toInt < 2 ^ n)) = true by
      have e3 : (0 ≤ v3.toInt ∧ v3.toInt ≤ 2 ^ n - 1) := of_decide_eq_true e3
      simp only [decide_eq_true_eq]
      exact ⟨e1, ⟨e2.1, by omega⟩, ⟨e3.1, by omega⟩⟩] at h
    exact h
/-- nobody is harmed, all who draw are served -/
def okP (G : LG) (n hour : Nat) (w : Int) (L D : Nat) : Prop := hmN G L D hour w n = 0 ∧ svN G L D hour w n = D
/-- the best plan among those of P, by brooks and draws the least (W = -6: there is none) -/
def BSo (G : LG) (n hour : Nat) (w : Int) (P : Nat → Nat → Prop) (W : Int) (L0 D0 : Nat) : Prop :=
  (W = -6 ∧ L0 = 0 ∧ D0 = 0 ∧ ∀ L D, P L D → ¬ okP G n hour w L D) ∨ (okP G n hour w L0 D0 ∧ P L0 D0 ∧ W = wtS G D0 n ∧ ∀ L D, P L D → okP G n hour w L D → wtS G D n ≤ W ∧ (wtS G D n = W → L0 < L ∨ (L0 = L ∧ D0 ≤ D)))
def IsB (G : LG) (n b hour : Nat) (w : Int) (W : Int) (L0 D0 : Nat) : Prop := BSo G n hour w (fun L D => L < 2 ^ b ∧ D < 2 ^ n) W L0 D0
theorem IsB.one {G : LG} {n b m hour : Nat} {w : Int} {W W' : Int} {L D L' D' : Nat} (hR : Rng (gS G) (gK G)) (hLR : LR G n m) (h : IsB G n b hour w W L D) (h' : IsB G n b hour w W' L' D') : W = W' ∧ L = L' ∧ D = D' := by
  rcases h with ⟨h1, h2, h3, h4⟩ | ⟨h1, h2, h3, h4⟩ <;> rcases h' with ⟨g1, g2, g3, g4⟩ | ⟨g1, g2, g3, g4⟩
  · exact ⟨by omega, by omega, by omega⟩
  · exact absurd g1 (h4 _ _ g2)
  · exact absurd h1 (g4 _ _ h2)
  · have a := h4 _ _ g2 g1
    have c := g4 _ _ h2 h1
    have e : W = W' := by omega
    have a2 := a.2 (by omega)
    have c2 := c.2 (by omega)
    exact ⟨e, by omega, by omega⟩
theorem BSo.cong {G : LG} {n hour : Nat} {w W : Int} {L0 D0 : Nat} {P P' : Nat → Nat → Prop} (h : BSo G n hour w P W L0 D0) (e : ∀ L D, P L D ↔ P' L D) : BSo G n hour w P' W L0 D0 := by
  rcases h with ⟨h1, h2, h3, h4⟩ | ⟨h1, h2, h3, h4⟩
  · exact Or.inl ⟨h1, h2, h3, fun L D p => h4 L D ((e L D).mpr p)⟩
  · exact Or.inr ⟨h1, (e _ _).mp h2, h3, fun L D p => h4 L D ((e L D).mpr p)⟩
theorem BSo.no {G : LG} {n hour : Nat} {w W : Int} {L0 D0 L1 D1 : Nat} {P : Nat → Nat → Prop} (h : BSo G n hour w P W L0 D0) (e : ¬ okP G n hour w L1 D1) : BSo G n hour w (fun L D => P L D ∨ (L = L1 ∧ D = D1)) W L0 D0 := by
  rcases h with ⟨h1, h2, h3, h4⟩ | ⟨h1, h2, h3, h4⟩
  · refine Or.inl ⟨h1, h2, h3, fun L D p => ?_⟩
    rcases p with p | ⟨rfl, rfl⟩
    · exact h4 L D p
    · exact e
  · refine Or.inr ⟨h1, Or.inl h2, h3, fun L D p q => ?_⟩
    rcases p with p | ⟨rfl, rfl⟩
    · exact h4 L D p q
    · exact absurd q e
theorem BSo.low {G : LG} {n hour : Nat} {w W : Int} {L0 D0 L1 D1 : Nat} {P : Nat → Nat → Prop} (h : BSo G n hour w P W L0 D0) (h0 : 0 ≤ wtS G D1 n) (hle : wtS G D1 n ≤ W) (hl : ∀ L D, P L D → L < L1 ∨ (L = L1 ∧ D ≤ D1)) : BSo G n hour w (fun L D => P L D ∨ (L = L1 ∧ D = D1)) W L0 D0 := by
  rcases h with ⟨h1, h2, h3, h4⟩ | ⟨h1, h2, h3, h4⟩
  · omega
  · refine Or.inr ⟨h1, Or.inl h2, h3, fun L D p q => ?_⟩
    rcases p with p | ⟨rfl, rfl⟩
    · exact h4 L D p q
    · exact ⟨hle, fun _ => hl _ _ h2⟩
theorem BSo.new {G : LG} {n hour : Nat} {w W : Int} {L0 D0 L1 D1 : Nat} {P : Nat → Nat → Prop} (h : BSo G n hour w P W L0 D0) (e : okP G n hour w L1 D1) (hgt : W < wtS G D1 n) : BSo G n hour w (fun L D => P L D ∨ (L = L1 ∧ D = D1)) (wtS G D1 n) L1 D1 := by
  refine Or.inr ⟨e, Or.inr ⟨rfl, rfl⟩, rfl, fun L D p q => ?_⟩
  rcases p with p | ⟨rfl, rfl⟩
  · rcases h with ⟨h1, h2, h3, h4⟩ | ⟨h1, h2, h3, h4⟩
    · exact absurd q (h4 L D p)
    · have := (h4 L D p q).1
      exact ⟨by omega, fun c => by omega⟩
  · exact ⟨Int.le_refl _, fun _ => Or.inr ⟨rfl, Nat.le_refl _⟩⟩
/-- cells of the model that the search for the best plan writes -/
def lbC (k j : Nat) : Prop := goC k j ∨ (k = 0 ∧ j = 17)
theorem LnM.of {G : LG} {M M' : mM} {n : Nat} (h : LnM G M n) (h9 : M' 0 9 = M 0 9) (h6 : ∀ j, M' 6 j = M 6 j) : LnM G M' n :=
  ⟨by rw [h9]; exact h.1, fun i hi => by rw [h6, h6, h6]; exact h.2 i hi⟩
set_option maxHeartbeats 4000000 in
theorem sp_layBest {d : Nat} {k : mQ} {M : mM} {G : LG} {hour n b : Nat} (hR : Rng (gS G) (gK G)) (hH : Hyd (gS G) (gK G) M 1 2) (hLn : LnM G M n) (hn : n ≤ 9) (h6 : M 0 6 = nI b) (hLR : LR G n b) (hb : b ≤ 4) (hh : hour < 6)
    (h : ∀ W L0 D0 M', IsB G n b hour (gS G 1) W L0 D0 → (∀ k j, ¬ lbC k j → M' k j = M k j) → M' 0 17 = nI (512 * L0 + D0) → k (mI (zi W)) M') : wpD mB mNL (d + 3) zX8_layBest [mR 8 0 0, mI (nI hour)] M k := by
  have hw := hR.2.1
  have hpb : 2 ^ b ≤ 16 := Nat.pow_le_pow_right (by decide) hb
  have hpn : 2 ^ n ≤ 512 := Nat.pow_le_pow_right (by decide) hn
  -- the state between two tries
  let St : mM → Int → Nat → Nat → (Nat → Nat → Prop) → Prop := fun M1 W L0 D0 P => (∀ k j, ¬ lbC k j → M1 k j = M k j) ∧ M1 0 17 = nI (512 * L0 + D0) ∧ BSo G n hour (gS G 1) P W L0 D0 ∧ L0 < 2 ^ b ∧ D0 < 2 ^ n ∧ -6 ≤ W ∧ W ≤ 1000
  have nlb : ∀ k j, (k ≠ 0 ∨ (j ≠ 13 ∧ j ≠ 14 ∧ j ≠ 15 ∧ j ≠ 16 ∧ j ≠ 17)) → k ≠ 7 → k ≠ 8 → ¬ lbC k j := by
    rintro k j h1 h2 h3 ((q | q | ⟨q, q2⟩) | ⟨q, q2⟩) <;> omega
  have inner : ∀ r L D M1 W L0 D0, L < 2 ^ b → D + r = 2 ^ n → St M1 W L0 D0 (fun L' D' => D' < 2 ^ n ∧ (L' < L ∨ (L' = L ∧ D' < D))) →
      (∀ M1 W L0 D0 u, St M1 W L0 D0 (fun L' D' => D' < 2 ^ n ∧ L' < L + 1) → jJ kB_X8_layBest (d + 2) k 1 [mR 8 0 0, mI (nI hour), mI (zi W), mI (nI (L + 1)), u] [] M1) →
      jJ kB_X8_layBest (d + 2) k 2 [mR 8 0 0, mI (nI hour), mI (zi W), mI (nI L), mI (nI D)] [] M1 := by
    intro r
    induction r with
    | zero =>
      intro L D M1 W L0 D0 hL hD hS hout
      obtain ⟨s1, s2, s3, s4⟩ := id hS
      refine v_X8_layBest_2 _ _ _ _ ?_
      rw [s1 0 9 (nlb 0 9 (by omega) (by decide) (by decide)), hLn.1, sh_small (by omega)]
      refine ifle (by omega) (by omega) (fun _ => ?_) (fun c => by omega)
      rw [nI_1]
      exact hout M1 W L0 D0 _ ⟨s1, s2, s3.cong (fun L' D' => ⟨fun q => ⟨q.1, by omega⟩, fun q => ⟨q.1, by omega⟩⟩), s4⟩
    | succ r ih =>
      intro L D M1 W L0 D0 hL hD hS hout
      obtain ⟨s1, s2, s3, s4, s5, s6, s7⟩ := id hS
      refine v_X8_layBest_2 _ _ _ _ ?_
      rw [s1 0 9 (nlb 0 9 (by omega) (by decide) (by decide)), hLn.1, sh_small (by omega)]
      refine ifle (by omega) (by omega) (fun c => by omega) (fun _ => ⟨vpn 1 rfl (by decide) (by decide), ?_⟩)
      have hH1 : Hyd (gS G) (gK G) M1 1 2 := hH.of (fun j => s1 1 j (nlb 1 j (by omega) (by decide) (by decide))) (fun j => s1 2 j (nlb 2 j (by omega) (by decide) (by decide)))
      have hL1 : LnM G M1 n := hLn.of (s1 0 9 (nlb 0 9 (by omega) (by decide) (by decide))) (fun j => s1 6 j (nlb 6 j (by omega) (by decide) (by decide)))
      rw [cl1, hH1.1 1 (by decide)]
      refine sp_go hR hH1 hw hL1 hn hLR hb hh (by omega) (by omega) (fun M2 hE => ?_)
      obtain ⟨⟨g1, g2, g3, g4, g5, g6⟩, -, -⟩ := hE
      have hfr : ∀ k j, ¬ lbC k j → M2 k j = M k j := fun k j hk => by rw [g1 k j (fun q => hk (Or.inl q))]; exact s1 k j hk
      have h17 : M2 0 17 = nI (512 * L0 + D0) := by rw [g1 0 17 (ngo0 (by omega))]; exact s2
      have hH2 : Hyd (gS G) (gK G) M2 1 2 := hH.of (fun j => hfr 1 j (nlb 1 j (by omega) (by decide) (by decide))) (fun j => hfr 2 j (nlb 2 j (by omega) (by decide) (by decide)))
      have hL2 : LnM G M2 n := hLn.of (hfr 0 9 (nlb 0 9 (by omega) (by decide) (by decide))) (fun j => hfr 6 j (nlb 6 j (by omega) (by decide) (by decide)))
      have bsv := svN_lt G L D hour (gS G 1) n
      have bhm := hmN_lt G L D hour (gS G 1) n
      have hPP : ∀ L' D', ((D' < 2 ^ n ∧ (L' < L ∨ (L' = L ∧ D' < D))) ∨ (L' = L ∧ D' = D)) ↔ (D' < 2 ^ n ∧ (L' < L ∨ (L' = L ∧ D' < D + 1))) := by
        intro L' D'
        constructor
        · rintro (⟨q1, q2⟩ | ⟨rfl, rfl⟩)
          · exact ⟨q1, by omega⟩
          · exact ⟨by omega, by omega⟩
        · rintro ⟨q1, q2⟩
          by_cases e : L' = L ∧ D' = D
          · exact Or.inr e
          · exact Or.inl ⟨q1, by omega⟩
      have no : ¬ okP G n hour (gS G 1) L D → jJ kB_X8_layBest (d + 2) k 2 [mR 8 0 0, mI (nI hour), mI (zi W), mI (nI L), mI (nI D + 1)] [] M2 := by
        intro hno
        rw [nI_1]
        exact ih L (D + 1) M2 W L0 D0 hL (by omega) ⟨hfr, h17, (s3.no hno).cong hPP, s4, s5, s6, s7⟩ hout
      show (_ ∧ _)
      rw [g3, g2]
      refine ⟨fun c => no (fun q => c (by rw [q.1]; rfl)), fun c => ?_⟩
      have c1 : hmN G L D hour (gS G 1) n = 0 := nI_inj (by omega) (by decide) c
      refine ⟨fun c2 => no (fun q => c2 (by rw [q.2])), fun c2 => ?_⟩
      have c3 : svN G L D hour (gS G 1) n = D := nI_inj (by omega) (by omega) c2
      have hok : okP G n hour (gS G 1) L D := ⟨c1, c3⟩
      rw [c3]
      have bw := wtS_bd (S := D) hR hLR n (Nat.le_refl n)
      refine sp_worthOf hH2 hL2 hn hLR (by omega) ?_
      show (_ ∧ _)
      rw [zi_le (by omega) (by omega) (by omega) (by omega)]
      refine ⟨fun c4 => ?_, fun c4 => ?_⟩
      · rw [nI_1]
        refine ih L (D + 1) M2 W L0 D0 hL (by omega) ⟨hfr, h17, (s3.low bw.1 c4 ?_).cong hPP, s4, s5, s6, s7⟩ hout
        rintro L' D' ⟨-, q⟩
        omega
      · rw [g2, c3]
        refine sp_worthOf hH2 hL2 hn hLR (by omega) ?_
        have e9 : nI L <<< ((9 : Int32) &&& 31) = nI (L * 2 ^ 9) := pk_shlN _ 9 (by decide) (by omega)
        show jJ _ _ _ _ [_, _, mI (zi (wtS G D n)), _, mI (nI D + 1)] _ (up M2 0 17 (nI L <<< (9 &&& 31) + nI D))
        rw [nI_1, e9, nI_add]
        refine ih L (D + 1) _ (wtS G D n) L D hL (by omega) ⟨fun k j hk => ?_, ?_, (s3.new hok (by omega)).cong hPP, hL, by omega, by omega, by omega⟩ hout
        · have : ¬ (k = 0 ∧ j = 17) := fun q => hk (Or.inr q)
          unfold up
          rw [if_neg this]
          exact hfr k j hk
        · rw [up_at]
          congr 1
          omega
  have outer : ∀ r L M1 W L0 D0 u, L + r = 2 ^ b → St M1 W L0 D0 (fun L' D' => D' < 2 ^ n ∧ L' < L) → jJ kB_X8_layBest (d + 2) k 1 [mR 8 0 0, mI (nI hour), mI (zi W), mI (nI L), u] [] M1 := by
    intro r
    induction r with
    | zero =>
      intro L M1 W L0 D0 u hL hS
      obtain ⟨s1, s2, s3, s4⟩ := id hS
      refine v_X8_layBest_1 _ _ _ _ ?_
      rw [s1 0 6 (nlb 0 6 (by omega) (by decide) (by decide)), h6, sh_small (by omega)]
      refine ifle (by omega) (by omega) (fun _ => h W L0 D0 M1 (s3.cong (fun L' D' => ⟨fun q => ⟨by omega, q.1⟩, fun q => ⟨q.2, by omega⟩⟩)) s1 s2) (fun c => by omega)
    | succ r ih =>
      intro L M1 W L0 D0 u hL hS
      obtain ⟨s1, s2, s3, s4⟩ := id hS
      refine v_X8_layBest_1 _ _ _ _ ?_
      rw [s1 0 6 (nlb 0 6 (by omega) (by decide) (by decide)), h6, sh_small (by omega)]
      refine ifle (by omega) (by omega) (fun c => by omega) (fun _ => ?_)
      refine inner (2 ^ n) L 0 M1 W L0 D0 (by omega) (by omega) ⟨s1, s2, s3.cong (fun L' D' => ⟨fun q => ⟨q.1, by omega⟩, fun q => ⟨q.1, by omega⟩⟩), s4⟩ (fun M2 W' L0' D0' u' hS' => ih (L + 1) M2 W' L0' D0' u' (by omega) hS')
  have p1 : 0 < 2 ^ b := Nat.pow_pos (by decide)
  have p2 : 0 < 2 ^ n := Nat.pow_pos (by decide)
  refine v_X8_layBest_0 _ (outer (2 ^ b) 0 _ (-6) 0 0 _ (by omega) ⟨fun k j hk => ?_, up_at _ _ _ _, Or.inl ⟨rfl, rfl, rfl, fun L D q => absurd q.2 (Nat.not_lt_zero _)⟩, p1, p2, by decide, by decide⟩)
  have : ¬ (k = 0 ∧ j = 17) := fun q => hk (Or.inr q)
  unfold up
  rw [if_neg this]
