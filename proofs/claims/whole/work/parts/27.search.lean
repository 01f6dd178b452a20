/-! THE CLASS' SEARCH, AS IT RUNS -/
def PSt (M : mM) (s : Int × Int × Nat) : Prop := M 26 1 = zi s.1 ∧ M 26 2 = zi s.2.1 ∧ M 26 3 = nI s.2.2
def PBd (s : Int × Int × Nat) : Prop := -6 ≤ s.1 ∧ s.1 ≤ 2000 ∧ -6 ≤ s.2.1 ∧ s.2.1 ≤ 16 ∧ s.2.2 < 1024
def PFr (M M' : mM) : Prop := ∀ k j, ¬ (k = 26 ∧ 1 ≤ j ∧ j ≤ 3) → M' k j = M k j
theorem PFr.rfl' (M : mM) : PFr M M := fun _ _ _ => rfl
theorem PFr.trans {M M' M'' : mM} (h : PFr M M') (h' : PFr M' M'') : PFr M M'' := fun k j q => (h' k j q).trans (h k j q)
def DCtx (G : LG) (L hour n : Nat) (M : mM) : Prop := M 26 5 = nI hour ∧ M 26 6 = nI L ∧ LnC G M 27 n ∧ Hyd (gS G) (gK G) M 36 37 ∧ ∀ h, h ≤ n → M 31 h = zi (wbF G hour (n - h) h)
theorem DCtx.of {G : LG} {L hour n : Nat} {M M' : mM} (h : DCtx G L hour n M) (f : PFr M M') : DCtx G L hour n M' := by
  obtain ⟨h1, h2, h3, h4, h5⟩ := h
  refine ⟨by rw [f 26 5 (by omega)]; exact h1, by rw [f 26 6 (by omega)]; exact h2, h3.of (fun k j _ _ => f k j (by omega)), h4.of (fun j => f 36 j (by omega)) (fun j => f 37 j (by omega)), fun i hi => by rw [f 31 i (by omega)]; exact h5 i hi⟩
theorem nI_zi_eq {a : Nat} {b : Int} (ha : a < 2147483648) (h1 : -2147483648 ≤ b) (h2 : b < 2147483648) : nI a = zi b ↔ (a : Int) = b := by
  rw [nI_zi, zi_eq (by omega) (by omega) h1 h2]
theorem sp_offer {d : Nat} {k : mQ} {M : mM} {s : Int × Int × Nat} {L X : Nat} {g : Int} (hs : PSt M s) (hb : PBd s) (h6 : M 26 6 = nI L) (hL : L < 16) (hX : X < 2147483648) (hg : -6 ≤ g ∧ g ≤ 2000) (h : ∀ M', PFr M M' → PSt M' (ofr L s (X, g)) → k none M') : wpD mB mNL (d + 1) zX5_offer [mR 5 0 26, mI (nI X), mI (zi g)] M k := by
  obtain ⟨s1, s2, s3⟩ := id hs
  obtain ⟨b1, b2, b3, b4, b5⟩ := hb
  have yes : (s.1 < g ∨ (g = s.1 ∧ (L : Int) = s.2.1 ∧ X < s.2.2)) → jJ kB_X5_offer d k 1 [mR 5 0 26, mI (nI X), mI (zi g)] [] M := by
    intro c
    refine v_X5_offer_1 _ _ (h _ (fun k j q => ?_) ?_)
    · unfold up
      rw [if_neg (by omega), if_neg (by omega), if_neg (by omega)]
    · unfold ofr
      rw [if_pos c]
      refine ⟨?_, ?_, ?_⟩
      · rw [up_j (by decide), up_j (by decide), up_at]
      · rw [up_j (by decide), up_at, h6]
        exact nI_zi L
      · rw [up_at]
  have no : ¬ (s.1 < g ∨ (g = s.1 ∧ (L : Int) = s.2.1 ∧ X < s.2.2)) → k none M := by
    intro c
    refine h M (PFr.rfl' M) ?_
    unfold ofr
    rw [if_neg c]
    exact hs
  refine v_X5_offer_0 _ _ ?_
  rw [s1, s2, s3, h6, zi_lt (by omega) (by omega) (by omega) (by omega), zi_eq (by omega) (by omega) (by omega) (by omega), nI_zi_eq (by omega) (by omega) (by omega)]
  refine ⟨fun c => yes (Or.inl c), fun c => ⟨fun c2 => no ?_, fun c2 => ⟨fun c3 => no ?_, fun c3 => ifle (by omega) (by omega) (fun c4 => no ?_) (fun c4 => yes (Or.inr ⟨c2, c3, c4⟩))⟩⟩⟩
  · rintro (q | ⟨q, -⟩)
    · exact c q
    · exact c2 q
  · rintro (q | ⟨-, q, -⟩)
    · exact c q
    · exact c3 q
  · rintro (q | ⟨-, -, q⟩)
    · exact c q
    · omega
theorem sp_mayWin {d : Nat} {k : mQ} {M : mM} {s : Int × Int × Nat} {L : Nat} {g : Int} (hs : PSt M s) (hb : PBd s) (h6 : M 26 6 = nI L) (hL : L < 16) (hg : -6 ≤ g ∧ g ≤ 4000) (h : k (mI (bI (decide (s.1 < g ∨ (g = s.1 ∧ (L : Int) = s.2.1))))) M) : wpD mB mNL (d + 1) zX5_mayWin [mR 5 0 26, mI (zi g)] M k := by
  obtain ⟨s1, s2, s3⟩ := id hs
  obtain ⟨b1, b2, b3, b4, b5⟩ := hb
  have yes : (s.1 < g ∨ (g = s.1 ∧ (L : Int) = s.2.1)) → k (mI 1) M := by
    intro c
    rw [show decide (s.1 < g ∨ (g = s.1 ∧ (L : Int) = s.2.1)) = true from decide_eq_true c] at h
    exact h
  have no : ¬ (s.1 < g ∨ (g = s.1 ∧ (L : Int) = s.2.1)) → k (mI 0) M := by
    intro c
    rw [show decide (s.1 < g ∨ (g = s.1 ∧ (L : Int) = s.2.1)) = false from decide_eq_false c] at h
    exact h
  refine v_X5_mayWin_0 _ ?_
  rw [s1, s2, h6, zi_lt (by omega) (by omega) (by omega) (by omega), zi_eq (by omega) (by omega) (by omega) (by omega), nI_zi_eq (by omega) (by omega) (by omega)]
  refine ⟨fun c => yes (Or.inl c), fun c => ⟨fun c2 => no ?_, fun c2 => ⟨fun c3 => no ?_, fun c3 => yes (Or.inr ⟨c2, c3⟩)⟩⟩⟩
  · rintro (q | ⟨q, -⟩)
    · exact c q
    · exact c2 q
  · rintro (q | ⟨-, q⟩)
    · exact c q
    · exact c3 q
theorem wbF_bd {G : LG} {hour n b : Nat} (hR : Rng (gS G) (gK G)) (hLR : LR G n b) : ∀ m h, h + m ≤ n → 0 ≤ wbF G hour m h ∧ wbF G hour m h ≤ 99 * (m : Int)
  | 0, h, _ => by simp [wbF]
  | m + 1, h, hm => by
    have ih := wbF_bd (hour := hour) hR hLR m (h + 1) (by omega)
    have hc := (hR.2.2.2.2.2 (kdH G h) (hLR h (by omega)).1).2.2.2.1
    unfold wbF wthK
    split
    · exact ⟨by omega, by omega⟩
    · exact ⟨by omega, by omega⟩
theorem gnF_bd {G : LG} {X n b : Nat} (hR : Rng (gS G) (gK G)) (hLR : LR G n b) : ∀ m h, h + m ≤ n → 0 ≤ gnF G X m h ∧ gnF G X m h ≤ 99 * (m : Int)
  | 0, h, _ => by simp [gnF]
  | m + 1, h, hm => by
    have ih := gnF_bd (X := X) hR hLR m (h + 1) (by omega)
    have hc := (hR.2.2.2.2.2 (kdH G h) (hLR h (by omega)).1).2.2.2.1
    unfold gnF wthK
    split
    · exact ⟨by omega, by omega⟩
    · exact ⟨by omega, by omega⟩
theorem wthK_bd {G : LG} {n b : Nat} (hR : Rng (gS G) (gK G)) (hLR : LR G n b) {h : Nat} (hn : h < n) : 0 ≤ wthK G h ∧ wthK G h ≤ 99 := (hR.2.2.2.2.2 (kdH G h) (hLR h hn).1).2.2.2.1
theorem can_bd2 {G : LG} {hour h : Nat} {F Q : Int} (hR : Rng (gS G) (gK G)) (hF : 0 ≤ F) (hk : kdH G h < 6) (hs : caB G hour h F Q = true) : 0 ≤ Q - wtK G h ∧ 0 ≤ wtK G h ∧ wtK G h ≤ 9999 := by
  have hw := (hR.2.2.2.2.2 (kdH G h) hk).2.2.1
  unfold caB canB at hs
  simp only [Bool.and_eq_true, decide_eq_true_eq] at hs
  have b1 := Int.mul_nonneg hR.2.2.1.1 hF
  have := hs.2
  unfold wtK
  exact ⟨by omega, hw.1, hw.2⟩
theorem fold_bd {G : LG} {L hour n b m h : Nat} {F Q g : Int} {D : Nat} {s : Int × Int × Nat} (hR : Rng (gS G) (gK G)) (hLR : LR G n b) (hn : n = h + m) (hn9 : n ≤ 9) (hL : L < 16) (hD : D < 2 ^ h) (hg : 0 ≤ g ∧ g ≤ 99 * (h : Int)) (hb : PBd s) : PBd ((lvs G L hour m h F Q D g).foldl (ofr L) s) := by
  rcases ofr_fold (L := L) (lvs G L hour m h F Q D g) s with ⟨e, -⟩ | ⟨q, hq, e, -, -⟩
  · rw [e]; exact hb
  · rw [e]
    obtain ⟨X, g'⟩ := q
    obtain ⟨q1, q2, q3, q4⟩ := (lvs_mem m h F Q D g X g' hD).mp hq
    have bg := gnF_bd (X := X) hR hLR m h (by omega)
    have : 2 ^ (h + m) ≤ 2 ^ 9 := Nat.pow_le_pow_right (by decide) (by omega)
    exact ⟨by show -6 ≤ g'; omega, by show g' ≤ 2000; omega, by show -6 ≤ (L : Int); omega, by show (L : Int) ≤ 16; omega, by show X < 1024; omega⟩
set_option maxHeartbeats 4000000 in
theorem sp_descend {G : LG} {L hour n b : Nat} (hR : Rng (gS G) (gK G)) (hLR : LR G n b) (hn : n ≤ 8) (hb : b ≤ 4) (hh : hour < 6) (hL : L < 16) : ∀ m h, n = h + m → ∀ (d : Nat) (M : mM) (s : Int × Int × Nat) (F Q : Int) (D : Nat) (g : Int) (k : mQ), DCtx G L hour n M → PSt M s → PBd s → WBh h F Q → D < 2 ^ h → 0 ≤ g ∧ g ≤ 99 * (h : Int) →
    (∀ M', PFr M M' → PSt M' ((lvs G L hour m h F Q D g).foldl (ofr L) s) → k none M') → wpD mB mNL (d + m + 6) zX5_descend [mR 5 0 26, mI (nI h), mI (zi F), mI (zi Q), mI (nI D), mI (zi g)] M k := by
  intro m
  induction m with
  | zero =>
    intro h hnm d M s F Q D g k hC hs hbd hW hD hg hk
    obtain ⟨c1, c2, c3, c4, c5⟩ := id hC
    refine v_X5_descend_0 (d := d + 5) _ _ _ _ _ ?_
    have p2 : 2 ^ h ≤ 2 ^ 8 := Nat.pow_le_pow_right (by decide) (by omega)
    rw [c3.1]
    refine ifle (by omega) (by omega) (fun _ => v_X5_descend_1 _ _ _ _ _ _ _ _ _ (sp_offer hs hbd c2 hL (by omega) ⟨by omega, by omega⟩ (fun M' f p => hk M' f p))) (fun c => by omega)
  | succ m ih =>
    intro h hnm d M s F Q D g k hC hs hbd hW hD hg hk
    obtain ⟨c1, c2, c3, c4, c5⟩ := id hC
    have hln := c3.2 h (by omega)
    have hlr := hLR h (by omega)
    have hwk := wthK_bd hR hLR (h := h) (by omega)
    have p2 : 2 ^ h ≤ 2 ^ 8 := Nat.pow_le_pow_right (by decide) (by omega)
    have p3 : 2 ^ (h + 1) = 2 ^ h + 2 ^ h := by rw [Nat.pow_succ]; omega
    have bwb := wbF_bd (hour := hour) hR hLR (m + 1) h (by omega)
    have ab := ar_bd (L := L) hR hlr.2.1.1 hW
    refine v_X5_descend_0 (d := d + m + 6) _ _ _ _ _ ?_
    rw [c3.1]
    refine ifle (by omega) (by omega) (fun c => by omega) (fun _ => iflt (a := h) (b := 8) (by omega) (by omega) (fun _ => ?_) (fun c => by omega))
    refine sp_cell (by omega) (by decide) ?_
    have e31 : M 31 h = zi (wbF G hour (m + 1) h) := by rw [c5 h (by omega)]; congr 2; omega
    refine wpD_at (as' := [mR 5 0 26, mI (zi (g + wbF G hour (m + 1) h))]) (by rw [← zi_add, ← e31]) ?_
    refine sp_mayWin hs hbd c2 hL ⟨by omega, by omega⟩ (ifb' (fun cm => ?_) (fun cm => ?_))
    · -- behind the brook
      have four : ∀ u, jJ kB_X5_descend (d + m + 6) k 4 [mR 5 0 26, mI (nI h), mI (zi F), mI (zi Q), mI (nI D), mI (zi g), mR 6 0 35, mI (zi (aF G L h F)), mI (zi (aQ G L h F Q)), u] [] M := by
        intro u
        have hWB := ab.wb (by omega)
        refine v_X5_descend_4 _ _ _ _ _ _ _ _ (sp_kindOf (i := h) (by omega) ?_)
        refine wpD_at (as' := [mR 6 0 35, mI (nI (kdH G h)), mI (zi (aF G L h F)), mI (zi (aQ G L h F Q))]) (by rw [← hln.1]) ?_
        refine sp_isHarmed hR c4 hlr.1 hWB (ifb (fun eh => ?_) (fun eh => ?_))
        · refine wpD_at (as' := [mR 6 0 35, mI (nI (kdH G h)), mI (nI hour), mI (zi (aF G L h F)), mI (zi (aQ G L h F Q))]) (by rw [← hln.1, ← c1]) ?_
          have elv : ∀ (l2 : List (Nat × Int)), (if caB G hour h (aF G L h F) (aQ G L h F Q) then lvs G L hour m (h + 1) (aF G L h F) (aQ G L h F Q - wtK G h) (D + 2 ^ h) (g + wthK G h) else []) = l2 → lvs G L hour (m + 1) h F Q D g = l2 ++ lvs G L hour m (h + 1) (aF G L h F) (aQ G L h F Q) D g := by
            intro l2 e
            have eh' : haB G h (aF G L h F) (aQ G L h F Q) = false := eh
            rw [lvs, eh', ← e]
            rfl
          -- the second half: the house doesn't draw
          have six : ∀ M1 s1 l2 v9, PFr M M1 → PSt M1 s1 → PBd s1 → lvs G L hour (m + 1) h F Q D g = l2 ++ lvs G L hour m (h + 1) (aF G L h F) (aQ G L h F Q) D g → l2.foldl (ofr L) s = s1 → jJ kB_X5_descend (d + m + 6) k 6 [mR 5 0 26, mI (nI h), mI (zi F), mI (zi Q), mI (nI D), mI (zi g), mR 6 0 35, mI (zi (aF G L h F)), mI (zi (aQ G L h F Q)), mI v9] [] M1 := by
            intro M1 s1 l2 v9 f1 hs1 hb1 e1 e2
            refine v_X5_descend_6 _ _ _ _ _ _ _ _ ?_
            rw [nI_1]
            refine ih (h + 1) (by omega) d M1 s1 _ _ D g _ (hC.of f1) hs1 hb1 ab (by omega) ⟨hg.1, by omega⟩ (fun M2 f2 hs2 => hk M2 (f1.trans f2) ?_)
            rw [e1, List.foldl_append, e2]
            exact hs2
          refine sp_isServed hR c4 hlr.1 hh hWB (ifb (fun es => ?_) (fun es => ?_))
          · refine six M s [] _ (PFr.rfl' M) hs hbd (elv [] ?_) rfl
            have es' : caB G hour h (aF G L h F) (aQ G L h F Q) = false := es
            rw [es']
            rfl
          · have es' : caB G hour h (aF G L h F) (aQ G L h F Q) = true := es
            have cb := can_bd2 hR (by have := ab.1; omega) hlr.1 es'
            refine wpD_at (as' := [mR 6 0 35, mI (nI 2), mI (nI (kdH G h))]) (by rw [← hln.1]; rfl) ?_
            refine sp_kindZ (o := 35) c4 (by decide) hlr.1 ?_
            refine wpD_at (as' := [mR 6 0 35, mI (nI 3), mI (nI (kdH G h))]) (by rw [← hln.1]; rfl) ?_
            refine sp_kindZ (o := 35) c4 (by decide) hlr.1 ?_
            refine wpD_at (as' := [mR 5 0 26, mI (nI (h + 1)), mI (zi (aF G L h F)), mI (zi (aQ G L h F Q - wtK G h)), mI (nI (D + 2 ^ h)), mI (zi (g + wthK G h))]) (by rw [← nI_1, ← zi_sub, ← zi_add, ← nI_or_pow hD, sh_small (by omega)]; rfl) ?_
            obtain ⟨a1, a2, a3, a4⟩ := ab
            refine ih (h + 1) (by omega) d M s _ _ (D + 2 ^ h) _ _ hC hs hbd ⟨a1, a2, cb.1, by omega⟩ (by omega) ⟨by omega, by omega⟩ (fun M1 f1 hs1 => ?_)
            refine six M1 _ (lvs G L hour m (h + 1) (aF G L h F) (aQ G L h F Q - wtK G h) (D + 2 ^ h) (g + wthK G h)) _ f1 hs1 (fold_bd hR hLR (by omega) (by omega) hL (by omega) ⟨by omega, by omega⟩ hbd) (elv _ ?_) rfl
            rw [es']
            rfl
        · refine hk M (PFr.rfl' M) ?_
          have eh' : haB G h (aF G L h F) (aQ G L h F Q) = true := eh
          rw [lvs, eh']
          exact hs
      refine sp_lossAheadOf (i := h) (by omega) ?_
      refine wpD_at (as' := [mR 6 0 35, mI (zi (loH G h)), mI (zi F), mI (zi Q)]) (by rw [← hln.2.1]) ?_
      refine sp_heatBehindPipe hR c4 hlr.2.1 (hW.wb (by omega)) (sp_brookAheadOf (i := h) (by omega) ?_)
      refine wpD_at (as' := [mI (nI L), mI (zi (brH G h))]) (by rw [← hln.2.2, ← c2]) ?_
      have noB : brB L (brH G h) = false → jJ kB_X5_descend (d + m + 6) k 4 [mR 5 0 26, mI (nI h), mI (zi F), mI (zi Q), mI (nI D), mI (zi g), mR 6 0 35, mI (zi F), mI (zi (pipeQ (gS G 2) (loH G h) F Q)), none] [] M := by
        intro ebr
        have h9 := four none
        unfold aF aQ at h9
        rw [ebr] at h9
        exact h9
      rcases hlr.2.2 with hb6 | hb0
      · rw [hb6]
        exact sp_hasBit_neg (by decide) ⟨fun _ => noB (by rw [hb6]; rfl), fun c => absurd rfl c⟩
      · have e9 : zi (brH G h) = nI (brH G h).toNat := by rw [nI_zi]; congr 1; omega
        rw [e9]
        refine sp_hasBit (by omega) (by omega) (ifb (fun e => noB (by unfold brB; rw [e]; simp)) (fun e => ?_))
        have ebr : brB L (brH G h) = true := by unfold brB; rw [e]; simp; omega
        refine sp_springZ (o := 35) (i := 3) c4 (by decide) (sp_springZ (o := 35) (i := 3) c4 (by decide) (sp_springZ (o := 35) (i := 4) c4 (by decide) ?_))
        have h9 := four none
        unfold aF aQ at h9
        rw [ebr] at h9
        simp only [if_true] at h9
        rw [← zi_add, ← zi_add, ← zi_mul] at h9
        exact h9
    · refine hk M (PFr.rfl' M) ?_
      rw [ofr_none (hope := g + wbF G hour (m + 1) h) (of_decide_eq_false cm) _ (fun q hq => lvs_hope (m + 1) h _ _ _ _ q (fun i hi => (wthK_bd hR hLR (by omega)).1) hq)]
      exact hs
