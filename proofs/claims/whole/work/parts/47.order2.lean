/-! THE CLASS' SEARCH FOR THE BEST ORDER -/
def OFr (M M' : mM) : Prop := ∀ k j, ¬ (k = 33 ∨ k = 34 ∨ (k = 32 ∧ j = 0)) → M' k j = M k j
theorem OFr.trans {M M' M'' : mM} (h : OFr M M') (h' : OFr M' M'') : OFr M M'' := fun k j q => (h' k j q).trans (h k j q)
def OSt (n : Nat) (M : mM) (s : Int × List Nat) : Prop := M 32 0 = zi s.1 ∧ (s.1 ≠ -6 → ∀ j, j < n → M 33 j = nI (s.2.getD j 0))
def OCx (G : LG) (hour n : Nat) (M : mM) : Prop := M 32 4 = nI hour ∧ LnC G M 38 n ∧ Hyd (gS G) (gK G) M 36 37
theorem OCx.of {G : LG} {hour n : Nat} {M M' : mM} (h : OCx G hour n M) (f : OFr M M') : OCx G hour n M' :=
  ⟨by rw [f 32 4 (by omega)]; exact h.1, h.2.1.of (fun k j a b => f k j (by omega)), h.2.2.of (fun j => f 36 j (by omega)) (fun j => f 37 j (by omega))⟩
theorem sp_worthLeft {d : Nat} {k : mQ} {M : mM} {G : LG} {hour n b placed : Nat} (hR : Rng (gS G) (gK G)) (hLR : LR G n b) (hn : n ≤ 8) (hh : hour < 6) (hC : OCx G hour n M) (hp : placed < 2147483648) (h : k (mI (zi (wlF G hour placed n))) M) : wpD mB mNL (d + 4) zX3_worthLeft [mR 3 0 32, mI (nI placed)] M k := by
  obtain ⟨c1, c2, c3⟩ := hC
  have key : ∀ r i u, i + r = n → jJ kB_X3_worthLeft (d + 3) k 1 [mR 3 0 32, mI (nI placed), mI (zi (wlF G hour placed i)), mI (nI i), u] [] M := by
    intro r
    induction r with
    | zero =>
      intro i u hi
      have : i = n := by omega
      subst this
      refine v_X3_worthLeft_1 _ _ _ _ ?_
      rw [c2.1]
      exact ifle (by omega) (by omega) (fun _ => h) (fun q => by omega)
    | succ r ih =>
      intro i u hi
      have hln := c2.2 i (by omega)
      have hlr := hLR i (by omega)
      have h9 := fun u => ih (i + 1) u (by omega)
      refine v_X3_worthLeft_1 _ _ _ _ ?_
      rw [c2.1, nI_1]
      refine ifle (by omega) (by omega) (fun q => by omega) (fun _ => sp_kindOf (d := d + 1) (by omega) (sp_hasBit hp (by omega) (ifb' (fun e => ?_) (fun e => ?_))))
      · have := h9 (mI (M (38 + 1) i))
        rw [wlF, if_pos e] at this
        exact this
      · refine wpD_at (as' := [mR 6 0 35, mI (nI (kdH G i)), mI (nI hour)]) (by rw [← hln.1, ← c1]) (sp_isWanting hR c3 hlr.1 hh (ifb (fun e2 => ?_) (fun e2 => ?_)))
        · have := h9 (mI (M (38 + 1) i))
          rw [wlF, if_neg (by rw [e]; decide), if_neg (by show ¬ _ = true; rw [show wanB G hour i = false from e2]; decide)] at this
          exact this
        · refine wpD_at (as' := [mR 6 0 35, mI (nI 3), mI (nI (kdH G i))]) (by rw [← hln.1]; rfl) (sp_kindZ (d := d + 1) (o := 35) c3 (by decide) hlr.1 ?_)
          have := h9 (mI (M (38 + 1) i))
          rw [wlF, if_neg (by rw [e]; decide), if_pos (show wanB G hour i = true from e2), ← zi_add] at this
          exact this
  exact v_X3_worthLeft_0 _ (key n 0 none (by omega))
theorem orF_bd {G : LG} {hour n b pl m placed : Nat} {q g : Int} {pre : List Nat} (hR : Rng (gS G) (gK G)) (hLR : LR G n b) (hg : g + wlF G hour placed n ≤ 1000) : ∀ (ls : List (List Nat)) (s : Int × List Nat), (∀ l ∈ ls, l ∈ lxP n m placed) → -6 ≤ s.1 ∧ s.1 ≤ 1000 → -6 ≤ (orF G hour pl q g pre s ls).1 ∧ (orF G hour pl q g pre s ls).1 ≤ 1000
  | [], s, _, h => h
  | l :: ls, s, hl, h => by
    show -6 ≤ (orF G hour pl q g pre (orU G hour pl q g pre s l) ls).1 ∧ (orF G hour pl q g pre (orU G hour pl q g pre s l) ls).1 ≤ 1000
    refine orF_bd hR hLR hg ls _ (fun l' h' => hl l' (List.mem_cons_of_mem _ h')) ?_
    unfold orU
    cases ev : evL G hour pl q g l with
    | none => exact h
    | some w =>
      have := evL_hope hR hLR m placed l pl q g w (hl l List.mem_cons_self) ev
      dsimp only
      split
      · dsimp only; omega
      · exact h
/-- the houses that come next -/
def lxN (n m placed h : Nat) : List (List Nat) := if placed.testBit h then [] else (lxP n m (placed ||| 2 ^ h)).map (fun l => h :: l)
theorem lxN_app {n m placed h : Nat} : (List.range (h + 1)).flatMap (lxN n m placed) = (List.range h).flatMap (lxN n m placed) ++ lxN n m placed h := by
  rw [List.range_succ, List.flatMap_append]
  simp
theorem lxN_sub {n m placed h : Nat} (hh : h ≤ n) : ∀ l ∈ (List.range h).flatMap (lxN n m placed), l ∈ lxP n (m + 1) placed := fun l hl => by
  rw [List.mem_flatMap] at hl
  obtain ⟨x, h1, h2⟩ := hl
  rw [List.mem_range] at h1
  rw [lxP, List.mem_flatMap]
  exact ⟨x, List.mem_range.mpr (by omega), h2⟩
set_option maxHeartbeats 2000000 in
theorem sp_odescend {G : LG} {hour n b : Nat} (hR : Rng (gS G) (gK G)) (hLR : LR G n b) (hn : n ≤ 7) (hh : hour < 6) : ∀ m pl, n = pl + m → ∀ (d : Nat) (M : mM) (s : Int × List Nat) (placed : Nat) (q g : Int) (pre : List Nat) (k : mQ), OCx G hour n M → OSt n M s → (-6 ≤ s.1 ∧ s.1 ≤ 1000) → pre.length = pl → (∀ j, j < pl → M 34 j = nI (pre.getD j 0)) → placed < 2 ^ n → bnF placed n = pl → (0 ≤ q ∧ q ≤ 50000) → (0 ≤ g ∧ g + wlF G hour placed n ≤ 1000) →
    (∀ M', OFr M M' → (∀ j, j < pl → M' 34 j = M 34 j) → OSt n M' (orF G hour pl q g pre s (lxP n m placed)) → k none M') → wpD mB mNL (d + m + 5) zX3_descend [mR 3 0 32, mI (nI pl), mI (nI placed), mI (zi q), mI (zi g)] M k := by
  have p7 : 2 ^ n ≤ 2 ^ 7 := Nat.pow_le_pow_right (by decide) hn
  intro m
  induction m with
  | zero =>
    intro pl hpl d M s placed q g pre k hC hs hsb hpre hch hpn hbn hq hg hk
    have hpl' : pl = n := by omega
    subst hpl'
    have full := bnF_full pl hbn
    have w0 := wlF_full (G := G) (hour := hour) full pl (Nat.le_refl pl)
    refine v_X3_descend_0 _ _ _ _ (sp_worthLeft hR hLR (by omega) hh hC (by omega) ?_)
    show (_ ∧ _)
    rw [hs.1, w0, zi_add, Int.add_zero, hC.2.1.1]
    have e : orF G hour pl q g pre s (lxP pl 0 placed) = if s.1 < g then (g, pre ++ []) else s := rfl
    rw [e] at hk
    rw [zi_lt (by omega) (by omega) (by omega) (by omega)]
    refine ⟨fun c => ifle (by omega) (by omega) (fun _ => v_X3_descend_2 _ _ _ _ _ _ _ _ _ (sp_copyRow (by decide) (by decide) ?_)) (fun x => by omega), fun c => ?_⟩
    · rw [if_pos c] at hk
      refine hk _ (fun k j x => ?_) (fun j hj => ?_) ⟨?_, fun _ j hj => ?_⟩
      · rw [cpy_out (by omega)]
        unfold up
        rw [if_neg (by omega)]
      · rw [cpy_out (by decide), up_k (by decide)]
      · rw [cpy_out (by decide), up_at]
      · rw [cpy_in (by omega), up_k (by decide), List.append_nil]
        exact hch j hj
    · rw [if_neg c] at hk
      exact hk M (fun _ _ _ => rfl) (fun _ _ => rfl) hs
  | succ m ih =>
    intro pl hpl d M s placed q g pre k hC hs hsb hpre hch hpn hbn hq hg hk
    obtain ⟨r1, r2, r3, r4, r5, r6⟩ := id hR
    have wlb := wlF_bd (hour := hour) (placed := placed) hR hLR n (Nat.le_refl n)
    have hlr := hLR pl (by omega)
    have hW : WB (gS G 0) q := ⟨r1.1, by omega, hq.1, by omega⟩
    have pb := pipe_bd (A := gS G 2) (l := loH G pl) (F := gS G 0) (Q := q) r3.1 hlr.2.1.1 (by omega) hq.1
    refine v_X3_descend_0 _ _ _ _ (sp_worthLeft (d := d + m + 1) hR hLR (by omega) hh hC (by omega) ?_)
    show (_ ∧ _)
    rw [hs.1, zi_add, hC.2.1.1, zi_lt (by omega) (by omega) (by omega) (by omega)]
    refine ⟨fun c => ifle (by omega) (by omega) (fun x => by omega) (fun _ => iflt (a := pl) (b := 7) (by omega) (by decide) (fun _ => ?_) (fun x => by omega)), fun c => ?_⟩
    · refine sp_springZ (d := d + m + 3) (o := 35) (i := 0) hC.2.2 (by decide) (sp_lossAheadOf (d := d + m + 3) (by omega) ?_)
      refine wpD_at (as' := [mR 6 0 35, mI (zi (loH G pl)), mI (zi (gS G 0)), mI (zi q)]) (by rw [← (hC.2.1.2 pl (by omega)).2.1]) (sp_heatBehindPipe (d := d + m + 2) hR hC.2.2 hlr.2.1 hW ?_)
      generalize hQ : pipeQ (gS G 2) (loH G pl) (gS G 0) q = Q at *
      have hW2 : WB (gS G 0) Q := ⟨r1.1, by omega, pb.1, by omega⟩
      have sub : ∀ h, h ≤ n → -6 ≤ (orF G hour pl q g pre s ((List.range h).flatMap (lxN n m placed))).1 ∧ (orF G hour pl q g pre s ((List.range h).flatMap (lxN n m placed))).1 ≤ 1000 := fun h hh => orF_bd hR hLR hg.2 _ s (lxN_sub hh) hsb
      have loop : ∀ r h M1 u9 u10, h + r = n → OFr M M1 → (∀ j, j < pl → M1 34 j = M 34 j) → OSt n M1 (orF G hour pl q g pre s ((List.range h).flatMap (lxN n m placed))) →
          jJ kB_X3_descend (d + m + 5) k 4 [mR 3 0 32, mI (nI pl), mI (nI placed), mI (zi q), mI (zi g), mR 6 0 35, mI (zi (gS G 0)), mI (zi Q), mI (nI h), u9, u10] [] M1 := by
        intro r
        induction r with
        | zero =>
          intro h M1 u9 u10 hi f ch hs1
          have : h = n := by omega
          subst this
          refine v_X3_descend_4 _ _ _ _ _ _ _ _ _ ?_
          rw [(hC.of f).2.1.1]
          exact ifle (by omega) (by omega) (fun _ => hk M1 f ch hs1) (fun x => by omega)
        | succ r ih2 =>
          intro h M1 u9 u10 hi f ch hs1
          have hC1 := hC.of f
          have hk1 := (hC1.2.1.2 h (by omega)).1
          have hlh := hLR h (by omega)
          have sb := sub h (by omega)
          have nx := fun M2 u9 u10 => ih2 (h + 1) M2 u9 u10 (by omega)
          rw [lxN_app] at nx
          simp only [orF_app] at nx
          generalize hs2 : orF G hour pl q g pre s ((List.range h).flatMap (lxN n m placed)) = s2 at *
          refine v_X3_descend_4 _ _ _ _ _ _ _ _ _ ?_
          rw [hC1.2.1.1, nI_1]
          refine ifle (by omega) (by omega) (fun x => by omega) (fun _ => sp_kindOf (d := d + m + 3) (by omega) (sp_hasBit (d := d + m + 4) (by omega) (by omega) (ifb' (fun e => ?_) (fun e => ?_))))
          · rw [lxN, if_pos e] at nx
            exact nx M1 _ _ f ch hs1
          · rw [lxN, if_neg (by rw [e]; decide)] at nx
            simp only [orF_put, hQ] at nx
            refine wpD_at (as' := [mR 6 0 35, mI (nI (kdH G h)), mI (zi (gS G 0)), mI (zi Q)]) (by rw [← hk1]) (sp_isHarmed (d := d + m + 2) hR hC1.2.2 hlh.1 hW2 (ifb' (fun eh => ?_) (fun eh => ?_)))
            · rw [if_pos eh] at nx
              exact nx M1 _ _ f ch hs1
            · rw [if_neg (by rw [eh]; decide)] at nx
              refine wpD_at (as' := [mR 6 0 35, mI (nI (kdH G h)), mI (nI hour), mI (zi (gS G 0)), mI (zi Q)]) (by rw [← hk1, ← hC1.1]) (sp_isServed (d := d + m + 2) hR hC1.2.2 hlh.1 hh hW2 (sp_setCell (d := d + m + 4) (by omega) (by decide) ?_))
              have f2 : OFr M (up M1 34 pl (nI h)) := fun k j x => by rw [up_k (by omega)]; exact f k j x
              have hC2 := hC.of f2
              have hs3 : OSt n (up M1 34 pl (nI h)) s2 := ⟨by rw [up_k (by decide)]; exact hs1.1, fun x j hj => by rw [up_k (by decide)]; exact hs1.2 x j hj⟩
              have ch3 : ∀ j, j < pl + 1 → (up M1 34 pl (nI h)) 34 j = nI ((pre ++ [h]).getD j 0) := fun j hj => by
                by_cases x : j = pl
                · rw [x, up_at, ← hpre, gd_hi]
                · rw [up_j x, ch j (by omega), hch j (by omega), gd_lo (by omega)]
              have pl3 : (pre ++ [h]).length = pl + 1 := by simp [hpre]
              have pn3 : placed ||| 2 ^ h < 2 ^ n := Nat.or_lt_two_pow hpn (Nat.pow_lt_pow_right (by decide) (by omega))
              have bn3 : bnF (placed ||| 2 ^ h) n = pl + 1 := by rw [bnF_put e, hbn, if_pos (by omega)]
              have wp := wlF_put (G := G) (hour := hour) e n
              rw [if_pos (show h < n by omega)] at wp
              have hwk := wthK_bd hR hLR (show h < n by omega)
              have or3 : nI placed ||| 1 <<< (nI h &&& 31) = nI (placed ||| 2 ^ h) := by rw [sh_small (by omega), nI_or]
              rw [or3, nI_1]
              have eight : ∀ q' g' v9 v10, (0 ≤ q' ∧ q' ≤ 50000) → (0 ≤ g' ∧ g' + wlF G hour (placed ||| 2 ^ h) n ≤ 1000) → (∀ M2 u9 u10, OFr M M2 → (∀ j, j < pl → M2 34 j = M 34 j) → OSt n M2 (orF G hour (pl + 1) q' g' (pre ++ [h]) s2 (lxP n m (placed ||| 2 ^ h))) → jJ kB_X3_descend (d + m + 5) k 4 [mR 3 0 32, mI (nI pl), mI (nI placed), mI (zi q), mI (zi g), mR 6 0 35, mI (zi (gS G 0)), mI (zi Q), mI (nI (h + 1)), u9, u10] [] M2) →
                  jJ kB_X3_descend (d + m + 5) k 8 [mR 3 0 32, mI (nI pl), mI (nI placed), mI (zi q), mI (zi g), mR 6 0 35, mI (zi (gS G 0)), mI (zi Q), mI (nI h), mI v9, mI v10] [mI (zi g'), mI (zi q'), mI (nI (placed ||| 2 ^ h)), mI (nI (pl + 1)), mR 3 0 32] (up M1 34 pl (nI h)) := fun q' g' v9 v10 hq' hg' cont => by
                refine v_X3_descend_8 _ _ _ _ _ _ _ _ _ _ _ _ _ (ih (pl + 1) (by omega) d _ s2 (placed ||| 2 ^ h) q' g' (pre ++ [h]) _ hC2 hs3 sb pl3 ch3 pn3 bn3 hq' hg' (fun M2 f3 ch4 hs4 => ?_))
                show jJ _ _ _ _ [_, _, _, _, _, _, _, _, mI (nI h + 1), _, _] _ _
                rw [nI_1]
                exact cont M2 _ _ (f2.trans f3) (fun j hj => by rw [ch4 j (by omega), up_j (by omega)]; exact ch j hj) hs4
              refine ifb (fun es => v_X3_descend_6 _ _ _ _ _ _ _ _ _ _ _ _ ⟨fun _ => ?_, fun x => absurd ?_ x⟩) (fun es => ?_)
              · rw [if_neg (by rw [es]; decide)] at nx
                refine eight Q g _ _ ⟨pb.1, by omega⟩ ⟨hg.1, ?_⟩ nx
                split at wp <;> omega
              · rw [es]; rfl
              · rw [if_pos es] at nx
                have cb := can_bd2 (F := gS G 0) (Q := Q) hR (by omega) hlh.1 (show caB G hour h (gS G 0) Q = true from es)
                rw [if_pos (can_wan es)] at wp
                have hk2 : (up M1 34 pl (nI h)) (38 + 1) h = nI (kdH G h) := (hC2.2.1.2 h (by omega)).1
                have hk3 : M1 (38 + 1) h = nI (kdH G h) := hk1
                refine wpD_at (as' := [mR 6 0 35, mI (nI 2), mI (nI (kdH G h))]) (by rw [← hk3]; rfl) (sp_kindZ (d := d + m + 3) (o := 35) hC2.2.2 (by decide) hlh.1 ?_)
                refine v_X3_descend_6 _ _ _ _ _ _ _ _ _ _ _ _ ⟨fun x => absurd x (by rw [es]; decide), fun _ => ?_⟩
                refine wpD_at (as' := [mR 6 0 35, mI (nI 3), mI (nI (kdH G h))]) (by rw [← hk3]; rfl) (sp_kindZ (d := d + m + 3) (o := 35) hC2.2.2 (by decide) hlh.1 ?_)
                have := eight (Q - wtK G h) (g + wthK G h) (M1 (38 + 1) h) (bI (canB (gS G) (gK G) hour (kdH G h) (gS G 0) Q)) ⟨cb.1, by omega⟩ ⟨by omega, by omega⟩ nx
                rw [← zi_add, ← zi_sub] at this
                exact this
      exact loop n 0 M none none (by omega) (fun _ _ _ => rfl) (fun _ _ => rfl) hs
    · rw [orF_none hR hLR (by omega)] at hk
      exact hk M (fun _ _ _ => rfl) (fun _ _ => rfl) hs
