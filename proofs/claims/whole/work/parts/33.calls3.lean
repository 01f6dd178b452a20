/-! CALLS: put, where -/
/-- a lane's plans are worth w -/
def TG (G : LG) (n b hour : Nat) (w : Int) : Prop := ∃ L X, L < 2 ^ b ∧ X < 2 ^ n ∧ okP G n hour (gS G 1) L X ∧ wtS G X n = w
theorem TG.ge {G : LG} {n b m hour : Nat} {w : Int} (hR : Rng (gS G) (gK G)) (hLR : LR G n m) (h : TG G n b hour w) : 0 ≤ w ∧ w ≤ 99 * (n : Int) := by
  obtain ⟨L, X, -, -, -, rfl⟩ := h
  exact wtS_bd hR hLR n (Nat.le_refl n)
/-- W is the worth of the best (-6: there is none) -/
def TMax (T : Int → Prop) (W : Int) : Prop := (W = -6 ∧ ∀ w, ¬ T w) ∨ (T W ∧ ∀ w, T w → w ≤ W)
theorem TMax.one {T : Int → Prop} {W W' : Int} (h : TMax T W) (h' : TMax T W') : W = W' := by
  rcases h with ⟨h1, h2⟩ | ⟨h1, h2⟩ <;> rcases h' with ⟨g1, g2⟩ | ⟨g1, g2⟩
  · omega
  · exact absurd g1 (h2 _)
  · exact absurd h1 (g2 _)
  · have a := h2 _ g1
    have c := g2 _ h1
    omega
theorem IsB.tmax {G : LG} {n b hour : Nat} {W : Int} {L D : Nat} (h : IsB G n b hour (gS G 1) W L D) : TMax (TG G n b hour) W := by
  rcases h with ⟨h1, -, -, h4⟩ | ⟨h1, h2, h3, h4⟩
  · refine Or.inl ⟨h1, fun w q => ?_⟩
    obtain ⟨L, X, q1, q2, q3, -⟩ := q
    exact h4 L X ⟨q1, q2⟩ q3
  · refine Or.inr ⟨⟨L, D, h2.1, h2.2, h1, h3.symm⟩, fun w q => ?_⟩
    obtain ⟨L', X, q1, q2, q3, q4⟩ := q
    rw [← q4]
    exact (h4 L' X ⟨q1, q2⟩ q3).1
theorem sp_imp {d : Nat} {k : mQ} {M : mM} {G : LG} {hour n b : Nat} {W0 B0 : Int} {D0 : Nat} (hR : Rng (gS G) (gK G)) (hH : Hyd (gS G) (gK G) M 36 37) (hLn : LnC G M 27 n) (h27 : M 27 1 = nI b) (hn : n ≤ 8) (hLR : LR G n b) (hb : b ≤ 4) (hh : hour < 6) (hs : PSt M (W0, B0, D0)) (hbd : PBd (W0, B0, D0))
    (h : ∀ M' r W B D, IFr M M' → PSt M' (W, B, D) → PBd (W, B, D) → ((r = false ∧ W = W0 ∧ ∀ w, TG G n b hour w → w ≤ W0) ∨ (r = true ∧ W0 < W ∧ TG G n b hour W ∧ ∀ w, TG G n b hour w → w ≤ W)) → k (mI (bI r)) M') : wpD mB mNL (d + n + 8) zX5_improve [mR 5 0 26, mI (nI hour)] M k := by
  obtain ⟨b1, b2, b3, b4, b5⟩ := id hbd
  have p1 : 2 ^ b ≤ 2 ^ 4 := Nat.pow_le_pow_right (by decide) hb
  have p2 : 2 ^ n ≤ 2 ^ 8 := Nat.pow_le_pow_right (by decide) hn
  refine sp_improve hR hH hLn h27 hn hLR hb hh hs hbd (fun M' D f hp hD e => h M' false W0 (-6) D f hp ⟨b1, b2, Int.le_refl _, by show (-6 : Int) ≤ 16; decide, hD⟩ (Or.inl ⟨rfl, rfl, fun w q => ?_⟩)) (fun M' W L D f hp e e2 hB hL hD => h M' true W L D f hp ⟨by show -6 ≤ W; have : -6 ≤ W0 := b1; omega, by show W ≤ 2000; omega, by show (-6 : Int) ≤ (L : Int); omega, by show (L : Int) ≤ 16; omega, by show D < 1024; omega⟩ (Or.inr ⟨rfl, e, ?_⟩))
  · obtain ⟨L, X, q1, q2, q3, q4⟩ := q
    rw [← q4]
    exact e L X q1 q2 q3
  · rcases hB.tmax with ⟨q, -⟩ | q
    · have : -6 ≤ W0 := b1
      omega
    · exact q
/-! one house more -/
def insG (G : LG) (c p : Nat) : LG := (gS G, gK G, fun h => if h < p then kdH G h else if h = p then c else kdH G (h - 1), fun h => if h < p then loH G h else if h = p then 0 else loH G (h - 1), fun h => if h < p then brH G h else if h = p then -6 else brH G (h - 1))
theorem insG_LR {G : LG} {c p n b : Nat} (h : LR G n b) (hc : c < 6) (hp : p ≤ n) : LR (insG G c p) (n + 1) b := fun i hi => by
  by_cases e2 : i < p
  · have := h i (by omega)
    simp only [insG, kdH, loH, brH, e2, if_true]
    exact this
  · by_cases e3 : i = p
    · subst e3
      simp only [insG, kdH, loH, brH, Nat.lt_irrefl, if_false, if_true]
      exact ⟨hc, ⟨by decide, by decide⟩, Or.inl trivial⟩
    · have := h (i - 1) (by omega)
      simp only [insG, kdH, loH, brH, e2, e3, if_false]
      exact this
theorem insG_lo {G : LG} {c p i : Nat} (h : i < p) : kdH (insG G c p) i = kdH G i ∧ loH (insG G c p) i = loH G i ∧ brH (insG G c p) i = brH G i := by
  simp only [insG, kdH, loH, brH, h, if_true]
  exact ⟨trivial, trivial, trivial⟩
theorem insG_at {G : LG} {c p : Nat} : kdH (insG G c p) p = c ∧ loH (insG G c p) p = 0 ∧ brH (insG G c p) p = -6 := by
  simp only [insG, kdH, loH, brH, Nat.lt_irrefl, if_false, if_true]
  exact ⟨trivial, trivial, trivial⟩
theorem insG_hi {G : LG} {c p i : Nat} (h : p < i) : kdH (insG G c p) i = kdH G (i - 1) ∧ loH (insG G c p) i = loH G (i - 1) ∧ brH (insG G c p) i = brH G (i - 1) := by
  have e2 : ¬ i < p := by omega
  have e3 : i ≠ p := by omega
  simp only [insG, kdH, loH, brH, e2, e3, if_false]
  exact ⟨trivial, trivial, trivial⟩
theorem nI_dec {j : Nat} : nI (j + 1) - 1 = nI j ∧ nI (j + 1) + (-1) = nI j := by
  have e : ((j + 1 : Nat) : Int) - 1 = j := by omega
  have e' : ((j + 1 : Nat) : Int) + (-1) = j := by omega
  constructor
  · rw [nI_zi, show (1 : Int32) = zi 1 from rfl, zi_sub, e, zi_nI]
  · rw [nI_zi, show (-1 : Int32) = zi (-1) from rfl, zi_add, e', zi_nI]
set_option maxHeartbeats 4000000 in
theorem sp_insertHouse {d : Nat} {k : mQ} {M : mM} {G : LG} {o n c p : Nat} (hLn : LnC G M o n) (hn : n < 8) (hp : p ≤ n)
    (h : ∀ M', (∀ k j, ¬ ((k = o ∧ j = 0) ∨ (o + 1 ≤ k ∧ k ≤ o + 3)) → M' k j = M k j) → LnC (insG G c p) M' o (n + 1) → k none M') : wpD mB mNL (d + 2) zX2_insertHouse [mR 2 0 o, mI (nI c), mI (nI p)] M k := by
  have key : ∀ m j M1, j = p + m → j ≤ n → (∀ k i, ¬ (o + 1 ≤ k ∧ k ≤ o + 3) → M1 k i = M k i) → (∀ r, 1 ≤ r → r ≤ 3 → ∀ i, (i < j → M1 (o + r) i = M (o + r) i) ∧ (j < i → i ≤ n → M1 (o + r) i = M (o + r) (i - 1))) → jJ kB_X2_insertHouse (d + 1) k 2 [mR 2 0 o, mI (nI c), mI (nI p), mI (nI j)] [] M1 := by
    intro m
    induction m with
    | zero =>
      intro j M1 hj hjn hf hr
      have hjp : j = p := by omega
      subst hjp
      refine v_X2_insertHouse_2 _ _ _ _ (ifle (by omega) (by omega) (fun _ => sp_setCell (by omega) (by decide) (sp_setCell (by omega) (by decide) (sp_setCell (by omega) (by decide) ?_))) (fun c => by omega))
      refine h _ (fun k i hk => ?_) ⟨?_, fun i hi => ?_⟩
      · have e1 : ¬ (o + 1 ≤ k ∧ k ≤ o + 3) := fun q => hk (Or.inr q)
        have e2 : ¬ (k = o ∧ i = 0) := fun q => hk (Or.inl q)
        rw [show up _ o 0 _ k i = _ from if_neg e2, up_k (by omega), up_k (by omega), up_k (by omega)]
        exact hf k i e1
      · rw [up_at, up_k (by omega), up_k (by omega), up_k (by omega), hf o 0 (by omega), hLn.1, nI_1]
      · rw [up_k (k' := o + 1) (by omega), up_k (k' := o + 2) (by omega), up_k (k' := o + 3) (by omega)]
        rw [up_k (k := o + 3) (k' := o + 1) (by omega), up_k (k := o + 2) (k' := o + 1) (by omega), up_k (k := o + 3) (k' := o + 2) (by omega)]
        rcases (by omega : i < j ∨ i = j ∨ j < i) with e | e | e
        · rw [up_j (by omega), up_j (by omega), up_k (by omega), up_j (by omega), up_k (by omega), up_k (by omega)]
          rw [((hr 1 (by decide) (by decide) i).1 e), ((hr 2 (by decide) (by decide) i).1 e), ((hr 3 (by decide) (by decide) i).1 e), (insG_lo e).1, (insG_lo e).2.1, (insG_lo e).2.2]
          exact hLn.2 i (by omega)
        · subst e
          rw [up_at, up_at, up_at, insG_at.1, insG_at.2.1, insG_at.2.2]
          exact ⟨rfl, rfl, rfl⟩
        · rw [up_j (by omega), up_j (by omega), up_k (by omega), up_j (by omega), up_k (by omega), up_k (by omega)]
          rw [((hr 1 (by decide) (by decide) i).2 e (by omega)), ((hr 2 (by decide) (by decide) i).2 e (by omega)), ((hr 3 (by decide) (by decide) i).2 e (by omega)), (insG_hi e).1, (insG_hi e).2.1, (insG_hi e).2.2]
          exact hLn.2 (i - 1) (by omega)
    | succ m ih =>
      intro j M1 hj hjn hf hr
      obtain ⟨i, rfl⟩ : ∃ i, j = i + 1 := ⟨p + m, by omega⟩
      refine v_X2_insertHouse_2 _ _ _ _ (ifle (by omega) (by omega) (fun c => by omega) (fun _ => ?_))
      rw [nI_dec.1, nI_dec.2]
      refine sp_cell (by omega) (by decide) (sp_setCell (by omega) (by decide) (sp_cell (by omega) (by decide) (sp_setCell (by omega) (by decide) (sp_cell (by omega) (by decide) (sp_setCell (by omega) (by decide) ?_)))))
      refine ih i _ (by omega) (by omega) (fun k q hk => ?_) (fun r r1 r2 q => ?_)
      · rw [up_k (by omega), up_k (by omega), up_k (by omega)]
        exact hf k q hk
      · have g1 : ∀ r, 1 ≤ r → r ≤ 3 → ∀ q, (up (up (up M1 (o + 1) (i + 1) (M1 (o + 1) i)) (o + 2) (i + 1) (M1 (o + 2) i)) (o + 3) (i + 1) (M1 (o + 3) i)) (o + r) q = if q = i + 1 then M1 (o + r) i else M1 (o + r) q := by
          intro r r1 r2 q
          rcases (by omega : r = 1 ∨ r = 2 ∨ r = 3) with rfl | rfl | rfl <;> simp [up]
        have e2 : (up M1 (o + 1) (i + 1) (M1 (o + 1) i)) (o + 2) i = M1 (o + 2) i := up_k (by omega)
        have e3 : (up (up M1 (o + 1) (i + 1) (M1 (o + 1) i)) (o + 2) (i + 1) (M1 (o + 2) i)) (o + 3) i = M1 (o + 3) i := by rw [up_k (by omega), up_k (by omega)]
        rw [e2, e3, g1 r r1 r2 q]
        refine ⟨fun hq => ?_, fun hq hq2 => ?_⟩
        · rw [if_neg (by omega)]
          exact (hr r r1 r2 q).1 (by omega)
        · by_cases e : q = i + 1
          · rw [if_pos e, e]
            exact (hr r r1 r2 i).1 (by omega)
          · rw [if_neg e]
            exact (hr r r1 r2 q).2 (by omega) hq2
  refine v_X2_insertHouse_0 _ _ _ (sp_isFull hLn.1 (by omega) (ifb (fun _ => ?_) (fun e => absurd (of_decide_eq_true e) (by omega))))
  rw [hLn.1]
  exact key (n - p) n M (by omega) (Nat.le_refl n) (fun _ _ _ => rfl) (fun r r1 r2 i => ⟨fun _ => rfl, fun q1 q2 => by omega⟩)
set_option maxHeartbeats 4000000 in
theorem sp_putAt {d : Nat} {k : mQ} {M : mM} {G : LG} {n c p : Nat} (hP : LnP G M n) (hn : n ≤ 8) (hp : p ≤ n)
    (h : ∀ M', (∀ k j, ¬ (k = 6 ∨ (k = 0 ∧ j = 9)) → M' k j = M k j) → LnM (insG G c p) M' (n + 1) → k none M') : wpD mB mNL (d + 2) zX8_putAt [mR 8 0 0, mI (nI c), mI (nI p)] M k := by
  refine v_X8_putAt_0 _ _ (sp_asLane hP hn (fun M0 f0 l0 => ?_))
  have e4 : M0 0 4 = nI n := by rw [f0 0 4 (by omega)]; exact hP.1
  have E3 : ∀ m, (3 : Int32) * nI m = nI (3 * m) := fun m => by rw [show (3 : Int32) = nI 3 from rfl, pk_mul]
  have key : ∀ m j M1, j = 3 * p + m → j ≤ 3 * n → (∀ k i, k ≠ 6 → M1 k i = M0 k i) → (∀ i, (i < j → M1 6 i = M0 6 i) ∧ (j ≤ i → i < 3 * n → M1 6 (i + 3) = M0 6 i)) → jJ kB_X8_putAt (d + 1) k 1 [mR 8 0 0, mI (nI c), mI (nI p), mI (zi ((j : Int) - 1))] [] M1 := by
    intro m
    induction m with
    | zero =>
      intro j M1 hj hjn hf hr
      have hjp : j = 3 * p := by omega
      subst hjp
      refine v_X8_putAt_1 _ _ _ ?_
      rw [E3, hf 0 4 (by decide), e4]
      have a1 : nI (3 * p) + 1 = nI (3 * p + 1) := nI_1 _
      have a2 : nI (3 * p) + 2 = nI (3 * p + 2) := by rw [show (2 : Int32) = nI 2 from rfl, nI_add]
      rw [a1, a2, nI_clamp (by omega), nI_clamp (by omega), nI_clamp (by omega), nI_1]
      refine ⟨fun _ => ⟨vp_in_nI (by omega) (by decide), vp_in_nI (by omega) (by decide), vp_in_nI (by omega) (by decide), h _ (fun k i hk => ?_) ⟨up_at _ _ _ _, fun i hi => ?_⟩⟩, fun c => absurd ?_ c⟩
      · have e1 : k ≠ 6 := fun q => hk (Or.inl q)
        have e2 : ¬ (k = 0 ∧ i = 9) := fun q => hk (Or.inr q)
        rw [show up _ 0 9 _ k i = _ from if_neg e2, up_k e1, up_k e1, up_k e1, hf k i e1]
        exact f0 k i hk
      · rw [up_k (k := 0) (by decide), up_k (k := 0) (by decide), up_k (k := 0) (by decide)]
        rcases (by omega : i < p ∨ i = p ∨ p < i) with e | e | e
        · rw [up_j (by omega), up_j (by omega), up_j (by omega), up_j (by omega), up_j (by omega), up_j (by omega), up_j (by omega), up_j (by omega), up_j (by omega)]
          rw [(hr _).1 (by omega), (hr _).1 (by omega), (hr _).1 (by omega), (insG_lo e).1, (insG_lo e).2.1, (insG_lo e).2.2]
          exact l0.2 i (by omega)
        · subst e
          rw [up_j (by omega), up_j (by omega), up_at, up_j (by omega), up_at, up_at, insG_at.1, insG_at.2.1, insG_at.2.2]
          exact ⟨rfl, rfl, rfl⟩
        · rw [up_j (by omega), up_j (by omega), up_j (by omega), up_j (by omega), up_j (by omega), up_j (by omega), up_j (by omega), up_j (by omega), up_j (by omega)]
          have x0 : 3 * i = 3 * (i - 1) + 3 := by omega
          have x1 : 3 * i + 1 = 3 * (i - 1) + 1 + 3 := by omega
          have x2 : 3 * i + 2 = 3 * (i - 1) + 2 + 3 := by omega
          rw [x2, x1, x0]
          rw [(hr _).2 (by omega) (by omega), (hr _).2 (by omega) (by omega), (hr _).2 (by omega) (by omega), (insG_hi e).1, (insG_hi e).2.1, (insG_hi e).2.2]
          exact l0.2 (i - 1) (by omega)
      · rw [nI_zi, zi_lt (by omega) (by omega) (by omega) (by omega)]
        omega
    | succ m ih =>
      intro j M1 hj hjn hf hr
      obtain ⟨i, rfl⟩ : ∃ i, j = i + 1 := ⟨3 * p + m, by omega⟩
      have e1 : zi (((i + 1 : Nat) : Int) - 1) = nI i := by rw [nI_zi]; congr 1; omega
      refine v_X8_putAt_1 _ _ _ ?_
      rw [e1, E3]
      refine iflt (by omega) (by omega) (fun c => by omega) (fun _ => ?_)
      have a3 : nI i + 3 = nI (i + 3) := by rw [show (3 : Int32) = nI 3 from rfl, nI_add]
      have a4 : nI i + (-1) = zi ((i : Int) - 1) := by rw [nI_zi, show (-1 : Int32) = zi (-1) from rfl, zi_add]; rfl
      rw [a3, a4, nI_clamp (by omega), nI_clamp (by omega)]
      refine ⟨vp_in_nI (by omega) (by decide), vp_in_nI (by omega) (by decide), ih i _ (by omega) (by omega) (fun k q hk => by rw [up_k hk]; exact hf k q hk) (fun q => ⟨fun hq => ?_, fun hq hq2 => ?_⟩)⟩
      · rw [up_j (by omega)]
        exact (hr q).1 (by omega)
      · by_cases e : q = i
        · rw [e, up_at]
          exact (hr i).1 (by omega)
        · rw [up_j (by omega)]
          exact (hr q).2 (by omega) hq2
  have s : (3 : Int32) * M0 0 4 - 1 = zi (((3 * n : Nat) : Int) - 1) := by rw [e4, E3, nI_zi, show (1 : Int32) = zi 1 from rfl, zi_sub]
  rw [s]
  exact key (3 * n - 3 * p) (3 * n) M0 (by omega) (Nat.le_refl _) (fun _ _ _ => rfl) (fun i => ⟨fun _ => rfl, fun q1 q2 => by omega⟩)

/-! the first of a family whose best is best -/
/-- f: of those of P the one with the least key whose best worth is W, the most of all (W = f = -6: none has any) -/
def Fnd (T : Nat → Int → Prop) (key : Nat → Nat) (P : Nat → Prop) (f W : Int) : Prop := (∀ i, P i → ∀ w, T i w → w ≤ W) ∧ ((W = -6 ∧ f = -6) ∨ (0 ≤ W ∧ ∃ j, P j ∧ f = (j : Int) ∧ T j W ∧ ∀ i, P i → T i W → key j ≤ key i))
theorem Fnd.one {T : Nat → Int → Prop} {key : Nat → Nat} {P : Nat → Prop} {f W f' W' : Int} (hk : ∀ i j, P i → P j → key i = key j → i = j) (h : Fnd T key P f W) (h' : Fnd T key P f' W') : f = f' ∧ W = W' := by
  obtain ⟨h1, h2⟩ := h
  obtain ⟨g1, g2⟩ := h'
  rcases h2 with ⟨a1, a2⟩ | ⟨a1, j, a2, a3, a4, a5⟩ <;> rcases g2 with ⟨c1, c2⟩ | ⟨c1, j', c2, c3, c4, c5⟩
  · omega
  · have := h1 j' c2 _ c4
    omega
  · have := g1 j a2 _ a4
    omega
  · have x1 := h1 j' c2 _ c4
    have x2 := g1 j a2 _ a4
    have e : W = W' := by omega
    subst e
    have y1 := a5 j' c2 c4
    have y2 := c5 j a2 a4
    have := hk j j' a2 c2 (by omega)
    subst this
    exact ⟨by omega, rfl⟩
theorem Fnd.cong {T : Nat → Int → Prop} {key : Nat → Nat} {P P' : Nat → Prop} {f W : Int} (h : Fnd T key P f W) (e : ∀ i, P i ↔ P' i) : Fnd T key P' f W := by
  have : P = P' := funext fun i => propext (e i)
  rw [← this]; exact h
theorem Fnd.none {T : Nat → Int → Prop} {key : Nat → Nat} {P : Nat → Prop} (h : ∀ i, ¬ P i) : Fnd T key P (-6) (-6) := ⟨fun i q => absurd q (h i), Or.inl ⟨rfl, rfl⟩⟩
/-- one that is not better, and no better by its key -/
theorem Fnd.no {T : Nat → Int → Prop} {key : Nat → Nat} {P : Nat → Prop} {f W : Int} {i : Nat} (h : Fnd T key P f W) (hw : ∀ w, T i w → w ≤ W) (hk : ∀ j, P j → f = (j : Int) → T i W → key j ≤ key i) : Fnd T key (fun q => P q ∨ q = i) f W := by
  obtain ⟨h1, h2⟩ := h
  refine ⟨fun q hq w hw' => ?_, ?_⟩
  · rcases hq with hq | rfl
    · exact h1 q hq w hw'
    · exact hw w hw'
  · rcases h2 with a | ⟨a1, j, a2, a3, a4, a5⟩
    · exact Or.inl a
    · refine Or.inr ⟨a1, j, Or.inl a2, a3, a4, fun q hq hT => ?_⟩
      rcases hq with hq | rfl
      · exact a5 q hq hT
      · exact hk j a2 a3 hT
theorem Fnd.yes {T : Nat → Int → Prop} {key : Nat → Nat} {P : Nat → Prop} {f W W' : Int} {i : Nat} (h : Fnd T key P f W) (h0 : 0 ≤ W') (hT : T i W') (hw : ∀ w, T i w → w ≤ W') (hlt : W < W') : Fnd T key (fun q => P q ∨ q = i) (i : Int) W' := by
  obtain ⟨h1, h2⟩ := h
  refine ⟨fun q hq w hw' => ?_, Or.inr ⟨h0, i, Or.inr rfl, rfl, hT, fun q hq hT' => ?_⟩⟩
  · rcases hq with hq | rfl
    · have := h1 q hq w hw'
      omega
    · exact hw w hw'
  · rcases hq with hq | rfl
    · have := h1 q hq _ hT'
      omega
    · exact Nat.le_refl _
theorem Fnd.eq {T : Nat → Int → Prop} {key : Nat → Nat} {P : Nat → Prop} {W : Int} {i j : Nat} (h : Fnd T key P (j : Int) W) (hT : T i W) (hw : ∀ w, T i w → w ≤ W) (hlt : key i < key j) : Fnd T key (fun q => P q ∨ q = i) (i : Int) W := by
  obtain ⟨h1, h2⟩ := h
  rcases h2 with ⟨a1, a2⟩ | ⟨a1, j', a2, a3, a4, a5⟩
  · omega
  · have : j = j' := by omega
    subst this
    refine ⟨fun q hq w hw' => ?_, Or.inr ⟨a1, i, Or.inr rfl, rfl, hT, fun q hq hT' => ?_⟩⟩
    · rcases hq with hq | rfl
      · exact h1 q hq w hw'
      · exact hw w hw'
    · rcases hq with hq | rfl
      · have := a5 q hq hT'
        omega
      · exact Nat.le_refl _
theorem Fnd.bd {T : Nat → Int → Prop} {key : Nat → Nat} {P : Nat → Prop} {f W : Int} (h : Fnd T key P f W) {N : Nat} {m : Int} (hP : ∀ i, P i → i < N) (hT : ∀ i w, P i → T i w → w ≤ m) (hm : 0 ≤ m) : -6 ≤ W ∧ W ≤ m ∧ -6 ≤ f ∧ f < N + 1 := by
  obtain ⟨h1, h2⟩ := h
  rcases h2 with ⟨a1, a2⟩ | ⟨a1, j, a2, a3, a4, a5⟩
  · exact ⟨by omega, by omega, by omega, by omega⟩
  · have := hP j a2
    have := hT j W a2 a4
    exact ⟨by omega, by omega, by omega, by omega⟩
