/-! THE CLASS: the best plan of a lane -/
def WFr (M M' : mM) : Prop := ∀ k j, k ≠ 31 → M' k j = M k j
theorem sp_sumWorthBehind {d : Nat} {k : mQ} {M : mM} {G : LG} {hour n b : Nat} (hR : Rng (gS G) (gK G)) (hH : Hyd (gS G) (gK G) M 36 37) (hLn : LnC G M 27 n) (hn : n ≤ 8) (hLR : LR G n b) (hh : hour < 6) (h5 : M 26 5 = nI hour)
    (h : ∀ M', WFr M M' → (∀ h, h ≤ n → M' 31 h = zi (wbF G hour (n - h) h)) → k none M') : wpD mB mNL (d + 4) zX5_sumWorthBehind [mR 5 0 26] M k := by
  have key : ∀ j M1 u, j ≤ n → WFr M M1 → (∀ h, j ≤ h → h ≤ n → M1 31 h = zi (wbF G hour (n - h) h)) → jJ kB_X5_sumWorthBehind (d + 3) k 1 [mR 5 0 26, mI (zi (wbF G hour (n - j) j)), mI (zi ((j : Int) - 1)), u] [] M1 := by
    intro j
    induction j with
    | zero =>
      intro M1 u _ f h1
      refine v_X5_sumWorthBehind_1 _ _ _ ⟨fun _ => h M1 f (fun i hi => h1 i (Nat.zero_le _) hi), fun c => absurd (by decide) c⟩
    | succ j ih =>
      intro M1 u hj f h1
      have hln := hLn.2 j (by omega)
      have hlr := hLR j (by omega)
      have e1 : zi (((j + 1 : Nat) : Int) - 1) = nI j := by rw [nI_zi]; congr 1; omega
      have hH1 : Hyd (gS G) (gK G) M1 36 37 := hH.of (fun j => f 36 j (by decide)) (fun j => f 37 j (by decide))
      have hk : M1 (27 + 1) j = nI (kdH G j) := by rw [f _ _ (by decide)]; exact hln.1
      have h26 : M1 26 5 = nI hour := by rw [f _ _ (by decide)]; exact h5
      have two : ∀ v3, jJ kB_X5_sumWorthBehind (d + 3) k 2 [mR 5 0 26, mI (zi (wbF G hour (n - j) j)), mI (nI j), mI v3] [] M1 := by
        intro v3
        refine v_X5_sumWorthBehind_2 _ _ _ (sp_setCell (by omega) (by decide) ?_)
        have e2 : nI j + (-1) = zi ((j : Int) - 1) := by rw [nI_zi, show (-1 : Int32) = zi (-1) from rfl, zi_add]; rfl
        rw [e2]
        refine ih _ _ (by omega) (fun k j' hk => by rw [up_k hk]; exact f k j' hk) (fun h hj1 hj2 => ?_)
        by_cases q : h = j
        · subst q
          rw [up_at]
        · rw [up_j q]
          exact h1 h (by omega) hj2
      rw [e1]
      have em : n - j = (n - (j + 1)) + 1 := by omega
      refine v_X5_sumWorthBehind_1 _ _ _ ⟨fun c => absurd c (nI_pos (by omega)), fun _ => sp_kindOf (i := j) (by omega) ?_⟩
      refine wpD_at (as' := [mR 6 0 35, mI (nI (kdH G j)), mI (nI hour)]) (by rw [← hk, ← h26]) ?_
      refine sp_isWanting hR hH1 hlr.1 hh (ifb (fun e => ?_) (fun e => ?_))
      · have h9 := two (M1 (27 + 1) j)
        rw [em, wbF, show wanB G hour j = false from e] at h9
        exact h9
      · refine wpD_at (as' := [mR 6 0 35, mI (nI 3), mI (nI (kdH G j))]) (by rw [← hk]; rfl) ?_
        refine sp_kindZ (o := 35) hH1 (by decide) hlr.1 ?_
        have h9 := two (M1 (27 + 1) j)
        rw [em, wbF, show wanB G hour j = true from e] at h9
        simp only [if_true] at h9
        rw [← zi_add] at h9
        exact h9
  refine v_X5_sumWorthBehind_0 ?_
  rw [hLn.1]
  refine sp_setCell (i := n) (by omega) (by decide) ?_
  have e0 : (up M 31 n 0) 27 0 = nI n := by rw [up_k (by decide)]; exact hLn.1
  show jJ _ _ _ _ [_, _, mI ((up M 31 n 0) 27 0 - 1), _] _ _
  have e2 : (up M 31 n 0) 27 0 - 1 = zi ((n : Int) - 1) := by rw [e0, nI_zi, show (1 : Int32) = zi 1 from rfl, zi_sub]
  rw [e2]
  have h9 := key n (up M 31 n 0) none (Nat.le_refl n) (fun k j hk => up_k hk) (fun h h1 h2 => by
    rw [show h = n by omega, up_at, Nat.sub_self]
    rfl)
  rw [Nat.sub_self] at h9
  exact h9
/-- cells that the search of the class writes -/
def IFr (M M' : mM) : Prop := ∀ k j, ¬ ((k = 26 ∧ 1 ≤ j ∧ j ≤ 6 ∧ j ≠ 4) ∨ k = 31) → M' k j = M k j
set_option maxHeartbeats 4000000 in
theorem sp_improve {d : Nat} {k : mQ} {M : mM} {G : LG} {hour n b : Nat} {W0 B0 : Int} {D0 : Nat} (hR : Rng (gS G) (gK G)) (hH : Hyd (gS G) (gK G) M 36 37) (hLn : LnC G M 27 n) (h27 : M 27 1 = nI b) (hn : n ≤ 8) (hLR : LR G n b) (hb : b ≤ 4) (hh : hour < 6) (hs : PSt M (W0, B0, D0)) (hbd : PBd (W0, B0, D0))
    (h1 : ∀ M' D, IFr M M' → PSt M' (W0, -6, D) → D < 1024 → (∀ L X, L < 2 ^ b → X < 2 ^ n → okP G n hour (gS G 1) L X → wtS G X n ≤ W0) → k (mI 0) M')
    (h2 : ∀ M' W (L D : Nat), IFr M M' → PSt M' (W, L, D) → W0 < W → W ≤ 1000 → IsB G n b hour (gS G 1) W L D → L < 2 ^ b → D < 2 ^ n → k (mI 1) M') : wpD mB mNL (d + n + 8) zX5_improve [mR 5 0 26, mI (nI hour)] M k := by
  have hpb : 2 ^ b ≤ 16 := Nat.pow_le_pow_right (by decide) hb
  have hpn : 2 ^ n ≤ 256 := Nat.pow_le_pow_right (by decide) hn
  obtain ⟨s1, s2, s3⟩ := id hs
  -- the state ahead of set L
  let St : mM → Int × Int × Nat → Nat → Prop := fun M1 s L => IFr M M1 ∧ M1 26 5 = nI hour ∧ (∀ h, h ≤ n → M1 31 h = zi (wbF G hour (n - h) h)) ∧ PSt M1 s ∧ PBd s ∧
    ((s.1 = W0 ∧ s.2.1 = -6 ∧ ∀ L' X, L' < L → X < 2 ^ n → okP G n hour (gS G 1) L' X → wtS G X n ≤ W0) ∨
     (W0 < s.1 ∧ ∃ L1, L1 < L ∧ s.2.1 = (L1 : Int) ∧ s.2.2 < 2 ^ n ∧ okP G n hour (gS G 1) L1 s.2.2 ∧ s.1 = wtS G s.2.2 n ∧ ∀ L' X, L' < L → X < 2 ^ n → okP G n hour (gS G 1) L' X → wtS G X n ≤ s.1 ∧ (wtS G X n = s.1 → L1 < L' ∨ (L1 = L' ∧ s.2.2 ≤ X))))
  have key : ∀ r L M1 s, L + r = 2 ^ b → St M1 s L → jJ kB_X5_improve (d + n + 7) k 1 [mR 5 0 26, mI (nI hour), mI (zi W0), mI (zi (gS G 0)), mI (nI L)] [] M1 := by
    intro r
    induction r with
    | zero =>
      intro L M1 s hL hS
      obtain ⟨f, t1, t2, t3, t4, t5⟩ := id hS
      refine v_X5_improve_1 _ _ _ _ (sp_brookSets (n := b) (by rw [f 27 1 (by omega)]; exact h27) (by omega) ?_)
      refine ifle (by omega) (by omega) (fun _ => ?_) (fun c => by omega)
      rw [t3.1]
      obtain ⟨b1, b2, b3, b4, b5⟩ := t4
      obtain ⟨c1, c2, -⟩ := hbd
      have hLb : L = 2 ^ b := by omega
      subst hLb
      rw [zi_le (by omega) (by omega) (show -2147483648 ≤ W0 by show _ ≤ (W0, B0, D0).1; omega) (show W0 < 2147483648 by show (W0, B0, D0).1 < _; omega)]
      rcases t5 with ⟨q1, q2, q3⟩ | ⟨q1, L1, q2, q3, q4, q5, q6, q7⟩
      · refine ⟨fun _ => h1 M1 s.2.2 f ⟨by rw [← q1]; exact t3.1, by rw [← q2]; exact t3.2.1, t3.2.2⟩ b5 (fun L X hL hX hk => q3 L X hL hX hk), fun c => by omega⟩
      · refine ⟨fun c => by omega, fun _ => h2 M1 s.1 L1 s.2.2 f ⟨t3.1, by rw [← q3]; exact t3.2.1, t3.2.2⟩ q1 (by rw [q6]; have := wtS_bd (S := s.2.2) hR hLR n (Nat.le_refl n); omega) (Or.inr ⟨q5, ⟨q2, q4⟩, q6, fun L X hP hk => q7 L X hP.1 hP.2 hk⟩) q2 q4⟩
    | succ r ih =>
      intro L M1 s hL hS
      obtain ⟨f, t1, t2, t3, t4, t5⟩ := id hS
      refine v_X5_improve_1 _ _ _ _ (sp_brookSets (n := b) (by rw [f 27 1 (by omega)]; exact h27) (by omega) ?_)
      refine ifle (by omega) (by omega) (fun c => by omega) (fun _ => ?_)
      have hH1 : Hyd (gS G) (gK G) (up M1 26 6 (nI L)) 36 37 := (hH.of (fun j => f 36 j (by omega)) (fun j => f 37 j (by omega))).up (by decide) (by decide)
      refine sp_springZ (o := 35) (i := 1) hH1 (by decide) ?_
      have hC : DCtx G L hour n (up M1 26 6 (nI L)) := ⟨by rw [up_j (by decide)]; exact t1, up_at _ _ _ _, hLn.of (fun k j q1 q2 => by rw [up_k (by omega)]; exact f k j (by omega)), hH1, fun i hi => by rw [up_k (by decide)]; exact t2 i hi⟩
      have hs1 : PSt (up M1 26 6 (nI L)) s := ⟨by rw [up_j (by decide)]; exact t3.1, by rw [up_j (by decide)]; exact t3.2.1, by rw [up_j (by decide)]; exact t3.2.2⟩
      have bd := fl_bd (D := 0) (L := L) (hour := hour) hR hR.2.1 hLR 0 (by omega)
      refine wpD_at (as' := [mR 5 0 26, mI (nI 0), mI (zi (gS G 0)), mI (zi (gS G 0 * gS G 1)), mI (nI 0), mI (zi 0)]) (by rw [zi_mul]; rfl) ?_
      refine wpD_succ mB mNL (d + n + 6) _ _ _ _ (sp_descend hR hLR hn hb hh (by omega) n 0 (by omega) d _ s _ _ 0 0 _ hC hs1 t4 bd (by decide) ⟨by decide, by decide⟩ (fun M2 f2 hs2 => ?_))
      rw [nI_1]
      have hb2 := fold_bd (L := L) (hour := hour) (m := n) (h := 0) (F := gS G 0) (Q := gS G 0 * gS G 1) (g := 0) (D := 0) hR hLR (by omega) (by omega) (by omega) (by decide) ⟨by decide, by decide⟩ t4
      refine ih (L + 1) M2 _ (by omega) ⟨fun k j q => ?_, ?_, fun i hi => ?_, hs2, hb2, ?_⟩
      · rw [f2 k j (by omega)]
        unfold up
        rw [if_neg (by omega)]
        exact f k j q
      · rw [f2 26 5 (by omega), up_j (by decide)]; exact t1
      · rw [f2 31 i (by omega), up_k (by decide)]; exact t2 i hi
      · have hBL : (L : Int) ≠ s.2.1 := by
          rcases t5 with ⟨q1, q2, q3⟩ | ⟨q1, L1, q2, q3, -⟩ <;> omega
        rcases ofr_fold (L := L) (lvs G L hour n 0 (gS G 0) (gS G 0 * gS G 1) 0 0) s with ⟨e, e2⟩ | ⟨⟨X, g⟩, hq, e, e2, e3⟩
        · have new : ∀ X, X < 2 ^ n → okP G n hour (gS G 1) L X → wtS G X n ≤ s.1 := fun X hX hk => (e2 (X, wtS G X n) (lvs_P.mpr ⟨hX, hk, rfl⟩)).1
          rw [e]
          rcases t5 with ⟨q1, q2, q3⟩ | ⟨q1, L1, q2, q3, q4, q5, q6, q7⟩
          · refine Or.inl ⟨q1, q2, fun L' X hL' hX hk => ?_⟩
            by_cases eL : L' = L
            · subst eL
              have := new X hX hk
              omega
            · exact q3 L' X (by omega) hX hk
          · refine Or.inr ⟨q1, L1, by omega, q3, q4, q5, q6, fun L' X hL' hX hk => ?_⟩
            by_cases eL : L' = L
            · subst eL
              exact ⟨new X hX hk, fun _ => Or.inl q2⟩
            · exact q7 L' X (by omega) hX hk
        · have hlt : s.1 < g := by
            rcases e2 with q | ⟨-, q, -⟩
            · exact q
            · exact absurd q hBL
          obtain ⟨x1, x2, x3⟩ := lvs_P.mp hq
          rw [e]
          refine Or.inr ⟨?_, L, by omega, rfl, x1, x2, x3, fun L' X' hL' hX hk => ?_⟩
          · show W0 < g
            rcases t5 with ⟨q1, -⟩ | ⟨q1, -⟩ <;> omega
          · show wtS G X' n ≤ g ∧ (wtS G X' n = g → L < L' ∨ (L = L' ∧ X ≤ X'))
            by_cases eL : L' = L
            · subst eL
              have := e3 (X', wtS G X' n) (lvs_P.mpr ⟨hX, hk, rfl⟩)
              exact ⟨this.1, fun c => Or.inr ⟨rfl, this.2 c⟩⟩
            · have : wtS G X' n ≤ s.1 := by
                rcases t5 with ⟨q1, q2, q3⟩ | ⟨q1, L1, q2, q3, q4, q5, q6, q7⟩
                · rw [q1]; exact q3 L' X' (by omega) hX hk
                · exact (q7 L' X' (by omega) hX hk).1
              exact ⟨by omega, fun c => by omega⟩
  have hH0 : Hyd (gS G) (gK G) (up (up M 26 5 (nI hour)) 26 2 (-6)) 36 37 := (hH.up (by decide) (by decide)).up (by decide) (by decide)
  refine v_X5_improve_0 _ (sp_springZ (o := 35) (i := 0) hH (by decide) ?_)
  refine sp_sumWorthBehind (d := d + n + 3) hR hH0 (hLn.of (fun k j q1 q2 => by rw [up_k (by omega), up_k (by omega)])) hn hLR hh (by rw [up_j (by decide), up_at]) (fun M1 f1 w1 => ?_)
  show jJ _ _ _ _ [_, _, mI (M 26 1), mI (zi (gS G 0)), mI (nI 0)] _ _
  rw [s1]
  obtain ⟨b1, b2, b3, b4, b5⟩ := hbd
  refine key (2 ^ b) 0 M1 (W0, -6, D0) (by omega) ⟨fun k j q => ?_, ?_, w1, ⟨?_, ?_, ?_⟩, ⟨b1, b2, Int.le_refl _, by show (-6 : Int) ≤ 16; decide, b5⟩, Or.inl ⟨rfl, rfl, fun L' X q => absurd q (Nat.not_lt_zero _)⟩⟩
  · rw [f1 k j (by omega)]
    unfold up
    rw [if_neg (by omega), if_neg (by omega)]
  · rw [f1 26 5 (by decide), up_j (by decide), up_at]
  · rw [f1 26 1 (by decide), up_j (by decide), up_j (by decide)]; exact s1
  · rw [f1 26 2 (by decide), up_at]; rfl
  · rw [f1 26 3 (by decide), up_j (by decide), up_j (by decide)]; exact s3
theorem sp_forgetPlans {d : Nat} {k : mQ} {M : mM} (h : k none (up (up (up M 26 1 (-6)) 26 2 (-6)) 26 3 0)) : wpD mB mNL (d + 1) zX5_forgetPlans [mR 5 0 26] M k := v_X5_forgetPlans_0 h
theorem cpy_out {M : mM} {r0 r1 L k j : Nat} (h : k ≠ r1) : cpy M r0 r1 L k j = M k j := by simp [cpy, h]
theorem cpy_in {M : mM} {r0 r1 L j : Nat} (h : j < L) : cpy M r0 r1 L r1 j = M r0 j := by simp [cpy, h]
/-- a lane's copy: outside, and what it holds -/
theorem cpyL_out {M : mM} {a o k j : Nat} (h : k < o ∨ o + 3 < k) : cpyL M a o k j = M k j := by
  unfold cpyL
  rw [cpy_out (by omega), cpy_out (by omega), cpy_out (by omega), up_k (by omega), up_k (by omega)]
theorem cpyL_0 {M : mM} {a o : Nat} : cpyL M a o o 0 = M a 0 ∧ cpyL M a o o 1 = M a 1 := by
  unfold cpyL
  refine ⟨?_, ?_⟩
  · rw [cpy_out (by omega), cpy_out (by omega), cpy_out (by omega), up_j (by decide), up_at]
  · rw [cpy_out (by omega), cpy_out (by omega), cpy_out (by omega), up_at]
theorem cpyL_r {M : mM} {a o i j : Nat} (hd : a + 3 < o ∨ o + 3 < a) (hi : 1 ≤ i ∧ i ≤ 3) (hj : j < 8) : cpyL M a o (o + i) j = M (a + i) j := by
  unfold cpyL
  rcases (by omega : i = 1 ∨ i = 2 ∨ i = 3) with rfl | rfl | rfl
  · rw [cpy_out (by omega), cpy_out (by omega), cpy_in hj, up_k (by omega), up_k (by omega)]
  · rw [cpy_out (by omega), cpy_in hj, cpy_out (by omega), up_k (by omega), up_k (by omega)]
  · rw [cpy_in hj, cpy_out (by omega), cpy_out (by omega), up_k (by omega), up_k (by omega)]
theorem LnC.cpy {G : LG} {M : mM} {a o n : Nat} (h : LnC G M a n) (hn : n ≤ 8) (hd : a + 3 < o ∨ o + 3 < a) : LnC G (cpyL M a o) o n :=
  ⟨by rw [cpyL_0.1]; exact h.1, fun i hi => ⟨by rw [cpyL_r hd (by omega) (by omega)]; exact (h.2 i hi).1, by rw [cpyL_r hd (by omega) (by omega)]; exact (h.2 i hi).2.1, by rw [cpyL_r hd (by omega) (by omega)]; exact (h.2 i hi).2.2⟩⟩
/-- cells of the searches -/
def SFr (M M' : mM) : Prop := ∀ k j, k < 26 ∨ 31 < k → M' k j = M k j
set_option maxHeartbeats 4000000 in
theorem sp_planAsItIs {d : Nat} {k : mQ} {M : mM} {G : LG} {hour n b : Nat} (hR : Rng (gS G) (gK G)) (hH : Hyd (gS G) (gK G) M 36 37) (hLn : LnC G M 38 n) (h38 : M 38 1 = nI b) (hn : n ≤ 8) (hLR : LR G n b) (hb : b ≤ 4) (hh : hour < 6)
    (h : ∀ M' W (L D : Nat), SFr M M' → IsB G n b hour (gS G 1) W L D → M' 26 1 = zi W → -6 ≤ W → W ≤ 1000 → (W ≠ -6 → M' 26 2 = nI L ∧ M' 26 3 = nI D ∧ L < 2 ^ b ∧ D < 2 ^ n) → k none M') : wpD mB mNL (d + n + 9) zX7_planAsItIs [mR 7 0 14, mI (nI hour)] M k := by
  refine v_X7_planAsItIs_0 (d := d + n + 8) _ (sp_forgetPlans (d := d + n + 7) (sp_copyLane (d := d + n + 6) (by decide) ?_))
  have f0 : ∀ k j, k < 26 ∨ 31 < k → (cpyL (up (up (up M 26 1 (-6)) 26 2 (-6)) 26 3 0) 38 27) k j = M k j := fun k j q => by rw [cpyL_out (by omega), up_k (by omega), up_k (by omega), up_k (by omega)]
  have hL0 : LnC G (up (up (up M 26 1 (-6)) 26 2 (-6)) 26 3 0) 38 n := hLn.of (fun k j q1 q2 => by rw [up_k (by omega), up_k (by omega), up_k (by omega)])
  refine sp_improve (W0 := -6) (B0 := -6) (D0 := 0) hR (hH.of (fun j => f0 36 j (by decide)) (fun j => f0 37 j (by decide))) (hL0.cpy hn (by decide)) ?_ hn hLR hb hh ⟨?_, ?_, ?_⟩ ⟨by decide, by decide, by decide, by decide, by decide⟩ (fun M1 D f1 p1 hD e1 => ?_) (fun M1 W L D f1 p1 hW hW2 hI hL hD => ?_)
  · rw [cpyL_0.2, up_k (by decide), up_k (by decide), up_k (by decide)]; exact h38
  · rw [cpyL_out (by decide), up_j (by decide), up_j (by decide), up_at]; rfl
  · rw [cpyL_out (by decide), up_j (by decide), up_at]; rfl
  · rw [cpyL_out (by decide), up_at]; rfl
  · refine h M1 (-6) 0 0 (fun k j q => by rw [f1 k j (by omega)]; exact f0 k j q) (Or.inl ⟨rfl, rfl, rfl, fun L X hP hk => ?_⟩) p1.1 (by decide) (by decide) (fun c => absurd rfl c)
    have a := e1 L X hP.1 hP.2 hk
    have c := wtS_bd (S := X) hR hLR n (Nat.le_refl n)
    omega
  · exact h M1 W L D (fun k j q => by rw [f1 k j (by omega)]; exact f0 k j q) hI p1.1 (by omega) hW2 (fun _ => ⟨by rw [p1.2.1]; exact (nI_zi L).symm, p1.2.2, hL, hD⟩)
