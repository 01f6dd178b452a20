/-! CALLS: winter -/
def smF (f : Nat → Int) : Nat → Int
  | 0 => 0
  | n + 1 => smF f n + f n
theorem smF_cong {f g : Nat → Int} : ∀ n, (∀ i, i < n → f i = g i) → smF f n = smF g n
  | 0, _ => rfl
  | n + 1, h => by rw [smF, smF, smF_cong n (fun i hi => h i (by omega)), h n (by omega)]
theorem smF_add {f g : Nat → Int} : ∀ n, smF (fun i => f i + g i) n = smF f n + smF g n
  | 0 => rfl
  | n + 1 => by rw [smF, smF, smF, smF_add n]; omega
theorem smF_0 : ∀ n, smF (fun _ => 0) n = 0
  | 0 => rfl
  | n + 1 => by rw [smF, smF_0 n]; rfl
theorem smF_swap {f : Nat → Nat → Int} (b : Nat) : ∀ a, smF (fun h => smF (fun d => f h d) b) a = smF (fun d => smF (fun h => f h d) a) b
  | 0 => by rw [smF]; exact (smF_0 b).symm
  | a + 1 => by
    rw [smF, smF_swap b a, ← smF_add]
    rfl
def xF (s : Nat) : Nat → Nat
  | 0 => s
  | d + 1 => (75 * xF s d + 74) % 65537
theorem xF_lt {s : Nat} (h : s ≤ 9999) : ∀ d, xF s d < 65537
  | 0 => by rw [xF]; omega
  | d + 1 => by rw [xF]; exact Nat.mod_lt _ (by decide)
def wmF (V : AV) (s d : Nat) : Int := if 0 < gS (vG V) 1 - ((xF s (d + 1) % 200 : Nat) : Int) then gS (vG V) 1 - ((xF s (d + 1) % 200 : Nat) : Int) else 0
def fW (V : AV) (q : Bool) (s h L D d : Nat) : Int := if q then wtS (vG V) (svN (vG V) L D h (wmF V s d) (vn V)) (vn V) else (bnF (hmN (vG V) L D h (wmF V s d) (vn V)) 8 : Int)
abbrev okW (v1 v2 v3 : Int32) : Prop := (0 ≤ v1.toInt ∧ v1.toInt ≤ 9999) ∧ (1 ≤ v2.toInt ∧ v2.toInt ≤ 30) ∧ (0 ≤ v3.toInt ∧ v3.toInt ≤ 1)
def WinterR (V : AV) (v1 v2 v3 x : Int32) : Prop := if ¬ okW v1 v2 v3 then x = -2 else
  ∃ Lp Dp : Nat → Nat, (∀ h, h < 6 → ∃ W, PlanR V h W (Lp h) (Dp h)) ∧ x = zi (smF (fun h => smF (fun d => fW V (decide (v3.toInt = 0)) (tn v1) h (Lp h) (Dp h) d) (tn v2)) 6)
theorem WinterR.one {V : AV} {v1 v2 v3 x y : Int32} (hV : VOK V) (h : WinterR V v1 v2 v3 x) (h' : WinterR V v1 v2 v3 y) : x = y := by
  unfold WinterR at h h'
  rcases ite_p h with ⟨c, h⟩ | ⟨c, h⟩ <;> rcases ite_p h' with ⟨c', h'⟩ | ⟨c', h'⟩
  · rw [h, h']
  · exact absurd c c'
  · exact absurd c' c
  · obtain ⟨Lp, Dp, h1, h2⟩ := h
    obtain ⟨Lq, Dq, g1, g2⟩ := h'
    rw [h2, g2]
    congr 1
    refine smF_cong 6 (fun i hi => ?_)
    obtain ⟨W, a⟩ := h1 i hi
    obtain ⟨W', b⟩ := g1 i hi
    obtain ⟨-, e1, e2⟩ := PlanR.one hV a b
    rw [e1, e2]
theorem nI_mod {a b : Nat} (ha : a < 2147483648) (h1 : 1 ≤ b) (hb : b < 2147483648) : nI a - nI a / nI b * nI b = nI (a % b) := by
  rw [nI_zi a, nI_zi b, zi_div (by omega) (by omega) (by omega) (by omega), zi_mul, zi_sub, nI_zi]
  congr 1
  have : (a : Int) % b = a - a / b * b := by
    have := Int.emod_add_mul_ediv a b
    have e : (b : Int) * (a / b) = a / b * b := Int.mul_comm _ _
    omega
  rw [← this]
  rfl
theorem IsB.z {G : LG} {n b m hour : Nat} {w W : Int} {L D : Nat} (hR : Rng (gS G) (gK G)) (hLR : LR G n m) (h : IsB G n b hour w W L D) (e : W < 0) : L = 0 ∧ D = 0 := by
  rcases h with ⟨-, h2, h3, -⟩ | ⟨-, -, h3, -⟩
  · exact ⟨h2, h3⟩
  · have := wtS_bd (S := D) hR hLR n (Nat.le_refl n)
    omega
theorem sp_worthServed {d : Nat} {k : mQ} {M : mM} {V : AV} {c K S : Nat} {p : Nat → Nat} (hI : InvP V c p K M) (hS : S < 2147483648) (h23 : M 23 0 = nI S) (h : k (mI (zi (wtS (vG V) S (vn V)))) M) : wpD mB mNL (d + 3) zX0_worthOfServed [mR 0 0 23] M k := by
  obtain ⟨o1, o2, o3, o4, -⟩ := hI.ok
  have key : ∀ r i, i + r = vn V → jJ kB_X0_worthOfServed (d + 2) k 1 [mR 0 0 23, mI (zi (wtS (vG V) S i)), mI (nI i)] [] M := by
    intro r
    induction r with
    | zero =>
      intro i hi
      have : i = vn V := by omega
      subst this
      refine v_X0_worthOfServed_1 _ _ ?_
      rw [hI.lnC.1]
      exact ifle (by omega) (by omega) (fun _ => h) (fun q => by omega)
    | succ r ih =>
      intro i hi
      have h9 := ih (i + 1) (by omega)
      rw [wtS] at h9
      refine v_X0_worthOfServed_1 _ _ ?_
      rw [hI.lnC.1, h23, nI_1]
      refine ifle (by omega) (by omega) (fun q => by omega) (fun _ => sp_hasBit hS (by omega) (ifb (fun e => ?_) (fun e => sp_kindOf (by omega) ?_)))
      · rw [e] at h9; exact h9
      · rw [e] at h9
        refine wpD_at (as' := [mR 6 0 35, mI (nI 3), mI (nI (kdH (vG V) i))]) (by rw [← (hI.lnC.2 i (by omega)).1]; rfl) (sp_kindZ (o := 35) hI.hydC (by decide) (o4 i (by omega)).1 ?_)
        simp only [if_true] at h9
        rw [← zi_add] at h9
        exact h9
  exact v_X0_worthOfServed_0 (key (vn V) 0 (by omega))
set_option maxHeartbeats 2000000 in
theorem cx_winter {d : Nat} {k : mQ} {M : mM} {V : AV} {c K : Nat} {p : Nat → Nat} {v1 v2 v3 : Int32} (hI : InvP V c p K M) (h : ∀ M' x, Keep M M' → WinterR V v1 v2 v3 x → k (mI x) M') : wpD mB mNL (d + vn V + 10) zX7_winter [mR 7 0 14, mI v1, mI v2, mI v3] M k := by
  have hV := hI.ok
  obtain ⟨o1, o2, o3, o4, -⟩ := id hV
  have p2 : 2 ^ vn V ≤ 2 ^ 8 := Nat.pow_le_pow_right (by decide) o2.2
  have bad : ¬ okW v1 v2 v3 → k (mI (-2)) M := fun e => h M _ (Keep.rfl' M) (by unfold WinterR; rw [if_pos e])
  have l9 : (9999 : Int32).toInt = 9999 := by decide
  have l30 : (30 : Int32).toInt = 30 := by decide
  refine v_X7_winter_0 _ _ _ ?_
  simp only [lt_zi, le_zi, li0, li1, l9, l30]
  refine ⟨fun q => bad (by simp only [okW]; omega), fun c1 => ⟨fun q => bad (by simp only [okW]; omega), fun c2 => ⟨fun q => bad (by simp only [okW]; omega), fun c3 => ⟨fun q => bad (by simp only [okW]; omega), fun c4 => ⟨fun q => bad (by simp only [okW]; omega), fun c5 => ⟨fun c6 => ?_, fun q => bad (by simp only [okW]; omega)⟩⟩⟩⟩⟩⟩
  have hok : okW v1 v2 v3 := by simp only [okW]; omega
  have a1 : v1 = nI (tn v1) := tn_eq (by omega)
  have a2 : v2 = nI (tn v2) := tn_eq (by omega)
  have y1 : tn v1 = v1.toInt.toNat := rfl
  have y2 : tn v2 = v2.toInt.toNat := rfl
  have b1 : tn v1 ≤ 9999 := by omega
  have b2 : tn v2 ≤ 30 := by omega
  have key : ∀ m hr M1 (Lp Dp : Nat → Nat) u6 u7 u8 u9, hr + m = 6 → Keep M M1 → (∀ h, h < hr → ∃ W, PlanR V h W (Lp h) (Dp h)) →
      jJ kB_X7_winter (d + vn V + 9) k 3 [mR 7 0 14, mI v1, mI v2, mI v3, mI (zi (smF (fun h => smF (fun d => fW V (decide (v3.toInt = 0)) (tn v1) h (Lp h) (Dp h) d) (tn v2)) hr)), mI (nI hr), u6, u7, u8, u9] [] M1 := by
    intro m
    induction m with
    | zero =>
      intro hr M1 Lp Dp u6 u7 u8 u9 hi f hP
      have : hr = 6 := by omega
      subst this
      refine v_X7_winter_3 _ _ _ _ _ _ _ _ _ (ifle (a := 6) (b := 6) (by decide) (by decide) (fun _ => h M1 _ f ?_) (fun q => by omega))
      unfold WinterR
      rw [if_neg (fun q => q hok)]
      exact ⟨Lp, Dp, hP, rfl⟩
    | succ m ih =>
      intro hr M1 Lp Dp u6 u7 u8 u9 hi f hP
      have hI1 := hI.keep f
      refine v_X7_winter_3 _ _ _ _ _ _ _ _ _ (ifle (a := 6) (b := hr) (by decide) (by omega) (fun q => by omega) (fun _ => ?_))
      refine sp_planAsItIs o1 hI1.hydC hI1.lnC hI1.bC o2.2 o4 o3 (by omega) (fun M2 W L D f2 hB g1 g2 g3 g4 => ?_)
      have bB := IsB.bd o1 o4 (by omega) hB
      have bz := IsB.z o1 o4 hB
      have f12 := f.trans f2.keep
      have p1 : 2 ^ vb V ≤ 2 ^ 4 := Nat.pow_le_pow_right (by decide) o3
      have days : ∀ m2 dy M3, dy + m2 = tn v2 → Keep M M3 → jJ kB_X7_winter (d + vn V + 9) k 8 [mR 7 0 14, mI v1, mI v2, mI v3, mI (zi (smF (fun h => smF (fun d => fW V (decide (v3.toInt = 0)) (tn v1) h (Lp h) (Dp h) d) (tn v2)) hr + smF (fun d => fW V (decide (v3.toInt = 0)) (tn v1) hr L D d) dy)), mI (nI hr), mI (nI L), mI (nI D), mI (nI (xF (tn v1) dy)), mI (nI dy)] [] M3 := by
        intro m2
        induction m2 with
        | zero =>
          intro dy M3 hd f3
          have : dy = tn v2 := by omega
          subst this
          refine v_X7_winter_8 _ _ _ _ _ _ _ _ _ ?_
          refine ⟨fun _ => ?_, fun q => absurd (by rw [← a2]; exact Int32.le_refl v2) q⟩
          rw [nI_1]
          have := ih (hr + 1) M3 (updN Lp hr L) (updN Dp hr D) (mI (nI L)) (mI (nI D)) (mI (nI (xF (tn v1) (tn v2)))) (mI (nI (tn v2))) (by omega) f3 (fun h hh => ?_)
          · rw [smF] at this
            have e1 : smF (fun h => smF (fun d => fW V (decide (v3.toInt = 0)) (tn v1) h (updN Lp hr L h) (updN Dp hr D h) d) (tn v2)) hr = smF (fun h => smF (fun d => fW V (decide (v3.toInt = 0)) (tn v1) h (Lp h) (Dp h) d) (tn v2)) hr := smF_cong hr (fun i hi => by
              have : ¬ i = hr := by omega
              simp only [updN, this, if_false])
            have e2 : (updN Lp hr L hr) = L ∧ (updN Dp hr D hr) = D := by simp only [updN, if_true]; exact ⟨trivial, trivial⟩
            rw [e1, e2.1, e2.2] at this
            exact this
          · by_cases e : h = hr
            · simp only [updN, e, if_true]
              exact ⟨W, hB⟩
            · simp only [updN, e, if_false]
              exact hP h (by omega)
        | succ m2 ih2 =>
          intro dy M3 hd f3
          have hI3 := hI.keep f3
          have xl := xF_lt b1 dy
          have xl2 := xF_lt b1 (dy + 1)
          refine v_X7_winter_8 _ _ _ _ _ _ _ _ _ ?_
          have e75 : (75 : Int32) * nI (xF (tn v1) dy) + 74 = nI (75 * xF (tn v1) dy + 74) := by rw [show (75 : Int32) = nI 75 from rfl, show (74 : Int32) = nI 74 from rfl, pk_mul, nI_add]
          have e65 : nI (75 * xF (tn v1) dy + 74) - nI (75 * xF (tn v1) dy + 74) / 65537 * 65537 = nI (xF (tn v1) (dy + 1)) := nI_mod (b := 65537) (by omega) (by decide) (by decide)
          have e200 : nI (xF (tn v1) (dy + 1)) - nI (xF (tn v1) (dy + 1)) / 200 * 200 = nI (xF (tn v1) (dy + 1) % 200) := nI_mod (b := 200) (by omega) (by decide) (by decide)
          rw [e75, e65, e200, nI_1 dy]
          have le : (v2 ≤ nI dy ↔ tn v2 ≤ dy) := by
            conv => lhs; rw [a2]
            exact nI_leI (by omega) (by omega)
          rw [le]
          refine ⟨fun q => by omega, fun _ => ⟨by decide, sp_springZ (d := d + vn V + 7) (o := 35) (i := 1) hI3.hydC (by decide) ⟨by decide, ?_⟩⟩⟩
          have ml : xF (tn v1) (dy + 1) % 200 < 200 := Nat.mod_lt _ (by decide)
          have ew : (if 0 < zi (gS (vG V) 1) - nI (xF (tn v1) (dy + 1) % 200) then zi (gS (vG V) 1) - nI (xF (tn v1) (dy + 1) % 200) else 0) = zi (wmF V (tn v1) dy) := by
            have o11 := o1.2.1
            rw [nI_zi, zi_sub, show (0 : Int32) = zi 0 from rfl]
            unfold wmF
            by_cases q : 0 < gS (vG V) 1 - ((xF (tn v1) (dy + 1) % 200 : Nat) : Int)
            · rw [if_pos q, if_pos ((zi_lt (by decide) (by decide) (by omega) (by omega)).mpr q)]
            · rw [if_neg q, if_neg (fun z => q ((zi_lt (by decide) (by decide) (by omega) (by omega)).mp z))]
          have bw : 0 ≤ wmF V (tn v1) dy ∧ wmF V (tn v1) dy ≤ 1000 := by
            have o11 := o1.2.1
            unfold wmF
            split <;> omega
          refine wpD_at (as' := [mR 0 0 23, mI (zi (wmF V (tn v1) dy)), mI (nI hr), mI (nI L), mI (nI D)]) (by rw [← ew]) ?_
          refine c_follow (d := d + vn V + 4) hI3 bw (by omega) bB.2.2.2.1 (by omega) (fun M4 f4 e4 => ?_)
          have hI4 := hI3.keep f4
          obtain ⟨⟨-, g23, g231, -⟩, -⟩ := e4
          have bsv := svN_lt (vG V) L D hr (wmF V (tn v1) dy) (vn V)
          have bhm := hmN_lt (vG V) L D hr (wmF V (tn v1) dy) (vn V)
          have q0 : v3 = 0 ↔ v3.toInt = 0 := lit (n := 0) (by decide)
          show (_ ∧ _)
          rw [q0]
          refine ⟨fun q => ?_, fun q => ?_⟩
          · refine wpD_at (as' := [mI (nI (hmN (vG V) L D hr (wmF V (tn v1) dy) (vn V)))]) (by rw [← g231]) (sp_bitCount (d := d + vn V + 8) (by omega) ?_)
            have := ih2 (dy + 1) M4 (by omega) (f3.trans f4)
            rw [smF, ← Int.add_assoc, fW, decide_eq_false q] at this
            simp only [Bool.false_eq_true, if_false] at this
            rw [← zi_add _ ((bnF _ 8 : Nat) : Int), zi_nI] at this
            rw [decide_eq_false q]
            exact this
          · refine sp_worthServed (d := d + vn V + 6) hI4 (by omega) g23 ?_
            have := ih2 (dy + 1) M4 (by omega) (f3.trans f4)
            rw [smF, ← Int.add_assoc, fW, decide_eq_true q] at this
            simp only [if_true] at this
            rw [← zi_add _ (wtS _ _ _)] at this
            rw [decide_eq_true q]
            exact this
      have d0 := days (tn v2) 0 M2 (by omega) f12
      rw [smF, Int.add_zero, xF, ← a1] at d0
      show (_ ∧ _)
      have ne : M2 26 1 = -6 ↔ W = -6 := by rw [g1, show (-6 : Int32) = zi (-6) from rfl, zi_eq (by omega) (by omega) (by decide) (by decide)]
      refine ⟨fun q => v_X7_winter_5 _ _ _ _ _ _ _ _ _ _ ⟨fun _ => ?_, fun z => absurd z q⟩, fun q => v_X7_winter_5 _ _ _ _ _ _ _ _ _ _ ⟨fun z => absurd q z, fun _ => ?_⟩⟩
      · obtain ⟨g5, g6, -⟩ := g4 (fun z => q (ne.mpr z))
        rw [g5, g6]
        exact d0
      · have wz := ne.mp q
        obtain ⟨z1, z2⟩ := bz (by omega)
        rw [z1, z2] at d0
        exact d0
  exact key 6 0 M (fun _ => 0) (fun _ => 0) none none none none (by decide) (Keep.rfl' M) (fun h hh => absurd hh (Nat.not_lt_zero h))

set_option maxHeartbeats 2000000 in
theorem cm_winter {d : Nat} {k : mQ} {M : mM} {V : AV} {c K : Nat} {p : Nat → Nat} {v1 v2 v3 : Int32} (hI : InvP V c p K M) (h : ∀ M' x, Keep M M' → WinterR V v1 v2 v3 x → k (mI x) M') : wpD mB mNL (d + 4) zX8_winter [mR 8 0 0, mI v1, mI v2, mI v3] M k := by
  have hV := hI.ok
  obtain ⟨o1, o2, o3, o4, -⟩ := id hV
  have p1 : 2 ^ vb V ≤ 2 ^ 4 := Nat.pow_le_pow_right (by decide) o3
  have p2 : 2 ^ vn V ≤ 2 ^ 8 := Nat.pow_le_pow_right (by decide) o2.2
  have bad : ¬ okW v1 v2 v3 → k (mI (-2)) M := fun e => h M _ (Keep.rfl' M) (by unfold WinterR; rw [if_pos e])
  have l9 : (9999 : Int32).toInt = 9999 := by decide
  have l30 : (30 : Int32).toInt = 30 := by decide
  refine v_X8_winter_0 _ _ _ (sp_inC (fun e => ⟨fun _ => bad (fun q => e (by rw [li0, l9]; exact q.1)), fun x => absurd rfl x⟩) (fun c1 => ⟨fun x => absurd x (by decide), fun _ => ?_⟩))
  refine sp_inC (fun e => ⟨fun _ => bad (fun q => e (by rw [li1, l30]; exact q.2.1)), fun x => absurd rfl x⟩) (fun c2 => ⟨fun x => absurd x (by decide), fun _ => ?_⟩)
  refine sp_inC (fun e => ⟨fun x => absurd rfl x, fun _ => bad (fun q => e (by rw [li0, li1]; exact q.2.2))⟩) (fun c3 => ⟨fun _ => ?_, fun x => absurd x (by decide)⟩)
  rw [li0, l9] at c1
  rw [li1, l30] at c2
  rw [li0, li1] at c3
  have hok : okW v1 v2 v3 := ⟨c1, c2, c3⟩
  have a1 : v1 = nI (tn v1) := tn_eq (by omega)
  have a2 : v2 = nI (tn v2) := tn_eq (by omega)
  have y1 : tn v1 = v1.toInt.toNat := rfl
  have y2 : tn v2 = v2.toInt.toNat := rfl
  have b1 : tn v1 ≤ 9999 := by omega
  have b2 : tn v2 ≤ 30 := by omega
  have q0 : v3 = 0 ↔ v3.toInt = 0 := lit (n := 0) (by decide)
  have n11 : ∀ j, ¬ lbC 11 j := fun j => by unfold lbC goC; omega
  have nl : ∀ k j, k = 1 ∨ k = 2 ∨ k = 6 ∨ k = 11 ∨ (k = 0 ∧ j = 9) → ¬ lbC k j := fun k j q => by unfold lbC goC; omega
  -- the days, once the plans are laid
  have days : ∀ (Lp Dp : Nat → Nat), (∀ h, h < 6 → Lp h < 16 ∧ Dp h < 512 ∧ Lp h < 2 ^ vb V ∧ ∃ W, PlanR V h W (Lp h) (Dp h)) → ∀ m dy M1 u8 u9, dy + m = tn v2 → Keep M M1 → LnM (vG V) M1 (vn V) → (∀ h, h < 6 → M1 11 h = nI (512 * Lp h + Dp h)) →
      jJ kB_X8_winter (d + 3) k 7 [mR 8 0 0, mI v1, mI v2, mI v3, mI (nI (xF (tn v1) dy)), mI (zi (smF (fun d => smF (fun h => fW V true (tn v1) h (Lp h) (Dp h) d) 6) dy)), mI (zi (smF (fun d => smF (fun h => fW V false (tn v1) h (Lp h) (Dp h) d) 6) dy)), mI (nI dy), u8, u9] [] M1 := by
    intro Lp Dp hP m
    induction m with
    | zero =>
      intro dy M1 u8 u9 hi f l pl
      have : dy = tn v2 := by omega
      subst this
      refine v_X8_winter_7 _ _ _ _ _ _ _ _ _ ⟨fun _ => ?_, fun q => absurd (by rw [← a2]; exact Int32.le_refl v2) q⟩
      rw [q0]
      refine ⟨fun q => h M1 _ f ?_, fun q => h M1 _ f ?_⟩ <;> unfold WinterR <;> rw [if_neg (fun q => q hok)] <;> refine ⟨Lp, Dp, fun h hh => (hP h hh).2.2.2, ?_⟩ <;> rw [smF_swap]
      · rw [decide_eq_false q]
      · rw [decide_eq_true q]
    | succ m ih =>
      intro dy M1 u8 u9 hi f l pl
      have hI1 := hI.keep f
      have xl := xF_lt b1 dy
      have xl2 := xF_lt b1 (dy + 1)
      have e75 : (75 : Int32) * nI (xF (tn v1) dy) + 74 = nI (75 * xF (tn v1) dy + 74) := by rw [show (75 : Int32) = nI 75 from rfl, show (74 : Int32) = nI 74 from rfl, pk_mul, nI_add]
      have e65 : nI (75 * xF (tn v1) dy + 74) - nI (75 * xF (tn v1) dy + 74) / 65537 * 65537 = nI (xF (tn v1) (dy + 1)) := nI_mod (b := 65537) (by omega) (by decide) (by decide)
      have e200 : nI (xF (tn v1) (dy + 1)) - nI (xF (tn v1) (dy + 1)) / 200 * 200 = nI (xF (tn v1) (dy + 1) % 200) := nI_mod (b := 200) (by omega) (by decide) (by decide)
      refine v_X8_winter_7 _ _ _ _ _ _ _ _ _ ?_
      rw [cl1, hI1.hydM.1 1 (by decide), e75, e65, e200]
      have le : (v2 ≤ nI dy ↔ tn v2 ≤ dy) := by
        conv => lhs; rw [a2]
        exact nI_leI (by omega) (by omega)
      rw [le]
      refine ⟨fun q => by omega, fun _ => ⟨by decide, vpn 1 rfl (by decide) (by decide), by decide, ?_⟩⟩
      have ml : xF (tn v1) (dy + 1) % 200 < 200 := Nat.mod_lt _ (by decide)
      have o11 := o1.2.1
      have bw : 0 ≤ wmF V (tn v1) dy ∧ wmF V (tn v1) dy ≤ 1000 := by
        unfold wmF
        split <;> omega
      have hours : ∀ r hr M2, hr + r = 6 → Keep M M2 → LnM (vG V) M2 (vn V) → (∀ h, h < 6 → M2 11 h = nI (512 * Lp h + Dp h)) →
          jJ kB_X8_winter (d + 3) k 8 [mR 8 0 0, mI v1, mI v2, mI v3, mI (nI (xF (tn v1) (dy + 1))), mI (zi (smF (fun d => smF (fun h => fW V true (tn v1) h (Lp h) (Dp h) d) 6) dy + smF (fun h => fW V true (tn v1) h (Lp h) (Dp h) dy) hr)), mI (zi (smF (fun d => smF (fun h => fW V false (tn v1) h (Lp h) (Dp h) d) 6) dy + smF (fun h => fW V false (tn v1) h (Lp h) (Dp h) dy) hr)), mI (nI dy), mI (zi (gS (vG V) 1 - ((xF (tn v1) (dy + 1) % 200 : Nat) : Int))), mI (nI hr)] [] M2 := by
        intro r
        induction r with
        | zero =>
          intro hr M2 hi2 f2 l2 pl2
          have : hr = 6 := by omega
          subst this
          refine v_X8_winter_8 _ _ _ _ _ _ _ _ _ (ifle (a := 6) (b := 6) (by decide) (by decide) (fun _ => ?_) (fun q => by omega))
          rw [nI_1 dy]
          exact ih (dy + 1) M2 _ _ (by omega) f2 l2 pl2
        | succ r ih2 =>
          intro hr M2 hi2 f2 l2 pl2
          have hI2 := hI.keep f2
          obtain ⟨x1, x2, x3, -⟩ := hP hr (by omega)
          obtain ⟨m1, m2⟩ := m_code x1 x2
          have ten : jJ kB_X8_winter (d + 3) k 10 [mR 8 0 0, mI v1, mI v2, mI v3, mI (nI (xF (tn v1) (dy + 1))), mI (zi (smF (fun d => smF (fun h => fW V true (tn v1) h (Lp h) (Dp h) d) 6) dy + smF (fun h => fW V true (tn v1) h (Lp h) (Dp h) dy) hr)), mI (zi (smF (fun d => smF (fun h => fW V false (tn v1) h (Lp h) (Dp h) d) 6) dy + smF (fun h => fW V false (tn v1) h (Lp h) (Dp h) dy) hr)), mI (nI dy), mI (zi (gS (vG V) 1 - ((xF (tn v1) (dy + 1) % 200 : Nat) : Int))), mI (nI hr)] [mI (zi (wmF V (tn v1) dy)), mI (nI (Dp hr)), mI (nI (Lp hr)), mI (nI hr), mR 8 0 0] M2 := by
            refine v_X8_winter_10 _ _ _ _ _ _ _ _ _ _ _ _ _ (m_go (d := d + 1) hI2 l2 bw (by omega) x3 x2 (fun M3 f3 e3 => ?_))
            have l3 : LnM (vG V) M3 (vn V) := l2.of (e3.1.1 0 9 (ngo0 (by omega))) (fun j => e3.1.1 6 j (ngo (by decide) (by decide) (by decide)))
            have hI3 := hI2.keep f3
            obtain ⟨⟨g0, g2, g3, -⟩, -⟩ := e3
            have bsv := svN_lt (vG V) (Lp hr) (Dp hr) hr (wmF V (tn v1) dy) (vn V)
            have bhm := hmN_lt (vG V) (Lp hr) (Dp hr) hr (wmF V (tn v1) dy) (vn V)
            refine wpD_at (as' := [mR 8 0 0, mI (nI (svN (vG V) (Lp hr) (Dp hr) hr (wmF V (tn v1) dy) (vn V)))]) (by rw [← g2]) (sp_worthOf (d := d + 1) hI3.hydM l3 (by omega) o4 (by omega) ?_)
            refine wpD_at (as' := [mI (nI (hmN (vG V) (Lp hr) (Dp hr) hr (wmF V (tn v1) dy) (vn V)))]) (by rw [← g3]) (sp_bits (d := d + 2) (by omega) ?_)
            have := ih2 (hr + 1) M3 (by omega) (f2.trans f3) l3 (fun h hh => by rw [g0 11 h (ngo (by decide) (by decide) (by decide))]; exact pl2 h hh)
            rw [smF, ← Int.add_assoc, smF, ← Int.add_assoc] at this
            have t1 : fW V true (tn v1) hr (Lp hr) (Dp hr) dy = wtS (vG V) (svN (vG V) (Lp hr) (Dp hr) hr (wmF V (tn v1) dy) (vn V)) (vn V) := rfl
            have t2 : fW V false (tn v1) hr (Lp hr) (Dp hr) dy = (bnF (hmN (vG V) (Lp hr) (Dp hr) hr (wmF V (tn v1) dy) (vn V)) 8 : Int) := rfl
            rw [t1, t2, ← zi_add _ (wtS _ _ _), ← zi_add _ ((bnF _ 8 : Nat) : Int), zi_nI (bnF _ 8)] at this
            show jJ _ _ _ _ [_, _, _, _, _, _, _, _, _, mI (nI hr + 1)] _ _
            rw [nI_1 hr]
            exact this
          refine v_X8_winter_8 _ _ _ _ _ _ _ _ _ ?_
          rw [nI_clamp (by omega), pl2 hr (by omega), m1, m2]
          refine ifle (a := 6) (b := hr) (by decide) (by omega) (fun q => by omega) (fun _ => ⟨vp_in_nI (by omega) (by decide), vp_in_nI (by omega) (by decide), ?_⟩)
          rw [show (0 : Int32) = zi 0 from rfl, zi_le (by decide) (by decide) (by omega) (by omega)]
          unfold wmF at ten
          refine ⟨fun q => ?_, fun q => ?_⟩
          · by_cases z : 0 < gS (vG V) 1 - ((xF (tn v1) (dy + 1) % 200 : Nat) : Int)
            · rw [if_pos z] at ten; exact ten
            · rw [if_neg z] at ten
              rw [show gS (vG V) 1 - ((xF (tn v1) (dy + 1) % 200 : Nat) : Int) = 0 by omega] at ten ⊢
              exact ten
          · rw [if_neg (by omega)] at ten; exact ten
      have e9 : zi (gS (vG V) 1) - nI (xF (tn v1) (dy + 1) % 200) = zi (gS (vG V) 1 - ((xF (tn v1) (dy + 1) % 200 : Nat) : Int)) := by rw [nI_zi, zi_sub]
      rw [e9]
      have := hours 6 0 M1 (by decide) f l pl
      rw [smF, Int.add_zero, smF, Int.add_zero] at this
      exact this
  -- the plans
  have plans : ∀ m i M1 (Lp Dp : Nat → Nat) u5 u6 u7 u8 u9, i + m = 6 → Keep M M1 → LnM (vG V) M1 (vn V) → (∀ h, h < i → (Lp h < 16 ∧ Dp h < 512 ∧ Lp h < 2 ^ vb V ∧ ∃ W, PlanR V h W (Lp h) (Dp h)) ∧ M1 11 h = nI (512 * Lp h + Dp h)) →
      jJ kB_X8_winter (d + 3) k 3 [mR 8 0 0, mI v1, mI v2, mI v3, mI (nI i), u5, u6, u7, u8, u9] [] M1 := by
    intro m
    induction m with
    | zero =>
      intro i M1 Lp Dp u5 u6 u7 u8 u9 hi f l hP
      have : i = 6 := by omega
      subst this
      refine v_X8_winter_3 _ _ _ _ _ _ _ _ _ (ifle (a := 6) (b := 6) (by decide) (by decide) (fun _ => ?_) (fun q => by omega))
      have := days Lp Dp (fun h hh => (hP h hh).1) (tn v2) 0 M1 u8 u9 (by omega) f l (fun h hh => (hP h hh).2)
      rw [xF, ← a1] at this
      exact this
    | succ m ih =>
      intro i M1 Lp Dp u5 u6 u7 u8 u9 hi f l hP
      have hI1 := hI.keep f
      refine v_X8_winter_3 _ _ _ _ _ _ _ _ _ (ifle (a := 6) (b := i) (by decide) (by omega) (fun q => by omega) (fun _ => ?_))
      refine sp_layBest o1 hI1.hydM l (by omega) hI1.bM o4 o3 (by omega) (fun W L D M2 hB f2 e17 => ?_)
      have bB := IsB.bd o1 o4 (by omega) hB
      have bz := IsB.z o1 o4 hB
      have l2 : LnM (vG V) M2 (vn V) := l.of (f2 0 9 (nl _ _ (by omega))) (fun j => f2 6 j (nl _ _ (by omega)))
      have put : ∀ v, v = nI (512 * L + D) → jJ kB_X8_winter (d + 3) k 3 [mR 8 0 0, mI v1, mI v2, mI v3, mI (nI (i + 1)), u5, u6, u7, u8, u9] [] (up M2 11 i v) := fun v ev => by
        refine ih (i + 1) _ (updN Lp i L) (updN Dp i D) u5 u6 u7 u8 u9 (by omega) ((f.trans (lb_keep f2)).trans (fun k j q => by
          rw [up_k]
          rintro rfl
          exact q (by unfold scr; omega))) (l2.of (up_k (by decide)) (fun j => up_k (by decide))) (fun h hh => ?_)
        by_cases e : h = i
        · simp only [updN, e, if_true]
          exact ⟨⟨by omega, by omega, bB.2.2.2.1, W, hB⟩, by rw [up_at]; exact ev⟩
        · simp only [updN, e, if_false]
          have := hP h (by omega)
          exact ⟨this.1, by rw [up_j e, f2 11 h (n11 h)]; exact this.2⟩
      show (_ ∧ _)
      rw [nI_clamp (by omega), e17, nI_1 i, show (0 : Int32) = zi 0 from rfl, zi_le (by decide) (by decide) (by omega) (by omega)]
      refine ⟨fun q => ⟨vp_in_nI (by omega) (by decide), put _ rfl⟩, fun q => ⟨vp_in_nI (by omega) (by decide), put _ ?_⟩⟩
      obtain ⟨z1, z2⟩ := bz (by omega)
      rw [z1, z2]
      rfl
  refine m_asLane hI (fun M1 f1 l1 => plans 6 0 M1 (fun _ => 0) (fun _ => 0) none none none none none (by decide) f1 l1 (fun h hh => absurd hh (Nat.not_lt_zero h)))
