/-! CALLS: best, house, told -/
theorem SFr.keep {M M' : mM} (f : SFr M M') : Keep M M' := fun k j q => f k j (by
  unfold scr at q
  omega)
theorem lb_keep {M M' : mM} (f : ∀ k j, ¬ lbC k j → M' k j = M k j) : Keep M M' := fun k j q => f k j (fun c => q (lbC_scr c))
/-- the best plan of the lane as it is -/
def PlanR (V : AV) (hour : Nat) (W : Int) (L D : Nat) : Prop := IsB (vG V) (vn V) (vb V) hour (gS (vG V) 1) W L D
theorem PlanR.one {V : AV} {hour : Nat} {W W' : Int} {L D L' D' : Nat} (hV : VOK V) (h : PlanR V hour W L D) (h' : PlanR V hour W' L' D') : W = W' ∧ L = L' ∧ D = D' := IsB.one hV.1 hV.2.2.2.1 h h'
theorem IsB.bd {G : LG} {n b m hour : Nat} {w W : Int} {L D : Nat} (hR : Rng (gS G) (gK G)) (hLR : LR G n m) (hn : n ≤ 9) (h : IsB G n b hour w W L D) : -6 ≤ W ∧ W ≤ 1000 ∧ (W < 0 ↔ W = -6) ∧ L < 2 ^ b ∧ D < 2 ^ n := by
  have p1 : 0 < 2 ^ b := Nat.pow_pos (by decide)
  have p2 : 0 < 2 ^ n := Nat.pow_pos (by decide)
  rcases h with ⟨h1, h2, h3, -⟩ | ⟨-, h2, h3, -⟩
  · exact ⟨by omega, by omega, by omega, by omega, by omega⟩
  · have := wtS_bd (S := D) hR hLR n (Nat.le_refl n)
    exact ⟨by omega, by omega, by omega, h2.1, h2.2⟩
theorem m_layBest {d : Nat} {k : mQ} {M : mM} {V : AV} {c K : Nat} {p : Nat → Nat} {hour : Nat} (hI : InvP V c p K M) (hLn : LnM (vG V) M (vn V)) (hh : hour < 6)
    (h : ∀ W L D M', Keep M M' → LnM (vG V) M' (vn V) → PlanR V hour W L D → M' 0 17 = nI (512 * L + D) → k (mI (zi W)) M') : wpD mB mNL (d + 3) zX8_layBest [mR 8 0 0, mI (nI hour)] M k := by
  obtain ⟨o1, o2, o3, o4, -⟩ := hI.ok
  refine sp_layBest o1 hI.hydM hLn (by omega) hI.bM o4 o3 hh (fun W L D M' hB f e => h W L D M' (lb_keep f) (hLn.of (f 0 9 ?_) (fun j => f 6 j ?_)) hB e)
  · unfold lbC goC; omega
  · unfold lbC goC; omega
def BestR (V : AV) (v1 v2 x : Int32) : Prop := (¬ ((0 ≤ v1.toInt ∧ v1.toInt ≤ 5) ∧ (0 ≤ v2.toInt ∧ v2.toInt ≤ 2)) ∧ x = -2) ∨
  (((0 ≤ v1.toInt ∧ v1.toInt ≤ 5) ∧ (0 ≤ v2.toInt ∧ v2.toInt ≤ 2)) ∧ ∃ W L D, PlanR V (tn v1) W L D ∧ x = if W = -6 then zi W else if v2.toInt = 0 then zi W else if v2.toInt = 1 then nI L else nI D)
theorem BestR.one {V : AV} {v1 v2 x y : Int32} (hV : VOK V) (h : BestR V v1 v2 x) (h' : BestR V v1 v2 y) : x = y := by
  rcases h with ⟨h1, h2⟩ | ⟨h1, W, L, D, h2, h3⟩ <;> rcases h' with ⟨g1, g2⟩ | ⟨g1, W', L', D', g2, g3⟩
  · rw [h2, g2]
  · exact absurd g1 h1
  · exact absurd h1 g1
  · obtain ⟨rfl, rfl, rfl⟩ := PlanR.one hV h2 g2
    rw [h3, g3]
theorem li2 : (2 : Int32).toInt = 2 := by decide
theorem lim1 : (-1 : Int32).toInt = -1 := by decide
theorem li5 : (5 : Int32).toInt = 5 := by decide
theorem cx_best {d : Nat} {k : mQ} {M : mM} {V : AV} {c K : Nat} {p : Nat → Nat} {v1 v2 : Int32} (hI : InvP V c p K M) (h : ∀ M' x, Keep M M' → BestR V v1 v2 x → k (mI x) M') : wpD mB mNL (d + vn V + 10) zX7_best [mR 7 0 14, mI v1, mI v2] M k := by
  obtain ⟨o1, o2, o3, o4, -⟩ := hI.ok
  have bad : ¬ ((0 ≤ v1.toInt ∧ v1.toInt ≤ 5) ∧ (0 ≤ v2.toInt ∧ v2.toInt ≤ 2)) → k (mI (-2)) M := fun e => h M (-2) (Keep.rfl' M) (Or.inl ⟨e, rfl⟩)
  refine v_X7_best_0 _ _ (sp_isNoHour (d := d + vn V + 8) (fun e => ⟨fun _ => bad (fun q => e q.1), fun c => absurd c (by decide)⟩) (fun e1 => ⟨fun c => absurd rfl c, fun _ => ?_⟩))
  simp only [lt_zi, le_zi, li0, li2]
  refine ⟨fun c => bad (by omega), fun c1 => ⟨fun c2 => ?_, fun c => bad (by omega)⟩⟩
  have hok : (0 ≤ v1.toInt ∧ v1.toInt ≤ 5) ∧ (0 ≤ v2.toInt ∧ v2.toInt ≤ 2) := ⟨e1, by omega, c2⟩
  have a1 : v1 = nI (tn v1) := tn_eq e1.1
  have b1 : tn v1 < 6 := tn_lt e1.1 (by omega)
  refine wpD_at (as' := [mR 7 0 14, mI (nI (tn v1))]) (by rw [← a1]) ?_
  refine sp_planAsItIs o1 hI.hydC hI.lnC hI.bC o2.2 o4 o3 b1 (fun M1 W L D f hB g1 g2 g3 g4 => ?_)
  show (_ ∧ _)
  rw [g1, show (-6 : Int32) = zi (-6) from rfl, zi_eq (by omega) (by omega) (by decide) (by decide)]
  refine ⟨fun c => h M1 _ f.keep (Or.inr ⟨hok, W, L, D, hB, by rw [if_pos c]⟩), fun c => ?_⟩
  obtain ⟨g5, g6, -⟩ := g4 c
  have q0 : v2 = 0 ↔ v2.toInt = 0 := lit (n := 0) (by decide)
  have q1 : v2 = 1 ↔ v2.toInt = 1 := lit (n := 1) (by decide)
  rw [q0, q1, g5, g6]
  refine ⟨fun c3 => ⟨fun c4 => ?_, fun c4 => ?_⟩, fun c3 => ?_⟩ <;> refine h M1 _ f.keep (Or.inr ⟨hok, W, L, D, hB, ?_⟩)
  · rw [if_neg c, if_neg c3, if_neg c4]
  · rw [if_neg c, if_neg c3, if_pos c4]
  · rw [if_neg c, if_pos c3]
theorem m_code {L D : Nat} (hL : L < 16) (hD : D < 512) : nI (512 * L + D) >>> ((9 : Int32) &&& 31) = nI L ∧ nI (512 * L + D) &&& 511 = nI D := by
  constructor
  · have := nI_shr (a := 512 * L + D) (n := 9) (by omega) (by decide)
    rw [show (9 : Int32) = nI 9 from rfl, this]
    congr 1
    omega
  · rw [show (511 : Int32) = nI 511 from rfl, nI_and]
    congr 1
    rw [show (511 : Nat) = 2 ^ 9 - 1 from rfl, Nat.and_two_pow_sub_one_eq_mod]
    omega
theorem cm_best {d : Nat} {k : mQ} {M : mM} {V : AV} {c K : Nat} {p : Nat → Nat} {v1 v2 : Int32} (hI : InvP V c p K M) (h : ∀ M' x, Keep M M' → BestR V v1 v2 x → k (mI x) M') : wpD mB mNL (d + 5) zX8_best [mR 8 0 0, mI v1, mI v2] M k := by
  obtain ⟨o1, o2, o3, o4, -⟩ := hI.ok
  have bad : ¬ ((0 ≤ v1.toInt ∧ v1.toInt ≤ 5) ∧ (0 ≤ v2.toInt ∧ v2.toInt ≤ 2)) → k (mI (-2)) M := fun e => h M (-2) (Keep.rfl' M) (Or.inl ⟨e, rfl⟩)
  refine v_X8_best_0 _ _ (sp_inC (fun e => ⟨fun _ => bad (fun q => e (by rw [li0, li5]; exact q.1)), fun c => absurd rfl c⟩) (fun e1 => ⟨fun c => absurd c (by decide), fun _ => ?_⟩))
  refine sp_inC (fun e => ⟨fun c => absurd rfl c, fun _ => bad (fun q => e (by rw [li0, li2]; exact q.2))⟩) (fun e2 => ⟨fun _ => ?_, fun c => absurd c (by decide)⟩)
  rw [li0, li5] at e1
  rw [li0, li2] at e2
  have hok : (0 ≤ v1.toInt ∧ v1.toInt ≤ 5) ∧ (0 ≤ v2.toInt ∧ v2.toInt ≤ 2) := ⟨e1, e2⟩
  have a1 : v1 = nI (tn v1) := tn_eq e1.1
  have b1 : tn v1 < 6 := tn_lt e1.1 (by omega)
  refine m_asLane hI (fun M1 f1 l1 => ?_)
  refine wpD_at (as' := [mR 8 0 0, mI (nI (tn v1))]) (by rw [← a1]) ?_
  refine m_layBest (hI.keep f1) l1 b1 (fun W L D M2 f2 l2 hB e17 => ?_)
  have f := f1.trans f2
  obtain ⟨w1, w2, w3, w4, w5⟩ := IsB.bd o1 o4 (by omega) hB
  have p1 : 2 ^ vb V ≤ 2 ^ 4 := Nat.pow_le_pow_right (by decide) o3
  have p2 : 2 ^ vn V ≤ 2 ^ 8 := Nat.pow_le_pow_right (by decide) o2.2
  obtain ⟨m1, m2⟩ := m_code (L := L) (D := D) (by omega) (by omega)
  have q0 : v2 = 0 ↔ v2.toInt = 0 := lit (n := 0) (by decide)
  have q1 : v2 = 1 ↔ v2.toInt = 1 := lit (n := 1) (by decide)
  show (_ ∧ _)
  rw [show (0 : Int32) = zi 0 from rfl, zi_lt (by omega) (by omega) (by decide) (by decide), w3, show zi 0 = (0 : Int32) from rfl, q0, q1, e17, m1, m2]
  refine ⟨fun c => h M2 _ f (Or.inr ⟨hok, W, L, D, hB, by rw [if_pos c]⟩), fun c => ?_⟩
  refine ⟨fun c3 => ⟨fun c4 => ?_, fun c4 => ?_⟩, fun c3 => ?_⟩ <;> refine h M2 _ f (Or.inr ⟨hok, W, L, D, hB, ?_⟩)
  · rw [if_neg c, if_neg c3, if_neg c4]
  · rw [if_neg c, if_neg c3, if_pos c4]
  · rw [if_neg c, if_pos c3]
def houseV (V : AV) (v1 v2 : Int32) : Int32 := if ¬ (0 ≤ v1.toInt ∧ v1.toInt < vn V) then -1 else if v2.toInt = 0 then nI (kdH (vG V) (tn v1)) else if v2.toInt = 1 then zi (loH (vG V) (tn v1)) else if v2.toInt = 2 then zi (brH (vG V) (tn v1)) else -2
theorem cx_house {d : Nat} {k : mQ} {M : mM} {V : AV} {c K : Nat} {p : Nat → Nat} {v1 v2 : Int32} (hI : InvP V c p K M) (h : k (mI (houseV V v1 v2)) M) : wpD mB mNL (d + 4) zX7_house [mR 7 0 14, mI v1, mI v2] M k := by
  obtain ⟨o1, o2, o3, o4, -⟩ := hI.ok
  unfold houseV at h
  refine v_X7_house_0 _ _ (sp_isNoHouse hI.lnC.1 (by omega) (fun e => ⟨fun c => absurd c (by decide), fun _ => ?_⟩) (fun e => ⟨fun _ => ?_, fun c => absurd rfl c⟩))
  · rw [if_pos e] at h; exact h
  · rw [if_neg (fun q => q e)] at h
    have a1 : v1 = nI (tn v1) := tn_eq e.1
    have b1 : tn v1 < vn V := tn_lt e.1 e.2
    obtain ⟨l1, l2, l3⟩ := hI.lnC.2 (tn v1) b1
    refine ⟨fun c => ?_, fun c => ?_, fun c => ?_, fun c => ?_, trivial⟩
    · rw [if_neg (by omega), if_neg (by omega), if_neg (by omega)] at h; exact h
    · rw [if_pos c, ← l1] at h
      exact wpD_at (as' := [mR 2 0 38, mI (nI (tn v1))]) (by rw [← a1]) (sp_kindOf (by omega) h)
    · rw [if_neg (by omega), if_pos c, ← l2] at h
      exact wpD_at (as' := [mR 2 0 38, mI (nI (tn v1))]) (by rw [← a1]) (sp_lossAheadOf (by omega) h)
    · rw [if_neg (by omega), if_neg (by omega), if_pos c, ← l3] at h
      exact wpD_at (as' := [mR 2 0 38, mI (nI (tn v1))]) (by rw [← a1]) (sp_brookAheadOf (by omega) h)
theorem nI_pre1 {n : Nat} (h : 1 ≤ n) (h2 : n < 2147483648) : (nI n - 1).toInt = (n : Int) - 1 := by
  rw [nI_zi, show (1 : Int32) = zi 1 from rfl, zi_sub, zi_toInt (by omega) (by omega)]
theorem cm_house {d : Nat} {k : mQ} {M : mM} {V : AV} {c K : Nat} {p : Nat → Nat} {v1 v2 : Int32} (hI : InvP V c p K M) (h : k (mI (houseV V v1 v2)) M) : wpD mB mNL (d + 2) zX8_house [mR 8 0 0, mI v1, mI v2] M k := by
  obtain ⟨o1, o2, o3, o4, -⟩ := hI.ok
  unfold houseV at h
  refine v_X8_house_0 _ _ ?_
  rw [hI.lnP.1]
  refine sp_inC (fun e => ⟨fun c => absurd rfl c, fun _ => ?_⟩) (fun e => ⟨fun _ => ?_, fun c => absurd c (by decide)⟩) <;> rw [li0, nI_pre1 o2.1 (by omega)] at e
  · rw [if_pos (by omega)] at h; exact h
  · rw [if_neg (by omega)] at h
    have a1 : v1 = nI (tn v1) := tn_eq e.1
    have b1 : tn v1 < vn V := tn_lt e.1 (by omega)
    obtain ⟨l1, l2, l3⟩ := hI.lnP.2 (tn v1) b1
    refine sp_inC (fun e2 => ⟨fun _ => ?_, fun c => absurd rfl c⟩) (fun e2 => ⟨fun c => absurd c (by decide), fun _ => ?_⟩) <;> rw [li0, li2] at e2
    · rw [if_neg (by omega), if_neg (by omega), if_neg (by omega)] at h; exact h
    · have a2 : v2 = nI (tn v2) := tn_eq e2.1
      have b2 : tn v2 < 3 := tn_lt e2.1 (by omega)
      have e3 : (3 : Int32) * v1 + v2 = nI (3 * tn v1 + tn v2) := by
        rw [show (3 : Int32) = nI 3 from rfl]
        conv => lhs; rw [a1, a2]
        rw [pk_mul, nI_add]
      refine ⟨vpn _ e3 (by omega) (by decide), ?_⟩
      rw [cln _ e3 (by omega)]
      have t2 : (tn v2 : Int) = v2.toInt := by unfold tn; omega
      rcases (by omega : tn v2 = 0 ∨ tn v2 = 1 ∨ tn v2 = 2) with e4 | e4 | e4 <;> rw [e4]
      · rw [if_pos (by omega), ← l1] at h; exact h
      · rw [if_neg (by omega), if_pos (by omega), ← l2] at h; exact h
      · rw [if_neg (by omega), if_neg (by omega), if_pos (by omega), ← l3] at h; exact h
def toldV (V : AV) (c : Nat) (v : Int32) : Int32 := if 10 ≤ v.toInt ∧ v.toInt ≤ 14 then zi (gS (vG V) (tn v - 10)) else
  if 20 ≤ v.toInt ∧ v.toInt ≤ 69 ∧ tn v % 10 < 6 then zi (gK (vG V) (6 * (tn v / 10 - 2) + tn v % 10)) else
  if v.toInt = 0 then nI c else if v.toInt = 1 then nI (vn V) else if v.toInt = 2 then nI (vb V) else if v.toInt = 3 then nI (vf V) else -2
theorem dg {m : Nat} (h : m < 70) : nI m - nI m / 10 * 10 = nI (m % 10) ∧ nI m / 10 = nI (m / 10) := by
  have : ∀ m, m < 70 → nI m - nI m / 10 * 10 = nI (m % 10) ∧ nI m / 10 = nI (m / 10) := by decide
  exact this m h
theorem dg2 {m : Nat} (h : m < 8) (h2 : 2 ≤ m) : nI m - 2 = nI (m - 2) := by
  have : ∀ m, m < 8 → 2 ≤ m → nI m - 2 = nI (m - 2) := by decide
  exact this m h h2
theorem cx_told {d : Nat} {k : mQ} {M : mM} {V : AV} {c K : Nat} {p : Nat → Nat} {v1 : Int32} (hI : InvP V c p K M) (h : k (mI (toldV V c v1)) M) : wpD mB mNL (d + 4) zX7_told [mR 7 0 14, mI v1] M k := by
  obtain ⟨o1, o2, o3, o4, -⟩ := hI.ok
  obtain ⟨h1, ⟨-, -, -, h42, -⟩, h3, ⟨h4, h5, h6, h7⟩, -⟩ := id hI
  have l10 : (10 : Int32).toInt = 10 := by decide
  have l14 : (14 : Int32).toInt = 14 := by decide
  have l20 : (20 : Int32).toInt = 20 := by decide
  have l69 : (69 : Int32).toInt = 69 := by decide
  unfold toldV at h
  have four : ¬ (10 ≤ v1.toInt ∧ v1.toInt ≤ 14) → ¬ (20 ≤ v1.toInt ∧ v1.toInt ≤ 69 ∧ tn v1 % 10 < 6) → ∀ u, jJ kB_X7_told (d + 3) k 4 [mR 7 0 14, mI v1, u] [] M := fun c1 c2 u => by
    rw [if_neg c1, if_neg c2] at h
    refine v_X7_told_4 _ _ ⟨fun c => ?_, fun c => ?_, fun c => ?_, fun c => ?_, fun c => ?_, trivial⟩
    · rw [if_neg (by omega), if_neg (by omega), if_neg (by omega), if_neg (by omega)] at h; exact h
    · rw [if_pos c] at h; rw [h5]; exact h
    · rw [if_neg (by omega), if_pos c] at h; rw [hI.lnC.1]; exact h
    · rw [if_neg (by omega), if_neg (by omega), if_pos c] at h; rw [hI.bC]; exact h
    · rw [if_neg (by omega), if_neg (by omega), if_neg (by omega), if_pos c] at h
      rw [show M 42 0 = nI (vf V) from h42]; exact h
  have one : ¬ (10 ≤ v1.toInt ∧ v1.toInt ≤ 14) → ∀ u, jJ kB_X7_told (d + 3) k 1 [mR 7 0 14, mI v1, u] [] M := fun c1 u => by
    refine v_X7_told_1 _ _ ?_
    simp only [lt_zi, l20, l69]
    refine ⟨fun c => four c1 (by omega) _, fun c2 => ⟨fun c => four c1 (by omega) _, fun c3 => ⟨by decide, ?_⟩⟩⟩
    have a1 : v1 = nI (tn v1) := tn_eq (by omega)
    have b1 : tn v1 < 70 := tn_lt (by omega) (by omega)
    have b2 : 20 ≤ tn v1 := by unfold tn; omega
    obtain ⟨g1, g2⟩ := dg b1
    rw [← a1] at g1 g2
    have g3 : tn v1 % 10 < 10 := Nat.mod_lt _ (by decide)
    have g4 : (v1 - v1 / 10 * 10).toInt = (tn v1 % 10 : Nat) := by rw [g1, nI_ti (by omega)]
    rw [if_neg c1] at h
    refine sp_isNoKind (fun e => ⟨fun c => absurd c (by decide), fun _ => ?_⟩) (fun e => ⟨fun _ => ⟨by decide, ?_⟩, fun c => absurd rfl c⟩) <;> rw [g4] at e
    · rw [if_neg (by omega), if_neg (by omega), if_neg (by omega), if_neg (by omega), if_neg (by omega)] at h; exact h
    · rw [if_pos ⟨by omega, by omega, by omega⟩] at h
      refine wpD_at (as' := [mR 6 0 35, mI (nI (tn v1 / 10 - 2)), mI (nI (tn v1 % 10))]) (by rw [g1, g2, dg2 (by omega) (by omega)]) ?_
      exact sp_kindZ (o := 35) hI.hydC (by omega) (by omega) h
  refine v_X7_told_0 _ ?_
  simp only [lt_zi, l10, l14]
  refine ⟨fun c => one (by omega) _, fun c1 => ⟨fun c => one (by omega) _, fun c2 => ?_⟩⟩
  have a1 : v1 = nI (tn v1) := tn_eq (by omega)
  have b1 : tn v1 < 15 := tn_lt (by omega) (by omega)
  have b2 : 10 ≤ tn v1 := by unfold tn; omega
  rw [if_pos (by omega)] at h
  have : ∀ m, m < 15 → 10 ≤ m → nI m - 10 = nI (m - 10) := by decide
  refine wpD_at (as' := [mR 6 0 35, mI (nI (tn v1 - 10))]) (by rw [← this _ b1 b2, ← a1]) ?_
  exact sp_springZ (o := 35) hI.hydC (by omega) h
theorem cm_told {d : Nat} {k : mQ} {M : mM} {V : AV} {c K : Nat} {p : Nat → Nat} {v1 : Int32} (hI : InvP V c p K M) (h : k (mI (toldV V c v1)) M) : wpD mB mNL (d + 2) zX8_told [mR 8 0 0, mI v1] M k := by
  obtain ⟨o1, o2, o3, o4, -⟩ := hI.ok
  obtain ⟨h1, -, ⟨-, -, -, -, -, h07, -⟩, ⟨h4, h5, h6, h7⟩, -⟩ := id hI
  have l10 : (10 : Int32).toInt = 10 := by decide
  have l14 : (14 : Int32).toInt = 14 := by decide
  have l20 : (20 : Int32).toInt = 20 := by decide
  have l69 : (69 : Int32).toInt = 69 := by decide
  unfold toldV at h
  have two : ¬ (10 ≤ v1.toInt ∧ v1.toInt ≤ 14) → ¬ (20 ≤ v1.toInt ∧ v1.toInt ≤ 69 ∧ tn v1 % 10 < 6) → ∀ u, jJ kB_X8_told (d + 1) k 2 [mR 8 0 0, mI v1, mI u] [] M := fun c1 c2 u => by
    rw [if_neg c1, if_neg c2] at h
    have q0 : v1 = 0 ↔ v1.toInt = 0 := lit (n := 0) (by decide)
    have q1 : v1 = 1 ↔ v1.toInt = 1 := lit (n := 1) (by decide)
    have q2 : v1 = 2 ↔ v1.toInt = 2 := lit (n := 2) (by decide)
    have q3 : v1 = 3 ↔ v1.toInt = 3 := lit (n := 3) (by decide)
    refine v_X8_told_2 _ _ ?_
    rw [q0, q1, q2, q3, h6, hI.lnP.1, hI.bM, h07]
    refine ⟨fun e0 => ⟨fun e1 => ⟨fun e2 => ⟨fun e3 => ?_, fun e3 => ?_⟩, fun e2 => ?_⟩, fun e1 => ?_⟩, fun e0 => ?_⟩
    · rw [if_neg e0, if_neg e1, if_neg e2, if_neg e3] at h; exact h
    · rw [if_neg e0, if_neg e1, if_neg e2, if_pos e3] at h; exact h
    · rw [if_neg e0, if_neg e1, if_pos e2] at h; exact h
    · rw [if_neg e0, if_pos e1] at h; exact h
    · rw [if_pos e0] at h; exact h
  refine v_X8_told_0 _ ⟨by decide, sp_inC (fun e1 => ⟨fun _ => ?_, fun c => absurd rfl c⟩) (fun e1 => ⟨fun c => absurd c (by decide), fun _ => ?_⟩)⟩ <;> rw [l10, l14] at e1
  · refine sp_inC (fun e2 => ⟨fun _ => ?_, fun c => absurd rfl c⟩) (fun e2 => ⟨fun c => absurd c (by decide), fun _ => ?_⟩) <;> rw [l20, l69] at e2
    · exact two e1 (by omega) _
    · have a1 : v1 = nI (tn v1) := tn_eq (by omega)
      have b1 : tn v1 < 70 := tn_lt (by omega) (by omega)
      have b2 : 20 ≤ tn v1 := by unfold tn; omega
      obtain ⟨g1, g2⟩ := dg b1
      rw [← a1] at g1 g2
      have g3 : tn v1 % 10 < 10 := Nat.mod_lt _ (by decide)
      have g4 : (v1 - v1 / 10 * 10).toInt = (tn v1 % 10 : Nat) := by rw [g1, nI_ti (by omega)]
      refine sp_inC (fun e3 => ⟨fun _ => ?_, fun c => absurd rfl c⟩) (fun e3 => ⟨fun c => absurd c (by decide), fun _ => ⟨by decide, ?_⟩⟩) <;> rw [g4, li0, li5] at e3
      · exact two e1 (by omega) _
      · have e6 : (6 : Int32) * (v1 / 10 - 2) + (v1 - v1 / 10 * 10) = nI (6 * (tn v1 / 10 - 2) + tn v1 % 10) := by
          rw [g1, g2, dg2 (by omega) (by omega), show (6 : Int32) = nI 6 from rfl, pk_mul, nI_add]
        refine ⟨vpn _ e6 (by omega) (by decide), ?_⟩
        rw [cln _ e6 (by omega), hI.hydM.2 _ (by omega)]
        rw [if_neg e1, if_pos ⟨by omega, by omega, by omega⟩] at h
        exact h
  · have a1 : v1 = nI (tn v1) := tn_eq (by omega)
    have b1 : tn v1 < 15 := tn_lt (by omega) (by omega)
    have b2 : 10 ≤ tn v1 := by unfold tn; omega
    obtain ⟨g1, g2⟩ := dg (m := tn v1) (by omega)
    rw [← a1] at g1
    refine ⟨vpn _ g1 (by omega) (by decide), ?_⟩
    rw [cln _ g1 (by omega), hI.hydM.1 _ (by omega)]
    rw [if_pos e1, show tn v1 - 10 = tn v1 % 10 by omega] at h
    exact h
