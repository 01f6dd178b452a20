/-! CALLS: fits -/
theorem zi_div {Q F : Int} (h0 : 0 ≤ Q) (h1 : Q < 2147483648) (h2 : 1 ≤ F) (h3 : F < 2147483648) : zi Q / zi F = zi (Q / F) := by
  have e : 0 ≤ Q / F := Int.ediv_nonneg h0 (by omega)
  have e2 : Q / F ≤ Q := Int.ediv_le_self F h0
  rw [eq_zi, Int32.toInt_div, zi_toInt (by omega) h1, zi_toInt (by omega) h3, zi_toInt (by omega) (by omega), Int.tdiv_eq_ediv_of_nonneg h0]
  exact Int.bmod_eq_of_le (by omega) (by omega)
/-- what is felt at house h -/
def tnF (V : AV) (hour L D h : Nat) : Int := arQ (vG V) L D hour (gS (vG V) 1) h / arF (vG V) L D hour (gS (vG V) 1) h
theorem ar_ok {V : AV} {hour L D h : Nat} (hV : VOK V) (hh : h < vn V) : (1 ≤ arF (vG V) L D hour (gS (vG V) 1) h ∧ arF (vG V) L D hour (gS (vG V) 1) h ≤ 400) ∧ (0 ≤ arQ (vG V) L D hour (gS (vG V) 1) h ∧ arQ (vG V) L D hour (gS (vG V) 1) h ≤ 200000) ∧ 0 ≤ tnF V hour L D h ∧ tnF V hour L D h ≤ 200000 := by
  obtain ⟨o1, o2, o3, o4, -⟩ := hV
  have a := ars_bd (L := L) (D := D) (hour := hour) o1 o1.2.1 o4 hh
  obtain ⟨a1, a2, a3, a4⟩ := a
  have e : 0 ≤ tnF V hour L D h := Int.ediv_nonneg a3 (by omega)
  have e2 : tnF V hour L D h ≤ arQ (vG V) L D hour (gS (vG V) 1) h := Int.ediv_le_self _ a3
  exact ⟨⟨a1, by omega⟩, ⟨a3, by omega⟩, e, by omega⟩
theorem sp_tenthsAt {d : Nat} {k : mQ} {M M0 : mM} {V : AV} {hour L D h : Nat} (hV : VOK V) (hh : h < vn V) (hE : FEnd (vG V) L D hour (gS (vG V) 1) (vn V) M0 M) (hk : k (mI (zi (tnF V hour L D h))) M) : wpD mB mNL (d + 3) zX0_tenthsAt [mR 0 0 23, mI (nI h)] M k := by
  obtain ⟨⟨a1, a2⟩, ⟨a3, a4⟩, -⟩ := ar_ok (L := L) (D := D) (hour := hour) hV hh
  have h8 := hV.2.1
  obtain ⟨g1, g2⟩ := hE.1.2.2.2.2.2 h hh
  refine v_X0_tenthsAt_0 _ (sp_litresAt (by omega) ?_)
  show (_ ∧ _)
  rw [g1, show (0 : Int32) = zi 0 from rfl, zi_le (by omega) (by omega) (by decide) (by decide)]
  refine ⟨fun c => by omega, fun _ => sp_heatAt (by omega) ⟨?_, ?_⟩⟩
  · rw [zi_eq (by omega) (by omega) (by decide) (by decide)]; omega
  · rw [g2, zi_div a3 (by omega) a1 (by omega)]
    exact hk
/-- all that was felt, from i on, is as it was felt -/
def fitG (V : AV) (hour L D : Nat) : Nat → Nat → Bool
  | 0, _ => true
  | m + 1, i => decide (fA V i ≤ tnF V hour L D (fH V i) ∧ tnF V hour L D (fH V i) ≤ fB V i) && fitG V hour L D m (i + 1)
def fitB (V : AV) (hour L D : Nat) : Bool := fitG V hour L D (vf V) 0
theorem sp_fitsTo {d : Nat} {k : mQ} {M M0 : mM} {V : AV} {hour L D : Nat} (hV : VOK V) (hC : VC V M 35) (hE : FEnd (vG V) L D hour (gS (vG V) 1) (vn V) M0 M) (hk : k (mI (bI (fitB V hour L D))) M) : wpD mB mNL (d + 4) zX1_fitsTo [mR 1 0 42, mR 0 0 23] M k := by
  obtain ⟨-, -, -, c4, c5⟩ := hC
  obtain ⟨-, o2, -, -, o5, o6⟩ := id hV
  have key : ∀ m i u, i + m = vf V → fitG V hour L D m i = fitB V hour L D → jJ kB_X1_fitsTo (d + 3) k 1 [mR 1 0 42, mR 0 0 23, mI (nI i), u] [] M := by
    intro m
    induction m with
    | zero =>
      intro i u hi e
      refine v_X1_fitsTo_1 _ _ _ ?_
      rw [show M 42 0 = nI (vf V) from c4]
      refine ifle (by omega) (by omega) (fun _ => ?_) (fun c => by omega)
      rw [← e] at hk
      exact hk
    | succ m ih =>
      intro i u hi e
      obtain ⟨f1, f2, f3, f4⟩ := o6 i (by omega)
      obtain ⟨m1, m2, m3⟩ := c5 i (by omega)
      obtain ⟨-, -, t1, t2⟩ := ar_ok (L := L) (D := D) (hour := hour) hV f1
      rw [fitG] at e
      refine v_X1_fitsTo_1 _ _ _ ?_
      rw [show M 42 0 = nI (vf V) from c4]
      refine ifle (by omega) (by omega) (fun c => by omega) (fun _ => sp_cell (by omega) (by decide) ?_)
      refine wpD_at (as' := [mR 0 0 23, mI (nI (fH V i))]) (by rw [← m1]) (sp_tenthsAt hV f1 hE (sp_cell (by omega) (by decide) ?_))
      have no : ¬ (fA V i ≤ tnF V hour L D (fH V i) ∧ tnF V hour L D (fH V i) ≤ fB V i) → k (mI 0) M := fun q => by
        rw [decide_eq_false q] at e
        rw [← e] at hk
        exact hk
      show (_ ∧ _)
      rw [show M (42 + 2) i = zi (fA V i) from m2, zi_lt (by omega) (by omega) (by omega) (by omega)]
      refine ⟨fun c => no (by omega), fun c => sp_cell (by omega) (by decide) ?_⟩
      show (_ ∧ _)
      rw [show M (42 + 3) i = zi (fB V i) from m3, zi_le (by omega) (by omega) (by omega) (by omega), nI_1]
      refine ⟨fun c2 => ih (i + 1) _ (by omega) ?_, fun c2 => no (by omega)⟩
      rw [decide_eq_true ⟨by omega, c2⟩] at e
      exact e
  exact v_X1_fitsTo_0 _ (key (vf V) 0 none (by omega) rfl)
theorem sp_isFelt {d : Nat} {k : mQ} {M : mM} {V : AV} {c K : Nat} {p : Nat → Nat} {hour L D : Nat} (hI : InvP V c p K M) (hLn : LnM (vG V) M (vn V)) (hh : hour < 6) (hL : L < 2 ^ vb V) (hD : D < 512)
    (hk : ∀ M', Keep M M' → LnM (vG V) M' (vn V) → GEnd (vG V) L D hour (gS (vG V) 1) (vn V) M M' → k (mI (bI (fitB V hour L D))) M') : wpD mB mNL (d + 3) zX8_isFelt [mR 8 0 0, mI (nI hour), mI (nI L), mI (nI D)] M k := by
  have hV := hI.ok
  obtain ⟨o1, o2, -, -, o5, o6⟩ := id hV
  refine v_X8_isFelt_0 _ _ _ ⟨vpn 1 rfl (by decide) (by decide), ?_⟩
  rw [cl1, hI.hydM.1 1 (by decide)]
  refine m_go hI hLn o1.2.1 hh hL hD (fun M1 f1 e1 => ?_)
  have l1 : LnM (vG V) M1 (vn V) := hLn.of (e1.1.1 0 9 (ngo0 (by omega))) (fun j => e1.1.1 6 j (ngo (by decide) (by decide) (by decide)))
  have hk := hk M1 f1 l1 e1
  obtain ⟨-, -, ⟨-, -, -, -, -, v6, v7⟩, -⟩ := hI.keep f1
  have E3 : ∀ m, (3 : Int32) * nI m = nI (3 * m) := fun m => by rw [show (3 : Int32) = nI 3 from rfl, pk_mul]
  have key : ∀ m i a u, i + m = vf V → (a && fitG V hour L D m i) = fitB V hour L D → jJ kB_X8_isFelt (d + 2) k 1 [mR 8 0 0, mI (nI hour), mI (nI L), mI (nI D), mI (bI a), mI (nI i), u] [] M1 := by
    intro m
    induction m with
    | zero =>
      intro i a u hi e
      refine v_X8_isFelt_1 _ _ _ _ _ _ ?_
      rw [v6]
      refine ifle (by omega) (by omega) (fun _ => ⟨bI_01 a, ?_⟩) (fun c => by omega)
      rw [fitG, Bool.and_true] at e
      rw [← e] at hk
      exact hk
    | succ m ih =>
      intro i a u hi e
      obtain ⟨f1, f2, f3, f4⟩ := o6 i (by omega)
      obtain ⟨m1, m2, m3⟩ := v7 i (by omega)
      obtain ⟨⟨a1, a2⟩, ⟨a3, a4⟩, t1, t2⟩ := ar_ok (L := L) (D := D) (hour := hour) hV f1
      obtain ⟨g1, g2⟩ := e1.1.2.2.2.2.2 _ f1
      rw [fitG] at e
      have e31 : (3 : Int32) * nI i + 1 = nI (3 * i + 1) := by rw [E3, nI_1]
      have e32 : (3 : Int32) * nI i + 2 = nI (3 * i + 2) := by rw [E3, show (2 : Int32) = nI 2 from rfl, nI_add]
      refine v_X8_isFelt_1 _ _ _ _ _ _ ?_
      rw [v6, e31, e32, E3, nI_clamp (by omega), nI_clamp (by omega), nI_clamp (by omega), m1, m2, m3, nI_clamp (by omega), g1, g2, zi_div a3 (by omega) a1 (by omega), nI_1]
      refine ifle (by omega) (by omega) (fun c => by omega) (fun _ => ⟨vp_in_nI (by omega) (by decide), ifb (fun ea => ?_) (fun ea => ⟨vp_in_nI (by omega) (by decide), vp_in_nI (by omega) (by decide), ?_, vp_in_nI (by omega) (by decide), vp_in_nI (by omega) (by decide), ?_⟩)⟩)
      · rw [ea, Bool.false_and] at e
        exact ih (i + 1) false _ (by omega) (by rw [Bool.false_and]; exact e)
      · rw [show (0 : Int32) = zi 0 from rfl, zi_eq (by omega) (by omega) (by decide) (by decide)]; omega
      · rw [ea, Bool.true_and] at e
        have r1 : (zi (fA V i)).toInt = fA V i := zi_toInt (by omega) (by omega)
        have r2 : (zi (fB V i)).toInt = fB V i := zi_toInt (by omega) (by omega)
        have r3 : (zi (tnF V hour L D (fH V i))).toInt = tnF V hour L D (fH V i) := zi_toInt (by omega) (by omega)
        refine sp_inC (fun q => ⟨fun _ => ?_, fun c => absurd rfl c⟩) (fun q => ⟨fun c => absurd c (by decide), fun _ => ?_⟩) <;> rw [r1, r2] at q
        · exact ih (i + 1) false _ (by omega) (by rw [Bool.false_and, ← e, decide_eq_false (by rw [← r3]; exact q), Bool.false_and])
        · exact ih (i + 1) true _ (by omega) (by rw [Bool.true_and, ← e, decide_eq_true (by rw [← r3]; exact q), Bool.true_and])
  exact key (vf V) 0 true none (by omega) (Bool.true_and _)
/-- the sets of brooks below L that fit -/
def fsU (V : AV) (hour D L : Nat) : List Nat := (List.range L).filter (fun l => fitB V hour l D)
theorem fsU_t {V : AV} {hour D L : Nat} (h : fitB V hour L D = true) : fsU V hour D (L + 1) = fsU V hour D L ++ [L] := by
  unfold fsU
  rw [List.range_succ, List.filter_append]
  simp [h]
theorem fsU_f {V : AV} {hour D L : Nat} (h : fitB V hour L D = false) : fsU V hour D (L + 1) = fsU V hour D L := by
  unfold fsU
  rw [List.range_succ, List.filter_append]
  simp [h]
theorem fsU_len {V : AV} {hour D : Nat} (L : Nat) : (fsU V hour D L).length ≤ L := by
  unfold fsU
  exact Nat.le_trans (List.length_filter_le _ _) (by rw [List.length_range]; exact Nat.le_refl L)
theorem fsU_pre {V : AV} {hour D L : Nat} : ∀ m, ∃ t, fsU V hour D (L + m) = fsU V hour D L ++ t
  | 0 => ⟨[], by simp⟩
  | m + 1 => by
    obtain ⟨t, ht⟩ := fsU_pre (V := V) (hour := hour) (D := D) (L := L) m
    cases e : fitB V hour (L + m) D
    · exact ⟨t, by rw [← Nat.add_assoc, fsU_f e, ht]⟩
    · exact ⟨t ++ [L + m], by rw [← Nat.add_assoc, fsU_t e, ht, List.append_assoc]⟩
theorem fsU_mem {V : AV} {hour D L x : Nat} (h : x ∈ fsU V hour D L) : x < L ∧ fitB V hour x D = true := by
  unfold fsU at h
  rw [List.mem_filter, List.mem_range] at h
  exact h
theorem gd_lo {x t : List Nat} {j : Nat} (h : j < x.length) : (x ++ t).getD j 0 = x.getD j 0 := by
  simp only [List.getD_eq_getElem?_getD, List.getElem?_append_left h]
theorem gd_hi {x t : List Nat} {a : Nat} : (x ++ a :: t).getD x.length 0 = a := by
  simp [List.getD_eq_getElem?_getD]
theorem fsU_at {V : AV} {hour D L N : Nat} (hL : L < N) (h : fitB V hour L D = true) : (fsU V hour D N).getD (fsU V hour D L).length 0 = L ∧ (fsU V hour D L).length < (fsU V hour D N).length := by
  obtain ⟨t, ht⟩ := fsU_pre (V := V) (hour := hour) (D := D) (L := L + 1) (N - (L + 1))
  rw [show L + 1 + (N - (L + 1)) = N by omega, fsU_t h] at ht
  rw [ht]
  constructor
  · rw [List.append_assoc]
    exact gd_hi
  · simp
/-- what gathering leaves: sets that fit, what each would feel like -/
def GaR (V : AV) (hour D : Nat) (fs : List Nat) (M : mM) : Prop := (∀ j, j < fs.length → M 68 j = nI (fs.getD j 0)) ∧ ∀ j h, j < fs.length → h < vn V → M 69 (8 * j + h) = zi (tnF V hour (fs.getD j 0) D h)
set_option maxHeartbeats 1000000 in
theorem sp_gather {d : Nat} {k : mQ} {M : mM} {V : AV} {c K : Nat} {p : Nat → Nat} {hour D : Nat} (hI : InvP V c p K M) (hh : hour < 6) (hD : D < 512)
    (hk : ∀ M', Keep M M' → GaR V hour D (fsU V hour D (2 ^ vb V)) M' → k (mI (nI (fsU V hour D (2 ^ vb V)).length)) M') : wpD mB mNL (d + 6) zX7_gatherFitting [mR 7 0 14, mI (nI hour), mI (nI D)] M k := by
  have hV := hI.ok
  obtain ⟨o1, o2, o3, o4, o5, o6⟩ := id hV
  have p1 : 2 ^ vb V ≤ 2 ^ 4 := Nat.pow_le_pow_right (by decide) o3
  have key : ∀ m L M1 u, L + m = 2 ^ vb V → Keep M M1 → GaR V hour D (fsU V hour D L) M1 → jJ kB_X7_gatherFitting (d + 5) k 1 [mR 7 0 14, mI (nI hour), mI (nI D), mI (nI (fsU V hour D L).length), mI (nI L), u] [] M1 := by
    intro m
    induction m with
    | zero =>
      intro L M1 u hi f g
      have hI1 := hI.keep f
      have : L = 2 ^ vb V := by omega
      subst this
      refine v_X7_gatherFitting_1 _ _ _ _ _ (sp_brookSets (d := d + 4) hI1.bC (by omega) (ifle (by omega) (by omega) (fun _ => hk M1 f g) (fun q => by omega)))
    | succ m ih =>
      intro L M1 u hi f g
      have hI1 := hI.keep f
      have hlen := fsU_len (V := V) (hour := hour) (D := D) L
      refine v_X7_gatherFitting_1 _ _ _ _ _ (sp_brookSets (d := d + 4) hI1.bC (by omega) (ifle (by omega) (by omega) (fun q => by omega) (fun _ => sp_springZ (d := d + 3) (o := 35) (i := 1) hI1.hydC (by decide) ?_)))
      refine c_follow hI1 o1.2.1 hh (by omega) hD (fun M2 f2 e2 => ?_)
      have hI2 := hI1.keep f2
      have g2 : GaR V hour D (fsU V hour D L) M2 := ⟨fun j hj => by rw [e2.1.1 68 j (by decide)]; exact g.1 j hj, fun j h hj hh => by rw [e2.1.1 69 _ (by decide)]; exact g.2 j h hj hh⟩
      refine sp_fitsTo (d := d + 1) hV hI2.2.1 e2 (ifb (fun ef => ?_) (fun ef => sp_setCell (by omega) (by decide) ?_))
      · rw [nI_1]
        have := ih (L + 1) M2 u (by omega) (f.trans f2) (by rw [fsU_f ef]; exact g2)
        rw [fsU_f ef] at this
        exact this
      · have hg : ∀ j, j < (fsU V hour D L).length → (fsU V hour D L ++ [L]).getD j 0 = (fsU V hour D L).getD j 0 := fun j hj => gd_lo hj
        have hg2 : (fsU V hour D L ++ [L]).getD (fsU V hour D L).length 0 = L := gd_hi
        have inner : ∀ r h M3, h + r = vn V → (∀ k j, k ≠ 68 → k ≠ 69 → M3 k j = M2 k j) → (∀ j, j < (fsU V hour D L).length + 1 → M3 68 j = nI ((fsU V hour D L ++ [L]).getD j 0)) → (∀ j q, (j < (fsU V hour D L).length ∧ q < vn V) ∨ (j = (fsU V hour D L).length ∧ q < h) → M3 69 (8 * j + q) = zi (tnF V hour ((fsU V hour D L ++ [L]).getD j 0) D q)) →
            jJ kB_X7_gatherFitting (d + 5) k 2 [mR 7 0 14, mI (nI hour), mI (nI D), mI (nI (fsU V hour D L).length), mI (nI L), mI (nI h)] [] M3 := by
          intro r
          induction r with
          | zero =>
            intro h M3 hi2 f3 r1 r2
            have f4 : Keep M2 M3 := fun k j q => f3 k j (fun x => q (by unfold scr; omega)) (fun x => q (by unfold scr; omega))
            have hI3 := hI2.keep f4
            refine v_X7_gatherFitting_2 _ _ _ _ _ ?_
            rw [hI3.lnC.1]
            refine ifle (by omega) (by omega) (fun _ => ?_) (fun q => by omega)
            have len : (fsU V hour D L ++ [L]).length = (fsU V hour D L).length + 1 := by simp
            have := ih (L + 1) M3 (mI (nI h)) (by omega) ((f.trans f2).trans f4) (by
              rw [fsU_t ef]
              exact ⟨fun j hj => r1 j (by omega), fun j q hj hq => r2 j q (by omega)⟩)
            rw [fsU_t ef, len] at this
            rw [nI_1, nI_1]
            exact this
          | succ r ih2 =>
            intro h M3 hi2 f3 r1 r2
            have f4 : Keep M2 M3 := fun k j q => f3 k j (fun x => q (by unfold scr; omega)) (fun x => q (by unfold scr; omega))
            have hI3 := hI2.keep f4
            have e3 : FEnd (vG V) L D hour (gS (vG V) 1) (vn V) M3 M3 := by
              obtain ⟨⟨-, x2, x3, x4, x5, x6⟩, x7, x8, x9⟩ := e2
              have w : ∀ k j, 23 ≤ k → k ≤ 25 → M3 k j = M2 k j := fun k j a b => f3 k j (by omega) (by omega)
              exact ⟨⟨fun _ _ _ => rfl, by rw [w _ _ (by decide) (by decide)]; exact x2, by rw [w _ _ (by decide) (by decide)]; exact x3, by rw [w _ _ (by decide) (by decide)]; exact x4, by rw [w _ _ (by decide) (by decide)]; exact x5, fun i hi => ⟨by rw [w _ _ (by decide) (by decide)]; exact (x6 i hi).1, by rw [w _ _ (by decide) (by decide)]; exact (x6 i hi).2⟩⟩, by rw [w _ _ (by decide) (by decide)]; exact x7, by rw [w _ _ (by decide) (by decide)]; exact x8, by rw [w _ _ (by decide) (by decide)]; exact x9⟩
            refine v_X7_gatherFitting_2 _ _ _ _ _ ?_
            rw [hI3.lnC.1]
            refine ifle (by omega) (by omega) (fun q => by omega) (fun _ => sp_tenthsAt (d := d + 2) hV (by omega) e3 ?_)
            have e8 : nI (fsU V hour D L).length * 8 + nI h = nI (8 * (fsU V hour D L).length + h) := by
              rw [show (8 : Int32) = nI 8 from rfl, pk_mul, nI_add, Nat.mul_comm]
            rw [e8]
            refine sp_setCell (by omega) (by decide) ?_
            rw [nI_1]
            refine ih2 (h + 1) _ (by omega) (fun k j a b => by rw [up_k b]; exact f3 k j a b) (fun j hj => by rw [up_k (by decide)]; exact r1 j hj) (fun j q hq => ?_)
            by_cases e : j = (fsU V hour D L).length ∧ q = h
            · rw [e.1, e.2, up_at, hg2]
            · rw [up_j (by omega)]
              exact r2 j q (by omega)
        refine inner (vn V) 0 _ (by omega) (fun k j a b => up_k a) (fun j hj => ?_) (fun j q hq => ?_)
        · by_cases e : j = (fsU V hour D L).length
          · rw [e, up_at, hg2]
          · rw [up_j e, hg j (by omega)]
            exact g2.1 j (by omega)
        · have hj : j < (fsU V hour D L).length ∧ q < vn V := by omega
          rw [up_k (by decide), hg j hj.1]
          exact g2.2 j q hj.1 hj.2
  exact v_X7_gatherFitting_0 _ _ (key (2 ^ vb V) 0 M none (by omega) (Keep.rfl' M) ⟨fun j hj => absurd hj (Nat.not_lt_zero j), fun j h hj => absurd hj (Nat.not_lt_zero j)⟩)
