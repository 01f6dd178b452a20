/-! CALLS: at, run, cools, house, told -/
theorem sp_litresAt {d : Nat} {k : mQ} {M : mM} {i : Nat} (hi : i < 9) (h : k (mI (M 24 i)) M) : wpD mB mNL (d + 2) zX0_litresAt [mR 0 0 23, mI (nI i)] M k := v_X0_litresAt_0 _ (sp_cell hi (by decide) h)
theorem sp_heatAt {d : Nat} {k : mQ} {M : mM} {i : Nat} (hi : i < 9) (h : k (mI (M 25 i)) M) : wpD mB mNL (d + 2) zX0_heatAt [mR 0 0 23, mI (nI i)] M k := v_X0_heatAt_0 _ (sp_cell hi (by decide) h)
theorem FEnd.keep {G : LG} {L D hour n : Nat} {w : Int} {M M' : mM} (h : FEnd G L D hour w n M M') : Keep M M' := fun k j q => h.1.1 k j (by
  unfold scr at q
  omega)
theorem goC_scr {k j : Nat} (h : goC k j) : scr k j := by
  unfold goC at h
  unfold scr
  omega
theorem lbC_scr {k j : Nat} (h : lbC k j) : scr k j := by
  rcases h with h | h
  · exact goC_scr h
  · unfold scr; omega
theorem GEnd.keep {G : LG} {L D hour n : Nat} {w : Int} {M M' : mM} (h : GEnd G L D hour w n M M') : Keep M M' := fun k j q => h.1.1 k j (fun c => q (goC_scr c))
theorem asLane_keep {M M' : mM} (f : ∀ k j, ¬ (k = 6 ∨ (k = 0 ∧ j = 9)) → M' k j = M k j) : Keep M M' := fun k j q => f k j (by
  unfold scr at q
  omega)
/-- the hour's course from the state as it is (class, model) -/
theorem c_follow {d : Nat} {k : mQ} {M : mM} {V : AV} {c K : Nat} {p : Nat → Nat} {hour L D : Nat} {w : Int} (hI : InvP V c p K M) (hw : 0 ≤ w ∧ w ≤ 1000) (hh : hour < 6) (hL : L < 2 ^ vb V) (hD : D < 512)
    (h : ∀ M', Keep M M' → FEnd (vG V) L D hour w (vn V) M M' → k none M') : wpD mB mNL (d + 5) zX0_follow [mR 0 0 23, mI (zi w), mI (nI hour), mI (nI L), mI (nI D)] M k := by
  obtain ⟨o1, o2, o3, o4, -⟩ := hI.ok
  have : 2 ^ vb V ≤ 2 ^ 4 := Nat.pow_le_pow_right (by decide) o3
  exact sp_follow o1 hI.hydC hw hI.lnC o2.2 o4 o3 hh (by omega) (by omega) (fun M' e => h M' e.keep e)
theorem m_go {d : Nat} {k : mQ} {M : mM} {V : AV} {c K : Nat} {p : Nat → Nat} {hour L D : Nat} {w : Int} (hI : InvP V c p K M) (hLn : LnM (vG V) M (vn V)) (hw : 0 ≤ w ∧ w ≤ 1000) (hh : hour < 6) (hL : L < 2 ^ vb V) (hD : D < 512)
    (h : ∀ M', Keep M M' → GEnd (vG V) L D hour w (vn V) M M' → k none M') : wpD mB mNL (d + 2) zX8_go [mR 8 0 0, mI (nI hour), mI (nI L), mI (nI D), mI (zi w)] M k := by
  obtain ⟨o1, o2, o3, o4, -⟩ := hI.ok
  have : 2 ^ vb V ≤ 2 ^ 4 := Nat.pow_le_pow_right (by decide) o3
  exact sp_go o1 hI.hydM hw hLn (by omega) o4 o3 hh (by omega) (by omega) (fun M' e => h M' e.keep e)
theorem m_asLane {d : Nat} {k : mQ} {M : mM} {V : AV} {c K : Nat} {p : Nat → Nat} (hI : InvP V c p K M) (h : ∀ M', Keep M M' → LnM (vG V) M' (vn V) → k none M') : wpD mB mNL (d + 1) zX8_asLane [mR 8 0 0] M k :=
  sp_asLane hI.lnP hI.ok.2.1.2 (fun M' f l => h M' (asLane_keep f) l)
theorem okBits.nat {V : AV} {v1 v2 v3 : Int32} (hV : VOK V) (h : okBits V v1 v2 v3) : (v1 = nI (tn v1) ∧ tn v1 < 6) ∧ (v2 = nI (tn v2) ∧ tn v2 < 2 ^ vb V) ∧ (v3 = nI (tn v3) ∧ tn v3 < 2 ^ vn V ∧ tn v3 < 512) := by
  obtain ⟨h1, h2, h3⟩ := h
  obtain ⟨-, o2, o3, -⟩ := hV
  have a := bits_lt (by omega) h2
  have b := bits_lt (by omega) h3
  exact ⟨⟨tn_eq h1.1, tn_lt h1.1 (by omega)⟩, ⟨a.1, a.2.1⟩, ⟨b.1, b.2.1, b.2.2⟩⟩
def atN (V : AV) (hour L D h : Nat) (q : Bool) : Int := if h < vn V then (if q then arQ (vG V) L D hour (gS (vG V) 1) h else arF (vG V) L D hour (gS (vG V) 1) h) else (if q then (fl (vG V) L D hour (gS (vG V) 1) h).2 else (fl (vG V) L D hour (gS (vG V) 1) h).1)
def atV (V : AV) (v1 v2 v3 v4 v5 : Int32) : Int32 := if ¬ (0 ≤ v4.toInt ∧ v4.toInt ≤ vn V) then -1 else if ¬ (okBits V v1 v2 v3 ∧ (0 ≤ v5.toInt ∧ v5.toInt ≤ 1)) then -2 else zi (atN V (tn v1) (tn v2) (tn v3) (tn v4) (decide (¬ v5 = 0)))
theorem FEnd.at {V : AV} {L D hour : Nat} {M M' : mM} (h : FEnd (vG V) L D hour (gS (vG V) 1) (vn V) M M') {i : Nat} (hi : i ≤ vn V) : M' 24 i = zi (atN V hour L D i false) ∧ M' 25 i = zi (atN V hour L D i true) := by
  unfold atN
  by_cases e : i < vn V
  · simp only [e, if_true]
    exact h.1.2.2.2.2.2 i e
  · have : i = vn V := by omega
    subst this
    simp only [Nat.lt_irrefl, if_false]
    exact ⟨h.2.1, h.2.2.1⟩
theorem GEnd.at {V : AV} {L D hour : Nat} {M M' : mM} (h : GEnd (vG V) L D hour (gS (vG V) 1) (vn V) M M') {i : Nat} (hi : i ≤ vn V) : M' 7 i = zi (atN V hour L D i false) ∧ M' 8 i = zi (atN V hour L D i true) := by
  unfold atN
  by_cases e : i < vn V
  · simp only [e, if_true]
    exact h.1.2.2.2.2.2 i e
  · have : i = vn V := by omega
    subst this
    simp only [Nat.lt_irrefl, if_false]
    exact ⟨h.2.1, h.2.2⟩
theorem cx_at {d : Nat} {k : mQ} {M : mM} {V : AV} {c K : Nat} {p : Nat → Nat} {v1 v2 v3 v4 v5 : Int32} (hI : InvP V c p K M) (h : ∀ M', Keep M M' → k (mI (atV V v1 v2 v3 v4 v5)) M') : wpD mB mNL (d + 6) zX7_at [mR 7 0 14, mI v1, mI v2, mI v3, mI v4, mI v5] M k := by
  have hV := hI.ok
  obtain ⟨o1, o2, o3, o4, -⟩ := hV
  have h0 := h M (Keep.rfl' M)
  refine v_X7_at_0 _ _ _ _ _ ?_
  rw [hI.lnC.1]
  simp only [lt_zi, le_zi, li0, li1, nI_ti (show vn V < 2147483648 by omega)]
  refine ⟨fun c1 => ?_, fun c1 => ⟨fun c2 => ?_, fun c2 => ?_⟩⟩
  · unfold atV at h0
    rw [if_pos (by omega)] at h0
    exact h0
  · have hq : ¬ ¬ (0 ≤ v4.toInt ∧ v4.toInt ≤ vn V) := by omega
    have bad : ¬ (okBits V v1 v2 v3 ∧ (0 ≤ v5.toInt ∧ v5.toInt ≤ 1)) → k (mI (-2)) M := fun e => by
      unfold atV at h0
      rw [if_neg hq, if_pos e] at h0
      exact h0
    refine sp_isNoHour (fun e => ⟨fun _ => bad (fun q => e q.1.1), fun c => absurd c (by decide)⟩) (fun e1 => ⟨fun c => absurd rfl c, fun _ => ?_⟩)
    refine sp_areNoBrooks hI.bC (by omega) (fun e => ⟨fun _ => bad (fun q => e q.1.2.1), fun c => absurd c (by decide)⟩) (fun e2 => ⟨fun c => absurd rfl c, fun _ => ?_⟩)
    refine sp_areNoDraws hI.lnC.1 (by omega) (fun e => ⟨fun _ => bad (fun q => e q.1.2.2), fun c => absurd c (by decide)⟩) (fun e3 => ⟨fun c => absurd rfl c, fun _ => ⟨fun c3 => bad (by omega), fun c3 => ⟨fun c4 => ?_, fun c4 => bad (by omega)⟩⟩⟩)
    have hok : okBits V v1 v2 v3 := ⟨e1, e2, e3⟩
    obtain ⟨⟨a1, b1⟩, ⟨a2, b2⟩, a3, b3, b4⟩ := hok.nat hI.ok
    have a4 : v4 = nI (tn v4) := tn_eq (by omega)
    have b5 : tn v4 ≤ vn V := by unfold tn; omega
    refine sp_springZ (o := 35) (i := 1) hI.hydC (by decide) ?_
    refine wpD_at (as' := [mR 0 0 23, mI (zi (gS (vG V) 1)), mI (nI (tn v1)), mI (nI (tn v2)), mI (nI (tn v3))]) (by rw [← a1, ← a2, ← a3]) ?_
    refine c_follow hI o1.2.1 b1 b2 b4 (fun M1 f e => ?_)
    have h9 := h M1 f
    unfold atV at h9
    rw [if_neg hq, if_neg (fun q => q ⟨hok, by omega⟩)] at h9
    refine ⟨fun c5 => ?_, fun c5 => ?_⟩
    · refine wpD_at (as' := [mR 0 0 23, mI (nI (tn v4))]) (by rw [← a4]) (sp_heatAt (by omega) ?_)
      rw [(e.at b5).2]
      rw [decide_eq_true c5] at h9
      exact h9
    · refine wpD_at (as' := [mR 0 0 23, mI (nI (tn v4))]) (by rw [← a4]) (sp_litresAt (by omega) ?_)
      rw [(e.at b5).1]
      rw [show decide (¬ v5 = 0) = false by simp [c5]] at h9
      exact h9
  · unfold atV at h0
    rw [if_pos (by omega)] at h0
    exact h0
theorem cm_at {d : Nat} {k : mQ} {M : mM} {V : AV} {c K : Nat} {p : Nat → Nat} {v1 v2 v3 v4 v5 : Int32} (hI : InvP V c p K M) (h : ∀ M', Keep M M' → k (mI (atV V v1 v2 v3 v4 v5)) M') : wpD mB mNL (d + 4) zX8_at [mR 8 0 0, mI v1, mI v2, mI v3, mI v4, mI v5] M k := by
  have hV := hI.ok
  obtain ⟨o1, o2, o3, o4, -⟩ := hV
  have h0 := h M (Keep.rfl' M)
  refine v_X8_at_0 _ _ _ _ _ ?_
  rw [hI.lnP.1]
  refine sp_inC (fun e => ⟨fun c => absurd rfl c, fun _ => ?_⟩) (fun e => ⟨fun _ => ?_, fun c => absurd c (by decide)⟩) <;> rw [li0, nI_ti (show vn V < 2147483648 by omega)] at e
  · unfold atV at h0
    rw [if_pos e] at h0
    exact h0
  · have hq : ¬ ¬ (0 ≤ v4.toInt ∧ v4.toInt ≤ vn V) := fun q => q e
    have bad : ¬ (okBits V v1 v2 v3 ∧ (0 ≤ v5.toInt ∧ v5.toInt ≤ 1)) → k (mI (-2)) M := fun e => by
      unfold atV at h0
      rw [if_neg hq, if_pos e] at h0
      exact h0
    refine sp_areBitsC hI.lnP.1 hI.bM (by omega) (by omega) (fun e2 => ⟨fun _ => bad (fun q => e2 q.1), fun c => absurd rfl c⟩) (fun hok => ⟨fun c => absurd c (by decide), fun _ => ?_⟩)
    refine sp_inC (fun e3 => ⟨fun c => absurd rfl c, fun _ => bad (fun q => e3 (by rw [li0, li1]; exact q.2))⟩) (fun e3 => ⟨fun _ => ?_, fun c => absurd c (by decide)⟩)
    rw [li0, li1] at e3
    obtain ⟨⟨a1, b1⟩, ⟨a2, b2⟩, a3, b3, b4⟩ := hok.nat hI.ok
    have a4 : v4 = nI (tn v4) := tn_eq (by omega)
    have b5 : tn v4 ≤ vn V := by unfold tn; omega
    refine m_asLane hI (fun M1 f1 l1 => ⟨vpn 1 rfl (by decide) (by decide), ?_⟩)
    have hI1 := hI.keep f1
    rw [cl1, hI1.hydM.1 1 (by decide)]
    refine wpD_at (as' := [mR 8 0 0, mI (nI (tn v1)), mI (nI (tn v2)), mI (nI (tn v3)), mI (zi (gS (vG V) 1))]) (by rw [← a1, ← a2, ← a3]) ?_
    refine m_go hI1 l1 o1.2.1 b1 b2 b4 (fun M2 f2 e4 => ?_)
    have h9 := h M2 (f1.trans f2)
    unfold atV at h9
    rw [if_neg hq, if_neg (fun q => q ⟨hok, by omega⟩)] at h9
    refine ⟨fun c5 => ⟨vpn _ a4 (by omega) (by decide), ?_⟩, fun c5 => ⟨vpn _ a4 (by omega) (by decide), ?_⟩⟩ <;> rw [cln _ a4 (by omega)]
    · rw [(e4.at b5).2]
      rw [decide_eq_true c5] at h9
      exact h9
    · rw [(e4.at b5).1]
      rw [show decide (¬ v5 = 0) = false by simp [c5]] at h9
      exact h9
def runV (V : AV) (v1 v2 v3 v4 : Int32) : Int32 := if ¬ (okBits V v1 v2 v3 ∧ (0 ≤ v4.toInt ∧ v4.toInt ≤ 3)) then -2 else
  if v4.toInt = 0 then nI (svN (vG V) (tn v2) (tn v3) (tn v1) (gS (vG V) 1) (vn V)) else if v4.toInt = 1 then nI (hmN (vG V) (tn v2) (tn v3) (tn v1) (gS (vG V) 1) (vn V)) else
  if v4.toInt = 2 then zi (lsN (vG V) (tn v2) (tn v3) (tn v1) (gS (vG V) 1) (vn V)) else zi (tkN (vG V) (tn v2) (tn v3) (tn v1) (gS (vG V) 1) (vn V))
theorem cx_run {d : Nat} {k : mQ} {M : mM} {V : AV} {c K : Nat} {p : Nat → Nat} {v1 v2 v3 v4 : Int32} (hI : InvP V c p K M) (h : ∀ M', Keep M M' → k (mI (runV V v1 v2 v3 v4)) M') : wpD mB mNL (d + 6) zX7_run [mR 7 0 14, mI v1, mI v2, mI v3, mI v4] M k := by
  obtain ⟨o1, o2, o3, o4, -⟩ := hI.ok
  have bad : ∀ M', Keep M M' → ¬ (okBits V v1 v2 v3 ∧ (0 ≤ v4.toInt ∧ v4.toInt ≤ 3)) → k (mI (-2)) M' := fun M' f e => by
    have h0 := h M' f
    unfold runV at h0
    rw [if_pos e] at h0
    exact h0
  have bad0 := bad M (Keep.rfl' M)
  refine v_X7_run_0 _ _ _ _ (sp_isNoHour (fun e => ⟨fun _ => bad0 (fun q => e q.1.1), fun c => absurd c (by decide)⟩) (fun e1 => ⟨fun c => absurd rfl c, fun _ => ?_⟩))
  refine sp_areNoBrooks hI.bC (by omega) (fun e => ⟨fun _ => bad0 (fun q => e q.1.2.1), fun c => absurd c (by decide)⟩) (fun e2 => ⟨fun c => absurd rfl c, fun _ => ?_⟩)
  refine sp_areNoDraws hI.lnC.1 (by omega) (fun e => ⟨fun c => absurd c (by decide), fun _ => bad0 (fun q => e q.1.2.2)⟩) (fun e3 => ⟨fun _ => ?_, fun c => absurd rfl c⟩)
  have hok : okBits V v1 v2 v3 := ⟨e1, e2, e3⟩
  obtain ⟨⟨a1, b1⟩, ⟨a2, b2⟩, a3, b3, b4⟩ := hok.nat hI.ok
  refine sp_springZ (o := 35) (i := 1) hI.hydC (by decide) ?_
  refine wpD_at (as' := [mR 0 0 23, mI (zi (gS (vG V) 1)), mI (nI (tn v1)), mI (nI (tn v2)), mI (nI (tn v3))]) (by rw [← a1, ← a2, ← a3]) ?_
  refine c_follow hI o1.2.1 b1 b2 b4 (fun M1 f e => ?_)
  obtain ⟨⟨-, g2, g3, g4, g5, -⟩, -⟩ := e
  have h9 := h M1 f
  unfold runV at h9
  refine ⟨fun c1 => bad M1 f (fun q => by omega), fun c1 => ?_, fun c1 => ?_, fun c1 => ?_, fun c1 => ?_, trivial⟩ <;> rw [if_neg (fun q => q ⟨hok, by omega⟩)] at h9
  · rw [if_pos c1] at h9
    rw [g2]; exact h9
  · rw [if_neg (by omega), if_pos c1] at h9
    rw [g3]; exact h9
  · rw [if_neg (by omega), if_neg (by omega), if_pos c1] at h9
    rw [g4]; exact h9
  · rw [if_neg (by omega), if_neg (by omega), if_neg (by omega)] at h9
    rw [g5]; exact h9
theorem lit {n : Nat} (h : n < 2147483648) {v : Int32} : v = nI n ↔ v.toInt = n := by rw [eq_zi, nI_ti h]
theorem cm_run {d : Nat} {k : mQ} {M : mM} {V : AV} {c K : Nat} {p : Nat → Nat} {v1 v2 v3 v4 : Int32} (hI : InvP V c p K M) (h : ∀ M', Keep M M' → k (mI (runV V v1 v2 v3 v4)) M') : wpD mB mNL (d + 4) zX8_run [mR 8 0 0, mI v1, mI v2, mI v3, mI v4] M k := by
  obtain ⟨o1, o2, o3, o4, -⟩ := hI.ok
  have bad0 : ¬ (okBits V v1 v2 v3 ∧ (0 ≤ v4.toInt ∧ v4.toInt ≤ 3)) → k (mI (-2)) M := fun e => by
    have h0 := h M (Keep.rfl' M)
    unfold runV at h0
    rw [if_pos e] at h0
    exact h0
  have l3 : (3 : Int32).toInt = 3 := by decide
  refine v_X8_run_0 _ _ _ _ (sp_areBitsC hI.lnP.1 hI.bM (by omega) (by omega) (fun e2 => ⟨fun _ => bad0 (fun q => e2 q.1), fun c => absurd rfl c⟩) (fun hok => ⟨fun c => absurd c (by decide), fun _ => ?_⟩))
  refine sp_inC (fun e3 => ⟨fun c => absurd rfl c, fun _ => bad0 (fun q => e3 (by rw [li0, l3]; exact q.2))⟩) (fun e3 => ⟨fun _ => ?_, fun c => absurd c (by decide)⟩)
  rw [li0, l3] at e3
  obtain ⟨⟨a1, b1⟩, ⟨a2, b2⟩, a3, b3, b4⟩ := hok.nat hI.ok
  refine m_asLane hI (fun M1 f1 l1 => ⟨vpn 1 rfl (by decide) (by decide), ?_⟩)
  have hI1 := hI.keep f1
  rw [cl1, hI1.hydM.1 1 (by decide)]
  refine wpD_at (as' := [mR 8 0 0, mI (nI (tn v1)), mI (nI (tn v2)), mI (nI (tn v3)), mI (zi (gS (vG V) 1))]) (by rw [← a1, ← a2, ← a3]) ?_
  refine m_go hI1 l1 o1.2.1 b1 b2 b4 (fun M2 f2 e4 => ?_)
  obtain ⟨⟨-, g2, g3, g4, g5, -⟩, -⟩ := e4
  have h9 := h M2 (f1.trans f2)
  unfold runV at h9
  rw [if_neg (fun q => q ⟨hok, by omega⟩)] at h9
  have q0 : v4 = 0 ↔ v4.toInt = 0 := lit (n := 0) (by decide)
  have q1 : v4 = 1 ↔ v4.toInt = 1 := lit (n := 1) (by decide)
  have q2 : v4 = 2 ↔ v4.toInt = 2 := lit (n := 2) (by decide)
  show (_ ∧ _)
  rw [q0, q1, q2, g2, g3, g4, g5]
  refine ⟨fun c1 => ⟨fun c2 => ⟨fun c3 => ?_, fun c3 => ?_⟩, fun c2 => ?_⟩, fun c1 => ?_⟩
  · rw [if_neg c1, if_neg c2, if_neg c3] at h9; exact h9
  · rw [if_neg c1, if_neg c2, if_pos c3] at h9; exact h9
  · rw [if_neg c1, if_pos c2] at h9; exact h9
  · rw [if_pos c1] at h9; exact h9
/-- nobody is wronged -/
theorem wrN_0 {G : LG} {L D hour n : Nat} {w : Int} (hD : D < 2 ^ n) : wrN G L D hour w n = 0 ↔ okP G n hour w L D := by
  rw [← okH_P hD]
  constructor
  · intro h i _ hi
    have e := wrN_bit (G := G) (L := L) (D := D) (hour := hour) (w := w) (n := n) (i := i)
    rw [h] at e
    simp [hi] at e
    refine ⟨e.1, ?_⟩
    cases hx : D.testBit i
    · unfold isS svB
      rw [hx]
      simp
    · exact e.2 hx
  · intro h
    refine Nat.eq_of_testBit_eq fun i => ?_
    rw [wrN_bit]
    by_cases hi : i < n
    · have := h i (Nat.zero_le _) hi
      rw [this.1, this.2]
      cases D.testBit i <;> simp [hi]
    · have : D.testBit i = false := Nat.testBit_lt_two_pow (Nat.lt_of_lt_of_le hD (Nat.pow_le_pow_right (by decide) (Nat.not_lt.mp hi)))
      simp [hi, this]
/-- the least warmth from w on by which all is well (-6: none) -/
def coF (V : AV) (hour L D : Nat) : Nat → Nat → Int
  | 0, _ => -6
  | m + 1, w => if decide (wrN (vG V) L D hour w (vn V) = 0) then w else coF V hour L D m (w + 1)
def coolsV (V : AV) (v1 v2 v3 : Int32) : Int32 := if ¬ okBits V v1 v2 v3 then -2 else zi (coF V (tn v1) (tn v2) (tn v3) 1001 0)
theorem wrN_lt {G : LG} {L D hour n : Nat} {w : Int} (hD : D < 2 ^ n) : wrN G L D hour w n < 2 ^ n := by
  unfold wrN
  refine Nat.or_lt_two_pow (hmN_lt _ _ _ _ _ _) (Nat.xor_lt_two_pow hD ?_)
  exact Nat.and_lt_two_pow _ (svN_lt _ _ _ _ _ _)
theorem cx_cools {d : Nat} {k : mQ} {M : mM} {V : AV} {c K : Nat} {p : Nat → Nat} {v1 v2 v3 : Int32} (hI : InvP V c p K M) (h : ∀ M', Keep M M' → k (mI (coolsV V v1 v2 v3)) M') : wpD mB mNL (d + 6) zX7_cools [mR 7 0 14, mI v1, mI v2, mI v3] M k := by
  obtain ⟨o1, o2, o3, o4, -⟩ := hI.ok
  have bad0 : ¬ okBits V v1 v2 v3 → k (mI (-2)) M := fun e => by
    have h0 := h M (Keep.rfl' M)
    unfold coolsV at h0
    rw [if_pos e] at h0
    exact h0
  refine v_X7_cools_0 _ _ _ (sp_isNoHour (fun e => ⟨fun _ => bad0 (fun q => e q.1), fun c => absurd c (by decide)⟩) (fun e1 => ⟨fun c => absurd rfl c, fun _ => ?_⟩))
  refine sp_areNoBrooks hI.bC (by omega) (fun e => ⟨fun _ => bad0 (fun q => e q.2.1), fun c => absurd c (by decide)⟩) (fun e2 => ⟨fun c => absurd rfl c, fun _ => ?_⟩)
  refine sp_areNoDraws hI.lnC.1 (by omega) (fun e => ⟨fun c => absurd c (by decide), fun _ => bad0 (fun q => e q.2.2)⟩) (fun e3 => ⟨fun _ => ?_, fun c => absurd rfl c⟩)
  have hok : okBits V v1 v2 v3 := ⟨e1, e2, e3⟩
  obtain ⟨⟨a1, b1⟩, ⟨a2, b2⟩, a3, b3, b4⟩ := hok.nat hI.ok
  have h' : ∀ M', Keep M M' → k (mI (zi (coF V (tn v1) (tn v2) (tn v3) 1001 0))) M' := fun M' f => by
    have h0 := h M' f
    unfold coolsV at h0
    rw [if_neg (fun q => q hok)] at h0
    exact h0
  have key : ∀ m w M1, w + m = 1001 → Keep M M1 → coF V (tn v1) (tn v2) (tn v3) m w = coF V (tn v1) (tn v2) (tn v3) 1001 0 → jJ kB_X7_cools (d + 5) k 3 [mR 7 0 14, mI v1, mI v2, mI v3, mI (nI w)] [] M1 := by
    intro m
    induction m with
    | zero =>
      intro w M1 hw f e
      refine v_X7_cools_3 _ _ _ _ (iflt (a := 1000) (b := w) (by omega) (by omega) (fun _ => ?_) (fun c => by omega))
      have h9 := h' M1 f
      rw [← e] at h9
      exact h9
    | succ m ih =>
      intro w M1 hw f e
      have hI1 := hI.keep f
      refine v_X7_cools_3 _ _ _ _ (iflt (a := 1000) (b := w) (by omega) (by omega) (fun c => by omega) (fun _ => ?_))
      refine wpD_at (as' := [mR 0 0 23, mI (zi (w : Int)), mI (nI (tn v1)), mI (nI (tn v2)), mI (nI (tn v3))]) (by rw [← a1, ← a2, ← a3, nI_zi]) ?_
      refine c_follow hI1 ⟨by omega, by omega⟩ b1 b2 b4 (fun M2 f2 e4 => ?_)
      have hlt := wrN_lt (G := vG V) (L := tn v2) (D := tn v3) (hour := tn v1) (w := (w : Int)) b3
      have h512 : 2 ^ vn V ≤ 512 := Nat.pow_le_pow_right (by decide) (show vn V ≤ 9 by omega)
      show (_ ∧ _)
      rw [e4.2.2.2]
      rw [coF] at e
      refine ⟨fun c5 => ?_, fun c5 => ?_⟩
      · have : wrN (vG V) (tn v2) (tn v3) (tn v1) w (vn V) ≠ 0 := fun q => c5 (by rw [q]; rfl)
        rw [decide_eq_false this] at e
        rw [nI_1]
        exact ih (w + 1) M2 (by omega) (f.trans f2) (by simpa using e)
      · have : wrN (vG V) (tn v2) (tn v3) (tn v1) w (vn V) = 0 := nI_inj (by omega) (by decide) c5
        rw [decide_eq_true this] at e
        have h9 := h' M2 (f.trans f2)
        rw [← e] at h9
        simp only [if_true] at h9
        rw [zi_nI] at h9
        exact h9
  exact key 1001 0 M (by omega) (Keep.rfl' M) rfl
theorem cm_cools {d : Nat} {k : mQ} {M : mM} {V : AV} {c K : Nat} {p : Nat → Nat} {v1 v2 v3 : Int32} (hI : InvP V c p K M) (h : ∀ M', Keep M M' → k (mI (coolsV V v1 v2 v3)) M') : wpD mB mNL (d + 4) zX8_cools [mR 8 0 0, mI v1, mI v2, mI v3] M k := by
  obtain ⟨o1, o2, o3, o4, -⟩ := hI.ok
  have bad0 : ¬ okBits V v1 v2 v3 → k (mI (-2)) M := fun e => by
    have h0 := h M (Keep.rfl' M)
    unfold coolsV at h0
    rw [if_pos e] at h0
    exact h0
  refine v_X8_cools_0 _ _ _ (sp_areBitsC hI.lnP.1 hI.bM (by omega) (by omega) (fun e2 => ⟨fun c => absurd rfl c, fun _ => bad0 e2⟩) (fun hok => ⟨fun _ => ?_, fun c => absurd c (by decide)⟩))
  obtain ⟨⟨a1, b1⟩, ⟨a2, b2⟩, a3, b3, b4⟩ := hok.nat hI.ok
  have h' : ∀ M', Keep M M' → k (mI (zi (coF V (tn v1) (tn v2) (tn v3) 1001 0))) M' := fun M' f => by
    have h0 := h M' f
    unfold coolsV at h0
    rw [if_neg (fun q => q hok)] at h0
    exact h0
  have key : ∀ m w M1, w + m = 1001 → Keep M M1 → LnM (vG V) M1 (vn V) → coF V (tn v1) (tn v2) (tn v3) m w = coF V (tn v1) (tn v2) (tn v3) 1001 0 → jJ kB_X8_cools (d + 3) k 2 [mR 8 0 0, mI v1, mI v2, mI v3, mI (nI w)] [] M1 := by
    intro m
    induction m with
    | zero =>
      intro w M1 hw f l e
      refine v_X8_cools_2 _ _ _ _ (iflt (a := 1000) (b := w) (by omega) (by omega) (fun _ => ?_) (fun c => by omega))
      have h9 := h' M1 f
      rw [← e] at h9
      exact h9
    | succ m ih =>
      intro w M1 hw f l e
      have hI1 := hI.keep f
      refine v_X8_cools_2 _ _ _ _ (iflt (a := 1000) (b := w) (by omega) (by omega) (fun c => by omega) (fun _ => ?_))
      refine wpD_at (as' := [mR 8 0 0, mI (nI (tn v1)), mI (nI (tn v2)), mI (nI (tn v3)), mI (zi (w : Int))]) (by rw [← a1, ← a2, ← a3, nI_zi]) ?_
      refine m_go hI1 l ⟨by omega, by omega⟩ b1 b2 b4 (fun M2 f2 e4 => ?_)
      have l2 : LnM (vG V) M2 (vn V) := l.of (e4.1.1 0 9 (ngo0 (by omega))) (fun j => e4.1.1 6 j (ngo (by decide) (by decide) (by decide)))
      obtain ⟨⟨-, g2, g3, -⟩, -⟩ := e4
      have bsv := svN_lt (vG V) (tn v2) (tn v3) (tn v1) (w : Int) (vn V)
      have bhm := hmN_lt (vG V) (tn v2) (tn v3) (tn v1) (w : Int) (vn V)
      have h512 : 2 ^ vn V ≤ 512 := Nat.pow_le_pow_right (by decide) (show vn V ≤ 9 by omega)
      rw [coF] at e
      have no : ¬ okP (vG V) (vn V) (tn v1) w (tn v2) (tn v3) → jJ kB_X8_cools (d + 3) k 2 [mR 8 0 0, mI v1, mI v2, mI v3, mI (nI w + 1)] [] M2 := fun q => by
        have : wrN (vG V) (tn v2) (tn v3) (tn v1) w (vn V) ≠ 0 := fun q2 => q ((wrN_0 b3).mp q2)
        rw [decide_eq_false this] at e
        rw [nI_1]
        exact ih (w + 1) M2 (by omega) (f.trans f2) l2 (by simpa using e)
      show (_ ∧ _)
      rw [g2, g3]
      refine ⟨fun c5 => no (fun q => c5 (by rw [q.1]; rfl)), fun c5 => ⟨fun c6 => no (fun q => c6 (by rw [q.2, ← a3])), fun c6 => ?_⟩⟩
      have x1 : hmN (vG V) (tn v2) (tn v3) (tn v1) w (vn V) = 0 := nI_inj (by omega) (by decide) c5
      have x2 : svN (vG V) (tn v2) (tn v3) (tn v1) w (vn V) = tn v3 := nI_inj (by omega) (by omega) (by rw [c6, ← a3])
      rw [decide_eq_true ((wrN_0 b3).mpr ⟨x1, x2⟩)] at e
      have h9 := h' M2 (f.trans f2)
      rw [← e] at h9
      simp only [if_true] at h9
      rw [zi_nI] at h9
      exact h9
  refine m_asLane hI (fun M1 f1 l1 => key 1001 0 M1 (by omega) f1 l1 rfl)
