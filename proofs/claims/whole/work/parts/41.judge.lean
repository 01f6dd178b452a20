/-! CALLS: fault, judge -/
def faultV (V : AV) (c : Nat) (p : Nat → Nat) (v1 : Int32) : Int32 := if v1.toInt = 0 then zi (runL p c 0 aL0).1 else if v1.toInt = 1 then zi (runD (vb V) (vn V) p c 0 aD0).1 else -2
theorem InvP.pad {V : AV} {c K : Nat} {p : Nat → Nat} {M : mM} (h : InvP V c p K M) : c ≤ 48 ∧ M 15 0 = nI c ∧ M 0 2 = nI c ∧ (∀ j, j < c → (33 ≤ p j ∧ p j ≤ 126) ∧ M 20 j = nI (p j)) ∧ (∀ j, j < c → (33 ≤ p j ∧ p j ≤ 126) ∧ M 3 j = nI (p j)) := by
  obtain ⟨-, -, -, ⟨h1, h2, h3, h4⟩, -⟩ := h
  exact ⟨h1, h2, h3, fun j hj => ⟨(h4 j hj).1, (h4 j hj).2.1⟩, fun j hj => ⟨(h4 j hj).1, (h4 j hj).2.2⟩⟩
theorem InvP.rok {V : AV} {c K : Nat} {p : Nat → Nat} {M : mM} (h : InvP V c p K M) : ROK M := h.2.2.2.2.2
theorem fr_keep {M M' : mM} {a b : Nat} (f : ∀ k j, k < a ∨ b < k → M' k j = M k j) (h : 16 ≤ a ∧ b ≤ 19 ∨ 21 ≤ a ∧ b ≤ 34) : Keep M M' := fun k j q => f k j (by
  unfold scr at q
  omega)
theorem cx_fault {d : Nat} {k : mQ} {M : mM} {V : AV} {c K : Nat} {p : Nat → Nat} {v1 : Int32} (hI : InvP V c p K M) (h : ∀ M', Keep M M' → k (mI (faultV V c p v1)) M') : wpD mB mNL (d + 5) zX7_fault [mR 7 0 14, mI v1] M k := by
  obtain ⟨o1, o2, o3, o4, -⟩ := hI.ok
  obtain ⟨h1, h2, h3, h4, h5⟩ := hI.pad
  have q0 : v1 = 0 ↔ v1.toInt = 0 := lit (n := 0) (by decide)
  have q1 : v1 = 1 ↔ v1.toInt = 1 := lit (n := 1) (by decide)
  unfold faultV at h
  refine v_X7_fault_0 _ ?_
  rw [q0, q1]
  refine ⟨fun e => ⟨fun e2 => ?_, fun e2 => ?_⟩, fun e => ?_⟩
  · have := h M (Keep.rfl' M)
    rw [if_neg e, if_neg e2] at this
    exact this
  · refine sp_readDay (d := d + 1) o3 o2.2 hI.lnC.1 hI.bC h1 h2 h4 (fun M' f _ => ?_)
    have := h M' (fr_keep f (by omega))
    rw [if_neg e, if_pos e2] at this
    exact this
  · refine sp_readLane h1 h2 h4 hI.rok (fun M' f _ => ?_)
    have := h M' (fr_keep f (by omega))
    rw [if_pos e] at this
    exact this
theorem cm_fault {d : Nat} {k : mQ} {M : mM} {V : AV} {c K : Nat} {p : Nat → Nat} {v1 : Int32} (hI : InvP V c p K M) (h : k (mI (faultV V c p v1)) M) : wpD mB mNL (d + 3) zX8_fault [mR 8 0 0, mI v1] M k := by
  obtain ⟨o1, o2, o3, o4, -⟩ := hI.ok
  obtain ⟨h1, h2, h3, h4, h5⟩ := hI.pad
  have q0 : v1 = 0 ↔ v1.toInt = 0 := lit (n := 0) (by decide)
  have q1 : v1 = 1 ↔ v1.toInt = 1 := lit (n := 1) (by decide)
  unfold faultV at h
  refine v_X8_fault_0 _ ?_
  rw [q0, q1]
  refine ⟨fun e => ⟨fun e2 => ?_, fun e2 => sp_dayFault o3 o2 hI.lnP.1 hI.bM h1 h3 h5 ?_⟩, fun e => sp_laneFault h1 h3 h5 ?_⟩
  · rw [if_neg e, if_neg e2] at h; exact h
  · rw [if_neg e, if_pos e2] at h; exact h
  · rw [if_pos e] at h; exact h
theorem runD_rows {b n : Nat} {p : Nat → Nat} : ∀ m i (a : DyS) h, h < a.1 → (runD b n p m i a).2.1 h = a.2.2.2.1 h ∧ (runD b n p m i a).2.2 h = a.2.2.2.2 h
  | 0, i, a, h, hh => by
    rw [runD]
    dsimp only [updN]
    rw [if_neg (by omega), if_neg (by omega)]
    exact ⟨rfl, rfl⟩
  | m + 1, i, a, h, hh => by
    cases e : dySt b n a (p i) with
    | none => rw [runD_n e]; exact ⟨rfl, rfl⟩
    | some a' =>
      rw [runD_s e]
      have e2 : h < a'.1 ∧ a'.2.2.2.1 h = a.2.2.2.1 h ∧ a'.2.2.2.2 h = a.2.2.2.2 h := by
        unfold dySt at e
        split at e
        · cases e
          dsimp only [updN]
          rw [if_neg (by omega), if_neg (by omega)]
          exact ⟨by omega, rfl, rfl⟩
        · split at e
          · cases e; exact ⟨hh, rfl, rfl⟩
          · split at e
            · cases e; exact ⟨hh, rfl, rfl⟩
            · cases e
      have := runD_rows (b := b) (n := n) (p := p) m (i + 1) a' h e2.1
      rw [this.1, this.2]
      exact e2.2
theorem runD_bd {b n : Nat} {p : Nat → Nat} : ∀ m i (a : DyS), DyOk b n a → (runD b n p m i a).1 = -6 → ∀ h, h < 6 → (runD b n p m i a).2.1 h < 2 ^ b ∧ (runD b n p m i a).2.2 h < 2 ^ n
  | 0, i, a, ok, e, h, hh => by
    obtain ⟨q1, q2, q3, q4⟩ := ok
    rw [runD] at e ⊢
    dsimp only [updN] at e ⊢
    have : a.1 = 5 := by
      by_cases y : a.1 < 5
      · rw [if_pos y] at e; omega
      · omega
    by_cases c : h = a.1
    · rw [if_pos c, if_pos c]; exact ⟨q2, q3⟩
    · rw [if_neg c, if_neg c]; exact q4 h (by omega)
  | m + 1, i, a, ok, e, h, hh => by
    cases e2 : dySt b n a (p i) with
    | none =>
      rw [runD_n e2] at e
      have : (i : Int) = -6 := e
      omega
    | some a' =>
      rw [runD_s e2] at e ⊢
      exact runD_bd m (i + 1) a' (dySt_ok ok e2) e h hh
def lwF (w : Nat) : Nat → Nat → Int
  | 0, _ => -6
  | m + 1, i => if w.testBit i then (i : Int) else lwF w m (i + 1)
def jdF (V : AV) (q : Bool) (dB dD : Nat → Nat) : Nat → Nat → Int
  | 0, _ => -6
  | m + 1, h => if wrN (vG V) (dB h) (dD h) h (gS (vG V) 1) (vn V) = 0 then jdF V q dB dD m (h + 1) else if q then (h : Int) else lwF (wrN (vG V) (dB h) (dD h) h (gS (vG V) 1) (vn V)) 32 0
def judgeV (V : AV) (c : Nat) (p : Nat → Nat) (v1 : Int32) : Int32 := if ¬ (0 ≤ v1.toInt ∧ v1.toInt ≤ 1) then -2 else if (runD (vb V) (vn V) p c 0 aD0).1 ≠ -6 then -5 else zi (jdF V (decide (v1.toInt = 0)) (runD (vb V) (vn V) p c 0 aD0).2.1 (runD (vb V) (vn V) p c 0 aD0).2.2 6 0)
theorem sp_lowestBit {d : Nat} {k : mQ} {M : mM} {w : Nat} (hw : w < 2147483648) (h : k (mI (zi (lwF w 32 0))) M) : wpD mB mNL (d + 2) zX7_lowestBit [mI (nI w)] M k := by
  have key : ∀ m i, i + m = 32 → lwF w m i = lwF w 32 0 → jJ kB_X7_lowestBit (d + 1) k 1 [mI (nI w), mI (nI i)] [] M := by
    intro m
    induction m with
    | zero =>
      intro i hi e
      refine v_X7_lowestBit_1 _ _ (ifle (a := 32) (b := i) (by decide) (by omega) (fun _ => ?_) (fun c => by omega))
      rw [← e] at h
      exact h
    | succ m ih =>
      intro i hi e
      rw [lwF] at e
      refine v_X7_lowestBit_1 _ _ (ifle (a := 32) (b := i) (by decide) (by omega) (fun c => by omega) (fun _ => sp_hasBit hw (by omega) (ifb (fun x => ?_) (fun x => ?_))))
      · rw [x] at e
        rw [nI_1]
        exact ih (i + 1) (by omega) e
      · rw [x] at e
        rw [← e] at h
        simp only [if_true] at h
        rw [zi_nI] at h
        exact h
  exact v_X7_lowestBit_0 _ (key 32 0 (by decide) rfl)
theorem cx_judge {d : Nat} {k : mQ} {M : mM} {V : AV} {c K : Nat} {p : Nat → Nat} {v1 : Int32} (hI : InvP V c p K M) (h : ∀ M', Keep M M' → k (mI (judgeV V c p v1)) M') : wpD mB mNL (d + 6) zX7_judge [mR 7 0 14, mI v1] M k := by
  obtain ⟨o1, o2, o3, o4, -⟩ := hI.ok
  obtain ⟨h1, h2, h3, h4, h5⟩ := hI.pad
  have p2 : 2 ^ vn V ≤ 2 ^ 8 := Nat.pow_le_pow_right (by decide) o2.2
  have h0 := h M (Keep.rfl' M)
  refine v_X7_judge_0 _ ?_
  simp only [lt_zi, le_zi, li0, li1]
  refine ⟨fun q => ?_, fun q1 => ⟨fun q2 => ?_, fun q => ?_⟩⟩
  · unfold judgeV at h0
    rw [if_pos (by omega)] at h0
    exact h0
  · refine sp_readDay (d := d + 2) o3 o2.2 hI.lnC.1 hI.bC h1 h2 h4 (fun M1 f1 rows => ?_)
    have f := fr_keep f1 (by omega)
    have bd := runD_bd (b := vb V) (n := vn V) (p := p) c 0 aD0 aD0_ok
    unfold judgeV at h
    generalize hD : runD (vb V) (vn V) p c 0 aD0 = dR at *
    have rng : -6 ≤ dR.1 ∧ dR.1 ≤ 48 := by
      have t : ∀ m i (a : DyS), i + m = c → -6 ≤ (runD (vb V) (vn V) p m i a).1 ∧ (runD (vb V) (vn V) p m i a).1 ≤ 48 := by
        intro m
        induction m with
        | zero =>
          intro i a hi
          rw [runD]
          dsimp only
          split <;> omega
        | succ m ih =>
          intro i a hi
          cases e : dySt (vb V) (vn V) a (p i) with
          | none => rw [runD_n e]; dsimp only; omega
          | some a' => rw [runD_s e]; exact ih (i + 1) a' (by omega)
      rw [← hD]
      exact t c 0 aD0 (by omega)
    show (_ ∧ _)
    rw [show (-6 : Int32) = zi (-6) from rfl, zi_eq (by omega) (by omega) (by decide) (by decide)]
    refine ⟨fun e => ?_, fun e => ?_⟩
    · have rows := rows e
      have bd := bd e
      have h' : ∀ M', Keep M M' → k (mI (zi (jdF V (decide (v1.toInt = 0)) dR.2.1 dR.2.2 6 0))) M' := fun M' f' => by
        have := h M' f'
        rw [if_neg (by omega), if_neg (by omega)] at this
        exact this
      have key : ∀ m hr M2, hr + m = 6 → Keep M M2 → (∀ q, q < 6 → M2 21 q = nI (dR.2.1 q) ∧ M2 22 q = nI (dR.2.2 q)) → jdF V (decide (v1.toInt = 0)) dR.2.1 dR.2.2 m hr = jdF V (decide (v1.toInt = 0)) dR.2.1 dR.2.2 6 0 → jJ kB_X7_judge (d + 5) k 4 [mR 7 0 14, mI v1, mI (nI hr)] [] M2 := by
        intro m
        induction m with
        | zero =>
          intro hr M2 hi f2 rows2 eJ
          refine v_X7_judge_4 _ _ (ifle (a := 6) (b := hr) (by decide) (by omega) (fun _ => ?_) (fun q => by omega))
          have := h' M2 f2
          rw [← eJ] at this
          exact this
        | succ m ih =>
          intro hr M2 hi f2 rows2 eJ
          have hI2 := hI.keep f2
          have b6 := bd hr (by omega)
          refine v_X7_judge_4 _ _ (ifle (a := 6) (b := hr) (by decide) (by omega) (fun q => by omega) (fun _ => sp_springZ (o := 35) (i := 1) hI2.hydC (by decide) ?_))
          refine v_X4_brooksIn_0 _ (sp_cell (by omega) (by decide) (v_X4_drawsIn_0 _ (sp_cell (by omega) (by decide) ?_)))
          refine wpD_at (as' := [mR 0 0 23, mI (zi (gS (vG V) 1)), mI (nI hr), mI (nI (dR.2.1 hr)), mI (nI (dR.2.2 hr))]) (by rw [← (rows2 hr (by omega)).1, ← (rows2 hr (by omega)).2]) ?_
          refine c_follow hI2 o1.2.1 (by omega) b6.1 (by omega) (fun M3 f3 e3 => ?_)
          have hw := wrN_lt (G := vG V) (L := dR.2.1 hr) (D := dR.2.2 hr) (hour := hr) (w := gS (vG V) 1) (n := vn V) b6.2
          rw [jdF] at eJ
          show (_ ∧ _)
          rw [e3.2.2.2, show (0 : Int32) = nI 0 from rfl, nI_eq (by omega) (by decide)]
          refine ⟨fun w0 => ?_, fun w0 => ⟨fun x => ?_, fun x => ?_⟩⟩
          · rw [if_pos w0] at eJ
            rw [nI_1]
            exact ih (hr + 1) M3 (by omega) (f2.trans f3) (fun q hq => by rw [e3.1.1 21 q (by decide), e3.1.1 22 q (by decide)]; exact rows2 q hq) eJ
          · have x' : ¬ v1.toInt = 0 := fun y => x (by rw [eq_zi]; exact y)
            rw [if_neg w0, decide_eq_false x'] at eJ
            refine sp_lowestBit (by omega) ?_
            have := h' M3 (f2.trans f3)
            rw [decide_eq_false x'] at this
            rw [← eJ] at this
            exact this
          · have x' : v1.toInt = 0 := by rw [x]; rfl
            rw [if_neg w0, decide_eq_true x'] at eJ
            have := h' M3 (f2.trans f3)
            rw [decide_eq_true x'] at this
            rw [← eJ] at this
            simp only [if_true] at this
            rw [zi_nI] at this
            exact this
      exact key 6 0 M1 (by decide) f rows rfl
    · have := h M1 f
      rw [if_neg (by omega), if_pos e] at this
      exact this
  · unfold judgeV at h0
    rw [if_pos (by omega)] at h0
    exact h0

theorem runD_rng {b n c : Nat} {p : Nat → Nat} (hc : c ≤ 48) : ∀ m i (a : DyS), i + m = c → (runD b n p m i a).1 = -6 ∨ (0 ≤ (runD b n p m i a).1 ∧ (runD b n p m i a).1 ≤ 48)
  | 0, i, a, hi => by
    rw [runD]
    dsimp only
    split <;> omega
  | m + 1, i, a, hi => by
    cases e : dySt b n a (p i) with
    | none => rw [runD_n e]; dsimp only; omega
    | some a' => rw [runD_s e]; exact runD_rng hc m (i + 1) a' (by omega)
set_option maxHeartbeats 2000000 in
theorem cm_judge {d : Nat} {k : mQ} {M : mM} {V : AV} {c K : Nat} {p : Nat → Nat} {v1 : Int32} (hI : InvP V c p K M) (h : ∀ M', Keep M M' → k (mI (judgeV V c p v1)) M') : wpD mB mNL (d + 4) zX8_judge [mR 8 0 0, mI v1] M k := by
  obtain ⟨o1, o2, o3, o4, -⟩ := hI.ok
  obtain ⟨h1, h2, h3, h4, h5⟩ := hI.pad
  have p1 : 2 ^ vb V ≤ 2 ^ 4 := Nat.pow_le_pow_right (by decide) o3
  have p2 : 2 ^ vn V ≤ 2 ^ 8 := Nat.pow_le_pow_right (by decide) o2.2
  have h0 := h M (Keep.rfl' M)
  refine v_X8_judge_0 _ (sp_inC (fun e => ⟨fun x => absurd rfl x, fun _ => ?_⟩) (fun e0 => ⟨fun _ => ?_, fun x => absurd x (by decide)⟩)) <;> rw [li0, li1] at *
  · unfold judgeV at h0
    rw [if_pos e] at h0
    exact h0
  refine sp_dayFault (d := d + 1) o3 o2 hI.lnP.1 hI.bM h1 h3 h5 ?_
  have rng := runD_rng (b := vb V) (n := vn V) (p := p) h1 c 0 aD0 (by omega)
  have bd := runD_bd (b := vb V) (n := vn V) (p := p) c 0 aD0 aD0_ok
  unfold judgeV at h
  generalize hD : runD (vb V) (vn V) p c 0 aD0 = dR at *
  show (_ ∧ _)
  rw [show (0 : Int32) = zi 0 from rfl, zi_lt (by omega) (by omega) (by decide) (by decide)]
  refine ⟨fun e => m_asLane hI (fun M1 f1 l1 => ?_), fun e => ?_⟩
  · have e6 : dR.1 = -6 := by omega
    have bd := bd e6
    have h' : ∀ M', Keep M M' → k (mI (zi (jdF V (decide (v1.toInt = 0)) dR.2.1 dR.2.2 6 0))) M' := fun M' f' => by
      have := h M' f'
      rw [if_neg (fun q => q e0), if_neg (fun q => q e6)] at this
      exact this
    have key : ∀ m hr pos M2 u4 u5 u6 u7, hr + m = 6 → Keep M M2 → LnM (vG V) M2 (vn V) → ((hr = 6 ∧ pos ≤ 49) ∨ (pos ≤ c ∧ ∃ rB rD, runD (vb V) (vn V) p (c - pos) pos (hr, 0, 0, rB, rD) = dR)) → jdF V (decide (v1.toInt = 0)) dR.2.1 dR.2.2 m hr = jdF V (decide (v1.toInt = 0)) dR.2.1 dR.2.2 6 0 →
        jJ kB_X8_judge (d + 3) k 3 [mR 8 0 0, mI v1, mI (nI pos), mI (nI hr), u4, u5, u6, u7] [] M2 := by
      intro m
      induction m with
      | zero =>
        intro hr pos M2 u4 u5 u6 u7 hi f2 l2 _ eJ
        refine v_X8_judge_3 _ _ _ _ _ _ _ (ifle (a := 6) (b := hr) (by decide) (by omega) (fun _ => ?_) (fun q => by omega))
        have := h' M2 f2
        rw [← eJ] at this
        exact this
      | succ m ih =>
        intro hr pos M2 u4 u5 u6 u7 hi f2 l2 hN eJ
        obtain ⟨hp, rB, rD, hrun⟩ : pos ≤ c ∧ ∃ rB rD, runD (vb V) (vn V) p (c - pos) pos (hr, 0, 0, rB, rD) = dR := by
          rcases hN with q | q
          · omega
          · exact q
        have b6 := bd hr (by omega)
        have hI2 := hI.keep f2
        have nine : ∀ pos u6 u7, pos ≤ c → ((hr + 1 = 6 ∧ pos + 1 ≤ 49) ∨ (pos + 1 ≤ c ∧ ∃ rB rD, runD (vb V) (vn V) p (c - (pos + 1)) (pos + 1) (hr + 1, 0, 0, rB, rD) = dR)) →
            jJ kB_X8_judge (d + 3) k 9 [mR 8 0 0, mI v1, mI (nI pos), mI (nI hr), mI (nI (dR.2.1 hr)), mI (nI (dR.2.2 hr)), u6, u7] [] M2 := fun pos u6 u7 hpc hnx => by
          refine v_X8_judge_9 _ _ _ _ _ _ _ ⟨vpn 1 rfl (by decide) (by decide), ?_⟩
          rw [cl1, hI2.hydM.1 1 (by decide)]
          refine m_go hI2 l2 o1.2.1 (by omega) b6.1 (by omega) (fun M3 f3 e3 => ?_)
          have l3 : LnM (vG V) M3 (vn V) := l2.of (e3.1.1 0 9 (ngo0 (by omega))) (fun j => e3.1.1 6 j (ngo (by decide) (by decide) (by decide)))
          obtain ⟨⟨-, g2, g3, -⟩, -⟩ := e3
          have ew : M3 0 14 ||| (nI (dR.2.2 hr) &&& (M3 0 13 ^^^ -1)) = nI (wrN (vG V) (dR.2.1 hr) (dR.2.2 hr) hr (gS (vG V) 1) (vn V)) := by
            rw [g2, g3, nI_not, nI_or]
            rfl
          rw [ew, nI_1]
          have hw := wrN_lt (G := vG V) (L := dR.2.1 hr) (D := dR.2.2 hr) (hour := hr) (w := gS (vG V) 1) (n := vn V) b6.2
          generalize hW : wrN (vG V) (dR.2.1 hr) (dR.2.2 hr) hr (gS (vG V) 1) (vn V) = w at *
          have ten : ∀ r i, i + r = vn V → (∀ j, j < i → w.testBit j = false) → lwF w (32 - i) i = lwF w 32 0 → jJ kB_X8_judge (d + 3) k 10 [mR 8 0 0, mI v1, mI (nI (pos + 1)), mI (nI hr), mI (nI (dR.2.1 hr)), mI (nI (dR.2.2 hr)), mI (nI w), mI (nI i)] [] M3 := by
            intro r
            induction r with
            | zero =>
              intro i hi2 hz _
              refine v_X8_judge_10 _ _ _ _ _ _ _ ?_
              rw [l3.1]
              refine ifle (by omega) (by omega) (fun _ => ?_) (fun q => by omega)
              have w0 : w = 0 := Nat.eq_of_testBit_eq fun j => by
                rw [Nat.zero_testBit]
                by_cases q : j < i
                · exact hz j q
                · exact Nat.testBit_lt_two_pow (Nat.lt_of_lt_of_le hw (Nat.pow_le_pow_right (by decide) (by omega)))
              rw [jdF, hW, if_pos w0] at eJ
              rw [nI_1]
              exact ih (hr + 1) (pos + 1) M3 _ _ _ _ (by omega) (f2.trans f3) l3 hnx eJ
            | succ r ih2 =>
              intro i hi2 hz hl
              refine v_X8_judge_10 _ _ _ _ _ _ _ ?_
              rw [l3.1]
              refine ifle (by omega) (by omega) (fun q => by omega) (fun _ => sp_has (by omega) (by omega) (ifb (fun x => ?_) (fun x => ?_)))
              · rw [nI_1]
                refine ih2 (i + 1) (by omega) (fun j hj => ?_) ?_
                · by_cases q : j = i
                  · rw [q]; exact x
                  · exact hz j (by omega)
                · rw [show 32 - i = (32 - (i + 1)) + 1 by omega, lwF, x] at hl
                  exact hl
              · have w0 : ¬ w = 0 := fun q => by rw [q, Nat.zero_testBit] at x; cases x
                rw [jdF, hW, if_neg w0] at eJ
                have hl2 : (i : Int) = lwF w 32 0 := by
                  rw [show 32 - i = (32 - (i + 1)) + 1 by omega, lwF, x] at hl
                  exact hl
                refine ⟨fun y => ?_, fun y => ?_⟩
                · have y' : ¬ v1.toInt = 0 := fun z => y (by rw [eq_zi]; exact z)
                  have := h' M3 (f2.trans f3)
                  rw [decide_eq_false y'] at eJ this
                  rw [← eJ] at this
                  simp only [Bool.false_eq_true, if_false] at this
                  rw [← hl2, zi_nI] at this
                  exact this
                · have y' : v1.toInt = 0 := by rw [y]; rfl
                  have := h' M3 (f2.trans f3)
                  rw [decide_eq_true y'] at eJ this
                  rw [← eJ] at this
                  simp only [if_true] at this
                  rw [zi_nI] at this
                  exact this
          exact ten (vn V) 0 (by omega) (fun j hj => absurd hj (Nat.not_lt_zero j)) rfl
        have inner : ∀ r pos B D u6 u7, pos + r = c → B < 2 ^ vb V → D < 2 ^ vn V → runD (vb V) (vn V) p r pos (hr, B, D, rB, rD) = dR → jJ kB_X8_judge (d + 3) k 4 [mR 8 0 0, mI v1, mI (nI pos), mI (nI hr), mI (nI B), mI (nI D), u6, u7] [] M2 := by
          intro r
          induction r with
          | zero =>
            intro pos B D u6 u7 hi2 hB hDd hrun2
            refine v_X8_judge_4 _ _ _ _ _ _ _ ?_
            rw [hI2.pad.2.2.1]
            refine ifle (by omega) (by omega) (fun _ => ?_) (fun q => by omega)
            rw [runD] at hrun2
            dsimp only at hrun2
            have e1 : dR.2.1 hr = B := by rw [← hrun2]; dsimp only [updN]; rw [if_pos rfl]
            have e2 : dR.2.2 hr = D := by rw [← hrun2]; dsimp only [updN]; rw [if_pos rfl]
            have e3 : ¬ hr < 5 := fun q => by
              rw [if_pos q] at hrun2
              have : (pos : Int) = -6 := by rw [← hrun2] at e6; exact e6
              omega
            rw [← e1, ← e2]
            exact nine pos u6 u7 (by omega) (Or.inl (by omega))
          | succ r ih2 =>
            intro pos B D u6 u7 hi2 hB hDd hrun2
            obtain ⟨s1, s2⟩ := h5 pos (by omega)
            have e3 : M2 3 pos = nI (p pos) := (hI2.pad.2.2.2.2 pos (by omega)).2
            have st : dySt (vb V) (vn V) (hr, B, D, rB, rD) (p pos) = if p pos = 47 ∧ hr < 5 then some (hr + 1, 0, 0, updN rB hr B, updN rD hr D) else if 49 ≤ p pos ∧ p pos - 49 < vb V ∧ B.testBit (p pos - 49) = false then some (hr, B ||| 2 ^ (p pos - 49), D, rB, rD) else if 65 ≤ p pos ∧ p pos - 65 < vn V ∧ D.testBit (p pos - 65) = false then some (hr, B, D ||| 2 ^ (p pos - 65), rB, rD) else none := rfl
            have nn : ¬ dySt (vb V) (vn V) (hr, B, D, rB, rD) (p pos) = none := fun q => by
              rw [runD_n q] at hrun2
              have : (pos : Int) = -6 := by rw [← hrun2] at e6; exact e6
              omega
            refine v_X8_judge_4 _ _ _ _ _ _ _ ?_
            rw [hI2.pad.2.2.1]
            refine ifle (by omega) (by omega) (fun q => by omega) (fun _ => ⟨vp_in_nI (by omega) (by decide), ?_⟩)
            rw [nI_clamp (by omega), e3, show (47 : Int32) = nI 47 from rfl, nI_eq (by omega) (by decide)]
            refine ⟨fun x => ?_, fun x => ⟨vp_in_nI (by omega) (by decide), ?_⟩⟩
            · have h5' : hr < 5 := by
                by_cases q : hr < 5
                · exact q
                · exfalso
                  apply nn
                  rw [st, if_neg (by omega), if_neg (by omega), if_neg (by omega)]
              rw [if_pos ⟨x, h5'⟩] at st
              rw [runD_s st] at hrun2
              have rows := runD_rows (b := vb V) (n := vn V) (p := p) r (pos + 1) (hr + 1, 0, 0, updN rB hr B, updN rD hr D) hr (by dsimp only; omega)
              rw [hrun2] at rows
              dsimp only [updN] at rows
              rw [if_pos rfl, if_pos rfl] at rows
              rw [← rows.1, ← rows.2]
              exact nine pos u6 u7 (by omega) (Or.inr ⟨by omega, updN rB hr B, updN rD hr D, by
                rw [show c - (pos + 1) = r by omega]
                exact hrun2⟩)
            · rw [if_neg (fun q => x q.1)] at st
              have t49 : (49 : Int32).toInt = 49 := by decide
              have t52 : (52 : Int32).toInt = 52 := by decide
              have t65 : (65 : Int32).toInt = 65 := by decide
              have t72 : (72 : Int32).toInt = 72 := by decide
              have z0 : ∀ a, nI a ||| 0 = nI a := fun a => by rw [show (0 : Int32) = nI 0 from rfl, nI_or, Nat.or_zero]
              by_cases cb : 49 ≤ p pos ∧ p pos - 49 < vb V ∧ B.testBit (p pos - 49) = false
              · rw [if_pos cb] at st
                rw [runD_s st] at hrun2
                have z : nI (p pos) - 49 = nI (p pos - 49) := (sub_zi (t := 49)).trans (zi_nat (by omega))
                refine sp_inC (fun e => absurd ?_ e) (fun e => ⟨fun x => absurd x (by decide), fun _ => ⟨vp_in_nI (by omega) (by decide), v_X8_judge_6 _ _ _ _ _ _ _ _ _ ⟨vp_in_nI (by omega) (by decide), ?_⟩⟩⟩)
                · rw [nI_ti (by omega), t49, t52]; omega
                · rw [nI_clamp (by omega), e3]
                  refine sp_inC (fun e => ⟨fun _ => ?_, fun x => absurd rfl x⟩) (fun e => absurd e ?_)
                  · rw [z, sh_small (by omega), nI_or, z0, nI_1]
                    exact ih2 (pos + 1) _ D u6 u7 (by omega) (Nat.or_lt_two_pow hB (Nat.pow_lt_pow_right (by decide) cb.2.1)) hDd hrun2
                  · rw [nI_ti (by omega), t65, t72]; omega
              · rw [if_neg cb] at st
                have cd : 65 ≤ p pos ∧ p pos - 65 < vn V ∧ D.testBit (p pos - 65) = false := by
                  by_cases q : 65 ≤ p pos ∧ p pos - 65 < vn V ∧ D.testBit (p pos - 65) = false
                  · exact q
                  · exfalso
                    apply nn
                    rw [st, if_neg q]
                rw [if_pos cd] at st
                rw [runD_s st] at hrun2
                have z : nI (p pos) - 65 = nI (p pos - 65) := (sub_zi (t := 65)).trans (zi_nat (by omega))
                refine sp_inC (fun e => ⟨fun _ => v_X8_judge_6 _ _ _ _ _ _ _ _ _ ⟨vp_in_nI (by omega) (by decide), ?_⟩, fun x => absurd rfl x⟩) (fun e => absurd e ?_)
                · rw [nI_clamp (by omega), e3]
                  refine sp_inC (fun e => absurd ?_ e) (fun e => ⟨fun x => absurd x (by decide), fun _ => ⟨vp_in_nI (by omega) (by decide), ?_⟩⟩)
                  · rw [nI_ti (by omega), t65, t72]; omega
                  · rw [e3, z, sh_small (by omega), nI_or, z0, nI_1]
                    exact ih2 (pos + 1) B _ u6 u7 (by omega) hB (Nat.or_lt_two_pow hDd (Nat.pow_lt_pow_right (by decide) cd.2.1)) hrun2
                · rw [nI_ti (by omega), t49, t52]; omega
        refine v_X8_judge_3 _ _ _ _ _ _ _ (ifle (a := 6) (b := hr) (by decide) (by omega) (fun q => by omega) (fun _ => ?_))
        exact inner (c - pos) pos 0 0 u6 u7 (by omega) (Nat.pow_pos (by decide)) (Nat.pow_pos (by decide)) hrun
    exact key 6 0 0 M1 _ _ _ _ (by decide) f1 l1 (Or.inr ⟨Nat.zero_le _, fun _ => 0, fun _ => 0, by rw [Nat.sub_zero]; exact hD⟩) rfl
  · have := h M (Keep.rfl' M)
    rw [if_neg (fun q => q e0), if_pos (by omega)] at this
    exact this
