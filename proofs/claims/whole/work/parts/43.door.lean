/-! CALLS: fits, door -/
abbrev okHD (V : AV) (v1 v2 : Int32) : Prop := (0 ≤ v1.toInt ∧ v1.toInt ≤ 5) ∧ (0 ≤ v2.toInt ∧ v2.toInt < 2 ^ vn V)
theorem okHD_bits {V : AV} {v1 v2 : Int32} : okBits V v1 0 v2 ↔ okHD V v1 v2 := by
  have : (0 : Int) < 2 ^ vb V := Int.pow_pos (by decide)
  simp only [okHD, okBits, li0]
  constructor
  · exact fun h => ⟨h.1, h.2.2⟩
  · exact fun h => ⟨h.1, ⟨Int.le_refl _, this⟩, h.2⟩
def fitsV (V : AV) (v1 v2 v3 : Int32) : Int32 := if ¬ okHD V v1 v2 then -2 else if v3.toInt = -1 then nI (fsU V (tn v1) (tn v2) (2 ^ vb V)).length else if 0 ≤ v3.toInt ∧ v3.toInt < (fsU V (tn v1) (tn v2) (2 ^ vb V)).length then nI ((fsU V (tn v1) (tn v2) (2 ^ vb V)).getD (tn v3) 0) else -6
theorem cx_fits {d : Nat} {k : mQ} {M : mM} {V : AV} {c K : Nat} {p : Nat → Nat} {v1 v2 v3 : Int32} (hI : InvP V c p K M) (h : ∀ M', Keep M M' → k (mI (fitsV V v1 v2 v3)) M') : wpD mB mNL (d + 7) zX7_fits [mR 7 0 14, mI v1, mI v2, mI v3] M k := by
  obtain ⟨o1, o2, o3, o4, -⟩ := hI.ok
  have p1 : 2 ^ vb V ≤ 2 ^ 4 := Nat.pow_le_pow_right (by decide) o3
  have bad0 : ¬ okHD V v1 v2 → k (mI (-2)) M := fun e => by
    have h0 := h M (Keep.rfl' M)
    unfold fitsV at h0
    rw [if_pos e] at h0
    exact h0
  refine v_X7_fits_0 _ _ _ (sp_isNoHour (d := d + 5) (fun e => ⟨fun _ => bad0 (fun q => e q.1), fun c => absurd c (by decide)⟩) (fun e1 => ⟨fun c => absurd rfl c, fun _ => ?_⟩))
  refine sp_areNoDraws (d := d + 4) hI.lnC.1 (by omega) (fun e => ⟨fun c => absurd c (by decide), fun _ => bad0 (fun q => e q.2)⟩) (fun e2 => ⟨fun _ => ?_, fun c => absurd rfl c⟩)
  have hok : okHD V v1 v2 := ⟨e1, e2⟩
  have a1 : v1 = nI (tn v1) := tn_eq e1.1
  have b1 : tn v1 < 6 := tn_lt e1.1 (by omega)
  obtain ⟨a2, b2, b3⟩ := bits_lt (by omega) e2
  refine wpD_at (as' := [mR 7 0 14, mI (nI (tn v1)), mI (nI (tn v2))]) (by rw [← a1, ← a2]) (sp_gather hI b1 b3 (fun M1 f g => ?_))
  have hlen := fsU_len (V := V) (hour := tn v1) (D := tn v2) (2 ^ vb V)
  have h9 := h M1 f
  unfold fitsV at h9
  rw [if_neg (fun q => q hok)] at h9
  have lm : v3 = -1 ↔ v3.toInt = -1 := by rw [eq_zi, lim1]
  show (_ ∧ _)
  rw [lm]
  refine ⟨fun c => ?_, fun c => ?_⟩
  · rw [if_neg c] at h9
    rw [lt_zi, li0, le_zi, nI_ti (by omega)]
    refine ⟨fun c2 => ?_, fun c2 => ⟨fun c3 => ?_, fun c3 => ?_⟩⟩
    · rw [if_neg (by omega)] at h9; exact h9
    · rw [if_neg (by omega)] at h9; exact h9
    · have a3 : v3 = nI (tn v3) := tn_eq (by omega)
      have b4 : tn v3 < (fsU V (tn v1) (tn v2) (2 ^ vb V)).length := tn_lt (by omega) (by omega)
      rw [if_pos (by omega), ← g.1 _ b4] at h9
      exact wpD_at (as' := [mR 50 16 68, mI (nI (tn v3))]) (by rw [← a3]) (sp_cell (by omega) (by decide) h9)
  · rw [if_pos c] at h9; exact h9
theorem cm_fits {d : Nat} {k : mQ} {M : mM} {V : AV} {c K : Nat} {p : Nat → Nat} {v1 v2 v3 : Int32} (hI : InvP V c p K M) (h : ∀ M', Keep M M' → k (mI (fitsV V v1 v2 v3)) M') : wpD mB mNL (d + 4) zX8_fits [mR 8 0 0, mI v1, mI v2, mI v3] M k := by
  obtain ⟨o1, o2, o3, o4, -⟩ := hI.ok
  have p1 : 2 ^ vb V ≤ 2 ^ 4 := Nat.pow_le_pow_right (by decide) o3
  have bad0 : ¬ okHD V v1 v2 → k (mI (-2)) M := fun e => by
    have h0 := h M (Keep.rfl' M)
    unfold fitsV at h0
    rw [if_pos e] at h0
    exact h0
  refine v_X8_fits_0 _ _ _ (sp_areBitsC (d := d + 1) hI.lnP.1 hI.bM (by omega) (by omega) (fun e2 => ⟨fun c => absurd rfl c, fun _ => bad0 (fun q => e2 (okHD_bits.mpr q))⟩) (fun hb => ⟨fun _ => ?_, fun c => absurd c (by decide)⟩))
  have hok := okHD_bits.mp hb
  have e1 := hok.1
  have e2 := hok.2
  have a1 : v1 = nI (tn v1) := tn_eq e1.1
  have b1 : tn v1 < 6 := tn_lt e1.1 (by omega)
  obtain ⟨a2, b2, b3⟩ := bits_lt (by omega) e2
  have lm : v3 = -1 ↔ v3.toInt = -1 := by rw [eq_zi, lim1]
  unfold fitsV at h
  refine m_asLane hI (fun M1 f1 l1 => ?_)
  have key : ∀ m L M2, L + m = 2 ^ vb V → Keep M M2 → LnM (vG V) M2 (vn V) → ¬ (0 ≤ v3.toInt ∧ v3.toInt < (fsU V (tn v1) (tn v2) L).length) → jJ kB_X8_fits (d + 3) k 2 [mR 8 0 0, mI v1, mI v2, mI v3, mI (nI (fsU V (tn v1) (tn v2) L).length), mI (nI L)] [] M2 := by
    intro m
    induction m with
    | zero =>
      intro L M2 hi f l hno
      have : L = 2 ^ vb V := by omega
      subst this
      have h9 := h M2 f
      rw [if_neg (fun q => q hok)] at h9
      refine v_X8_fits_2 _ _ _ _ _ ?_
      rw [(hI.keep f).bM, sh_small (by omega), lm]
      refine ifle (by omega) (by omega) (fun _ => ⟨fun x => ?_, fun x => ?_⟩) (fun q => by omega)
      · rw [if_neg x, if_neg hno] at h9; exact h9
      · rw [if_pos x] at h9; exact h9
    | succ m ih =>
      intro L M2 hi f l hno
      have hI2 := hI.keep f
      have hlen := fsU_len (V := V) (hour := tn v1) (D := tn v2) L
      refine v_X8_fits_2 _ _ _ _ _ ?_
      rw [hI2.bM, sh_small (by omega)]
      refine ifle (by omega) (by omega) (fun q => by omega) (fun _ => ?_)
      refine wpD_at (as' := [mR 8 0 0, mI (nI (tn v1)), mI (nI L), mI (nI (tn v2))]) (by rw [← a1, ← a2]) (sp_isFelt hI2 l b1 (by omega) b3 (fun M3 f3 l3 _ => ?_))
      refine ifb (fun e => ?_) (fun e => ?_)
      · rw [nI_1]
        have := ih (L + 1) M3 (by omega) (f.trans f3) l3 (by rw [fsU_f e]; exact hno)
        rw [fsU_f e] at this
        exact this
      · have len : (fsU V (tn v1) (tn v2) (L + 1)).length = (fsU V (tn v1) (tn v2) L).length + 1 := by rw [fsU_t e]; simp
        have e3 : nI (fsU V (tn v1) (tn v2) L).length = v3 ↔ v3.toInt = (fsU V (tn v1) (tn v2) L).length := by
          rw [eq_zi, nI_ti (by omega)]
          exact eq_comm
        rw [e3, nI_1, nI_1]
        refine ⟨fun x => ?_, fun x => ?_⟩
        · have := ih (L + 1) M3 (by omega) (f.trans f3) l3 (by rw [len]; omega)
          rw [len] at this
          exact this
        · have h9 := h M3 (f.trans f3)
          obtain ⟨y1, y2⟩ := fsU_at (N := 2 ^ vb V) (show L < 2 ^ vb V by omega) e
          have y0 : tn v3 = v3.toInt.toNat := rfl
          have y3 : tn v3 = (fsU V (tn v1) (tn v2) L).length := by omega
          rw [if_neg (fun q => q hok), if_neg (by omega), if_pos (by omega), y3, y1] at h9
          exact h9
  exact key (2 ^ vb V) 0 M1 (by omega) f1 l1 (by
    show ¬ (0 ≤ v3.toInt ∧ v3.toInt < ((0 : Nat) : Int))
    omega)
/-- how many of a list are like x -/
def cntF (t : Nat → Int) (x : Int) : List Nat → Nat
  | [] => 0
  | o :: fs => if t o = x then cntF t x fs + 1 else cntF t x fs
theorem cntF_app {t : Nat → Int} {x : Int} : ∀ a b, cntF t x (a ++ b) = cntF t x a + cntF t x b
  | [], b => by simp [cntF]
  | o :: a, b => by
    have ih := cntF_app (t := t) (x := x) a b
    rw [List.cons_append, cntF, cntF, ih]
    split <;> omega
theorem cntF_le {t : Nat → Int} {x : Int} : ∀ a, cntF t x a ≤ a.length
  | [] => Nat.le_refl 0
  | o :: a => by
    have ih := cntF_le (t := t) (x := x) a
    rw [cntF, List.length_cons]
    split <;> omega
/-- the most alike -/
def mstF (t : Nat → Int) (fs : List Nat) : List Nat → Nat
  | [] => 0
  | s :: r => max (mstF t fs r) (cntF t (t s) fs)
theorem mstF_app {t : Nat → Int} {fs : List Nat} : ∀ a b, mstF t fs (a ++ b) = max (mstF t fs a) (mstF t fs b)
  | [], b => by simp [mstF]
  | s :: a, b => by
    have ih := mstF_app (t := t) (fs := fs) a b
    rw [List.cons_append, mstF, mstF, ih]
    omega
theorem mstF_le {t : Nat → Int} {fs : List Nat} : ∀ a, mstF t fs a ≤ fs.length
  | [] => Nat.zero_le _
  | s :: a => by
    have ih := mstF_le (t := t) (fs := fs) a
    have := cntF_le (t := t) (x := t s) fs
    rw [mstF]
    omega
theorem mstF_pos {t : Nat → Int} {s : Nat} {r : List Nat} : 0 < mstF t (s :: r) (s :: r) := by
  rw [mstF, cntF, if_pos rfl]
  omega
theorem nI_max {a b : Nat} (ha : a < 2147483648) (hb : b < 2147483648) : (if nI a < nI b then nI b else nI a) = nI (max a b) := by
  by_cases c : a < b
  · rw [if_pos ((nI_ltI ha hb).mpr c), Nat.max_eq_right (by omega)]
  · rw [if_neg (fun q => c ((nI_ltI ha hb).mp q)), Nat.max_eq_left (by omega)]
theorem sp_mostAlike {d : Nat} {k : mQ} {M : mM} {V : AV} {hour D h : Nat} {fs : List Nat} (hV : VOK V) (hh : h < vn V) (hlen : fs.length ≤ 16) (g : GaR V hour D fs M) (hk : k (mI (nI (mstF (fun l => tnF V hour l D h) fs fs))) M) : wpD mB mNL (d + 2) zX7_mostAlike [mR 7 0 14, mI (nI h), mI (nI fs.length)] M k := by
  have n8 := hV.2.1.2
  have cell : ∀ {k : mQ} pre (o : Nat) rest, fs = pre ++ o :: rest → k (mI (zi (tnF V hour o D h))) M → wpD mB mNL (d + 1) zX7_cell [mR 50 128 69, mI ((nI pre.length * 8) + nI h)] M k := fun pre o rest e hk => by
    have l : pre.length < fs.length := by rw [e]; simp
    have e8 : nI pre.length * 8 + nI h = nI (8 * pre.length + h) := by rw [show (8 : Int32) = nI 8 from rfl, pk_mul, nI_add, Nat.mul_comm]
    rw [e8]
    refine sp_cell (by omega) (by decide) ?_
    have := g.2 pre.length h l hh
    rw [e, gd_hi] at this
    rw [this]
    exact hk
  have outer : ∀ rest pre u5 u6 u7, fs = pre ++ rest → jJ kB_X7_mostAlike (d + 1) k 1 [mR 7 0 14, mI (nI h), mI (nI fs.length), mI (nI (mstF (fun l => tnF V hour l D h) fs pre)), mI (nI pre.length), u5, u6, u7] [] M := by
    intro rest
    induction rest with
    | nil =>
      intro pre u5 u6 u7 e
      have l : pre.length = fs.length := by rw [e]; simp
      refine v_X7_mostAlike_1 _ _ _ _ _ _ _ ?_
      rw [l]
      refine ifle (by omega) (by omega) (fun _ => ?_) (fun q => by omega)
      rw [List.append_nil] at e
      rw [← e]
      exact hk
    | cons s rest ih =>
      intro pre u5 u6 u7 e
      have l : pre.length < fs.length := by rw [e]; simp
      refine v_X7_mostAlike_1 _ _ _ _ _ _ _ (ifle (by omega) (by omega) (fun q => by omega) (fun _ => cell pre s rest e ?_))
      have inner : ∀ r2 p2, fs = p2 ++ r2 → jJ kB_X7_mostAlike (d + 1) k 2 [mR 7 0 14, mI (nI h), mI (nI fs.length), mI (nI (mstF (fun l => tnF V hour l D h) fs pre)), mI (nI pre.length), mI (zi (tnF V hour s D h)), mI (nI (cntF (fun l => tnF V hour l D h) (tnF V hour s D h) p2)), mI (nI p2.length)] [] M := by
        intro r2
        induction r2 with
        | nil =>
          intro p2 e2
          have l2 : p2.length = fs.length := by rw [e2]; simp
          rw [List.append_nil] at e2
          have b1 := mstF_le (t := fun l => tnF V hour l D h) (fs := fs) pre
          have b2 := cntF_le (t := fun l => tnF V hour l D h) (x := tnF V hour s D h) p2
          refine v_X7_mostAlike_2 _ _ _ _ _ _ _ ?_
          rw [l2]
          refine ifle (by omega) (by omega) (fun _ => ?_) (fun q => by omega)
          rw [nI_max (by omega) (by omega), nI_1]
          have := ih (pre ++ [s]) (mI (zi (tnF V hour s D h))) (mI (nI (cntF (fun l => tnF V hour l D h) (tnF V hour s D h) p2))) (mI (nI fs.length)) (by rw [e]; simp)
          rw [mstF_app, List.length_append] at this
          have e4 : max (mstF (fun l => tnF V hour l D h) fs pre) (mstF (fun l => tnF V hour l D h) fs [s]) = max (mstF (fun l => tnF V hour l D h) fs pre) (cntF (fun l => tnF V hour l D h) (tnF V hour s D h) p2) := by
            rw [← e2, mstF, mstF]
            omega
          rw [e4] at this
          exact this
        | cons o r2 ih2 =>
          intro p2 e2
          have l2 : p2.length < fs.length := by rw [e2]; simp
          have so : o ∈ fs := by rw [e2]; simp
          refine v_X7_mostAlike_2 _ _ _ _ _ _ _ (ifle (by omega) (by omega) (fun q => by omega) (fun _ => cell p2 o r2 e2 ?_))
          obtain ⟨-, -, t1, t2⟩ := ar_ok (L := o) (D := D) (hour := hour) hV hh
          obtain ⟨-, -, t3, t4⟩ := ar_ok (L := s) (D := D) (hour := hour) hV hh
          have := ih2 (p2 ++ [o]) (by rw [e2]; simp)
          rw [cntF_app, List.length_append] at this
          show (_ ∧ _)
          rw [zi_eq (by omega) (by omega) (by omega) (by omega), nI_1, nI_1]
          refine ⟨fun x => ?_, fun x => ?_⟩
          · rw [cntF, if_neg x, cntF] at this
            exact this
          · rw [cntF, if_pos x, cntF] at this
            exact this
      exact inner fs [] (by simp)
  exact v_X7_mostAlike_0 _ _ (outer fs [] none none none (by simp))
/-- house and how many alike there, after the first houses -/
def drS (ms : Nat → Nat) : Nat → Int × Int
  | 0 => (-6, -6)
  | h + 1 => if (drS ms h).1 < 0 ∨ (ms h : Int) < (drS ms h).2 then ((h : Int), (ms h : Int)) else drS ms h
theorem drS_bd {ms : Nat → Nat} {N : Nat} (h : ∀ i, ms i ≤ N) : ∀ i, -6 ≤ (drS ms i).1 ∧ (drS ms i).1 < i + 1 ∧ -6 ≤ (drS ms i).2 ∧ (drS ms i).2 ≤ N ∧ (0 < i → 0 ≤ (drS ms i).1)
  | 0 => by simp only [drS]; omega
  | i + 1 => by
    have ih := drS_bd h i
    have := h i
    rw [drS]
    split
    · dsimp only; omega
    · next c =>
      refine ⟨ih.1, by omega, ih.2.2.1, ih.2.2.2.1, fun _ => ?_⟩
      omega
def doorV (V : AV) (v1 v2 v3 : Int32) : Int32 := if ¬ (okHD V v1 v2 ∧ 0 ≤ v3.toInt ∧ v3.toInt ≤ 1) then -2 else if fsU V (tn v1) (tn v2) (2 ^ vb V) = [] then -6 else
  if v3.toInt = 0 then zi (drS (fun h => mstF (fun l => tnF V (tn v1) l (tn v2) h) (fsU V (tn v1) (tn v2) (2 ^ vb V)) (fsU V (tn v1) (tn v2) (2 ^ vb V))) (vn V)).1 else zi (drS (fun h => mstF (fun l => tnF V (tn v1) l (tn v2) h) (fsU V (tn v1) (tn v2) (2 ^ vb V)) (fsU V (tn v1) (tn v2) (2 ^ vb V))) (vn V)).2
theorem cx_door {d : Nat} {k : mQ} {M : mM} {V : AV} {c K : Nat} {p : Nat → Nat} {v1 v2 v3 : Int32} (hI : InvP V c p K M) (h : ∀ M', Keep M M' → k (mI (doorV V v1 v2 v3)) M') : wpD mB mNL (d + 7) zX7_door [mR 7 0 14, mI v1, mI v2, mI v3] M k := by
  have hV := hI.ok
  obtain ⟨o1, o2, o3, o4, -⟩ := id hV
  have p1 : 2 ^ vb V ≤ 2 ^ 4 := Nat.pow_le_pow_right (by decide) o3
  have bad0 : ¬ (okHD V v1 v2 ∧ 0 ≤ v3.toInt ∧ v3.toInt ≤ 1) → k (mI (-2)) M := fun e => by
    have h0 := h M (Keep.rfl' M)
    unfold doorV at h0
    rw [if_pos e] at h0
    exact h0
  refine v_X7_door_0 _ _ _ (sp_isNoHour (d := d + 5) (fun e => ⟨fun _ => bad0 (fun q => e q.1.1), fun c => absurd c (by decide)⟩) (fun e1 => ⟨fun c => absurd rfl c, fun _ => ?_⟩))
  refine sp_areNoDraws (d := d + 4) hI.lnC.1 (by omega) (fun e => ⟨fun _ => bad0 (fun q => e q.1.2), fun c => absurd c (by decide)⟩) (fun e2 => ⟨fun c => absurd rfl c, fun _ => ?_⟩)
  simp only [lt_zi, le_zi, li0, li1]
  refine ⟨fun q => bad0 (by omega), fun c1 => ⟨fun c2 => ?_, fun q => bad0 (by omega)⟩⟩
  have hok : okHD V v1 v2 ∧ 0 ≤ v3.toInt ∧ v3.toInt ≤ 1 := ⟨⟨e1, e2⟩, by omega, c2⟩
  have a1 : v1 = nI (tn v1) := tn_eq e1.1
  have b1 : tn v1 < 6 := tn_lt e1.1 (by omega)
  obtain ⟨a2, b2, b3⟩ := bits_lt (by omega) e2
  refine wpD_at (as' := [mR 7 0 14, mI (nI (tn v1)), mI (nI (tn v2))]) (by rw [← a1, ← a2]) (sp_gather hI b1 b3 (fun M1 f g => ?_))
  have hlen := fsU_len (V := V) (hour := tn v1) (D := tn v2) (2 ^ vb V)
  have h9 := h M1 f
  have hI1 := hI.keep f
  unfold doorV at h9
  rw [if_neg (fun q => q hok)] at h9
  generalize hfs : fsU V (tn v1) (tn v2) (2 ^ vb V) = fs at *
  show (_ ∧ _)
  rw [show (0 : Int32) = nI 0 from rfl, nI_eq (by omega) (by decide)]
  refine ⟨fun c3 => ?_, fun c3 => ?_⟩
  · have ne : ¬ fs = [] := fun q => c3 (by rw [q]; rfl)
    rw [if_neg ne] at h9
    have bms : ∀ i, (fun h => mstF (fun l => tnF V (tn v1) l (tn v2) h) fs fs) i ≤ fs.length := fun i => mstF_le fs
    generalize hms : (fun h => mstF (fun l => tnF V (tn v1) l (tn v2) h) fs fs) = ms at *
    have msv : ∀ i, mstF (fun l => tnF V (tn v1) l (tn v2) i) fs fs = ms i := fun i => by rw [← hms]
    refine sp_mostAlike (d := d + 4) hV (show 0 < vn V by omega) (by omega) g ?_
    rw [msv]
    have key : ∀ m i u, i + m = vn V → 1 ≤ i → jJ kB_X7_door (d + 6) k 4 [mR 7 0 14, mI v1, mI v2, mI v3, mI (nI fs.length), mI (zi (drS ms i).1), mI (zi (drS ms i).2), mI (nI i), u] [] M1 := by
      intro m
      induction m with
      | zero =>
        intro i u hi h1
        have : i = vn V := by omega
        subst this
        have q0 : v3 = 0 ↔ v3.toInt = 0 := lit (n := 0) (by decide)
        refine v_X7_door_4 _ _ _ _ _ _ _ _ ?_
        rw [hI1.lnC.1, q0]
        refine ifle (by omega) (by omega) (fun _ => ⟨fun x => ?_, fun x => ?_⟩) (fun q => by omega)
        · rw [if_neg x] at h9; exact h9
        · rw [if_pos x] at h9; exact h9
      | succ m ih =>
        intro i u hi h1
        obtain ⟨x1, x2, x3, x4, x5⟩ := drS_bd bms i
        have bi := bms i
        refine v_X7_door_4 _ _ _ _ _ _ _ _ ?_
        rw [hI1.lnC.1]
        refine ifle (by omega) (by omega) (fun q => by omega) (fun _ => sp_mostAlike (d := d + 4) hV (by omega) (by omega) g ?_)
        rw [msv]
        have := ih (i + 1) (mI (nI (ms i))) (by omega) (by omega)
        rw [drS] at this
        show (_ ∧ _)
        rw [nI_zi (ms i), zi_le (by omega) (by omega) (by omega) (by omega), ← nI_zi (ms i), nI_1]
        refine ⟨fun y => ?_, fun y => ?_⟩
        · rw [if_neg (by omega)] at this; exact this
        · rw [if_pos (by omega)] at this
          dsimp only at this
          rw [zi_nI, zi_nI] at this
          exact this
    have := key (vn V - 1) 1 none (by omega) (Nat.le_refl 1)
    have e1 : drS ms 1 = ((0 : Int), (ms 0 : Int)) := by
      rw [drS, if_pos (Or.inl (by rw [drS]; decide))]
      rfl
    rw [e1] at this
    dsimp only at this
    rw [zi_nI] at this
    exact this
  · have : fs = [] := List.eq_nil_of_length_eq_zero c3
    rw [if_pos this] at h9
    exact h9

theorem mx_le {a b : Nat} {A B : Prop} (ha : a < 2147483648) (hb : b < 2147483648) (h1 : max b a = b → A) (h2 : max b a = a → B) : (nI a ≤ nI b → A) ∧ (¬ nI a ≤ nI b → B) :=
  ifle ha hb (fun c => h1 (by omega)) (fun c => h2 (by omega))
set_option maxHeartbeats 2000000 in
theorem cm_door {d : Nat} {k : mQ} {M : mM} {V : AV} {c K : Nat} {p : Nat → Nat} {v1 v2 v3 : Int32} (hI : InvP V c p K M) (h : ∀ M', Keep M M' → k (mI (doorV V v1 v2 v3)) M') : wpD mB mNL (d + 4) zX8_door [mR 8 0 0, mI v1, mI v2, mI v3] M k := by
  have hV := hI.ok
  obtain ⟨o1, o2, o3, o4, -⟩ := id hV
  have p1 : 2 ^ vb V ≤ 2 ^ 4 := Nat.pow_le_pow_right (by decide) o3
  have bad0 : ¬ (okHD V v1 v2 ∧ 0 ≤ v3.toInt ∧ v3.toInt ≤ 1) → k (mI (-2)) M := fun e => by
    have h0 := h M (Keep.rfl' M)
    unfold doorV at h0
    rw [if_pos e] at h0
    exact h0
  refine v_X8_door_0 _ _ _ (sp_areBitsC (d := d + 1) hI.lnP.1 hI.bM (by omega) (by omega) (fun e2 => ⟨fun _ => bad0 (fun q => e2 (okHD_bits.mpr q.1)), fun x => absurd rfl x⟩) (fun hb => ⟨fun x => absurd x (by decide), fun _ => ?_⟩))
  have hok0 := okHD_bits.mp hb
  refine sp_inC (fun e => ⟨fun x => absurd rfl x, fun _ => bad0 (fun q => e (by rw [li0, li1]; exact q.2))⟩) (fun e3 => ⟨fun _ => ?_, fun x => absurd x (by decide)⟩)
  rw [li0, li1] at e3
  have hok : okHD V v1 v2 ∧ 0 ≤ v3.toInt ∧ v3.toInt ≤ 1 := ⟨hok0, e3⟩
  have e1 := hok0.1
  have e2 := hok0.2
  have a1 : v1 = nI (tn v1) := tn_eq e1.1
  have b1 : tn v1 < 6 := tn_lt e1.1 (by omega)
  obtain ⟨a2, b2, b3⟩ := bits_lt (by omega) e2
  unfold doorV at h
  have hlen := fsU_len (V := V) (hour := tn v1) (D := tn v2) (2 ^ vb V)
  have bms : ∀ i, (fun h => mstF (fun l => tnF V (tn v1) l (tn v2) h) (fsU V (tn v1) (tn v2) (2 ^ vb V)) (fsU V (tn v1) (tn v2) (2 ^ vb V))) i ≤ (fsU V (tn v1) (tn v2) (2 ^ vb V)).length := fun i => mstF_le _
  have hpos : fsU V (tn v1) (tn v2) (2 ^ vb V) ≠ [] → ∀ i, 0 < (fun h => mstF (fun l => tnF V (tn v1) l (tn v2) h) (fsU V (tn v1) (tn v2) (2 ^ vb V)) (fsU V (tn v1) (tn v2) (2 ^ vb V))) i := fun ne i => by
    dsimp only
    cases hq : fsU V (tn v1) (tn v2) (2 ^ vb V) with
    | nil => exact absurd hq ne
    | cons s r => exact mstF_pos
  have hzero : fsU V (tn v1) (tn v2) (2 ^ vb V) = [] → ∀ i, (fun h => mstF (fun l => tnF V (tn v1) l (tn v2) h) (fsU V (tn v1) (tn v2) (2 ^ vb V)) (fsU V (tn v1) (tn v2) (2 ^ vb V))) i = 0 := fun e i => by
    dsimp only
    rw [e]
    rfl
  generalize hms : (fun h => mstF (fun l => tnF V (tn v1) l (tn v2) h) (fsU V (tn v1) (tn v2) (2 ^ vb V)) (fsU V (tn v1) (tn v2) (2 ^ vb V))) = ms at *
  have msv : ∀ i, mstF (fun l => tnF V (tn v1) l (tn v2) i) (fsU V (tn v1) (tn v2) (2 ^ vb V)) (fsU V (tn v1) (tn v2) (2 ^ vb V)) = ms i := fun i => by rw [← hms]
  -- what is found before house i
  let st : Nat → Int × Int := fun i => if fsU V (tn v1) (tn v2) (2 ^ vb V) = [] then (-6, -6) else drS ms i
  have stb : ∀ i, -6 ≤ (st i).1 ∧ (st i).1 < i + 1 ∧ -6 ≤ (st i).2 ∧ (st i).2 ≤ 16 := fun i => by
    have := drS_bd bms i
    show -6 ≤ (if _ then _ else _ : Int × Int).1 ∧ (if _ then _ else _ : Int × Int).1 < i + 1 ∧ -6 ≤ (if _ then _ else _ : Int × Int).2 ∧ (if _ then _ else _ : Int × Int).2 ≤ 16
    split
    · dsimp only; omega
    · omega
  have fin : ∀ M2, Keep M M2 → ((¬ v3 = 0 → k (mI (zi (st (vn V)).2)) M2) ∧ (v3 = 0 → k (mI (zi (st (vn V)).1)) M2)) := fun M2 f => by
    have h9 := h M2 f
    rw [if_neg (fun q => q hok)] at h9
    have q0 : v3 = 0 ↔ v3.toInt = 0 := lit (n := 0) (by decide)
    rw [q0]
    show (_ → k (mI (zi (if fsU V (tn v1) (tn v2) (2 ^ vb V) = [] then (-6, -6) else drS ms (vn V) : Int × Int).2)) M2) ∧ (_ → k (mI (zi (if fsU V (tn v1) (tn v2) (2 ^ vb V) = [] then (-6, -6) else drS ms (vn V) : Int × Int).1)) M2)
    by_cases e : fsU V (tn v1) (tn v2) (2 ^ vb V) = []
    · rw [if_pos e] at h9 ⊢
      exact ⟨fun _ => h9, fun _ => h9⟩
    · rw [if_neg e] at h9 ⊢
      refine ⟨fun x => ?_, fun x => ?_⟩
      · rw [if_neg x] at h9; exact h9
      · rw [if_pos x] at h9; exact h9
  have key : ∀ m i M2 u7 u8 u9 u10, i + m = vn V → Keep M M2 → LnM (vG V) M2 (vn V) → jJ kB_X8_door (d + 3) k 3 [mR 8 0 0, mI v1, mI v2, mI v3, mI (zi (st i).1), mI (zi (st i).2), mI (nI i), u7, u8, u9, u10] [] M2 := by
    intro m
    induction m with
    | zero =>
      intro i M2 u7 u8 u9 u10 hi f l
      have : i = vn V := by omega
      subst this
      refine v_X8_door_3 _ _ _ _ _ _ _ _ _ _ ?_
      rw [(hI.keep f).lnP.1]
      exact ifle (by omega) (by omega) (fun _ => fin M2 f) (fun q => by omega)
    | succ m ih =>
      intro i M2 u7 u8 u9 u10 hi f l
      have hiv : i < vn V := by omega
      refine v_X8_door_3 _ _ _ _ _ _ _ _ _ _ ?_
      rw [(hI.keep f).lnP.1]
      refine ifle (by omega) (by omega) (fun q => by omega) (fun _ => ?_)
      obtain ⟨sb1, sb2, sb3, sb4⟩ := stb i
      have tb : ∀ L, 0 ≤ tnF V (tn v1) L (tn v2) i ∧ tnF V (tn v1) L (tn v2) i ≤ 200000 := fun L => (ar_ok (L := L) (D := tn v2) (hour := tn v1) hV hiv).2.2
      have eight : ∀ r L M3 u9 u10, L + r = 2 ^ vb V → Keep M M3 → LnM (vG V) M3 (vn V) → (∀ l, l < 2 ^ vb V → M3 10 l = if fitB V (tn v1) l (tn v2) then zi (tnF V (tn v1) l (tn v2) i) else -6) →
          jJ kB_X8_door (d + 3) k 8 [mR 8 0 0, mI v1, mI v2, mI v3, mI (zi (st i).1), mI (zi (st i).2), mI (nI i), mI (nI (mstF (fun l => tnF V (tn v1) l (tn v2) i) (fsU V (tn v1) (tn v2) (2 ^ vb V)) (fsU V (tn v1) (tn v2) L))), mI (nI L), u9, u10] [] M3 := by
        intro r
        induction r with
        | zero =>
          intro L M3 u9 u10 hL f3 l3 arr
          have : L = 2 ^ vb V := by omega
          subst this
          refine v_X8_door_8 _ _ _ _ _ _ _ _ _ _ ?_
          have bi := bms i
          rw [(hI.keep f3).bM, sh_small (by omega), msv, nI_1]
          have nxt : ∀ u7 u8 u9 u10, (st (i + 1) = st i → jJ kB_X8_door (d + 3) k 3 [mR 8 0 0, mI v1, mI v2, mI v3, mI (zi (st i).1), mI (zi (st i).2), mI (nI (i + 1)), u7, u8, u9, u10] [] M3) ∧ (st (i + 1) = ((i : Int), (ms i : Int)) → jJ kB_X8_door (d + 3) k 3 [mR 8 0 0, mI v1, mI v2, mI v3, mI (nI i), mI (nI (ms i)), mI (nI (i + 1)), u7, u8, u9, u10] [] M3) := fun u7 u8 u9 u10 => by
            have := ih (i + 1) M3 u7 u8 u9 u10 (by omega) f3 l3
            refine ⟨fun e => by rw [e] at this; exact this, fun e => ?_⟩
            rw [e] at this
            dsimp only at this
            rw [zi_nI, zi_nI] at this
            exact this
          have s1 : st (i + 1) = if fsU V (tn v1) (tn v2) (2 ^ vb V) = [] then (-6, -6) else if (drS ms i).1 < 0 ∨ (ms i : Int) < (drS ms i).2 then ((i : Int), (ms i : Int)) else drS ms i := rfl
          have s0 : st i = if fsU V (tn v1) (tn v2) (2 ^ vb V) = [] then (-6, -6) else drS ms i := rfl
          refine ifle (by omega) (by omega) (fun _ => ifle (a := ms i) (b := 0) (by omega) (by decide) (fun x => ?_) (fun x => ?_)) (fun q => by omega)
          · have e : fsU V (tn v1) (tn v2) (2 ^ vb V) = [] := by
              by_cases e : fsU V (tn v1) (tn v2) (2 ^ vb V) = []
              · exact e
              · have := hpos e i
                omega
            exact (nxt _ _ _ _).1 (by rw [s1, s0, if_pos e, if_pos e])
          · have e : ¬ fsU V (tn v1) (tn v2) (2 ^ vb V) = [] := fun e => by have := hzero e i; omega
            rw [if_neg e] at s1 s0
            rw [show (0 : Int32) = zi 0 from rfl, zi_lt (by omega) (by omega) (by decide) (by decide), nI_zi (ms i), zi_le (by omega) (by omega) (by omega) (by omega), ← nI_zi (ms i)]
            rw [← s0] at s1
            refine ⟨fun y => (nxt _ _ _ _).2 (by rw [s1, if_pos (Or.inl y)]), fun y => ⟨fun z => (nxt _ _ _ _).1 (by rw [s1, if_neg (by omega)]), fun z => (nxt _ _ _ _).2 (by rw [s1, if_pos (Or.inr (by omega))])⟩⟩
        | succ r ih2 =>
          intro L M3 u9 u10 hL f3 l3 arr
          have hI3 := hI.keep f3
          have bm := mstF_le (t := fun l => tnF V (tn v1) l (tn v2) i) (fs := fsU V (tn v1) (tn v2) (2 ^ vb V)) (fsU V (tn v1) (tn v2) L)
          refine v_X8_door_8 _ _ _ _ _ _ _ _ _ _ ?_
          rw [hI3.bM, sh_small (by omega)]
          refine ifle (by omega) (by omega) (fun q => by omega) (fun _ => ?_)
          have eL := arr L (by omega)
          have nine : ∀ r2 L2, L2 + r2 = 2 ^ vb V → jJ kB_X8_door (d + 3) k 9 [mR 8 0 0, mI v1, mI v2, mI v3, mI (zi (st i).1), mI (zi (st i).2), mI (nI i), mI (nI (mstF (fun l => tnF V (tn v1) l (tn v2) i) (fsU V (tn v1) (tn v2) (2 ^ vb V)) (fsU V (tn v1) (tn v2) L))), mI (nI L), mI (nI (if fitB V (tn v1) L (tn v2) then cntF (fun l => tnF V (tn v1) l (tn v2) i) (tnF V (tn v1) L (tn v2) i) (fsU V (tn v1) (tn v2) L2) else 0)), mI (nI L2)] [] M3 := by
            intro r2
            induction r2 with
            | zero =>
              intro L2 h2
              have : L2 = 2 ^ vb V := by omega
              subst this
              have bc := cntF_le (t := fun l => tnF V (tn v1) l (tn v2) i) (x := tnF V (tn v1) L (tn v2) i) (fsU V (tn v1) (tn v2) (2 ^ vb V))
              have nx := ih2 (L + 1) M3
              refine v_X8_door_9 _ _ _ _ _ _ _ _ _ _ ?_
              rw [hI3.bM, sh_small (by omega), nI_1]
              refine ifle (by omega) (by omega) (fun _ => ?_) (fun q => by omega)
              cases ef : fitB V (tn v1) L (tn v2)
              · simp only [Bool.false_eq_true, if_false]
                refine ifle (a := 0) (by decide) (by omega) (fun _ => ?_) (fun q => by omega)
                have := nx (mI (nI 0)) (mI (nI (2 ^ vb V))) (by omega) f3 l3 arr
                rw [fsU_f ef] at this
                exact this
              · simp only [if_true]
                have e5 : mstF (fun l => tnF V (tn v1) l (tn v2) i) (fsU V (tn v1) (tn v2) (2 ^ vb V)) (fsU V (tn v1) (tn v2) (L + 1)) = max (mstF (fun l => tnF V (tn v1) l (tn v2) i) (fsU V (tn v1) (tn v2) (2 ^ vb V)) (fsU V (tn v1) (tn v2) L)) (cntF (fun l => tnF V (tn v1) l (tn v2) i) (tnF V (tn v1) L (tn v2) i) (fsU V (tn v1) (tn v2) (2 ^ vb V))) := by
                  rw [fsU_t ef, mstF_app, mstF, mstF]
                  omega
                have := nx (mI (nI (cntF (fun l => tnF V (tn v1) l (tn v2) i) (tnF V (tn v1) L (tn v2) i) (fsU V (tn v1) (tn v2) (2 ^ vb V))))) (mI (nI (2 ^ vb V))) (by omega) f3 l3 arr
                rw [e5] at this
                refine mx_le (by omega) (by omega) (fun x => ?_) (fun x => ?_)
                · rw [x] at this; exact this
                · rw [x] at this; exact this
            | succ r2 ih3 =>
              intro L2 h2
              have e2L := arr L2 (by omega)
              have := ih3 (L2 + 1) (by omega)
              refine v_X8_door_9 _ _ _ _ _ _ _ _ _ _ ?_
              have z0 : ∀ a, nI a + 0 = nI a := fun a => by rw [show (0 : Int32) = nI 0 from rfl, nI_add, Nat.add_zero]
              rw [hI3.bM, sh_small (by omega), nI_1, nI_clamp (by omega), nI_clamp (by omega), eL, e2L]
              refine ifle (by omega) (by omega) (fun q => by omega) (fun _ => ⟨vp_in_nI (by omega) (by decide), ?_⟩)
              have tL := tb L
              have tL2 := tb L2
              cases ef : fitB V (tn v1) L (tn v2) <;> rw [ef] at this
              · simp only [Bool.false_eq_true, if_false] at this ⊢
                rw [z0, nI_1 L2]
                exact ⟨fun _ => this, fun x => absurd (by decide) x⟩
              · simp only [if_true] at this ⊢
                rw [show (0 : Int32) = zi 0 from rfl, zi_lt (by omega) (by omega) (by decide) (by decide), show zi 0 = (0 : Int32) from rfl, z0, nI_1 L2]
                refine ⟨fun x => by omega, fun _ => ⟨vp_in_nI (by omega) (by decide), vp_in_nI (by omega) (by decide), ?_⟩⟩
                cases ef2 : fitB V (tn v1) L2 (tn v2)
                · simp only [Bool.false_eq_true, if_false]
                  rw [fsU_f ef2] at this
                  refine ⟨fun _ => this, fun x => ?_⟩
                  rw [show (-6 : Int32) = zi (-6) from rfl, zi_eq (by decide) (by decide) (by omega) (by omega)] at x
                  omega
                · simp only [if_true]
                  rw [fsU_t ef2, cntF_app] at this
                  rw [zi_eq (by omega) (by omega) (by omega) (by omega)]
                  refine ⟨fun x => ?_, fun x => ?_⟩
                  · rw [cntF, if_neg x, cntF] at this
                    exact this
                  · rw [cntF, if_pos x, cntF] at this
                    rw [nI_1]
                    exact this
          have := nine (2 ^ vb V) 0 (by omega)
          have e0 : (if fitB V (tn v1) L (tn v2) = true then cntF (fun l => tnF V (tn v1) l (tn v2) i) (tnF V (tn v1) L (tn v2) i) (fsU V (tn v1) (tn v2) 0) else 0) = 0 := by
            split <;> rfl
          rw [e0] at this
          exact this
      have four : ∀ r L M3, L + r = 2 ^ vb V → Keep M M3 → LnM (vG V) M3 (vn V) → (∀ l, l < L → M3 10 l = if fitB V (tn v1) l (tn v2) then zi (tnF V (tn v1) l (tn v2) i) else -6) →
          jJ kB_X8_door (d + 3) k 4 [mR 8 0 0, mI v1, mI v2, mI v3, mI (zi (st i).1), mI (zi (st i).2), mI (nI i), mI 0, mI (nI L), u9, u10] [] M3 := by
        intro r
        induction r with
        | zero =>
          intro L M3 hL f3 l3 arr
          have : L = 2 ^ vb V := by omega
          subst this
          refine v_X8_door_4 _ _ _ _ _ _ _ _ _ _ ?_
          rw [(hI.keep f3).bM, sh_small (by omega)]
          refine ifle (by omega) (by omega) (fun _ => ?_) (fun q => by omega)
          exact eight (2 ^ vb V) 0 M3 u9 u10 (by omega) f3 l3 arr
        | succ r ih2 =>
          intro L M3 hL f3 l3 arr
          have hI3 := hI.keep f3
          refine v_X8_door_4 _ _ _ _ _ _ _ _ _ _ ?_
          rw [hI3.bM, sh_small (by omega)]
          refine ifle (by omega) (by omega) (fun q => by omega) (fun _ => ?_)
          refine wpD_at (as' := [mR 8 0 0, mI (nI (tn v1)), mI (nI L), mI (nI (tn v2))]) (by rw [← a1, ← a2]) (sp_isFelt hI3 l3 b1 (by omega) b3 (fun M4 f4 l4 e4 => ?_))
          have put : ∀ v, v = (if fitB V (tn v1) L (tn v2) then zi (tnF V (tn v1) L (tn v2) i) else -6) → jJ kB_X8_door (d + 3) k 4 [mR 8 0 0, mI v1, mI v2, mI v3, mI (zi (st i).1), mI (zi (st i).2), mI (nI i), mI 0, mI (nI (L + 1)), u9, u10] [] (up M4 10 L v) := fun v ev => by
            refine ih2 (L + 1) _ (by omega) ((f3.trans f4).trans (fun k j q => by
              rw [up_k]
              rintro rfl
              exact q (by unfold scr; omega))) ?_ (fun l hl => ?_)
            · exact l4.of (up_k (by decide)) (fun j => up_k (by decide))
            · by_cases e : l = L
              · rw [e, up_at]; exact ev
              · rw [up_j e, e4.1.1 10 l (ngo (by decide) (by decide) (by decide))]
                exact arr l (by omega)
          rw [nI_1]
          refine ifb (fun e => ⟨vp_in_nI (by omega) (by decide), ?_⟩) (fun e => ⟨vp_in_nI (by omega) (by decide), vp_in_nI (by omega) (by decide), ?_, vp_in_nI (by omega) (by decide), ?_⟩)
          · rw [nI_clamp (by omega)]
            exact put (-6) (by rw [e]; rfl)
          all_goals
            obtain ⟨⟨x1, x2⟩, ⟨x3, x4⟩, t1, t2⟩ := ar_ok (L := L) (D := tn v2) (hour := tn v1) hV hiv
            obtain ⟨g1, g2⟩ := e4.1.2.2.2.2.2 i hiv
          · rw [nI_clamp (by omega), g1, show (0 : Int32) = zi 0 from rfl, zi_eq (by omega) (by omega) (by decide) (by decide)]; omega
          · rw [nI_clamp (by omega), nI_clamp (by omega), g1, g2, zi_div x3 (by omega) x1 (by omega)]
            exact put _ (by rw [e]; rfl)
      exact four (2 ^ vb V) 0 M2 (by omega) f l (fun l hl => absurd hl (Nat.not_lt_zero l))
  refine m_asLane hI (fun M1 f1 l1 => ?_)
  have := key (vn V) 0 M1 none none none none (by omega) f1 l1
  have e0 : st 0 = (-6, -6) := by
    show (if fsU V (tn v1) (tn v2) (2 ^ vb V) = [] then (-6, -6) else drS ms 0 : Int × Int) = (-6, -6)
    split <;> rfl
  rw [e0] at this
  exact this
