/-! CALLS: put, where -/
theorem ite_p {c : Prop} [Decidable c] {A B : Prop} (h : if c then A else B) : (c ∧ A) ∨ (¬ c ∧ B) := by
  by_cases e : c
  · rw [if_pos e] at h; exact Or.inl ⟨e, h⟩
  · rw [if_neg e] at h; exact Or.inr ⟨e, h⟩
abbrev TI (V : AV) (hour c p : Nat) (w : Int) : Prop := TG (insG (vG V) c p) (vn V + 1) (vb V) hour w
def PutR (V : AV) (v1 v2 v3 x : Int32) : Prop := if ¬ ((0 ≤ v2.toInt ∧ v2.toInt ≤ 5) ∧ (0 ≤ v3.toInt ∧ v3.toInt ≤ vn V)) then x = -1 else if ¬ (0 ≤ v1.toInt ∧ v1.toInt ≤ 5) then x = -2 else if vn V = 8 then x = -4 else ∃ W, TMax (TI V (tn v1) (tn v2) (tn v3)) W ∧ x = zi W
theorem PutR.one {V : AV} {v1 v2 v3 x y : Int32} (h : PutR V v1 v2 v3 x) (h' : PutR V v1 v2 v3 y) : x = y := by
  unfold PutR at h h'
  rcases ite_p h with ⟨c, h⟩ | ⟨c, h⟩ <;> rcases ite_p h' with ⟨c', h'⟩ | ⟨c', h'⟩
  · rw [h, h']
  · exact absurd c c'
  · exact absurd c' c
  · rcases ite_p h with ⟨c, h⟩ | ⟨c, h⟩ <;> rcases ite_p h' with ⟨c', h'⟩ | ⟨c', h'⟩
    · rw [h, h']
    · exact absurd c c'
    · exact absurd c' c
    · rcases ite_p h with ⟨c, h⟩ | ⟨c, h⟩ <;> rcases ite_p h' with ⟨c', h'⟩ | ⟨c', h'⟩
      · rw [h, h']
      · exact absurd c c'
      · exact absurd c' c
      · obtain ⟨W, h1, h2⟩ := h
        obtain ⟨W', g1, g2⟩ := h'
        rw [h2, g2, TMax.one h1 g1]
/-- the class' trial lane: the lane as it is, one house more, and its best -/
theorem c_putTry {d : Nat} {k : mQ} {M : mM} {V : AV} {c K : Nat} {p : Nat → Nat} {kd pl hour : Nat} {W0 B0 : Int} {D0 : Nat} (hI : InvP V c p K M) (h8 : vn V < 8) (hk : kd < 6) (hp : pl ≤ vn V) (hh : hour < 6) (hs : PSt M (W0, B0, D0)) (hbd : PBd (W0, B0, D0))
    (h : ∀ M' r W B D, SFr M M' → PSt M' (W, B, D) → PBd (W, B, D) → ((r = false ∧ W = W0 ∧ ∀ w, TI V hour kd pl w → w ≤ W0) ∨ (r = true ∧ W0 < W ∧ TI V hour kd pl W ∧ ∀ w, TI V hour kd pl w → w ≤ W)) → k (mI (bI r)) M') :
    wpD mB mNL (d + vn V + 9) zX2_copyOf [mR 2 0 27, mR 2 0 38] M (fun r_5 M_4 => wV r_5 (wpD mB mNL (d + vn V + 9) zX2_insertHouse [mR 2 0 27, mI (nI kd), mI (nI pl)] M_4 (fun r_8 M_7 => wV r_8 (wpD mB mNL (d + vn V + 9) zX5_improve [mR 5 0 26, mI (nI hour)] M_7 k)))) := by
  obtain ⟨o1, o2, o3, o4, -⟩ := hI.ok
  refine sp_copyLane (d := d + vn V + 7) (by decide) ?_
  have l0 : LnC (vG V) (cpyL M 38 27) 27 (vn V) := hI.lnC.cpy o2.2 (by decide)
  refine sp_insertHouse (d := d + vn V + 7) (p := pl) l0 h8 hp (fun M2 f2 l2 => ?_)
  have fr : ∀ k j, k < 27 ∨ 30 < k → M2 k j = M k j := fun k j q => by rw [f2 k j (by omega), cpyL_out (by omega)]
  refine sp_imp (G := insG (vG V) kd pl) (n := vn V + 1) o1 (hI.hydC.of (fun j => fr 36 j (by decide)) (fun j => fr 37 j (by decide))) l2 ?_ (by omega) (insG_LR o4 hk hp) o3 hh (W0 := W0) (B0 := B0) (D0 := D0) ?_ hbd (fun M3 r W B D f3 p3 b3 e3 => h M3 r W B D (fun k j q => ?_) p3 b3 e3)
  · rw [f2 27 1 (by omega), cpyL_0.2]; exact hI.bC
  · obtain ⟨s1, s2, s3⟩ := hs
    exact ⟨by rw [fr 26 1 (by decide)]; exact s1, by rw [fr 26 2 (by decide)]; exact s2, by rw [fr 26 3 (by decide)]; exact s3⟩
  · rw [f3 k j (by omega)]; exact fr k j (by omega)
theorem fgt_PSt {M : mM} : PSt (up (up (up M 26 1 (-6)) 26 2 (-6)) 26 3 0) (-6, -6, 0) := ⟨by rw [up_j (by decide), up_j (by decide), up_at]; rfl, by rw [up_j (by decide), up_at]; rfl, by rw [up_at]; rfl⟩
theorem fgt_SFr {M : mM} : SFr M (up (up (up M 26 1 (-6)) 26 2 (-6)) 26 3 0) := fun k j q => by rw [up_k (by omega), up_k (by omega), up_k (by omega)]
theorem fgt_PBd : PBd (-6, -6, 0) := ⟨by decide, by decide, by decide, by decide, by decide⟩
theorem SFr.trans {M M' M'' : mM} (h : SFr M M') (h' : SFr M' M'') : SFr M M'' := fun k j q => (h' k j q).trans (h k j q)
theorem TI_ge {V : AV} {hour kd pl : Nat} {w : Int} (hV : VOK V) (hk : kd < 6) (hp : pl ≤ vn V) (h : TI V hour kd pl w) : 0 ≤ w ∧ w ≤ 1000 := by
  obtain ⟨o1, o2, o3, o4, -⟩ := hV
  have := TG.ge (G := insG (vG V) kd pl) (n := vn V + 1) (m := vb V) o1 (insG_LR o4 hk hp) h
  omega
theorem cx_put {d : Nat} {k : mQ} {M : mM} {V : AV} {c K : Nat} {p : Nat → Nat} {v1 v2 v3 : Int32} (hI : InvP V c p K M) (h : ∀ M' x, Keep M M' → PutR V v1 v2 v3 x → k (mI x) M') : wpD mB mNL (d + vn V + 10) zX7_put [mR 7 0 14, mI v1, mI v2, mI v3] M k := by
  obtain ⟨o1, o2, o3, o4, -⟩ := hI.ok
  have h0 := fun x => h M x (Keep.rfl' M)
  refine v_X7_put_0 _ _ _ (sp_isNoKind (d := d + vn V + 8) (fun e => ⟨fun _ => h0 _ ?_, fun c => absurd c (by decide)⟩) (fun e1 => ⟨fun c => absurd rfl c, fun _ => ?_⟩))
  · unfold PutR; rw [if_pos (fun q => e q.1)]
  rw [hI.lnC.1]
  simp only [lt_zi, le_zi, li0, nI_ti (show vn V < 2147483648 by omega)]
  refine ⟨fun c => h0 _ ?_, fun c1 => ⟨fun c2 => ?_, fun c => h0 _ ?_⟩⟩
  · unfold PutR; rw [if_pos (by omega)]
  · have hA : ¬ ¬ ((0 ≤ v2.toInt ∧ v2.toInt ≤ 5) ∧ (0 ≤ v3.toInt ∧ v3.toInt ≤ vn V)) := fun q => q ⟨e1, by omega⟩
    refine sp_isNoHour (d := d + vn V + 8) (fun e => ⟨fun c => absurd c (by decide), fun _ => h0 _ ?_⟩) (fun e2 => ⟨fun _ => ?_, fun c => absurd rfl c⟩)
    · unfold PutR; rw [if_neg hA, if_pos e]
    refine sp_isFull (d := d + vn V + 8) hI.lnC.1 (by omega) (ifb (fun e3 => ?_) (fun e3 => h0 _ ?_))
    · have n8 : vn V < 8 := Nat.not_le.mp (of_decide_eq_false e3)
      have a1 : v1 = nI (tn v1) := tn_eq e2.1
      have b1 : tn v1 < 6 := tn_lt e2.1 (by omega)
      have a2 : v2 = nI (tn v2) := tn_eq e1.1
      have b2 : tn v2 < 6 := tn_lt e1.1 (by omega)
      have a3 : v3 = nI (tn v3) := tn_eq (by omega)
      have b3 : tn v3 ≤ vn V := by unfold tn; omega
      refine sp_forgetPlans (d := d + vn V + 8) ?_
      have hI1 := hI.keep (SFr.keep (fgt_SFr (M := M)))
      have := c_putTry (d := d) (k := fun r_23 M_22 => wI r_23 fun x_25 => k (mI (M_22 26 1)) M_22) hI1 n8 b2 b3 b1 fgt_PSt fgt_PBd (fun M1 r W B D f p1 b4 e4 => ?_)
      · rw [← a1, ← a2, ← a3] at this
        exact this
      · show k (mI (M1 26 1)) M1
        rw [p1.1]
        refine h M1 _ (SFr.keep (fgt_SFr.trans f)) ?_
        unfold PutR
        rw [if_neg hA, if_neg (fun q => q e2), if_neg (by omega)]
        refine ⟨W, ?_, rfl⟩
        rcases e4 with ⟨-, q1, q2⟩ | ⟨-, q1, q2, q3⟩
        · exact Or.inl ⟨q1, fun w q => by have := q2 w q; have := TI_ge hI.ok b2 b3 q; omega⟩
        · exact Or.inr ⟨q2, q3⟩
    · have n8 : 8 ≤ vn V := of_decide_eq_true e3
      unfold PutR; rw [if_neg hA, if_neg (fun q => q e2), if_pos (by omega)]
  · unfold PutR; rw [if_pos (by omega)]
/-- the model's: one house more, and its best -/
theorem m_putTry {d : Nat} {k : mQ} {M : mM} {V : AV} {c K : Nat} {p : Nat → Nat} {kd pl hour : Nat} (hI : InvP V c p K M) (h8 : vn V < 8) (hk : kd < 6) (hp : pl ≤ vn V) (hh : hour < 6)
    (h : ∀ M' W, Keep M M' → TMax (TI V hour kd pl) W → -6 ≤ W → W ≤ 1000 → k (mI (zi W)) M') :
    wpD mB mNL (d + 3) zX8_putAt [mR 8 0 0, mI (nI kd), mI (nI pl)] M (fun r_2 M_1 => wV r_2 (wpD mB mNL (d + 3) zX8_layBest [mR 8 0 0, mI (nI hour)] M_1 k)) := by
  obtain ⟨o1, o2, o3, o4, -⟩ := hI.ok
  refine sp_putAt (d := d + 1) hI.lnP o2.2 hp (fun M1 f1 l1 => ?_)
  have hI1 := hI.keep (asLane_keep f1)
  refine sp_layBest (G := insG (vG V) kd pl) (n := vn V + 1) o1 hI1.hydM l1 (by omega) hI1.bM (insG_LR o4 hk hp) o3 hh (fun W L D M2 hB f2 _ => ?_)
  have := IsB.bd (G := insG (vG V) kd pl) (n := vn V + 1) (m := vb V) o1 (insG_LR o4 hk hp) (by omega) hB
  exact h M2 W ((asLane_keep f1).trans (lb_keep f2)) hB.tmax this.1 this.2.1
theorem cm_put {d : Nat} {k : mQ} {M : mM} {V : AV} {c K : Nat} {p : Nat → Nat} {v1 v2 v3 : Int32} (hI : InvP V c p K M) (h : ∀ M' x, Keep M M' → PutR V v1 v2 v3 x → k (mI x) M') : wpD mB mNL (d + 5) zX8_put [mR 8 0 0, mI v1, mI v2, mI v3] M k := by
  obtain ⟨o1, o2, o3, o4, -⟩ := hI.ok
  have h0 := fun x => h M x (Keep.rfl' M)
  refine v_X8_put_0 _ _ _ (sp_inC (fun e => ⟨fun _ => h0 _ ?_, fun c => absurd rfl c⟩) (fun e1 => ⟨fun c => absurd c (by decide), fun _ => ?_⟩))
  · rw [li0, li5] at e
    unfold PutR; rw [if_pos (fun q => e q.1)]
  rw [li0, li5] at e1
  rw [hI.lnP.1]
  refine sp_inC (fun e => ⟨fun c => absurd rfl c, fun _ => h0 _ ?_⟩) (fun e2 => ⟨fun _ => ?_, fun c => absurd c (by decide)⟩)
  · rw [li0, nI_ti (show vn V < 2147483648 by omega)] at e
    unfold PutR; rw [if_pos (fun q => e q.2)]
  rw [li0, nI_ti (show vn V < 2147483648 by omega)] at e2
  have hA : ¬ ¬ ((0 ≤ v2.toInt ∧ v2.toInt ≤ 5) ∧ (0 ≤ v3.toInt ∧ v3.toInt ≤ vn V)) := fun q => q ⟨e1, e2⟩
  refine sp_inC (fun e => ⟨fun c => absurd rfl c, fun _ => h0 _ ?_⟩) (fun e3 => ⟨fun _ => ?_, fun c => absurd c (by decide)⟩)
  · rw [li0, li5] at e
    unfold PutR; rw [if_neg hA, if_pos e]
  rw [li0, li5] at e3
  refine ⟨fun c4 => ?_, fun c4 => h0 _ ?_⟩
  · have n8 : vn V < 8 := by
      rcases Nat.lt_or_ge (vn V) 8 with q | q
      · exact q
      · exact absurd (by rw [hI.lnP.1, show vn V = 8 by omega]; rfl) c4
    have a1 : v1 = nI (tn v1) := tn_eq e3.1
    have b1 : tn v1 < 6 := tn_lt e3.1 (by omega)
    have a2 : v2 = nI (tn v2) := tn_eq e1.1
    have b2 : tn v2 < 6 := tn_lt e1.1 (by omega)
    have a3 : v3 = nI (tn v3) := tn_eq (by omega)
    have b3 : tn v3 ≤ vn V := by unfold tn; omega
    have := m_putTry (d := d + 1) (k := fun r_17 M_16 => wI r_17 fun x_19 => k (mI x_19) M_16) hI n8 b2 b3 b1 (fun M1 W f e _ _ => ?_)
    · rw [← a1, ← a2, ← a3] at this
      exact this
    · refine h M1 _ f ?_
      unfold PutR
      rw [if_neg hA, if_neg (fun q => q e3), if_neg (by omega)]
      exact ⟨W, e, rfl⟩
  · have n8 : vn V = 8 := nI_inj (by omega) (by decide) (hI.lnP.1.symm.trans c4)
    unfold PutR; rw [if_neg hA, if_neg (fun q => q e3), if_pos n8]
def WhereR (V : AV) (v1 v2 v3 x : Int32) : Prop := if ¬ (0 ≤ v2.toInt ∧ v2.toInt ≤ 5) then x = -1 else if ¬ ((0 ≤ v1.toInt ∧ v1.toInt ≤ 5) ∧ (0 ≤ v3.toInt ∧ v3.toInt ≤ 1)) then x = -2 else if vn V = 8 then x = -4 else
  ∃ f W, Fnd (TI V (tn v1) (tn v2)) (fun i => i) (fun i => i < vn V + 1) f W ∧ x = if v3.toInt = 0 then zi f else zi W
theorem WhereR.one {V : AV} {v1 v2 v3 x y : Int32} (h : WhereR V v1 v2 v3 x) (h' : WhereR V v1 v2 v3 y) : x = y := by
  unfold WhereR at h h'
  rcases ite_p h with ⟨c, h⟩ | ⟨c, h⟩ <;> rcases ite_p h' with ⟨c', h'⟩ | ⟨c', h'⟩
  · rw [h, h']
  · exact absurd c c'
  · exact absurd c' c
  · rcases ite_p h with ⟨c, h⟩ | ⟨c, h⟩ <;> rcases ite_p h' with ⟨c', h'⟩ | ⟨c', h'⟩
    · rw [h, h']
    · exact absurd c c'
    · exact absurd c' c
    · rcases ite_p h with ⟨c, h⟩ | ⟨c, h⟩ <;> rcases ite_p h' with ⟨c', h'⟩ | ⟨c', h'⟩
      · rw [h, h']
      · exact absurd c c'
      · exact absurd c' c
      · obtain ⟨f, W, h1, h2⟩ := h
        obtain ⟨f', W', g1, g2⟩ := h'
        obtain ⟨rfl, rfl⟩ := Fnd.one (fun i j _ _ e => e) h1 g1
        rw [h2, g2]
theorem cx_where {d : Nat} {k : mQ} {M : mM} {V : AV} {c K : Nat} {p : Nat → Nat} {v1 v2 v3 : Int32} (hI : InvP V c p K M) (h : ∀ M' x, Keep M M' → WhereR V v1 v2 v3 x → k (mI x) M') : wpD mB mNL (d + vn V + 11) zX7_where [mR 7 0 14, mI v1, mI v2, mI v3] M k := by
  obtain ⟨o1, o2, o3, o4, -⟩ := hI.ok
  have h0 := fun x => h M x (Keep.rfl' M)
  refine v_X7_where_0 _ _ _ (sp_isNoKind (d := d + vn V + 9) (fun e => ⟨fun c => absurd c (by decide), fun _ => h0 _ ?_⟩) (fun e1 => ⟨fun _ => ?_, fun c => absurd rfl c⟩))
  · unfold WhereR; rw [if_pos e]
  have hA : ¬ ¬ (0 ≤ v2.toInt ∧ v2.toInt ≤ 5) := fun q => q e1
  refine sp_isNoHour (d := d + vn V + 9) (fun e => ⟨fun _ => h0 _ ?_, fun c => absurd c (by decide)⟩) (fun e2 => ⟨fun c => absurd rfl c, fun _ => ?_⟩)
  · unfold WhereR; rw [if_neg hA, if_pos (fun q => e q.1)]
  simp only [lt_zi, le_zi, li0, li1]
  refine ⟨fun c => h0 _ ?_, fun c1 => ⟨fun c2 => ?_, fun c => h0 _ ?_⟩⟩
  · unfold WhereR; rw [if_neg hA, if_pos (by omega)]
  · have hB : ¬ ¬ ((0 ≤ v1.toInt ∧ v1.toInt ≤ 5) ∧ (0 ≤ v3.toInt ∧ v3.toInt ≤ 1)) := fun q => q ⟨e2, by omega⟩
    refine sp_isFull (d := d + vn V + 9) hI.lnC.1 (by omega) (ifb (fun e3 => ?_) (fun e3 => h0 _ ?_))
    · have n8 : vn V < 8 := Nat.not_le.mp (of_decide_eq_false e3)
      have a1 : v1 = nI (tn v1) := tn_eq e2.1
      have b1 : tn v1 < 6 := tn_lt e2.1 (by omega)
      have a2 : v2 = nI (tn v2) := tn_eq e1.1
      have b2 : tn v2 < 6 := tn_lt e1.1 (by omega)
      have fin : ∀ M1 f W B D, SFr M M1 → PSt M1 (W, B, D) → Fnd (TI V (tn v1) (tn v2)) (fun i => i) (fun i => i < vn V + 1) f W → ((¬ v3 = 0 → k (mI (M1 26 1)) M1) ∧ (v3 = 0 → k (mI (zi f)) M1)) := fun M1 f W B D fr hp hF => by
        have q0 : v3 = 0 ↔ v3.toInt = 0 := lit (n := 0) (by decide)
        rw [q0, hp.1]
        refine ⟨fun c => h M1 _ fr.keep ?_, fun c => h M1 _ fr.keep ?_⟩ <;> unfold WhereR <;> rw [if_neg hA, if_neg hB, if_neg (by omega)] <;> refine ⟨f, W, hF, ?_⟩
        · rw [if_neg c]
        · rw [if_pos c]
      have key : ∀ m i M1 f W B D, i + m = vn V + 1 → SFr M M1 → PSt M1 (W, B, D) → PBd (W, B, D) → Fnd (TI V (tn v1) (tn v2)) (fun i => i) (fun q => q < i) f W →
          jJ kB_X7_searchPlace (d + vn V + 9) (fun r_14 M_13 => wI r_14 fun x_16 => ((¬ v3 = 0 → k (mI (M_13 26 1)) M_13) ∧ (v3 = 0 → k (mI x_16) M_13))) 1 [mR 7 0 14, mI v1, mI v2, mI (zi f), mI (nI i)] [] M1 := by
        intro m
        induction m with
        | zero =>
          intro i M1 f W B D hi fr hp hb hF
          refine v_X7_searchPlace_1 _ _ _ _ ?_
          rw [(hI.keep fr.keep).lnC.1]
          have : i = vn V + 1 := by omega
          subst this
          exact iflt (by omega) (by omega) (fun _ => fin M1 f W B D fr hp hF) (fun c => by omega)
        | succ m ih =>
          intro i M1 f W B D hi fr hp hb hF
          refine v_X7_searchPlace_1 _ _ _ _ ?_
          have hI1 := hI.keep fr.keep
          rw [hI1.lnC.1]
          refine iflt (by omega) (by omega) (fun c => by omega) (fun _ => ?_)
          have bw := hF.bd (N := vn V + 1) (m := 1000) (fun q hq => by omega) (fun q w hq hT => (TI_ge hI.ok b2 (by omega) hT).2) (by decide)
          have := c_putTry (d := d) (k := fun r_11 M_10 => wI r_11 fun x_13 => ((x_13 = 0 → jJ kB_X7_searchPlace (d + vn V + 9) (fun r_14 M_13 => wI r_14 fun x_16 => ((¬ v3 = 0 → k (mI (M_13 26 1)) M_13) ∧ (v3 = 0 → k (mI x_16) M_13))) 1 [mR 7 0 14, mI v1, mI v2, mI (zi f), mI (nI i + 1)] [] M_10) ∧
             (¬ x_13 = 0 → jJ kB_X7_searchPlace (d + vn V + 9) (fun r_14 M_13 => wI r_14 fun x_16 => ((¬ v3 = 0 → k (mI (M_13 26 1)) M_13) ∧ (v3 = 0 → k (mI x_16) M_13))) 1 [mR 7 0 14, mI v1, mI v2, mI (nI i), mI (nI i + 1)] [] M_10))) hI1 n8 b2 (show i ≤ vn V by omega) b1 hp hb (fun M2 r W' B' D' f2 p2 b4 e4 => ifb (fun er => ?_) (fun er => ?_))
          · rw [← a1, ← a2] at this
            exact this
          · rw [nI_1]
            rcases e4 with ⟨-, q1, q2⟩ | ⟨q0, -⟩
            · subst q1
              exact ih (i + 1) M2 f W' B' D' (by omega) (fr.trans f2) p2 b4 ((hF.no (i := i) q2 (fun j hj _ _ => Nat.le_of_lt hj)).cong (fun q => by omega))
            · rw [er] at q0
              cases q0
          · rw [nI_1, ← zi_nI i]
            rcases e4 with ⟨q0, -⟩ | ⟨-, q1, q2, q3⟩
            · rw [er] at q0
              cases q0
            · exact ih (i + 1) M2 i W' B' D' (by omega) (fr.trans f2) p2 b4 ((hF.yes (i := i) (TI_ge hI.ok b2 (by omega) q2).1 q2 q3 q1).cong (fun q => by omega))
      refine wpD_at (as' := [mR 7 0 14, mI v1, mI v2]) rfl (v_X7_searchPlace_0 (d := d + vn V + 9) _ _ (sp_forgetPlans (d := d + vn V + 8) ?_))
      exact key (vn V + 1) 0 _ (-6) (-6) (-6) 0 (by omega) fgt_SFr fgt_PSt fgt_PBd (Fnd.none (fun i q => absurd q (Nat.not_lt_zero i)))
    · have n8 : 8 ≤ vn V := of_decide_eq_true e3
      unfold WhereR; rw [if_neg hA, if_neg hB, if_pos (by omega)]
  · unfold WhereR; rw [if_neg hA, if_pos (by omega)]

theorem cm_where {d : Nat} {k : mQ} {M : mM} {V : AV} {c K : Nat} {p : Nat → Nat} {v1 v2 v3 : Int32} (hI : InvP V c p K M) (h : ∀ M' x, Keep M M' → WhereR V v1 v2 v3 x → k (mI x) M') : wpD mB mNL (d + 5) zX8_where [mR 8 0 0, mI v1, mI v2, mI v3] M k := by
  obtain ⟨o1, o2, o3, o4, -⟩ := hI.ok
  have h0 := fun x => h M x (Keep.rfl' M)
  refine v_X8_where_0 _ _ _ (sp_inC (fun e => ⟨fun c => absurd rfl c, fun _ => h0 _ ?_⟩) (fun e1 => ⟨fun _ => ?_, fun c => absurd c (by decide)⟩))
  · rw [li0, li5] at e
    unfold WhereR; rw [if_pos e]
  rw [li0, li5] at e1
  have hA : ¬ ¬ (0 ≤ v2.toInt ∧ v2.toInt ≤ 5) := fun q => q e1
  refine sp_inC (fun e => ⟨fun _ => h0 _ ?_, fun c => absurd rfl c⟩) (fun e2 => ⟨fun c => absurd c (by decide), fun _ => ?_⟩)
  · rw [li0, li5] at e
    unfold WhereR; rw [if_neg hA, if_pos (fun q => e q.1)]
  rw [li0, li5] at e2
  refine sp_inC (fun e => ⟨fun c => absurd rfl c, fun _ => h0 _ ?_⟩) (fun e3 => ⟨fun _ => ⟨fun c4 => ?_, fun c4 => h0 _ ?_⟩, fun c => absurd c (by decide)⟩)
  · rw [li0, li1] at e
    unfold WhereR; rw [if_neg hA, if_pos (fun q => e q.2)]
  · rw [li0, li1] at e3
    have hB : ¬ ¬ ((0 ≤ v1.toInt ∧ v1.toInt ≤ 5) ∧ (0 ≤ v3.toInt ∧ v3.toInt ≤ 1)) := fun q => q ⟨e2, e3⟩
    have n8 : vn V < 8 := by
      rcases Nat.lt_or_ge (vn V) 8 with q | q
      · exact q
      · exact absurd (by rw [hI.lnP.1, show vn V = 8 by omega]; rfl) c4
    have a1 : v1 = nI (tn v1) := tn_eq e2.1
    have b1 : tn v1 < 6 := tn_lt e2.1 (by omega)
    have a2 : v2 = nI (tn v2) := tn_eq e1.1
    have b2 : tn v2 < 6 := tn_lt e1.1 (by omega)
    have key : ∀ m i M1 f W u, i + m = vn V + 1 → Keep M M1 → Fnd (TI V (tn v1) (tn v2)) (fun i => i) (fun q => q < i) f W →
        jJ kB_X8_where (d + 4) k 5 [mR 8 0 0, mI v1, mI v2, mI v3, mI (zi f), mI (zi W), mI (nI i), u] [] M1 := by
      intro m
      induction m with
      | zero =>
        intro i M1 f W u hi fr hF
        refine v_X8_where_5 _ _ _ _ _ _ _ ?_
        rw [(hI.keep fr).lnP.1]
        have : i = vn V + 1 := by omega
        subst this
        refine iflt (by omega) (by omega) (fun _ => ?_) (fun c => by omega)
        have q0 : v3 = 0 ↔ v3.toInt = 0 := lit (n := 0) (by decide)
        rw [q0]
        refine ⟨fun c => h M1 _ fr ?_, fun c => h M1 _ fr ?_⟩ <;> unfold WhereR <;> rw [if_neg hA, if_neg hB, if_neg (by omega)] <;> refine ⟨f, W, hF, ?_⟩
        · rw [if_neg c]
        · rw [if_pos c]
      | succ m ih =>
        intro i M1 f W u hi fr hF
        refine v_X8_where_5 _ _ _ _ _ _ _ ?_
        have hI1 := hI.keep fr
        rw [hI1.lnP.1]
        refine iflt (by omega) (by omega) (fun c => by omega) (fun _ => ?_)
        have bw := hF.bd (N := vn V + 1) (m := 1000) (fun q hq => by omega) (fun q w hq hT => (TI_ge hI.ok b2 (by omega) hT).2) (by decide)
        have := m_putTry (d := d + 1) (k := fun r_22 M_21 => wI r_22 fun x_24 => ((x_24 ≤ zi W → jJ kB_X8_where (d + 4) k 5 [mR 8 0 0, mI v1, mI v2, mI v3, mI (zi f), mI (zi W), mI (nI i + 1), mI x_24] [] M_21) ∧
         (¬ x_24 ≤ zi W → jJ kB_X8_where (d + 4) k 5 [mR 8 0 0, mI v1, mI v2, mI v3, mI (nI i), mI x_24, mI (nI i + 1), mI x_24] [] M_21))) hI1 n8 b2 (show i ≤ vn V by omega) b1 (fun M2 W' f2 e c1 c2 => ?_)
        · rw [← a1, ← a2] at this
          exact this
        · show (_ ∧ _)
          rw [zi_le (by omega) (by omega) (by omega) (by omega), nI_1]
          refine ⟨fun c => ih (i + 1) M2 f W _ (by omega) (fr.trans f2) ((hF.no (i := i) (fun w hw => ?_) (fun j hj _ _ => Nat.le_of_lt hj)).cong (fun q => by omega)), fun c => ?_⟩
          · rcases e with ⟨-, q⟩ | ⟨-, q⟩
            · exact absurd hw (q w)
            · have := q w hw; omega
          · rw [← zi_nI i]
            rcases e with ⟨q1, -⟩ | ⟨q1, q2⟩
            · omega
            · exact ih (i + 1) M2 i W' _ (by omega) (fr.trans f2) ((hF.yes (i := i) (TI_ge hI.ok b2 (by omega) q1).1 q1 q2 (by omega)).cong (fun q => by omega))
    exact key (vn V + 1) 0 M (-6) (-6) none (by omega) (Keep.rfl' M) (Fnd.none (fun i q => absurd q (Nat.not_lt_zero i)))
  · rw [li0, li1] at e3
    have hB : ¬ ¬ ((0 ≤ v1.toInt ∧ v1.toInt ≤ 5) ∧ (0 ≤ v3.toInt ∧ v3.toInt ≤ 1)) := fun q => q ⟨e2, e3⟩
    have n8 : vn V = 8 := nI_inj (by omega) (by decide) (hI.lnP.1.symm.trans c4)
    unfold WhereR; rw [if_neg hA, if_neg hB, if_pos n8]
