theorem c_mossTry {d : Nat} {k : mQ} {M : mM} {V : AV} {c K : Nat} {p : Nat → Nat} {S hour : Nat} {W0 B0 : Int} {D0 : Nat} (hI : InvP V c p K M) (hS : S < 2 ^ vn V) (hh : hour < 6) (hs : PSt M (W0, B0, D0)) (hbd : PBd (W0, B0, D0))
    (h : ∀ M' r W B D, SFr M M' → PSt M' (W, B, D) → PBd (W, B, D) → ((r = false ∧ W = W0 ∧ ∀ w, TM V hour S w → w ≤ W0) ∨ (r = true ∧ W0 < W ∧ TM V hour S W ∧ ∀ w, TM V hour S w → w ≤ W)) → k (mI (bI r)) M') :
    wpD mB mNL (d + vn V + 8) zX2_copyOf [mR 2 0 27, mR 2 0 38] M (fun r_5 M_4 => wV r_5 (wpD mB mNL (d + vn V + 8) zX2_coverPipes [mR 2 0 27, mI (nI S)] M_4 (fun r_8 M_7 => wV r_8 (wpD mB mNL (d + vn V + 8) zX5_improve [mR 5 0 26, mI (nI hour)] M_7 k)))) := by
  obtain ⟨o1, o2, o3, o4, -⟩ := hI.ok
  have p2 : 2 ^ vn V ≤ 2 ^ 8 := Nat.pow_le_pow_right (by decide) o2.2
  refine sp_copyLane (d := d + vn V + 6) (by decide) ?_
  have l0 : LnC (vG V) (cpyL M 38 27) 27 (vn V) := hI.lnC.cpy o2.2 (by decide)
  refine sp_coverPipes (d := d + vn V + 6) l0 o2.2 (by omega) (fun M2 f2 l2 => ?_)
  have fr : ∀ k j, k < 27 ∨ 30 < k → M2 k j = M k j := fun k j q => by rw [f2 k j (by omega), cpyL_out (by omega)]
  refine sp_imp (G := covG (vG V) S) (n := vn V) o1 (hI.hydC.of (fun j => fr 36 j (by decide)) (fun j => fr 37 j (by decide))) l2 ?_ o2.2 (covG_LR o4) o3 hh (W0 := W0) (B0 := B0) (D0 := D0) ?_ hbd (fun M3 r W B D f3 p3 b3 e3 => h M3 r W B D (fun k j q => ?_) p3 b3 e3)
  · rw [f2 27 1 (by omega), cpyL_0.2]; exact hI.bC
  · obtain ⟨s1, s2, s3⟩ := hs
    exact ⟨by rw [fr 26 1 (by decide)]; exact s1, by rw [fr 26 2 (by decide)]; exact s2, by rw [fr 26 3 (by decide)]; exact s3⟩
  · rw [f3 k j (by omega)]; exact fr k j (by omega)
theorem nI_min {a b : Nat} (ha : a < 2147483648) (hb : b < 2147483648) : (if nI a < nI b then nI a else nI b) = nI (min a b) := by
  by_cases c : a < b
  · rw [if_pos ((nI_ltI ha hb).mpr c), Nat.min_eq_left (by omega)]
  · rw [if_neg (fun q => c ((nI_ltI ha hb).mp q)), Nat.min_eq_right (by omega)]
theorem sub_0 {S P n : Nat} (hS : S < 2 ^ n) (hn : n ≤ 30) : nI S &&& (nI P ^^^ (-1)) = 0 ↔ S &&& P = S := by
  have p2 : 2 ^ n ≤ 2 ^ 30 := Nat.pow_le_pow_right (by decide) hn
  have hx : S ^^^ (S &&& P) < 2 ^ n := Nat.xor_lt_two_pow hS (Nat.lt_of_le_of_lt Nat.and_le_left hS)
  rw [nI_not]
  constructor
  · intro h
    have := nI_inj (b := 0) (by omega) (by decide) h
    refine Nat.eq_of_testBit_eq fun i => ?_
    have e : (S ^^^ (S &&& P)).testBit i = false := by rw [this]; simp
    rw [Nat.testBit_xor, Nat.testBit_and] at e
    rw [Nat.testBit_and]
    cases hs : S.testBit i <;> cases hp : P.testBit i <;> simp_all
  · intro h
    rw [h, Nat.xor_self]
    rfl
set_option maxHeartbeats 1000000 in
theorem cx_moss {d : Nat} {k : mQ} {M : mM} {V : AV} {c K : Nat} {p : Nat → Nat} {v1 v2 v3 : Int32} (hI : InvP V c p K M) (h : ∀ M' x, Keep M M' → MossR V v1 v2 v3 x → k (mI x) M') : wpD mB mNL (d + vn V + 10) zX7_moss [mR 7 0 14, mI v1, mI v2, mI v3] M k := by
  obtain ⟨o1, o2, o3, o4, -⟩ := hI.ok
  have p2 : 2 ^ vn V ≤ 2 ^ 8 := Nat.pow_le_pow_right (by decide) o2.2
  have p0 : 0 < 2 ^ vn V := Nat.pow_pos (by decide)
  have h0 := fun x => h M x (Keep.rfl' M)
  have l8 : (8 : Int32).toInt = 8 := by decide
  have bad : ¬ ((0 ≤ v1.toInt ∧ v1.toInt ≤ 5) ∧ (0 ≤ v2.toInt ∧ v2.toInt ≤ 8) ∧ (0 ≤ v3.toInt ∧ v3.toInt ≤ 1)) → k (mI (-2)) M := fun e => h0 _ (by unfold MossR; rw [if_pos e])
  refine v_X7_moss_0 _ _ _ (sp_isNoHour (d := d + vn V + 8) (fun e => ⟨fun _ => bad (fun q => e q.1), fun c => absurd c (by decide)⟩) (fun e1 => ⟨fun c => absurd rfl c, fun _ => ?_⟩))
  simp only [lt_zi, le_zi, li0, li1, l8]
  refine ⟨fun c => bad (by omega), fun c1 => ⟨fun c => bad (by omega), fun c2 => ⟨fun c => bad (by omega), fun c3 => ⟨fun c4 => ?_, fun c => bad (by omega)⟩⟩⟩⟩
  have hA : ¬ ¬ ((0 ≤ v1.toInt ∧ v1.toInt ≤ 5) ∧ (0 ≤ v2.toInt ∧ v2.toInt ≤ 8) ∧ (0 ≤ v3.toInt ∧ v3.toInt ≤ 1)) := fun q => q ⟨e1, by omega, by omega⟩
  have a1 : v1 = nI (tn v1) := tn_eq e1.1
  have b1 : tn v1 < 6 := tn_lt e1.1 (by omega)
  have a2 : v2 = nI (tn v2) := tn_eq (by omega)
  have b2 : tn v2 ≤ 8 := by unfold tn; omega
  have hp9 := pbN_lt (vG V) (vn V)
  have hb9 := bnF_le (pbN (vG V) (vn V)) 8
  let most := min (bnF (pbN (vG V) (vn V)) 8) (tn v2)
  have hm : most ≤ 8 := by show min _ _ ≤ 8; omega
  let kk : mQ := fun r_6 M_5 => wI r_6 fun x_8 => ((¬ v3 = 0 → k (mI (M_5 26 1)) M_5) ∧ (v3 = 0 → k (mI x_8) M_5))
  let Q : Nat → Nat → Nat → Prop := fun size set S => S < 2 ^ vn V ∧ S &&& pbN (vG V) (vn V) = S ∧ (bnF S 8 < size ∨ (bnF S 8 = size ∧ S < set))
  have fin : ∀ M1 f W B D, SFr M M1 → PSt M1 (W, B, D) → Fnd (TM V (tn v1)) kyM (PCs V most) f W → kk (mI (zi f)) M1 := fun M1 f W B D fr hp hF => by
    have q0 : v3 = 0 ↔ v3.toInt = 0 := lit (n := 0) (by decide)
    show (_ ∧ _)
    rw [q0, hp.1]
    refine ⟨fun c => h M1 _ fr.keep ?_, fun c => h M1 _ fr.keep ?_⟩ <;> unfold MossR <;> rw [if_neg hA] <;> refine ⟨f, W, hF, ?_⟩
    · rw [if_neg c]
    · rw [if_pos c]
  have inner : ∀ m set size M1 f W B D, set + m = 2 ^ vn V → size ≤ most → SFr M M1 → PSt M1 (W, B, D) → PBd (W, B, D) → Fnd (TM V (tn v1)) kyM (Q size set) f W →
      (∀ M2 f W B D u, SFr M M2 → PSt M2 (W, B, D) → PBd (W, B, D) → Fnd (TM V (tn v1)) kyM (Q (size + 1) 0) f W → jJ kB_X7_searchMoss (d + vn V + 8) kk 1 [mR 7 0 14, mI v1, mI v2, mI (zi f), mI (nI (pbN (vG V) (vn V))), mI (nI most), mI (nI (size + 1)), u] [] M2) →
      jJ kB_X7_searchMoss (d + vn V + 8) kk 2 [mR 7 0 14, mI v1, mI v2, mI (zi f), mI (nI (pbN (vG V) (vn V))), mI (nI most), mI (nI size), mI (nI set)] [] M1 := by
    intro m
    induction m with
    | zero =>
      intro set size M1 f W B D hi hsz fr hp hb hF hout
      have hI1 := hI.keep fr.keep
      refine v_X7_searchMoss_2 _ _ _ _ _ _ _ (sp_houseSets (d := d + vn V + 7) hI1.lnC.1 (by omega) (ifle (by omega) (by omega) (fun _ => ?_) (fun c => by omega)))
      rw [nI_1]
      refine hout M1 f W B D _ fr hp hb (hF.cong (fun S => ?_))
      have : set = 2 ^ vn V := by omega
      subst this
      exact ⟨fun q => ⟨q.1, q.2.1, by have := q.2.2; omega⟩, fun q => ⟨q.1, q.2.1, by have := q.1; have := q.2.2; omega⟩⟩
    | succ m ih =>
      intro set size M1 f W B D hi hsz fr hp hb hF hout
      have hI1 := hI.keep fr.keep
      have hset : set < 2 ^ vn V := by omega
      have hbs := bnF_le set 8
      refine v_X7_searchMoss_2 _ _ _ _ _ _ _ (sp_houseSets (d := d + vn V + 7) hI1.lnC.1 (by omega) (ifle (by omega) (by omega) (fun c => by omega) (fun _ => ?_)))
      rw [sub_0 hset (by omega), nI_1]
      have skip : ¬ (set &&& pbN (vG V) (vn V) = set ∧ bnF set 8 = size) → jJ kB_X7_searchMoss (d + vn V + 8) kk 2 [mR 7 0 14, mI v1, mI v2, mI (zi f), mI (nI (pbN (vG V) (vn V))), mI (nI most), mI (nI size), mI (nI (set + 1))] [] M1 := fun no =>
        ih (set + 1) size M1 f W B D (by omega) hsz fr hp hb (hF.cong (fun S => by
          constructor
          · exact fun q => ⟨q.1, q.2.1, by have := q.2.2; omega⟩
          · intro q
            refine ⟨q.1, q.2.1, ?_⟩
            rcases q.2.2 with e | ⟨e, e2⟩
            · exact Or.inl e
            · by_cases e3 : S = set
              · subst e3
                exact absurd ⟨q.2.1, e⟩ no
              · exact Or.inr ⟨e, by omega⟩)) hout
      refine ⟨fun c5 => skip (fun q => c5 q.1), fun c5 => sp_bitCount (d := d + vn V + 7) (by omega) ⟨fun c6 => skip (fun q => c6 (by rw [q.2])), fun c6 => ?_⟩⟩
      have c7 : bnF set 8 = size := nI_inj (by omega) (by omega) c6
      have hQ : ∀ S, (Q size set S ∨ S = set) ↔ Q size (set + 1) S := fun S => by
        constructor
        · rintro (q | rfl)
          · exact ⟨q.1, q.2.1, by have := q.2.2; omega⟩
          · exact ⟨hset, c5, Or.inr ⟨c7, by omega⟩⟩
        · intro q
          by_cases e3 : S = set
          · exact Or.inr e3
          · exact Or.inl ⟨q.1, q.2.1, by have := q.2.2; omega⟩
      have ord : ∀ j, Q size set j → kyM j ≤ kyM set := fun j q => by
        have a := q.1
        have b := q.2.2
        unfold kyM
        omega
      have bw := hF.bd (N := 256) (m := 1000) (fun q hq => by have := hq.1; omega) (fun q w hq hT => (TM_ge hI.ok hT).2) (by decide)
      refine wpD_at (as' := [mR 2 0 27, mR 2 0 38]) rfl ?_
      have := c_mossTry (d := d) (k := fun r_28 M_27 => wI r_28 fun x_30 => ((x_30 = 0 → jJ kB_X7_searchMoss (d + vn V + 8) kk 2 [mR 7 0 14, mI v1, mI v2, mI (zi f), mI (nI (pbN (vG V) (vn V))), mI (nI most), mI (nI size), mI (nI (set + 1))] [] M_27) ∧
                   (¬ x_30 = 0 → jJ kB_X7_searchMoss (d + vn V + 8) kk 2 [mR 7 0 14, mI v1, mI v2, mI (nI set), mI (nI (pbN (vG V) (vn V))), mI (nI most), mI (nI size), mI (nI (set + 1))] [] M_27))) hI1 hset b1 hp hb (fun M2 r W' B' D' f2 p3 b4 e4 => ifb (fun er => ?_) (fun er => ?_))
      · rw [← a1] at this
        exact this
      · rcases e4 with ⟨-, q1, q2⟩ | ⟨q0, -⟩
        · subst q1
          exact ih (set + 1) size M2 f W' B' D' (by omega) hsz (fr.trans f2) p3 b4 ((hF.no (i := set) q2 (fun j hj _ _ => ord j hj)).cong hQ) hout
        · rw [er] at q0
          cases q0
      · rw [← zi_nI set]
        rcases e4 with ⟨q0, -⟩ | ⟨-, q1, q2, q3⟩
        · rw [er] at q0
          cases q0
        · have := ih (set + 1) size M2 set W' B' D' (by omega) hsz (fr.trans f2) p3 b4 ((hF.yes (i := set) (TM_ge hI.ok q2).1 q2 q3 q1).cong hQ) hout
          exact this
  have outer : ∀ m size M1 f W B D u, size + m = most + 1 → SFr M M1 → PSt M1 (W, B, D) → PBd (W, B, D) → Fnd (TM V (tn v1)) kyM (Q size 0) f W →
      jJ kB_X7_searchMoss (d + vn V + 8) kk 1 [mR 7 0 14, mI v1, mI v2, mI (zi f), mI (nI (pbN (vG V) (vn V))), mI (nI most), mI (nI size), u] [] M1 := by
    intro m
    induction m with
    | zero =>
      intro size M1 f W B D u hi fr hp hb hF
      refine v_X7_searchMoss_1 _ _ _ _ _ _ _ (iflt (by omega) (by omega) (fun _ => fin M1 f W B D fr hp (hF.cong (fun S => ?_))) (fun c => by omega))
      exact ⟨fun q => ⟨q.1, q.2.1, by have := q.2.2; omega⟩, fun q => ⟨q.1, q.2.1, by have := q.2.2; omega⟩⟩
    | succ m ih =>
      intro size M1 f W B D u hi fr hp hb hF
      refine v_X7_searchMoss_1 _ _ _ _ _ _ _ (iflt (by omega) (by omega) (fun c => by omega) (fun _ => ?_))
      exact inner (2 ^ vn V) 0 size M1 f W B D (by omega) (by omega) fr hp hb hF (fun M2 f W B D u fr hp hb hF => ih (size + 1) M2 f W B D u (by omega) fr hp hb hF)
  refine v_X7_searchMoss_0 (d := d + vn V + 8) (k := kk) _ _ (sp_pipeBits (d := d + vn V + 5) hI.lnC o2.2 o4 (sp_bitCount (d := d + vn V + 7) (by omega) (sp_forgetPlans (d := d + vn V + 7) ?_)))
  have e9 : (if nI (bnF (pbN (vG V) (vn V)) 8) < v2 then nI (bnF (pbN (vG V) (vn V)) 8) else v2) = nI most := by
    conv => lhs; rw [a2]
    exact nI_min (by omega) (by omega)
  rw [e9]
  exact outer (most + 1) 0 _ (-6) (-6) (-6) 0 none (by omega) fgt_SFr fgt_PSt fgt_PBd (Fnd.none (fun i q => by have := q.2.2; omega))
