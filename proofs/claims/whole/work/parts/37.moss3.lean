set_option maxHeartbeats 1000000 in
theorem cm_moss {d : Nat} {k : mQ} {M : mM} {V : AV} {c K : Nat} {p : Nat → Nat} {v1 v2 v3 : Int32} (hI : InvP V c p K M) (h : ∀ M' x, Keep M M' → MossR V v1 v2 v3 x → k (mI x) M') : wpD mB mNL (d + 5) zX8_moss [mR 8 0 0, mI v1, mI v2, mI v3] M k := by
  obtain ⟨o1, o2, o3, o4, -⟩ := hI.ok
  have p2 : 2 ^ vn V ≤ 2 ^ 8 := Nat.pow_le_pow_right (by decide) o2.2
  have p0 : 0 < 2 ^ vn V := Nat.pow_pos (by decide)
  have h0 := fun x => h M x (Keep.rfl' M)
  have l8 : (8 : Int32).toInt = 8 := by decide
  have bad : ¬ ((0 ≤ v1.toInt ∧ v1.toInt ≤ 5) ∧ (0 ≤ v2.toInt ∧ v2.toInt ≤ 8) ∧ (0 ≤ v3.toInt ∧ v3.toInt ≤ 1)) → k (mI (-2)) M := fun e => h0 _ (by unfold MossR; rw [if_pos e])
  refine v_X8_moss_0 _ _ _ (sp_inC (fun e => ⟨fun _ => bad (fun q => e (by rw [li0, li5]; exact q.1)), fun c => absurd rfl c⟩) (fun e1 => ⟨fun c => absurd c (by decide), fun _ => ?_⟩))
  refine sp_inC (fun e => ⟨fun _ => bad (fun q => e (by rw [li0, l8]; exact q.2.1)), fun c => absurd rfl c⟩) (fun e2 => ⟨fun c => absurd c (by decide), fun _ => ?_⟩)
  refine sp_inC (fun e => ⟨fun c => absurd rfl c, fun _ => bad (fun q => e (by rw [li0, li1]; exact q.2.2))⟩) (fun e3 => ⟨fun _ => ?_, fun c => absurd c (by decide)⟩)
  rw [li0, li5] at e1
  rw [li0, l8] at e2
  rw [li0, li1] at e3
  have hA : ¬ ¬ ((0 ≤ v1.toInt ∧ v1.toInt ≤ 5) ∧ (0 ≤ v2.toInt ∧ v2.toInt ≤ 8) ∧ (0 ≤ v3.toInt ∧ v3.toInt ≤ 1)) := fun q => q ⟨e1, e2, e3⟩
  have a1 : v1 = nI (tn v1) := tn_eq e1.1
  have b1 : tn v1 < 6 := tn_lt e1.1 (by omega)
  have a2 : v2 = nI (tn v2) := tn_eq (by omega)
  have b2 : tn v2 ≤ 8 := by unfold tn; omega
  have E3 : ∀ m, (3 : Int32) * nI m = nI (3 * m) := fun m => by rw [show (3 : Int32) = nI 3 from rfl, pk_mul]
  let P : Nat → Nat → Prop := fun set S => S < set ∧ bnF S 8 ≤ tn v2
  have key : ∀ m set M1 f W u, set + m = 2 ^ vn V → Keep M M1 → Fnd (TM V (tn v1)) kyM (P set) f W → jJ kB_X8_moss (d + 4) k 3 [mR 8 0 0, mI v1, mI v2, mI v3, mI (zi f), mI (zi W), mI (nI set), u] [] M1 := by
    intro m
    induction m with
    | zero =>
      intro set M1 f W u hi fr hF
      refine v_X8_moss_3 _ _ _ _ _ _ _ ?_
      rw [(hI.keep fr).lnP.1, sh_small (by omega)]
      have : set = 2 ^ vn V := by omega
      subst this
      refine ifle (by omega) (by omega) (fun _ => ?_) (fun c => by omega)
      have q0 : v3 = 0 ↔ v3.toInt = 0 := lit (n := 0) (by decide)
      rw [q0]
      have hF2 := moss_conv hI.ok hF
      refine ⟨fun c => h M1 _ fr ?_, fun c => h M1 _ fr ?_⟩ <;> unfold MossR <;> rw [if_neg hA] <;> refine ⟨f, W, hF2, ?_⟩
      · rw [if_neg c]
      · rw [if_pos c]
    | succ m ih =>
      intro set M1 f W u hi fr hF
      have hset : set < 2 ^ vn V := by omega
      have hbs := bnF_le set 8
      have hI1 := hI.keep fr
      refine v_X8_moss_3 _ _ _ _ _ _ _ ?_
      rw [hI1.lnP.1, sh_small (by omega)]
      refine ifle (by omega) (by omega) (fun c => by omega) (fun _ => sp_bits (by omega) ?_)
      have hlt : (v2 < nI (bnF set 8) ↔ tn v2 < bnF set 8) := by
        conv => lhs; rw [a2]
        exact nI_ltI (by omega) (by omega)
      show (_ ∧ _)
      rw [hlt, nI_1]
      refine ⟨fun c5 => ih (set + 1) M1 f W u (by omega) fr (hF.cong (fun S => ?_)), fun c5 => ?_⟩
      · constructor
        · exact fun q => ⟨by have := q.1; omega, q.2⟩
        · intro q
          refine ⟨?_, q.2⟩
          have q1 := q.1
          have q2 := q.2
          rcases Nat.lt_or_ge S set with e | e
          · exact e
          · have : S = set := by omega
            subst this
            omega
      have hQ : ∀ S, (P set S ∨ S = set) ↔ P (set + 1) S := fun S => by
        constructor
        · rintro (q | rfl)
          · exact ⟨by have := q.1; omega, q.2⟩
          · exact ⟨by omega, by omega⟩
        · intro q
          by_cases e3 : S = set
          · exact Or.inr e3
          · exact Or.inl ⟨by have := q.1; omega, q.2⟩
      have bw := hF.bd (N := 256) (m := 1000) (fun q hq => by have := hq.1; omega) (fun q w hq hT => (TM_ge hI.ok hT).2) (by decide)
      have inner : ∀ r i M2, i + r = vn V → Keep M M2 → M2 0 9 = nI (vn V) → (∀ h, h < vn V → M2 6 (3 * h) = nI (kdH (vG V) h) ∧ M2 6 (3 * h + 2) = zi (brH (vG V) h) ∧ (h < i → M2 6 (3 * h + 1) = zi (loH (covG (vG V) set) h))) →
          jJ kB_X8_moss (d + 4) k 4 [mR 8 0 0, mI v1, mI v2, mI v3, mI (zi f), mI (zi W), mI (nI set), mI (nI i)] [] M2 := by
        intro r
        induction r with
        | zero =>
          intro i M2 hi2 fr2 h9 hl
          have : i = vn V := by omega
          subst this
          have hI2 := hI.keep fr2
          refine v_X8_moss_4 _ _ _ _ _ _ _ ?_
          rw [hI2.lnP.1]
          refine ifle (by omega) (by omega) (fun _ => ?_) (fun c => by omega)
          refine wpD_at (as' := [mR 8 0 0, mI (nI (tn v1))]) (by rw [← a1]) ?_
          refine sp_layBest (d := d + 1) (G := covG (vG V) set) (n := vn V) o1 hI2.hydM ⟨h9, fun i hi => ⟨(hl i hi).1, (hl i hi).2.2 hi, (hl i hi).2.1⟩⟩ (by omega) hI2.bM (covG_LR o4) o3 b1 (fun W' L D M3 hB f3 _ => ?_)
          have fr3 := fr2.trans (lb_keep f3)
          have bB := IsB.bd (G := covG (vG V) set) (n := vn V) (m := vb V) o1 (covG_LR o4) (by omega) hB
          have e : TMax (TM V (tn v1) set) W' := hB.tmax
          have hge : ∀ w, TM V (tn v1) set w → w ≤ W' := fun w q => by
            rcases e with ⟨-, x⟩ | ⟨-, x⟩
            · exact absurd q (x w)
            · exact x w q
          have stay : (∀ j, P set j → f = (j : Int) → TM V (tn v1) set W → kyM j ≤ kyM set) → W' ≤ W → ∀ M4 u, Keep M M4 → jJ kB_X8_moss (d + 4) k 3 [mR 8 0 0, mI v1, mI v2, mI v3, mI (zi f), mI (zi W), mI (nI set + 1), u] [] M4 := fun hj hle M4 u fr4 => by
            rw [nI_1]
            exact ih (set + 1) M4 f W u (by omega) fr4 ((hF.no (i := set) (fun w q => by have := hge w q; omega) hj).cong hQ)
          show (_ ∧ _)
          rw [zi_lt (by omega) (by omega) (by omega) (by omega), zi_eq (by omega) (by omega) (by omega) (by omega), show (0 : Int32) = zi 0 from rfl, zi_lt (by omega) (by omega) (by decide) (by decide)]
          refine ⟨fun c6 => ?_, fun c6 => ⟨fun c7 => stay (fun j hj hf hT => absurd (hge _ hT) (by omega)) (by omega) _ _ fr3, fun c7 => ⟨fun c8 => stay (fun j hj hf hT => by omega) (by omega) _ _ fr3, fun c8 => ?_⟩⟩⟩
          · have hT : TM V (tn v1) set W' := by
              rcases e with ⟨x, -⟩ | ⟨x, -⟩
              · omega
              · exact x
            have hge0 := (TM_ge hI.ok hT).1
            refine v_X8_moss_8 _ _ _ _ _ _ _ ⟨fun _ => ?_, fun c => absurd ?_ c⟩
            · rw [nI_1, ← zi_nI set]
              have := ih (set + 1) M3 set W' (mI (zi W')) (by omega) fr3 ((hF.yes (i := set) hge0 hT hge c6).cong hQ)
              rw [← zi_nI (set + 1)] at this ⊢
              exact this
            · rw [show (0 : Int32) = zi 0 from rfl, zi_le (by decide) (by decide) (by omega) (by omega)]
              exact hge0
          · subst c7
            obtain ⟨j, ej⟩ : ∃ j : Nat, f = (j : Int) := ⟨f.toNat, by omega⟩
            subst ej
            refine sp_bits (by omega) ?_
            refine wpD_at (as' := [mI (nI j)]) (by rw [zi_nI]) (sp_bits (by omega) ?_)
            have hbj := bnF_le j 8
            have hPj : P set j ∧ TM V (tn v1) j W' := by
              rcases hF.2 with ⟨-, x⟩ | ⟨-, j', x1, x2, x3, -⟩
              · omega
              · have : j = j' := by omega
                subst this
                exact ⟨x1, x3⟩
            refine ifle (by omega) (by omega) (fun c9 => stay (fun j2 hj hf hT => ?_) (Int.le_refl _) _ _ fr3) (fun c9 => ?_)
            · have : j = j2 := by omega
              subst this
              have := hj.1
              unfold kyM
              omega
            · have hge0 := (TM_ge hI.ok hPj.2).1
              have hT : TM V (tn v1) set W' := by
                rcases e with ⟨x, -⟩ | ⟨x, -⟩
                · omega
                · exact x
              refine v_X8_moss_8 _ _ _ _ _ _ _ ⟨fun _ => ?_, fun c => absurd ?_ c⟩
              · rw [nI_1, ← zi_nI set]
                have hPj1 := hPj.1.1
                have := ih (set + 1) M3 set W' (mI (zi W')) (by omega) fr3 ((hF.eq (i := set) hT hge (by unfold kyM; omega)).cong hQ)
                rw [← zi_nI (set + 1)] at this ⊢
                exact this
              · rw [show (0 : Int32) = zi 0 from rfl, zi_le (by decide) (by decide) (by omega) (by omega)]
                exact hge0
        | succ r ih2 =>
          intro i M2 hi2 fr2 h9 hl
          have hI2 := hI.keep fr2
          have hiv : i < vn V := by omega
          refine v_X8_moss_4 _ _ _ _ _ _ _ ?_
          rw [hI2.lnP.1]
          have e31 : (3 : Int32) * nI i + 1 = nI (3 * i + 1) := by rw [E3, nI_1]
          have k6 : ∀ v, Keep M (up M2 6 (3 * i + 1) v) := fun v => fr2.trans (fun k j q => by
            rw [up_k]
            rintro rfl
            exact q (by unfold scr; omega))
          refine ifle (by omega) (by omega) (fun c => by omega) (fun _ => sp_has (by omega) (by omega) (ifb (fun e => ⟨vpn _ e31 (by omega) (by decide), vpn _ e31 (by omega) (by decide), ?_⟩) (fun e => ⟨vpn _ e31 (by omega) (by decide), ?_⟩)))
          all_goals
            rw [cln _ e31 (by omega), nI_1]
            refine ih2 (i + 1) _ (by omega) (k6 _) (by rw [up_k (by decide)]; exact h9) (fun h hh => ⟨by rw [up_j (by omega)]; exact (hl h hh).1, by rw [up_j (by omega)]; exact (hl h hh).2.1, fun hh2 => ?_⟩)
            by_cases c : h = i
            · subst c
              rw [up_at]
              show _ = zi (if set.testBit h then 0 else loH (vG V) h)
              rw [e]
              first | exact (hI2.lnP.2 h hiv).2.1 | rfl
            · rw [up_j (by omega)]
              exact (hl h hh).2.2 (by omega)
      refine m_asLane hI1 (fun M2 f2 l2 => inner (vn V) 0 M2 (by omega) (fr.trans f2) l2.1 (fun h hh => ⟨(l2.2 h hh).1, (l2.2 h hh).2.2, fun q => absurd q (Nat.not_lt_zero h)⟩))
  exact key (2 ^ vn V) 0 M (-6) (-6) none (by omega) (Keep.rfl' M) (Fnd.none (fun i q => absurd q.1 (Nat.not_lt_zero i)))
