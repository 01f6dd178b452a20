theorem evL_all {G : LG} {hour n : Nat} {w : Int} {a : List Nat} (ha : a.length = n) : (hmN (pmG G a) 0 (2 ^ n - 1) hour w n = 0 ∧ evL G hour 0 (gS G 0 * w) 0 a = some (wtS (pmG G a) (svN (pmG G a) 0 (2 ^ n - 1) hour w n) n)) ∨ (hmN (pmG G a) 0 (2 ^ n - 1) hour w n ≠ 0 ∧ evL G hour 0 (gS G 0 * w) 0 a = none) :=
  evL_pm ha a [] rfl (fun h hh => absurd hh (Nat.not_lt_zero h)) rfl
theorem rng_get {n j : Nat} (h : j < n) : (List.range n).getD j 0 = j := by
  simp [List.getD_eq_getElem?_getD, h]
theorem gd_mem {a : List Nat} {j : Nat} (h : j < a.length) : a.getD j 0 ∈ a := by
  rw [List.getD_eq_getElem?_getD, List.getElem?_eq_getElem h]
  exact List.getElem_mem h
set_option maxHeartbeats 2000000 in
theorem cm_order {d : Nat} {k : mQ} {M : mM} {V : AV} {c K : Nat} {p : Nat → Nat} {v1 v2 : Int32} (hI : InvP V c p K M) (h : ∀ M', Keep M M' → k (mI (orderV V v1 v2)) M') : wpD mB mNL (d + 3) zX8_order [mR 8 0 0, mI v1, mI v2] M k := by
  have hV := hI.ok
  obtain ⟨o1, o2, o3, o4, -⟩ := id hV
  have h0 := h M (Keep.rfl' M)
  refine v_X8_order_0 _ _ (sp_inC (fun e => ⟨fun _ => ?_, fun x => absurd rfl x⟩) (fun e1 => ⟨fun x => absurd x (by decide), fun _ => ?_⟩))
  · rw [li0, li5] at e
    unfold orderV at h0
    rw [if_pos (fun q => e q.1)] at h0
    exact h0
  rw [li0, li5] at e1
  rw [hI.lnP.1]
  refine sp_inC (fun e => ⟨fun x => absurd rfl x, fun _ => ?_⟩) (fun e2 => ⟨fun _ => ?_, fun x => absurd x (by decide)⟩) <;> rw [lim1, nI_pre1 o2.1 (by omega)] at *
  · unfold orderV at h0
    rw [if_pos (by omega)] at h0
    exact h0
  have hok : (0 ≤ v1.toInt ∧ v1.toInt ≤ 5) ∧ (-1 ≤ v2.toInt ∧ v2.toInt < vn V) := ⟨e1, by omega⟩
  rw [hI.lnP.1]
  refine ifle (a := vn V) (b := 7) (by omega) (by decide) (fun n7 => m_asLane hI (fun M1 f1 l1 => ?_)) (fun n7 => ?_)
  · have a1 : v1 = nI (tn v1) := tn_eq e1.1
    have b1 : tn v1 < 6 := tn_lt e1.1 (by omega)
    have p7 : 2 ^ vn V ≤ 2 ^ 7 := Nat.pow_le_pow_right (by decide) n7
    have pp : 0 < 2 ^ vn V := Nat.pow_pos (by decide)
    have hall := chn_all o2.1 n7
    obtain ⟨r0, hps, hch⟩ := chA_cons hall
    have E3 : ∀ m, (3 : Int32) * nI m = nI (3 * m) := fun m => by rw [show (3 : Int32) = nI 3 from rfl, pk_mul]
    have done : ∀ M', Keep M M' → k (mI (rvO (bsO V (tn v1)) v2)) M' := fun M' f => by
      have := h M' f
      unfold orderV at this
      rw [if_neg (fun q => q hok), if_neg (by omega)] at this
      exact this
    let L6 : mM → Prop := fun M' => M' 0 9 = nI (vn V) ∧ ∀ h, h < vn V → M' 6 (3 * h + 1) = zi (loH (vG V) h) ∧ M' 6 (3 * h + 2) = zi (brH (vG V) h)
    have tryA : ∀ (a : List Nat) (s : Int × List Nat) M2 u6, RowP (vn V) a M2 → Keep M M2 → L6 M2 → a ∈ lxP (vn V) (vn V) 0 → (-6 ≤ s.1 ∧ s.1 ≤ 1000) →
        (∀ M3, RowP (vn V) a M3 → Keep M M3 → L6 M3 → jJ kB_X8_order (d + 2) k 11 [mR 8 0 0, mI v1, mI v2, mI (zi (orU (vG V) (tn v1) 0 (gS (vG V) 0 * gS (vG V) 1) 0 [] s a).1), mI (rvO (orU (vG V) (tn v1) 0 (gS (vG V) 0 * gS (vG V) 1) 0 [] s a) v2), mI 1, mI (nI (vn V))] [] M3) →
        jJ kB_X8_order (d + 2) k 6 [mR 8 0 0, mI v1, mI v2, mI (zi s.1), mI (rvO s v2), mI 1, u6] [] M2 := by
      intro a s M2 u6 rw1 f l ham hs cont
      obtain ⟨al, am⟩ := lxP_mem _ _ a ham
      have ag : ∀ j, j < vn V → a.getD j 0 < vn V := fun j hj => am _ (gd_mem (by omega))
      have seven : ∀ r i M3, i + r = vn V → RowP (vn V) a M3 → Keep M M3 → L6 M3 → (∀ h, h < i → M3 6 (3 * h) = nI (kdH (vG V) (a.getD h 0))) → jJ kB_X8_order (d + 2) k 7 [mR 8 0 0, mI v1, mI v2, mI (zi s.1), mI (rvO s v2), mI 1, mI (nI i)] [] M3 := by
        intro r
        induction r with
        | zero =>
          intro i M3 hi rw3 f3 l3 k3
          have : i = vn V := by omega
          subst this
          have hI3 := hI.keep f3
          have ln3 : LnM (pmG (vG V) a) M3 (vn V) := ⟨l3.1, fun h hh => ⟨k3 h hh, (l3.2 h hh).1, (l3.2 h hh).2⟩⟩
          have e1n : (1 : Int32) <<< (nI (vn V) &&& 31) - 1 = nI (2 ^ vn V - 1) := by
            have : ∀ n, n ≤ 8 → (1 : Int32) <<< (nI n &&& 31) - 1 = nI (2 ^ n - 1) := by decide
            exact this _ o2.2
          refine v_X8_order_7 _ _ _ _ _ _ ?_
          rw [hI3.lnP.1, e1n, cl1, hI3.hydM.1 1 (by decide)]
          refine ifle (by omega) (by omega) (fun _ => ⟨vpn 1 rfl (by decide) (by decide), ?_⟩) (fun x => by omega)
          refine wpD_at (as' := [mR 8 0 0, mI (nI (tn v1)), mI (nI 0), mI (nI (2 ^ vn V - 1)), mI (zi (gS (vG V) 1))]) (by rw [← a1]; rfl) ?_
          refine sp_go (G := pmG (vG V) a) o1 hI3.hydM o1.2.1 ln3 (by omega) (pmG_LR o4 ag) o3 b1 (by decide) (by omega) (fun M4 e4 => ?_)
          obtain ⟨⟨g0, g2, g3, -⟩, -⟩ := e4
          have f4 : Keep M M4 := f3.trans (fun k j q => g0 k j (fun x => q (goC_scr x)))
          have rw4 : RowP (vn V) a M4 := fun j hj => by rw [g0 9 j (ngo (by decide) (by decide) (by decide))]; exact rw3 j hj
          have l4 : L6 M4 := ⟨by rw [g0 0 9 (ngo0 (by omega))]; exact l3.1, fun h hh => by rw [g0 6 _ (ngo (by decide) (by decide) (by decide)), g0 6 _ (ngo (by decide) (by decide) (by decide))]; exact l3.2 h hh⟩
          have ln4 : LnM (pmG (vG V) a) M4 (vn V) := ln3.of (g0 0 9 (ngo0 (by omega))) (fun j => g0 6 j (ngo (by decide) (by decide) (by decide)))
          have hI4 := hI.keep f4
          have bsv := svN_lt (pmG (vG V) a) 0 (2 ^ vn V - 1) (tn v1) (gS (vG V) 1) (vn V)
          have bhm := hmN_lt (pmG (vG V) a) 0 (2 ^ vn V - 1) (tn v1) (gS (vG V) 1) (vn V)
          have ev := evL_all (G := vG V) (hour := tn v1) (n := vn V) (w := gS (vG V) 1) (a := a) al
          have c4 := cont M4 rw4 f4 l4
          have bw := wtS_bd (G := pmG (vG V) a) (S := svN (pmG (vG V) a) 0 (2 ^ vn V - 1) (tn v1) (gS (vG V) 1) (vn V)) (n := vn V) (b := vb V) o1 (pmG_LR o4 ag) (vn V) (Nat.le_refl _)
          unfold orU at c4
          show (_ ∧ _)
          have z14 : M4 0 14 = 0 ↔ hmN (pmG (vG V) a) 0 (2 ^ vn V - 1) (tn v1) (gS (vG V) 1) (vn V) = 0 := by
            rw [g3, show (0 : Int32) = nI 0 from rfl, nI_eq (by omega) (by decide)]
          rw [z14]
          have wo : ∀ {k2 : mQ}, k2 (mI (zi (wtS (pmG (vG V) a) (svN (pmG (vG V) a) 0 (2 ^ vn V - 1) (tn v1) (gS (vG V) 1) (vn V)) (vn V)))) M4 → wpD mB mNL (d + 2) zX8_worthOf [mR 8 0 0, mI (M4 0 13)] M4 k2 := fun {k2} hk => by
            refine wpD_at (as' := [mR 8 0 0, mI (nI (svN (pmG (vG V) a) 0 (2 ^ vn V - 1) (tn v1) (gS (vG V) 1) (vn V)))]) (by rw [← g2]) ?_
            exact sp_worthOf (G := pmG (vG V) a) hI4.hydM ln4 (by omega) (pmG_LR o4 ag) (by omega) hk
          rcases ev with ⟨z, ev⟩ | ⟨z, ev⟩
          · rw [ev] at c4
            generalize hw : wtS (pmG (vG V) a) (svN (pmG (vG V) a) 0 (2 ^ vn V - 1) (tn v1) (gS (vG V) 1) (vn V)) (vn V) = w at *
            dsimp only at c4
            refine ⟨fun x => absurd z x, fun _ => wo ?_⟩
            show (_ ∧ _)
            rw [zi_le (by omega) (by omega) (by omega) (by omega)]
            refine ⟨fun x => ?_, fun x => wo ?_⟩
            · rw [if_neg (by omega)] at c4
              exact c4
            · rw [if_pos (by omega)] at c4
              have e7 : rvO (w, [] ++ a) v2 = if 0 ≤ v2.toInt then nI (a.getD (tn v2) 0) else zi w := by
                unfold rvO
                dsimp only
                rw [if_neg (by omega), List.nil_append]
              rw [e7] at c4
              show (_ ∧ _)
              rw [le_zi, li0]
              refine ⟨fun y => ?_, fun y => v_X8_order_10 _ _ _ _ _ _ _ ?_⟩
              · have a2 : v2 = nI (tn v2) := tn_eq y
                have b2 : tn v2 < vn V := tn_lt y hok.2.2
                refine ⟨vpn _ a2 (by omega) (by decide), v_X8_order_10 _ _ _ _ _ _ _ ?_⟩
                rw [cln _ a2 (by omega), rw4 _ b2]
                rw [if_pos y] at c4
                exact c4
              · rw [if_neg y] at c4
                exact c4
          · rw [ev] at c4
            exact ⟨fun _ => c4, fun x => absurd x z⟩
        | succ r ih =>
          intro i M3 hi rw3 f3 l3 k3
          have hI3 := hI.keep f3
          have agi := ag i (by omega)
          refine v_X8_order_7 _ _ _ _ _ _ ?_
          rw [hI3.lnP.1]
          refine ifle (by omega) (by omega) (fun x => by omega) (fun _ => ?_)
          rw [nI_clamp (by omega), rw3 i (by omega), E3, E3, nI_clamp (by omega), nI_clamp (by omega), nI_1, (hI3.lnP.2 _ agi).1]
          refine ⟨vp_in_nI (by omega) (by decide), vp_in_nI (by omega) (by decide), vp_in_nI (by omega) (by decide), ?_⟩
          refine ih (i + 1) _ (by omega) (fun j hj => by rw [up_k (by decide)]; exact rw3 j hj) (f3.trans (fun k j q => by
            rw [up_k]
            rintro rfl
            exact q (by unfold scr; omega))) ⟨by rw [up_k (by decide)]; exact l3.1, fun h hh => by rw [up_j (by omega), up_j (by omega)]; exact l3.2 h hh⟩ (fun h hh => ?_)
          by_cases e : h = i
          · rw [e, up_at]
          · rw [up_j (by omega)]
            exact k3 h (by omega)
      exact v_X8_order_6 _ _ _ _ _ _ ⟨fun x => absurd x (by decide), fun _ => seven (vn V) 0 M2 (by omega) rw1 f l (fun h hh => absurd hh (Nat.not_lt_zero h))⟩
    have key : ∀ (ps : List (List Nat)) (a : List Nat) (s : Int × List Nat) M2 u6, RowP (vn V) a M2 → Keep M M2 → L6 M2 → (∀ l ∈ a :: ps, l ∈ lxP (vn V) (vn V) 0) → chn (vn V) a ps = true → (-6 ≤ s.1 ∧ s.1 ≤ 1000) → orF (vG V) (tn v1) 0 (gS (vG V) 0 * gS (vG V) 1) 0 [] s (a :: ps) = bsO V (tn v1) →
        jJ kB_X8_order (d + 2) k 6 [mR 8 0 0, mI v1, mI v2, mI (zi s.1), mI (rvO s v2), mI 1, u6] [] M2 := by
      intro ps
      induction ps with
      | nil =>
        intro a s M2 u6 rw1 f l hm hc hs hF
        have ham := hm a List.mem_cons_self
        obtain ⟨al, am⟩ := lxP_mem _ _ a ham
        refine tryA a s M2 u6 rw1 f l ham hs (fun M3 rw3 f3 l3 => ?_)
        have hI3 := hI.keep f3
        have hnx := chn_nil hc
        refine v_X8_order_11 _ _ _ _ _ _ (sp_nextOrder (d := d) o2.1 n7 hI3.lnP.1 rw3 al (fun j hj => by have := am _ (gd_mem (show j < a.length by omega)); omega) (fun _ => ?_) (fun b M4 e => by rw [hnx] at e; cases e))
        refine v_X8_order_6 _ _ _ _ _ _ ⟨fun _ => ?_, fun x => absurd rfl x⟩
        have := done M3 f3
        rw [← hF] at this
        exact this
      | cons b ps ih =>
        intro a s M2 u6 rw1 f l hm hc hs hF
        have ham := hm a List.mem_cons_self
        obtain ⟨al, am⟩ := lxP_mem _ _ a ham
        refine tryA a s M2 u6 rw1 f l ham hs (fun M3 rw3 f3 l3 => ?_)
        have hI3 := hI.keep f3
        obtain ⟨hnx, hc2⟩ := chn_cons hc
        refine v_X8_order_11 _ _ _ _ _ _ (sp_nextOrder (d := d) o2.1 n7 hI3.lnP.1 rw3 al (fun j hj => by have := am _ (gd_mem (show j < a.length by omega)); omega) (fun e => by rw [hnx] at e; cases e) (fun b' M4 e f4 rw4 => ?_))
        rw [hnx] at e
        cases e
        have bd := bsO_bd (hour := tn v1) hV [a] (fun l hl => by rw [List.mem_singleton] at hl; rw [hl]; exact ham) s hs
        exact ih b (orU (vG V) (tn v1) 0 (gS (vG V) 0 * gS (vG V) 1) 0 [] s a) M4 _ rw4 (f3.trans (fun k j q => f4 k j (by
          rintro rfl
          exact q (by unfold scr; omega)))) ⟨by rw [f4 0 9 (by decide)]; exact l3.1, fun h hh => by rw [f4 6 _ (by decide), f4 6 _ (by decide)]; exact l3.2 h hh⟩ (fun l hl => hm l (List.mem_cons_of_mem _ hl)) hc2 bd hF
    have fill : ∀ r i M2 u4 u5 u6, i + r = vn V → Keep M M2 → L6 M2 → (∀ j, j < i → M2 9 j = nI j) → jJ kB_X8_order (d + 2) k 4 [mR 8 0 0, mI v1, mI v2, mI (nI i), u4, u5, u6] [] M2 := by
      intro r
      induction r with
      | zero =>
        intro i M2 u4 u5 u6 hi f l r9
        have : i = vn V := by omega
        subst this
        refine v_X8_order_4 _ _ _ _ _ _ ?_
        rw [(hI.keep f).lnP.1]
        refine ifle (by omega) (by omega) (fun _ => ?_) (fun x => by omega)
        have := key r0 (List.range (vn V)) (-6, []) M2 u6 (fun j hj => by rw [rng_get hj]; exact r9 j hj) f l (fun l hl => by rw [hps]; exact hl) hch ⟨by decide, by decide⟩ (by unfold bsO; rw [hps])
        exact this
      | succ r ih =>
        intro i M2 u4 u5 u6 hi f l r9
        refine v_X8_order_4 _ _ _ _ _ _ ?_
        rw [(hI.keep f).lnP.1]
        refine ifle (by omega) (by omega) (fun x => by omega) (fun _ => ⟨vp_in_nI (by omega) (by decide), ?_⟩)
        rw [nI_clamp (by omega), nI_1]
        refine ih (i + 1) _ u4 u5 u6 (by omega) (f.trans (fun k j q => by
          rw [up_k]
          rintro rfl
          exact q (by unfold scr; omega))) ⟨by rw [up_k (by decide)]; exact l.1, fun h hh => by rw [up_k (by decide), up_k (by decide)]; exact l.2 h hh⟩ (fun j hj => ?_)
        by_cases e : j = i
        · rw [e, up_at]
        · rw [up_j e]; exact r9 j (by omega)
    exact fill (vn V) 0 M1 none none none (by omega) f1 ⟨l1.1, fun h hh => (l1.2 h hh).2⟩ (fun j hj => absurd hj (Nat.not_lt_zero j))
  · unfold orderV at h0
    rw [if_neg (fun q => q hok), if_pos (by omega)] at h0
    exact h0
