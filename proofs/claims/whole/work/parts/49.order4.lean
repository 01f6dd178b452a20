/-! CALLS: order -/
def rvO (s : Int × List Nat) (v2 : Int32) : Int32 := if s.1 = -6 then -6 else if 0 ≤ v2.toInt then nI (s.2.getD (tn v2) 0) else zi s.1
def bsO (V : AV) (hour : Nat) : Int × List Nat := orF (vG V) hour 0 (gS (vG V) 0 * gS (vG V) 1) 0 [] (-6, []) (lxP (vn V) (vn V) 0)
def orderV (V : AV) (v1 v2 : Int32) : Int32 := if ¬ ((0 ≤ v1.toInt ∧ v1.toInt ≤ 5) ∧ (-1 ≤ v2.toInt ∧ v2.toInt < vn V)) then -2 else if 7 < vn V then -4 else rvO (bsO V (tn v1)) v2
theorem bsO_bd {V : AV} {hour : Nat} (hV : VOK V) (ls : List (List Nat)) (hls : ∀ l ∈ ls, l ∈ lxP (vn V) (vn V) 0) (s : Int × List Nat) (hs : -6 ≤ s.1 ∧ s.1 ≤ 1000) : -6 ≤ (orF (vG V) hour 0 (gS (vG V) 0 * gS (vG V) 1) 0 [] s ls).1 ∧ (orF (vG V) hour 0 (gS (vG V) 0 * gS (vG V) 1) 0 [] s ls).1 ≤ 1000 := by
  obtain ⟨o1, o2, o3, o4, -⟩ := hV
  have := wlF_bd (hour := hour) (placed := 0) o1 o4 (vn V) (Nat.le_refl _)
  exact orF_bd o1 o4 (by omega) ls s hls hs
theorem lim6 : (-6 : Int32) = zi (-6) := rfl
set_option maxHeartbeats 1000000 in
theorem cx_order {d : Nat} {k : mQ} {M : mM} {V : AV} {c K : Nat} {p : Nat → Nat} {v1 v2 : Int32} (hI : InvP V c p K M) (h : ∀ M', Keep M M' → k (mI (orderV V v1 v2)) M') : wpD mB mNL (d + vn V + 8) zX7_order [mR 7 0 14, mI v1, mI v2] M k := by
  have hV := hI.ok
  obtain ⟨o1, o2, o3, o4, -⟩ := id hV
  have h0 := h M (Keep.rfl' M)
  refine v_X7_order_0 _ _ (sp_isNoHour (d := d + vn V + 6) (fun e => ⟨fun _ => ?_, fun x => absurd x (by decide)⟩) (fun e1 => ⟨fun x => absurd rfl x, fun _ => ?_⟩))
  · unfold orderV at h0
    rw [if_pos (fun q => e q.1)] at h0
    exact h0
  rw [hI.lnC.1]
  simp only [lt_zi, le_zi, lim1, nI_ti (show vn V < 2147483648 by omega), show (7 : Int32).toInt = 7 from by decide]
  refine ⟨fun q => ?_, fun c1 => ⟨fun c2 => ⟨fun c3 => ?_, fun c3 => ?_⟩, fun q => ?_⟩⟩
  · unfold orderV at h0
    rw [if_pos (by omega)] at h0
    exact h0
  · have a1 : v1 = nI (tn v1) := tn_eq e1.1
    have b1 : tn v1 < 6 := tn_lt e1.1 (by omega)
    have m0 := mul_bd (a := gS (vG V) 0) (b := gS (vG V) 1) (by have := o1.1; omega) o1.1.2 o1.2.1.1 o1.2.1.2
    have wl := wlF_bd (hour := tn v1) (placed := 0) o1 o4 (vn V) (Nat.le_refl _)
    have b0 : bnF 0 (vn V) = 0 := by
      have : ∀ m, bnF 0 m = 0 := fun m => by
        induction m with
        | zero => rfl
        | succ m ih => rw [bnF, Nat.zero_testBit, ih]; rfl
      exact this _
    have f0 : OFr M (up (up M 32 4 v1) 32 0 (-6)) → True := fun _ => trivial
    have k0 : Keep M (up (up M 32 4 v1) 32 0 (-6)) := fun k j q => by
      have : ¬ k = 32 := fun x => q (by unfold scr; omega)
      rw [up_k this, up_k this]
    have hI1 := hI.keep k0
    refine v_X3_search_0 (d := d + vn V + 6) _ (sp_springZ (d := d + vn V + 4) (o := 35) (i := 0) hI1.hydC (by decide) (sp_springZ (d := d + vn V + 4) (o := 35) (i := 1) hI1.hydC (by decide) ?_))
    have c0 : OCx (vG V) (tn v1) (vn V) (up (up M 32 4 v1) 32 0 (-6)) := ⟨by rw [up_j (by decide), up_at, ← a1], hI1.lnC, hI1.hydC⟩
    refine wpD_at (as' := [mR 3 0 32, mI (nI 0), mI (nI 0), mI (zi (gS (vG V) 0 * gS (vG V) 1)), mI (zi 0)]) (by rw [zi_mul]; rfl) ?_
    refine wpD_le mB mNL (d := d + vn V + 5) (by omega) (sp_odescend o1 o4 (by omega) b1 (vn V) 0 (by omega) d _ (-6, []) 0 _ 0 [] _ c0 ⟨by rw [up_at]; rfl, fun x => absurd rfl x⟩ ⟨by decide, by decide⟩ rfl (fun j hj => absurd hj (Nat.not_lt_zero j)) (Nat.pow_pos (by decide)) b0 ⟨m0.1, by omega⟩ ⟨Int.le_refl 0, by omega⟩ (fun M2 f2 _ s2 => ?_))
    have k2 : Keep M M2 := k0.trans (fun k j q => f2 k j (fun x => q (by unfold scr; omega)))
    have bd := bsO_bd (hour := tn v1) hV (lxP (vn V) (vn V) 0) (fun l hl => hl) (-6, []) ⟨by decide, by decide⟩
    have h9 := h M2 k2
    unfold orderV at h9
    rw [if_neg (fun q => q ⟨e1, by omega, c2⟩), if_neg (by omega)] at h9
    unfold bsO at h9
    generalize orF (vG V) (tn v1) 0 (gS (vG V) 0 * gS (vG V) 1) 0 [] (-6, []) (lxP (vn V) (vn V) 0) = s at *
    unfold rvO at h9
    show (_ ∧ _)
    have lm : v2 = -1 ↔ v2.toInt = -1 := by rw [eq_zi, lim1]
    rw [s2.1, lim6, zi_eq (by omega) (by omega) (by decide) (by decide), lm]
    refine ⟨fun x => ?_, fun x => ⟨fun y => ?_, fun y => ?_⟩⟩
    · rw [if_pos x] at h9
      rw [x]; exact h9
    · rw [if_neg x, if_pos (by omega)] at h9
      have a2 : v2 = nI (tn v2) := tn_eq (by omega)
      have b2 : tn v2 < vn V := tn_lt (by omega) c2
      refine wpD_at (as' := [mR 50 7 33, mI (nI (tn v2))]) (by rw [← a2]) (sp_cell (d := d + vn V + 6) (by omega) (by decide) ?_)
      rw [s2.2 x _ b2]
      exact h9
    · rw [if_neg x, if_neg (by omega)] at h9
      exact h9
  · unfold orderV at h0
    rw [if_neg (fun q => q ⟨e1, by omega, c2⟩), if_pos (by omega)] at h0
    exact h0
  · unfold orderV at h0
    rw [if_pos (by omega)] at h0
    exact h0
