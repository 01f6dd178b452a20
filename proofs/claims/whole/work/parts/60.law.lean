/-! THE LAW'S LOOP -/
abbrev lawJ (k : mQ) (L0 r0 : Nat) (v : Int32) (M : mM) : Prop := jJ kB_L_law 30 k 1 [mR 51 L0 r0, mR 7 0 14, mR 8 0 0, mI v] [] M
/-- wherever both programs stand at the same state, the law goes on from there -/
abbrev lawN (k : mQ) (L0 r0 : Nat) (v : Int32) : Prop := ∀ (V : AV) (c : Nat) (p : Nat → Nat) (K : Nat) (M : mM), InvP V c p K M → lawJ k L0 r0 v M
theorem CS.img {V : AV} {c K : Nat} {p : Nat → Nat} {I : Nat → AV} {M : mM} (h : CS V c p K I M) : ∀ t, t < 2 → K.testBit t = true → vn (I t) ≤ 8 ∧ vf (I t) ≤ 6 := fun t ht e => ⟨((h.2.2.2.1.2.2 t ht e).1).2.1.2, ((h.2.2.2.1.2.2 t ht e).1).2.2.2.2.1⟩
theorem law_spring {k : mQ} {L0 r0 : Nat} {v : Int32} {V : AV} {c K : Nat} {p : Nat → Nat} {M : mM} (hv1 : vp_in (v + 1) L0) (hv2 : vp_in (v + 2) L0) (hI : InvP V c p K M) (hn : lawN k L0 r0 (v + 6)) :
  (vp_in (v + 1) L0 ∧ (vp_in (v + 2) L0 ∧ wpD mB mNL 30 zX7_spring [mR 7 0 14, mI (M (1000 + r0) ((v + 1).toNatClampNeg)), mI (M (1000 + r0) ((v + 2).toNatClampNeg))] M (fun r1 M1 => wI r1 fun x => (vp_in (v + 1) L0 ∧ (vp_in (v + 2) L0 ∧ wpD mB mNL 30 zX8_spring [mR 8 0 0, mI (M1 (1000 + r0) ((v + 1).toNatClampNeg)), mI (M1 (1000 + r0) ((v + 2).toNatClampNeg))] M1 (fun r2 M2 => wI r2 fun y => ((x = y → lawJ k L0 r0 (v + 6) M2) ∧ (¬ x = y → k (mI 0) M2)))))))) := by
  obtain ⟨o1, o2, o3, o4, -⟩ := hI.ok
  obtain ⟨I, hC, hM⟩ := hI.split
  refine ⟨hv1, hv2, wpD_le mB mNL (by omega) (cx_spring (d := 0) hC (fun M1 f1 hC1 => ?_))⟩
  show (_ ∧ _)
  have e : ∀ j, M1 (1000 + r0) j = M (1000 + r0) j := fun j => f1 _ _ (Or.inr (by omega))
  simp only [e]
  exact ⟨hv1, hv2, wpD_le mB mNL (by omega) (cm_spring (d := 0) (hM.of f1) (fun M2 f2 hM2 => ⟨fun _ => hn _ _ _ _ _ (InvP.join (hC1.of f2) hM2), fun q => absurd rfl q⟩))⟩
theorem law_kind {k : mQ} {L0 r0 : Nat} {v : Int32} {V : AV} {c K : Nat} {p : Nat → Nat} {M : mM} (hv1 : vp_in (v + 1) L0) (hv2 : vp_in (v + 2) L0) (hv3 : vp_in (v + 3) L0) (hI : InvP V c p K M) (hn : lawN k L0 r0 (v + 6)) :
  (vp_in (v + 1) L0 ∧ (vp_in (v + 2) L0 ∧ (vp_in (v + 3) L0 ∧ wpD mB mNL 30 zX7_kind [mR 7 0 14, mI (M (1000 + r0) ((v + 1).toNatClampNeg)), mI (M (1000 + r0) ((v + 2).toNatClampNeg)), mI (M (1000 + r0) ((v + 3).toNatClampNeg))] M (fun r1 M1 => wI r1 fun x => (vp_in (v + 1) L0 ∧ (vp_in (v + 2) L0 ∧ (vp_in (v + 3) L0 ∧ wpD mB mNL 30 zX8_kind [mR 8 0 0, mI (M1 (1000 + r0) ((v + 1).toNatClampNeg)), mI (M1 (1000 + r0) ((v + 2).toNatClampNeg)), mI (M1 (1000 + r0) ((v + 3).toNatClampNeg))] M1 (fun r2 M2 => wI r2 fun y => ((x = y → lawJ k L0 r0 (v + 6) M2) ∧ (¬ x = y → k (mI 0) M2)))))))))) := by
  obtain ⟨o1, o2, o3, o4, -⟩ := hI.ok
  obtain ⟨I, hC, hM⟩ := hI.split
  refine ⟨hv1, hv2, hv3, wpD_le mB mNL (by omega) (cx_kind (d := 0) hC (fun M1 f1 hC1 => ?_))⟩
  show (_ ∧ _)
  have e : ∀ j, M1 (1000 + r0) j = M (1000 + r0) j := fun j => f1 _ _ (Or.inr (by omega))
  simp only [e]
  exact ⟨hv1, hv2, hv3, wpD_le mB mNL (by omega) (cm_kind (d := 0) (hM.of f1) (fun M2 f2 hM2 => ⟨fun _ => hn _ _ _ _ _ (InvP.join (hC1.of f2) hM2), fun q => absurd rfl q⟩))⟩
theorem law_say {k : mQ} {L0 r0 : Nat} {v : Int32} {V : AV} {c K : Nat} {p : Nat → Nat} {M : mM} (hv1 : vp_in (v + 1) L0) (hI : InvP V c p K M) (hn : lawN k L0 r0 (v + 6)) :
  (vp_in (v + 1) L0 ∧ wpD mB mNL 30 zX7_say [mR 7 0 14, mI (M (1000 + r0) ((v + 1).toNatClampNeg))] M (fun r1 M1 => wI r1 fun x => (vp_in (v + 1) L0 ∧ wpD mB mNL 30 zX8_say [mR 8 0 0, mI (M1 (1000 + r0) ((v + 1).toNatClampNeg))] M1 (fun r2 M2 => wI r2 fun y => ((x = y → lawJ k L0 r0 (v + 6) M2) ∧ (¬ x = y → k (mI 0) M2)))))) := by
  obtain ⟨o1, o2, o3, o4, -⟩ := hI.ok
  obtain ⟨I, hC, hM⟩ := hI.split
  refine ⟨hv1, wpD_le mB mNL (by omega) (cx_say (d := 0) hC (fun M1 f1 hC1 => ?_))⟩
  show (_ ∧ _)
  have e : ∀ j, M1 (1000 + r0) j = M (1000 + r0) j := fun j => f1 _ _ (Or.inr (by omega))
  simp only [e]
  exact ⟨hv1, wpD_le mB mNL (by omega) (cm_say (d := 0) hC.2.2.1.1 (hM.of f1) (fun M2 f2 hM2 => ⟨fun _ => hn _ _ _ _ _ (InvP.join (hC1.of f2) hM2), fun q => absurd rfl q⟩))⟩
theorem law_wipe {k : mQ} {L0 r0 : Nat} {v : Int32} {V : AV} {c K : Nat} {p : Nat → Nat} {M : mM} (hI : InvP V c p K M) (hn : lawN k L0 r0 (v + 6)) :
  wpD mB mNL 30 zX7_wipe [mR 7 0 14] M (fun r1 M1 => wI r1 fun x => wpD mB mNL 30 zX8_wipe [mR 8 0 0] M1 (fun r2 M2 => wI r2 fun y => ((x = y → lawJ k L0 r0 (v + 6) M2) ∧ (¬ x = y → k (mI 0) M2)))) := by
  obtain ⟨o1, o2, o3, o4, -⟩ := hI.ok
  obtain ⟨I, hC, hM⟩ := hI.split
  refine wpD_le mB mNL (by omega) (cx_wipe (d := 0) hC (fun M1 f1 hC1 => ?_))
  exact wpD_le mB mNL (by omega) (cm_wipe (d := 0) (hM.of f1) (fun M2 f2 hM2 => ⟨fun _ => hn _ _ _ _ _ (InvP.join (hC1.of f2) hM2), fun q => absurd rfl q⟩))
theorem law_fault {k : mQ} {L0 r0 : Nat} {v : Int32} {V : AV} {c K : Nat} {p : Nat → Nat} {M : mM} (hv1 : vp_in (v + 1) L0) (hI : InvP V c p K M) (hn : lawN k L0 r0 (v + 6)) :
  (vp_in (v + 1) L0 ∧ wpD mB mNL 30 zX7_fault [mR 7 0 14, mI (M (1000 + r0) ((v + 1).toNatClampNeg))] M (fun r1 M1 => wI r1 fun x => (vp_in (v + 1) L0 ∧ wpD mB mNL 30 zX8_fault [mR 8 0 0, mI (M1 (1000 + r0) ((v + 1).toNatClampNeg))] M1 (fun r2 M2 => wI r2 fun y => ((x = y → lawJ k L0 r0 (v + 6) M2) ∧ (¬ x = y → k (mI 0) M2)))))) := by
  obtain ⟨o1, o2, o3, o4, -⟩ := hI.ok
  refine ⟨hv1, wpD_le mB mNL (by omega) (cx_fault (d := 0) hI (fun M1 f1 => ?_))⟩
  show (_ ∧ _)
  have e : ∀ j, M1 (1000 + r0) j = M (1000 + r0) j := fun j => f1 _ _ (nscr (by omega))
  simp only [e]
  exact ⟨hv1, wpD_le mB mNL (by omega) (cm_fault (d := 0) (hI.keep f1) ⟨fun _ => hn _ _ _ _ _ (hI.keep f1), fun q => absurd rfl q⟩)⟩
theorem law_lane {k : mQ} {L0 r0 : Nat} {v : Int32} {V : AV} {c K : Nat} {p : Nat → Nat} {M : mM} (hI : InvP V c p K M) (hn : lawN k L0 r0 (v + 6)) :
  wpD mB mNL 30 zX7_lane [mR 7 0 14] M (fun r1 M1 => wI r1 fun x => wpD mB mNL 30 zX8_lane [mR 8 0 0] M1 (fun r2 M2 => wI r2 fun y => ((x = y → lawJ k L0 r0 (v + 6) M2) ∧ (¬ x = y → k (mI 0) M2)))) := by
  obtain ⟨o1, o2, o3, o4, -⟩ := hI.ok
  obtain ⟨I, hC, hM⟩ := hI.split
  refine wpD_le mB mNL (by omega) (cx_lane (d := 0) hC (fun M1 f1 hC1 => ?_))
  exact wpD_le mB mNL (by omega) (cm_lane (d := 0) hC.2.2.1.1 (fun j hj => (hC.2.2.1.2.2 j hj).1) (hM.of f1) (fun M2 f2 hM2 => ⟨fun _ => hn _ _ _ _ _ (InvP.join (hC1.of f2) hM2), fun q => absurd rfl q⟩))
theorem law_house {k : mQ} {L0 r0 : Nat} {v : Int32} {V : AV} {c K : Nat} {p : Nat → Nat} {M : mM} (hv1 : vp_in (v + 1) L0) (hv2 : vp_in (v + 2) L0) (hI : InvP V c p K M) (hn : lawN k L0 r0 (v + 6)) :
  (vp_in (v + 1) L0 ∧ (vp_in (v + 2) L0 ∧ wpD mB mNL 30 zX7_house [mR 7 0 14, mI (M (1000 + r0) ((v + 1).toNatClampNeg)), mI (M (1000 + r0) ((v + 2).toNatClampNeg))] M (fun r1 M1 => wI r1 fun x => (vp_in (v + 1) L0 ∧ (vp_in (v + 2) L0 ∧ wpD mB mNL 30 zX8_house [mR 8 0 0, mI (M1 (1000 + r0) ((v + 1).toNatClampNeg)), mI (M1 (1000 + r0) ((v + 2).toNatClampNeg))] M1 (fun r2 M2 => wI r2 fun y => ((x = y → lawJ k L0 r0 (v + 6) M2) ∧ (¬ x = y → k (mI 0) M2)))))))) := by
  obtain ⟨o1, o2, o3, o4, -⟩ := hI.ok
  refine ⟨hv1, hv2, wpD_le mB mNL (by omega) (cx_house (d := 0) hI ?_)⟩
  show (_ ∧ _)
  exact ⟨hv1, hv2, wpD_le mB mNL (by omega) (cm_house (d := 0) hI ⟨fun _ => hn _ _ _ _ _ hI, fun q => absurd rfl q⟩)⟩
theorem law_at {k : mQ} {L0 r0 : Nat} {v : Int32} {V : AV} {c K : Nat} {p : Nat → Nat} {M : mM} (hv1 : vp_in (v + 1) L0) (hv2 : vp_in (v + 2) L0) (hv3 : vp_in (v + 3) L0) (hv4 : vp_in (v + 4) L0) (hv5 : vp_in (v + 5) L0) (hI : InvP V c p K M) (hn : lawN k L0 r0 (v + 6)) :
  (vp_in (v + 1) L0 ∧ (vp_in (v + 2) L0 ∧ (vp_in (v + 3) L0 ∧ (vp_in (v + 4) L0 ∧ (vp_in (v + 5) L0 ∧ wpD mB mNL 30 zX7_at [mR 7 0 14, mI (M (1000 + r0) ((v + 1).toNatClampNeg)), mI (M (1000 + r0) ((v + 2).toNatClampNeg)), mI (M (1000 + r0) ((v + 3).toNatClampNeg)), mI (M (1000 + r0) ((v + 4).toNatClampNeg)), mI (M (1000 + r0) ((v + 5).toNatClampNeg))] M (fun r1 M1 => wI r1 fun x => (vp_in (v + 1) L0 ∧ (vp_in (v + 2) L0 ∧ (vp_in (v + 3) L0 ∧ (vp_in (v + 4) L0 ∧ (vp_in (v + 5) L0 ∧ wpD mB mNL 30 zX8_at [mR 8 0 0, mI (M1 (1000 + r0) ((v + 1).toNatClampNeg)), mI (M1 (1000 + r0) ((v + 2).toNatClampNeg)), mI (M1 (1000 + r0) ((v + 3).toNatClampNeg)), mI (M1 (1000 + r0) ((v + 4).toNatClampNeg)), mI (M1 (1000 + r0) ((v + 5).toNatClampNeg))] M1 (fun r2 M2 => wI r2 fun y => ((x = y → lawJ k L0 r0 (v + 6) M2) ∧ (¬ x = y → k (mI 0) M2)))))))))))))) := by
  obtain ⟨o1, o2, o3, o4, -⟩ := hI.ok
  refine ⟨hv1, hv2, hv3, hv4, hv5, wpD_le mB mNL (by omega) (cx_at (d := 0) hI (fun M1 f1 => ?_))⟩
  show (_ ∧ _)
  have e : ∀ j, M1 (1000 + r0) j = M (1000 + r0) j := fun j => f1 _ _ (nscr (by omega))
  simp only [e]
  exact ⟨hv1, hv2, hv3, hv4, hv5, wpD_le mB mNL (by omega) (cm_at (d := 0) (hI.keep f1) (fun M2 f2 => ⟨fun _ => hn _ _ _ _ _ ((hI.keep f1).keep f2), fun q => absurd rfl q⟩))⟩
theorem law_run {k : mQ} {L0 r0 : Nat} {v : Int32} {V : AV} {c K : Nat} {p : Nat → Nat} {M : mM} (hv1 : vp_in (v + 1) L0) (hv2 : vp_in (v + 2) L0) (hv3 : vp_in (v + 3) L0) (hv4 : vp_in (v + 4) L0) (hI : InvP V c p K M) (hn : lawN k L0 r0 (v + 6)) :
  (vp_in (v + 1) L0 ∧ (vp_in (v + 2) L0 ∧ (vp_in (v + 3) L0 ∧ (vp_in (v + 4) L0 ∧ wpD mB mNL 30 zX7_run [mR 7 0 14, mI (M (1000 + r0) ((v + 1).toNatClampNeg)), mI (M (1000 + r0) ((v + 2).toNatClampNeg)), mI (M (1000 + r0) ((v + 3).toNatClampNeg)), mI (M (1000 + r0) ((v + 4).toNatClampNeg))] M (fun r1 M1 => wI r1 fun x => (vp_in (v + 1) L0 ∧ (vp_in (v + 2) L0 ∧ (vp_in (v + 3) L0 ∧ (vp_in (v + 4) L0 ∧ wpD mB mNL 30 zX8_run [mR 8 0 0, mI (M1 (1000 + r0) ((v + 1).toNatClampNeg)), mI (M1 (1000 + r0) ((v + 2).toNatClampNeg)), mI (M1 (1000 + r0) ((v + 3).toNatClampNeg)), mI (M1 (1000 + r0) ((v + 4).toNatClampNeg))] M1 (fun r2 M2 => wI r2 fun y => ((x = y → lawJ k L0 r0 (v + 6) M2) ∧ (¬ x = y → k (mI 0) M2)))))))))))) := by
  obtain ⟨o1, o2, o3, o4, -⟩ := hI.ok
  refine ⟨hv1, hv2, hv3, hv4, wpD_le mB mNL (by omega) (cx_run (d := 0) hI (fun M1 f1 => ?_))⟩
  show (_ ∧ _)
  have e : ∀ j, M1 (1000 + r0) j = M (1000 + r0) j := fun j => f1 _ _ (nscr (by omega))
  simp only [e]
  exact ⟨hv1, hv2, hv3, hv4, wpD_le mB mNL (by omega) (cm_run (d := 0) (hI.keep f1) (fun M2 f2 => ⟨fun _ => hn _ _ _ _ _ ((hI.keep f1).keep f2), fun q => absurd rfl q⟩))⟩
theorem law_judge {k : mQ} {L0 r0 : Nat} {v : Int32} {V : AV} {c K : Nat} {p : Nat → Nat} {M : mM} (hv1 : vp_in (v + 1) L0) (hI : InvP V c p K M) (hn : lawN k L0 r0 (v + 6)) :
  (vp_in (v + 1) L0 ∧ wpD mB mNL 30 zX7_judge [mR 7 0 14, mI (M (1000 + r0) ((v + 1).toNatClampNeg))] M (fun r1 M1 => wI r1 fun x => (vp_in (v + 1) L0 ∧ wpD mB mNL 30 zX8_judge [mR 8 0 0, mI (M1 (1000 + r0) ((v + 1).toNatClampNeg))] M1 (fun r2 M2 => wI r2 fun y => ((x = y → lawJ k L0 r0 (v + 6) M2) ∧ (¬ x = y → k (mI 0) M2)))))) := by
  obtain ⟨o1, o2, o3, o4, -⟩ := hI.ok
  refine ⟨hv1, wpD_le mB mNL (by omega) (cx_judge (d := 0) hI (fun M1 f1 => ?_))⟩
  show (_ ∧ _)
  have e : ∀ j, M1 (1000 + r0) j = M (1000 + r0) j := fun j => f1 _ _ (nscr (by omega))
  simp only [e]
  exact ⟨hv1, wpD_le mB mNL (by omega) (cm_judge (d := 0) (hI.keep f1) (fun M2 f2 => ⟨fun _ => hn _ _ _ _ _ ((hI.keep f1).keep f2), fun q => absurd rfl q⟩))⟩
theorem law_best {k : mQ} {L0 r0 : Nat} {v : Int32} {V : AV} {c K : Nat} {p : Nat → Nat} {M : mM} (hv1 : vp_in (v + 1) L0) (hv2 : vp_in (v + 2) L0) (hI : InvP V c p K M) (hn : lawN k L0 r0 (v + 6)) :
  (vp_in (v + 1) L0 ∧ (vp_in (v + 2) L0 ∧ wpD mB mNL 30 zX7_best [mR 7 0 14, mI (M (1000 + r0) ((v + 1).toNatClampNeg)), mI (M (1000 + r0) ((v + 2).toNatClampNeg))] M (fun r1 M1 => wI r1 fun x => (vp_in (v + 1) L0 ∧ (vp_in (v + 2) L0 ∧ wpD mB mNL 30 zX8_best [mR 8 0 0, mI (M1 (1000 + r0) ((v + 1).toNatClampNeg)), mI (M1 (1000 + r0) ((v + 2).toNatClampNeg))] M1 (fun r2 M2 => wI r2 fun y => ((x = y → lawJ k L0 r0 (v + 6) M2) ∧ (¬ x = y → k (mI 0) M2)))))))) := by
  obtain ⟨o1, o2, o3, o4, -⟩ := hI.ok
  refine ⟨hv1, hv2, wpD_le mB mNL (by omega) (cx_best (d := 0) hI (fun M1 x1 f1 r1 => ?_))⟩
  show (_ ∧ _)
  have e : ∀ j, M1 (1000 + r0) j = M (1000 + r0) j := fun j => f1 _ _ (nscr (by omega))
  simp only [e]
  exact ⟨hv1, hv2, wpD_le mB mNL (by omega) (cm_best (d := 0) (hI.keep f1) (fun M2 x2 f2 r2 => ⟨fun _ => hn _ _ _ _ _ ((hI.keep f1).keep f2), fun q => absurd (BestR.one hI.ok r1 r2) q⟩))⟩
theorem law_moss {k : mQ} {L0 r0 : Nat} {v : Int32} {V : AV} {c K : Nat} {p : Nat → Nat} {M : mM} (hv1 : vp_in (v + 1) L0) (hv2 : vp_in (v + 2) L0) (hv3 : vp_in (v + 3) L0) (hI : InvP V c p K M) (hn : lawN k L0 r0 (v + 6)) :
  (vp_in (v + 1) L0 ∧ (vp_in (v + 2) L0 ∧ (vp_in (v + 3) L0 ∧ wpD mB mNL 30 zX7_moss [mR 7 0 14, mI (M (1000 + r0) ((v + 1).toNatClampNeg)), mI (M (1000 + r0) ((v + 2).toNatClampNeg)), mI (M (1000 + r0) ((v + 3).toNatClampNeg))] M (fun r1 M1 => wI r1 fun x => (vp_in (v + 1) L0 ∧ (vp_in (v + 2) L0 ∧ (vp_in (v + 3) L0 ∧ wpD mB mNL 30 zX8_moss [mR 8 0 0, mI (M1 (1000 + r0) ((v + 1).toNatClampNeg)), mI (M1 (1000 + r0) ((v + 2).toNatClampNeg)), mI (M1 (1000 + r0) ((v + 3).toNatClampNeg))] M1 (fun r2 M2 => wI r2 fun y => ((x = y → lawJ k L0 r0 (v + 6) M2) ∧ (¬ x = y → k (mI 0) M2)))))))))) := by
  obtain ⟨o1, o2, o3, o4, -⟩ := hI.ok
  refine ⟨hv1, hv2, hv3, wpD_le mB mNL (by omega) (cx_moss (d := 0) hI (fun M1 x1 f1 r1 => ?_))⟩
  show (_ ∧ _)
  have e : ∀ j, M1 (1000 + r0) j = M (1000 + r0) j := fun j => f1 _ _ (nscr (by omega))
  simp only [e]
  exact ⟨hv1, hv2, hv3, wpD_le mB mNL (by omega) (cm_moss (d := 0) (hI.keep f1) (fun M2 x2 f2 r2 => ⟨fun _ => hn _ _ _ _ _ ((hI.keep f1).keep f2), fun q => absurd (MossR.one hI.ok r1 r2) q⟩))⟩
theorem law_cools {k : mQ} {L0 r0 : Nat} {v : Int32} {V : AV} {c K : Nat} {p : Nat → Nat} {M : mM} (hv1 : vp_in (v + 1) L0) (hv2 : vp_in (v + 2) L0) (hv3 : vp_in (v + 3) L0) (hI : InvP V c p K M) (hn : lawN k L0 r0 (v + 6)) :
  (vp_in (v + 1) L0 ∧ (vp_in (v + 2) L0 ∧ (vp_in (v + 3) L0 ∧ wpD mB mNL 30 zX7_cools [mR 7 0 14, mI (M (1000 + r0) ((v + 1).toNatClampNeg)), mI (M (1000 + r0) ((v + 2).toNatClampNeg)), mI (M (1000 + r0) ((v + 3).toNatClampNeg))] M (fun r1 M1 => wI r1 fun x => (vp_in (v + 1) L0 ∧ (vp_in (v + 2) L0 ∧ (vp_in (v + 3) L0 ∧ wpD mB mNL 30 zX8_cools [mR 8 0 0, mI (M1 (1000 + r0) ((v + 1).toNatClampNeg)), mI (M1 (1000 + r0) ((v + 2).toNatClampNeg)), mI (M1 (1000 + r0) ((v + 3).toNatClampNeg))] M1 (fun r2 M2 => wI r2 fun y => ((x = y → lawJ k L0 r0 (v + 6) M2) ∧ (¬ x = y → k (mI 0) M2)))))))))) := by
  obtain ⟨o1, o2, o3, o4, -⟩ := hI.ok
  refine ⟨hv1, hv2, hv3, wpD_le mB mNL (by omega) (cx_cools (d := 0) hI (fun M1 f1 => ?_))⟩
  show (_ ∧ _)
  have e : ∀ j, M1 (1000 + r0) j = M (1000 + r0) j := fun j => f1 _ _ (nscr (by omega))
  simp only [e]
  exact ⟨hv1, hv2, hv3, wpD_le mB mNL (by omega) (cm_cools (d := 0) (hI.keep f1) (fun M2 f2 => ⟨fun _ => hn _ _ _ _ _ ((hI.keep f1).keep f2), fun q => absurd rfl q⟩))⟩
theorem law_put {k : mQ} {L0 r0 : Nat} {v : Int32} {V : AV} {c K : Nat} {p : Nat → Nat} {M : mM} (hv1 : vp_in (v + 1) L0) (hv2 : vp_in (v + 2) L0) (hv3 : vp_in (v + 3) L0) (hI : InvP V c p K M) (hn : lawN k L0 r0 (v + 6)) :
  (vp_in (v + 1) L0 ∧ (vp_in (v + 2) L0 ∧ (vp_in (v + 3) L0 ∧ wpD mB mNL 30 zX7_put [mR 7 0 14, mI (M (1000 + r0) ((v + 1).toNatClampNeg)), mI (M (1000 + r0) ((v + 2).toNatClampNeg)), mI (M (1000 + r0) ((v + 3).toNatClampNeg))] M (fun r1 M1 => wI r1 fun x => (vp_in (v + 1) L0 ∧ (vp_in (v + 2) L0 ∧ (vp_in (v + 3) L0 ∧ wpD mB mNL 30 zX8_put [mR 8 0 0, mI (M1 (1000 + r0) ((v + 1).toNatClampNeg)), mI (M1 (1000 + r0) ((v + 2).toNatClampNeg)), mI (M1 (1000 + r0) ((v + 3).toNatClampNeg))] M1 (fun r2 M2 => wI r2 fun y => ((x = y → lawJ k L0 r0 (v + 6) M2) ∧ (¬ x = y → k (mI 0) M2)))))))))) := by
  obtain ⟨o1, o2, o3, o4, -⟩ := hI.ok
  refine ⟨hv1, hv2, hv3, wpD_le mB mNL (by omega) (cx_put (d := 0) hI (fun M1 x1 f1 r1 => ?_))⟩
  show (_ ∧ _)
  have e : ∀ j, M1 (1000 + r0) j = M (1000 + r0) j := fun j => f1 _ _ (nscr (by omega))
  simp only [e]
  exact ⟨hv1, hv2, hv3, wpD_le mB mNL (by omega) (cm_put (d := 0) (hI.keep f1) (fun M2 x2 f2 r2 => ⟨fun _ => hn _ _ _ _ _ ((hI.keep f1).keep f2), fun q => absurd (PutR.one r1 r2) q⟩))⟩
theorem law_where {k : mQ} {L0 r0 : Nat} {v : Int32} {V : AV} {c K : Nat} {p : Nat → Nat} {M : mM} (hv1 : vp_in (v + 1) L0) (hv2 : vp_in (v + 2) L0) (hv3 : vp_in (v + 3) L0) (hI : InvP V c p K M) (hn : lawN k L0 r0 (v + 6)) :
  (vp_in (v + 1) L0 ∧ (vp_in (v + 2) L0 ∧ (vp_in (v + 3) L0 ∧ wpD mB mNL 30 zX7_where [mR 7 0 14, mI (M (1000 + r0) ((v + 1).toNatClampNeg)), mI (M (1000 + r0) ((v + 2).toNatClampNeg)), mI (M (1000 + r0) ((v + 3).toNatClampNeg))] M (fun r1 M1 => wI r1 fun x => (vp_in (v + 1) L0 ∧ (vp_in (v + 2) L0 ∧ (vp_in (v + 3) L0 ∧ wpD mB mNL 30 zX8_where [mR 8 0 0, mI (M1 (1000 + r0) ((v + 1).toNatClampNeg)), mI (M1 (1000 + r0) ((v + 2).toNatClampNeg)), mI (M1 (1000 + r0) ((v + 3).toNatClampNeg))] M1 (fun r2 M2 => wI r2 fun y => ((x = y → lawJ k L0 r0 (v + 6) M2) ∧ (¬ x = y → k (mI 0) M2)))))))))) := by
  obtain ⟨o1, o2, o3, o4, -⟩ := hI.ok
  refine ⟨hv1, hv2, hv3, wpD_le mB mNL (by omega) (cx_where (d := 0) hI (fun M1 x1 f1 r1 => ?_))⟩
  show (_ ∧ _)
  have e : ∀ j, M1 (1000 + r0) j = M (1000 + r0) j := fun j => f1 _ _ (nscr (by omega))
  simp only [e]
  exact ⟨hv1, hv2, hv3, wpD_le mB mNL (by omega) (cm_where (d := 0) (hI.keep f1) (fun M2 x2 f2 r2 => ⟨fun _ => hn _ _ _ _ _ ((hI.keep f1).keep f2), fun q => absurd (WhereR.one r1 r2) q⟩))⟩
theorem law_order {k : mQ} {L0 r0 : Nat} {v : Int32} {V : AV} {c K : Nat} {p : Nat → Nat} {M : mM} (hv1 : vp_in (v + 1) L0) (hv2 : vp_in (v + 2) L0) (hI : InvP V c p K M) (hn : lawN k L0 r0 (v + 6)) :
  (vp_in (v + 1) L0 ∧ (vp_in (v + 2) L0 ∧ wpD mB mNL 30 zX7_order [mR 7 0 14, mI (M (1000 + r0) ((v + 1).toNatClampNeg)), mI (M (1000 + r0) ((v + 2).toNatClampNeg))] M (fun r1 M1 => wI r1 fun x => (vp_in (v + 1) L0 ∧ (vp_in (v + 2) L0 ∧ wpD mB mNL 30 zX8_order [mR 8 0 0, mI (M1 (1000 + r0) ((v + 1).toNatClampNeg)), mI (M1 (1000 + r0) ((v + 2).toNatClampNeg))] M1 (fun r2 M2 => wI r2 fun y => ((x = y → lawJ k L0 r0 (v + 6) M2) ∧ (¬ x = y → k (mI 0) M2)))))))) := by
  obtain ⟨o1, o2, o3, o4, -⟩ := hI.ok
  refine ⟨hv1, hv2, wpD_le mB mNL (by omega) (cx_order (d := 0) hI (fun M1 f1 => ?_))⟩
  show (_ ∧ _)
  have e : ∀ j, M1 (1000 + r0) j = M (1000 + r0) j := fun j => f1 _ _ (nscr (by omega))
  simp only [e]
  exact ⟨hv1, hv2, wpD_le mB mNL (by omega) (cm_order (d := 0) (hI.keep f1) (fun M2 f2 => ⟨fun _ => hn _ _ _ _ _ ((hI.keep f1).keep f2), fun q => absurd rfl q⟩))⟩
theorem law_felt {k : mQ} {L0 r0 : Nat} {v : Int32} {V : AV} {c K : Nat} {p : Nat → Nat} {M : mM} (hv1 : vp_in (v + 1) L0) (hv2 : vp_in (v + 2) L0) (hv3 : vp_in (v + 3) L0) (hI : InvP V c p K M) (hn : lawN k L0 r0 (v + 6)) :
  (vp_in (v + 1) L0 ∧ (vp_in (v + 2) L0 ∧ (vp_in (v + 3) L0 ∧ wpD mB mNL 30 zX7_felt [mR 7 0 14, mI (M (1000 + r0) ((v + 1).toNatClampNeg)), mI (M (1000 + r0) ((v + 2).toNatClampNeg)), mI (M (1000 + r0) ((v + 3).toNatClampNeg))] M (fun r1 M1 => wI r1 fun x => (vp_in (v + 1) L0 ∧ (vp_in (v + 2) L0 ∧ (vp_in (v + 3) L0 ∧ wpD mB mNL 30 zX8_felt [mR 8 0 0, mI (M1 (1000 + r0) ((v + 1).toNatClampNeg)), mI (M1 (1000 + r0) ((v + 2).toNatClampNeg)), mI (M1 (1000 + r0) ((v + 3).toNatClampNeg))] M1 (fun r2 M2 => wI r2 fun y => ((x = y → lawJ k L0 r0 (v + 6) M2) ∧ (¬ x = y → k (mI 0) M2)))))))))) := by
  obtain ⟨o1, o2, o3, o4, -⟩ := hI.ok
  obtain ⟨I, hC, hM⟩ := hI.split
  refine ⟨hv1, hv2, hv3, wpD_le mB mNL (by omega) (cx_felt (d := 0) hC (fun M1 f1 hC1 => ?_))⟩
  show (_ ∧ _)
  have e : ∀ j, M1 (1000 + r0) j = M (1000 + r0) j := fun j => f1 _ _ (Or.inr (by omega))
  simp only [e]
  exact ⟨hv1, hv2, hv3, wpD_le mB mNL (by omega) (cm_felt (d := 0) hI.ok (hM.of f1) (fun M2 f2 hM2 => ⟨fun _ => hn _ _ _ _ _ (InvP.join (hC1.of f2) hM2), fun q => absurd rfl q⟩))⟩
theorem law_forget {k : mQ} {L0 r0 : Nat} {v : Int32} {V : AV} {c K : Nat} {p : Nat → Nat} {M : mM} (hI : InvP V c p K M) (hn : lawN k L0 r0 (v + 6)) :
  wpD mB mNL 30 zX7_forget [mR 7 0 14] M (fun r1 M1 => wI r1 fun x => wpD mB mNL 30 zX8_forget [mR 8 0 0] M1 (fun r2 M2 => wI r2 fun y => ((x = y → lawJ k L0 r0 (v + 6) M2) ∧ (¬ x = y → k (mI 0) M2)))) := by
  obtain ⟨o1, o2, o3, o4, -⟩ := hI.ok
  obtain ⟨I, hC, hM⟩ := hI.split
  refine wpD_le mB mNL (by omega) (cx_forget (d := 0) hC (fun M1 f1 hC1 => ?_))
  exact wpD_le mB mNL (by omega) (cm_forget (d := 0) (hM.of f1) (fun M2 f2 hM2 => ⟨fun _ => hn _ _ _ _ _ (InvP.join (hC1.of f2) hM2), fun q => absurd rfl q⟩))
theorem law_fits {k : mQ} {L0 r0 : Nat} {v : Int32} {V : AV} {c K : Nat} {p : Nat → Nat} {M : mM} (hv1 : vp_in (v + 1) L0) (hv2 : vp_in (v + 2) L0) (hv3 : vp_in (v + 3) L0) (hI : InvP V c p K M) (hn : lawN k L0 r0 (v + 6)) :
  (vp_in (v + 1) L0 ∧ (vp_in (v + 2) L0 ∧ (vp_in (v + 3) L0 ∧ wpD mB mNL 30 zX7_fits [mR 7 0 14, mI (M (1000 + r0) ((v + 1).toNatClampNeg)), mI (M (1000 + r0) ((v + 2).toNatClampNeg)), mI (M (1000 + r0) ((v + 3).toNatClampNeg))] M (fun r1 M1 => wI r1 fun x => (vp_in (v + 1) L0 ∧ (vp_in (v + 2) L0 ∧ (vp_in (v + 3) L0 ∧ wpD mB mNL 30 zX8_fits [mR 8 0 0, mI (M1 (1000 + r0) ((v + 1).toNatClampNeg)), mI (M1 (1000 + r0) ((v + 2).toNatClampNeg)), mI (M1 (1000 + r0) ((v + 3).toNatClampNeg))] M1 (fun r2 M2 => wI r2 fun y => ((x = y → lawJ k L0 r0 (v + 6) M2) ∧ (¬ x = y → k (mI 0) M2)))))))))) := by
  obtain ⟨o1, o2, o3, o4, -⟩ := hI.ok
  refine ⟨hv1, hv2, hv3, wpD_le mB mNL (by omega) (cx_fits (d := 0) hI (fun M1 f1 => ?_))⟩
  show (_ ∧ _)
  have e : ∀ j, M1 (1000 + r0) j = M (1000 + r0) j := fun j => f1 _ _ (nscr (by omega))
  simp only [e]
  exact ⟨hv1, hv2, hv3, wpD_le mB mNL (by omega) (cm_fits (d := 0) (hI.keep f1) (fun M2 f2 => ⟨fun _ => hn _ _ _ _ _ ((hI.keep f1).keep f2), fun q => absurd rfl q⟩))⟩
theorem law_door {k : mQ} {L0 r0 : Nat} {v : Int32} {V : AV} {c K : Nat} {p : Nat → Nat} {M : mM} (hv1 : vp_in (v + 1) L0) (hv2 : vp_in (v + 2) L0) (hv3 : vp_in (v + 3) L0) (hI : InvP V c p K M) (hn : lawN k L0 r0 (v + 6)) :
  (vp_in (v + 1) L0 ∧ (vp_in (v + 2) L0 ∧ (vp_in (v + 3) L0 ∧ wpD mB mNL 30 zX7_door [mR 7 0 14, mI (M (1000 + r0) ((v + 1).toNatClampNeg)), mI (M (1000 + r0) ((v + 2).toNatClampNeg)), mI (M (1000 + r0) ((v + 3).toNatClampNeg))] M (fun r1 M1 => wI r1 fun x => (vp_in (v + 1) L0 ∧ (vp_in (v + 2) L0 ∧ (vp_in (v + 3) L0 ∧ wpD mB mNL 30 zX8_door [mR 8 0 0, mI (M1 (1000 + r0) ((v + 1).toNatClampNeg)), mI (M1 (1000 + r0) ((v + 2).toNatClampNeg)), mI (M1 (1000 + r0) ((v + 3).toNatClampNeg))] M1 (fun r2 M2 => wI r2 fun y => ((x = y → lawJ k L0 r0 (v + 6) M2) ∧ (¬ x = y → k (mI 0) M2)))))))))) := by
  obtain ⟨o1, o2, o3, o4, -⟩ := hI.ok
  refine ⟨hv1, hv2, hv3, wpD_le mB mNL (by omega) (cx_door (d := 0) hI (fun M1 f1 => ?_))⟩
  show (_ ∧ _)
  have e : ∀ j, M1 (1000 + r0) j = M (1000 + r0) j := fun j => f1 _ _ (nscr (by omega))
  simp only [e]
  exact ⟨hv1, hv2, hv3, wpD_le mB mNL (by omega) (cm_door (d := 0) (hI.keep f1) (fun M2 f2 => ⟨fun _ => hn _ _ _ _ _ ((hI.keep f1).keep f2), fun q => absurd rfl q⟩))⟩
theorem law_winter {k : mQ} {L0 r0 : Nat} {v : Int32} {V : AV} {c K : Nat} {p : Nat → Nat} {M : mM} (hv1 : vp_in (v + 1) L0) (hv2 : vp_in (v + 2) L0) (hv3 : vp_in (v + 3) L0) (hI : InvP V c p K M) (hn : lawN k L0 r0 (v + 6)) :
  (vp_in (v + 1) L0 ∧ (vp_in (v + 2) L0 ∧ (vp_in (v + 3) L0 ∧ wpD mB mNL 30 zX7_winter [mR 7 0 14, mI (M (1000 + r0) ((v + 1).toNatClampNeg)), mI (M (1000 + r0) ((v + 2).toNatClampNeg)), mI (M (1000 + r0) ((v + 3).toNatClampNeg))] M (fun r1 M1 => wI r1 fun x => (vp_in (v + 1) L0 ∧ (vp_in (v + 2) L0 ∧ (vp_in (v + 3) L0 ∧ wpD mB mNL 30 zX8_winter [mR 8 0 0, mI (M1 (1000 + r0) ((v + 1).toNatClampNeg)), mI (M1 (1000 + r0) ((v + 2).toNatClampNeg)), mI (M1 (1000 + r0) ((v + 3).toNatClampNeg))] M1 (fun r2 M2 => wI r2 fun y => ((x = y → lawJ k L0 r0 (v + 6) M2) ∧ (¬ x = y → k (mI 0) M2)))))))))) := by
  obtain ⟨o1, o2, o3, o4, -⟩ := hI.ok
  refine ⟨hv1, hv2, hv3, wpD_le mB mNL (by omega) (cx_winter (d := 0) hI (fun M1 x1 f1 r1 => ?_))⟩
  show (_ ∧ _)
  have e : ∀ j, M1 (1000 + r0) j = M (1000 + r0) j := fun j => f1 _ _ (nscr (by omega))
  simp only [e]
  exact ⟨hv1, hv2, hv3, wpD_le mB mNL (by omega) (cm_winter (d := 0) (hI.keep f1) (fun M2 x2 f2 r2 => ⟨fun _ => hn _ _ _ _ _ ((hI.keep f1).keep f2), fun q => absurd (WinterR.one hI.ok r1 r2) q⟩))⟩
theorem law_image {k : mQ} {L0 r0 : Nat} {v : Int32} {V : AV} {c K : Nat} {p : Nat → Nat} {M : mM} (hv1 : vp_in (v + 1) L0) (hI : InvP V c p K M) (hn : lawN k L0 r0 (v + 6)) :
  (vp_in (v + 1) L0 ∧ wpD mB mNL 30 zX7_image [mR 7 0 14, mI (M (1000 + r0) ((v + 1).toNatClampNeg))] M (fun r1 M1 => wI r1 fun x => (vp_in (v + 1) L0 ∧ wpD mB mNL 30 zX8_image [mR 8 0 0, mI (M1 (1000 + r0) ((v + 1).toNatClampNeg))] M1 (fun r2 M2 => wI r2 fun y => ((x = y → lawJ k L0 r0 (v + 6) M2) ∧ (¬ x = y → k (mI 0) M2)))))) := by
  obtain ⟨o1, o2, o3, o4, -⟩ := hI.ok
  obtain ⟨I, hC, hM⟩ := hI.split
  have hi := hC.img
  have hb : vn V ≤ 8 ∧ vf V ≤ 6 := ⟨o2.2, hI.ok.2.2.2.2.1⟩
  refine ⟨hv1, wpD_le mB mNL (by omega) (cx_image (d := 0) hC (fun M1 f1 hC1 => ?_))⟩
  show (_ ∧ _)
  have e : ∀ j, M1 (1000 + r0) j = M (1000 + r0) j := fun j => f1 _ _ (Or.inr (by omega))
  simp only [e]
  exact ⟨hv1, wpD_le mB mNL (by omega) (cm_image (d := 0) hb hi (hM.of f1) (fun M2 f2 hM2 => ⟨fun _ => hn _ _ _ _ _ (InvP.join (hC1.of f2) hM2), fun q => absurd rfl q⟩))⟩
theorem law_restore {k : mQ} {L0 r0 : Nat} {v : Int32} {V : AV} {c K : Nat} {p : Nat → Nat} {M : mM} (hv1 : vp_in (v + 1) L0) (hI : InvP V c p K M) (hn : lawN k L0 r0 (v + 6)) :
  (vp_in (v + 1) L0 ∧ wpD mB mNL 30 zX7_restore [mR 7 0 14, mI (M (1000 + r0) ((v + 1).toNatClampNeg))] M (fun r1 M1 => wI r1 fun x => (vp_in (v + 1) L0 ∧ wpD mB mNL 30 zX8_restore [mR 8 0 0, mI (M1 (1000 + r0) ((v + 1).toNatClampNeg))] M1 (fun r2 M2 => wI r2 fun y => ((x = y → lawJ k L0 r0 (v + 6) M2) ∧ (¬ x = y → k (mI 0) M2)))))) := by
  obtain ⟨o1, o2, o3, o4, -⟩ := hI.ok
  obtain ⟨I, hC, hM⟩ := hI.split
  have hi := hC.img
  refine ⟨hv1, wpD_le mB mNL (by omega) (cx_restore (d := 0) hC (fun M1 f1 hC1 => ?_))⟩
  show (_ ∧ _)
  have e : ∀ j, M1 (1000 + r0) j = M (1000 + r0) j := fun j => f1 _ _ (Or.inr (by omega))
  simp only [e]
  exact ⟨hv1, wpD_le mB mNL (by omega) (cm_restore (d := 0) hi (hM.of f1) (fun M2 f2 hM2 => ⟨fun _ => hn _ _ _ _ _ (InvP.join (hC1.of f2) hM2), fun q => absurd rfl q⟩))⟩
theorem law_told {k : mQ} {L0 r0 : Nat} {v : Int32} {V : AV} {c K : Nat} {p : Nat → Nat} {M : mM} (hv1 : vp_in (v + 1) L0) (hI : InvP V c p K M) (hn : lawN k L0 r0 (v + 6)) :
  (vp_in (v + 1) L0 ∧ wpD mB mNL 30 zX7_told [mR 7 0 14, mI (M (1000 + r0) ((v + 1).toNatClampNeg))] M (fun r1 M1 => wI r1 fun x => (vp_in (v + 1) L0 ∧ wpD mB mNL 30 zX8_told [mR 8 0 0, mI (M1 (1000 + r0) ((v + 1).toNatClampNeg))] M1 (fun r2 M2 => wI r2 fun y => ((x = y → lawJ k L0 r0 (v + 6) M2) ∧ (¬ x = y → k (mI 0) M2)))))) := by
  obtain ⟨o1, o2, o3, o4, -⟩ := hI.ok
  refine ⟨hv1, wpD_le mB mNL (by omega) (cx_told (d := 0) hI ?_)⟩
  show (_ ∧ _)
  exact ⟨hv1, wpD_le mB mNL (by omega) (cm_told (d := 0) hI ⟨fun _ => hn _ _ _ _ _ hI, fun q => absurd rfl q⟩)⟩
theorem law_step {k : mQ} {L0 r0 i : Nat} {V : AV} {c K : Nat} {p : Nat → Nat} {M : mM} (hL : L0 ≤ 384) (hi : i ≤ 1000) (hk : ∀ M, k (mI 1) M) (hI : InvP V c p K M) (hn0 : i + 6 ≤ L0 → lawN k L0 r0 (nI (i + 6))) : lawJ k L0 r0 (nI i) M := by
  have e6 : Int32.ofNat L0 - 6 = zi ((L0 : Int) - 6) := by
    rw [← zi_sub]
    exact congrArg (· - zi 6) (nI_zi L0)
  have e : ∀ j, j < 10 → nI i + nI j = nI (i + j) := fun j hj => by
    rw [nI_zi, nI_zi, nI_zi, zi_add]
    congr 1
  have l : Int32.ofNat L0 - 6 < nI i ↔ (L0 : Int) - 6 < i := by
    rw [e6, nI_zi, zi_lt (by omega) (by omega) (by omega) (by omega)]
  refine v_L_law_1 L0 r0 (nI i) ⟨fun _ => hk M, fun q => ?_⟩
  have h6 : i + 6 ≤ L0 := by
    rw [l] at q
    omega
  have hn : lawN k L0 r0 (nI i + 6) := by
    rw [show nI i + 6 = nI (i + 6) from e 6 (by decide)]
    exact hn0 h6
  have hv : ∀ j, j < 6 → vp_in (nI i + nI j) L0 := fun j hj => by
    rw [e j (by omega)]
    exact vp_in_nI (by omega) (by omega)
  have hv0 : vp_in (nI i) L0 := vp_in_nI (by omega) (by omega)
  exact ⟨hv0, fun _ => hn _ _ _ _ _ hI, fun _ => law_spring (hv 1 (by decide)) (hv 2 (by decide)) hI hn, fun _ => law_kind (hv 1 (by decide)) (hv 2 (by decide)) (hv 3 (by decide)) hI hn, fun _ => law_say (hv 1 (by decide)) hI hn, fun _ => law_wipe hI hn, fun _ => law_fault (hv 1 (by decide)) hI hn, fun _ => law_lane hI hn, fun _ => law_house (hv 1 (by decide)) (hv 2 (by decide)) hI hn, fun _ => law_at (hv 1 (by decide)) (hv 2 (by decide)) (hv 3 (by decide)) (hv 4 (by decide)) (hv 5 (by decide)) hI hn, fun _ => law_run (hv 1 (by decide)) (hv 2 (by decide)) (hv 3 (by decide)) (hv 4 (by decide)) hI hn, fun _ => law_judge (hv 1 (by decide)) hI hn, fun _ => law_best (hv 1 (by decide)) (hv 2 (by decide)) hI hn, fun _ => law_moss (hv 1 (by decide)) (hv 2 (by decide)) (hv 3 (by decide)) hI hn, fun _ => law_cools (hv 1 (by decide)) (hv 2 (by decide)) (hv 3 (by decide)) hI hn, fun _ => law_put (hv 1 (by decide)) (hv 2 (by decide)) (hv 3 (by decide)) hI hn, fun _ => law_where (hv 1 (by decide)) (hv 2 (by decide)) (hv 3 (by decide)) hI hn, fun _ => law_order (hv 1 (by decide)) (hv 2 (by decide)) hI hn, fun _ => law_felt (hv 1 (by decide)) (hv 2 (by decide)) (hv 3 (by decide)) hI hn, fun _ => law_forget hI hn, fun _ => law_fits (hv 1 (by decide)) (hv 2 (by decide)) (hv 3 (by decide)) hI hn, fun _ => law_door (hv 1 (by decide)) (hv 2 (by decide)) (hv 3 (by decide)) hI hn, fun _ => law_winter (hv 1 (by decide)) (hv 2 (by decide)) (hv 3 (by decide)) hI hn, fun _ => law_image (hv 1 (by decide)) hI hn, fun _ => law_restore (hv 1 (by decide)) hI hn, fun _ => law_told (hv 1 (by decide)) hI hn, trivial⟩
/-- THE LAW'S LOOP ENDS, AND ANSWERS 1 -/
theorem law_all {k : mQ} {L0 r0 : Nat} (hL : L0 ≤ 384) (hk : ∀ M, k (mI 1) M) : ∀ (m i : Nat) (V : AV) (c : Nat) (p : Nat → Nat) (K : Nat) (M : mM), i ≤ 1000 → L0 ≤ i + m → InvP V c p K M → lawJ k L0 r0 (nI i) M := by
  intro m
  induction m with
  | zero => exact fun i V c p K M h1 h2 hI => law_step hL h1 hk hI (fun q => absurd q (by omega))
  | succ m ih => exact fun i V c p K M h1 h2 hI => law_step hL h1 hk hI (fun q V c p K M hI => ih (i + 6) V c p K M (by omega) (by omega) hI)
