theorem kl_o_8_1 : Cond.methodLink (mOwn 8) 1 objectInit ∈ gT := gT_at (i := 704) (by decide +kernel) rfl
theorem kl_f_8_7 : Cond.fieldLink (mOwn 8) 7 (TX8 0).1 (TX8 0).2.1 (TX8 0).2.2.1 ∈ gT := gT_at (i := 709) (by decide +kernel) rfl
theorem kl_f_8_13 : Cond.fieldLink (mOwn 8) 13 (TX8 1).1 (TX8 1).2.1 (TX8 1).2.2.1 ∈ gT := gT_at (i := 710) (by decide +kernel) rfl
theorem kl_f_8_16 : Cond.fieldLink (mOwn 8) 16 (TX8 3).1 (TX8 3).2.1 (TX8 3).2.2.1 ∈ gT := gT_at (i := 712) (by decide +kernel) rfl
theorem kl_f_8_19 : Cond.fieldLink (mOwn 8) 19 (TX8 4).1 (TX8 4).2.1 (TX8 4).2.2.1 ∈ gT := gT_at (i := 713) (by decide +kernel) rfl
theorem kl_f_8_23 : Cond.fieldLink (mOwn 8) 23 (TX8 5).1 (TX8 5).2.1 (TX8 5).2.2.1 ∈ gT := gT_at (i := 714) (by decide +kernel) rfl
theorem kl_f_8_26 : Cond.fieldLink (mOwn 8) 26 (TX8 8).1 (TX8 8).2.1 (TX8 8).2.2.1 ∈ gT := gT_at (i := 717) (by decide +kernel) rfl
theorem kl_f_8_29 : Cond.fieldLink (mOwn 8) 29 (TX8 10).1 (TX8 10).2.1 (TX8 10).2.2.1 ∈ gT := gT_at (i := 719) (by decide +kernel) rfl
theorem kl_f_8_32 : Cond.fieldLink (mOwn 8) 32 (TX8 11).1 (TX8 11).2.1 (TX8 11).2.2.1 ∈ gT := gT_at (i := 720) (by decide +kernel) rfl
theorem kl_f_8_35 : Cond.fieldLink (mOwn 8) 35 (TX8 12).1 (TX8 12).2.1 (TX8 12).2.2.1 ∈ gT := gT_at (i := 721) (by decide +kernel) rfl
theorem kl_f_8_38 : Cond.fieldLink (mOwn 8) 38 (TX8 18).1 (TX8 18).2.1 (TX8 18).2.2.1 ∈ gT := gT_at (i := 727) (by decide +kernel) rfl
theorem kl_f_8_41 : Cond.fieldLink (mOwn 8) 41 (TX8 19).1 (TX8 19).2.1 (TX8 19).2.2.1 ∈ gT := gT_at (i := 728) (by decide +kernel) rfl
theorem kl_f_8_44 : Cond.fieldLink (mOwn 8) 44 (TX8 20).1 (TX8 20).2.1 (TX8 20).2.2.1 ∈ gT := gT_at (i := 729) (by decide +kernel) rfl
theorem kl_f_8_47 : Cond.fieldLink (mOwn 8) 47 (TX8 21).1 (TX8 21).2.1 (TX8 21).2.2.1 ∈ gT := gT_at (i := 730) (by decide +kernel) rfl
theorem kl_f_8_50 : Cond.fieldLink (mOwn 8) 50 (TX8 22).1 (TX8 22).2.1 (TX8 22).2.2.1 ∈ gT := gT_at (i := 731) (by decide +kernel) rfl
def kT8 : List mIns := [(112, .aload_n 0, 1, [], 0), (113, .getfield 7, 3, [8, 0], 0), (116, .iconst 0, 1, [], 0), (117, .bipush 20, 2, [], 20), (119, .iastore, 1, [], 0), (120, .aload_n 0, 1, [], 0), (121, .getfield 7, 3, [8, 0], 0), (124, .iconst 1, 1, [], 1), (125, .sipush 800, 3, [], 800), (128, .iastore, 1, [], 0), (129, .aload_n 0, 1, [], 0), (130, .getfield 7, 3, [8, 0], 0), (133, .iconst 2, 1, [], 2), (134, .bipush 100, 2, [], 100), (136, .iastore, 1, [], 0), (137, .aload_n 0, 1, [], 0), (138, .getfield 7, 3, [8, 0], 0), (141, .iconst 3, 1, [], 3), (142, .iconst 5, 1, [], 5), (143, .iastore, 1, [], 0), (144, .aload_n 0, 1, [], 0), (145, .getfield 7, 3, [8, 0], 0), (148, .iconst 4, 1, [], 4), (149, .bipush 80, 2, [], 80), (151, .iastore, 1, [], 0), (152, .aload_n 0, 1, [], 0), (153, .iconst 0, 1, [], 0), (154, .sipush 380, 3, [], 380), (157, .sipush 1000, 3, [], 1000), (160, .sipush 600, 3, [], 600), (163, .iconst 5, 1, [], 5), (164, .invokevirtual 54, 3, [87, 6, 0, 8], 0), (167, .aload_n 0, 1, [], 0), (168, .iconst 1, 1, [], 1), (169, .sipush 600, 3, [], 600), (172, .sipush 1000, 3, [], 1000), (175, .sipush 1000, 3, [], 1000), (178, .bipush 8, 2, [], 8), (180, .invokevirtual 54, 3, [87, 6, 0, 8], 0), (183, .aload_n 0, 1, [], 0), (184, .iconst 2, 1, [], 2), (185, .sipush 650, 3, [], 650), (188, .sipush 1000, 3, [], 1000), (191, .sipush 900, 3, [], 900), (194, .bipush 9, 2, [], 9), (196, .invokevirtual 54, 3, [87, 6, 0, 8], 0), (199, .aload_n 0, 1, [], 0), (200, .iconst 3, 1, [], 3), (201, .sipush 150, 3, [], 150), (204, .sipush 350, 3, [], 350), (207, .sipush 200, 3, [], 200), (210, .iconst 3, 1, [], 3), (211, .invokevirtual 54, 3, [87, 6, 0, 8], 0), (214, .aload_n 0, 1, [], 0), (215, .iconst 4, 1, [], 4), (216, .sipush 200, 3, [], 200), (219, .sipush 300, 3, [], 300), (222, .bipush 100, 2, [], 100), (224, .bipush 6, 2, [], 6), (226, .invokevirtual 54, 3, [87, 6, 0, 8], 0), (229, .aload_n 0, 1, [], 0), (230, .iconst 5, 1, [], 5), (231, .sipush 500, 3, [], 500), (234, .sipush 1000, 3, [], 1000), (237, .sipush 1200, 3, [], 1200), (240, .iconst 4, 1, [], 4), (241, .invokevirtual 54, 3, [87, 6, 0, 8], 0), (244, .aload_n 0, 1, [], 0), (245, .getfield 23, 3, [8, 5], 0), (248, .iconst 2, 1, [], 2), (249, .bipush (-6), 2, [], (-6)), (251, .iastore, 1, [], 0), (252, .return_, 1, [], 0)]
theorem sp_layKind {d : Nat} {k : mQ} {M : mM} (i : Nat) (hi : i < 6) {v2 v3 v4 v5 : Int32} (h : k none (up (up (up (up (up M 2 i v2) 2 (6 + i) v3) 2 (12 + i) v4) 2 (18 + i) v5) 2 (24 + i) 63)) : wpD mB mNL (d + 1) zX8_layKind [mR 8 0 0, mI (nI i), mI v2, mI v3, mI v4, mI v5] M k := by
  have e0 : ∀ i, i < 6 → (nI i).toNatClampNeg = i := by decide
  have e1 : ∀ i, i < 6 → (6 + nI i).toNatClampNeg = 6 + i := by decide
  have e2 : ∀ i, i < 6 → (12 + nI i).toNatClampNeg = 12 + i := by decide
  have e3 : ∀ i, i < 6 → (18 + nI i).toNatClampNeg = 18 + i := by decide
  have e4 : ∀ i, i < 6 → (24 + nI i).toNatClampNeg = 24 + i := by decide
  have z : ∀ i, i < 6 → (¬ (nI i < 0 ∨ 30 ≤ (nI i).toNatClampNeg)) ∧ (¬ (6 + nI i < 0 ∨ 30 ≤ (6 + nI i).toNatClampNeg)) ∧ (¬ (12 + nI i < 0 ∨ 30 ≤ (12 + nI i).toNatClampNeg)) ∧ (¬ (18 + nI i < 0 ∨ 30 ≤ (18 + nI i).toNatClampNeg)) ∧ (¬ (24 + nI i < 0 ∨ 30 ≤ (24 + nI i).toNatClampNeg)) := by decide
  obtain ⟨z0, z1, z2, z3, z4⟩ := z i hi
  refine v_X8_layKind_0 _ _ _ _ _ ⟨z0, z1, z2, z3, z4, ?_⟩
  rw [e0 i hi, e1 i hi, e2 i hi, e3 i hi, e4 i hi]
  exact h
def mmM0 (rc : Nat → Nat → Int32) : mM := fun k j => if 1000 ≤ k then rc (k - 1000) j else if k = 0 ∧ j = 4 then 1 else 0
def sp0 (j : Nat) : Int := ([20, 800, 100, 5, 80] : List Int).getD j 0
def kv0 (j : Nat) : Int := ([380, 600, 650, 150, 200, 500, 1000, 1000, 1000, 350, 300, 1000, 600, 1000, 900, 200, 100, 1200, 5, 8, 9, 3, 6, 4, 63, 63, 63, 63, 63, 63] : List Int).getD j 0
/-- what the model holds when it is made -/
def FM (M : mM) : Prop := (∀ j, j < 5 → M 1 j = zi (sp0 j)) ∧ (∀ j, j < 30 → M 2 j = zi (kv0 j)) ∧ (M 0 2 = 0 ∧ M 0 4 = 1 ∧ M 0 6 = 0 ∧ M 0 7 = 0) ∧ (M 4 0 = 0 ∧ M 4 1 = 0 ∧ M 4 2 = -6) ∧ M 13 0 = 0 ∧ M 13 1 = 0
set_option maxHeartbeats 1000000 in
set_option maxRecDepth 20000 in
theorem tail_8 {rc : Nat → Nat → Int32} (ad : Nat → Nat) : bx (fun _ _ _ _ => False) (fun v M' => v = none ∧ (fun (_ : Nat → Nat) M => FM M) ad M') (wpD mB mNL 3) kT8 [mR 8 0 0] [] (mmM0 rc) := by
  refine And.intro (by unfold vp_in; decide) ?_
  refine And.intro (by unfold vp_in; decide) ?_
  refine And.intro (by unfold vp_in; decide) ?_
  refine And.intro (by unfold vp_in; decide) ?_
  refine And.intro (by unfold vp_in; decide) ?_
  refine cV (fun M' h => h) ?_
  refine sp_layKind (d := 2) 0 (by decide) ?_
  refine cV (fun M' h => h) ?_
  refine sp_layKind (d := 2) 1 (by decide) ?_
  refine cV (fun M' h => h) ?_
  refine sp_layKind (d := 2) 2 (by decide) ?_
  refine cV (fun M' h => h) ?_
  refine sp_layKind (d := 2) 3 (by decide) ?_
  refine cV (fun M' h => h) ?_
  refine sp_layKind (d := 2) 4 (by decide) ?_
  refine cV (fun M' h => h) ?_
  refine sp_layKind (d := 2) 5 (by decide) ?_
  refine And.intro (by unfold vp_in; decide) ?_
  refine And.intro rfl ?_
  refine ⟨fun j hj => ?_, fun j hj => ?_, ⟨?_, ?_, ?_, ?_⟩, ⟨?_, ?_, ?_⟩, ?_, ?_⟩
  · match j, hj with
    | 0, _ => exact rfl
    | 1, _ => exact rfl
    | 2, _ => exact rfl
    | 3, _ => exact rfl
    | 4, _ => exact rfl
    | n + 5, h => exact absurd h (by omega)
  · match j, hj with
    | 0, _ => exact rfl
    | 1, _ => exact rfl
    | 2, _ => exact rfl
    | 3, _ => exact rfl
    | 4, _ => exact rfl
    | 5, _ => exact rfl
    | 6, _ => exact rfl
    | 7, _ => exact rfl
    | 8, _ => exact rfl
    | 9, _ => exact rfl
    | 10, _ => exact rfl
    | 11, _ => exact rfl
    | 12, _ => exact rfl
    | 13, _ => exact rfl
    | 14, _ => exact rfl
    | 15, _ => exact rfl
    | 16, _ => exact rfl
    | 17, _ => exact rfl
    | 18, _ => exact rfl
    | 19, _ => exact rfl
    | 20, _ => exact rfl
    | 21, _ => exact rfl
    | 22, _ => exact rfl
    | 23, _ => exact rfl
    | 24, _ => exact rfl
    | 25, _ => exact rfl
    | 26, _ => exact rfl
    | 27, _ => exact rfl
    | 28, _ => exact rfl
    | 29, _ => exact rfl
    | n + 30, h => exact absurd h (by omega)
  all_goals rfl
theorem wsM_8 {cA cB : ClassId} {ad : Nat → Nat} {M : mM} : wsM cA cB ad lyM M = [(ad 0, .inr (8, [.ref (ad 1), .ref (ad 2), .int (M 0 2), .ref (ad 3), .int (M 0 4), .ref (ad 4), .int (M 0 6), .int (M 0 7), .ref (ad 5), .int (M 0 9), .ref (ad 6), .ref (ad 7), .ref (ad 8), .int (M 0 13), .int (M 0 14), .int (M 0 15), .int (M 0 16), .int (M 0 17), .ref (ad 9), .ref (ad 10), .ref (ad 11), .ref (ad 12), .ref (ad 13)])), (ad 1, .inl (cA, 5, .inl (M 1))), (ad 2, .inl (cA, 30, .inl (M 2))), (ad 3, .inl (cA, 48, .inl (M 3))), (ad 4, .inl (cA, 24, .inl (M 4))), (ad 5, .inl (cA, 18, .inl (M 5))), (ad 6, .inl (cA, 27, .inl (M 6))), (ad 7, .inl (cA, 10, .inl (M 7))), (ad 8, .inl (cA, 10, .inl (M 8))), (ad 9, .inl (cA, 8, .inl (M 9))), (ad 10, .inl (cA, 16, .inl (M 10))), (ad 11, .inl (cA, 6, .inl (M 11))), (ad 12, .inl (cA, 160, .inl (M 12))), (ad 13, .inl (cB, 2, .inl (M 13)))] := by
  simp only [wsM, lyM, List.mapIdx_cons, List.mapIdx_nil, cellE, slE, mSh, Nat.zero_add, Nat.reduceAdd, Nat.reduceEqDiff, if_true, if_false, reduceIte]
set_option maxHeartbeats 1000000 in
set_option maxRecDepth 20000 in
theorem cc_8 {l : Launch} {D : va_G} {cA cB : ClassId} {roAd : Nat → Nat} {ro : List Nat} {rc : Nat → Nat → Int32} : kCtr l D cA cB roAd ro rc yX8_init cX8_init 1 4 [] 8 kF8 lyM (fun _ M => FM M) 13 364 := by
  refine kMeet (own := 8) (by decide +kernel) rfl rfl (fun _ => (Nat.le_of_ble_eq_true rfl)) (fun h0 p e s m args below meth c ls X hin hr hlk hw hl => ?_)
  have hx := X.1.1
  have hb := X.1.2.1
  refine lv_aload_n hx hb dX8_init_0 rfl (lv_at hl 0 rfl) ?_
  refine kObj X hl.1 kl_o_8_1 dX8_init_1 ⟨(Nat.le_of_ble_eq_true rfl), (Nat.le_of_ble_eq_true rfl)⟩ ?_
  refine lv_aload_n hx hb dX8_init_4 rfl (lv_at hl 0 rfl) ?_
  refine lv_iconst (v := 5) hx hb dX8_init_5 (by decide) ?_
  refine kNewa (N := 5) X hw (by decide) (by decide) (by decide) (Nat.le_of_ble_eq_true rfl) (Nat.le_of_ble_eq_true rfl) dX8_init_6 (fun q1 H hw => ?_)
  have hw : kW D _ s ((h0, .inr (8, [.null, .null, .int 0, .null, .int 0, .null, .int 0, .int 0, .null, .int 0, .null, .null, .null, .int 0, .int 0, .int 0, .int 0, .int 0, .null, .null, .null, .null, .null])) :: [(q1, .inl (cA, 5, .inl fun _ => 0))]) H _ := hw
  refine kPut X hw rfl 0 (by decide) kl_f_8_7 (Or.inr ⟨rfl, hin, rfl⟩) (v := .ref (q1)) (ty := .array .int) (by decide +kernel) rfl rfl (Nat.le_of_ble_eq_true rfl) dX8_init_8 (fun H locs hw => ?_)
  have hw : kW D _ s ((h0, .inr (8, [.ref (q1), .null, .int 0, .null, .int 0, .null, .int 0, .int 0, .null, .int 0, .null, .null, .null, .int 0, .int 0, .int 0, .int 0, .int 0, .null, .null, .null, .null, .null])) :: [(q1, .inl (cA, 5, .inl fun _ => 0))]) H _ := hw
  refine lv_aload_n hx hb dX8_init_11 rfl (lv_at hl 0 rfl) ?_
  refine lv_bipush (v := 30) hx hb dX8_init_12 (by decide) ?_
  refine kNewa (N := 30) X hw (by decide) (by decide) (by decide) (Nat.le_of_ble_eq_true rfl) (Nat.le_of_ble_eq_true rfl) dX8_init_14 (fun q2 H hw => ?_)
  have hw : kW D _ s ((h0, .inr (8, [.ref (q1), .null, .int 0, .null, .int 0, .null, .int 0, .int 0, .null, .int 0, .null, .null, .null, .int 0, .int 0, .int 0, .int 0, .int 0, .null, .null, .null, .null, .null])) :: [(q1, .inl (cA, 5, .inl fun _ => 0)), (q2, .inl (cA, 30, .inl fun _ => 0))]) H _ := hw
  refine kPut X hw rfl 1 (by decide) kl_f_8_13 (Or.inr ⟨rfl, hin, rfl⟩) (v := .ref (q2)) (ty := .array .int) (by decide +kernel) rfl rfl (Nat.le_of_ble_eq_true rfl) dX8_init_16 (fun H locs hw => ?_)
  have hw : kW D _ s ((h0, .inr (8, [.ref (q1), .ref (q2), .int 0, .null, .int 0, .null, .int 0, .int 0, .null, .int 0, .null, .null, .null, .int 0, .int 0, .int 0, .int 0, .int 0, .null, .null, .null, .null, .null])) :: [(q1, .inl (cA, 5, .inl fun _ => 0)), (q2, .inl (cA, 30, .inl fun _ => 0))]) H _ := hw
  refine lv_aload_n hx hb dX8_init_19 rfl (lv_at hl 0 rfl) ?_
  refine lv_bipush (v := 48) hx hb dX8_init_20 (by decide) ?_
  refine kNewa (N := 48) X hw (by decide) (by decide) (by decide) (Nat.le_of_ble_eq_true rfl) (Nat.le_of_ble_eq_true rfl) dX8_init_22 (fun q3 H hw => ?_)
  have hw : kW D _ s ((h0, .inr (8, [.ref (q1), .ref (q2), .int 0, .null, .int 0, .null, .int 0, .int 0, .null, .int 0, .null, .null, .null, .int 0, .int 0, .int 0, .int 0, .int 0, .null, .null, .null, .null, .null])) :: [(q1, .inl (cA, 5, .inl fun _ => 0)), (q2, .inl (cA, 30, .inl fun _ => 0)), (q3, .inl (cA, 48, .inl fun _ => 0))]) H _ := hw
  refine kPut X hw rfl 3 (by decide) kl_f_8_16 (Or.inr ⟨rfl, hin, rfl⟩) (v := .ref (q3)) (ty := .array .int) (by decide +kernel) rfl rfl (Nat.le_of_ble_eq_true rfl) dX8_init_24 (fun H locs hw => ?_)
  have hw : kW D _ s ((h0, .inr (8, [.ref (q1), .ref (q2), .int 0, .ref (q3), .int 0, .null, .int 0, .int 0, .null, .int 0, .null, .null, .null, .int 0, .int 0, .int 0, .int 0, .int 0, .null, .null, .null, .null, .null])) :: [(q1, .inl (cA, 5, .inl fun _ => 0)), (q2, .inl (cA, 30, .inl fun _ => 0)), (q3, .inl (cA, 48, .inl fun _ => 0))]) H _ := hw
  refine lv_aload_n hx hb dX8_init_27 rfl (lv_at hl 0 rfl) ?_
  refine lv_iconst (v := 1) hx hb dX8_init_28 (by decide) ?_
  refine kPut X hw rfl 4 (by decide) kl_f_8_19 (Or.inl rfl) (v := .int 1) (ty := .int) (by decide +kernel) rfl rfl (Nat.le_of_ble_eq_true rfl) dX8_init_29 (fun H locs hw => ?_)
  have hw : kW D _ s ((h0, .inr (8, [.ref (q1), .ref (q2), .int 0, .ref (q3), .int 1, .null, .int 0, .int 0, .null, .int 0, .null, .null, .null, .int 0, .int 0, .int 0, .int 0, .int 0, .null, .null, .null, .null, .null])) :: [(q1, .inl (cA, 5, .inl fun _ => 0)), (q2, .inl (cA, 30, .inl fun _ => 0)), (q3, .inl (cA, 48, .inl fun _ => 0))]) H _ := hw
  refine lv_aload_n hx hb dX8_init_32 rfl (lv_at hl 0 rfl) ?_
  refine lv_bipush (v := 24) hx hb dX8_init_33 (by decide) ?_
  refine kNewa (N := 24) X hw (by decide) (by decide) (by decide) (Nat.le_of_ble_eq_true rfl) (Nat.le_of_ble_eq_true rfl) dX8_init_35 (fun q4 H hw => ?_)
  have hw : kW D _ s ((h0, .inr (8, [.ref (q1), .ref (q2), .int 0, .ref (q3), .int 1, .null, .int 0, .int 0, .null, .int 0, .null, .null, .null, .int 0, .int 0, .int 0, .int 0, .int 0, .null, .null, .null, .null, .null])) :: [(q1, .inl (cA, 5, .inl fun _ => 0)), (q2, .inl (cA, 30, .inl fun _ => 0)), (q3, .inl (cA, 48, .inl fun _ => 0)), (q4, .inl (cA, 24, .inl fun _ => 0))]) H _ := hw
  refine kPut X hw rfl 5 (by decide) kl_f_8_23 (Or.inr ⟨rfl, hin, rfl⟩) (v := .ref (q4)) (ty := .array .int) (by decide +kernel) rfl rfl (Nat.le_of_ble_eq_true rfl) dX8_init_37 (fun H locs hw => ?_)
  have hw : kW D _ s ((h0, .inr (8, [.ref (q1), .ref (q2), .int 0, .ref (q3), .int 1, .ref (q4), .int 0, .int 0, .null, .int 0, .null, .null, .null, .int 0, .int 0, .int 0, .int 0, .int 0, .null, .null, .null, .null, .null])) :: [(q1, .inl (cA, 5, .inl fun _ => 0)), (q2, .inl (cA, 30, .inl fun _ => 0)), (q3, .inl (cA, 48, .inl fun _ => 0)), (q4, .inl (cA, 24, .inl fun _ => 0))]) H _ := hw
  refine lv_aload_n hx hb dX8_init_40 rfl (lv_at hl 0 rfl) ?_
  refine lv_bipush (v := 18) hx hb dX8_init_41 (by decide) ?_
  refine kNewa (N := 18) X hw (by decide) (by decide) (by decide) (Nat.le_of_ble_eq_true rfl) (Nat.le_of_ble_eq_true rfl) dX8_init_43 (fun q5 H hw => ?_)
  have hw : kW D _ s ((h0, .inr (8, [.ref (q1), .ref (q2), .int 0, .ref (q3), .int 1, .ref (q4), .int 0, .int 0, .null, .int 0, .null, .null, .null, .int 0, .int 0, .int 0, .int 0, .int 0, .null, .null, .null, .null, .null])) :: [(q1, .inl (cA, 5, .inl fun _ => 0)), (q2, .inl (cA, 30, .inl fun _ => 0)), (q3, .inl (cA, 48, .inl fun _ => 0)), (q4, .inl (cA, 24, .inl fun _ => 0)), (q5, .inl (cA, 18, .inl fun _ => 0))]) H _ := hw
  refine kPut X hw rfl 8 (by decide) kl_f_8_26 (Or.inr ⟨rfl, hin, rfl⟩) (v := .ref (q5)) (ty := .array .int) (by decide +kernel) rfl rfl (Nat.le_of_ble_eq_true rfl) dX8_init_45 (fun H locs hw => ?_)
  have hw : kW D _ s ((h0, .inr (8, [.ref (q1), .ref (q2), .int 0, .ref (q3), .int 1, .ref (q4), .int 0, .int 0, .ref (q5), .int 0, .null, .null, .null, .int 0, .int 0, .int 0, .int 0, .int 0, .null, .null, .null, .null, .null])) :: [(q1, .inl (cA, 5, .inl fun _ => 0)), (q2, .inl (cA, 30, .inl fun _ => 0)), (q3, .inl (cA, 48, .inl fun _ => 0)), (q4, .inl (cA, 24, .inl fun _ => 0)), (q5, .inl (cA, 18, .inl fun _ => 0))]) H _ := hw
  refine lv_aload_n hx hb dX8_init_48 rfl (lv_at hl 0 rfl) ?_
  refine lv_bipush (v := 27) hx hb dX8_init_49 (by decide) ?_
  refine kNewa (N := 27) X hw (by decide) (by decide) (by decide) (Nat.le_of_ble_eq_true rfl) (Nat.le_of_ble_eq_true rfl) dX8_init_51 (fun q6 H hw => ?_)
  have hw : kW D _ s ((h0, .inr (8, [.ref (q1), .ref (q2), .int 0, .ref (q3), .int 1, .ref (q4), .int 0, .int 0, .ref (q5), .int 0, .null, .null, .null, .int 0, .int 0, .int 0, .int 0, .int 0, .null, .null, .null, .null, .null])) :: [(q1, .inl (cA, 5, .inl fun _ => 0)), (q2, .inl (cA, 30, .inl fun _ => 0)), (q3, .inl (cA, 48, .inl fun _ => 0)), (q4, .inl (cA, 24, .inl fun _ => 0)), (q5, .inl (cA, 18, .inl fun _ => 0)), (q6, .inl (cA, 27, .inl fun _ => 0))]) H _ := hw
  refine kPut X hw rfl 10 (by decide) kl_f_8_29 (Or.inr ⟨rfl, hin, rfl⟩) (v := .ref (q6)) (ty := .array .int) (by decide +kernel) rfl rfl (Nat.le_of_ble_eq_true rfl) dX8_init_53 (fun H locs hw => ?_)
  have hw : kW D _ s ((h0, .inr (8, [.ref (q1), .ref (q2), .int 0, .ref (q3), .int 1, .ref (q4), .int 0, .int 0, .ref (q5), .int 0, .ref (q6), .null, .null, .int 0, .int 0, .int 0, .int 0, .int 0, .null, .null, .null, .null, .null])) :: [(q1, .inl (cA, 5, .inl fun _ => 0)), (q2, .inl (cA, 30, .inl fun _ => 0)), (q3, .inl (cA, 48, .inl fun _ => 0)), (q4, .inl (cA, 24, .inl fun _ => 0)), (q5, .inl (cA, 18, .inl fun _ => 0)), (q6, .inl (cA, 27, .inl fun _ => 0))]) H _ := hw
  refine lv_aload_n hx hb dX8_init_56 rfl (lv_at hl 0 rfl) ?_
  refine lv_bipush (v := 10) hx hb dX8_init_57 (by decide) ?_
  refine kNewa (N := 10) X hw (by decide) (by decide) (by decide) (Nat.le_of_ble_eq_true rfl) (Nat.le_of_ble_eq_true rfl) dX8_init_59 (fun q7 H hw => ?_)
  have hw : kW D _ s ((h0, .inr (8, [.ref (q1), .ref (q2), .int 0, .ref (q3), .int 1, .ref (q4), .int 0, .int 0, .ref (q5), .int 0, .ref (q6), .null, .null, .int 0, .int 0, .int 0, .int 0, .int 0, .null, .null, .null, .null, .null])) :: [(q1, .inl (cA, 5, .inl fun _ => 0)), (q2, .inl (cA, 30, .inl fun _ => 0)), (q3, .inl (cA, 48, .inl fun _ => 0)), (q4, .inl (cA, 24, .inl fun _ => 0)), (q5, .inl (cA, 18, .inl fun _ => 0)), (q6, .inl (cA, 27, .inl fun _ => 0)), (q7, .inl (cA, 10, .inl fun _ => 0))]) H _ := hw
  refine kPut X hw rfl 11 (by decide) kl_f_8_32 (Or.inr ⟨rfl, hin, rfl⟩) (v := .ref (q7)) (ty := .array .int) (by decide +kernel) rfl rfl (Nat.le_of_ble_eq_true rfl) dX8_init_61 (fun H locs hw => ?_)
  have hw : kW D _ s ((h0, .inr (8, [.ref (q1), .ref (q2), .int 0, .ref (q3), .int 1, .ref (q4), .int 0, .int 0, .ref (q5), .int 0, .ref (q6), .ref (q7), .null, .int 0, .int 0, .int 0, .int 0, .int 0, .null, .null, .null, .null, .null])) :: [(q1, .inl (cA, 5, .inl fun _ => 0)), (q2, .inl (cA, 30, .inl fun _ => 0)), (q3, .inl (cA, 48, .inl fun _ => 0)), (q4, .inl (cA, 24, .inl fun _ => 0)), (q5, .inl (cA, 18, .inl fun _ => 0)), (q6, .inl (cA, 27, .inl fun _ => 0)), (q7, .inl (cA, 10, .inl fun _ => 0))]) H _ := hw
  refine lv_aload_n hx hb dX8_init_64 rfl (lv_at hl 0 rfl) ?_
  refine lv_bipush (v := 10) hx hb dX8_init_65 (by decide) ?_
  refine kNewa (N := 10) X hw (by decide) (by decide) (by decide) (Nat.le_of_ble_eq_true rfl) (Nat.le_of_ble_eq_true rfl) dX8_init_67 (fun q8 H hw => ?_)
  have hw : kW D _ s ((h0, .inr (8, [.ref (q1), .ref (q2), .int 0, .ref (q3), .int 1, .ref (q4), .int 0, .int 0, .ref (q5), .int 0, .ref (q6), .ref (q7), .null, .int 0, .int 0, .int 0, .int 0, .int 0, .null, .null, .null, .null, .null])) :: [(q1, .inl (cA, 5, .inl fun _ => 0)), (q2, .inl (cA, 30, .inl fun _ => 0)), (q3, .inl (cA, 48, .inl fun _ => 0)), (q4, .inl (cA, 24, .inl fun _ => 0)), (q5, .inl (cA, 18, .inl fun _ => 0)), (q6, .inl (cA, 27, .inl fun _ => 0)), (q7, .inl (cA, 10, .inl fun _ => 0)), (q8, .inl (cA, 10, .inl fun _ => 0))]) H _ := hw
  refine kPut X hw rfl 12 (by decide) kl_f_8_35 (Or.inr ⟨rfl, hin, rfl⟩) (v := .ref (q8)) (ty := .array .int) (by decide +kernel) rfl rfl (Nat.le_of_ble_eq_true rfl) dX8_init_69 (fun H locs hw => ?_)
  have hw : kW D _ s ((h0, .inr (8, [.ref (q1), .ref (q2), .int 0, .ref (q3), .int 1, .ref (q4), .int 0, .int 0, .ref (q5), .int 0, .ref (q6), .ref (q7), .ref (q8), .int 0, .int 0, .int 0, .int 0, .int 0, .null, .null, .null, .null, .null])) :: [(q1, .inl (cA, 5, .inl fun _ => 0)), (q2, .inl (cA, 30, .inl fun _ => 0)), (q3, .inl (cA, 48, .inl fun _ => 0)), (q4, .inl (cA, 24, .inl fun _ => 0)), (q5, .inl (cA, 18, .inl fun _ => 0)), (q6, .inl (cA, 27, .inl fun _ => 0)), (q7, .inl (cA, 10, .inl fun _ => 0)), (q8, .inl (cA, 10, .inl fun _ => 0))]) H _ := hw
  refine lv_aload_n hx hb dX8_init_72 rfl (lv_at hl 0 rfl) ?_
  refine lv_bipush (v := 8) hx hb dX8_init_73 (by decide) ?_
  refine kNewa (N := 8) X hw (by decide) (by decide) (by decide) (Nat.le_of_ble_eq_true rfl) (Nat.le_of_ble_eq_true rfl) dX8_init_75 (fun q9 H hw => ?_)
  have hw : kW D _ s ((h0, .inr (8, [.ref (q1), .ref (q2), .int 0, .ref (q3), .int 1, .ref (q4), .int 0, .int 0, .ref (q5), .int 0, .ref (q6), .ref (q7), .ref (q8), .int 0, .int 0, .int 0, .int 0, .int 0, .null, .null, .null, .null, .null])) :: [(q1, .inl (cA, 5, .inl fun _ => 0)), (q2, .inl (cA, 30, .inl fun _ => 0)), (q3, .inl (cA, 48, .inl fun _ => 0)), (q4, .inl (cA, 24, .inl fun _ => 0)), (q5, .inl (cA, 18, .inl fun _ => 0)), (q6, .inl (cA, 27, .inl fun _ => 0)), (q7, .inl (cA, 10, .inl fun _ => 0)), (q8, .inl (cA, 10, .inl fun _ => 0)), (q9, .inl (cA, 8, .inl fun _ => 0))]) H _ := hw
  refine kPut X hw rfl 18 (by decide) kl_f_8_38 (Or.inr ⟨rfl, hin, rfl⟩) (v := .ref (q9)) (ty := .array .int) (by decide +kernel) rfl rfl (Nat.le_of_ble_eq_true rfl) dX8_init_77 (fun H locs hw => ?_)
  have hw : kW D _ s ((h0, .inr (8, [.ref (q1), .ref (q2), .int 0, .ref (q3), .int 1, .ref (q4), .int 0, .int 0, .ref (q5), .int 0, .ref (q6), .ref (q7), .ref (q8), .int 0, .int 0, .int 0, .int 0, .int 0, .ref (q9), .null, .null, .null, .null])) :: [(q1, .inl (cA, 5, .inl fun _ => 0)), (q2, .inl (cA, 30, .inl fun _ => 0)), (q3, .inl (cA, 48, .inl fun _ => 0)), (q4, .inl (cA, 24, .inl fun _ => 0)), (q5, .inl (cA, 18, .inl fun _ => 0)), (q6, .inl (cA, 27, .inl fun _ => 0)), (q7, .inl (cA, 10, .inl fun _ => 0)), (q8, .inl (cA, 10, .inl fun _ => 0)), (q9, .inl (cA, 8, .inl fun _ => 0))]) H _ := hw
  refine lv_aload_n hx hb dX8_init_80 rfl (lv_at hl 0 rfl) ?_
  refine lv_bipush (v := 16) hx hb dX8_init_81 (by decide) ?_
  refine kNewa (N := 16) X hw (by decide) (by decide) (by decide) (Nat.le_of_ble_eq_true rfl) (Nat.le_of_ble_eq_true rfl) dX8_init_83 (fun q10 H hw => ?_)
  have hw : kW D _ s ((h0, .inr (8, [.ref (q1), .ref (q2), .int 0, .ref (q3), .int 1, .ref (q4), .int 0, .int 0, .ref (q5), .int 0, .ref (q6), .ref (q7), .ref (q8), .int 0, .int 0, .int 0, .int 0, .int 0, .ref (q9), .null, .null, .null, .null])) :: [(q1, .inl (cA, 5, .inl fun _ => 0)), (q2, .inl (cA, 30, .inl fun _ => 0)), (q3, .inl (cA, 48, .inl fun _ => 0)), (q4, .inl (cA, 24, .inl fun _ => 0)), (q5, .inl (cA, 18, .inl fun _ => 0)), (q6, .inl (cA, 27, .inl fun _ => 0)), (q7, .inl (cA, 10, .inl fun _ => 0)), (q8, .inl (cA, 10, .inl fun _ => 0)), (q9, .inl (cA, 8, .inl fun _ => 0)), (q10, .inl (cA, 16, .inl fun _ => 0))]) H _ := hw
  refine kPut X hw rfl 19 (by decide) kl_f_8_41 (Or.inr ⟨rfl, hin, rfl⟩) (v := .ref (q10)) (ty := .array .int) (by decide +kernel) rfl rfl (Nat.le_of_ble_eq_true rfl) dX8_init_85 (fun H locs hw => ?_)
  have hw : kW D _ s ((h0, .inr (8, [.ref (q1), .ref (q2), .int 0, .ref (q3), .int 1, .ref (q4), .int 0, .int 0, .ref (q5), .int 0, .ref (q6), .ref (q7), .ref (q8), .int 0, .int 0, .int 0, .int 0, .int 0, .ref (q9), .ref (q10), .null, .null, .null])) :: [(q1, .inl (cA, 5, .inl fun _ => 0)), (q2, .inl (cA, 30, .inl fun _ => 0)), (q3, .inl (cA, 48, .inl fun _ => 0)), (q4, .inl (cA, 24, .inl fun _ => 0)), (q5, .inl (cA, 18, .inl fun _ => 0)), (q6, .inl (cA, 27, .inl fun _ => 0)), (q7, .inl (cA, 10, .inl fun _ => 0)), (q8, .inl (cA, 10, .inl fun _ => 0)), (q9, .inl (cA, 8, .inl fun _ => 0)), (q10, .inl (cA, 16, .inl fun _ => 0))]) H _ := hw
  refine lv_aload_n hx hb dX8_init_88 rfl (lv_at hl 0 rfl) ?_
  refine lv_bipush (v := 6) hx hb dX8_init_89 (by decide) ?_
  refine kNewa (N := 6) X hw (by decide) (by decide) (by decide) (Nat.le_of_ble_eq_true rfl) (Nat.le_of_ble_eq_true rfl) dX8_init_91 (fun q11 H hw => ?_)
  have hw : kW D _ s ((h0, .inr (8, [.ref (q1), .ref (q2), .int 0, .ref (q3), .int 1, .ref (q4), .int 0, .int 0, .ref (q5), .int 0, .ref (q6), .ref (q7), .ref (q8), .int 0, .int 0, .int 0, .int 0, .int 0, .ref (q9), .ref (q10), .null, .null, .null])) :: [(q1, .inl (cA, 5, .inl fun _ => 0)), (q2, .inl (cA, 30, .inl fun _ => 0)), (q3, .inl (cA, 48, .inl fun _ => 0)), (q4, .inl (cA, 24, .inl fun _ => 0)), (q5, .inl (cA, 18, .inl fun _ => 0)), (q6, .inl (cA, 27, .inl fun _ => 0)), (q7, .inl (cA, 10, .inl fun _ => 0)), (q8, .inl (cA, 10, .inl fun _ => 0)), (q9, .inl (cA, 8, .inl fun _ => 0)), (q10, .inl (cA, 16, .inl fun _ => 0)), (q11, .inl (cA, 6, .inl fun _ => 0))]) H _ := hw
  refine kPut X hw rfl 20 (by decide) kl_f_8_44 (Or.inr ⟨rfl, hin, rfl⟩) (v := .ref (q11)) (ty := .array .int) (by decide +kernel) rfl rfl (Nat.le_of_ble_eq_true rfl) dX8_init_93 (fun H locs hw => ?_)
  have hw : kW D _ s ((h0, .inr (8, [.ref (q1), .ref (q2), .int 0, .ref (q3), .int 1, .ref (q4), .int 0, .int 0, .ref (q5), .int 0, .ref (q6), .ref (q7), .ref (q8), .int 0, .int 0, .int 0, .int 0, .int 0, .ref (q9), .ref (q10), .ref (q11), .null, .null])) :: [(q1, .inl (cA, 5, .inl fun _ => 0)), (q2, .inl (cA, 30, .inl fun _ => 0)), (q3, .inl (cA, 48, .inl fun _ => 0)), (q4, .inl (cA, 24, .inl fun _ => 0)), (q5, .inl (cA, 18, .inl fun _ => 0)), (q6, .inl (cA, 27, .inl fun _ => 0)), (q7, .inl (cA, 10, .inl fun _ => 0)), (q8, .inl (cA, 10, .inl fun _ => 0)), (q9, .inl (cA, 8, .inl fun _ => 0)), (q10, .inl (cA, 16, .inl fun _ => 0)), (q11, .inl (cA, 6, .inl fun _ => 0))]) H _ := hw
  refine lv_aload_n hx hb dX8_init_96 rfl (lv_at hl 0 rfl) ?_
  refine lv_sipush (v := 160) hx hb dX8_init_97 (by decide) ?_
  refine kNewa (N := 160) X hw (by decide) (by decide) (by decide) (Nat.le_of_ble_eq_true rfl) (Nat.le_of_ble_eq_true rfl) dX8_init_100 (fun q12 H hw => ?_)
  have hw : kW D _ s ((h0, .inr (8, [.ref (q1), .ref (q2), .int 0, .ref (q3), .int 1, .ref (q4), .int 0, .int 0, .ref (q5), .int 0, .ref (q6), .ref (q7), .ref (q8), .int 0, .int 0, .int 0, .int 0, .int 0, .ref (q9), .ref (q10), .ref (q11), .null, .null])) :: [(q1, .inl (cA, 5, .inl fun _ => 0)), (q2, .inl (cA, 30, .inl fun _ => 0)), (q3, .inl (cA, 48, .inl fun _ => 0)), (q4, .inl (cA, 24, .inl fun _ => 0)), (q5, .inl (cA, 18, .inl fun _ => 0)), (q6, .inl (cA, 27, .inl fun _ => 0)), (q7, .inl (cA, 10, .inl fun _ => 0)), (q8, .inl (cA, 10, .inl fun _ => 0)), (q9, .inl (cA, 8, .inl fun _ => 0)), (q10, .inl (cA, 16, .inl fun _ => 0)), (q11, .inl (cA, 6, .inl fun _ => 0)), (q12, .inl (cA, 160, .inl fun _ => 0))]) H _ := hw
  refine kPut X hw rfl 21 (by decide) kl_f_8_47 (Or.inr ⟨rfl, hin, rfl⟩) (v := .ref (q12)) (ty := .array .int) (by decide +kernel) rfl rfl (Nat.le_of_ble_eq_true rfl) dX8_init_102 (fun H locs hw => ?_)
  have hw : kW D _ s ((h0, .inr (8, [.ref (q1), .ref (q2), .int 0, .ref (q3), .int 1, .ref (q4), .int 0, .int 0, .ref (q5), .int 0, .ref (q6), .ref (q7), .ref (q8), .int 0, .int 0, .int 0, .int 0, .int 0, .ref (q9), .ref (q10), .ref (q11), .ref (q12), .null])) :: [(q1, .inl (cA, 5, .inl fun _ => 0)), (q2, .inl (cA, 30, .inl fun _ => 0)), (q3, .inl (cA, 48, .inl fun _ => 0)), (q4, .inl (cA, 24, .inl fun _ => 0)), (q5, .inl (cA, 18, .inl fun _ => 0)), (q6, .inl (cA, 27, .inl fun _ => 0)), (q7, .inl (cA, 10, .inl fun _ => 0)), (q8, .inl (cA, 10, .inl fun _ => 0)), (q9, .inl (cA, 8, .inl fun _ => 0)), (q10, .inl (cA, 16, .inl fun _ => 0)), (q11, .inl (cA, 6, .inl fun _ => 0)), (q12, .inl (cA, 160, .inl fun _ => 0))]) H _ := hw
  refine lv_aload_n hx hb dX8_init_105 rfl (lv_at hl 0 rfl) ?_
  refine lv_iconst (v := 2) hx hb dX8_init_106 (by decide) ?_
  refine kNewz (N := 2) X hw (by decide) (by decide) (by decide) (Nat.le_of_ble_eq_true rfl) (Nat.le_of_ble_eq_true rfl) dX8_init_107 (fun q13 H hw => ?_)
  have hw : kW D _ s ((h0, .inr (8, [.ref (q1), .ref (q2), .int 0, .ref (q3), .int 1, .ref (q4), .int 0, .int 0, .ref (q5), .int 0, .ref (q6), .ref (q7), .ref (q8), .int 0, .int 0, .int 0, .int 0, .int 0, .ref (q9), .ref (q10), .ref (q11), .ref (q12), .null])) :: [(q1, .inl (cA, 5, .inl fun _ => 0)), (q2, .inl (cA, 30, .inl fun _ => 0)), (q3, .inl (cA, 48, .inl fun _ => 0)), (q4, .inl (cA, 24, .inl fun _ => 0)), (q5, .inl (cA, 18, .inl fun _ => 0)), (q6, .inl (cA, 27, .inl fun _ => 0)), (q7, .inl (cA, 10, .inl fun _ => 0)), (q8, .inl (cA, 10, .inl fun _ => 0)), (q9, .inl (cA, 8, .inl fun _ => 0)), (q10, .inl (cA, 16, .inl fun _ => 0)), (q11, .inl (cA, 6, .inl fun _ => 0)), (q12, .inl (cA, 160, .inl fun _ => 0)), (q13, .inl (cB, 2, .inl fun _ => 0))]) H _ := hw
  refine kPut X hw rfl 22 (by decide) kl_f_8_50 (Or.inr ⟨rfl, hin, rfl⟩) (v := .ref (q13)) (ty := .array .boolean) (by decide +kernel) rfl rfl (Nat.le_of_ble_eq_true rfl) dX8_init_109 (fun H locs hw => ?_)
  have hw : kW D _ s ((h0, .inr (8, [.ref (q1), .ref (q2), .int 0, .ref (q3), .int 1, .ref (q4), .int 0, .int 0, .ref (q5), .int 0, .ref (q6), .ref (q7), .ref (q8), .int 0, .int 0, .int 0, .int 0, .int 0, .ref (q9), .ref (q10), .ref (q11), .ref (q12), .ref (q13)])) :: [(q1, .inl (cA, 5, .inl fun _ => 0)), (q2, .inl (cA, 30, .inl fun _ => 0)), (q3, .inl (cA, 48, .inl fun _ => 0)), (q4, .inl (cA, 24, .inl fun _ => 0)), (q5, .inl (cA, 18, .inl fun _ => 0)), (q6, .inl (cA, 27, .inl fun _ => 0)), (q7, .inl (cA, 10, .inl fun _ => 0)), (q8, .inl (cA, 10, .inl fun _ => 0)), (q9, .inl (cA, 8, .inl fun _ => 0)), (q10, .inl (cA, 16, .inl fun _ => 0)), (q11, .inl (cA, 6, .inl fun _ => 0)), (q12, .inl (cA, 160, .inl fun _ => 0)), (q13, .inl (cB, 2, .inl fun _ => 0))]) H _ := hw
  have hw : kW D (va_A [(h0, .inr (8, kF8))] s.heap.size) s (wsM cA cB (fun k => [h0, q1, q2, q3, q4, q5, q6, q7, q8, q9, q10, q11, q12, q13].getD k 0) lyM (mmM0 rc)) H locs := by
    rw [wsM_8]
    exact hw
  exact kTail X hr hlk rfl (lay := lyM) (ad := fun k => [h0, q1, q2, q3, q4, q5, q6, q7, q8, q9, q10, q11, q12, q13].getD k 0) (M := mmM0 rc) (d := 3) hw rfl (fun i j => by show (if 1000 ≤ 1000 + i then _ else _) = _; rw [if_pos (by omega), show 1000 + i - 1000 = i by omega]) (layB_ok (by decide +kernel)) ⟨(Nat.le_of_ble_eq_true rfl), (Nat.le_of_ble_eq_true rfl)⟩ ⟨(Nat.le_of_ble_eq_true rfl), (Nat.le_of_ble_eq_true rfl)⟩ (LH_one (by decide) hl rfl) (Gd_one (by decide) rfl) (b := kT8) rfl (by decide +kernel) rfl (tail_8 (fun _ => 0))
