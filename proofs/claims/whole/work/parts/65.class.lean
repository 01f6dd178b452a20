theorem kl_o_7_1 : Cond.methodLink (mOwn 7) 1 objectInit ∈ gT := gT_at (i := 44) (by decide +kernel) rfl
theorem kl_c_7_7 : Cond.classLink (mOwn 7) 7 RX4 ∈ gT := gT_at (i := 47) (by decide +kernel) rfl
theorem kl_i_7_9 : Cond.methodLinkNest (mOwn 7) 9 yX4_init "HeatDown" ∈ nT := nT_at (i := 49) (by decide +kernel) rfl
theorem kl_f_7_10 : Cond.fieldLink (mOwn 7) 10 (TX7 0).1 (TX7 0).2.1 (TX7 0).2.2.1 ∈ gT := gT_at (i := 267) (by decide +kernel) rfl
theorem kl_c_7_16 : Cond.classLink (mOwn 7) 16 RX6 ∈ gT := gT_at (i := 101) (by decide +kernel) rfl
theorem kl_i_7_18 : Cond.methodLinkNest (mOwn 7) 18 yX6_init "HeatDown" ∈ nT := nT_at (i := 103) (by decide +kernel) rfl
theorem kl_f_7_19 : Cond.fieldLink (mOwn 7) 19 (TX7 1).1 (TX7 1).2.1 (TX7 1).2.2.1 ∈ gT := gT_at (i := 268) (by decide +kernel) rfl
theorem kl_f_7_23 : Cond.fieldLink (mOwn 7) 23 (TX7 2).1 (TX7 2).2.1 (TX7 2).2.2.1 ∈ gT := gT_at (i := 269) (by decide +kernel) rfl
theorem kl_f_7_26 : Cond.fieldLink (mOwn 7) 26 (TX7 3).1 (TX7 3).2.1 (TX7 3).2.2.1 ∈ gT := gT_at (i := 270) (by decide +kernel) rfl
theorem kl_f_7_29 : Cond.fieldLink (mOwn 7) 29 (TX7 4).1 (TX7 4).2.1 (TX7 4).2.2.1 ∈ gT := gT_at (i := 271) (by decide +kernel) rfl
theorem kl_c_7_33 : Cond.classLink (mOwn 7) 33 RX0 ∈ gT := gT_at (i := 159) (by decide +kernel) rfl
theorem kl_i_7_35 : Cond.methodLink (mOwn 7) 35 yX0_init ∈ gT := gT_at (i := 161) (by decide +kernel) rfl
theorem kl_f_7_38 : Cond.fieldLink (mOwn 7) 38 (TX7 5).1 (TX7 5).2.1 (TX7 5).2.2.1 ∈ gT := gT_at (i := 272) (by decide +kernel) rfl
theorem kl_c_7_42 : Cond.classLink (mOwn 7) 42 RX5 ∈ gT := gT_at (i := 195) (by decide +kernel) rfl
theorem kl_i_7_44 : Cond.methodLink (mOwn 7) 44 yX5_init ∈ gT := gT_at (i := 197) (by decide +kernel) rfl
theorem kl_f_7_45 : Cond.fieldLink (mOwn 7) 45 (TX7 6).1 (TX7 6).2.1 (TX7 6).2.2.1 ∈ gT := gT_at (i := 273) (by decide +kernel) rfl
theorem kl_c_7_49 : Cond.classLink (mOwn 7) 49 RX3 ∈ gT := gT_at (i := 232) (by decide +kernel) rfl
theorem kl_i_7_51 : Cond.methodLink (mOwn 7) 51 yX3_init ∈ gT := gT_at (i := 234) (by decide +kernel) rfl
theorem kl_f_7_52 : Cond.fieldLink (mOwn 7) 52 (TX7 7).1 (TX7 7).2.1 (TX7 7).2.2.1 ∈ gT := gT_at (i := 274) (by decide +kernel) rfl
theorem kl_f_7_56 : Cond.fieldLink (mOwn 7) 56 (TX7 8).1 (TX7 8).2.1 (TX7 8).2.2.1 ∈ gT := gT_at (i := 275) (by decide +kernel) rfl
theorem kl_f_7_60 : Cond.fieldLink (mOwn 7) 60 (TX7 9).1 (TX7 9).2.1 (TX7 9).2.2.1 ∈ gT := gT_at (i := 276) (by decide +kernel) rfl
def kT7 : List mIns := [(115, .aload_n 0, 1, [], 0), (116, .getfield 19, 3, [7, 1], 0), (119, .getfield 63, 3, [6, 2], 0), (122, .iconst 0, 1, [], 0), (123, .iconst 0, 1, [], 0), (124, .iconst 0, 1, [], 0), (125, .invokevirtual 67, 3, [18, 4, 0, 2], 0), (128, .return_, 1, [], 0)]
def mmX0 (rc : Nat → Nat → Int32) : mM := fun k j => if 1000 ≤ k then rc (k - 1000) j else if k = 12 ∧ (j = 1 ∨ j = 2) then -6 else if k = 18 ∧ j = 0 then -6 else if k = 22 ∨ k = 33 ∨ k = 44 then rc 0 j else if k = 23 ∨ k = 34 ∨ k = 45 then rc 3 j else 0
/-- what the class holds when it is made -/
def FX (rc : Nat → Nat → Int32) (M : mM) : Prop := (∀ j, M 22 j = rc 0 j) ∧ (∀ j, M 23 j = rc 3 j) ∧ (M 24 0 = 1 ∧ M 24 1 = 0 ∧ M 25 0 = 0 ∧ M 26 0 = 0 ∧ M 27 0 = -6) ∧ M 28 0 = 0 ∧ M 1 0 = 0 ∧ M 0 4 = 0
theorem kPermX {α : Type} (x : α) (P N Z O C S R f t : List α) : (x :: (((((((((([] : List α) ++ P) ++ N) ++ Z) ++ O) ++ C) ++ S) ++ R) ++ f) ++ t)).Perm ([x] ++ (P ++ (C ++ (S ++ (R ++ (N ++ (Z ++ (O ++ (f ++ t))))))))) := by
  have h : ((N ++ Z ++ O) ++ (C ++ S ++ R) ++ (f ++ t)).Perm ((C ++ S ++ R) ++ (N ++ Z ++ O) ++ (f ++ t)) := List.Perm.append_right _ List.perm_append_comm
  simp only [List.append_assoc] at h
  simp only [List.nil_append, List.append_assoc, List.cons_append]
  exact List.Perm.cons x (List.Perm.append_left P h)
def adX (h0 : Nat) (a1 a2 a3 a4 a5 a6 a7 : Nat → Nat) (q8 q9 : Nat) : Nat → Nat := fun k => if k < 1 then h0 else if k < 9 then a1 (k - 1) else if k < 12 then a5 (k - 9) else if k < 18 then a6 (k - 12) else if k < 21 then a7 (k - 18) else if k < 32 then a2 (k - 21) else if k < 43 then a3 (k - 32) else if k < 54 then a4 (k - 43) else if k = 54 then q8 else q9
theorem wsM_0 {cA cB : ClassId} {ad : Nat → Nat} {M : mM} : wsM cA cB ad lyCourse M = [(ad 0, .inr (0, [.int (M 0 0), .int (M 0 1), .int (M 0 2), .int (M 0 3), .int (M 0 4), .ref (ad 12), .ref (ad 1), .ref (ad 2)])), (ad 1, .inl (cA, 9, .inl (M 1))), (ad 2, .inl (cA, 9, .inl (M 2)))] := by
  simp only [wsM, lyCourse, List.mapIdx_cons, List.mapIdx_nil, cellE, slE, mSh, Nat.zero_add, Nat.reduceAdd, Nat.reduceEqDiff, if_true, if_false, reduceIte]
theorem wsM_3 {cA cB : ClassId} {ad : Nat → Nat} {M : mM} : wsM cA cB ad lyOrder M = [(ad 0, .inr (3, [.int (M 0 0), .ref (ad 1), .ref (ad 3), .ref (ad 2), .int (M 0 4)])), (ad 1, .inl (cA, 7, .inl (M 1))), (ad 2, .inl (cA, 7, .inl (M 2)))] := by
  simp only [wsM, lyOrder, List.mapIdx_cons, List.mapIdx_nil, cellE, slE, mSh, Nat.zero_add, Nat.reduceAdd, Nat.reduceEqDiff, if_true, if_false, reduceIte]
theorem wsM_5 {cA cB : ClassId} {ad : Nat → Nat} {M : mM} : wsM cA cB ad lyPlan M = [(ad 0, .inr (5, [.ref (ad 1), .int (M 0 1), .int (M 0 2), .int (M 0 3), .ref (ad 9), .int (M 0 5), .int (M 0 6), .ref (ad 5)])), (ad 1, .inr (2, [.int (M 1 0), .int (M 1 1), .ref (ad 2), .ref (ad 3), .ref (ad 4)])), (ad 2, .inl (cA, 8, .inl (M 2))), (ad 3, .inl (cA, 8, .inl (M 3))), (ad 4, .inl (cA, 8, .inl (M 4))), (ad 5, .inl (cA, 9, .inl (M 5)))] := by
  simp only [wsM, lyPlan, List.mapIdx_cons, List.mapIdx_nil, cellE, slE, mSh, Nat.zero_add, Nat.reduceAdd, Nat.reduceEqDiff, if_true, if_false, reduceIte]
theorem wsM_app' {cA cB : ClassId} {ad : Nat → Nat} {l1 l2 : List (Nat × Nat)} {M : mM} {n : Nat} (hn : l1.length = n) : wsM cA cB ad (l1 ++ l2) M = wsM cA cB ad l1 M ++ wsM cA cB (fun k => ad (n + k)) l2 (fun k => M (n + k)) := by
  subst hn
  exact wsM_app
theorem app_eq {α : Type} {a a' b b' : List α} (h : a = a') (h' : b = b') : a ++ b = a' ++ b' := by
  rw [h, h']
section W7
variable {cA cB : ClassId} {rc : Nat → Nat → Int32} {h0 : Nat} {a1 a2 a3 a4 a5 a6 a7 : Nat → Nat} {q8 q9 : Nat}
theorem w7_a1 : wsM cA cB a1 lyPad mm0 = wsM cA cB (fun k => adX h0 a1 a2 a3 a4 a5 a6 a7 q8 q9 (1 + k)) lyPad (fun k => mmX0 rc (1 + k)) := by
  refine wsM_ext (by decide) (fun k hk => ?_) (fun k hk => ?_)
  · have hk : k < 8 := hk
    match k, hk with
    | 0, _ => rfl
    | 1, _ => rfl
    | 2, _ => rfl
    | 3, _ => rfl
    | 4, _ => rfl
    | 5, _ => rfl
    | 6, _ => rfl
    | 7, _ => rfl
    | k + 8, hk => exact absurd hk (by omega)
  · have hk : k < 8 := hk
    match k, hk with
    | 0, _ => rfl
    | 1, _ => rfl
    | 2, _ => rfl
    | 3, _ => rfl
    | 4, _ => rfl
    | 5, _ => rfl
    | 6, _ => rfl
    | 7, _ => rfl
    | k + 8, hk => exact absurd hk (by omega)
theorem w7_a2 : wsM cA cB a2 lyValley (mmV rc) = wsM cA cB (fun k => adX h0 a1 a2 a3 a4 a5 a6 a7 q8 q9 (21 + k)) lyValley (fun k => mmX0 rc (21 + k)) := by
  refine wsM_ext (by decide) (fun k hk => ?_) (fun k hk => ?_)
  · have hk : k < 11 := hk
    match k, hk with
    | 0, _ => rfl
    | 1, _ => rfl
    | 2, _ => rfl
    | 3, _ => rfl
    | 4, _ => rfl
    | 5, _ => rfl
    | 6, _ => rfl
    | 7, _ => rfl
    | 8, _ => rfl
    | 9, _ => rfl
    | 10, _ => rfl
    | k + 11, hk => exact absurd hk (by omega)
  · have hk : k < 11 := hk
    match k, hk with
    | 0, _ => rfl
    | 1, _ => rfl
    | 2, _ => rfl
    | 3, _ => rfl
    | 4, _ => rfl
    | 5, _ => rfl
    | 6, _ => rfl
    | 7, _ => rfl
    | 8, _ => rfl
    | 9, _ => rfl
    | 10, _ => rfl
    | k + 11, hk => exact absurd hk (by omega)
theorem w7_a3 : wsM cA cB a3 lyValley (mmV rc) = wsM cA cB (fun k => adX h0 a1 a2 a3 a4 a5 a6 a7 q8 q9 (32 + k)) lyValley (fun k => mmX0 rc (32 + k)) := by
  refine wsM_ext (by decide) (fun k hk => ?_) (fun k hk => ?_)
  · have hk : k < 11 := hk
    match k, hk with
    | 0, _ => rfl
    | 1, _ => rfl
    | 2, _ => rfl
    | 3, _ => rfl
    | 4, _ => rfl
    | 5, _ => rfl
    | 6, _ => rfl
    | 7, _ => rfl
    | 8, _ => rfl
    | 9, _ => rfl
    | 10, _ => rfl
    | k + 11, hk => exact absurd hk (by omega)
  · have hk : k < 11 := hk
    match k, hk with
    | 0, _ => rfl
    | 1, _ => rfl
    | 2, _ => rfl
    | 3, _ => rfl
    | 4, _ => rfl
    | 5, _ => rfl
    | 6, _ => rfl
    | 7, _ => rfl
    | 8, _ => rfl
    | 9, _ => rfl
    | 10, _ => rfl
    | k + 11, hk => exact absurd hk (by omega)
theorem w7_a4 : wsM cA cB a4 lyValley (mmV rc) = wsM cA cB (fun k => adX h0 a1 a2 a3 a4 a5 a6 a7 q8 q9 (43 + k)) lyValley (fun k => mmX0 rc (43 + k)) := by
  refine wsM_ext (by decide) (fun k hk => ?_) (fun k hk => ?_)
  · have hk : k < 11 := hk
    match k, hk with
    | 0, _ => rfl
    | 1, _ => rfl
    | 2, _ => rfl
    | 3, _ => rfl
    | 4, _ => rfl
    | 5, _ => rfl
    | 6, _ => rfl
    | 7, _ => rfl
    | 8, _ => rfl
    | 9, _ => rfl
    | 10, _ => rfl
    | k + 11, hk => exact absurd hk (by omega)
  · have hk : k < 11 := hk
    match k, hk with
    | 0, _ => rfl
    | 1, _ => rfl
    | 2, _ => rfl
    | 3, _ => rfl
    | 4, _ => rfl
    | 5, _ => rfl
    | 6, _ => rfl
    | 7, _ => rfl
    | 8, _ => rfl
    | 9, _ => rfl
    | 10, _ => rfl
    | k + 11, hk => exact absurd hk (by omega)
theorem w7_a5 (f : a5 12 = a2 0) : wsM cA cB a5 lyCourse mm0 = wsM cA cB (fun k => adX h0 a1 a2 a3 a4 a5 a6 a7 q8 q9 (9 + k)) lyCourse (fun k => mmX0 rc (9 + k)) := by
  rw [wsM_0, wsM_0, f]
  rfl
theorem w7_a6 (f : a6 9 = a2 0) : wsM cA cB a6 lyPlan mmPlan = wsM cA cB (fun k => adX h0 a1 a2 a3 a4 a5 a6 a7 q8 q9 (12 + k)) lyPlan (fun k => mmX0 rc (12 + k)) := by
  rw [wsM_5, wsM_5, f]
  rfl
theorem w7_a7 (f : a7 3 = a2 0) : wsM cA cB a7 lyOrder mmOrder = wsM cA cB (fun k => adX h0 a1 a2 a3 a4 a5 a6 a7 q8 q9 (18 + k)) lyOrder (fun k => mmX0 rc (18 + k)) := by
  rw [wsM_3, wsM_3, f]
  rfl
theorem w7_0 : [(h0, (.inr (7, [.ref (a1 0), .ref (a2 0), .ref (a3 0), .ref (a4 0), .int 0, .ref (a5 0), .ref (a6 0), .ref (a7 0), .ref q8, .ref q9]) : va_E))] = wsM cA cB (adX h0 a1 a2 a3 a4 a5 a6 a7 q8 q9) [(7, 0)] (mmX0 rc) := by
  simp only [wsM, List.mapIdx_cons, List.mapIdx_nil, cellE, slE, mSh, Nat.zero_add, Nat.reduceAdd, Nat.reduceEqDiff, if_true, if_false, reduceIte]
  rfl
theorem w7_9 : [(q8, (.inl (cA, 16, .inl fun _ => 0) : va_E))] ++ [(q9, .inl (cA, 128, .inl fun _ => 0))] = wsM cA cB (fun k => adX h0 a1 a2 a3 a4 a5 a6 a7 q8 q9 (54 + k)) [(50, 16), (50, 128)] (fun k => mmX0 rc (54 + k)) := by
  simp only [wsM, List.mapIdx_cons, List.mapIdx_nil, cellE, slE, mSh, Nat.zero_add, Nat.reduceAdd, Nat.reduceEqDiff, if_true, if_false, reduceIte]
  rfl
theorem world_7 (f5 : a5 12 = a2 0) (f6 : a6 9 = a2 0) (f7 : a7 3 = a2 0) :
    [(h0, (.inr (7, [.ref (a1 0), .ref (a2 0), .ref (a3 0), .ref (a4 0), .int 0, .ref (a5 0), .ref (a6 0), .ref (a7 0), .ref q8, .ref q9]) : va_E))] ++ (wsM cA cB a1 lyPad mm0 ++ (wsM cA cB a5 lyCourse mm0 ++ (wsM cA cB a6 lyPlan mmPlan ++ (wsM cA cB a7 lyOrder mmOrder ++ (wsM cA cB a2 lyValley (mmV rc) ++ (wsM cA cB a3 lyValley (mmV rc) ++ (wsM cA cB a4 lyValley (mmV rc) ++ ([(q8, .inl (cA, 16, .inl fun _ => 0))] ++ [(q9, .inl (cA, 128, .inl fun _ => 0))]))))))))
    = wsM cA cB (adX h0 a1 a2 a3 a4 a5 a6 a7 q8 q9) lyX (mmX0 rc) := by
  have e : lyX = [(7, 0)] ++ (lyPad ++ (lyCourse ++ (lyPlan ++ (lyOrder ++ (lyValley ++ (lyValley ++ (lyValley ++ [(50, 16), (50, 128)]))))))) := by decide
  have s : ∀ (a b k : Nat), a + (b + k) = (a + b) + k := fun a b k => (Nat.add_assoc a b k).symm
  rw [e, wsM_app' (l1 := [(7, 0)]) (n := 1) rfl, wsM_app' (l1 := lyPad) (n := 8) rfl, wsM_app' (l1 := lyCourse) (n := 3) rfl, wsM_app' (l1 := lyPlan) (n := 6) rfl, wsM_app' (l1 := lyOrder) (n := 3) rfl, wsM_app' (l1 := lyValley) (n := 11) rfl, wsM_app' (l1 := lyValley) (n := 11) rfl, wsM_app' (l1 := lyValley) (n := 11) rfl]
  simp only [s, Nat.reduceAdd]
  exact app_eq w7_0 (app_eq w7_a1 (app_eq (w7_a5 f5) (app_eq (w7_a6 f6) (app_eq (w7_a7 f7) (app_eq w7_a2 (app_eq w7_a3 (app_eq w7_a4 w7_9)))))))
end W7
set_option maxHeartbeats 1000000 in
set_option maxRecDepth 20000 in
theorem tail_7 {rc : Nat → Nat → Int32} (ad : Nat → Nat) : bx (fun _ _ _ _ => False) (fun v M' => v = none ∧ (fun (_ : Nat → Nat) M => FX rc M) ad M') (wpD mB mNL 3) kT7 [mR 7 0 0] [] (mmX0 rc) := by
  refine cV (fun M' h => h) ?_
  refine wpD_at (as' := [mR 2 0 24, mI (nI (kS 98)), mI (nI aL0.2.2.1), mI (bI aL0.2.2.2.1)]) rfl (sp_addHouse (d := 1) ⟨rfl, rfl, fun h hh => absurd hh (Nat.not_lt_zero _)⟩ (by decide) (by decide) (fun M' a' ha fr hL => ?_))
  have ea : a' = (1, 0, 0, false, (fun h => if h = 0 then kS 98 else 0), (fun h => if h = 0 then ((0 : Nat) : Int) else 0), fun h => if h = 0 then -6 else 0) := Option.some.inj (ha.symm.trans rfl)
  subst ea
  obtain ⟨l1, l2, l3⟩ := hL
  obtain ⟨l4, l5, l6⟩ := l3 0 (by decide)
  refine And.intro rfl ?_
  exact ⟨fun j => (fr 22 j (by omega)).trans rfl, fun j => (fr 23 j (by omega)).trans rfl, ⟨l1, l2, l4, l5, l6⟩, (fr 28 0 (by omega)).trans rfl, (fr 1 0 (by omega)).trans rfl, (fr 0 4 (by omega)).trans rfl⟩
set_option maxHeartbeats 1000000 in
set_option maxRecDepth 20000 in
theorem cc_7 {l : Launch} {D : va_G} {cA cB : ClassId} {roAd : Nat → Nat} {ro : List Nat} {rc : Nat → Nat → Int32} : kCtr l D cA cB roAd ro rc yX7_init cX7_init 1 4 [] 7 kF7 lyX (fun _ M => FX rc M) 55 599 := by
  refine kMeet (own := 7) (by decide +kernel) rfl rfl (fun _ => (Nat.le_of_ble_eq_true rfl)) (fun h0 p e s m args below meth c ls X hin hr hlk hw hl => ?_)
  have hx := X.1.1
  have hb := X.1.2.1
  refine lv_aload_n hx hb dX7_init_0 rfl (lv_at hl 0 rfl) ?_
  refine kObj X hl.1 kl_o_7_1 dX7_init_1 ⟨(Nat.le_of_ble_eq_true rfl), (Nat.le_of_ble_eq_true rfl)⟩ ?_
  refine lv_aload_n hx hb dX7_init_4 rfl (lv_at hl 0 rfl) ?_
  refine kNew (ci := 4) (fs := kF4) X hw rfl tyX4 tyX4_ok kl_c_7_7 kI4 kN4 kF4_ok (Nat.le_of_ble_eq_true rfl) (Nat.le_of_ble_eq_true rfl) dX7_init_5 (fun q1 H hw => ?_)
  refine lv_dup hx hb dX7_init_8 rfl ?_
  refine kInitN (As := []) (d := 2) (mc := 7) (ms := 89) X hl.1 hw (cc_4 ) kC4 kN4 kM4 kl_i_7_9 ⟨rfl, by decide, by decide, (show (parseMethodDescriptor yX4_init.desc).map (fun d => d.parameters.length) = some 0 by decide +kernel)⟩ ⟨(Nat.le_of_ble_eq_true rfl), (Nat.le_of_ble_eq_true rfl)⟩ ⟨(Nat.le_of_ble_eq_true rfl), (Nat.le_of_ble_eq_true rfl)⟩ (Nat.le_of_ble_eq_true rfl) dX7_init_9 rfl (fun a1 M H locs ea1 hF hva1 => ?_)
  have hM : M = mm0 := hF
  subst hM
  subst ea1
  have hw := hva1
  have hw : kW D _ s ((h0, .inr (7, [.null, .null, .null, .null, .int 0, .null, .null, .null, .null, .null])) :: (([] : va_W) ++ wsM cA cB a1 lyPad mm0)) H _ := hw
  have hw : kW D _ s ((h0, .inr (7, [.null, .null, .null, .null, .int 0, .null, .null, .null, .null, .null])) :: (([] : va_W) ++ wsM cA cB a1 lyPad mm0)) H _ := hw
  refine kPut X hw rfl 0 (by decide) kl_f_7_10 (Or.inr ⟨rfl, hin, rfl⟩) (v := .ref (a1 0)) (ty := .object "HeatDown$Pad") (by decide +kernel) rfl rfl (Nat.le_of_ble_eq_true rfl) dX7_init_12 (fun H locs hw => ?_)
  have hw : kW D _ s ((h0, .inr (7, [.ref (a1 0), .null, .null, .null, .int 0, .null, .null, .null, .null, .null])) :: (([] : va_W) ++ wsM cA cB a1 lyPad mm0)) H _ := hw
  refine lv_aload_n hx hb dX7_init_15 rfl (lv_at hl 0 rfl) ?_
  refine kNew (ci := 6) (fs := kF6) X hw rfl tyX6 tyX6_ok kl_c_7_16 kI6 kN6 kF6_ok (Nat.le_of_ble_eq_true rfl) (Nat.le_of_ble_eq_true rfl) dX7_init_16 (fun q2 H hw => ?_)
  refine lv_dup hx hb dX7_init_19 rfl ?_
  refine kInitN (As := []) (d := 2) (mc := 10) (ms := 86) X hl.1 hw (cc_6 ) kC6 kN6 kM6 kl_i_7_18 ⟨rfl, by decide, by decide, (show (parseMethodDescriptor yX6_init.desc).map (fun d => d.parameters.length) = some 0 by decide +kernel)⟩ ⟨(Nat.le_of_ble_eq_true rfl), (Nat.le_of_ble_eq_true rfl)⟩ ⟨(Nat.le_of_ble_eq_true rfl), (Nat.le_of_ble_eq_true rfl)⟩ (Nat.le_of_ble_eq_true rfl) dX7_init_20 rfl (fun a2 M H locs ea2 hF hva2 => ?_)
  have hM : M = (mmV rc) := hF
  subst hM
  subst ea2
  have hw := hva2
  have hw : kW D _ s ((h0, .inr (7, [.ref (a1 0), .null, .null, .null, .int 0, .null, .null, .null, .null, .null])) :: ((([] : va_W) ++ wsM cA cB a1 lyPad mm0) ++ wsM cA cB a2 lyValley (mmV rc))) H _ := hw
  have hw : kW D _ s ((h0, .inr (7, [.ref (a1 0), .null, .null, .null, .int 0, .null, .null, .null, .null, .null])) :: ((([] : va_W) ++ wsM cA cB a1 lyPad mm0) ++ wsM cA cB a2 lyValley (mmV rc))) H _ := hw
  refine kPut X hw rfl 1 (by decide) kl_f_7_19 (Or.inr ⟨rfl, hin, rfl⟩) (v := .ref (a2 0)) (ty := .object "HeatDown$Valley") (by decide +kernel) rfl rfl (Nat.le_of_ble_eq_true rfl) dX7_init_23 (fun H locs hw => ?_)
  have hw : kW D _ s ((h0, .inr (7, [.ref (a1 0), .ref (a2 0), .null, .null, .int 0, .null, .null, .null, .null, .null])) :: ((([] : va_W) ++ wsM cA cB a1 lyPad mm0) ++ wsM cA cB a2 lyValley (mmV rc))) H _ := hw
  refine lv_aload_n hx hb dX7_init_26 rfl (lv_at hl 0 rfl) ?_
  refine kNew (ci := 6) (fs := kF6) X hw rfl tyX6 tyX6_ok kl_c_7_16 kI6 kN6 kF6_ok (Nat.le_of_ble_eq_true rfl) (Nat.le_of_ble_eq_true rfl) dX7_init_27 (fun q3 H hw => ?_)
  refine lv_dup hx hb dX7_init_30 rfl ?_
  refine kInitN (As := []) (d := 2) (mc := 10) (ms := 86) X hl.1 hw (cc_6 ) kC6 kN6 kM6 kl_i_7_18 ⟨rfl, by decide, by decide, (show (parseMethodDescriptor yX6_init.desc).map (fun d => d.parameters.length) = some 0 by decide +kernel)⟩ ⟨(Nat.le_of_ble_eq_true rfl), (Nat.le_of_ble_eq_true rfl)⟩ ⟨(Nat.le_of_ble_eq_true rfl), (Nat.le_of_ble_eq_true rfl)⟩ (Nat.le_of_ble_eq_true rfl) dX7_init_31 rfl (fun a3 M H locs ea3 hF hva3 => ?_)
  have hM : M = (mmV rc) := hF
  subst hM
  subst ea3
  have hw := hva3
  have hw : kW D _ s ((h0, .inr (7, [.ref (a1 0), .ref (a2 0), .null, .null, .int 0, .null, .null, .null, .null, .null])) :: (((([] : va_W) ++ wsM cA cB a1 lyPad mm0) ++ wsM cA cB a2 lyValley (mmV rc)) ++ wsM cA cB a3 lyValley (mmV rc))) H _ := hw
  have hw : kW D _ s ((h0, .inr (7, [.ref (a1 0), .ref (a2 0), .null, .null, .int 0, .null, .null, .null, .null, .null])) :: (((([] : va_W) ++ wsM cA cB a1 lyPad mm0) ++ wsM cA cB a2 lyValley (mmV rc)) ++ wsM cA cB a3 lyValley (mmV rc))) H _ := hw
  refine kPut X hw rfl 2 (by decide) kl_f_7_23 (Or.inr ⟨rfl, hin, rfl⟩) (v := .ref (a3 0)) (ty := .object "HeatDown$Valley") (by decide +kernel) rfl rfl (Nat.le_of_ble_eq_true rfl) dX7_init_34 (fun H locs hw => ?_)
  have hw : kW D _ s ((h0, .inr (7, [.ref (a1 0), .ref (a2 0), .ref (a3 0), .null, .int 0, .null, .null, .null, .null, .null])) :: (((([] : va_W) ++ wsM cA cB a1 lyPad mm0) ++ wsM cA cB a2 lyValley (mmV rc)) ++ wsM cA cB a3 lyValley (mmV rc))) H _ := hw
  refine lv_aload_n hx hb dX7_init_37 rfl (lv_at hl 0 rfl) ?_
  refine kNew (ci := 6) (fs := kF6) X hw rfl tyX6 tyX6_ok kl_c_7_16 kI6 kN6 kF6_ok (Nat.le_of_ble_eq_true rfl) (Nat.le_of_ble_eq_true rfl) dX7_init_38 (fun q4 H hw => ?_)
  refine lv_dup hx hb dX7_init_41 rfl ?_
  refine kInitN (As := []) (d := 2) (mc := 10) (ms := 86) X hl.1 hw (cc_6 ) kC6 kN6 kM6 kl_i_7_18 ⟨rfl, by decide, by decide, (show (parseMethodDescriptor yX6_init.desc).map (fun d => d.parameters.length) = some 0 by decide +kernel)⟩ ⟨(Nat.le_of_ble_eq_true rfl), (Nat.le_of_ble_eq_true rfl)⟩ ⟨(Nat.le_of_ble_eq_true rfl), (Nat.le_of_ble_eq_true rfl)⟩ (Nat.le_of_ble_eq_true rfl) dX7_init_42 rfl (fun a4 M H locs ea4 hF hva4 => ?_)
  have hM : M = (mmV rc) := hF
  subst hM
  subst ea4
  have hw := hva4
  have hw : kW D _ s ((h0, .inr (7, [.ref (a1 0), .ref (a2 0), .ref (a3 0), .null, .int 0, .null, .null, .null, .null, .null])) :: ((((([] : va_W) ++ wsM cA cB a1 lyPad mm0) ++ wsM cA cB a2 lyValley (mmV rc)) ++ wsM cA cB a3 lyValley (mmV rc)) ++ wsM cA cB a4 lyValley (mmV rc))) H _ := hw
  have hw : kW D _ s ((h0, .inr (7, [.ref (a1 0), .ref (a2 0), .ref (a3 0), .null, .int 0, .null, .null, .null, .null, .null])) :: ((((([] : va_W) ++ wsM cA cB a1 lyPad mm0) ++ wsM cA cB a2 lyValley (mmV rc)) ++ wsM cA cB a3 lyValley (mmV rc)) ++ wsM cA cB a4 lyValley (mmV rc))) H _ := hw
  refine kPut X hw rfl 3 (by decide) kl_f_7_26 (Or.inr ⟨rfl, hin, rfl⟩) (v := .ref (a4 0)) (ty := .object "HeatDown$Valley") (by decide +kernel) rfl rfl (Nat.le_of_ble_eq_true rfl) dX7_init_45 (fun H locs hw => ?_)
  have hw : kW D _ s ((h0, .inr (7, [.ref (a1 0), .ref (a2 0), .ref (a3 0), .ref (a4 0), .int 0, .null, .null, .null, .null, .null])) :: ((((([] : va_W) ++ wsM cA cB a1 lyPad mm0) ++ wsM cA cB a2 lyValley (mmV rc)) ++ wsM cA cB a3 lyValley (mmV rc)) ++ wsM cA cB a4 lyValley (mmV rc))) H _ := hw
  refine lv_aload_n hx hb dX7_init_48 rfl (lv_at hl 0 rfl) ?_
  refine lv_iconst (v := 0) hx hb dX7_init_49 (by decide) ?_
  refine kPut X hw rfl 4 (by decide) kl_f_7_29 (Or.inl rfl) (v := .int 0) (ty := .int) (by decide +kernel) rfl rfl (Nat.le_of_ble_eq_true rfl) dX7_init_50 (fun H locs hw => ?_)
  have hw : kW D _ s ((h0, .inr (7, [.ref (a1 0), .ref (a2 0), .ref (a3 0), .ref (a4 0), .int 0, .null, .null, .null, .null, .null])) :: ((((([] : va_W) ++ wsM cA cB a1 lyPad mm0) ++ wsM cA cB a2 lyValley (mmV rc)) ++ wsM cA cB a3 lyValley (mmV rc)) ++ wsM cA cB a4 lyValley (mmV rc))) H _ := hw
  refine lv_aload_n hx hb dX7_init_53 rfl (lv_at hl 0 rfl) ?_
  refine kNew (ci := 0) (fs := kF0) X hw rfl tyX0 tyX0_ok kl_c_7_33 kI0 kN0 kF0_ok (Nat.le_of_ble_eq_true rfl) (Nat.le_of_ble_eq_true rfl) dX7_init_54 (fun q5 H hw => ?_)
  refine lv_dup hx hb dX7_init_57 rfl ?_
  refine lv_aload_n hx hb dX7_init_58 rfl (lv_at hl 0 rfl) ?_
  refine kGet X hw 0 rfl rfl 1 (by decide) kl_f_7_19 rfl dX7_init_59 ?_
  refine kInit (As := [.ref (a2 0)]) (d := 1) (mc := 2) (ms := 18) X hl.1 hw (cc_0 (a2 0)) kC0 kN0 kM0 kl_i_7_35 ⟨rfl, by decide, by decide, (show (parseMethodDescriptor yX0_init.desc).map (fun d => d.parameters.length) = some 1 by decide +kernel)⟩ ⟨(Nat.le_of_ble_eq_true rfl), (Nat.le_of_ble_eq_true rfl)⟩ ⟨(Nat.le_of_ble_eq_true rfl), (Nat.le_of_ble_eq_true rfl)⟩ (Nat.le_of_ble_eq_true rfl) dX7_init_62 rfl (fun a5 M H locs ea5 hF hva5 => ?_)
  obtain ⟨hM, fa5⟩ : M = mm0 ∧ a5 12 = a2 0 := hF
  subst hM
  subst ea5
  have hw := hva5
  have hw : kW D _ s ((h0, .inr (7, [.ref (a1 0), .ref (a2 0), .ref (a3 0), .ref (a4 0), .int 0, .null, .null, .null, .null, .null])) :: (((((([] : va_W) ++ wsM cA cB a1 lyPad mm0) ++ wsM cA cB a2 lyValley (mmV rc)) ++ wsM cA cB a3 lyValley (mmV rc)) ++ wsM cA cB a4 lyValley (mmV rc)) ++ wsM cA cB a5 lyCourse mm0)) H _ := hw
  have hw : kW D _ s ((h0, .inr (7, [.ref (a1 0), .ref (a2 0), .ref (a3 0), .ref (a4 0), .int 0, .null, .null, .null, .null, .null])) :: (((((([] : va_W) ++ wsM cA cB a1 lyPad mm0) ++ wsM cA cB a2 lyValley (mmV rc)) ++ wsM cA cB a3 lyValley (mmV rc)) ++ wsM cA cB a4 lyValley (mmV rc)) ++ wsM cA cB a5 lyCourse mm0)) H _ := hw
  refine kPut X hw rfl 5 (by decide) kl_f_7_38 (Or.inr ⟨rfl, hin, rfl⟩) (v := .ref (a5 0)) (ty := .object "HeatDown$Course") (by decide +kernel) rfl rfl (Nat.le_of_ble_eq_true rfl) dX7_init_65 (fun H locs hw => ?_)
  have hw : kW D _ s ((h0, .inr (7, [.ref (a1 0), .ref (a2 0), .ref (a3 0), .ref (a4 0), .int 0, .ref (a5 0), .null, .null, .null, .null])) :: (((((([] : va_W) ++ wsM cA cB a1 lyPad mm0) ++ wsM cA cB a2 lyValley (mmV rc)) ++ wsM cA cB a3 lyValley (mmV rc)) ++ wsM cA cB a4 lyValley (mmV rc)) ++ wsM cA cB a5 lyCourse mm0)) H _ := hw
  refine lv_aload_n hx hb dX7_init_68 rfl (lv_at hl 0 rfl) ?_
  refine kNew (ci := 5) (fs := kF5) X hw rfl tyX5 tyX5_ok kl_c_7_42 kI5 kN5 kF5_ok (Nat.le_of_ble_eq_true rfl) (Nat.le_of_ble_eq_true rfl) dX7_init_69 (fun q6 H hw => ?_)
  refine lv_dup hx hb dX7_init_72 rfl ?_
  refine lv_aload_n hx hb dX7_init_73 rfl (lv_at hl 0 rfl) ?_
  refine kGet X hw 0 rfl rfl 1 (by decide) kl_f_7_19 rfl dX7_init_74 ?_
  refine kInit (As := [.ref (a2 0)]) (d := 2) (mc := 5) (ms := 38) X hl.1 hw (cc_5 (a2 0)) kC5 kN5 kM5 kl_i_7_44 ⟨rfl, by decide, by decide, (show (parseMethodDescriptor yX5_init.desc).map (fun d => d.parameters.length) = some 1 by decide +kernel)⟩ ⟨(Nat.le_of_ble_eq_true rfl), (Nat.le_of_ble_eq_true rfl)⟩ ⟨(Nat.le_of_ble_eq_true rfl), (Nat.le_of_ble_eq_true rfl)⟩ (Nat.le_of_ble_eq_true rfl) dX7_init_77 rfl (fun a6 M H locs ea6 hF hva6 => ?_)
  obtain ⟨hM, fa6⟩ : M = mmPlan ∧ a6 9 = a2 0 := hF
  subst hM
  subst ea6
  have hw := hva6
  have hw : kW D _ s ((h0, .inr (7, [.ref (a1 0), .ref (a2 0), .ref (a3 0), .ref (a4 0), .int 0, .ref (a5 0), .null, .null, .null, .null])) :: ((((((([] : va_W) ++ wsM cA cB a1 lyPad mm0) ++ wsM cA cB a2 lyValley (mmV rc)) ++ wsM cA cB a3 lyValley (mmV rc)) ++ wsM cA cB a4 lyValley (mmV rc)) ++ wsM cA cB a5 lyCourse mm0) ++ wsM cA cB a6 lyPlan mmPlan)) H _ := hw
  have hw : kW D _ s ((h0, .inr (7, [.ref (a1 0), .ref (a2 0), .ref (a3 0), .ref (a4 0), .int 0, .ref (a5 0), .null, .null, .null, .null])) :: ((((((([] : va_W) ++ wsM cA cB a1 lyPad mm0) ++ wsM cA cB a2 lyValley (mmV rc)) ++ wsM cA cB a3 lyValley (mmV rc)) ++ wsM cA cB a4 lyValley (mmV rc)) ++ wsM cA cB a5 lyCourse mm0) ++ wsM cA cB a6 lyPlan mmPlan)) H _ := hw
  refine kPut X hw rfl 6 (by decide) kl_f_7_45 (Or.inr ⟨rfl, hin, rfl⟩) (v := .ref (a6 0)) (ty := .object "HeatDown$PlanSearch") (by decide +kernel) rfl rfl (Nat.le_of_ble_eq_true rfl) dX7_init_80 (fun H locs hw => ?_)
  have hw : kW D _ s ((h0, .inr (7, [.ref (a1 0), .ref (a2 0), .ref (a3 0), .ref (a4 0), .int 0, .ref (a5 0), .ref (a6 0), .null, .null, .null])) :: ((((((([] : va_W) ++ wsM cA cB a1 lyPad mm0) ++ wsM cA cB a2 lyValley (mmV rc)) ++ wsM cA cB a3 lyValley (mmV rc)) ++ wsM cA cB a4 lyValley (mmV rc)) ++ wsM cA cB a5 lyCourse mm0) ++ wsM cA cB a6 lyPlan mmPlan)) H _ := hw
  refine lv_aload_n hx hb dX7_init_83 rfl (lv_at hl 0 rfl) ?_
  refine kNew (ci := 3) (fs := kF3) X hw rfl tyX3 tyX3_ok kl_c_7_49 kI3 kN3 kF3_ok (Nat.le_of_ble_eq_true rfl) (Nat.le_of_ble_eq_true rfl) dX7_init_84 (fun q7 H hw => ?_)
  refine lv_dup hx hb dX7_init_87 rfl ?_
  refine lv_aload_n hx hb dX7_init_88 rfl (lv_at hl 0 rfl) ?_
  refine kGet X hw 0 rfl rfl 1 (by decide) kl_f_7_19 rfl dX7_init_89 ?_
  refine kInit (As := [.ref (a2 0)]) (d := 1) (mc := 2) (ms := 14) X hl.1 hw (cc_3 (a2 0)) kC3 kN3 kM3 kl_i_7_51 ⟨rfl, by decide, by decide, (show (parseMethodDescriptor yX3_init.desc).map (fun d => d.parameters.length) = some 1 by decide +kernel)⟩ ⟨(Nat.le_of_ble_eq_true rfl), (Nat.le_of_ble_eq_true rfl)⟩ ⟨(Nat.le_of_ble_eq_true rfl), (Nat.le_of_ble_eq_true rfl)⟩ (Nat.le_of_ble_eq_true rfl) dX7_init_92 rfl (fun a7 M H locs ea7 hF hva7 => ?_)
  obtain ⟨hM, fa7⟩ : M = mmOrder ∧ a7 3 = a2 0 := hF
  subst hM
  subst ea7
  have hw := hva7
  have hw : kW D _ s ((h0, .inr (7, [.ref (a1 0), .ref (a2 0), .ref (a3 0), .ref (a4 0), .int 0, .ref (a5 0), .ref (a6 0), .null, .null, .null])) :: (((((((([] : va_W) ++ wsM cA cB a1 lyPad mm0) ++ wsM cA cB a2 lyValley (mmV rc)) ++ wsM cA cB a3 lyValley (mmV rc)) ++ wsM cA cB a4 lyValley (mmV rc)) ++ wsM cA cB a5 lyCourse mm0) ++ wsM cA cB a6 lyPlan mmPlan) ++ wsM cA cB a7 lyOrder mmOrder)) H _ := hw
  have hw : kW D _ s ((h0, .inr (7, [.ref (a1 0), .ref (a2 0), .ref (a3 0), .ref (a4 0), .int 0, .ref (a5 0), .ref (a6 0), .null, .null, .null])) :: (((((((([] : va_W) ++ wsM cA cB a1 lyPad mm0) ++ wsM cA cB a2 lyValley (mmV rc)) ++ wsM cA cB a3 lyValley (mmV rc)) ++ wsM cA cB a4 lyValley (mmV rc)) ++ wsM cA cB a5 lyCourse mm0) ++ wsM cA cB a6 lyPlan mmPlan) ++ wsM cA cB a7 lyOrder mmOrder)) H _ := hw
  refine kPut X hw rfl 7 (by decide) kl_f_7_52 (Or.inr ⟨rfl, hin, rfl⟩) (v := .ref (a7 0)) (ty := .object "HeatDown$OrderSearch") (by decide +kernel) rfl rfl (Nat.le_of_ble_eq_true rfl) dX7_init_95 (fun H locs hw => ?_)
  have hw : kW D _ s ((h0, .inr (7, [.ref (a1 0), .ref (a2 0), .ref (a3 0), .ref (a4 0), .int 0, .ref (a5 0), .ref (a6 0), .ref (a7 0), .null, .null])) :: (((((((([] : va_W) ++ wsM cA cB a1 lyPad mm0) ++ wsM cA cB a2 lyValley (mmV rc)) ++ wsM cA cB a3 lyValley (mmV rc)) ++ wsM cA cB a4 lyValley (mmV rc)) ++ wsM cA cB a5 lyCourse mm0) ++ wsM cA cB a6 lyPlan mmPlan) ++ wsM cA cB a7 lyOrder mmOrder)) H _ := hw
  refine lv_aload_n hx hb dX7_init_98 rfl (lv_at hl 0 rfl) ?_
  refine lv_bipush (v := 16) hx hb dX7_init_99 (by decide) ?_
  refine kNewa (N := 16) X hw (by decide) (by decide) (by decide) (Nat.le_of_ble_eq_true rfl) (Nat.le_of_ble_eq_true rfl) dX7_init_101 (fun q8 H hw => ?_)
  have hw : kW D _ s ((h0, .inr (7, [.ref (a1 0), .ref (a2 0), .ref (a3 0), .ref (a4 0), .int 0, .ref (a5 0), .ref (a6 0), .ref (a7 0), .null, .null])) :: ((((((((([] : va_W) ++ wsM cA cB a1 lyPad mm0) ++ wsM cA cB a2 lyValley (mmV rc)) ++ wsM cA cB a3 lyValley (mmV rc)) ++ wsM cA cB a4 lyValley (mmV rc)) ++ wsM cA cB a5 lyCourse mm0) ++ wsM cA cB a6 lyPlan mmPlan) ++ wsM cA cB a7 lyOrder mmOrder) ++ [(q8, .inl (cA, 16, .inl fun _ => 0))])) H _ := hw
  refine kPut X hw rfl 8 (by decide) kl_f_7_56 (Or.inr ⟨rfl, hin, rfl⟩) (v := .ref (q8)) (ty := .array .int) (by decide +kernel) rfl rfl (Nat.le_of_ble_eq_true rfl) dX7_init_103 (fun H locs hw => ?_)
  have hw : kW D _ s ((h0, .inr (7, [.ref (a1 0), .ref (a2 0), .ref (a3 0), .ref (a4 0), .int 0, .ref (a5 0), .ref (a6 0), .ref (a7 0), .ref (q8), .null])) :: ((((((((([] : va_W) ++ wsM cA cB a1 lyPad mm0) ++ wsM cA cB a2 lyValley (mmV rc)) ++ wsM cA cB a3 lyValley (mmV rc)) ++ wsM cA cB a4 lyValley (mmV rc)) ++ wsM cA cB a5 lyCourse mm0) ++ wsM cA cB a6 lyPlan mmPlan) ++ wsM cA cB a7 lyOrder mmOrder) ++ [(q8, .inl (cA, 16, .inl fun _ => 0))])) H _ := hw
  refine lv_aload_n hx hb dX7_init_106 rfl (lv_at hl 0 rfl) ?_
  refine lv_sipush (v := 128) hx hb dX7_init_107 (by decide) ?_
  refine kNewa (N := 128) X hw (by decide) (by decide) (by decide) (Nat.le_of_ble_eq_true rfl) (Nat.le_of_ble_eq_true rfl) dX7_init_110 (fun q9 H hw => ?_)
  have hw : kW D _ s ((h0, .inr (7, [.ref (a1 0), .ref (a2 0), .ref (a3 0), .ref (a4 0), .int 0, .ref (a5 0), .ref (a6 0), .ref (a7 0), .ref (q8), .null])) :: (((((((((([] : va_W) ++ wsM cA cB a1 lyPad mm0) ++ wsM cA cB a2 lyValley (mmV rc)) ++ wsM cA cB a3 lyValley (mmV rc)) ++ wsM cA cB a4 lyValley (mmV rc)) ++ wsM cA cB a5 lyCourse mm0) ++ wsM cA cB a6 lyPlan mmPlan) ++ wsM cA cB a7 lyOrder mmOrder) ++ [(q8, .inl (cA, 16, .inl fun _ => 0))]) ++ [(q9, .inl (cA, 128, .inl fun _ => 0))])) H _ := hw
  refine kPut X hw rfl 9 (by decide) kl_f_7_60 (Or.inr ⟨rfl, hin, rfl⟩) (v := .ref (q9)) (ty := .array .int) (by decide +kernel) rfl rfl (Nat.le_of_ble_eq_true rfl) dX7_init_112 (fun H locs hw => ?_)
  have hw : kW D _ s ((h0, .inr (7, [.ref (a1 0), .ref (a2 0), .ref (a3 0), .ref (a4 0), .int 0, .ref (a5 0), .ref (a6 0), .ref (a7 0), .ref (q8), .ref (q9)])) :: (((((((((([] : va_W) ++ wsM cA cB a1 lyPad mm0) ++ wsM cA cB a2 lyValley (mmV rc)) ++ wsM cA cB a3 lyValley (mmV rc)) ++ wsM cA cB a4 lyValley (mmV rc)) ++ wsM cA cB a5 lyCourse mm0) ++ wsM cA cB a6 lyPlan mmPlan) ++ wsM cA cB a7 lyOrder mmOrder) ++ [(q8, .inl (cA, 16, .inl fun _ => 0))]) ++ [(q9, .inl (cA, 128, .inl fun _ => 0))])) H _ := hw
  have hw := kW.perm (kPermX _ _ _ _ _ _ _ _ _ _) hw
  have hw : kW D (va_A [(h0, .inr (7, kF7))] s.heap.size) s (wsM cA cB (adX h0 a1 a2 a3 a4 a5 a6 a7 q8 q9) lyX (mmX0 rc)) H locs := by
    rw [← world_7 fa5 fa6 fa7]
    exact hw
  exact kTail X hr hlk rfl (lay := lyX) (ad := adX h0 a1 a2 a3 a4 a5 a6 a7 q8 q9) (M := mmX0 rc) (d := 3) hw rfl (fun i j => by show (if 1000 ≤ 1000 + i then _ else _) = _; rw [if_pos (by omega), show 1000 + i - 1000 = i by omega]) (layB_ok (by decide +kernel)) ⟨(Nat.le_of_ble_eq_true rfl), (Nat.le_of_ble_eq_true rfl)⟩ ⟨(Nat.le_of_ble_eq_true rfl), (Nat.le_of_ble_eq_true rfl)⟩ (LH_one (by decide) hl rfl) (Gd_one (by decide) rfl) (b := kT7) rfl (by decide +kernel) rfl (tail_7 (fun _ => 0))
