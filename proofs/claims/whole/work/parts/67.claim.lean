/-! THE CLAIM OUT OF ONE WALK OF THE LAW'S BODY. Your part is whole_start (and what it stands on); all else here is the same for every law, but numbers. -/
def R_law : String := "HeatDownLaw"
def lw_P (b : Addr) (xs : List Int32) (args : Array Value) (s : State) : Prop := args = #[.ref b] ∧ s.IntsAt b xs ∧ xs.length ≤ 384 ∧ (Jvm.Cond.and given_1 narrow_1).before args s = true
def lw_Q (_ : Array Value) (s : State) (o : Outcome) (t : State) : Prop := o = .returned (some (.int 1)) ∧ Framed s o t [] 600000 7302250
def lw_Z (below : List Frame) (a : Array Value) (s : State) : State → Prop := fun t => ∃ o, t.status = .running ∧ Ended t below o ∧ lw_Q a s o t
/-- the law's own end, with 1 on the stack, nothing written that was there before, its room as the claim has it -/
theorem lw_ret {p : Program} {l : Launch} {e : Env} {s : State} {m : MethodId} {below : List Frame} {meth : Method} {c : Code} {b : Nat} (hx : p.tables.exec = Jvm.exec) (hb : c.code = code) (hr : meth.sig.returnType = ret) (hlocks : meth.locks = false) {pc : Nat} {H : Heap} {ls : Array Slot} (hdg : decode code pc = .ok (.ireturn, 1)) : W p l e room_1 s m #[Value.ref b] below meth c H [] 600000 7302250 (lw_Z below #[Value.ref b] s) (F0 m pc ls [.int 1]) := by
  intro T hT X
  obtain ⟨fs, hret, hrun, hended, hW, hframe⟩ := X.leave (v := some (.int 1)) (hlocks := hlocks) (fun h => by rw [hr] at h; cases h)
  have hmeth' : T.vm.method? m = some meth := X.method'
  refine ⟨T.setFrames fs, ?_, .returned (some (.int 1)), hrun, hended, rfl, ⟨_, rfl⟩, hW, hframe⟩
  jvm_step X.here [X.here.top, hx, hb, hdg, hmeth', hr, ret, narrow_b1]
  (try refine ⟨rfl, ?_⟩); (try refine ⟨rfl, ?_⟩)
  first | (intro acts; rw [hret _ acts rfl rfl rfl]) | rw [hret _ _ rfl rfl rfl]
  exact Steps.refl _
/-- what holds at the law's entry: the machine, the code, the tables' words (any of lw_tbl by 'hts w (by decide +kernel)'), the script of L ints xs at the cell b, what the Statement gives of the start (any of its parts by flat_of_before) -/
def lw_At (p : Program) (s : State) (m : MethodId) (meth : Method) (c : Code) (b L : Nat) (xs : Nat → Int32) : Prop :=
  p.tables.exec = Jvm.exec ∧ c.code = code ∧ meth.sig.returnType = ret ∧ c.maxLocals = 4 ∧ s.vm.findClass R_law = some m.cls ∧ (∀ w ∈ lw_tbl, w.before #[Value.ref b] s = true) ∧ va_X b L xs s s.heap ∧ b < s.heap.size ∧ meth.locks = false ∧ (Jvm.Cond.and given_1 narrow_1).before #[Value.ref b] s = true
theorem kl_c_9_7 : Cond.classLink (mOwn 9) 7 RX7 ∈ gT := gT_at (i := 39) (by decide +kernel) rfl
theorem kl_c_9_10 : Cond.classLink (mOwn 9) 10 RX8 ∈ gT := gT_at (i := 699) (by decide +kernel) rfl
theorem kl_i_9_9 : Cond.methodLink (mOwn 9) 9 yX7_init ∈ gT := gT_at (i := 41) (by decide +kernel) rfl
theorem kl_i_9_12 : Cond.methodLink (mOwn 9) 12 yX8_init ∈ gT := gT_at (i := 701) (by decide +kernel) rfl
theorem okLaw : ∀ t, 1 ≤ t → okBl code 9 (some .boolean) (mHd (mB 129)) (mBk (mB 129) t) = true := by
  intro t ht
  unfold mBk
  cases h : (mB 129)[t]? with
  | none => rw [List.getD_eq_getElem?_getD, h]; rfl
  | some b =>
    rw [List.getD_eq_getElem?_getD, h]
    have hl : t < (mB 129).length := (List.getElem?_eq_some_iff.mp h).1
    have e28 : (mB 129).length = 28 := by decide +kernel
    have key : ∀ (k n : Nat), (((mB 129).drop k).take n).all (okBl code 9 (some .boolean) (mHd (mB 129))) = true → k ≤ t → t < k + n → okBl code 9 (some .boolean) (mHd (mB 129)) b = true := by
      intro k n ha h1 h2
      refine List.all_eq_true.mp ha b (List.mem_of_getElem? (i := t - k) ?_)
      rw [List.getElem?_take, if_pos (by omega), List.getElem?_drop, show k + (t - k) = t by omega]
      exact h
    show okBl code 9 (some .boolean) (mHd (mB 129)) b = true
    rcases (by omega : t < 7 ∨ (7 ≤ t ∧ t < 13) ∨ (13 ≤ t ∧ t < 19) ∨ (19 ≤ t ∧ t < 25) ∨ 25 ≤ t) with q | q | q | q | q
    · exact key 1 6 okL_1 ht (by omega)
    · exact key 7 6 okL_7 q.1 (by omega)
    · exact key 13 6 okL_13 q.1 (by omega)
    · exact key 19 6 okL_19 q.1 (by omega)
    · exact key 25 6 okL_25 q (by omega)
/-- the first state of both programs -/
def V0 : AV := ((sp0, kv0, fun _ => 0, fun _ => 0, fun _ => -6), 1, 0, 0, fun _ => 0, fun _ => 0, fun _ => 0)
def mmL (xs : Nat → Int32) (MM MX : mM) : mM := fun k => if k < 14 then MM k else if k < 1000 then MX (k - 14) else rcW xs (k - 1000)
def adL (aM aX : Nat → Nat) : Nat → Nat := fun k => if k < 14 then aM k else aX (k - 14)
theorem inv0 {xs : Nat → Int32} {MM MX : mM} (hM : FM MM) (hX : FX (rcW xs) MX) : InvP V0 0 (fun _ => 0) 0 (mmL xs MM MX) := by
  have e1 : ∀ k, k < 14 → mmL xs MM MX k = MM k := fun k h => by unfold mmL; rw [if_pos h]
  have e2 : ∀ k, k < 986 → mmL xs MM MX (14 + k) = MX k := fun k h => by unfold mmL; rw [if_neg (by omega), if_pos (by omega), show 14 + k - 14 = k by omega]
  have e3 : ∀ k, mmL xs MM MX (1000 + k) = rcW xs k := fun k => by unfold mmL; rw [if_neg (by omega), if_neg (by omega), show 1000 + k - 1000 = k by omega]
  obtain ⟨m1, m2, ⟨m3, m4, m5, m6⟩, ⟨m7, m8, m9⟩, m10, m11⟩ := hM
  obtain ⟨x1, x2, ⟨x3, x4, x5, x6, x7⟩, x8, x9, x10⟩ := hX
  have z0 : (0 : Int32) = zi 0 := by decide
  have z6 : (-6 : Int32) = zi (-6) := by decide
  have n0 : (0 : Int32) = nI 0 := by decide
  have n1 : (1 : Int32) = nI 1 := by decide
  have at1 : ∀ k j v, k < 14 → MM k j = v → mmL xs MM MX k j = v := fun k j v h q => (congrFun (e1 k h) j).trans q
  have at2 : ∀ k j v, k < 986 → MX k j = v → mmL xs MM MX (14 + k) j = v := fun k j v h q => (congrFun (e2 k h) j).trans q
  have r0 : Rng sp0 kv0 := by unfold Rng; decide
  refine ⟨⟨r0, ⟨by decide, by decide⟩, by decide, fun h _ => ⟨(by decide : (0 : Nat) < 6), ⟨(by decide : (0 : Int) ≤ 0), (by decide : (0 : Int) ≤ 9)⟩, Or.inl rfl⟩, by decide, fun i hi => absurd hi (Nat.not_lt_zero i)⟩, ⟨⟨fun j hj => ?_, fun j hj => ?_⟩, ⟨?_, fun h hh => ?_⟩, ?_, ?_, fun i hi => absurd hi (Nat.not_lt_zero i)⟩, ⟨fun j hj => ?_, fun j hj => ?_, ?_, fun h hh => ?_, ?_, ?_, fun i hi => absurd hi (Nat.not_lt_zero i)⟩, ⟨by decide, ?_, ?_, fun j hj => absurd hj (Nat.not_lt_zero j)⟩, ⟨by decide, ?_, ⟨?_, fun e => absurd e (by decide)⟩, ⟨?_, fun e => absurd e (by decide)⟩⟩, ⟨fun j hj => congrFun (e3 1) j, fun j hj => congrFun (e3 2) j, fun j hj => congrFun (e3 4) j, fun j hj => congrFun (e3 5) j⟩⟩
  · exact at2 22 j _ (by decide) (x1 j)
  · exact at2 23 j _ (by decide) (x2 j)
  · exact at2 24 0 _ (by decide) (x3.trans n1)
  · have h0 : h = 0 := Nat.lt_one_iff.mp hh
    subst h0
    exact ⟨at2 25 0 _ (by decide) (x5.trans n0), at2 26 0 _ (by decide) (x6.trans z0), at2 27 0 _ (by decide) (x7.trans z6)⟩
  · exact at2 24 1 _ (by decide) (x4.trans n0)
  · exact at2 28 0 _ (by decide) (x8.trans n0)
  · exact at1 1 j _ (by decide) (m1 j hj)
  · exact at1 2 j _ (by decide) (m2 j hj)
  · exact at1 0 4 _ (by decide) (m4.trans n1)
  · have h0 : h = 0 := Nat.lt_one_iff.mp hh
    subst h0
    exact ⟨at1 4 0 _ (by decide) (m7.trans n0), at1 4 1 _ (by decide) (m8.trans z0), at1 4 2 _ (by decide) (m9.trans z6)⟩
  · exact at1 0 6 _ (by decide) (m5.trans n0)
  · exact at1 0 7 _ (by decide) (m6.trans n0)
  · exact at2 1 0 _ (by decide) (x9.trans n0)
  · exact at1 0 2 _ (by decide) (m3.trans n0)
  · exact at2 0 4 _ (by decide) (x10.trans n0)
  · exact at1 13 0 _ (by decide) m10
  · exact at1 13 1 _ (by decide) m11
theorem world_L {cA cB : ClassId} {aM aX : Nat → Nat} {xs : Nat → Int32} {MM MX : mM} : wsM cA cB aM lyM MM ++ wsM cA cB aX lyX MX = wsM cA cB (adL aM aX) mLay (mmL xs MM MX) := by
  have e : mLay = lyM ++ lyX := by decide
  have hx : lyX.length = 56 := by decide
  have hm : lyM.length = 14 := by decide
  rw [e, wsM_app' (l1 := lyM) (n := 14) hm]
  refine app_eq (wsM_ext (by decide) (fun k hk => ?_) (fun k hk => ?_)) (wsM_ext (by decide +kernel) (fun k hk => ?_) (fun k hk => ?_))
  · unfold adL
    rw [if_pos (by omega)]
  · unfold mmL
    rw [if_pos (by omega)]
  · show aX k = adL aM aX (14 + k)
    unfold adL
    rw [if_neg (by omega), show 14 + k - 14 = k by omega]
  · show MX k = mmL xs MM MX (14 + k)
    unfold mmL
    rw [if_neg (by omega), if_pos (by omega), show 14 + k - 14 = k by omega]
/-- the law from its loop on -/
theorem law_go {p : Program} {e : Env} {s : State} {m : MethodId} {below : List Frame} {meth : Method} {c : Code} {l : Launch} {b L : Nat} {xs : Nat → Int32} (hL : L ≤ 384) (hr : meth.sig.returnType = ret) (hlocks : meth.locks = false) {D : va_G} {cA cB : ClassId} {roAd : Nat → Nat} (h6 : roAd 6 = b)
    (X : kX p s m #[Value.ref b] c D cA cB roAd (roW L) (rcW xs) (fun q : Nat => s.heap.size ≤ q) lw_tbl code 4 9) {aM aX : Nat → Nat} {MM MX : mM} (hFM : FM MM) (hFX : FX (rcW xs) MX) {H : Heap} {locs : List Loc} (hw : kW D (fun q : Nat => s.heap.size ≤ q) s (wsM cA cB (adL aM aX) mLay (mmL xs MM MX)) H locs)
    {ls : Array Slot} (hl : lv_has ls 4 [(3, .int 0), (2, .ref (aM 0)), (1, .ref (aX 0)), (0, .ref b)]) : W p l e room_1 s m #[Value.ref b] below meth c H locs 600000 7302250 (lw_Z below #[Value.ref b] s) (F0 m 18 ls []) := by
  have hE : mEnv p s m #[Value.ref b] c D cA cB roAd mLay (roW L) (rcW xs) (fun q : Nat => s.heap.size ≤ q) lw_tbl code 4 9 := ⟨X.1, X.2.1, X.2.2.1, X.2.2.2.1.1, layB_ok (by decide +kernel), X.2.2.2.2⟩
  have hgo := mWt (p := p) (l := l) (e := e) (R := room_1) (s := s) (m := m) (args := #[Value.ref b]) (below := below) (meth := meth) (c := c) (cells := 600000) (slots := 7302250) (Q := lw_Z below #[Value.ref b] s) (ad := adL aM aX) (Rt := fun v _ => v = mI 1) (Cl := wpD mB mNL 30) (rt := some .boolean) (d := 30) (b := mB 129) hE ?_ (fun z as M k h hz => mMet l D cA cB _ roAd mLay _ _ (layB_ok (by decide +kernel)) 30 z as M k h hz) ⟨Nat.le_of_ble_eq_true rfl, Nat.le_of_ble_eq_true rfl⟩ ⟨Nat.le_of_ble_eq_true rfl, Nat.le_of_ble_eq_true rfl⟩ (N := 1) okLaw (t := 1) (ls := [mR 51 L 6, mR 7 0 14, mR 8 0 0, mI 0]) (st := []) (M := mmL xs MM MX) (Nat.le_refl 1) ?_
  · have hh : mHd (mB 129) 1 = 18 := by decide +kernel
    rw [hh] at hgo
    refine hgo H locs ls ⟨hw.1, hw.2.1, fun i j => ?_⟩ hw.2.2 ⟨rfl, _, hl, fun i v hi => ?_⟩ (fun i v hi => ?_) (fun v hv => by simp at hv)
    · show mmL xs MM MX (1000 + i) j = rcW xs i j
      unfold mmL
      rw [if_neg (by omega), if_neg (by omega), show 1000 + i - 1000 = i by omega]
    · match i, hi with
      | 0, hi =>
        have : v = .inr (51, L, 6) := Option.some.inj (Option.some.inj hi.symm)
        subst this
        show (0, Value.ref (roAd 6)) ∈ _
        rw [h6]
        simp
      | 1, hi =>
        have : v = .inr (7, 0, 14) := Option.some.inj (Option.some.inj hi.symm)
        subst this
        show (1, Value.ref (aX 0)) ∈ _
        simp
      | 2, hi =>
        have : v = .inr (8, 0, 0) := Option.some.inj (Option.some.inj hi.symm)
        subst this
        show (2, Value.ref (aM 0)) ∈ _
        simp
      | 3, hi =>
        have : v = .inl 0 := Option.some.inj (Option.some.inj hi.symm)
        subst this
        show (3, Value.int 0) ∈ _
        simp
      | i + 4, hi => simp at hi
    · match i, hi with
      | 0, hi =>
        have : v = .inr (51, L, 6) := Option.some.inj (Option.some.inj hi.symm)
        subst this
        exact (rfl : (roW L)[6]? = some L)
      | 1, hi =>
        have : v = .inr (7, 0, 14) := Option.some.inj (Option.some.inj hi.symm)
        subst this
        exact (rfl : mLay[14]? = some (7, 0))
      | 2, hi =>
        have : v = .inr (8, 0, 0) := Option.some.inj (Option.some.inj hi.symm)
        subst this
        exact (rfl : mLay[0]? = some (8, 0))
      | 3, hi =>
        have : v = .inl 0 := Option.some.inj (Option.some.inj hi.symm)
        subst this
        exact trivial
      | i + 4, hi => simp at hi
  · intro v M' pc' ls' hk hrt hgv
    subst hk
    intro H1 locs1 la hw1 hS1 hL1 hGl1 hGs1
    exact va_forget (fun q hq => hS1.2.2 q hq) (lw_ret X.1.1 X.1.2.1 hr hlocks hrt.1)
  · intro Y hY
    have hJ := law_all (k := fun v _ => v = mI 1) (L0 := L) (r0 := 6) hL (fun _ => rfl) 384 0 V0 0 (fun _ => 0) 0 (mmL xs MM MX) (by decide) (by omega) (inv0 hFM hFX)
    refine hJ Y (fun t ls st M hb => ?_)
    cases t with
    | zero => exact (show False from hb).elim
    | succ t => exact hY (t + 1) (Nat.le_add_left 1 t) ls st M hb
set_option maxHeartbeats 1000000 in
/-- from the entry, for every script, the law comes to its end with true -/
theorem whole_start {p : Program} {e : Env} {s : State} {m : MethodId} {below : List Frame} {meth : Method} {c : Code} (l : Launch) (hflags : l.flags = flags0) {b L : Nat} {xs : Nat → Int32} (hL : L ≤ 384) (C0 : lw_At p s m meth c b L xs) : W p l e room_1 s m #[Value.ref b] below meth c s.heap [] 0 0 (lw_Z below #[Value.ref b] s) (entryFrame m ([Value.ref b] : List Value).toArray 4) := by
  obtain ⟨hx, hb, hr, hml, hown, hts, hX, hbl, hlocks, hgv⟩ := id C0
  obtain ⟨D, cA, cB, roAd, h6, hK, hE⟩ := k_world hL (flat_of_before _ hgv) hts hX hbl
  have X : kX p s m #[Value.ref b] c D cA cB roAd (roW L) (rcW xs) (fun q : Nat => s.heap.size ≤ q) lw_tbl code 4 9 := ⟨⟨hx, hb, hml, hown, hts⟩, fun w hw => (List.mem_filter.mp hw).1, hK, hE, fun q h => h⟩
  have hw : kW D (fun q : Nat => s.heap.size ≤ q) s [] s.heap [] := ⟨fun k q h => by simp at h, ⟨fun i j p q h => by simp at h, fun k q h => by simp at h⟩, va_S.rf⟩
  have hl := lv_entry ([.ref b]) (n := 4) (Nat.le_of_ble_eq_true rfl)
  rw [lg_entry_eq]
  generalize (lg_sl ([.ref b]) ++ List.replicate (4 - (lg_sl ([.ref b])).length) Slot.unset).toArray = ls at hl ⊢
  have hl : lv_has ls 4 [(0, .ref b)] := hl
  refine kNew (ci := 7) (fs := kF7) X hw rfl tyX7 tyX7_ok kl_c_9_7 kI7 kN7 kF7_ok (Nat.le_of_ble_eq_true rfl) (Nat.le_of_ble_eq_true rfl) dL_law_0 (fun q1 H hw => ?_)
  refine lv_dup hx hb dL_law_3 rfl ?_
  refine kInit (As := []) (d := 4) (mc := 55) (ms := 599) X hl.1 hw cc_7 kC7 kN7 kM7 kl_i_9_9 ⟨rfl, by decide, by decide, (show (parseMethodDescriptor yX7_init.desc).map (fun d => d.parameters.length) = some 0 by decide +kernel)⟩ ⟨Nat.le_of_ble_eq_true rfl, Nat.le_of_ble_eq_true rfl⟩ ⟨Nat.le_of_ble_eq_true rfl, Nat.le_of_ble_eq_true rfl⟩ (Nat.le_of_ble_eq_true rfl) dL_law_4 rfl (fun aX MX H locs eX hFX hw => ?_)
  refine lv_astore_n (lv' := [(1, .ref q1), (0, .ref b)]) hx hb dL_law_7 rfl hl (by decide) rfl (fun ls hl => ?_)
  refine kNew (ci := 8) (fs := kF8) X hw rfl tyX8 tyX8_ok kl_c_9_10 kI8 kN8 kF8_ok (Nat.le_of_ble_eq_true rfl) (Nat.le_of_ble_eq_true rfl) dL_law_8 (fun q2 H hw => ?_)
  refine lv_dup hx hb dL_law_11 rfl ?_
  refine kInit (As := []) (d := 4) (mc := 13) (ms := 364) X hl.1 hw cc_8 kC8 kN8 kM8 kl_i_9_12 ⟨rfl, by decide, by decide, (show (parseMethodDescriptor yX8_init.desc).map (fun d => d.parameters.length) = some 0 by decide +kernel)⟩ ⟨Nat.le_of_ble_eq_true rfl, Nat.le_of_ble_eq_true rfl⟩ ⟨Nat.le_of_ble_eq_true rfl, Nat.le_of_ble_eq_true rfl⟩ (Nat.le_of_ble_eq_true rfl) dL_law_12 rfl (fun aM MM H locs eM hFM hw => ?_)
  refine lv_astore_n (lv' := [(2, .ref q2), (1, .ref q1), (0, .ref b)]) hx hb dL_law_15 rfl hl (by decide) rfl (fun ls hl => ?_)
  refine lv_iconst (v := 0) hx hb dL_law_16 (by decide) ?_
  refine lv_istore_n (lv' := [(3, .int 0), (2, .ref q2), (1, .ref q1), (0, .ref b)]) hx hb dL_law_17 rfl hl (by decide) rfl (fun ls hl => ?_)
  refine W.widen (k := 600000) (n := 7302250) (Nat.le_of_ble_eq_true rfl) (Nat.le_of_ble_eq_true rfl) ?_
  rw [List.nil_append] at hw
  have hw : kW D (fun q : Nat => s.heap.size ≤ q) s (wsM cA cB aM lyM MM ++ wsM cA cB aX lyX MX) H locs := kW.perm List.perm_append_comm hw
  have hw : kW D (fun q : Nat => s.heap.size ≤ q) s (wsM cA cB (adL aM aX) mLay (mmL xs MM MX)) H locs := by
    rw [← world_L]
    exact hw
  have hl : lv_has ls 4 [(3, .int 0), (2, .ref (aM 0)), (1, .ref (aX 0)), (0, .ref b)] := by
    rw [eM, eX]
    exact hl
  exact law_go hL hr hlocks h6 X hFM hFX hw hl
set_option maxHeartbeats 4000000 in
theorem lw_walk (l : Launch) (hflags : l.flags = flags0) (b : Addr) (xs : List Int32) : MetFree l x (headSpec (Jvm.Cond.code x code maxLocals ret :: tables_1) room_1) (lw_P b xs) (fun _ _ _ _ _ => True) lw_Q := by
  refine MetFree.of_bodyS (code := code) (maxLocals := maxLocals) (ret := ret) (by decide) ?_ ?_
  · intro args s m h hn
    obtain ⟨meth, c, h1, h2, h3, h4, h5, h6, -, -⟩ := Cond.code_spec hn (atoms_spec (ws := Jvm.Cond.code x code maxLocals ret :: tables_1) h _ List.mem_cons_self)
    exact ⟨meth, c, h1, h2, h3, h4, h5, h6⟩
  · intro p e s m args below meth c s₁ B hml0 hP _
    obtain ⟨rfl, hx, hbd, hgv⟩ := hP
    obtain ⟨scr, harrAt, hlist, hof, hsmall⟩ := hx
    obtain ⟨hcb, hkn, -, -⟩ := State.arrayAt?_spec harrAt
    have hown : s.vm.findClass R_law = some m.cls := findClass_of_methodNamed B.named
    have hts0 : ∀ c ∈ (Jvm.Cond.code x code maxLocals ret :: tables_1), c.before #[Value.ref b] s = true := atoms_spec (ws := Jvm.Cond.code x code maxLocals ret :: tables_1) B.pre
    have hts : ∀ w ∈ lw_tbl, w.before #[Value.ref b] s = true := k2_hts_sels lw_privs (fun w hw => hts0 w (List.mem_cons_of_mem _ hw)) lw_privs_ok
    have hml : c.maxLocals = 4 := B.maxLocals_eq (hts0 _ List.mem_cons_self)
    have X₀ : Stand p l e room_1 s m #[Value.ref b] below meth c s₁ [] 0 0 := Stand.of_body B
    have hh0 : s₁.heap = s.heap := by rw [B.state]; rfl
    have hsz : scr.slots.size = xs.length := by rw [← Array.length_toList, hlist, List.length_map]
    have hval : ∀ j : Nat, j < xs.length → scr.slots[j]? = some (.int (xs.getD j 0)) := fun j hj => by
      rw [← Array.getElem?_toList, hlist]
      simp [hj]
    have hbl : b < s.heap.size := (Array.getElem?_eq_some_iff.mp hcb).1
    have hX : va_X b xs.length (fun j => xs.getD j 0) s s.heap := ⟨scr, hcb, hof, hkn, hsz, hval⟩
    have K : W p l e room_1 s m #[Value.ref b] below meth c s₁.heap [] 0 0 (lw_Z below #[Value.ref b] s) (entryFrame m ([Value.ref b] : List Value).toArray 4) := by
      rw [hh0]
      exact whole_start l hflags hbd ⟨B.exec, B.bytes, B.returns, hml, hown, hts, hX, hbl, B.notSynchronized, hgv⟩
    obtain ⟨t, a1, o, b1, b2, b3⟩ := K s₁ rfl X₀
    exact ⟨t, o, a1, b1, b2, b3⟩
theorem lw_pre_spec {args : Array Value} {s : State} (h : (Jvm.Cond.and given_1 narrow_1).before args s = true) (hr : rest_1_c.before args s = true) : ∃ (b : Addr) (xs : List Int32), lw_P b xs args s := by
  have hs := flat_of_before _ h
  have hq := flat_of_before _ hr
  have hc : (Cond.count 1).before args s = true := hs _ (by decide +kernel)
  have harr : (Cond.arrayOf (.arg 0) .int).before args s = true := hs _ (by decide +kernel)
  have hle : (Cond.le (.length (.arg 0)) (.int 384)).before args s = true := hs _ (by decide +kernel)
  have hlen : (Cond.isInt (.length (.arg 0))).before args s = true := hq _ (by decide +kernel)
  have hall : (Cond.all (.arg 0) (.isInt (.elem (.arg 0) (.index 0)))).before args s = true := hq _ (by decide +kernel)
  obtain ⟨b, xs, hb, hx⟩ := State.ints_of_pre rfl harr hlen hall
  have hsm : xs.length < 2 ^ 31 := hx.choose_spec.2.2.2
  have hev : (Term.length (.arg 0)).eval args s none [] s = some (.int xs.length.toInt32) := hx.length_eval hb
  have hv := Cond.le_ints hev (show (Term.int 384).eval args s none [] s = some (.int 384) from rfl)
  have hd : xs.length.toInt32 ≤ 384 := by
    simpa [Cond.before, Cond.holds, hv] using hle
  have hN : xs.length ≤ 384 := (Int32.ofNat_le_ofNat hsm (by decide)).mp (show Int32.ofNat xs.length ≤ Int32.ofNat 384 from hd)
  exact ⟨b, xs, Cond.one_arg hc (show args[0]? = some (.ref b) from hb), hx, hN, h⟩
theorem lw_comes (l : Launch) (hflags : l.flags = flags0) : Comes l x (Jvm.Cond.code x code maxLocals ret :: tables_1) room_1 (fun tb e args s => Calls_1 tb e args s ∧ rest_1 tb e args s ∧ Pre_1 tb e args s)
    (fun _ _ args s o t => lw_Q args s o t) := by
  intro p e ha hc hk s m args below hf hfit hheap happ hpre
  obtain ⟨b, xs, hP⟩ := lw_pre_spec hpre.2.2 hpre.2.1
  obtain ⟨k, o, h1, h2, h3, hQ⟩ := lw_walk l hflags b xs p e ha hc hk s m args below hf ((Spec.applies_iff_loose hf).mp happ).1 hP trivial
  exact ⟨k, o, h1, h2, h3, hQ⟩
theorem lw_frame {s t : State} {o : Outcome} {args : Array Value} (h : Framed s o t [] 600000 7302250) :
    Framed s o t (fieldLocs frame_1_writes args s ++ arrayLocs frame_1_arrays args s ++ staticLocs frame_1_statics s) 600000 7302250 := h
theorem lw_limb (L : Cond) (hL : ∀ (args : Array Value) (s t : State), L.after args s (.returned (some (.int 1))) t = true) :
    ArmFor flags0 classFile x code maxLocals ret World_1 tables_1 room_1 Calls_1 rest_1 Pre_1
      (fun tb e a s o t => postC L tb e a s o t ∧ Framed s o t (fieldLocs frame_1_writes a s ++ arrayLocs frame_1_arrays a s ++ staticLocs frame_1_statics s) 600000 7302250) := by
  intro l hflags _ _ p e ha hc hk s m args below hf hfit hheap happ hpre
  obtain ⟨k, o, h1, h2, h3, rfl, hF⟩ := lw_comes l hflags p e ha hc hk s m args below hf hfit hheap happ hpre
  exact ⟨k, _, h1, h2, h3, hL args s _, lw_frame hF⟩
theorem i_vc : Claimed_1_1 ∧ Claimed_1_2 := ⟨lw_limb limb_1_1 (fun args s t => by simp [limb_1_1, Cond.after, Cond.holds, Cond.value]), lw_limb limb_1_2 (fun args s t => Cond.after_iff.mpr (by
  first | (rw [show limb_1_2 = Cond.eq .result (.int 1) from rfl, Cond.eq_ints (x := 1) (y := 1) rfl rfl]; simp; done) | (simp [limb_1_2, Cond.value, Term.eval]; done)))⟩
