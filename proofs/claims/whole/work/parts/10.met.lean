/-! BLOCKS AND METHODS -/
theorem mTab_fit : mTab.all (fun q => decide (q.2.2.2.2.2.1 ≤ q.2.2.1)) = true := by decide +kernel
theorem lv_args_mem : ∀ (vs : List Value) (n i : Nat) (v : Value), (∀ v ∈ vs, v.category = 1) → vs[i]? = some v → (n + i, v) ∈ lv_args n vs
  | [], _, _, _, _, h => by simp at h
  | w :: vs, n, i, v, hc, h => by
    have hw : ¬ w.category = 2 := by rw [hc w List.mem_cons_self]; decide
    simp only [lv_args, if_neg hw]
    cases i with
    | zero =>
      simp at h
      subst h
      exact List.mem_cons_self
    | succ i =>
      have h9 := lv_args_mem vs (n + 1) i v (fun v hv => hc v (List.mem_cons_of_mem _ hv)) (by simpa using h)
      rw [show n + 1 + i = n + (i + 1) by omega] at h9
      exact List.mem_cons_of_mem _ h9
theorem lg_sl_len : ∀ (vs : List Value), (∀ v ∈ vs, v.category = 1) → (lg_sl vs).length = vs.length
  | [], _ => rfl
  | w :: vs, hc => by
    have hw : ¬ w.category = 2 := by rw [hc w List.mem_cons_self]; decide
    have ih := lg_sl_len vs (fun v hv => hc v (List.mem_cons_of_mem _ hv))
    simp [lg_sl, hw] at ih ⊢
    omega
section MS
variable {p : Program} {l : Launch} {e : Env} {R : Room} {s : State} {m : MethodId} {args : Array Value} {below : List Frame} {meth : Method} {c : Code} {cells slots : Nat} {Q : State → Prop}
variable {D : va_G} {cA cB : ClassId} {ad roAd : Nat → Nat} {lay : List (Nat × Nat)} {ro : List Nat} {rc : Nat → Nat → Int32} {A : Nat → Prop} {Ts : List Cond} {cc : ByteArray} {nL : Nat} {own : Nat}
variable {K : Nat → List mV → List mV → mM → Prop} {Rt : mQ} {Cl : Nat → List mV → mM → mQ → Prop} {hd : Nat → Nat} {rt : Option FieldType} {d : Nat}
theorem mBlk (hE : mEnv p s m args c D cA cB roAd lay ro rc A Ts cc nL own)
    (hKt : ∀ t ls st M, K t ls st M → mGo p l e R s m args below meth c cells slots Q D cA cB ad roAd lay ro rc A nL (hd t) ls st M)
    (hrt : ∀ (v : mV) M pc ls, Rt v M → rtOK cc rt pc v → (v ≠ none → Gd lay ro v) → mGo p l e R s m args below meth c cells slots Q D cA cB ad roAd lay ro rc A nL pc ls (rtS v) M)
    (hcl : ∀ z as M k, Cl z as M k → z < mCallable → mCtr l D cA cB ad roAd lay ro rc d z as M k) (hroom : d + 1 ≤ R.frames ∧ 60 * (d + 1) ≤ R.locals) (hcs : cells ≤ R.cells ∧ slots ≤ R.slots) :
    ∀ (b : List mIns), okBl cc own rt hd b = true → ∀ q r, b = q :: r → ∀ ls st M, bx K Rt Cl b ls st M → mGo p l e R s m args below meth c cells slots Q D cA cB ad roAd lay ro rc A nL q.1 ls st M := by
  intro b
  induction b with
  | nil => intro _ q r h; cases h
  | cons q r ih =>
    intro hok q' r' hqr ls st M h
    cases hqr
    simp only [okBl, Bool.and_eq_true] at hok
    obtain ⟨⟨hi, hnext⟩, hok2⟩ := hok
    by_cases hn : q.2.1 = .nop
    · have h' : stp K Rt Cl q.2.1 q.2.2.2.1 q.2.2.2.2 (bx K Rt Cl r) ls st M := h
      rw [hn] at h'
      obtain ⟨t, ht, h2⟩ := a1_of h'
      unfold okI at hi
      rw [hn] at hi
      dsimp only at hi
      rw [ht] at hi
      simp only [beq_iff_eq] at hi
      have h9 := hKt t ls st M h2
      rw [hi] at h9
      exact h9
    · have hi' : decode cc q.1 = .ok (q.2.1, q.2.2.1) ∧ okA own rt hd q.1 q.2.1 q.2.2.1 q.2.2.2.1 q.2.2.2.2 = true := by
        unfold okI at hi
        split at hi
        · next hq => exact absurd hq hn
        · simpa using hi
      refine mStp hE hi'.1 hi'.2 hKt ?_ hrt hcl hroom hcs hn h
      intro ls st M h
      cases r with
      | nil => exact h.elim
      | cons q2 r2 =>
        simp only [beq_iff_eq] at hnext
        have h9 := ih hok2 q2 r2 rfl ls st M h
        rw [hnext] at h9
        exact h9
theorem mWt (hE : mEnv p s m args c D cA cB roAd lay ro rc A Ts cc nL own) {b : List (List mIns)}
    (hrt : ∀ (v : mV) M pc ls, Rt v M → rtOK cc rt pc v → (v ≠ none → Gd lay ro v) → mGo p l e R s m args below meth c cells slots Q D cA cB ad roAd lay ro rc A nL pc ls (rtS v) M)
    (hcl : ∀ z as M k, Cl z as M k → z < mCallable → mCtr l D cA cB ad roAd lay ro rc d z as M k) (hroom : d + 1 ≤ R.frames ∧ 60 * (d + 1) ≤ R.locals) (hcs : cells ≤ R.cells ∧ slots ≤ R.slots)
    {N : Nat} (hok : ∀ t, N ≤ t → okBl cc own rt (mHd b) (mBk b t) = true) {t : Nat} {ls st : List mV} {M : mM} (ht : N ≤ t) (hN : ∀ X, (∀ t, N ≤ t → ∀ ls st M, bx X Rt Cl (mBk b t) ls st M → X t ls st M) → X t ls st M) : mGo p l e R s m args below meth c cells slots Q D cA cB ad roAd lay ro rc A nL (mHd b t) ls st M := by
  refine hN (fun t ls st M => mGo p l e R s m args below meth c cells slots Q D cA cB ad roAd lay ro rc A nL (mHd b t) ls st M) (fun t ht ls st M h => ?_)
  cases hb : mBk b t with
  | nil => rw [hb] at h; exact h.elim
  | cons q r =>
    have hh : mHd b t = q.1 := by unfold mHd; rw [hb]
    have h9 := mBlk (K := fun t ls st M => mGo p l e R s m args below meth c cells slots Q D cA cB ad roAd lay ro rc A nL (mHd b t) ls st M) hE (fun _ _ _ _ h => h) hrt hcl hroom hcs (mBk b t) (hok t ht) q r hb ls st M h
    rw [hh]
    exact h9
end MS
theorem okM_at {z : Nat} (hz : okM z = true) {q : MethodName × ByteArray × Nat × Option FieldType × Nat × Nat × Nat} (hq : mTab[z]? = some q) : mHd (mB z) 0 = 0 ∧ ∀ t, okBl q.2.1 q.2.2.2.2.1 q.2.2.2.1 (mHd (mB z)) (mBk (mB z) t) = true := by
  unfold okM at hz
  rw [hq] at hz
  simp only [Bool.and_eq_true, beq_iff_eq] at hz
  refine ⟨hz.1, fun t => ?_⟩
  unfold mBk
  cases h : (mB z)[t]? with
  | none => rw [List.getD_eq_getElem?_getD, h]; rfl
  | some b =>
    rw [List.getD_eq_getElem?_getD, h]
    exact List.all_eq_true.mp hz.2 b (List.mem_of_getElem? h)
set_option maxRecDepth 100000 in
theorem okM_all : ∀ z, z < mCallable → okM z = true := by
  have h : ∀ z ∈ List.range 129, okM z = true := by
    have e : List.range 129 = [0, 1, 2, 3, 4, 5, 6, 7, 8, 9, 10, 11, 12, 13, 14, 15, 16, 17, 18, 19, 20, 21, 22, 23, 24, 25, 26, 27, 28, 29, 30, 31, 32, 33, 34, 35, 36, 37, 38, 39, 40, 41, 42, 43, 44, 45, 46, 47, 48, 49, 50, 51, 52, 53, 54, 55, 56, 57, 58, 59, 60, 61, 62, 63, 64, 65, 66, 67, 68, 69, 70, 71, 72, 73, 74, 75, 76, 77, 78, 79, 80, 81, 82, 83, 84, 85, 86, 87, 88, 89, 90, 91, 92, 93, 94, 95, 96, 97, 98, 99, 100, 101, 102, 103, 104, 105, 106, 107, 108, 109, 110, 111, 112, 113, 114, 115, 116, 117, 118, 119, 120, 121, 122, 123, 124, 125, 126, 127, 128] := by decide +kernel
    rw [e]
    exact List.forall_mem_cons.mpr ⟨okM_0, List.forall_mem_cons.mpr ⟨okM_1, List.forall_mem_cons.mpr ⟨okM_2, List.forall_mem_cons.mpr ⟨okM_3, List.forall_mem_cons.mpr ⟨okM_4, List.forall_mem_cons.mpr ⟨okM_5, List.forall_mem_cons.mpr ⟨okM_6, List.forall_mem_cons.mpr ⟨okM_7, List.forall_mem_cons.mpr ⟨okM_8, List.forall_mem_cons.mpr ⟨okM_9, List.forall_mem_cons.mpr ⟨okM_10, List.forall_mem_cons.mpr ⟨okM_11, List.forall_mem_cons.mpr ⟨okM_12, List.forall_mem_cons.mpr ⟨okM_13, List.forall_mem_cons.mpr ⟨okM_14, List.forall_mem_cons.mpr ⟨okM_15, List.forall_mem_cons.mpr ⟨okM_16, List.forall_mem_cons.mpr ⟨okM_17, List.forall_mem_cons.mpr ⟨okM_18, List.forall_mem_cons.mpr ⟨okM_19, List.forall_mem_cons.mpr ⟨okM_20, List.forall_mem_cons.mpr ⟨okM_21, List.forall_mem_cons.mpr ⟨okM_22, List.forall_mem_cons.mpr ⟨okM_23, List.forall_mem_cons.mpr ⟨okM_24, List.forall_mem_cons.mpr ⟨okM_25, List.forall_mem_cons.mpr ⟨okM_26, List.forall_mem_cons.mpr ⟨okM_27, List.forall_mem_cons.mpr ⟨okM_28, List.forall_mem_cons.mpr ⟨okM_29, List.forall_mem_cons.mpr ⟨okM_30, List.forall_mem_cons.mpr ⟨okM_31, List.forall_mem_cons.mpr ⟨okM_32, List.forall_mem_cons.mpr ⟨okM_33, List.forall_mem_cons.mpr ⟨okM_34, List.forall_mem_cons.mpr ⟨okM_35, List.forall_mem_cons.mpr ⟨okM_36, List.forall_mem_cons.mpr ⟨okM_37, List.forall_mem_cons.mpr ⟨okM_38, List.forall_mem_cons.mpr ⟨okM_39, List.forall_mem_cons.mpr ⟨okM_40, List.forall_mem_cons.mpr ⟨okM_41, List.forall_mem_cons.mpr ⟨okM_42, List.forall_mem_cons.mpr ⟨okM_43, List.forall_mem_cons.mpr ⟨okM_44, List.forall_mem_cons.mpr ⟨okM_45, List.forall_mem_cons.mpr ⟨okM_46, List.forall_mem_cons.mpr ⟨okM_47, List.forall_mem_cons.mpr ⟨okM_48, List.forall_mem_cons.mpr ⟨okM_49, List.forall_mem_cons.mpr ⟨okM_50, List.forall_mem_cons.mpr ⟨okM_51, List.forall_mem_cons.mpr ⟨okM_52, List.forall_mem_cons.mpr ⟨okM_53, List.forall_mem_cons.mpr ⟨okM_54, List.forall_mem_cons.mpr ⟨okM_55, List.forall_mem_cons.mpr ⟨okM_56, List.forall_mem_cons.mpr ⟨okM_57, List.forall_mem_cons.mpr ⟨okM_58, List.forall_mem_cons.mpr ⟨okM_59, List.forall_mem_cons.mpr ⟨okM_60, List.forall_mem_cons.mpr ⟨okM_61, List.forall_mem_cons.mpr ⟨okM_62, List.forall_mem_cons.mpr ⟨okM_63, List.forall_mem_cons.mpr ⟨okM_64, List.forall_mem_cons.mpr ⟨okM_65, List.forall_mem_cons.mpr ⟨okM_66, List.forall_mem_cons.mpr ⟨okM_67, List.forall_mem_cons.mpr ⟨okM_68, List.forall_mem_cons.mpr ⟨okM_69, List.forall_mem_cons.mpr ⟨okM_70, List.forall_mem_cons.mpr ⟨okM_71, List.forall_mem_cons.mpr ⟨okM_72, List.forall_mem_cons.mpr ⟨okM_73, List.forall_mem_cons.mpr ⟨okM_74, List.forall_mem_cons.mpr ⟨okM_75, List.forall_mem_cons.mpr ⟨okM_76, List.forall_mem_cons.mpr ⟨okM_77, List.forall_mem_cons.mpr ⟨okM_78, List.forall_mem_cons.mpr ⟨okM_79, List.forall_mem_cons.mpr ⟨okM_80, List.forall_mem_cons.mpr ⟨okM_81, List.forall_mem_cons.mpr ⟨okM_82, List.forall_mem_cons.mpr ⟨okM_83, List.forall_mem_cons.mpr ⟨okM_84, List.forall_mem_cons.mpr ⟨okM_85, List.forall_mem_cons.mpr ⟨okM_86, List.forall_mem_cons.mpr ⟨okM_87, List.forall_mem_cons.mpr ⟨okM_88, List.forall_mem_cons.mpr ⟨okM_89, List.forall_mem_cons.mpr ⟨okM_90, List.forall_mem_cons.mpr ⟨okM_91, List.forall_mem_cons.mpr ⟨okM_92, List.forall_mem_cons.mpr ⟨okM_93, List.forall_mem_cons.mpr ⟨okM_94, List.forall_mem_cons.mpr ⟨okM_95, List.forall_mem_cons.mpr ⟨okM_96, List.forall_mem_cons.mpr ⟨okM_97, List.forall_mem_cons.mpr ⟨okM_98, List.forall_mem_cons.mpr ⟨okM_99, List.forall_mem_cons.mpr ⟨okM_100, List.forall_mem_cons.mpr ⟨okM_101, List.forall_mem_cons.mpr ⟨okM_102, List.forall_mem_cons.mpr ⟨okM_103, List.forall_mem_cons.mpr ⟨okM_104, List.forall_mem_cons.mpr ⟨okM_105, List.forall_mem_cons.mpr ⟨okM_106, List.forall_mem_cons.mpr ⟨okM_107, List.forall_mem_cons.mpr ⟨okM_108, List.forall_mem_cons.mpr ⟨okM_109, List.forall_mem_cons.mpr ⟨okM_110, List.forall_mem_cons.mpr ⟨okM_111, List.forall_mem_cons.mpr ⟨okM_112, List.forall_mem_cons.mpr ⟨okM_113, List.forall_mem_cons.mpr ⟨okM_114, List.forall_mem_cons.mpr ⟨okM_115, List.forall_mem_cons.mpr ⟨okM_116, List.forall_mem_cons.mpr ⟨okM_117, List.forall_mem_cons.mpr ⟨okM_118, List.forall_mem_cons.mpr ⟨okM_119, List.forall_mem_cons.mpr ⟨okM_120, List.forall_mem_cons.mpr ⟨okM_121, List.forall_mem_cons.mpr ⟨okM_122, List.forall_mem_cons.mpr ⟨okM_123, List.forall_mem_cons.mpr ⟨okM_124, List.forall_mem_cons.mpr ⟨okM_125, List.forall_mem_cons.mpr ⟨okM_126, List.forall_mem_cons.mpr ⟨okM_127, List.forall_mem_cons.mpr ⟨okM_128, fun _ h => absurd h List.not_mem_nil⟩⟩⟩⟩⟩⟩⟩⟩⟩⟩⟩⟩⟩⟩⟩⟩⟩⟩⟩⟩⟩⟩⟩⟩⟩⟩⟩⟩⟩⟩⟩⟩⟩⟩⟩⟩⟩⟩⟩⟩⟩⟩⟩⟩⟩⟩⟩⟩⟩⟩⟩⟩⟩⟩⟩⟩⟩⟩⟩⟩⟩⟩⟩⟩⟩⟩⟩⟩⟩⟩⟩⟩⟩⟩⟩⟩⟩⟩⟩⟩⟩⟩⟩⟩⟩⟩⟩⟩⟩⟩⟩⟩⟩⟩⟩⟩⟩⟩⟩⟩⟩⟩⟩⟩⟩⟩⟩⟩⟩⟩⟩⟩⟩⟩⟩⟩⟩⟩⟩⟩⟩⟩⟩⟩⟩⟩⟩⟩⟩
  exact fun z hz => h z (List.mem_range.mpr hz)

set_option maxHeartbeats 4000000 in
/-- EVERY METHOD KEEPS WHAT THE SMALL MACHINE SAYS OF IT -/
theorem mMet (l : Launch) (D : va_G) (cA cB : ClassId) (ad roAd : Nat → Nat) (lay : List (Nat × Nat)) (ro : List Nat) (rc : Nat → Nat → Int32) (hlay : layOK lay) : ∀ (d z : Nat) (as : List mV) (M : mM) (k : mQ), wpD mB mNL d z as M k → z < mCallable → mCtr l D cA cB ad roAd lay ro rc d z as M k := by
  intro d
  induction d with
  | zero => intro z as M k h; exact h.elim
  | succ d ih =>
    intro z as M k h hz q hq hlen hgd sz
    obtain ⟨hmt, h41⟩ := mTab_at hq hz
    obtain ⟨hd0, hokb⟩ := okM_at (okM_all z hz) hq
    have hnl : mNL z = q.2.2.1 := by unfold mNL; rw [hq]
    have hfit : q.2.2.2.2.2.1 ≤ q.2.2.1 := by
      have := List.all_eq_true.mp mTab_fit q (List.mem_of_getElem? hq)
      simpa using this
    refine Met.ofW (cc := q.2.1) (maxL := q.2.2.1) (ret := q.2.2.2.1) hmt.2.2.2.1 rfl ?_
    intro p e s m args below meth c s₁ B hml hv
    obtain ⟨rfl, hsz, hP, hD0, hK, hst, hro⟩ := hv
    have hts := atoms_spec (ws := mWs q) B.pre
    have hown : s.vm.findClass (mOwn q.2.2.2.2.1) = some m.cls := by rw [hmt.2.2.1]; exact findClass_of_methodNamed B.named
    have hlocks := B.notSynchronized
    have hr := B.returns
    subst hsz
    have hD := hD0.self (sz := s.heap.size)
    have hE : mEnv p s m (as.map (vlG ad roAd)).toArray c D cA cB roAd lay ro rc (va_A (wsM cA cB ad lay M) s.heap.size) (mWs q) q.2.1 q.2.2.1 q.2.2.2.2.1 := ⟨⟨B.exec, B.bytes, hml, hown, hts⟩, fun w hw => List.mem_cons_of_mem _ hw, hK, hst, hlay, fun q h => Or.inr h⟩
    have hc1 : ∀ v ∈ as.map (vlG ad roAd), v.category = 1 := fun v hv => by
      obtain ⟨w, -, rfl⟩ := List.mem_map.mp hv
      exact vlG_cat _ _ w
    have hle : (lg_sl (as.map (vlG ad roAd))).length ≤ q.2.2.1 := by rw [lg_sl_len _ hc1, List.length_map, hlen]; exact hfit
    have hl := lv_entry (as.map (vlG ad roAd)) hle
    rw [lg_entry_eq]
    have hLH : LH (vlG ad roAd) q.2.2.1 ((lg_sl (as.map (vlG ad roAd)) ++ List.replicate (q.2.2.1 - (lg_sl (as.map (vlG ad roAd))).length) Slot.unset).toArray) (entL (mNL z) as) := by
      refine ⟨by rw [hnl]; simp [entL]; omega, _, hl, fun i v hi => ?_⟩
      unfold entL at hi
      by_cases h9 : i < as.length
      · rw [List.getElem?_append_left h9] at hi
        have := lv_args_mem (as.map (vlG ad roAd)) 0 i (vlG ad roAd (some v)) hc1 (by rw [List.getElem?_map, hi]; rfl)
        rwa [Nat.zero_add] at this
      · rw [List.getElem?_append_right (by omega), List.getElem?_replicate] at hi
        split at hi <;> cases hi
    have hGl : ∀ (i : Nat) (v : Int32 ⊕ (Nat × Nat × Nat)), (entL (mNL z) as)[i]? = some (some v) → Gd lay ro (some v) := by
      intro i v hi
      unfold entL at hi
      by_cases h9 : i < as.length
      · rw [List.getElem?_append_left h9] at hi
        exact hgd _ (List.mem_of_getElem? hi)
      · rw [List.getElem?_append_right (by omega), List.getElem?_replicate] at hi
        split at hi <;> cases hi
    have hgo := mWt (p := p) (l := l) (e := e) (R := (headSpec (mWs q) (mRm (d + 1))).room) (s := s) (m := m) (args := (as.map (vlG ad roAd)).toArray) (below := below) (meth := meth) (c := c) (cells := 0) (slots := 0)
      (Q := MQ below (mQc D cA cB ad roAd lay ro rc (va_A (wsM cA cB ad lay M) s.heap.size) k) (as.map (vlG ad roAd)).toArray s 0 0 (va_A (wsM cA cB ad lay M) s.heap.size)) (ad := ad) (Rt := k) (rt := q.2.2.2.1) (b := mB z) (d := d) hE ?_ (fun z as M k h hz => ih z as M k h hz) ⟨Nat.le_refl _, Nat.le_refl _⟩ ⟨Nat.le_refl _, Nat.le_refl _⟩ (N := 0) (fun t _ => hokb t) (t := 0) (ls := entL (mNL z) as) (st := []) (M := M) (Nat.le_refl 0) (fun X hX => h X (fun t => hX t (Nat.zero_le _)))
    · rw [hd0] at hgo
      exact hgo s.heap [] _ ⟨hP, hD, hro⟩ va_S.rf hLH hGl (fun v hv => by simp at hv)
    · intro v M' pc ls hk hrt hgv H locs la hw hS hL hGl2 hGs
      have fin : ∀ t : State, t.heap = H → mQc D cA cB ad roAd lay ro rc (va_A (wsM cA cB ad lay M) s.heap.size) k (as.map (vlG ad roAd)).toArray s (.returned (rvl (vlG ad roAd) v)) t := fun t ht => ⟨⟨v, M', rfl, hk, hgv, by rw [ht]; exact hw⟩, hS.F ht⟩
      match v, hrt, hgv, fin with
      | none, hrt, hgv, fin => exact W.vret B.exec B.bytes (by rw [hr]; exact hrt.2) (fun t ht _ => fin t ht) hS.2.2 hrt.1
      | some (.inl x), hrt, hgv, fin =>
        rcases hrt.2 with h1 | ⟨h1, h2⟩
        · exact W.iret B.exec B.bytes (by rw [hr]; exact h1) (fun t ht _ => fin t ht) hS.2.2 hrt.1
        · exact W.zret (ty := .boolean) B.exec B.bytes (by rw [hr]; exact h1) (by rcases h2 with rfl | rfl <;> rfl) (fun t ht _ => fin t ht) hS.2.2 hrt.1
      | some (.inr (kd, ln, id)), hrt, hgv, fin =>
        obtain ⟨n, h1⟩ := hrt.2
        exact W.aret B.exec B.bytes (by rw [hr]; exact h1) (Or.inl ⟨n, rfl⟩) (Or.inr ⟨_, rfl⟩) (fun t ht _ => fin t ht) hS.2.2 hrt.1
