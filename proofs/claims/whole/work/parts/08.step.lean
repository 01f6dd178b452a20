/-! ONE INSTRUCTION: the kit's rows under the small machine's -/
theorem p1_of {st : List mV} {f : Int32 → List mV → Prop} (h : p1 st f) : ∃ x r, st = mI x :: r ∧ f x r := by
  unfold p1 at h; split at h
  · exact ⟨_, _, rfl, h⟩
  · exact h.elim
theorem p2_of {st : List mV} {f : Int32 → Int32 → List mV → Prop} (h : p2 st f) : ∃ x y r, st = mI y :: mI x :: r ∧ f x y r := by
  unfold p2 at h; split at h
  · exact ⟨_, _, _, rfl, h⟩
  · exact h.elim
theorem pR_of {st : List mV} {f : Nat → Nat → Nat → List mV → Prop} (h : pR st f) : ∃ kd len id r, st = mR kd len id :: r ∧ f kd len id r := by
  unfold pR at h; split at h
  · exact ⟨_, _, _, _, rfl, h⟩
  · exact h.elim
theorem pIR_of {st : List mV} {f : Int32 → Nat → Nat → Nat → List mV → Prop} (h : pIR st f) : ∃ x kd len id r, st = mI x :: mR kd len id :: r ∧ f x kd len id r := by
  unfold pIR at h; split at h
  · exact ⟨_, _, _, _, _, rfl, h⟩
  · exact h.elim
theorem pIIR_of {st : List mV} {f : Int32 → Int32 → Nat → Nat → Nat → List mV → Prop} (h : pIIR st f) : ∃ x i kd len id r, st = mI x :: mI i :: mR kd len id :: r ∧ f x i kd len id r := by
  unfold pIIR at h; split at h
  · exact ⟨_, _, _, _, _, _, rfl, h⟩
  · exact h.elim
theorem a1_of {aux : List Nat} {f : Nat → Prop} (h : a1 aux f) : ∃ a, aux = [a] ∧ f a := by
  unfold a1 at h; split at h
  · exact ⟨_, rfl, h⟩
  · exact h.elim
theorem a2_of {aux : List Nat} {f : Nat → Nat → Prop} (h : a2 aux f) : ∃ a b, aux = [a, b] ∧ f a b := by
  unfold a2 at h; split at h
  · exact ⟨_, _, rfl, h⟩
  · exact h.elim
theorem a3_of {aux : List Nat} {f : Nat → Nat → Nat → Prop} (h : a3 aux f) : ∃ a b c, aux = [a, b, c] ∧ f a b c := by
  unfold a3 at h; split at h
  · exact ⟨_, _, _, rfl, h⟩
  · exact h.elim
theorem a4_of {aux : List Nat} {f : Nat → Nat → Nat → Nat → Prop} (h : a4 aux f) : ∃ a b c d, aux = [a, b, c, d] ∧ f a b c d := by
  unfold a4 at h; split at h
  · exact ⟨_, _, _, _, rfl, h⟩
  · exact h.elim
theorem ldI_of {ls : List mV} {i : Nat} {f : Int32 → Prop} (h : ldI ls i f) : ∃ x, ls[i]? = some (mI x) ∧ f x := by
  unfold ldI at h; split at h
  · exact ⟨_, by assumption, h⟩
  · exact h.elim
theorem ldR_of {ls : List mV} {i : Nat} {f : Nat → Nat → Nat → Prop} (h : ldR ls i f) : ∃ kd len id, ls[i]? = some (mR kd len id) ∧ f kd len id := by
  unfold ldR at h; split at h
  · exact ⟨_, _, _, by assumption, h⟩
  · exact h.elim
theorem sto_of {ls : List mV} {i : Nat} {v : mV} {f : List mV → Prop} (h : sto ls i v f) : i < ls.length ∧ f (ls.set i v) := by
  unfold sto at h; split at h
  · next q => exact ⟨(List.getElem?_eq_some_iff.mp q).1, h⟩
  · exact h.elim
theorem tk_of {f : List mV → List mV → Prop} : ∀ (n : Nat) (st acc : List mV), tk n st acc f → ∃ xs r, st = xs ++ r ∧ xs.length = n ∧ f (xs.reverse ++ acc) r
  | 0, st, acc, h => ⟨[], st, rfl, rfl, h⟩
  | n + 1, v :: st, acc, h => by
    obtain ⟨xs, r, h1, h2, h3⟩ := tk_of n st (v :: acc) h
    exact ⟨v :: xs, r, by rw [h1]; rfl, by rw [List.length_cons, h2], by simpa using h3⟩
  | _ + 1, [], _, h => h.elim
theorem lim_of {r : List mV} {P : Prop} (h : lim r P) : r.length ≤ 8 ∧ P := by
  unfold lim at h; split at h
  · exact ⟨by assumption, h⟩
  · exact h.elim
theorem rcv_of {ci : Nat} {as : List mV} {P : Prop} (h : rcv ci as P) : ∃ len id r, as = mR ci len id :: r ∧ P := by
  unfold rcv at h; split at h
  · split at h
    · next q => subst q; exact ⟨_, _, _, rfl, h⟩
    · exact h.elim
  · exact h.elim
def rtS (v : mV) : List mV := match v with
  | none => []
  | some x => [some x]
def rvl (vl : mV → Value) : mV → Option Value
  | none => none
  | some v => some (vl (some v))
theorem rv_of {ret : Nat} {v : mV} {f : List mV → Prop} (h : rv ret v f) : f (rtS v) := by
  unfold rv at h; split at h
  · exact h
  · exact h
  · exact h
  · exact h.elim
theorem tsw_of {x : Int32} {f : Nat → Prop} : ∀ (ts : List Nat) (n : Int), tsw x ts n f → ∀ (i : Nat) (t : Nat), ts[i]? = some t → x.toInt = n + i → f t
  | [], _, _, i, t, h, _ => by simp at h
  | t0 :: ts, n, h, 0, t, hi, hx => by
    simp at hi
    subst hi
    exact h.1 (by omega)
  | t0 :: ts, n, h, i + 1, t, hi, hx => tsw_of ts (n + 1) h.2 i t (by simpa using hi) (by omega)
theorem mOwn_cl : ∀ ci, ci < 9 → ∃ q, vwCl[ci]? = some q ∧ q.1 = mOwn ci := by
  intro ci h
  match ci, h with
  | 0, _ => exact ⟨_, rfl, rfl⟩
  | 1, _ => exact ⟨_, rfl, rfl⟩
  | 2, _ => exact ⟨_, rfl, rfl⟩
  | 3, _ => exact ⟨_, rfl, rfl⟩
  | 4, _ => exact ⟨_, rfl, rfl⟩
  | 5, _ => exact ⟨_, rfl, rfl⟩
  | 6, _ => exact ⟨_, rfl, rfl⟩
  | 7, _ => exact ⟨_, rfl, rfl⟩
  | 8, _ => exact ⟨_, rfl, rfl⟩
theorem mTab_small : mTab.all (fun q => decide (q.2.2.1 ≤ 41)) = true := by decide +kernel
theorem mSc_pd : mSc.all (fun e => match mTab[e.2.2.1]? with
  | some q => decide ((parseMethodDescriptor q.1.desc).map (fun d => d.parameters.length) = some q.2.2.2.2.2.1)
  | none => false) = true := by decide +kernel
theorem mVc_pd : mVc.all (fun e => match mTab[e.2.2]? with
  | some q => decide ((parseMethodDescriptor q.1.desc).map (fun d => d.parameters.length) = some (q.2.2.2.2.2.1 - 1))
  | none => false) = true := by decide +kernel
/-- the room of a method whose calls go d deep -/
def mRm (d : Nat) : Room := { frames := d, cells := 0, slots := 0, locals := 60 * d }
def mWs (q : MethodName × ByteArray × Nat × Option FieldType × Nat × Nat × Nat) : List Cond := .code q.1 q.2.1 q.2.2.1 q.2.2.2.1 :: gT
section MS
variable {p : Program} {l : Launch} {e : Env} {R : Room} {s : State} {m : MethodId} {args : Array Value} {below : List Frame} {meth : Method} {c : Code} {cells slots : Nat} {Q : State → Prop}
variable {D : va_G} {cA cB : ClassId} {ad roAd : Nat → Nat} {lay : List (Nat × Nat)} {ro : List Nat} {rc : Nat → Nat → Int32} {A : Nat → Prop} {Ts : List Cond} {cc : ByteArray} {nL : Nat} {own : Nat}
def mPc (D : va_G) (cA cB : ClassId) (ad roAd : Nat → Nat) (lay : List (Nat × Nat)) (ro : List Nat) (rc : Nat → Nat → Int32) (sz : Nat) (as : List mV) (M : mM) : Array Value → State → Prop :=
  va_Pc (as.map (vlG ad roAd)) (fun U => U.heap.size = sz ∧ va_P D vwCl (wsM cA cB ad lay M) U.heap ∧ va_D (fun _ => True) (wsM cA cB ad lay M) ∧ va_K D vwCl [(cA, .int), (cB, .boolean)] U ∧ mSt rc roAd ro (va_A (wsM cA cB ad lay M) sz) U U.heap ∧ ∀ (i j : Nat), M (1000 + i) j = rc i j)
def mQc (D : va_G) (cA cB : ClassId) (ad roAd : Nat → Nat) (lay : List (Nat × Nat)) (ro : List Nat) (rc : Nat → Nat → Int32) (A : Nat → Prop) (k : mQ) : Array Value → State → Outcome → State → Prop := fun _ st oc t =>
  (∃ (v : mV) (M' : mM), oc = .returned (rvl (vlG ad roAd) v) ∧ k v M' ∧ (v ≠ none → Gd lay ro v) ∧ mWd D cA cB ad lay rc A M' t.heap) ∧ va_F A st t
/-- method z keeps what is said of a call of it -/
def mCtr (l : Launch) (D : va_G) (cA cB : ClassId) (ad roAd : Nat → Nat) (lay : List (Nat × Nat)) (ro : List Nat) (rc : Nat → Nat → Int32) (d z : Nat) (as : List mV) (M : mM) (k : mQ) : Prop :=
  ∀ q, mTab[z]? = some q → as.length = q.2.2.2.2.2.1 → (∀ v ∈ as, Gd lay ro v) → ∀ sz : Nat, Met l q.1 (mWs q) (mRm d) (mPc D cA cB ad roAd lay ro rc sz as M) (mQc D cA cB ad roAd lay ro rc (va_A (wsM cA cB ad lay M) sz) k) 0 0 (va_A (wsM cA cB ad lay M) sz)
theorem mSt.same {u U : State} {H : Heap} (h : u.vm = U.vm) (k : mSt rc roAd ro A u H) : mSt rc roAd ro A U H := by
  obtain ⟨h1, h2, h3⟩ := k
  refine ⟨fun i len hi => va_T.moved (by rw [h]; exact Vm.Alike.refl _) (h1 i len hi), fun i q hi => ⟨(h2 i q hi).1, va_Z.moved (by rw [h]; exact Vm.Alike.refl _) (h2 i q hi).2⟩, fun w hw => ?_⟩
  obtain ⟨-, hn⟩ := List.mem_filter.mp hw
  have h4 := h3 w hw
  cases w <;> first | (exact Bool.noConfusion hn) | (exact va_Nw.same rfl h h4)
theorem mSt.warm {u U : State} {H : Heap} (hW : u.WarmedH U.vm) (k : mSt rc roAd ro A u H) : mSt rc roAd ro A U H := by
  obtain ⟨h1, h2, h3⟩ := k
  refine ⟨fun i len hi => va_T.moved hW.alike (h1 i len hi), fun i q hi => ⟨(h2 i q hi).1, va_Z.moved hW.alike (h2 i q hi).2⟩, fun w hw => ?_⟩
  obtain ⟨-, hn⟩ := List.mem_filter.mp hw
  have h4 := h3 w hw
  cases w <;> first | (exact Bool.noConfusion hn) | (exact va_Nw.warmF hW h4) | (exact va_Nw.warmM hW h4)
theorem mSt.kept {u : State} {H H1 : Heap} (k : mSt rc roAd ro A u H) (hq : ∀ a : Nat, a < H.size → ¬ A a → H1[a]? = H[a]?) : mSt rc roAd ro A u H1 :=
  ⟨fun i len hi => (k.1 i len hi).kept hq, fun i q hi => ⟨(k.2.1 i q hi).1, (k.2.1 i q hi).2.kept hq⟩, k.2.2⟩
theorem mSt.narrow {u : State} {H : Heap} {B : Nat → Prop} (k : mSt rc roAd ro A u H) (hq : ∀ q, B q → A q) : mSt rc roAd ro B u H :=
  ⟨fun i len hi => (k.1 i len hi).narrow hq, fun i q hi => ⟨(k.2.1 i q hi).1, (k.2.1 i q hi).2.narrow hq⟩, k.2.2⟩
theorem mPc_blind {sz : Nat} {as : List mV} {M : mM} : FrameBlind (mPc D cA cB ad roAd lay ro rc sz as M) := by
  intro a U g mk h
  obtain ⟨h0, h1, h2, h3, h4, h5, h6⟩ := h
  exact ⟨h0, h1, h2, h3, va_K.moved (u := U) (U := U.calling g mk a) (Vm.Alike.refl U.vm) h4, mSt.same (u := U) (U := U.calling g mk a) rfl h5, h6⟩
theorem mA_sub {M : mM} {H : Heap} {locs : List Loc} (hD : va_D A (wsM cA cB ad lay M)) (hS : va_S A s.heap H locs) (hA : ∀ q : Nat, s.heap.size ≤ q → A q) : ∀ q, va_A (wsM cA cB ad lay M) H.size q → A q := by
  intro q h
  rcases h with ⟨k, e, h⟩ | h
  · exact hD.2 k (q, e) h
  · exact hA q (Nat.le_trans hS.1 h)
theorem mPre_of {M : mM} {H : Heap} {locs : List Loc} {as : List mV} (hE : mEnv p s m args c D cA cB roAd lay ro rc A Ts cc nL own) (hw : mWd D cA cB ad lay rc A M H) (hS : va_S A s.heap H locs) {U : State} (hU : U.heap = H) (hW : s.WarmedH U.vm) : mPc D cA cB ad roAd lay ro rc H.size as M (as.map (vlG ad roAd)).toArray U := by
  obtain ⟨-, -, hK, hst, -, hA⟩ := hE
  refine ⟨rfl, by rw [hU], by rw [hU]; exact hw.1, hw.2.1.weaken (fun _ _ _ _ => trivial), va_K.moved hW.alike hK, ?_, hw.2.2⟩
  rw [hU]
  exact ((hst.kept hS.2.1).warm hW).narrow (mA_sub hw.2.1 hS hA)
/-- behind a call -/
theorem mBehind {M : mM} {H : Heap} {locs : List Loc} {la : Array Slot} {pc : Nat} {ls r : List mV} {as : Array Value} {stv : List Value} {k : mQ} (hE : mEnv p s m args c D cA cB roAd lay ro rc A Ts cc nL own) (hw : mWd D cA cB ad lay rc A M H) (hS : va_S A s.heap H locs) (hL : LH (vlG ad roAd) nL la ls) (hGl : ∀ (i : Nat) (v : Int32 ⊕ (Nat × Nat × Nat)), ls[i]? = some (some v) → Gd lay ro (some v)) (hGr : ∀ v ∈ r, Gd lay ro v)
    (hr : va_Run p l e R s m args below meth c H locs cells slots 0 0 (F0 m pc la stv) (r.map (vlG ad roAd)) (mQc D cA cB ad roAd lay ro rc (va_A (wsM cA cB ad lay M) H.size) k as) (va_A (wsM cA cB ad lay M) H.size))
    (hn : ∀ v M', k v M' → mGo p l e R s m args below meth c cells slots Q D cA cB ad roAd lay ro rc A nL (pc + 3) ls (rtS v ++ r) M') : W p l e R s m args below meth c H locs cells slots Q (F0 m pc la stv) := by
  intro T hT X
  obtain ⟨v0, st₀, t, T', L, h0, X', hLo, e1, e2, ⟨⟨v, M', hv, hk, hgv, hw1⟩, hz, hkeep⟩, hst⟩ := hr T hT X
  have hgo := hn v M' hk
  have hA := hE.2.2.2.2.2
  have hsub := mA_sub (s := s) hw.2.1 hS hA
  rw [h0] at hz hkeep
  have hv0 : v0 = rvl (vlG ad roAd) v := by injection hv
  have hS' : va_S A s.heap T'.heap (locs ++ L) := ⟨Nat.le_trans hS.1 (by rw [e1]; exact hz), fun q h1 h2 => by rw [e1, hkeep q (Nat.lt_of_lt_of_le h1 hS.1) (fun z => h2 (hsub q z))]; exact hS.2.1 q h1 h2, fun q hq => by
      rcases List.mem_append.mp hq with h | h
      · exact hS.2.2 q h
      · exact hsub _ (hLo q h)⟩
  have hgw : ∀ x ∈ rtS v ++ r, Gd lay ro x := by
    intro x hx
    rcases List.mem_append.mp hx with h | h
    · cases v with
      | none => simp [rtS] at h
      | some y =>
        simp only [rtS, List.mem_singleton] at h
        rw [h]
        exact hgv (by simp)
    · exact hGr x h
  have hstk : (rtS v ++ r).map (vlG ad roAd) = v0.toList ++ r.map (vlG ad roAd) := by
    rw [List.map_append, hv0]
    cases v <;> rfl
  obtain ⟨t2, a1', b1⟩ := hgo T'.heap (locs ++ L) la ⟨by rw [e1]; exact hw1.1, hw1.2.1.weaken (fun _ _ _ h => hsub _ h), hw1.2.2⟩ hS' hL hGl hgw T' rfl X'
  rw [hstk] at a1'
  exact ⟨t2, hst t2 a1', b1⟩
end MS
