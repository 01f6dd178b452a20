/-! CONSTRUCTORS: what holds all along; worlds that grow at their end -/
def kCl (cA : ClassId) (a n : Nat) (f : Nat → Int32) (A : Nat → Prop) (H : Heap) : Prop := ∃ cell : Cell, H[a]? = some cell ∧ cell.cls = cA ∧ cell.vm ≠ .unknown ∧ cell.vm.isStatics = false ∧ cell.slots.size = n ∧ (∀ j : Nat, j < n → cell.slots[j]? = some (.int (f j))) ∧ ¬ A a
theorem kCl.kept {cA : ClassId} {a n : Nat} {f : Nat → Int32} {A : Nat → Prop} {H H1 : Heap} (h : kCl cA a n f A H) (hq : ∀ q : Nat, q < H.size → ¬ A q → H1[q]? = H[q]?) : kCl cA a n f A H1 := by
  obtain ⟨cell, h1, h2, h3, h4, h5, h6, h7⟩ := h
  exact ⟨cell, by rw [hq a (Array.getElem?_eq_some_iff.mp h1).1 h7]; exact h1, h2, h3, h4, h5, h6, h7⟩
theorem kCl.narrow {cA : ClassId} {a n : Nat} {f : Nat → Int32} {A B : Nat → Prop} {H : Heap} (h : kCl cA a n f A H) (hq : ∀ q, B q → A q) : kCl cA a n f B H := by
  obtain ⟨cell, h1, h2, h3, h4, h5, h6, h7⟩ := h
  exact ⟨cell, h1, h2, h3, h4, h5, h6, fun z => h7 (hq a z)⟩
/-- the statics, and what a clone of two of them needs -/
def kE (cA : ClassId) (rc : Nat → Nat → Int32) (roAd : Nat → Nat) (ro : List Nat) (A : Nat → Prop) (U : State) (H : Heap) : Prop := mSt rc roAd ro A U H ∧ (kCl cA (roAd 0) 5 (rc 0) A H ∧ kCl cA (roAd 3) 30 (rc 3) A H) ∧ va_Nw (.castable "[I" "java/lang/Cloneable") U
theorem kE.same {cA : ClassId} {rc : Nat → Nat → Int32} {roAd : Nat → Nat} {ro : List Nat} {A : Nat → Prop} {u U : State} {H : Heap} (h : u.vm = U.vm) (k : kE cA rc roAd ro A u H) : kE cA rc roAd ro A U H := ⟨k.1.same h, k.2.1, va_Nw.same rfl h k.2.2⟩
theorem kE.warm {cA : ClassId} {rc : Nat → Nat → Int32} {roAd : Nat → Nat} {ro : List Nat} {A : Nat → Prop} {u U : State} {H : Heap} (h : u.WarmedH U.vm) (k : kE cA rc roAd ro A u H) : kE cA rc roAd ro A U H := ⟨k.1.warm h, k.2.1, va_Nw.warmC h k.2.2⟩
theorem kE.kept {cA : ClassId} {rc : Nat → Nat → Int32} {roAd : Nat → Nat} {ro : List Nat} {A : Nat → Prop} {u : State} {H H1 : Heap} (k : kE cA rc roAd ro A u H) (hq : ∀ q : Nat, q < H.size → ¬ A q → H1[q]? = H[q]?) : kE cA rc roAd ro A u H1 := ⟨k.1.kept hq, ⟨k.2.1.1.kept hq, k.2.1.2.kept hq⟩, k.2.2⟩
theorem kE.narrow {cA : ClassId} {rc : Nat → Nat → Int32} {roAd : Nat → Nat} {ro : List Nat} {A B : Nat → Prop} {u : State} {H : Heap} (k : kE cA rc roAd ro A u H) (hq : ∀ q, B q → A q) : kE cA rc roAd ro B u H := ⟨k.1.narrow hq, ⟨k.2.1.1.narrow hq, k.2.1.2.narrow hq⟩, k.2.2⟩
theorem k_int : Cond.arrayClass .int ∈ gT := gT_at (i := 82) (by decide +kernel) rfl
theorem k_bool : Cond.arrayClass .boolean ∈ gT := gT_at (i := 779) (by decide +kernel) rfl
theorem k_objI : Cond.instanceMethod objectInit ∈ gT := gT_at (i := 45) (by decide +kernel) rfl
theorem k_objC : Cond.code objectInit ⟨#[0xb1]⟩ 1 none ∈ gT := gT_at (i := 46) (by decide +kernel) rfl
theorem k_cl1 : Cond.sameMethod "[I" "java/lang/Object" "clone" "()Ljava/lang/Object;" ∈ gT := gT_at (i := 110) (by decide +kernel) rfl
theorem k_cl2 : Cond.native ⟨"java/lang/Object", "clone", "()Ljava/lang/Object;"⟩ ∈ gT := gT_at (i := 111) (by decide +kernel) rfl
theorem k_cl3 : Cond.instanceMethod ⟨"java/lang/Object", "clone", "()Ljava/lang/Object;"⟩ ∈ gT := gT_at (i := 112) (by decide +kernel) rfl
theorem k_cl4 : Cond.selects "[I" ⟨"[I", "clone", "()Ljava/lang/Object;"⟩ ⟨"java/lang/Object", "clone", "()Ljava/lang/Object;"⟩ ∈ gT := gT_at (i := 113) (by decide +kernel) rfl
theorem kJoin {A0 : Nat → Prop} {D : va_G} {cl : List vw_C} {ws w1 : va_W} {x : Nat × va_E} {H H1 : Heap} (hP : va_P D cl (ws ++ [x]) H) (hD : va_D A0 (ws ++ [x]))
    (hk : ∀ q : Nat, q < H.size → ¬ va_A [x] H.size q → H1[q]? = H[q]?) (hF : ∀ q, va_A [x] H.size q → A0 q) (hP1 : va_P D cl w1 H1) (hD1 : va_D (va_A [x] H.size) w1) : va_P D cl (ws ++ w1) H1 ∧ va_D A0 (ws ++ w1) := by
  have at' : ∀ (k : Nat) (q : Nat × va_E), ws[k]? = some q → (ws ++ [x])[k]? = some q := fun k q h => by
    rw [List.getElem?_append_left (List.getElem?_eq_some_iff.mp h).1]
    exact h
  have apart : ∀ (k : Nat) (q : Nat × va_E), ws[k]? = some q → q.1 < H.size ∧ ¬ va_A [x] H.size q.1 := by
    intro k q h
    have hl := (hP k q (at' k q h)).lt
    refine ⟨hl, fun z => ?_⟩
    rcases z with ⟨k2, e, z⟩ | z
    · have hk2 : k2 < [x].length := (List.getElem?_eq_some_iff.mp z).1
      have hk3 : k2 = 0 := by
        have : [x].length = 1 := rfl
        omega
      subst hk3
      have zx : x = (q.1, e) := Option.some.inj z
      have h2 : (ws ++ [x])[ws.length]? = some x := by simp
      have h3 := hD.1 k ws.length q x (at' k q h) h2 (by rw [zx])
      have h4 := (List.getElem?_eq_some_iff.mp h).1
      omega
    · omega
  refine ⟨va_P.app (fun k q hq => (hP k q (at' k q hq)).kept (hk q.1 (apart k q hq).1 (apart k q hq).2)) hP1, va_D.app ⟨fun i j p q hi hj => hD.1 i j p q (at' _ _ hi) (at' _ _ hj), fun k q hq => hD.2 k q (at' _ _ hq)⟩ (hD1.weaken (fun k q _ h => hF q.1 h)) (fun i j a b ha hb hab => ?_)⟩
  exact (apart i a ha).2 (by rw [hab]; exact hD1.2 j b hb)
/-- what holds all along a constructor -/
def kX (p : Program) (s : State) (m : MethodId) (args : Array Value) (c : Code) (D : va_G) (cA cB : ClassId) (roAd : Nat → Nat) (ro : List Nat) (rc : Nat → Nat → Int32) (A : Nat → Prop) (Ts : List Cond) (cc : ByteArray) (nL own : Nat) : Prop :=
  CallFix p m c cc nL s args Ts (mOwn own) ∧ (∀ w ∈ gT, w ∈ Ts) ∧ va_K D vwCl [(cA, .int), (cB, .boolean)] s ∧ kE cA rc roAd ro A s s.heap ∧ ∀ q : Nat, s.heap.size ≤ q → A q
/-- the world as it stands -/
def kW (D : va_G) (A : Nat → Prop) (s : State) (ws : va_W) (H : Heap) (locs : List Loc) : Prop := va_P D vwCl ws H ∧ va_D A ws ∧ va_S A s.heap H locs
/-- a constructor's start: one cell, as it was made -/
def kPre (D : va_G) (cA cB : ClassId) (roAd : Nat → Nat) (ro : List Nat) (rc : Nat → Nat → Int32) (x : Nat × va_E) (sz : Nat) (U : State) : Prop :=
  U.heap.size = sz ∧ va_P D vwCl [x] U.heap ∧ va_D (fun _ => True) [x] ∧ va_K D vwCl [(cA, .int), (cB, .boolean)] U ∧ kE cA rc roAd ro (va_A [x] sz) U U.heap
/-- its end: the cells of a layout -/
abbrev kQc (D : va_G) (cA cB : ClassId) (lay : List (Nat × Nat)) (F : (Nat → Nat) → mM → Prop) (x : Nat × va_E) (sz : Nat) : Array Value → State → Outcome → State → Prop :=
  va_Qv (fun u : (Nat → Nat) × mM => u.1 0 = x.1 ∧ F u.1 u.2) (fun u t => va_P D vwCl (wsM cA cB u.1 lay u.2) t.heap ∧ va_D (va_A [x] sz) (wsM cA cB u.1 lay u.2)) (va_A [x] sz)
abbrev kRm (d mc ms : Nat) : Room := { frames := d, cells := mc, slots := ms, locals := 60 * d }
def kCtr (l : Launch) (D : va_G) (cA cB : ClassId) (roAd : Nat → Nat) (ro : List Nat) (rc : Nat → Nat → Int32) (y : MethodName) (bytes : ByteArray) (maxL d : Nat) (As : List Value) (ci : Nat) (fs : List Value) (lay : List (Nat × Nat)) (F : (Nat → Nat) → mM → Prop) (mc ms : Nat) : Prop :=
  ∀ h0 sz : Nat, Met l y (.code y bytes maxL none :: gT) (kRm d mc ms) (va_Pc (.ref h0 :: As) (kPre D cA cB roAd ro rc (h0, .inr (ci, fs)) sz)) (kQc D cA cB lay F (h0, .inr (ci, fs)) sz) mc ms (va_A [(h0, .inr (ci, fs))] sz)
section KS
variable {p : Program} {l : Launch} {e : Env} {R : Room} {s : State} {m : MethodId} {args : Array Value} {below : List Frame} {meth : Method} {c : Code} {cells slots : Nat} {Q : State → Prop} {H : Heap} {locs : List Loc}
variable {D : va_G} {cA cB : ClassId} {roAd : Nat → Nat} {ro : List Nat} {rc : Nat → Nat → Int32} {A : Nat → Prop} {Ts : List Cond} {cc : ByteArray} {nL own : Nat} {ls : Array Slot} {rest : List Value} {pc index : Nat} {ws : va_W}
theorem kNewa (X : kX p s m args c D cA cB roAd ro rc A Ts cc nL own) (hw : kW D A s ws H locs) {n : Int32} {N : Nat} (hn : ¬ n < 0) (hN : n.toNatClampNeg = N) (hB : N ≤ 1000) (hcl : cells + 1 ≤ R.cells) (hsl : slots + N ≤ R.slots) (hdg : decode cc pc = .ok (.newarray .int, 2))
    (kk : ∀ (q : Nat) (H1 : Heap), kW D A s (ws ++ [(q, .inl (cA, N, .inl fun _ => 0))]) H1 locs → W p l e R s m args below meth c H1 locs (cells + 1) (slots + N) Q (F0 m (pc + 2) ls (.ref q :: rest))) : W p l e R s m args below meth c H locs cells slots Q (F0 m pc ls (.int n :: rest)) := by
  obtain ⟨⟨hx, hbc, hml, hown, hts⟩, hgT, hK, hE, hA⟩ := id X
  obtain ⟨hP, hD, hS⟩ := hw
  refine va_newa (atype := .int) (ty := .int) (a0 := (N, .inl fun _ => 0)) hx hbc (hts _ (hgT _ k_int)) rfl hK hP hD hS hA (fun _ => rfl) hn hN ?_ hcl hsl hdg (fun q cA' H1 hK' hP' hD' hS' => ?_)
  · show N * 4 ≤ _
    omega
  · have e : cA' = cA := Option.some.inj ((va_nm_int (hK'.2 2 (cA', .int) rfl).2).symm.trans (va_nm_int (hK.2 0 (cA, .int) rfl).2))
    rw [e] at hP' hD'
    exact kk q H1 ⟨hP', hD', hS'⟩
theorem kNewz (X : kX p s m args c D cA cB roAd ro rc A Ts cc nL own) (hw : kW D A s ws H locs) {n : Int32} {N : Nat} (hn : ¬ n < 0) (hN : n.toNatClampNeg = N) (hB : N ≤ 1000) (hcl : cells + 1 ≤ R.cells) (hsl : slots + N ≤ R.slots) (hdg : decode cc pc = .ok (.newarray .boolean, 2))
    (kk : ∀ (q : Nat) (H1 : Heap), kW D A s (ws ++ [(q, .inl (cB, N, .inl fun _ => 0))]) H1 locs → W p l e R s m args below meth c H1 locs (cells + 1) (slots + N) Q (F0 m (pc + 2) ls (.ref q :: rest))) : W p l e R s m args below meth c H locs cells slots Q (F0 m pc ls (.int n :: rest)) := by
  obtain ⟨⟨hx, hbc, hml, hown, hts⟩, hgT, hK, hE, hA⟩ := id X
  obtain ⟨hP, hD, hS⟩ := hw
  refine va_newa (atype := .boolean) (ty := .boolean) (a0 := (N, .inl fun _ => 0)) hx hbc (hts _ (hgT _ k_bool)) rfl hK hP hD hS hA (fun _ => rfl) hn hN ?_ hcl hsl hdg (fun q cB' H1 hK' hP' hD' hS' => ?_)
  · show N * 1 ≤ _
    omega
  · have e : cB' = cB := Option.some.inj ((va_nm_boolean (hK'.2 2 (cB', .boolean) rfl).2).symm.trans (va_nm_boolean (hK.2 1 (cB, .boolean) rfl).2))
    rw [e] at hP' hD'
    exact kk q H1 ⟨hP', hD', hS'⟩
theorem kPut (X : kX p s m args c D cA cB roAd ro rc A Ts cc nL own) {a ci : Nat} {fs : List Value} (hw : kW D A s ((a, .inr (ci, fs)) :: ws) H locs) {C : String} {T : u_T} {N : Nat} (hc : vwCl[ci]? = some (C, T, N)) (k : Nat) (hk : k < N) (hlink : Cond.fieldLink (mOwn own) index (T k).1 (T k).2.1 (T k).2.2.1 ∈ gT)
    {v : Value} (hfin : (T k).2.2.2 = false ∨ ((T k).2.2.2 = true ∧ meth.name = "<init>" ∧ (T k).1 = mOwn own)) {ty : FieldType} (hd : parseFieldDescriptor (T k).2.2.1 = some ty) (hn : narrow ty v = v) (hfit : fits ty v = true) (hl : k < fs.length) (hdg : decode cc pc = .ok (.putfield index, 3))
    (kk : ∀ (H1 : Heap) (locs1 : List Loc), kW D A s ((a, .inr (ci, fs.set k v)) :: ws) H1 locs1 → W p l e R s m args below meth c H1 locs1 cells slots Q (F0 m (pc + 3) ls rest)) : W p l e R s m args below meth c H locs cells slots Q (F0 m pc ls (v :: .ref a :: rest)) := by
  obtain ⟨⟨hx, hbc, hml, hown, hts⟩, hgT, hK, hE, hA⟩ := id X
  obtain ⟨hP, hD, hS⟩ := hw
  have hq := vwCl_ok _ (List.mem_of_getElem? hc)
  obtain ⟨ty0, hty⟩ := hq.2.1
  rcases hfin with hf | ⟨hf, hm, hdecl⟩
  · exact va_put (C := C) (T := T) (N := N) hx hbc hts (fun w hw => hgT _ (hq.1 w hw)) ty0 hty hq.2.2 hown hK hP hD hS 0 rfl hc k hk (hts _ (hgT _ hlink)) (fun _ h => h) hf hd hn hfit hl hdg (fun H1 locs1 h1 h2 h3 => kk H1 locs1 ⟨h1, h2, h3⟩)
  · exact va_putF (C := C) (T := T) (N := N) hx hbc hts (fun w hw => hgT _ (hq.1 w hw)) ty0 hty hq.2.2 hown hK hP hD hS 0 rfl hc k hk (hts _ (hgT _ hlink)) (fun _ h => h) hf hm hdecl hd hn hfit hl hdg (fun H1 locs1 h1 h2 h3 => kk H1 locs1 ⟨h1, h2, h3⟩)
theorem kGet (X : kX p s m args c D cA cB roAd ro rc A Ts cc nL own) (hw : kW D A s ws H locs) (q0 : Nat) {a ci : Nat} {fs : List Value} (he : ws[q0]? = some (a, .inr (ci, fs))) {C : String} {T : u_T} {N : Nat} (hc : vwCl[ci]? = some (C, T, N)) (k : Nat) (hk : k < N) (hlink : Cond.fieldLink (mOwn own) index (T k).1 (T k).2.1 (T k).2.2.1 ∈ gT)
    {v : Value} (hv : fs[k]? = some v) (hdg : decode cc pc = .ok (.getfield index, 3)) (kk : W p l e R s m args below meth c H locs cells slots Q (F0 m (pc + 3) ls (v :: rest))) : W p l e R s m args below meth c H locs cells slots Q (F0 m pc ls (.ref a :: rest)) := by
  obtain ⟨⟨hx, hbc, hml, hown, hts⟩, hgT, hK, hE, hA⟩ := id X
  obtain ⟨hP, hD, hS⟩ := hw
  have hq := vwCl_ok _ (List.mem_of_getElem? hc)
  exact va_get (C := C) (T := T) (N := N) hx hbc hts (fun w hw => hgT _ (hq.1 w hw)) hown hK hP q0 he hc k hk (hts _ (hgT _ hlink)) (fun _ h => h) hv hdg kk
theorem kNew (X : kX p s m args c D cA cB roAd ro rc A Ts cc nL own) (hw : kW D A s ws H locs) {ci : Nat} {C : String} {T : u_T} {N : Nat} (hc : vwCl[ci]? = some (C, T, N)) (ty : Nat → FieldType) (hty : ∀ k, k < N → parseFieldDescriptor (T k).2.2.1 = some (ty k)) (hcl : Cond.classLink (mOwn own) index C ∈ gT) (hinst : Cond.instantiable C N ∈ gT) (hini : Cond.initialized C ∈ gT)
    {fs : List Value} (hfs : ∀ j, j < N → defaultValue (ty j) = vp_V fs j) (hcells : cells + 1 ≤ R.cells) (hslots : slots + N ≤ R.slots) (hdg : decode cc pc = .ok (.new index, 3))
    (kk : ∀ (q : Nat) (H1 : Heap), kW D A s (ws ++ [(q, .inr (ci, fs))]) H1 locs → W p l e R s m args below meth c H1 locs (cells + 1) (slots + N) Q (F0 m (pc + 3) ls (.ref q :: rest))) : W p l e R s m args below meth c H locs cells slots Q (F0 m pc ls rest) := by
  obtain ⟨⟨hx, hbc, hml, hown, hts⟩, hgT, hK, hE, hA⟩ := id X
  obtain ⟨hP, hD, hS⟩ := hw
  have hq := vwCl_ok _ (List.mem_of_getElem? hc)
  exact va_new (C := C) (T := T) (N := N) hx hbc hts (fun w hw => hgT _ (hq.1 w hw)) ty hty hown (hts _ (hgT _ hcl)) (hts _ (hgT _ hinst)) (hts _ (hgT _ hini)) hK hP hD hS hA hc hfs hcells hslots hdg (fun q H1 h1 h2 h3 => kk q H1 ⟨h1, h2, h3⟩)
theorem kObj (X : kX p s m args c D cA cB roAd ro rc A Ts cc nL own) (hsz : ls.size = nL) {a : Nat} (hlink : Cond.methodLink (mOwn own) index objectInit ∈ gT) (hdg : decode cc pc = .ok (.invokespecial index, 3)) (hf : 1 ≤ R.frames ∧ 12 ≤ R.locals)
    (kk : W p l e R s m args below meth c H locs cells slots Q (F0 m (pc + 3) ls [])) : W p l e R s m args below meth c H locs cells slots Q (F0 m pc ls [.ref a]) := by
  obtain ⟨⟨hx, hbc, hml, hown, hts⟩, hgT, hK, hE, hA⟩ := id X
  exact W.objInit hx hbc hown (hts _ (hgT _ hlink)) (hts _ (hgT _ k_objI)) (hts _ (hgT _ k_objC)) rfl (by rw [hml]; exact hsz) rfl hdg hf.1 (by simpa [F0] using hf.2) kk
theorem kClone (X : kX p s m args c D cA cB roAd ro rc A Ts cc nL own) (hsz : ls.size = nL) (hw : kW D A s ws H locs) {a n : Nat} {f : Nat → Int32} (hcl : kCl cA a n f A s.heap) (hlink : Cond.methodLink (mOwn own) index ⟨"[I", "clone", "()Ljava/lang/Object;"⟩ ∈ gT)
    (hframes : 1 ≤ R.frames) (hlocals : (rest.map fun v => v.category).sum + 14 ≤ R.locals) (hcells : cells + 1 ≤ R.cells) (hslots : slots + n ≤ R.slots) (hdg : decode cc pc = .ok (.invokevirtual index, 3))
    (kk : ∀ (q : Nat) (H1 : Heap), kW D A s (ws ++ [(q, .inl (cA, n, .inl f))]) H1 locs → W p l e R s m args below meth c H1 locs (cells + 1) (slots + n) Q (F0 m (pc + 3) ls (.ref q :: rest))) : W p l e R s m args below meth c H locs cells slots Q (F0 m pc ls (.ref a :: rest)) := by
  obtain ⟨⟨hx, hbc, hml, hown, hts⟩, hgT, hK, hE, hA⟩ := id X
  obtain ⟨hP, hD, hS⟩ := hw
  obtain ⟨cell, c1, c2, c3, c4, c5, c6, c7⟩ := hcl
  have hH : H[a]? = some cell := by
    rw [hS.2.1 a (Array.getElem?_eq_some_iff.mp c1).1 c7]
    exact c1
  have hnm := va_nm_int (hK.2 0 (cA, .int) rfl).2
  have hcellE : ({ cls := cell.cls, slots := cell.slots } : Cell) = vp_cell cA (n, .inl f) := by
    rw [vp_cell_i, c2]
    have : cell.slots = (arrV cA n (fun j => .int (f j))).slots := by
      refine Array.ext_getElem? fun j => ?_
      by_cases hj : j < n
      · rw [arrV_read _ _ hj]
        exact c6 j hj
      · rw [Array.getElem?_eq_none (by rw [c5]; omega), Array.getElem?_eq_none (by rw [arrV_size]; omega)]
    rw [this]
    rfl
  obtain ⟨c0, t0', f1, f2, f3⟩ := Cond.castable_spec (va_Nw.use (A := args) rfl hE.2.2)
  cases hnm.symm.trans f1
  intro T hT X0
  have hcellT : T.heap[a]? = some cell := by rw [hT]; exact hH
  obtain ⟨-, kA, hkA, comp, hkind⟩ := State.isArrayOf_alike X0.warmed.alike ((hK.2 0 (cA, .int) rfl).1 0 (fun _ => .null))
  obtain ⟨-, kS, hkS, compS, hkindS⟩ := (hK.2 0 (cA, .int) rfl).1 0 (fun _ => .null)
  obtain ⟨vm', X', st⟩ := X0.cloneArray hx hown (hts _ (hgT _ hlink)) (hts _ (hgT _ k_cl1)) (hts _ (hgT _ k_cl2)) (hts _ (hgT _ k_cl3)) (hts _ (hgT _ k_cl4)) (a := a) (cell := cell) hcellT (fun k h => by rw [h] at c4; cases c4) c3 (by rw [c2]; exact hnm) f2 (by rw [c2]; exact f3)
    (fun i v hv => by
      rw [c2]
      have hk' : T.vm.classes[cA]? = some kA := hkA
      have hi : i < n := by
        have := (Array.getElem?_eq_some_iff.mp hv).1
        omega
      have hv' : v = .int (f i) := Option.some.inj (hv.symm.trans (c6 i hi))
      subst hv'
      simp [State.fitsSlot, State.slotType?, hk', hkind, fits])
    (g := F0 m pc ls (.ref a :: rest)) rfl (by rw [hml]; exact hsz) rfl (by rw [hbc]; exact hdg) hframes (by show 2 * 0 + _ + 14 ≤ _; omega) hcells (by rw [c5]; exact hslots) (hloader := by rw [c2]; exact Vm.clonesLoader_of_array hkS hkindS)
  rw [hcellE, c5] at X'
  generalize hH1 : H.push (vp_cell cA (n, .inl f)) = H1
  have z1 : H1.size = H.size + 1 := by rw [← hH1, Array.size_push]
  have e1 : H1[H.size]? = some (vp_cell cA (n, .inl f)) := by rw [← hH1, Array.getElem?_push_size]
  have o1 : ∀ q : Nat, q < H.size → H1[q]? = H[q]? := fun q hq => by rw [← hH1, Array.getElem?_push, if_neg (Nat.ne_of_lt hq)]
  have hk : ∀ (k : Nat) (y : Nat × va_E), ws[k]? = some y → H1[y.1]? = H[y.1]? := fun k y hy => o1 y.1 ((hP k y hy).lt)
  obtain ⟨t, b1, b2⟩ := kk H.size H1 ⟨(hP.kept hk).app (fun k y hy => by
      have hz : k < 1 := (List.getElem?_eq_some_iff.mp hy).1
      rw [show k = 0 by omega] at hy
      cases hy
      exact e1), hD.push hP rfl (hA _ hS.1), ⟨Nat.le_trans hS.1 (by omega), fun y h1 h2 => (o1 y (Nat.lt_of_lt_of_le h1 hS.1)).trans (hS.2.1 y h1 h2), hS.2.2⟩⟩
    ((T.setVm vm').pushCell (vp_cell cA (n, .inl f))) (by rw [← hH1, ← hT]; rfl) X'
  refine ⟨t, st t ?_, b2⟩
  rw [hcellE, hT]
  exact b1
theorem kPre_blind {x : Nat × va_E} {sz : Nat} {av : List Value} : FrameBlind (va_Pc av (kPre D cA cB roAd ro rc x sz)) := by
  intro a U g mk h
  obtain ⟨h0, h1, h2, h3, h4, h5⟩ := h
  exact ⟨h0, h1, h2, h3, va_K.moved (u := U) (U := U.calling g mk a) (Vm.Alike.refl U.vm) h4, kE.same (u := U) (U := U.calling g mk a) rfl h5⟩
theorem kFree {x : Nat × va_E} (hA : ∀ q : Nat, s.heap.size ≤ q → A q) (hw : kW D A s (ws ++ [x]) H locs) : ∀ q, va_A [x] H.size q → A q := by
  intro q h
  rcases h with ⟨k, e, z⟩ | z
  · have hk2 : k < [x].length := (List.getElem?_eq_some_iff.mp z).1
    have hk3 : k = 0 := by
      have : [x].length = 1 := rfl
      omega
    subst hk3
    have zx : x = (q, e) := Option.some.inj z
    have := hw.2.1.2 ws.length x (by simp)
    rw [zx] at this
    exact this
  · exact hA q (Nat.le_trans hw.2.2.1 z)
theorem kPre_of (X : kX p s m args c D cA cB roAd ro rc A Ts cc nL own) {x : Nat × va_E} (hw : kW D A s (ws ++ [x]) H locs) {av : List Value} : PreS s H (va_Pc av (kPre D cA cB roAd ro rc x H.size)) av := by
  obtain ⟨-, -, hK, hE, hA⟩ := id X
  have hF := kFree hA hw
  obtain ⟨hP, hD, hS⟩ := hw
  refine ⟨kPre_blind, fun U hU hW => ⟨rfl, by rw [hU], ?_, ?_, va_K.moved hW.alike hK, ?_⟩⟩
  · rw [hU]
    intro k q hq
    exact hP (ws.length + k) q (by rw [List.getElem?_append_right (by omega), show ws.length + k - ws.length = k by omega]; exact hq)
  · refine ⟨fun i j a b ha hb hab => ?_, fun _ _ _ => trivial⟩
    have h1 : i < 1 := (List.getElem?_eq_some_iff.mp ha).1
    have h2 : j < 1 := (List.getElem?_eq_some_iff.mp hb).1
    omega
  · rw [hU]
    exact ((hE.kept hS.2.1).warm hW).narrow hF
theorem kInit0 (X : kX p s m args c D cA cB roAd ro rc A Ts cc nL own) {x : Nat × va_E} (hw : kW D A s (ws ++ [x]) H locs) {lay : List (Nat × Nat)} {F : (Nat → Nat) → mM → Prop} {mc ms : Nat} {st0 : List Value} {av : Array Value}
    (hr : va_Run p l e R s m args below meth c H locs cells slots mc ms (F0 m pc ls st0) rest (kQc D cA cB lay F x H.size av) (va_A [x] H.size))
    (kk : ∀ (ad : Nat → Nat) (M : mM) (H1 : Heap) (locs1 : List Loc), ad 0 = x.1 → F ad M → kW D A s (ws ++ wsM cA cB ad lay M) H1 locs1 → W p l e R s m args below meth c H1 locs1 (cells + mc) (slots + ms) Q (F0 m (pc + 3) ls rest)) : W p l e R s m args below meth c H locs cells slots Q (F0 m pc ls st0) := by
  have hF := kFree X.2.2.2.2 hw
  refine va_callv hr hw.2.2 (fun q _ h => hF q h) hF (fun u t H1 locs1 ht hvm hp hB hz hk1 hS1 => ?_)
  obtain ⟨ad, M⟩ := u
  obtain ⟨hP1, hD1⟩ := hB
  rw [ht] at hP1
  have hj := kJoin hw.1 hw.2.1 hk1 hF hP1 hD1
  exact kk ad M H1 locs1 hp.1 hp.2 ⟨hj.1, hj.2, hS1⟩
/-- a constructor is called on the world's last cell -/
theorem kInit (X : kX p s m args c D cA cB roAd ro rc A Ts cc nL own) (hsz : ls.size = nL) {q ci : Nat} {fs : List Value} (hw : kW D A s (ws ++ [(q, .inr (ci, fs))]) H locs) {y : MethodName} {bytes : ByteArray} {maxL d : Nat} {As : List Value} {lay : List (Nat × Nat)} {F : (Nat → Nat) → mM → Prop} {mc ms : Nat} (hC : kCtr l D cA cB roAd ro rc y bytes maxL d As ci fs lay F mc ms)
    (hcode : Cond.code y bytes maxL none ∈ gT) (hini : Cond.initialized y.cls ∈ gT) (hins : Cond.instanceMethod y ∈ gT) (hlink : Cond.methodLink (mOwn own) index y ∈ gT) (hy : y.name = "<init>" ∧ y.cls ≠ "java/lang/invoke/MethodHandle" ∧ y.cls ≠ "java/lang/invoke/VarHandle" ∧ (parseMethodDescriptor y.desc).map (fun d => d.parameters.length) = some As.length)
    (hR : d + 1 ≤ R.frames ∧ 8 + (maxL + 11) + 60 * d ≤ R.locals) (hcs : cells + mc ≤ R.cells ∧ slots + ms ≤ R.slots) (hrest : (rest.map fun v => v.category).sum ≤ 8) (hdg : decode cc pc = .ok (.invokespecial index, 3)) {st0 : List Value} (hst : st0 = As.reverse ++ .ref q :: rest)
    (kk : ∀ (ad : Nat → Nat) (M : mM) (H1 : Heap) (locs1 : List Loc), ad 0 = q → F ad M → kW D A s (ws ++ wsM cA cB ad lay M) H1 locs1 → W p l e R s m args below meth c H1 locs1 (cells + mc) (slots + ms) Q (F0 m (pc + 3) ls rest)) : W p l e R s m args below meth c H locs cells slots Q (F0 m pc ls st0) := by
  obtain ⟨⟨hx, hbc, hml, hown, hts⟩, hgT, hK, hE, hA⟩ := id X
  have hG : GoodIn Ts (.code y bytes maxL none :: gT) := by
    intro w hw
    rcases List.mem_cons.mp hw with rfl | hw
    · exact ⟨hgT _ hcode, good_of_word (List.mem_filter.mp hcode).2⟩
    · exact ⟨hgT _ hw, good_of_word (List.mem_filter.mp hw).2⟩
  refine kInit0 X hw (F := F) (lay := lay) (mc := mc) (ms := ms) (rest := rest) (va_runI (As := As) ⟨hx, hbc, hml, hown, hts⟩ (hC q H.size) (cwI As.length hts hG rfl rfl rfl (hts _ (hgT _ hini)) (hts _ (hgT _ hlink)) (hts _ (hgT _ hins)) hy.1 hy.2 hR) (kPre_of X hw) rfl rfl hsz hst ?_ hdg hcs) kk
  show 2 * 0 + _ ≤ 8
  omega
/-- likewise, one that is private to a nest mate -/
theorem kInitN (X : kX p s m args c D cA cB roAd ro rc A Ts cc nL own) (hsz : ls.size = nL) {q ci : Nat} {fs : List Value} (hw : kW D A s (ws ++ [(q, .inr (ci, fs))]) H locs) {y : MethodName} {bytes : ByteArray} {maxL d : Nat} {As : List Value} {lay : List (Nat × Nat)} {F : (Nat → Nat) → mM → Prop} {mc ms : Nat} (hC : kCtr l D cA cB roAd ro rc y bytes maxL d As ci fs lay F mc ms)
    (hcode : Cond.code y bytes maxL none ∈ gT) (hini : Cond.initialized y.cls ∈ gT) (hins : Cond.instanceMethod y ∈ gT) {host : String} (hlink : Cond.methodLinkNest (mOwn own) index y host ∈ nT) (hy : y.name = "<init>" ∧ y.cls ≠ "java/lang/invoke/MethodHandle" ∧ y.cls ≠ "java/lang/invoke/VarHandle" ∧ (parseMethodDescriptor y.desc).map (fun d => d.parameters.length) = some As.length)
    (hR : d + 1 ≤ R.frames ∧ 8 + (maxL + 11) + 60 * d ≤ R.locals) (hcs : cells + mc ≤ R.cells ∧ slots + ms ≤ R.slots) (hrest : (rest.map fun v => v.category).sum ≤ 8) (hdg : decode cc pc = .ok (.invokespecial index, 3)) {st0 : List Value} (hst : st0 = As.reverse ++ .ref q :: rest)
    (kk : ∀ (ad : Nat → Nat) (M : mM) (H1 : Heap) (locs1 : List Loc), ad 0 = q → F ad M → kW D A s (ws ++ wsM cA cB ad lay M) H1 locs1 → W p l e R s m args below meth c H1 locs1 (cells + mc) (slots + ms) Q (F0 m (pc + 3) ls rest)) : W p l e R s m args below meth c H locs cells slots Q (F0 m pc ls st0) := by
  obtain ⟨⟨hx, hbc, hml, hown, hts⟩, hgT, hK, hE, hA⟩ := id X
  have hG : GoodIn Ts (.code y bytes maxL none :: gT) := by
    intro w hw
    rcases List.mem_cons.mp hw with rfl | hw
    · exact ⟨hgT _ hcode, good_of_word (List.mem_filter.mp hcode).2⟩
    · exact ⟨hgT _ hw, good_of_word (List.mem_filter.mp hw).2⟩
  refine kInit0 X hw (F := F) (lay := lay) (mc := mc) (ms := ms) (rest := rest) (va_runIN (As := As) ⟨hx, hbc, hml, hown, hts⟩ (hC q H.size) ⟨va_cnB As.length hts hG rfl rfl rfl (hE.1.2.2 _ hlink) (hts _ (hgT _ hini)) hy.2 hR, hy.1, hts _ (hgT _ hins)⟩ (kPre_of X hw) rfl rfl hsz hst ?_ hdg hcs) kk
  show 2 * 0 + _ ≤ 8
  omega
/-- a constructor's end -/
theorem kRet (X : kX p s m args c D cA cB roAd ro rc A Ts cc nL own) (hr : meth.sig.returnType = none) (hlocks : meth.locks = false) {x : Nat × va_E} (hAe : A = va_A [x] s.heap.size) {lay : List (Nat × Nat)} {F : (Nat → Nat) → mM → Prop} {ad : Nat → Nat} {M : mM} (hw : kW D A s (wsM cA cB ad lay M) H locs) (h0 : ad 0 = x.1) (hF : F ad M) (hdg : decode cc pc = .ok (.return_, 1)) :
    W p l e R s m args below meth c H locs cells slots (MQ below (kQc D cA cB lay F x s.heap.size) args s cells slots (va_A [x] s.heap.size)) (F0 m pc ls []) := by
  subst hAe
  obtain ⟨⟨hx, hbc, hml, hown, hts⟩, hgT, hK, hE, hA⟩ := id X
  exact W.vret hx hbc hr (fun t ht _ => ⟨⟨(ad, M), rfl, ⟨h0, hF⟩, by rw [ht]; exact hw.1, hw.2.1⟩, hw.2.2.F ht⟩) hw.2.2.2.2 hdg
end KS
/-- a constructor's contract, from its entry -/
theorem kMeet {l : Launch} {D : va_G} {cA cB : ClassId} {roAd : Nat → Nat} {ro : List Nat} {rc : Nat → Nat → Int32} {y : MethodName} {bytes : ByteArray} {maxL d : Nat} {As : List Value} {ci : Nat} {fs : List Value} {lay : List (Nat × Nat)} {F : (Nat → Nat) → mM → Prop} {mc ms own : Nat} (hy : plainName y.cls = true) (hyo : y.cls = mOwn own) (hyn : y.name = "<init>")
    (hlen : ∀ h0 : Nat, (lg_sl (.ref h0 :: As)).length ≤ maxL)
    (body : ∀ (h0 : Nat) (p : Program) (e : Env) (s : State) (m : MethodId) (args : Array Value) (below : List Frame) (meth : Method) (c : Code) (ls : Array Slot), kX p s m args c D cA cB roAd ro rc (va_A [(h0, .inr (ci, fs))] s.heap.size) (.code y bytes maxL none :: gT) bytes maxL own → meth.name = "<init>" → meth.sig.returnType = none → meth.locks = false →
      kW D (va_A [(h0, .inr (ci, fs))] s.heap.size) s [(h0, .inr (ci, fs))] s.heap [] → lv_has ls maxL (lv_args 0 (.ref h0 :: As)) →
      W p l e (kRm d mc ms) s m args below meth c s.heap [] 0 0 (MQ below (kQc D cA cB lay F (h0, .inr (ci, fs)) s.heap.size) args s mc ms (va_A [(h0, .inr (ci, fs))] s.heap.size)) (F0 m 0 ls [])) : kCtr l D cA cB roAd ro rc y bytes maxL d As ci fs lay F mc ms := by
  intro h0 sz
  refine Met.ofW (cc := bytes) (maxL := maxL) (ret := none) hy rfl ?_
  intro p e s m args below meth c s₁ B hml hv
  obtain ⟨rfl, hsz, hP, hD0, hK, hE⟩ := hv
  have hts := atoms_spec (ws := .code y bytes maxL none :: gT) B.pre
  have hown : s.vm.findClass (mOwn own) = some m.cls := by rw [← hyo]; exact findClass_of_methodNamed B.named
  have hin : meth.name = "<init>" := by
    rw [← hyn]
    exact (name_of_methodNamed B.named B.method).1
  subst hsz
  have hl := lv_entry (.ref h0 :: As) (hlen h0)
  rw [lg_entry_eq]
  exact body h0 p e s m _ below meth c _ ⟨⟨B.exec, B.bytes, hml, hown, hts⟩, fun w hw => List.mem_cons_of_mem _ hw, hK, hE, fun q h => Or.inr h⟩ hin B.returns B.notSynchronized ⟨hP, hD0.self, va_S.rf⟩ hl
