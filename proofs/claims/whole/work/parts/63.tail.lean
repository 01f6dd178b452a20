/-! CONSTRUCTORS, their ends: worlds in another order, layouts, the last instructions by the small machine -/
theorem va_D_pw {A : Nat → Prop} {ws : va_W} (h : va_D A ws) : List.Pairwise (fun a b : Nat × va_E => a.1 ≠ b.1) ws := by
  rw [List.pairwise_iff_getElem]
  intro i j hi hj hij e
  have := h.1 i j _ _ (List.getElem?_eq_getElem hi) (List.getElem?_eq_getElem hj) e
  omega
theorem va_D_of {A : Nat → Prop} {ws : va_W} (h : List.Pairwise (fun a b : Nat × va_E => a.1 ≠ b.1) ws) (hA : ∀ q ∈ ws, A q.1) : va_D A ws := by
  rw [List.pairwise_iff_getElem] at h
  refine ⟨fun i j p q hi hj e => ?_, fun k q hk => hA q (List.mem_of_getElem? hk)⟩
  obtain ⟨hi', rfl⟩ := List.getElem?_eq_some_iff.mp hi
  obtain ⟨hj', rfl⟩ := List.getElem?_eq_some_iff.mp hj
  rcases Nat.lt_trichotomy i j with c | c | c
  · exact absurd e (h i j hi' hj' c)
  · exact c
  · exact absurd e.symm (h j i hj' hi' c)
theorem kW.perm {D : va_G} {A : Nat → Prop} {s : State} {ws ws' : va_W} {H : Heap} {locs : List Loc} (hp : ws.Perm ws') (h : kW D A s ws H locs) : kW D A s ws' H locs :=
  ⟨fun k q hk => by
      obtain ⟨i, hi⟩ := List.getElem?_of_mem (hp.mem_iff.mpr (List.mem_of_getElem? hk))
      exact h.1 i q hi, va_D_of ((hp.pairwise_iff (fun h => Ne.symm h)).mp (va_D_pw h.2.1)) (fun q hq => by
      obtain ⟨i, hi⟩ := List.getElem?_of_mem (hp.mem_iff.mpr hq)
      exact h.2.1.2 i q hi), h.2.2⟩
theorem wsM_get {cA cB : ClassId} {ad : Nat → Nat} {lay : List (Nat × Nat)} {M : mM} {k : Nat} : (wsM cA cB ad lay M)[k]? = (lay[k]?).map (fun q => (ad k, cellE cA cB ad M k q)) := by
  simp [wsM]
theorem cellE_shift {cA cB : ClassId} {ad : Nat → Nat} {M : mM} {n k : Nat} {q : Nat × Nat} : cellE cA cB ad M (n + k) q = cellE cA cB (fun k => ad (n + k)) (fun k => M (n + k)) k q := by
  unfold cellE slE
  simp only [Nat.add_assoc]
theorem wsM_app {cA cB : ClassId} {ad : Nat → Nat} {l1 l2 : List (Nat × Nat)} {M : mM} : wsM cA cB ad (l1 ++ l2) M = wsM cA cB ad l1 M ++ wsM cA cB (fun k => ad (l1.length + k)) l2 (fun k => M (l1.length + k)) := by
  have hl : (wsM cA cB ad l1 M).length = l1.length := by simp [wsM]
  refine List.ext_getElem? fun k => ?_
  by_cases h : k < l1.length
  · rw [wsM_get, List.getElem?_append_left h, List.getElem?_append_left (by rw [hl]; exact h), wsM_get]
  · obtain ⟨j, rfl⟩ := Nat.le.dest (Nat.le_of_not_lt h)
    rw [wsM_get, List.getElem?_append_right (by omega), List.getElem?_append_right (by rw [hl]; omega), hl, wsM_get, show l1.length + j - l1.length = j by omega]
    cases l2[j]? with
    | none => rfl
    | some q => simp only [Option.map_some, cellE_shift]
/-- all that a layout's objects refer to lies inside it -/
def inB (lay : List (Nat × Nat)) : Bool := (List.range lay.length).all fun k => match lay[k]? with
  | none => true
  | some q => (mSh q.1).all fun s => match s with
    | none => true
    | some r => decide (k + r.2.2 < lay.length)
theorem wsM_ext {cA cB : ClassId} {ad ad' : Nat → Nat} {lay : List (Nat × Nat)} {M M' : mM} (hi : inB lay = true) (ha : ∀ k, k < lay.length → ad k = ad' k) (hM : ∀ k, k < lay.length → M k = M' k) : wsM cA cB ad lay M = wsM cA cB ad' lay M' := by
  refine List.ext_getElem? fun k => ?_
  rw [wsM_get, wsM_get]
  cases hq : lay[k]? with
  | none => rfl
  | some q =>
    have hk : k < lay.length := (List.getElem?_eq_some_iff.mp hq).1
    have h1 := List.all_eq_true.mp hi k (List.mem_range.mpr hk)
    rw [hq] at h1
    have h2 := List.all_eq_true.mp h1
    simp only [Option.map_some]
    rw [ha k hk]
    have e : slE ad M k (mSh q.1) = slE ad' M' k (mSh q.1) := by
      refine List.ext_getElem? fun j => ?_
      rw [slE_at, slE_at]
      cases hs : (mSh q.1)[j]? with
      | none => rfl
      | some s =>
        have h3 := h2 s (List.mem_of_getElem? hs)
        cases s with
        | none => simp only [Option.map_some, hM k hk]
        | some r =>
          have h4 : k + r.2.2 < lay.length := by simpa using h3
          simp only [Option.map_some, ha _ h4]
    unfold cellE
    rw [e, hM k hk]
def layB (lay : List (Nat × Nat)) : Bool := decide (lay.length ≤ 1000) && (List.range lay.length).all fun k => match lay[k]? with
  | none => true
  | some q => decide (q.1 ≠ 51) && (decide (q.1 = 50) || (decide (q.1 = 52) || ((match vwCl[q.1]? with
    | none => false
    | some c => decide ((mSh q.1).length = c.2.2)) && (mSh q.1).all fun s => match s with
      | none => true
      | some r => decide (r.1 ≠ 51) && decide (lay[k + r.2.2]? = some (r.1, r.2.1)))))
theorem layB_ok {lay : List (Nat × Nat)} (h : layB lay = true) : layOK lay := by
  unfold layB at h
  rw [Bool.and_eq_true] at h
  refine ⟨of_decide_eq_true h.1, fun k kd len hk => ?_⟩
  have h1 := List.all_eq_true.mp h.2 k (List.mem_range.mpr (List.getElem?_eq_some_iff.mp hk).1)
  rw [hk] at h1
  simp only [Bool.and_eq_true, Bool.or_eq_true, decide_eq_true_eq] at h1
  refine ⟨h1.1, fun h50 h52 => ?_⟩
  rcases h1.2 with h2 | h2 | h2
  · exact absurd h2 h50
  · exact absurd h2 h52
  · cases hc : vwCl[kd]? with
    | none => rw [hc] at h2; exact absurd h2.1 Bool.false_ne_true
    | some c =>
      rw [hc] at h2
      refine ⟨c, rfl, of_decide_eq_true h2.1, fun j kd' len' off hs => ?_⟩
      have h3 := List.all_eq_true.mp h2.2 _ (List.mem_of_getElem? hs)
      simp only [Bool.and_eq_true, decide_eq_true_eq] at h3
      exact ⟨h3.1, h3.2⟩
section KT
variable {p : Program} {l : Launch} {e : Env} {R : Room} {s : State} {m : MethodId} {args : Array Value} {below : List Frame} {meth : Method} {c : Code} {cells slots : Nat} {H : Heap} {locs : List Loc}
variable {D : va_G} {cA cB : ClassId} {roAd : Nat → Nat} {ro : List Nat} {rc : Nat → Nat → Int32} {A : Nat → Prop} {Ts : List Cond} {cc : ByteArray} {nL own : Nat} {ls : Array Slot} {pc : Nat}
/-- the last instructions of a constructor, by the small machine -/
theorem kTail (X : kX p s m args c D cA cB roAd ro rc A Ts cc nL own) (hr : meth.sig.returnType = none) (hlk : meth.locks = false) {x : Nat × va_E} (hAe : A = va_A [x] s.heap.size) {lay : List (Nat × Nat)} {F : (Nat → Nat) → mM → Prop} {ad : Nat → Nat} {M : mM} (hw : kW D A s (wsM cA cB ad lay M) H locs) (h0 : ad 0 = x.1) (hrc : ∀ i j : Nat, M (1000 + i) j = rc i j) (hlay : layOK lay) {d : Nat}
    (hroom : d + 1 ≤ R.frames ∧ 60 * (d + 1) ≤ R.locals) (hcs : cells ≤ R.cells ∧ slots ≤ R.slots) {lsm : List mV} (hL : LH (vlG ad roAd) nL ls lsm) (hGl : ∀ (i : Nat) (v : Int32 ⊕ (Nat × Nat × Nat)), lsm[i]? = some (some v) → Gd lay ro (some v)) {b : List mIns} {q : mIns} {r : List mIns} (hb : b = q :: r) (hok : okBl cc own none (fun _ => 0) b = true) (hpc : q.1 = pc)
    (hbx : bx (fun _ _ _ _ => False) (fun v M' => v = none ∧ F ad M') (wpD mB mNL d) b lsm [] M) : W p l e R s m args below meth c H locs cells slots (MQ below (kQc D cA cB lay F x s.heap.size) args s cells slots (va_A [x] s.heap.size)) (F0 m pc ls []) := by
  have hE : mEnv p s m args c D cA cB roAd lay ro rc A Ts cc nL own := ⟨X.1, X.2.1, X.2.2.1, X.2.2.2.1.1, hlay, X.2.2.2.2⟩
  have hgo := mBlk (p := p) (l := l) (e := e) (R := R) (s := s) (m := m) (args := args) (below := below) (meth := meth) (c := c) (cells := cells) (slots := slots) (Q := MQ below (kQc D cA cB lay F x s.heap.size) args s cells slots (va_A [x] s.heap.size)) (ad := ad) (K := fun _ _ _ _ => False) (Rt := fun v M' => v = none ∧ F ad M') (Cl := wpD mB mNL d) (rt := none) (hd := fun _ => 0) (d := d) hE (fun _ _ _ _ h => h.elim) ?_ (fun z as M k h hz => mMet l D cA cB ad roAd lay ro rc hlay d z as M k h hz) hroom hcs b hok q r hb lsm [] M hbx
  · subst hpc
    exact hgo H locs ls ⟨hw.1, hw.2.1, hrc⟩ hw.2.2 hL hGl (fun v hv => by simp at hv)
  · intro v M' pc' ls' hk hrt hgv
    obtain ⟨rfl, hF⟩ := hk
    intro H1 locs1 la hw1 hS1 hL1 hGl1 hGs1
    exact kRet X hr hlk hAe ⟨hw1.1, hw1.2.1, hS1⟩ h0 hF hrt.1
end KT
theorem LH_one {ad roAd : Nat → Nat} {ls : Array Slot} {h0 kd : Nat} (hk : kd ≠ 51) (hl : lv_has ls 1 [(0, .ref h0)]) (h : ad 0 = h0) : LH (vlG ad roAd) 1 ls [mR kd 0 0] := by
  refine ⟨rfl, _, hl, fun i v hi => ?_⟩
  cases i with
  | zero =>
    have : v = .inr (kd, 0, 0) := by simpa using hi.symm
    subst this
    rw [vl_rw hk, h]
    exact List.mem_cons_self
  | succ i => simp at hi
theorem Gd_one {lay : List (Nat × Nat)} {ro : List Nat} {kd : Nat} (hk : kd ≠ 51) (h : lay[0]? = some (kd, 0)) : ∀ (i : Nat) (v : Int32 ⊕ (Nat × Nat × Nat)), ([mR kd 0 0] : List mV)[i]? = some (some v) → Gd lay ro (some v) := by
  intro i v hi
  cases i with
  | zero =>
    have : v = .inr (kd, 0, 0) := by simpa using hi.symm
    subst this
    show (if kd = 51 then _ else _)
    rw [if_neg hk]
    exact h
  | succ i => simp at hi
