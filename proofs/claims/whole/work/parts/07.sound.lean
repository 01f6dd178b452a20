/-! THE MACHINE DOES WHAT THE SMALL MACHINE SAYS -/
def vlG (ad roAd : Nat → Nat) : mV → Value
  | none => .null
  | some (.inl x) => .int x
  | some (.inr (kd, _, id)) => .ref (if kd = 51 then roAd id else ad id)
def Gd (lay : List (Nat × Nat)) (ro : List Nat) : mV → Prop
  | none => False
  | some (.inl _) => True
  | some (.inr (kd, len, id)) => if kd = 51 then ro[id]? = some len else lay[id]? = some (kd, len)
def layOK (lay : List (Nat × Nat)) : Prop := lay.length ≤ 1000 ∧ ∀ (k kd len : Nat), lay[k]? = some (kd, len) → kd ≠ 51 ∧ (kd ≠ 50 → kd ≠ 52 → ∃ q : vw_C, vwCl[kd]? = some q ∧ (mSh kd).length = q.2.2 ∧ ∀ (j kd' len' off : Nat), (mSh kd)[j]? = some (some (kd', len', off)) → kd' ≠ 51 ∧ lay[k + off]? = some (kd', len'))
def slE (ad : Nat → Nat) (M : mM) (k : Nat) (sh : List (Option (Nat × Nat × Nat))) : List Value := sh.mapIdx fun j s => match s with
  | none => .int (M k j)
  | some q => .ref (ad (k + q.2.2))
def cellE (cA cB : ClassId) (ad : Nat → Nat) (M : mM) (k : Nat) (q : Nat × Nat) : va_E := if q.1 = 50 then .inl (cA, q.2, .inl (M k)) else if q.1 = 52 then .inl (cB, q.2, .inl (M k)) else .inr (q.1, slE ad M k (mSh q.1))
def wsM (cA cB : ClassId) (ad : Nat → Nat) (lay : List (Nat × Nat)) (M : mM) : va_W := lay.mapIdx fun k q => (ad k, cellE cA cB ad M k q)
theorem wsM_at {cA cB : ClassId} {ad : Nat → Nat} {lay : List (Nat × Nat)} {M : mM} {k : Nat} {q : Nat × Nat} (h : lay[k]? = some q) : (wsM cA cB ad lay M)[k]? = some (ad k, cellE cA cB ad M k q) := by
  simp [wsM, h]
theorem upd_up (M : mM) (k i : Nat) (x : Int32) : upd (M k) i x = up M k i x k := by
  funext j
  simp [upd, up]
theorem up_ne {M : mM} {k k' i : Nat} {x : Int32} (h : k' ≠ k) : up M k i x k' = M k' := by
  funext j
  simp [up, h]
theorem cellE_ne {cA cB : ClassId} {ad : Nat → Nat} {M : mM} {k k' i : Nat} {x : Int32} {q : Nat × Nat} (h : k' ≠ k) : cellE cA cB ad (up M k i x) k' q = cellE cA cB ad M k' q := by
  unfold cellE slE
  rw [up_ne h]
theorem wsM_set {cA cB : ClassId} {ad : Nat → Nat} {lay : List (Nat × Nat)} {M : mM} {k i : Nat} {x : Int32} {q : Nat × Nat} {e : va_E} (h : lay[k]? = some q) (he : e = cellE cA cB ad (up M k i x) k q) : (wsM cA cB ad lay M).set k (ad k, e) = wsM cA cB ad lay (up M k i x) := by
  subst he
  refine List.ext_getElem? fun n => ?_
  by_cases hn : n = k
  · subst hn
    have hl : n < (wsM cA cB ad lay M).length := (List.getElem?_eq_some_iff.mp (wsM_at h)).1
    rw [List.getElem?_set_self hl, wsM_at h]
  · rw [List.getElem?_set_ne (Ne.symm hn)]
    cases hq : lay[n]? with
    | none => simp [wsM, hq]
    | some q' => rw [wsM_at hq, wsM_at hq, cellE_ne hn]
theorem slE_at {ad : Nat → Nat} {M : mM} {k j : Nat} {sh : List (Option (Nat × Nat × Nat))} : (slE ad M k sh)[j]? = (sh[j]?).map (fun s => match s with
  | none => Value.int (M k j)
  | some q => .ref (ad (k + q.2.2))) := by
  simp [slE]
theorem slE_set {ad : Nat → Nat} {M : mM} {k j : Nat} {x : Int32} {sh : List (Option (Nat × Nat × Nat))} (h : sh[j]? = some none) : (slE ad M k sh).set j (.int x) = slE ad (up M k j x) k sh := by
  refine List.ext_getElem? fun n => ?_
  by_cases hn : n = j
  · subst hn
    have hl : n < (slE ad M k sh).length := by
      have := (List.getElem?_eq_some_iff.mp h).1
      simpa [slE] using this
    rw [List.getElem?_set_self hl, slE_at, h]
    simp [up]
  · rw [List.getElem?_set_ne (Ne.symm hn), slE_at, slE_at]
    congr 1
    funext s
    cases s <;> simp [up, hn]
/-- the locals of the machine hold what the small machine's locals say -/
def LH (vl : mV → Value) (nL : Nat) (la : Array Slot) (ls : List mV) : Prop := ls.length = nL ∧ ∃ l, lv_has la nL l ∧ ∀ (i : Nat) (v : Int32 ⊕ (Nat × Nat × Nat)), ls[i]? = some (some v) → (i, vl (some v)) ∈ l
theorem LH.get {vl : mV → Value} {nL : Nat} {la : Array Slot} {ls : List mV} (h : LH vl nL la ls) {i : Nat} {v : Int32 ⊕ (Nat × Nat × Nat)} (hi : ls[i]? = some (some v)) : la[i]? = some (.val (vl (some v))) := by
  obtain ⟨-, l, h1, h2⟩ := h
  exact h1.2.2 _ (h2 i v hi)
theorem vlG_cat (ad roAd : Nat → Nat) (v : mV) : (vlG ad roAd v).category = 1 := by
  unfold vlG
  split <;> rfl
theorem LH.set {ad roAd : Nat → Nat} {nL : Nat} {la' : Array Slot} {ls : List mV} {l : List (Nat × Value)} {i : Nat} {v : Int32 ⊕ (Nat × Nat × Nat)} {x : Value} (hx : vlG ad roAd (some v) = x) (hn : ls.length = nL) (h2 : ∀ (i : Nat) (v : Int32 ⊕ (Nat × Nat × Nat)), ls[i]? = some (some v) → (i, vlG ad roAd (some v)) ∈ l)
    (h : lv_has la' nL ((i, x) :: l.filter (fun q => !(q.1 == i) && !(q.1 + 1 == i && q.2.category == 2)))) : LH (vlG ad roAd) nL la' (ls.set i (some v)) := by
  refine ⟨by simpa using hn, _, h, fun j w hj => ?_⟩
  by_cases hji : j = i
  · subst hji
    have hl : j < ls.length := by
      have := (List.getElem?_eq_some_iff.mp hj).1
      simpa using this
    rw [List.getElem?_set_self hl] at hj
    cases hj
    rw [hx]
    exact List.mem_cons_self
  · rw [List.getElem?_set_ne (Ne.symm hji)] at hj
    refine List.mem_cons_of_mem _ (List.mem_filter.mpr ⟨h2 j w hj, ?_⟩)
    simp [hji, vlG_cat]
section MS
variable {p : Program} {l : Launch} {e : Env} {R : Room} {s : State} {m : MethodId} {args : Array Value} {below : List Frame} {meth : Method} {c : Code} {cells slots : Nat} {Q : State → Prop}
variable {D : va_G} {cA cB : ClassId} {ad roAd : Nat → Nat} {lay : List (Nat × Nat)} {ro : List Nat} {rc : Nat → Nat → Int32} {A : Nat → Prop} {Ts : List Cond} {cc : ByteArray} {nL : Nat} {own : Nat}
/-- what a state holds of the statics, of the links between nest mates -/
def mSt (rc : Nat → Nat → Int32) (roAd : Nat → Nat) (ro : List Nat) (A : Nat → Prop) (U : State) (H : Heap) : Prop :=
  (∀ (i len : Nat), ro[i]? = some len → va_T .int (roAd i) len (fun j => .int (rc i j)) A U H) ∧ (∀ (i : Nat) (q : String × String × Nat), mStT[i]? = some q → ro[i]? = some q.2.2 ∧ va_Z q.1 q.2.1 "[I" (.ref (roAd i)) A U H) ∧ ∀ w ∈ nT, va_Nw w U
/-- what holds all along a method: the machine, the code, the tables' words, the classes, the statics -/
def mEnv (p : Program) (s : State) (m : MethodId) (args : Array Value) (c : Code) (D : va_G) (cA cB : ClassId) (roAd : Nat → Nat) (lay : List (Nat × Nat)) (ro : List Nat) (rc : Nat → Nat → Int32) (A : Nat → Prop) (Ts : List Cond) (cc : ByteArray) (nL own : Nat) : Prop :=
  CallFix p m c cc nL s args Ts (mOwn own) ∧ (∀ w ∈ gT, w ∈ Ts) ∧ va_K D vwCl [(cA, .int), (cB, .boolean)] s ∧ mSt rc roAd ro A s s.heap ∧ layOK lay ∧ ∀ q : Nat, s.heap.size ≤ q → A q
/-- the world: memory M in heap H -/
def mWd (D : va_G) (cA cB : ClassId) (ad : Nat → Nat) (lay : List (Nat × Nat)) (rc : Nat → Nat → Int32) (A : Nat → Prop) (M : mM) (H : Heap) : Prop :=
  va_P D vwCl (wsM cA cB ad lay M) H ∧ va_D A (wsM cA cB ad lay M) ∧ ∀ (i j : Nat), M (1000 + i) j = rc i j
/-- from pc on, with these locals, this stack, this memory -/
def mGo (p : Program) (l : Launch) (e : Env) (R : Room) (s : State) (m : MethodId) (args : Array Value) (below : List Frame) (meth : Method) (c : Code) (cells slots : Nat) (Q : State → Prop) (D : va_G) (cA cB : ClassId) (ad roAd : Nat → Nat) (lay : List (Nat × Nat)) (ro : List Nat) (rc : Nat → Nat → Int32) (A : Nat → Prop) (nL : Nat) (pc : Nat) (ls st : List mV) (M : mM) : Prop :=
  ∀ (H : Heap) (locs : List Loc) (la : Array Slot), mWd D cA cB ad lay rc A M H → va_S A s.heap H locs → LH (vlG ad roAd) nL la ls → (∀ (i : Nat) (v : Int32 ⊕ (Nat × Nat × Nat)), ls[i]? = some (some v) → Gd lay ro (some v)) → (∀ v ∈ st, Gd lay ro v) → W p l e R s m args below meth c H locs cells slots Q (F0 m pc la (st.map (vlG ad roAd)))
theorem GdL_set {ls : List mV} {n : Nat} {v : mV} (h : ∀ (i : Nat) (v : Int32 ⊕ (Nat × Nat × Nat)), ls[i]? = some (some v) → Gd lay ro (some v)) (hv : Gd lay ro v) : ∀ (i : Nat) (w : Int32 ⊕ (Nat × Nat × Nat)), (ls.set n v)[i]? = some (some w) → Gd lay ro (some w) := by
  intro i w hw
  by_cases hi : i = n
  · subst hi
    have hl : i < ls.length := by
      have := (List.getElem?_eq_some_iff.mp hw).1
      simpa using this
    rw [List.getElem?_set_self hl] at hw
    cases hw
    exact hv
  · rw [List.getElem?_set_ne (Ne.symm hi)] at hw
    exact h i w hw
theorem up_ro {M : mM} {k j : Nat} {x : Int32} (hk : k < 1000) (h : ∀ (i j : Nat), M (1000 + i) j = rc i j) : ∀ (i j' : Nat), up M k j x (1000 + i) j' = rc i j' := by
  intro i j'
  rw [← h i j']
  simp [up]
  omega
theorem layOK_lt (hl : layOK lay) {k : Nat} {q : Nat × Nat} (h : lay[k]? = some q) : k < 1000 := Nat.lt_of_lt_of_le (List.getElem?_eq_some_iff.mp h).1 hl.1
end MS
