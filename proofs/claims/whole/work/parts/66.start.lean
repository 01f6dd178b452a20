/-! THE LAW'S START: what the Statement gives of the statics -/
def rcW (xs : Nat → Int32) : Nat → Nat → Int32 := fun i j => match i with
  | 0 => zi (sp0 j)
  | 1 => ([1, 0, 0, 1, 0] : List Int32).getD j 0
  | 2 => ([50, 1000, 300, 30, 300] : List Int32).getD j 0
  | 3 => zi (kv0 j)
  | 4 => ([1000, 1000, 9999, 99, 63] : List Int32).getD j 0
  | 5 => ([98, 100, 114, 99, 104, 108] : List Int32).getD j 0
  | _ => xs j
def roW (L : Nat) : List Nat := [5, 5, 5, 30, 5, 6, L]
theorem k_len {args : Array Value} {s : State} {t : Term} {a N : Nat} {cell : Cell} (hN : N < 2147483648) (h : (Term.length t).eval args s none [] s = some (.int (Int32.ofNat N))) (ht : t.eval args s none [] s = some (.ref a)) (hc : s.heap[a]? = some cell) : cell.slots.size = N ∧ cell.vm ≠ .unknown ∧ cell.vm.isStatics = false := by
  simp only [Term.eval, Option.bind_eq_bind, ht, Option.bind_some] at h
  obtain ⟨cell', hcell', h⟩ := Option.bind_eq_some_iff.mp h
  obtain ⟨h1, h2, h3, -⟩ := State.arrayAt?_spec hcell'
  cases hc.symm.trans h1
  by_cases hn : cell.slots.size < 2147483648
  · rw [if_pos hn] at h
    have e : nI cell.slots.size = nI N := Value.int.inj (Option.some.inj h)
    exact ⟨nI_inj hn hN e, h2, h3⟩
  · rw [if_neg hn] at h
    cases h
/-- one static table, out of the Statement's words -/
theorem k_static {args : Array Value} {s : State} {C n : String} {N : Nat} {f : Nat → Int32} {A : Nat → Prop} {cA : ClassId} (hN : N < 2147483648) (harr : (Cond.arrayOf (.static C n "[I") .int).before args s = true) (hlen : (Cond.eq (.length (.static C n "[I")) (.int (Int32.ofNat N))).before args s = true)
    (hel : ∀ j : Nat, j < N → (Cond.eq (.elem (.static C n "[I") (.int (Int32.ofNat j))) (.int (f j))).before args s = true) (hex : (Cond.exactly (.static C n "[I") "[I").before args s = true) (hl : (Cond.laysStatic C n "[I").before args s = true) (hini : (Cond.initialized C).before args s = true) (hnm : s.vm.findClass "[I" = some cA) (hA : ∀ a : Nat, a < s.heap.size → ¬ A a) :
    ∃ t : Nat, va_T .int t N (fun j => .int (f j)) A s s.heap ∧ va_Z C n "[I" (.ref t) A s s.heap ∧ kCl cA t N f A s.heap := by
  have hlen' := va_eqt hlen
  obtain ⟨t, ht, hT⟩ := va_Tof (A := A) (f := fun j => .int (f j)) hN harr hlen' (fun j hj => va_eqt (hel j hj)) hA
  refine ⟨t, hT, va_Zref hl hini ht hA, ?_⟩
  obtain ⟨a, cc, cell, k, h1, h2, h3, -, h5, h6, -⟩ := Cond.exactly_spec hex
  cases ht.symm.trans h1
  cases hnm.symm.trans h2
  obtain ⟨z1, z2, z3⟩ := k_len hN hlen' ht h3
  obtain ⟨cell', g1, g2, g3, g4, g5, g6, g7⟩ := hT
  cases h3.symm.trans g1
  exact ⟨cell, h3, h6, z2, z3, z1, g6, g7⟩
theorem k_eqlit {n : Nat} {x : Int32} (h : Int32.ofNat n = x) {args : Array Value} {s : State} {t : Term} (h2 : (Cond.eq t (.int x)).before args s = true) : (Cond.eq t (.int (Int32.ofNat n))).before args s = true := by
  rw [h]
  exact h2
theorem k_st0 {args : Array Value} {s : State} {xs : Nat → Int32} {A : Nat → Prop} {cA : ClassId} (hs : ∀ w ∈ flatC (Jvm.Cond.and given_1 narrow_1), w.before args s = true) (hts : ∀ w ∈ lw_tbl, w.before args s = true) (hnm : s.vm.findClass "[I" = some cA) (hA : ∀ a : Nat, a < s.heap.size → ¬ A a) : ∃ t : Nat, va_T .int t 5 (fun j => .int (rcW xs 0 j)) A s s.heap ∧ va_Z "HeatDown" "SPRING_FIRST" "[I" (.ref t) A s s.heap ∧ kCl cA t 5 (rcW xs 0) A s.heap :=
  k_static (by decide) (hs (.arrayOf (.static "HeatDown" "SPRING_FIRST" "[I") .int) (by decide +kernel)) (hs (.eq (.length (.static "HeatDown" "SPRING_FIRST" "[I")) (.int 5)) (by decide +kernel)) (fun j hj => match j, hj with
    | 0, _ => hs (.eq (.elem (.static "HeatDown" "SPRING_FIRST" "[I") (.int 0)) (.int 20)) (by decide +kernel)
    | 1, _ => hs (.eq (.elem (.static "HeatDown" "SPRING_FIRST" "[I") (.int 1)) (.int 800)) (by decide +kernel)
    | 2, _ => hs (.eq (.elem (.static "HeatDown" "SPRING_FIRST" "[I") (.int 2)) (.int 100)) (by decide +kernel)
    | 3, _ => hs (.eq (.elem (.static "HeatDown" "SPRING_FIRST" "[I") (.int 3)) (.int 5)) (by decide +kernel)
    | 4, _ => hs (.eq (.elem (.static "HeatDown" "SPRING_FIRST" "[I") (.int 4)) (.int 80)) (by decide +kernel)
    | n + 5, h => absurd h (by omega)) (hs (.exactly (.static "HeatDown" "SPRING_FIRST" "[I") "[I") (by decide +kernel)) (hts _ (List.mem_of_getElem? (i := 108) (by decide +kernel))) (hts _ (List.mem_of_getElem? (i := 28) (by decide +kernel))) hnm hA
theorem k_st1 {args : Array Value} {s : State} {xs : Nat → Int32} {A : Nat → Prop} {cA : ClassId} (hs : ∀ w ∈ flatC (Jvm.Cond.and given_1 narrow_1), w.before args s = true) (hts : ∀ w ∈ lw_tbl, w.before args s = true) (hnm : s.vm.findClass "[I" = some cA) (hA : ∀ a : Nat, a < s.heap.size → ¬ A a) : ∃ t : Nat, va_T .int t 5 (fun j => .int (rcW xs 1 j)) A s s.heap ∧ va_Z "HeatDown" "SPRING_LOW" "[I" (.ref t) A s s.heap ∧ kCl cA t 5 (rcW xs 1) A s.heap :=
  k_static (by decide) (hs (.arrayOf (.static "HeatDown" "SPRING_LOW" "[I") .int) (by decide +kernel)) (hs (.eq (.length (.static "HeatDown" "SPRING_LOW" "[I")) (.int 5)) (by decide +kernel)) (fun j hj => match j, hj with
    | 0, _ => hs (.eq (.elem (.static "HeatDown" "SPRING_LOW" "[I") (.int 0)) (.int 1)) (by decide +kernel)
    | 1, _ => hs (.eq (.elem (.static "HeatDown" "SPRING_LOW" "[I") (.int 1)) (.int 0)) (by decide +kernel)
    | 2, _ => hs (.eq (.elem (.static "HeatDown" "SPRING_LOW" "[I") (.int 2)) (.int 0)) (by decide +kernel)
    | 3, _ => hs (.eq (.elem (.static "HeatDown" "SPRING_LOW" "[I") (.int 3)) (.int 1)) (by decide +kernel)
    | 4, _ => hs (.eq (.elem (.static "HeatDown" "SPRING_LOW" "[I") (.int 4)) (.int 0)) (by decide +kernel)
    | n + 5, h => absurd h (by omega)) (hs (.exactly (.static "HeatDown" "SPRING_LOW" "[I") "[I") (by decide +kernel)) (hts _ (List.mem_of_getElem? (i := 303) (by decide +kernel))) (hts _ (List.mem_of_getElem? (i := 28) (by decide +kernel))) hnm hA
theorem k_st2 {args : Array Value} {s : State} {xs : Nat → Int32} {A : Nat → Prop} {cA : ClassId} (hs : ∀ w ∈ flatC (Jvm.Cond.and given_1 narrow_1), w.before args s = true) (hts : ∀ w ∈ lw_tbl, w.before args s = true) (hnm : s.vm.findClass "[I" = some cA) (hA : ∀ a : Nat, a < s.heap.size → ¬ A a) : ∃ t : Nat, va_T .int t 5 (fun j => .int (rcW xs 2 j)) A s s.heap ∧ va_Z "HeatDown" "SPRING_HIGH" "[I" (.ref t) A s s.heap ∧ kCl cA t 5 (rcW xs 2) A s.heap :=
  k_static (by decide) (hs (.arrayOf (.static "HeatDown" "SPRING_HIGH" "[I") .int) (by decide +kernel)) (hs (.eq (.length (.static "HeatDown" "SPRING_HIGH" "[I")) (.int 5)) (by decide +kernel)) (fun j hj => match j, hj with
    | 0, _ => hs (.eq (.elem (.static "HeatDown" "SPRING_HIGH" "[I") (.int 0)) (.int 50)) (by decide +kernel)
    | 1, _ => hs (.eq (.elem (.static "HeatDown" "SPRING_HIGH" "[I") (.int 1)) (.int 1000)) (by decide +kernel)
    | 2, _ => hs (.eq (.elem (.static "HeatDown" "SPRING_HIGH" "[I") (.int 2)) (.int 300)) (by decide +kernel)
    | 3, _ => hs (.eq (.elem (.static "HeatDown" "SPRING_HIGH" "[I") (.int 3)) (.int 30)) (by decide +kernel)
    | 4, _ => hs (.eq (.elem (.static "HeatDown" "SPRING_HIGH" "[I") (.int 4)) (.int 300)) (by decide +kernel)
    | n + 5, h => absurd h (by omega)) (hs (.exactly (.static "HeatDown" "SPRING_HIGH" "[I") "[I") (by decide +kernel)) (hts _ (List.mem_of_getElem? (i := 308) (by decide +kernel))) (hts _ (List.mem_of_getElem? (i := 28) (by decide +kernel))) hnm hA
theorem k_st3 {args : Array Value} {s : State} {xs : Nat → Int32} {A : Nat → Prop} {cA : ClassId} (hs : ∀ w ∈ flatC (Jvm.Cond.and given_1 narrow_1), w.before args s = true) (hts : ∀ w ∈ lw_tbl, w.before args s = true) (hnm : s.vm.findClass "[I" = some cA) (hA : ∀ a : Nat, a < s.heap.size → ¬ A a) : ∃ t : Nat, va_T .int t 30 (fun j => .int (rcW xs 3 j)) A s s.heap ∧ va_Z "HeatDown" "KIND_FIRST" "[I" (.ref t) A s s.heap ∧ kCl cA t 30 (rcW xs 3) A s.heap :=
  k_static (by decide) (hs (.arrayOf (.static "HeatDown" "KIND_FIRST" "[I") .int) (by decide +kernel)) (hs (.eq (.length (.static "HeatDown" "KIND_FIRST" "[I")) (.int 30)) (by decide +kernel)) (fun j hj => match j, hj with
    | 0, _ => hs (.eq (.elem (.static "HeatDown" "KIND_FIRST" "[I") (.int 0)) (.int 380)) (by decide +kernel)
    | 1, _ => hs (.eq (.elem (.static "HeatDown" "KIND_FIRST" "[I") (.int 1)) (.int 600)) (by decide +kernel)
    | 2, _ => hs (.eq (.elem (.static "HeatDown" "KIND_FIRST" "[I") (.int 2)) (.int 650)) (by decide +kernel)
    | 3, _ => hs (.eq (.elem (.static "HeatDown" "KIND_FIRST" "[I") (.int 3)) (.int 150)) (by decide +kernel)
    | 4, _ => hs (.eq (.elem (.static "HeatDown" "KIND_FIRST" "[I") (.int 4)) (.int 200)) (by decide +kernel)
    | 5, _ => hs (.eq (.elem (.static "HeatDown" "KIND_FIRST" "[I") (.int 5)) (.int 500)) (by decide +kernel)
    | 6, _ => hs (.eq (.elem (.static "HeatDown" "KIND_FIRST" "[I") (.int 6)) (.int 1000)) (by decide +kernel)
    | 7, _ => hs (.eq (.elem (.static "HeatDown" "KIND_FIRST" "[I") (.int 7)) (.int 1000)) (by decide +kernel)
    | 8, _ => hs (.eq (.elem (.static "HeatDown" "KIND_FIRST" "[I") (.int 8)) (.int 1000)) (by decide +kernel)
    | 9, _ => hs (.eq (.elem (.static "HeatDown" "KIND_FIRST" "[I") (.int 9)) (.int 350)) (by decide +kernel)
    | 10, _ => hs (.eq (.elem (.static "HeatDown" "KIND_FIRST" "[I") (.int 10)) (.int 300)) (by decide +kernel)
    | 11, _ => hs (.eq (.elem (.static "HeatDown" "KIND_FIRST" "[I") (.int 11)) (.int 1000)) (by decide +kernel)
    | 12, _ => hs (.eq (.elem (.static "HeatDown" "KIND_FIRST" "[I") (.int 12)) (.int 600)) (by decide +kernel)
    | 13, _ => hs (.eq (.elem (.static "HeatDown" "KIND_FIRST" "[I") (.int 13)) (.int 1000)) (by decide +kernel)
    | 14, _ => hs (.eq (.elem (.static "HeatDown" "KIND_FIRST" "[I") (.int 14)) (.int 900)) (by decide +kernel)
    | 15, _ => hs (.eq (.elem (.static "HeatDown" "KIND_FIRST" "[I") (.int 15)) (.int 200)) (by decide +kernel)
    | 16, _ => hs (.eq (.elem (.static "HeatDown" "KIND_FIRST" "[I") (.int 16)) (.int 100)) (by decide +kernel)
    | 17, _ => hs (.eq (.elem (.static "HeatDown" "KIND_FIRST" "[I") (.int 17)) (.int 1200)) (by decide +kernel)
    | 18, _ => hs (.eq (.elem (.static "HeatDown" "KIND_FIRST" "[I") (.int 18)) (.int 5)) (by decide +kernel)
    | 19, _ => hs (.eq (.elem (.static "HeatDown" "KIND_FIRST" "[I") (.int 19)) (.int 8)) (by decide +kernel)
    | 20, _ => hs (.eq (.elem (.static "HeatDown" "KIND_FIRST" "[I") (.int 20)) (.int 9)) (by decide +kernel)
    | 21, _ => hs (.eq (.elem (.static "HeatDown" "KIND_FIRST" "[I") (.int 21)) (.int 3)) (by decide +kernel)
    | 22, _ => hs (.eq (.elem (.static "HeatDown" "KIND_FIRST" "[I") (.int 22)) (.int 6)) (by decide +kernel)
    | 23, _ => hs (.eq (.elem (.static "HeatDown" "KIND_FIRST" "[I") (.int 23)) (.int 4)) (by decide +kernel)
    | 24, _ => hs (.eq (.elem (.static "HeatDown" "KIND_FIRST" "[I") (.int 24)) (.int 63)) (by decide +kernel)
    | 25, _ => hs (.eq (.elem (.static "HeatDown" "KIND_FIRST" "[I") (.int 25)) (.int 63)) (by decide +kernel)
    | 26, _ => hs (.eq (.elem (.static "HeatDown" "KIND_FIRST" "[I") (.int 26)) (.int 63)) (by decide +kernel)
    | 27, _ => hs (.eq (.elem (.static "HeatDown" "KIND_FIRST" "[I") (.int 27)) (.int 63)) (by decide +kernel)
    | 28, _ => hs (.eq (.elem (.static "HeatDown" "KIND_FIRST" "[I") (.int 28)) (.int 63)) (by decide +kernel)
    | 29, _ => hs (.eq (.elem (.static "HeatDown" "KIND_FIRST" "[I") (.int 29)) (.int 63)) (by decide +kernel)
    | n + 30, h => absurd h (by omega)) (hs (.exactly (.static "HeatDown" "KIND_FIRST" "[I") "[I") (by decide +kernel)) (hts _ (List.mem_of_getElem? (i := 117) (by decide +kernel))) (hts _ (List.mem_of_getElem? (i := 28) (by decide +kernel))) hnm hA
theorem k_st4 {args : Array Value} {s : State} {xs : Nat → Int32} {A : Nat → Prop} {cA : ClassId} (hs : ∀ w ∈ flatC (Jvm.Cond.and given_1 narrow_1), w.before args s = true) (hts : ∀ w ∈ lw_tbl, w.before args s = true) (hnm : s.vm.findClass "[I" = some cA) (hA : ∀ a : Nat, a < s.heap.size → ¬ A a) : ∃ t : Nat, va_T .int t 5 (fun j => .int (rcW xs 4 j)) A s s.heap ∧ va_Z "HeatDown" "KIND_HIGH" "[I" (.ref t) A s s.heap ∧ kCl cA t 5 (rcW xs 4) A s.heap :=
  k_static (by decide) (hs (.arrayOf (.static "HeatDown" "KIND_HIGH" "[I") .int) (by decide +kernel)) (hs (.eq (.length (.static "HeatDown" "KIND_HIGH" "[I")) (.int 5)) (by decide +kernel)) (fun j hj => match j, hj with
    | 0, _ => hs (.eq (.elem (.static "HeatDown" "KIND_HIGH" "[I") (.int 0)) (.int 1000)) (by decide +kernel)
    | 1, _ => hs (.eq (.elem (.static "HeatDown" "KIND_HIGH" "[I") (.int 1)) (.int 1000)) (by decide +kernel)
    | 2, _ => hs (.eq (.elem (.static "HeatDown" "KIND_HIGH" "[I") (.int 2)) (.int 9999)) (by decide +kernel)
    | 3, _ => hs (.eq (.elem (.static "HeatDown" "KIND_HIGH" "[I") (.int 3)) (.int 99)) (by decide +kernel)
    | 4, _ => hs (.eq (.elem (.static "HeatDown" "KIND_HIGH" "[I") (.int 4)) (.int 63)) (by decide +kernel)
    | n + 5, h => absurd h (by omega)) (hs (.exactly (.static "HeatDown" "KIND_HIGH" "[I") "[I") (by decide +kernel)) (hts _ (List.mem_of_getElem? (i := 321) (by decide +kernel))) (hts _ (List.mem_of_getElem? (i := 28) (by decide +kernel))) hnm hA
theorem k_st5 {args : Array Value} {s : State} {xs : Nat → Int32} {A : Nat → Prop} {cA : ClassId} (hs : ∀ w ∈ flatC (Jvm.Cond.and given_1 narrow_1), w.before args s = true) (hts : ∀ w ∈ lw_tbl, w.before args s = true) (hnm : s.vm.findClass "[I" = some cA) (hA : ∀ a : Nat, a < s.heap.size → ¬ A a) : ∃ t : Nat, va_T .int t 6 (fun j => .int (rcW xs 5 j)) A s s.heap ∧ va_Z "HeatDown" "KIND_SIGNS" "[I" (.ref t) A s s.heap ∧ kCl cA t 6 (rcW xs 5) A s.heap :=
  k_static (by decide) (hs (.arrayOf (.static "HeatDown" "KIND_SIGNS" "[I") .int) (by decide +kernel)) (hs (.eq (.length (.static "HeatDown" "KIND_SIGNS" "[I")) (.int 6)) (by decide +kernel)) (fun j hj => match j, hj with
    | 0, _ => hs (.eq (.elem (.static "HeatDown" "KIND_SIGNS" "[I") (.int 0)) (.int 98)) (by decide +kernel)
    | 1, _ => hs (.eq (.elem (.static "HeatDown" "KIND_SIGNS" "[I") (.int 1)) (.int 100)) (by decide +kernel)
    | 2, _ => hs (.eq (.elem (.static "HeatDown" "KIND_SIGNS" "[I") (.int 2)) (.int 114)) (by decide +kernel)
    | 3, _ => hs (.eq (.elem (.static "HeatDown" "KIND_SIGNS" "[I") (.int 3)) (.int 99)) (by decide +kernel)
    | 4, _ => hs (.eq (.elem (.static "HeatDown" "KIND_SIGNS" "[I") (.int 4)) (.int 104)) (by decide +kernel)
    | 5, _ => hs (.eq (.elem (.static "HeatDown" "KIND_SIGNS" "[I") (.int 5)) (.int 108)) (by decide +kernel)
    | n + 6, h => absurd h (by omega)) (hs (.exactly (.static "HeatDown" "KIND_SIGNS" "[I") "[I") (by decide +kernel)) (hts _ (List.mem_of_getElem? (i := 356) (by decide +kernel))) (hts _ (List.mem_of_getElem? (i := 28) (by decide +kernel))) hnm hA
/-- all that a start gives: the classes' numbers, the two array classes, the statics -/
theorem k_world {s : State} {b L : Nat} {xs : Nat → Int32} (hL : L ≤ 384) (hs : ∀ w ∈ flatC (Jvm.Cond.and given_1 narrow_1), w.before #[Value.ref b] s = true) (hts : ∀ w ∈ lw_tbl, w.before #[Value.ref b] s = true) (hX : va_X b L xs s s.heap) (hbl : b < s.heap.size) :
    ∃ (D : va_G) (cA cB : ClassId) (roAd : Nat → Nat), roAd 6 = b ∧ va_K D vwCl [(cA, .int), (cB, .boolean)] s ∧ kE cA (rcW xs) roAd (roW L) (fun q : Nat => s.heap.size ≤ q) s s.heap := by
  have hg : ∀ w ∈ gT, w.before #[Value.ref b] s = true := fun w hw => hts w (List.mem_filter.mp hw).1
  have hA : ∀ a : Nat, a < s.heap.size → ¬ (fun q : Nat => s.heap.size ≤ q) a := fun a h => Nat.not_le.mpr h
  have hk : ∀ k : Nat, ∃ z : ClassId × (Nat → Nat), ∀ q : vw_C, vwCl[k]? = some q → u_Kn s q.1 q.2.1 q.2.2 z.1 z.2 := by
    intro k
    cases hq : vwCl[k]? with
    | none => exact ⟨(default, fun _ => 0), fun q h => by cases h⟩
    | some q =>
      have h1 := (vwCl_ok q (List.mem_of_getElem? hq)).1
      have hi : ∃ n, Cond.instantiable q.1 n ∈ gT := by
        have hlt : k < 9 := (List.getElem?_eq_some_iff.mp hq).1
        match k, hlt with
        | 0, _ => cases hq; exact ⟨_, kI0⟩
        | 1, _ => cases hq; exact ⟨_, kI1⟩
        | 2, _ => cases hq; exact ⟨_, kI2⟩
        | 3, _ => cases hq; exact ⟨_, kI3⟩
        | 4, _ => cases hq; exact ⟨_, kI4⟩
        | 5, _ => cases hq; exact ⟨_, kI5⟩
        | 6, _ => cases hq; exact ⟨_, kI6⟩
        | 7, _ => cases hq; exact ⟨_, kI7⟩
        | 8, _ => cases hq; exact ⟨_, kI8⟩
        | n + 9, h => exact absurd h (by omega)
      obtain ⟨n, hn⟩ := hi
      obtain ⟨cC, iS, hu⟩ := u_known (C := q.1) (T := q.2.1) (N := q.2.2) (n := n) hg h1 (hg _ hn)
      exact ⟨(cC, iS), fun q' h => by cases h; exact hu⟩
  obtain ⟨g, hgk⟩ : ∃ g : Nat → ClassId × (Nat → Nat), ∀ (k : Nat) (q : vw_C), vwCl[k]? = some q → u_Kn s q.1 q.2.1 q.2.2 (g k).1 (g k).2 := ⟨fun k => Classical.choose (hk k), fun k => Classical.choose_spec (hk k)⟩
  obtain ⟨cA, kA, compA, a1, a2, a3⟩ := Cond.arrayClass_spec (hg _ k_int)
  obtain ⟨cB, kB, compB, b1, b2, b3⟩ := Cond.arrayClass_spec (hg _ k_bool)
  have hK : va_K (fun k => (g k).1, fun k => (g k).2) vwCl [(cA, .int), (cB, .boolean)] s := by
    refine ⟨fun k q hq => hgk k q hq, fun k q hq => ?_⟩
    match k, hq with
    | 0, hq => cases hq; exact ⟨fun n z => ⟨fun k h => (by cases h), kA, a2, compA, a3⟩, a1⟩
    | 1, hq => cases hq; exact ⟨fun n z => ⟨fun k h => (by cases h), kB, b2, compB, b3⟩, b1⟩
    | k + 2, hq => simp at hq
  have hnm : s.vm.findClass "[I" = some cA := va_nm_int (hK.2 0 (cA, .int) rfl).2
  obtain ⟨t0, T0, Z0, C0⟩ := k_st0 (xs := xs) (A := fun q : Nat => s.heap.size ≤ q) hs hts hnm hA
  obtain ⟨t1, T1, Z1, C1⟩ := k_st1 (xs := xs) (A := fun q : Nat => s.heap.size ≤ q) hs hts hnm hA
  obtain ⟨t2, T2, Z2, C2⟩ := k_st2 (xs := xs) (A := fun q : Nat => s.heap.size ≤ q) hs hts hnm hA
  obtain ⟨t3, T3, Z3, C3⟩ := k_st3 (xs := xs) (A := fun q : Nat => s.heap.size ≤ q) hs hts hnm hA
  obtain ⟨t4, T4, Z4, C4⟩ := k_st4 (xs := xs) (A := fun q : Nat => s.heap.size ≤ q) hs hts hnm hA
  obtain ⟨t5, T5, Z5, C5⟩ := k_st5 (xs := xs) (A := fun q : Nat => s.heap.size ≤ q) hs hts hnm hA
  have TX : va_T .int b L (fun j => .int (rcW xs 6 j)) (fun q : Nat => s.heap.size ≤ q) s s.heap := by
    obtain ⟨scr, x1, x2, x3, x4, x5⟩ := hX
    exact ⟨scr, x1, x2, x3, by omega, by rw [x4], x5, hA b hbl⟩
  refine ⟨_, cA, cB, fun i => [t0, t1, t2, t3, t4, t5, b].getD i 0, rfl, hK, ⟨fun i len hi => ?_, fun i q hq => ?_, fun w hw => ?_⟩, ⟨C0, C3⟩, va_Nw.of rfl (hts _ (List.mem_of_getElem? (i := 114) (by decide +kernel)))⟩
  · match i, hi with
    | 0, hi => cases hi; exact T0
    | 1, hi => cases hi; exact T1
    | 2, hi => cases hi; exact T2
    | 3, hi => cases hi; exact T3
    | 4, hi => cases hi; exact T4
    | 5, hi => cases hi; exact T5
    | 6, hi => cases hi; exact TX
    | i + 7, hi => simp [roW] at hi
  · match i, hq with
    | 0, hq => cases hq; exact ⟨rfl, Z0⟩
    | 1, hq => cases hq; exact ⟨rfl, Z1⟩
    | 2, hq => cases hq; exact ⟨rfl, Z2⟩
    | 3, hq => cases hq; exact ⟨rfl, Z3⟩
    | 4, hq => cases hq; exact ⟨rfl, Z4⟩
    | 5, hq => cases hq; exact ⟨rfl, Z5⟩
    | i + 6, hq => simp [mStT] at hq
  · obtain ⟨h1, h2⟩ := List.mem_filter.mp hw
    have h3 := hts w h1
    cases w <;> first | (exact Bool.noConfusion h2) | (exact va_Nw.of rfl h3)
