/-! THE CLASS' SEARCH FOR THE BEST PLAN -/
def wthK (G : LG) (h : Nat) : Int := gK G (18 + kdH G h)
def wanB (G : LG) (hour h : Nat) : Bool := (gK G (24 + kdH G h)).toNat.testBit hour
/-- what m houses from h on could be worth -/
def wbF (G : LG) (hour : Nat) : Nat → Nat → Int
  | 0, _ => 0
  | m + 1, h => if wanB G hour h then wbF G hour m (h + 1) + wthK G h else wbF G hour m (h + 1)
/-- the plans of one set of brooks from house h on, in the order of the search: draws, worth -/
def lvs (G : LG) (L hour : Nat) : Nat → Nat → Int → Int → Nat → Int → List (Nat × Int)
  | 0, _, _, _, D, g => [(D, g)]
  | m + 1, h, F, Q, D, g => if haB G h (aF G L h F) (aQ G L h F Q) then [] else
      (if caB G hour h (aF G L h F) (aQ G L h F Q) then lvs G L hour m (h + 1) (aF G L h F) (aQ G L h F Q - wtK G h) (D + 2 ^ h) (g + wthK G h) else []) ++ lvs G L hour m (h + 1) (aF G L h F) (aQ G L h F Q) D g
/-- a plan is offered: worth, brooks, draws of the best so far -/
def ofr (L : Nat) (s : Int × Int × Nat) (q : Nat × Int) : Int × Int × Nat := if s.1 < q.2 ∨ (q.2 = s.1 ∧ (L : Int) = s.2.1 ∧ q.1 < s.2.2) then (q.2, (L : Int), q.1) else s
theorem lvs_hope {G : LG} {L hour : Nat} : ∀ m h F Q D g q, (∀ i, i < h + m → 0 ≤ wthK G i) → q ∈ lvs G L hour m h F Q D g → q.2 ≤ g + wbF G hour m h
  | 0, h, F, Q, D, g, q, _, hq => by
    simp only [lvs, List.mem_singleton] at hq
    subst hq
    simp [wbF]
  | m + 1, h, F, Q, D, g, q, hw, hq => by
    have hw' : ∀ i, i < h + 1 + m → 0 ≤ wthK G i := fun i hi => hw i (by omega)
    unfold lvs at hq
    split at hq
    · cases hq
    · rcases List.mem_append.mp hq with hq | hq
      · split at hq
        · next hc =>
          have ih := lvs_hope m (h + 1) _ _ _ _ q hw' hq
          have hwn : wanB G hour h = true := by
            unfold caB canB at hc
            simp only [Bool.and_eq_true] at hc
            exact hc.1.1
          unfold wbF
          rw [if_pos hwn]
          omega
        · cases hq
      · have ih := lvs_hope m (h + 1) _ _ _ _ q hw' hq
        have := hw h (by omega)
        unfold wbF
        split <;> omega
theorem ofr_none {L : Nat} {s : Int × Int × Nat} {hope : Int} (hm : ¬ (s.1 < hope ∨ (hope = s.1 ∧ (L : Int) = s.2.1))) : ∀ (ls : List (Nat × Int)), (∀ q ∈ ls, q.2 ≤ hope) → ls.foldl (ofr L) s = s
  | [], _ => rfl
  | q :: ls, h => by
    have h1 := h q List.mem_cons_self
    have e : ofr L s q = s := by
      unfold ofr
      rw [if_neg]
      rintro (c | ⟨c1, c2, c3⟩)
      · exact hm (Or.inl (by omega))
      · by_cases e : hope = s.1
        · exact hm (Or.inr ⟨e, c2⟩)
        · exact hm (Or.inl (by omega))
    rw [List.foldl_cons, e]
    exact ofr_none hm ls (fun q hq => h q (List.mem_cons_of_mem _ hq))
/-- what offering a list of plans comes to -/
theorem ofr_fold {L : Nat} : ∀ (ls : List (Nat × Int)) (s : Int × Int × Nat), (ls.foldl (ofr L) s = s ∧ ∀ q ∈ ls, q.2 ≤ s.1 ∧ (q.2 = s.1 → (L : Int) = s.2.1 → s.2.2 ≤ q.1)) ∨
    (∃ q ∈ ls, ls.foldl (ofr L) s = (q.2, (L : Int), q.1) ∧ (s.1 < q.2 ∨ (q.2 = s.1 ∧ (L : Int) = s.2.1 ∧ q.1 < s.2.2)) ∧ ∀ p ∈ ls, p.2 ≤ q.2 ∧ (p.2 = q.2 → q.1 ≤ p.1))
  | [], s => Or.inl ⟨rfl, fun _ h => absurd h List.not_mem_nil⟩
  | q :: ls, s => by
    rw [List.foldl_cons]
    by_cases hc : s.1 < q.2 ∨ (q.2 = s.1 ∧ (L : Int) = s.2.1 ∧ q.1 < s.2.2)
    · have e : ofr L s q = (q.2, (L : Int), q.1) := by unfold ofr; rw [if_pos hc]
      rw [e]
      right
      rcases ofr_fold ls (q.2, (L : Int), q.1) with ⟨h1, h2⟩ | ⟨p, hp, h1, h2, h3⟩
      · refine ⟨q, List.mem_cons_self, h1, hc, fun p hp => ?_⟩
        rcases List.mem_cons.mp hp with rfl | hp
        · exact ⟨Int.le_refl _, fun _ => Nat.le_refl _⟩
        · exact ⟨(h2 p hp).1, fun c => (h2 p hp).2 c rfl⟩
      · dsimp only at h2
        refine ⟨p, List.mem_cons_of_mem _ hp, h1, ?_, fun r hr => ?_⟩
        · rcases hc with c | ⟨c1, c2, c3⟩
          · exact Or.inl (by omega)
          · rcases h2 with g | ⟨g1, g2, g3⟩
            · exact Or.inl (by omega)
            · exact Or.inr ⟨by omega, c2, by omega⟩
        · rcases List.mem_cons.mp hr with rfl | hr
          · exact ⟨by omega, fun c => by omega⟩
          · exact h3 r hr
    · have e : ofr L s q = s := by unfold ofr; rw [if_neg hc]
      rw [e]
      rcases ofr_fold ls s with ⟨h1, h2⟩ | ⟨p, hp, h1, h2, h3⟩
      · refine Or.inl ⟨h1, fun r hr => ?_⟩
        rcases List.mem_cons.mp hr with rfl | hr
        · refine ⟨Int.not_lt.mp fun c => hc (Or.inl c), fun c1 c2 => Nat.not_lt.mp fun c3 => hc (Or.inr ⟨c1, c2, c3⟩)⟩
        · exact h2 r hr
      · refine Or.inr ⟨p, List.mem_cons_of_mem _ hp, h1, h2, fun r hr => ?_⟩
        rcases List.mem_cons.mp hr with rfl | hr
        · have a : r.2 ≤ s.1 := Int.not_lt.mp fun c => hc (Or.inl c)
          refine ⟨by omega, fun c => ?_⟩
          rcases h2 with g | ⟨g1, g2, g3⟩
          · omega
          · have : ¬ r.1 < s.2.2 := fun c3 => hc (Or.inr ⟨by omega, g2, c3⟩)
            omega
        · exact h3 r hr
/-- from house h on, D harms nobody, and serves just who draws -/
def okH (G : LG) (L D hour : Nat) (w : Int) (n h : Nat) : Prop := ∀ i, h ≤ i → i < n → isH G L D hour w i = false ∧ isS G L D hour w i = D.testBit i
theorem okH_P {G : LG} {L D hour n : Nat} {w : Int} (hD : D < 2 ^ n) : okH G L D hour w n 0 ↔ okP G n hour w L D := by
  constructor
  · intro h
    refine ⟨Nat.eq_of_testBit_eq fun i => ?_, Nat.eq_of_testBit_eq fun i => ?_⟩
    · rw [hmN_bit]
      by_cases hi : i < n
      · rw [(h i (Nat.zero_le _) hi).1]; simp
      · simp [hi]
    · rw [svN_bit]
      by_cases hi : i < n
      · rw [(h i (Nat.zero_le _) hi).2]; simp [hi]
      · have : D.testBit i = false := Nat.testBit_lt_two_pow (Nat.lt_of_lt_of_le hD (Nat.pow_le_pow_right (by decide) (Nat.not_lt.mp hi)))
        simp [hi, this]
  · rintro ⟨h1, h2⟩ i - hi
    have a := hmN_bit G L D hour w n i
    have c := svN_bit G L D hour w n i
    rw [h1] at a
    rw [h2] at c
    simp [hi] at a c
    exact ⟨a, c.symm⟩
/-- worth of the bits of D from h on, m houses -/
def gnF (G : LG) (D : Nat) : Nat → Nat → Int
  | 0, _ => 0
  | m + 1, h => if D.testBit h then wthK G h + gnF G D m (h + 1) else gnF G D m (h + 1)
theorem gnF_succ (G : LG) (D : Nat) : ∀ m h, gnF G D (m + 1) h = gnF G D m h + (if D.testBit (h + m) then wthK G (h + m) else 0)
  | 0, h => by simp [gnF]
  | m + 1, h => by
    have ih := gnF_succ G D m (h + 1)
    have e : h + 1 + m = h + (m + 1) := by omega
    rw [e] at ih
    rw [gnF, ih, gnF]
    split <;> omega
theorem gnF_wt (G : LG) (D : Nat) : ∀ n, gnF G D n 0 = wtS G D n
  | 0 => rfl
  | n + 1 => by
    rw [gnF_succ, gnF_wt G D n, Nat.zero_add, wtS]
    cases D.testBit n <;> simp [wthK]
/-- X goes from house h on, m houses: nobody is harmed, and who draws can be served -/
def okR (G : LG) (L hour X : Nat) : Nat → Nat → Int → Int → Prop
  | 0, _, _, _ => True
  | m + 1, h, F, Q => haB G h (aF G L h F) (aQ G L h F Q) = false ∧ (if X.testBit h then caB G hour h (aF G L h F) (aQ G L h F Q) = true ∧ okR G L hour X m (h + 1) (aF G L h F) (aQ G L h F Q - wtK G h) else okR G L hour X m (h + 1) (aF G L h F) (aQ G L h F Q))
theorem okR_H {G : LG} {L hour X n : Nat} {w : Int} : ∀ m h, n = h + m → (okR G L hour X m h (fl G L X hour w h).1 (fl G L X hour w h).2 ↔ okH G L X hour w n h)
  | 0, h, hn => ⟨fun _ i h1 h2 => by omega, fun _ => trivial⟩
  | m + 1, h, hn => by
    have ih := okR_H (G := G) (L := L) (hour := hour) (X := X) (w := w) m (h + 1) (show n = h + 1 + m by omega)
    rw [fl_succ] at ih
    have split : okH G L X hour w n h ↔ (isH G L X hour w h = false ∧ isS G L X hour w h = X.testBit h) ∧ okH G L X hour w n (h + 1) := by
      constructor
      · exact fun q => ⟨q h (Nat.le_refl _) (by omega), fun i h1 h2 => q i (by omega) h2⟩
      · rintro ⟨q1, q2⟩ i h1 h2
        by_cases e : i = h
        · subst e; exact q1
        · exact q2 i (by omega) h2
    rw [split, ← ih]
    show (haB G h (arF G L X hour w h) (arQ G L X hour w h) = false ∧ _) ↔ _
    have e1 : isH G L X hour w h = haB G h (arF G L X hour w h) (arQ G L X hour w h) := rfl
    have e2 : isS G L X hour w h = (X.testBit h && !haB G h (arF G L X hour w h) (arQ G L X hour w h) && caB G hour h (arF G L X hour w h) (arQ G L X hour w h)) := rfl
    rw [e1]
    cases hx : X.testBit h
    · have e3 : isS G L X hour w h = false := by rw [e2, hx]; rfl
      rw [e3]
      simp only [Bool.false_eq_true, if_false, and_true]
      exact Iff.rfl
    · cases ha : haB G h (arF G L X hour w h) (arQ G L X hour w h)
      · have e3 : isS G L X hour w h = caB G hour h (arF G L X hour w h) (arQ G L X hour w h) := by rw [e2, hx, ha]; rfl
        rw [e3]
        cases hc : caB G hour h (arF G L X hour w h) (arQ G L X hour w h)
        · have hc' : caB G hour h (aF G L h (fl G L X hour w h).1) (aQ G L h (fl G L X hour w h).1 (fl G L X hour w h).2) = false := hc
          simp [hc']
        · have hc' : caB G hour h (aF G L h (fl G L X hour w h).1) (aQ G L h (fl G L X hour w h).1 (fl G L X hour w h).2) = true := hc
          simp only [hc', if_true, true_and, and_true]
          exact Iff.rfl
      · simp
theorem mod_bit (X h : Nat) : X % 2 ^ (h + 1) = X % 2 ^ h + (if X.testBit h then 2 ^ h else 0) := by
  rw [Nat.mod_pow_succ, Nat.testBit_eq_decide_div_mod_eq]
  have : X / 2 ^ h % 2 < 2 := Nat.mod_lt _ (by decide)
  rcases (by omega : X / 2 ^ h % 2 = 0 ∨ X / 2 ^ h % 2 = 1) with e | e <;> simp [e]
theorem lvs_mem {G : LG} {L hour : Nat} : ∀ m h F Q D g X g', D < 2 ^ h → ((X, g') ∈ lvs G L hour m h F Q D g ↔ X < 2 ^ (h + m) ∧ X % 2 ^ h = D ∧ okR G L hour X m h F Q ∧ g' = g + gnF G X m h)
  | 0, h, F, Q, D, g, X, g', hD => by
    simp only [lvs, List.mem_singleton, Prod.mk.injEq, okR, gnF, Nat.add_zero, Int.add_zero, true_and]
    constructor
    · rintro ⟨rfl, rfl⟩
      exact ⟨hD, Nat.mod_eq_of_lt hD, rfl⟩
    · rintro ⟨h1, h2, h3⟩
      rw [Nat.mod_eq_of_lt h1] at h2
      exact ⟨h2, h3⟩
  | m + 1, h, F, Q, D, g, X, g', hD => by
    have i1 := lvs_mem (G := G) (L := L) (hour := hour) m (h + 1) (aF G L h F) (aQ G L h F Q - wtK G h) (D + 2 ^ h) (g + wthK G h) X g' (by omega)
    have i2 := lvs_mem (G := G) (L := L) (hour := hour) m (h + 1) (aF G L h F) (aQ G L h F Q) D g X g' (by omega)
    have e : h + 1 + m = h + (m + 1) := by omega
    have hm := mod_bit X h
    rw [e] at i1 i2
    unfold lvs okR gnF
    cases ha : haB G h (aF G L h F) (aQ G L h F Q)
    · simp only [Bool.false_eq_true, if_false, List.mem_append, true_and]
      cases hx : X.testBit h
      · rw [hx] at hm
        simp only [Bool.false_eq_true, if_false, Nat.add_zero] at hm
        simp only [Bool.false_eq_true, if_false]
        rw [i2, hm]
        constructor
        · rintro (q | q)
          · split at q
            · rw [i1, hm] at q
              have := Nat.mod_lt X (show 2 ^ h > 0 from Nat.pow_pos (by decide))
              omega
            · cases q
          · exact q
        · exact fun q => Or.inr q
      · rw [hx] at hm
        simp only [if_true] at hm
        simp only [if_true]
        constructor
        · rintro (q | q)
          · split at q
            · next hc =>
              rw [i1, hm] at q
              exact ⟨q.1, by omega, ⟨hc, q.2.2.1⟩, by omega⟩
            · cases q
          · rw [i2, hm] at q
            omega
        · rintro ⟨q1, q2, ⟨q3, q4⟩, q5⟩
          left
          rw [if_pos q3, i1, hm]
          exact ⟨q1, by omega, q4, by omega⟩
    · simp
/-- all plans of a set of brooks -/
theorem lvs_P {G : LG} {L hour n : Nat} {w : Int} {X : Nat} {g : Int} : (X, g) ∈ lvs G L hour n 0 (gS G 0) (gS G 0 * w) 0 0 ↔ X < 2 ^ n ∧ okP G n hour w L X ∧ g = wtS G X n := by
  rw [lvs_mem n 0 _ _ 0 0 X g (by decide), Nat.zero_add, gnF_wt, Int.zero_add]
  have e : okR G L hour X n 0 (gS G 0) (gS G 0 * w) ↔ okH G L X hour w n 0 := okR_H n 0 (by omega)
  rw [e]
  constructor
  · rintro ⟨h1, -, h3, h4⟩
    exact ⟨h1, (okH_P h1).mp h3, h4⟩
  · rintro ⟨h1, h3, h4⟩
    exact ⟨h1, Nat.mod_one _, (okH_P h1).mpr h3, h4⟩
