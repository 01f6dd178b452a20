theorem eqL_eq : ∀ a b, eqL a b = true → a = b
  | [], [], _ => rfl
  | [], _ :: _, h => by simp [eqL] at h
  | _ :: _, [], h => by simp [eqL] at h
  | a :: x, b :: y, h => by
    rw [eqL, Bool.and_eq_true] at h
    rw [Nat.eq_of_beq_eq_true h.1, eqL_eq x y h.2]
theorem chn_all {n : Nat} (h1 : 1 ≤ n) (h7 : n ≤ 7) : chA n (lxP n n 0) = true := by
  rcases (by omega : n = 1 ∨ n = 2 ∨ n = 3 ∨ n = 4 ∨ n = 5 ∨ n = 6 ∨ n = 7) with rfl | rfl | rfl | rfl | rfl | rfl | rfl
  · exact ch1
  · exact ch2
  · exact ch3
  · exact ch4
  · exact ch5
  · exact ch6
  · exact ch7
theorem chn_nil {n : Nat} {a : List Nat} (h : chn n a [] = true) : nxtL n a = none := by
  rw [chn] at h
  cases e : nxtL n a with
  | none => rfl
  | some x => rw [e] at h; cases h
theorem chn_cons {n : Nat} {a b : List Nat} {r : List (List Nat)} (h : chn n a (b :: r) = true) : nxtL n a = some b ∧ chn n b r = true := by
  rw [chn, Bool.and_eq_true] at h
  refine ⟨?_, h.2⟩
  have h1 := h.1
  unfold isN at h1
  cases e : nxtL n a with
  | none => rw [e] at h1; cases h1
  | some x => rw [e] at h1; rw [eqL_eq x b h1]
theorem chA_cons {n : Nat} {ps : List (List Nat)} (h : chA n ps = true) : ∃ r, ps = List.range n :: r ∧ chn n (List.range n) r = true := by
  unfold chA at h
  cases ps with
  | nil => cases h
  | cons a r =>
    dsimp only at h
    rw [Bool.and_eq_true] at h
    have := eqL_eq _ _ h.1
    subst this
    exact ⟨r, rfl, h.2⟩
/-- what a list of lxP is -/
theorem lxP_mem {n : Nat} : ∀ m pl l, l ∈ lxP n m pl → l.length = m ∧ ∀ x ∈ l, x < n
  | 0, pl, l, h => by
    rw [lxP, List.mem_singleton] at h
    subst h
    exact ⟨rfl, fun x hx => absurd hx List.not_mem_nil⟩
  | m + 1, pl, l, h => by
    rw [lxP, List.mem_flatMap] at h
    obtain ⟨q, h1, h2⟩ := h
    rw [List.mem_range] at h1
    split at h2
    · cases h2
    · rw [List.mem_map] at h2
      obtain ⟨l', h3, rfl⟩ := h2
      have ih := lxP_mem m _ l' h3
      refine ⟨by rw [List.length_cons, ih.1], fun x hx => ?_⟩
      rcases List.mem_cons.mp hx with rfl | hx
      · exact h1
      · exact ih.2 x hx
/-! an order's worth -/
/-- from a place on: somebody is harmed, or what is gained -/
def evL (G : LG) (hour : Nat) : Nat → Int → Int → List Nat → Option Int
  | _, _, g, [] => some g
  | pl, q, g, h :: r => if harmB (gK G) (kdH G h) (gS G 0) (pipeQ (gS G 2) (loH G pl) (gS G 0) q) then none else
      if canB (gS G) (gK G) hour (kdH G h) (gS G 0) (pipeQ (gS G 2) (loH G pl) (gS G 0) q) then evL G hour (pl + 1) (pipeQ (gS G 2) (loH G pl) (gS G 0) q - wtK G h) (g + wthK G h) r else evL G hour (pl + 1) (pipeQ (gS G 2) (loH G pl) (gS G 0) q) g r
/-- the best so far, one more order tried -/
def orU (G : LG) (hour pl : Nat) (q g : Int) (pre : List Nat) (s : Int × List Nat) (l : List Nat) : Int × List Nat := match evL G hour pl q g l with | none => s | some w => if s.1 < w then (w, pre ++ l) else s
def orF (G : LG) (hour pl : Nat) (q g : Int) (pre : List Nat) (s : Int × List Nat) (ls : List (List Nat)) : Int × List Nat := ls.foldl (orU G hour pl q g pre) s
/-- worth of the houses that are not yet placed -/
def wlF (G : LG) (hour placed : Nat) : Nat → Int
  | 0 => 0
  | n + 1 => if placed.testBit n then wlF G hour placed n else if wanB G hour n then wlF G hour placed n + wthK G n else wlF G hour placed n
theorem wlF_bd {G : LG} {hour placed n b : Nat} (hR : Rng (gS G) (gK G)) (hLR : LR G n b) : ∀ m, m ≤ n → 0 ≤ wlF G hour placed m ∧ wlF G hour placed m ≤ 99 * (m : Int)
  | 0, _ => by simp [wlF]
  | m + 1, hm => by
    have ih := wlF_bd (hour := hour) (placed := placed) hR hLR m (by omega)
    have := wthK_bd hR hLR (show m < n by omega)
    rw [wlF]
    repeat' split
    all_goals omega
theorem wlF_put {G : LG} {hour placed h : Nat} (hb : placed.testBit h = false) : ∀ n, wlF G hour (placed ||| 2 ^ h) n = wlF G hour placed n - (if h < n then (if wanB G hour h then wthK G h else 0) else 0)
  | 0 => by simp [wlF]
  | n + 1 => by
    have ih := wlF_put (G := G) (hour := hour) hb n
    rw [wlF, wlF, Nat.testBit_or, Nat.testBit_two_pow]
    by_cases e : h = n
    · subst e
      simp only [decide_true, Bool.or_true, if_true, hb, Bool.false_eq_true, if_false]
      rw [if_neg (Nat.lt_irrefl h)] at ih
      rw [ih, show (if h < h + 1 then (if wanB G hour h = true then wthK G h else 0) else 0) = (if wanB G hour h = true then wthK G h else 0) from if_pos (Nat.lt_succ_self h)]
      split <;> omega
    · have e2 : decide (h = n) = false := by simp [e]
      rw [e2, Bool.or_false]
      have e3 : (h < n + 1) ↔ (h < n) := by omega
      simp only [e3]
      rw [ih]
      split
      · rfl
      · split <;> omega

theorem bnF_put {placed h : Nat} (hb : placed.testBit h = false) : ∀ n, bnF (placed ||| 2 ^ h) n = bnF placed n + (if h < n then 1 else 0)
  | 0 => by simp [bnF]
  | n + 1 => by
    have ih := bnF_put hb n
    rw [bnF, bnF, Nat.testBit_or, Nat.testBit_two_pow]
    by_cases e : h = n
    · subst e
      simp only [decide_true, Bool.or_true, if_true, hb, Bool.false_eq_true, if_false]
      rw [if_neg (Nat.lt_irrefl h)] at ih
      rw [ih, if_pos (Nat.lt_succ_self h)]
    · have e2 : decide (h = n) = false := by simp [e]
      rw [e2, Bool.or_false]
      have e3 : (h < n + 1) ↔ (h < n) := by omega
      simp only [e3]
      rw [ih]
      split
      · omega
      · rfl
theorem bnF_full {placed : Nat} : ∀ n, bnF placed n = n → ∀ i, i < n → placed.testBit i = true
  | 0, _, i, hi => absurd hi (Nat.not_lt_zero i)
  | n + 1, h, i, hi => by
    have b := bnF_le placed n
    rw [bnF] at h
    cases e : placed.testBit n
    · rw [e] at h
      simp only [Bool.false_eq_true, if_false] at h
      omega
    · rw [e] at h
      simp only [if_true] at h
      by_cases c : i = n
      · rw [c]; exact e
      · exact bnF_full n (by omega) i (by omega)
theorem wlF_full {G : LG} {hour placed n : Nat} (h : ∀ i, i < n → placed.testBit i = true) : ∀ m, m ≤ n → wlF G hour placed m = 0
  | 0, _ => rfl
  | m + 1, hm => by rw [wlF, if_pos (h m (by omega))]; exact wlF_full h m (by omega)
theorem can_wan {G : LG} {hour h : Nat} {F Q : Int} (hc : canB (gS G) (gK G) hour (kdH G h) F Q = true) : wanB G hour h = true := by
  unfold canB at hc
  simp only [Bool.and_eq_true] at hc
  exact hc.1.1
/-- no order of a subtree is worth more than hoped -/
theorem evL_hope {G : LG} {hour n b : Nat} (hR : Rng (gS G) (gK G)) (hLR : LR G n b) : ∀ m placed l pl q g w, l ∈ lxP n m placed → evL G hour pl q g l = some w → w ≤ g + wlF G hour placed n
  | 0, placed, l, pl, q, g, w, hl, he => by
    rw [lxP, List.mem_singleton] at hl
    subst hl
    rw [evL] at he
    cases he
    have := wlF_bd (hour := hour) (placed := placed) hR hLR n (Nat.le_refl n)
    omega
  | m + 1, placed, l, pl, q, g, w, hl, he => by
    rw [lxP, List.mem_flatMap] at hl
    obtain ⟨h, h1, h2⟩ := hl
    rw [List.mem_range] at h1
    split at h2
    · cases h2
    · next hb =>
      have hb : placed.testBit h = false := by simpa using hb
      rw [List.mem_map] at h2
      obtain ⟨l', h3, rfl⟩ := h2
      have wp := wlF_put (G := G) (hour := hour) hb n
      rw [if_pos h1] at wp
      have hw := wthK_bd hR hLR h1
      rw [evL] at he
      split at he
      · cases he
      · split at he
        · next hc =>
          have ih := evL_hope hR hLR m _ l' _ _ _ w h3 he
          rw [if_pos (can_wan hc)] at wp
          omega
        · have ih := evL_hope hR hLR m _ l' _ _ _ w h3 he
          split at wp <;> omega
theorem orF_none {G : LG} {hour n b pl m placed : Nat} {q g : Int} {pre : List Nat} {s : Int × List Nat} (hR : Rng (gS G) (gK G)) (hLR : LR G n b) (hs : g + wlF G hour placed n ≤ s.1) : orF G hour pl q g pre s (lxP n m placed) = s := by
  have : ∀ ls, (∀ l ∈ ls, l ∈ lxP n m placed) → orF G hour pl q g pre s ls = s := by
    intro ls
    induction ls with
    | nil => exact fun _ => rfl
    | cons l ls ih =>
      intro h
      have e : orU G hour pl q g pre s l = s := by
        unfold orU
        cases ev : evL G hour pl q g l with
        | none => rfl
        | some w =>
          have := evL_hope hR hLR m placed l pl q g w (h l List.mem_cons_self) ev
          dsimp only
          rw [if_neg (by omega)]
      show ls.foldl _ (orU G hour pl q g pre s l) = s
      rw [e]
      exact ih (fun l' hl' => h l' (List.mem_cons_of_mem _ hl'))
  exact this _ (fun l hl => hl)
theorem orF_app {G : LG} {hour pl : Nat} {q g : Int} {pre : List Nat} {s : Int × List Nat} {a b : List (List Nat)} : orF G hour pl q g pre s (a ++ b) = orF G hour pl q g pre (orF G hour pl q g pre s a) b := List.foldl_append
/-- one house placed -/
theorem orF_put {G : LG} {hour pl h : Nat} {q g : Int} {pre : List Nat} : ∀ (ls : List (List Nat)) (s : Int × List Nat), orF G hour pl q g pre s (ls.map (fun l => h :: l)) = if harmB (gK G) (kdH G h) (gS G 0) (pipeQ (gS G 2) (loH G pl) (gS G 0) q) then s else
      if canB (gS G) (gK G) hour (kdH G h) (gS G 0) (pipeQ (gS G 2) (loH G pl) (gS G 0) q) then orF G hour (pl + 1) (pipeQ (gS G 2) (loH G pl) (gS G 0) q - wtK G h) (g + wthK G h) (pre ++ [h]) s ls else orF G hour (pl + 1) (pipeQ (gS G 2) (loH G pl) (gS G 0) q) g (pre ++ [h]) s ls
  | [], s => by
    show s = _
    repeat' split
    all_goals rfl
  | l :: ls, s => by
    have e : orU G hour pl q g pre s (h :: l) = if harmB (gK G) (kdH G h) (gS G 0) (pipeQ (gS G 2) (loH G pl) (gS G 0) q) then s else
      if canB (gS G) (gK G) hour (kdH G h) (gS G 0) (pipeQ (gS G 2) (loH G pl) (gS G 0) q) then orU G hour (pl + 1) (pipeQ (gS G 2) (loH G pl) (gS G 0) q - wtK G h) (g + wthK G h) (pre ++ [h]) s l else orU G hour (pl + 1) (pipeQ (gS G 2) (loH G pl) (gS G 0) q) g (pre ++ [h]) s l := by
      unfold orU
      rw [evL, List.append_assoc, List.singleton_append]
      generalize harmB (gK G) (kdH G h) (gS G 0) (pipeQ (gS G 2) (loH G pl) (gS G 0) q) = A
      generalize canB (gS G) (gK G) hour (kdH G h) (gS G 0) (pipeQ (gS G 2) (loH G pl) (gS G 0) q) = B
      cases A <;> cases B <;> rfl
    have ih := orF_put (G := G) (hour := hour) (pl := pl) (h := h) (q := q) (g := g) (pre := pre) ls (orU G hour pl q g pre s (h :: l))
    rw [List.map_cons]
    show orF G hour pl q g pre (orU G hour pl q g pre s (h :: l)) (ls.map _) = _
    rw [ih, e]
    split
    · rfl
    · split <;> rfl
