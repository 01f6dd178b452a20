/-! THE PAD: a lane -/
def sgK (j : Nat) : Nat := ([98, 100, 114, 99, 104, 108] : List Nat).getD j 0
def kSf (s : Nat) : Nat → Nat → Nat
  | 0, _ => 9
  | m + 1, j => if sgK j = s then j else kSf s m (j + 1)
/-- the kind of a sign (9: none) -/
def kS (s : Nat) : Nat := kSf s 6 0
def ksI (s : Nat) : Int32 := if kS s < 6 then nI (kS s) else -6
theorem kS_eq {s : Nat} : kS s = if s = 98 then 0 else if s = 100 then 1 else if s = 114 then 2 else if s = 99 then 3 else if s = 104 then 4 else if s = 108 then 5 else 9 := by
  unfold kS kSf kSf kSf kSf kSf kSf kSf sgK
  simp only [eq_comm (b := s)]
  rfl
theorem kS_le (s : Nat) : kS s < 6 ∨ kS s = 9 := by
  rw [kS_eq]
  repeat' split
  all_goals first | (left; decide) | (right; rfl)
theorem sp_kindBySign {d : Nat} {k : mQ} {M : mM} {s : Nat} (hR : ROK M) (hs : s < 2147483648) (h : k (mI (ksI s)) M) : wpD mB mNL (d + 2) zX4_kindBySign [mI (nI s)] M k := by
  have key : ∀ m j, j + m = 6 → kSf s m j = kS s → jJ kB_X4_kindBySign (d + 1) k 1 [mI (nI s), mI (nI j)] [] M := by
    intro m
    induction m with
    | zero =>
      intro j hj e
      refine v_X4_kindBySign_1 _ _ (ifle (a := 6) (b := j) (by decide) (by omega) (fun _ => ?_) (fun c => by omega))
      unfold ksI at h
      rw [← e] at h
      exact h
    | succ m ih =>
      intro j hj e
      refine v_X4_kindBySign_1 _ _ (ifle (a := 6) (b := j) (by decide) (by omega) (fun c => by omega) (fun _ => sp_cell_ro (by omega) (by decide) ?_))
      have e1 : M (1000 + 5) j = nI (sgK j) := by
        rw [hR.2.2.2 j (by omega)]
        have : ∀ j, j < 6 → ([98, 100, 114, 99, 104, 108] : List Int32).getD j 0 = nI (sgK j) := by decide
        exact this j (by omega)
      have e2 : sgK j < 200 := by
        have : ∀ j, j < 6 → sgK j < 200 := by decide
        exact this j (by omega)
      show (_ ∧ _)
      rw [e1, nI_eq (by omega) hs, nI_1]
      unfold kSf at e
      refine ⟨fun c => ih (j + 1) (by omega) (by rw [if_neg c] at e; exact e), fun c => ?_⟩
      rw [if_pos c] at e
      unfold ksI at h
      rw [← e, if_pos (by omega)] at h
      exact h
  exact v_X4_kindBySign_0 _ (key 6 0 (by decide) rfl)
theorem sp_kindOfM {d : Nat} {k : mQ} {M : mM} {s : Nat} (hs : s < 2147483648) (h : k (mI (ksI s)) M) : wpD mB mNL (d + 1) zX8_kindOf [mI (nI s)] M k := by
  have no : (s ≠ 98 ∧ s ≠ 100 ∧ s ≠ 114 ∧ s ≠ 99 ∧ s ≠ 104 ∧ s ≠ 108) → k (mI (-6)) M := fun ⟨h1, h2, h3, h4, h5, h6⟩ => by
    unfold ksI at h
    rw [kS_eq, if_neg h1, if_neg h2, if_neg h3, if_neg h4, if_neg h5, if_neg h6, if_neg (by decide)] at h
    exact h
  refine v_X8_kindOf_0 _ ?_
  rw [nI_ti hs]
  refine ⟨fun c => no (by omega), fun c => ?_, fun c => ?_, fun c => ?_, fun c => no (by omega), fun c => no (by omega), fun c => no (by omega), fun c => ?_, fun c => no (by omega), fun c => no (by omega), fun c => no (by omega), fun c => ?_, fun c => no (by omega), fun c => no (by omega), fun c => no (by omega), fun c => no (by omega), fun c => no (by omega), fun c => ?_, trivial⟩
  · rw [show s = 98 by omega] at h; exact h
  · rw [show s = 99 by omega] at h; exact h
  · rw [show s = 100 by omega] at h; exact h
  · rw [show s = 104 by omega] at h; exact h
  · rw [show s = 108 by omega] at h; exact h
  · rw [show s = 114 by omega] at h; exact h
/-- houses, brooks, the loss and the brook said ahead of the next, kinds, losses, brooks ahead -/
abbrev LnS : Type := Nat × Nat × Nat × Bool × (Nat → Nat) × (Nat → Int) × (Nat → Int)
def lnSt (a : LnS) (s : Nat) : Option LnS :=
  if 8 ≤ a.1 then none else
  if kS s < 6 then some (a.1 + 1, (if a.2.2.2.1 then a.2.1 + 1 else a.2.1), 0, false, (fun h => if h = a.1 then kS s else a.2.2.2.2.1 h), (fun h => if h = a.1 then (a.2.2.1 : Int) else a.2.2.2.2.2.1 h), fun h => if h = a.1 then (if a.2.2.2.1 then (a.2.1 : Int) else -6) else a.2.2.2.2.2.2 h) else
  if 49 ≤ s ∧ s ≤ 57 ∧ a.2.2.1 = 0 ∧ a.2.2.2.1 = false then some (a.1, a.2.1, s - 48, false, a.2.2.2.2) else
  if s = 42 ∧ a.2.2.2.1 = false ∧ a.2.1 < 4 then some (a.1, a.2.1, a.2.2.1, true, a.2.2.2.2) else none
def runL (p : Nat → Nat) : Nat → Nat → LnS → Int × LnS
  | 0, i, a => (if a.1 = 0 ∨ 0 < a.2.2.1 ∨ a.2.2.2.1 = true then (i : Int) else -6, a)
  | m + 1, i, a => match lnSt a (p i) with | none => ((i : Int), a) | some a' => runL p m (i + 1) a'
theorem runL_n {p : Nat → Nat} {m i : Nat} {a : LnS} (h : lnSt a (p i) = none) : runL p (m + 1) i a = ((i : Int), a) := by
  rw [runL, h]
theorem runL_s {p : Nat → Nat} {m i : Nat} {a a' : LnS} (h : lnSt a (p i) = some a') : runL p (m + 1) i a = runL p m (i + 1) a' := by
  rw [runL, h]
def LnSk (a : LnS) : Prop := a.1 ≤ 8 ∧ (a.2.1 + (if a.2.2.2.1 then 1 else 0) ≤ 4) ∧ a.2.2.1 ≤ 9 ∧ ∀ h, h < a.1 → a.2.2.2.2.1 h < 6 ∧ (0 ≤ a.2.2.2.2.2.1 h ∧ a.2.2.2.2.2.1 h ≤ 9) ∧ (a.2.2.2.2.2.2 h = -6 ∨ (0 ≤ a.2.2.2.2.2.2 h ∧ a.2.2.2.2.2.2 h < a.2.1))
theorem lnSt_ok {a a' : LnS} {s : Nat} (h : LnSk a) (e : lnSt a s = some a') : LnSk a' := by
  obtain ⟨m, b, l, g, kd, lo, br⟩ := a
  obtain ⟨h1, h2, h3, h4⟩ := h
  unfold lnSt at e
  dsimp only at h1 h2 h3 h4 e
  split at e
  · cases e
  · split at e
    · next c1 c2 =>
      cases e
      refine ⟨by dsimp only; omega, ?_, Nat.zero_le 9, fun h hh => ?_⟩
      · dsimp only
        cases g <;> simp_all
      · dsimp only at hh ⊢
        by_cases c : h = m
        · subst c
          simp only [if_true]
          refine ⟨c2, ⟨by omega, by omega⟩, ?_⟩
          cases g
          · left; rfl
          · right; simp only [if_true]; omega
        · have := h4 h (by omega)
          simp only [c, if_false]
          refine ⟨this.1, this.2.1, ?_⟩
          rcases this.2.2 with q | q
          · exact Or.inl q
          · right
            refine ⟨q.1, ?_⟩
            split <;> omega
    · split at e
      · next c1 c2 c3 =>
        cases e
        refine ⟨h1, ?_, by dsimp only; omega, h4⟩
        rw [c3.2.2.2] at h2
        exact h2
      · split at e
        · next c4 =>
          cases e
          exact ⟨h1, by show b + 1 ≤ 4; omega, h3, h4⟩
        · cases e
theorem runL_ok {p : Nat → Nat} : ∀ m i a, LnSk a → LnSk (runL p m i a).2
  | 0, _, _, h => h
  | m + 1, i, a, h => by
    cases e : lnSt a (p i) with
    | none => rw [runL_n e]; exact h
    | some a' => rw [runL_s e]; exact runL_ok m (i + 1) a' (lnSt_ok h e)
/-- row o of memory holds the lane read so far -/
def LaC (a : LnS) (M : mM) (o : Nat) : Prop := M o 0 = nI a.1 ∧ M o 1 = nI a.2.1 ∧ ∀ h, h < a.1 → M (o + 1) h = nI (a.2.2.2.2.1 h) ∧ M (o + 2) h = zi (a.2.2.2.2.2.1 h) ∧ M (o + 3) h = zi (a.2.2.2.2.2.2 h)
theorem sp_addHouse {d : Nat} {k : mQ} {M : mM} {o s : Nat} {a : LnS} (hL : LaC a M o) (h8 : a.1 < 8) (hk : kS s < 6)
    (h : ∀ M' a', lnSt a s = some a' → (∀ k j, k < o ∨ o + 3 < k → M' k j = M k j) → LaC a' M' o → k none M') : wpD mB mNL (d + 2) zX2_addHouse [mR 2 0 o, mI (nI (kS s)), mI (nI a.2.2.1), mI (bI a.2.2.2.1)] M k := by
  obtain ⟨m, b, l, g, kd, lo, br⟩ := a
  obtain ⟨l1, l2, l3⟩ := hL
  dsimp only at l1 l2 l3 h8 ⊢
  have ea : lnSt (m, b, l, g, kd, lo, br) s = some (m + 1, (if g then b + 1 else b), 0, false, (fun h => if h = m then kS s else kd h), (fun h => if h = m then (l : Int) else lo h), fun h => if h = m then (if g then (b : Int) else -6) else br h) := by
    unfold lnSt
    dsimp only
    rw [if_neg (by omega), if_pos hk]
  refine v_X2_addHouse_0 _ _ _ _ (sp_isFull l1 (by omega) (ifb (fun _ => ?_) (fun e => absurd (of_decide_eq_true e) (by omega))))
  rw [l1]
  refine sp_setCell (by omega) (by decide) ?_
  have e1 : (up M (o + 1) m (nI (kS s))) o 0 = nI m := by rw [up_k (by omega)]; exact l1
  show wpD _ _ _ _ [_, mI ((up M (o + 1) m (nI (kS s))) o 0), _] _ _
  rw [e1]
  refine sp_setCell (by omega) (by decide) ?_
  have e2 : (up (up M (o + 1) m (nI (kS s))) (o + 2) m (nI l)) o 0 = nI m := by rw [up_k (by omega)]; exact e1
  have e3 : (up (up M (o + 1) m (nI (kS s))) (o + 2) m (nI l)) o 1 = nI b := by rw [up_k (by omega), up_k (by omega)]; exact l2
  have fin : ∀ M3 (v : Int) bb, M3 = up (up (up M (o + 1) m (nI (kS s))) (o + 2) m (nI l)) (o + 3) m (zi v) → v = (if g then (b : Int) else -6) → ∀ M4, (∀ k j, k ≠ o → M4 k j = M3 k j) → M4 o 0 = nI (m + 1) → M4 o 1 = nI bb → bb = (if g then b + 1 else b) → k none M4 := by
    intro M3 v bb eM ev M4 f4 e40 e41 eb
    have r1 : ∀ h, M4 (o + 1) h = if h = m then nI (kS s) else M (o + 1) h := fun h => by
      rw [f4 _ _ (by omega), eM, up_k (by omega), up_k (by omega)]
      by_cases c : h = m
      · rw [if_pos c, c, up_at]
      · rw [if_neg c, up_j c]
    have r2 : ∀ h, M4 (o + 2) h = if h = m then nI l else M (o + 2) h := fun h => by
      rw [f4 _ _ (by omega), eM, up_k (by omega)]
      by_cases c : h = m
      · rw [if_pos c, c, up_at]
      · rw [if_neg c, up_j c, up_k (by omega)]
    have r3 : ∀ h, M4 (o + 3) h = if h = m then zi v else M (o + 3) h := fun h => by
      rw [f4 _ _ (by omega), eM]
      by_cases c : h = m
      · rw [if_pos c, c, up_at]
      · rw [if_neg c, up_j c, up_k (by omega), up_k (by omega)]
    refine h M4 _ ea (fun k j q => ?_) ⟨e40, by rw [e41, eb], fun h hh => ?_⟩
    · rw [f4 k j (by omega), eM, up_k (by omega), up_k (by omega), up_k (by omega)]
    · rw [r1, r2, r3]
      dsimp only at hh ⊢
      by_cases c : h = m
      · simp only [c, if_true, ev]
        exact ⟨trivial, nI_zi l, trivial⟩
      · simp only [c, if_false]
        exact l3 h (by omega)
  cases g
  · refine ⟨fun _ => ?_, fun c => absurd rfl c⟩
    rw [e2]
    refine v_X2_addHouse_3 _ _ _ _ _ _ (sp_setCell (by omega) (by decide) ⟨fun _ => ?_, fun c => absurd rfl c⟩)
    refine fin _ (-6) b rfl rfl _ (fun k j q => up_k q) ?_ ?_ rfl
    · rw [up_at, up_k (by omega), e2, nI_1]
    · rw [up_j (by decide), up_k (by omega), e3]
  · refine ⟨fun c => absurd c (by decide), fun _ => ?_⟩
    rw [e2, e3]
    refine v_X2_addHouse_3 _ _ _ _ _ _ (sp_setCell (by omega) (by decide) ⟨fun c => absurd c (by decide), fun _ => ?_⟩)
    refine fin _ b (b + 1) (by rw [zi_nI]) rfl _ (fun k j q => by rw [up_k q, up_k q]) ?_ ?_ rfl
    · rw [up_j (by decide), up_at, up_k (by omega), e2, nI_1]
    · rw [up_at, up_j (by decide), up_k (by omega), e3, nI_1]
