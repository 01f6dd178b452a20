/-! THE MODEL'S ORDERS -/
def RowP (n : Nat) (a : List Nat) (M : mM) : Prop := ∀ j, j < n → M 9 j = nI (a.getD j 0)
theorem gd_set {a : List Nat} {i v k : Nat} (hi : i < a.length) : (a.set i v).getD k 0 = if k = i then v else a.getD k 0 := by
  simp only [List.getD_eq_getElem?_getD, List.getElem?_set]
  by_cases e : i = k
  · subst e
    simp [hi]
  · have e2 : ¬ k = i := fun q => e q.symm
    simp [e, e2]
theorem swL_len {a : List Nat} {i j : Nat} : (swL a i j).length = a.length := by simp [swL]
theorem swL_get {a : List Nat} {i j k : Nat} (hi : i < a.length) (hj : j < a.length) : (swL a i j).getD k 0 = if k = j then a.getD i 0 else if k = i then a.getD j 0 else a.getD k 0 := by
  unfold swL
  rw [gd_set (by simpa using hj), gd_set hi]
theorem sp_change {d : Nat} {k : mQ} {M : mM} {n i j : Nat} {a : List Nat} (hr : RowP n a M) (hl : a.length = n) (hn : n ≤ 8) (hi : i < n) (hj : j < n) (h : ∀ M', (∀ k j, k ≠ 9 → M' k j = M k j) → RowP n (swL a i j) M' → k none M') : wpD mB mNL (d + 1) zX8_change [mR 8 0 0, mI (nI i), mI (nI j)] M k := by
  refine v_X8_change_0 _ _ ⟨vp_in_nI (by omega) (by decide), vp_in_nI (by omega) (by decide), vp_in_nI (by omega) (by decide), vp_in_nI (by omega) (by decide), ?_⟩
  rw [nI_clamp (by omega), nI_clamp (by omega)]
  refine h _ (fun k j hk => by rw [up_k hk, up_k hk]) (fun q hq => ?_)
  rw [swL_get (by omega) (by omega)]
  by_cases e : q = j
  · rw [if_pos e, e, up_at]
    exact hr i hi
  · rw [if_neg e, up_j e]
    by_cases e2 : q = i
    · rw [if_pos e2, e2, up_at]
      exact hr j hj
    · rw [if_neg e2, up_j e2]
      exact hr q hq
theorem zi_m1 {i : Nat} : zi ((i : Int) - 1) = nI i - 1 := by rw [nI_zi, show (1 : Int32) = zi 1 from rfl, zi_sub]
set_option maxHeartbeats 1000000 in
theorem sp_nextOrder {d : Nat} {k : mQ} {M : mM} {n : Nat} {a : List Nat} (h1 : 1 ≤ n) (hn : n ≤ 7) (h4 : M 0 4 = nI n) (hr : RowP n a M) (hl : a.length = n) (hb : ∀ j, j < n → a.getD j 0 < 8) (h0 : nxtL n a = none → k (mI 0) M) (hs : ∀ b M', nxtL n a = some b → (∀ k j, k ≠ 9 → M' k j = M k j) → RowP n b M' → k (mI 1) M') : wpD mB mNL (d + 2) zX8_nextOrder [mR 8 0 0] M k := by
  -- turning round
  have six : ∀ f (a : List Nat) lo hi v1 v2 M1, a.length = n → hi ≤ lo + f → hi < n → (∀ k j, k ≠ 9 → M1 k j = M k j) → RowP n a M1 → (∀ M', (∀ k j, k ≠ 9 → M' k j = M k j) → RowP n (nrv f a lo hi) M' → k (mI 1) M') → lo < n + 1 →
      jJ kB_X8_nextOrder (d + 1) k 6 [mR 8 0 0, mI v1, mI v2, mI (nI lo), mI (nI hi)] [] M1 := by
    intro f
    induction f with
    | zero =>
      intro a lo hi v1 v2 M1 hl hf hh fr rw1 cont hlo
      exact v_X8_nextOrder_6 _ _ _ _ (ifle (by omega) (by omega) (fun _ => cont M1 fr rw1) (fun q => by omega))
    | succ f ih =>
      intro a lo hi v1 v2 M1 hl hf hh fr rw1 cont hlo
      rw [nrv] at cont
      refine v_X8_nextOrder_6 _ _ _ _ (ifle (by omega) (by omega) (fun q => ?_) (fun q => ?_))
      · rw [if_pos q] at cont
        exact cont M1 fr rw1
      · rw [if_neg (by omega)] at cont
        refine sp_change rw1 hl (by omega) (by omega) hh (fun M2 f2 rw2 => ?_)
        obtain ⟨hi', rfl⟩ : ∃ hi', hi = hi' + 1 := ⟨hi - 1, by omega⟩
        rw [nI_1, nI_dec.2]
        exact ih (swL a lo (hi' + 1)) (lo + 1) hi' v1 v2 M2 (by rw [swL_len]; exact hl) (by omega) (by omega) (fun k j q => (f2 k j q).trans (fr k j q)) rw2 cont (by omega)
  have cmp : ∀ i j, i < n → j < n → (M 9 i ≤ M 9 j ↔ a.getD i 0 ≤ a.getD j 0) := fun i j hi hj => by
    have := hb i hi
    have := hb j hj
    rw [hr i hi, hr j hj]
    exact nI_leI (by omega) (by omega)
  have em1 : M 0 4 - 1 = nI (n - 1) := by
    obtain ⟨n', rfl⟩ : ∃ n', n = n' + 1 := ⟨n - 1, by omega⟩
    rw [h4, nI_dec.1]
    rfl
  -- the one to change with
  have four : ∀ i, i + 1 < n → a.getD i 0 ≤ a.getD (i + 1) 0 → (nxtL n a = some (nrv n (swL a i (nfJ a (a.getD i 0) (n - 1))) (i + 1) (n - 1))) → ∀ j u3 u4, i < j → j < n → nfJ a (a.getD i 0) j = nfJ a (a.getD i 0) (n - 1) →
      jJ kB_X8_nextOrder (d + 1) k 4 [mR 8 0 0, mI (nI i), mI (nI j), u3, u4] [] M := by
    intro i hi hle hnx j
    induction j with
    | zero => exact fun u3 u4 q => by omega
    | succ j ih =>
      intro u3 u4 hij hjn e
      rw [nfJ] at e
      refine v_X8_nextOrder_4 _ _ _ _ ⟨vp_in_nI (by omega) (by decide), vp_in_nI (by omega) (by decide), ?_⟩
      rw [nI_clamp (by omega), nI_clamp (by omega), cmp i (j + 1) (by omega) hjn]
      refine ⟨fun q => ?_, fun q => ?_⟩
      · rw [if_pos q] at e
        refine sp_change hr hl (by omega) (by omega) hjn (fun M2 f2 rw2 => ?_)
        have e2 : M2 0 4 - 1 = nI (n - 1) := by rw [f2 0 4 (by decide)]; exact em1
        rw [e2, nI_1]
        refine six n (swL a i (j + 1)) (i + 1) (n - 1) _ _ M2 (by rw [swL_len]; exact hl) (by omega) (by omega) f2 rw2 (fun M3 f3 rw3 => hs _ M3 hnx f3 ?_) (by omega)
        rw [← e]
        exact rw3
      · rw [if_neg q] at e
        rw [nI_dec.2]
        have : i ≠ j := fun x => q (by rw [← x]; exact hle)
        exact ih _ _ (by omega) (by omega) e
  have one : ∀ i u2 u3 u4, i < n → nfI a i = nfI a (n - 1) → jJ kB_X8_nextOrder (d + 1) k 1 [mR 8 0 0, mI (nI i - 1), u2, u3, u4] [] M := by
    intro i
    induction i with
    | zero =>
      intro u2 u3 u4 hi e
      refine v_X8_nextOrder_1 _ _ _ _ ⟨fun _ => v_X8_nextOrder_2 _ _ _ _ ⟨fun q => absurd q (by decide), fun _ => h0 ?_⟩, fun q => absurd (by decide) q⟩
      unfold nxtL
      rw [← e]
      rfl
    | succ i ih =>
      intro u2 u3 u4 hi e
      rw [nI_dec.1]
      rw [nfI] at e
      refine v_X8_nextOrder_1 _ _ _ _ ⟨fun q => absurd q (nI_pos (by omega)), fun _ => ⟨vp_in_nI (by omega) (by decide), ?_⟩⟩
      rw [nI_1, nI_clamp (by omega), nI_clamp (by omega), cmp i (i + 1) (by omega) hi]
      refine ⟨vp_in_nI (by omega) (by decide), fun q => ?_, fun q => ?_⟩
      · rw [if_pos q] at e
        refine v_X8_nextOrder_2 _ _ _ _ ⟨fun _ => ?_, fun x => absurd ?_ x⟩
        · rw [em1]
          refine four i (by omega) q ?_ (n - 1) _ _ (by omega) (by omega) rfl
          unfold nxtL
          rw [← e]
        · rw [show (0 : Int32) = nI 0 from rfl]
          exact (nI_leI (by decide) (by omega)).mpr (Nat.zero_le i)
      · rw [if_neg q] at e
        have e2 : nI i + (-1) = nI i - 1 := by
          rw [nI_zi, show (-1 : Int32) = zi (-1) from rfl, zi_add, show (1 : Int32) = zi 1 from rfl, zi_sub]
          rfl
        rw [e2]
        exact ih _ _ _ (by omega) e
  refine v_X8_nextOrder_0 ?_
  have e2 : M 0 4 - 2 = nI (n - 1) - 1 := by
    obtain ⟨n', rfl⟩ : ∃ n', n = n' + 1 := ⟨n - 1, by omega⟩
    rw [h4, nI_zi, show (2 : Int32) = zi 2 from rfl, zi_sub, nI_zi, show (1 : Int32) = zi 1 from rfl, zi_sub]
    congr 1
    omega
  rw [e2]
  exact one (n - 1) _ _ _ (by omega) rfl
/-! the worth of an order -/
def pmG (G : LG) (a : List Nat) : LG := (gS G, gK G, fun h => kdH G (a.getD h 0), loH G, brH G)
theorem pmG_LR {G : LG} {a : List Nat} {n b : Nat} (h : LR G n b) (ha : ∀ j, j < n → a.getD j 0 < n) : LR (pmG G a) n b := fun i hi => ⟨(h _ (ha i hi)).1, (h i hi).2⟩
theorem brB_0 {b : Int} : brB 0 b = false := by
  unfold brB
  rw [Nat.zero_testBit, Bool.and_false]
theorem evL_pm {G : LG} {hour n : Nat} {w : Int} {a : List Nat} (ha : a.length = n) : ∀ (rest pre : List Nat), a = pre ++ rest → (∀ h, h < pre.length → isH (pmG G a) 0 (2 ^ n - 1) hour w h = false) → (fl (pmG G a) 0 (2 ^ n - 1) hour w pre.length).1 = gS G 0 →
    (hmN (pmG G a) 0 (2 ^ n - 1) hour w n = 0 ∧ evL G hour pre.length (fl (pmG G a) 0 (2 ^ n - 1) hour w pre.length).2 (wtS (pmG G a) (svN (pmG G a) 0 (2 ^ n - 1) hour w n) pre.length) rest = some (wtS (pmG G a) (svN (pmG G a) 0 (2 ^ n - 1) hour w n) n)) ∨
    (hmN (pmG G a) 0 (2 ^ n - 1) hour w n ≠ 0 ∧ evL G hour pre.length (fl (pmG G a) 0 (2 ^ n - 1) hour w pre.length).2 (wtS (pmG G a) (svN (pmG G a) 0 (2 ^ n - 1) hour w n) pre.length) rest = none)
  | [], pre, e, hH, _ => by
    have l : pre.length = n := by rw [← ha, e]; simp
    left
    refine ⟨Nat.eq_of_testBit_eq fun i => ?_, by rw [evL, l]⟩
    rw [hmN_bit, Nat.zero_testBit]
    by_cases hi : i < n
    · rw [hH i (by omega)]; simp
    · simp [hi]
  | h :: rest, pre, e, hH, hF => by
    have l : pre.length < n := by rw [← ha, e]; simp
    have ah : a.getD pre.length 0 = h := by rw [e]; exact gd_hi
    have eF : arF (pmG G a) 0 (2 ^ n - 1) hour w pre.length = gS G 0 := by
      unfold arF aF
      rw [brB_0]
      exact hF
    have eQ : arQ (pmG G a) 0 (2 ^ n - 1) hour w pre.length = pipeQ (gS G 2) (loH G pre.length) (gS G 0) (fl (pmG G a) 0 (2 ^ n - 1) hour w pre.length).2 := by
      unfold arQ aQ
      rw [brB_0, hF]
      rfl
    have kd : kdH (pmG G a) pre.length = kdH G h := by
      show kdH G (a.getD pre.length 0) = _
      rw [ah]
    have iH : isH (pmG G a) 0 (2 ^ n - 1) hour w pre.length = harmB (gK G) (kdH G h) (gS G 0) (pipeQ (gS G 2) (loH G pre.length) (gS G 0) (fl (pmG G a) 0 (2 ^ n - 1) hour w pre.length).2) := by
      unfold isH haB
      rw [eF, eQ, kd]
      rfl
    have iS : isS (pmG G a) 0 (2 ^ n - 1) hour w pre.length = (!harmB (gK G) (kdH G h) (gS G 0) (pipeQ (gS G 2) (loH G pre.length) (gS G 0) (fl (pmG G a) 0 (2 ^ n - 1) hour w pre.length).2) && canB (gS G) (gK G) hour (kdH G h) (gS G 0) (pipeQ (gS G 2) (loH G pre.length) (gS G 0) (fl (pmG G a) 0 (2 ^ n - 1) hour w pre.length).2)) := by
      unfold isS svB haB caB
      rw [eF, eQ, kd, Nat.testBit_two_pow_sub_one, decide_eq_true l, Bool.true_and]
      rfl
    have ws : wtS (pmG G a) (svN (pmG G a) 0 (2 ^ n - 1) hour w n) (pre.length + 1) = if isS (pmG G a) 0 (2 ^ n - 1) hour w pre.length then wtS (pmG G a) (svN (pmG G a) 0 (2 ^ n - 1) hour w n) pre.length + wthK G h else wtS (pmG G a) (svN (pmG G a) 0 (2 ^ n - 1) hour w n) pre.length := by
      rw [wtS, svN_bit, decide_eq_true l, Bool.true_and, kd]
      rfl
    have wk : wtK (pmG G a) pre.length = wtK G h := by
      unfold wtK
      rw [kd]
      rfl
    have fs := fl_succ (pmG G a) 0 (2 ^ n - 1) hour w pre.length
    rw [eF, eQ, wk] at fs
    have ih := evL_pm (G := G) (hour := hour) (w := w) ha rest (pre ++ [h]) (by rw [e]; simp)
    rw [List.length_append, show [h].length = 1 from rfl, fs, ws] at ih
    rw [evL]
    cases hh : harmB (gK G) (kdH G h) (gS G 0) (pipeQ (gS G 2) (loH G pre.length) (gS G 0) (fl (pmG G a) 0 (2 ^ n - 1) hour w pre.length).2)
    · rw [hh] at iH iS
      have ih := ih (fun q hq => by
        by_cases x : q = pre.length
        · rw [x]; exact iH
        · exact hH q (by omega)) rfl
      cases hc : canB (gS G) (gK G) hour (kdH G h) (gS G 0) (pipeQ (gS G 2) (loH G pre.length) (gS G 0) (fl (pmG G a) 0 (2 ^ n - 1) hour w pre.length).2)
      · rw [hc] at iS
        rw [show isS (pmG G a) 0 (2 ^ n - 1) hour w pre.length = false from iS] at ih
        exact ih
      · rw [hc] at iS
        rw [show isS (pmG G a) 0 (2 ^ n - 1) hour w pre.length = true from iS] at ih
        exact ih
    · right
      refine ⟨fun q => ?_, rfl⟩
      have := hmN_bit (pmG G a) 0 (2 ^ n - 1) hour w n pre.length
      rw [q, Nat.zero_testBit, iH, hh, decide_eq_true l] at this
      cases this
