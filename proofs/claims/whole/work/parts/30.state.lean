/-! THE STATE OF BOTH -/
/-- a valley: springs, kinds, lane; houses; brooks; how many were felt; at which house, from, to -/
abbrev AV : Type := LG × Nat × Nat × Nat × (Nat → Nat) × (Nat → Int) × (Nat → Int)
def vG (V : AV) : LG := V.1
def vn (V : AV) : Nat := V.2.1
def vb (V : AV) : Nat := V.2.2.1
def vf (V : AV) : Nat := V.2.2.2.1
def fH (V : AV) : Nat → Nat := V.2.2.2.2.1
def fA (V : AV) : Nat → Int := V.2.2.2.2.2.1
def fB (V : AV) : Nat → Int := V.2.2.2.2.2.2
def VOK (V : AV) : Prop := Rng (gS (vG V)) (gK (vG V)) ∧ (1 ≤ vn V ∧ vn V ≤ 8) ∧ vb V ≤ 4 ∧ LR (vG V) (vn V) (vb V) ∧ vf V ≤ 6 ∧ ∀ i, i < vf V → fH V i < vn V ∧ 0 ≤ fA V i ∧ fA V i ≤ fB V i ∧ fB V i ≤ 1000
/-- the class' valley at v -/
def VC (V : AV) (M : mM) (v : Nat) : Prop := Hyd (gS (vG V)) (gK (vG V)) M (v + 1) (v + 2) ∧ LnC (vG V) M (v + 3) (vn V) ∧ M (v + 3) 1 = nI (vb V) ∧ M (v + 7) 0 = nI (vf V) ∧
  ∀ i, i < vf V → M (v + 8) i = nI (fH V i) ∧ M (v + 9) i = zi (fA V i) ∧ M (v + 10) i = zi (fB V i)
/-- the model's rows -/
def VM (V : AV) (ms mk mh mf : Nat → Int32) (mn mb mq : Int32) : Prop := (∀ j, j < 5 → ms j = zi (gS (vG V) j)) ∧ (∀ j, j < 30 → mk j = zi (gK (vG V) j)) ∧ mn = nI (vn V) ∧
  (∀ h, h < vn V → mh (3 * h) = nI (kdH (vG V) h) ∧ mh (3 * h + 1) = zi (loH (vG V) h) ∧ mh (3 * h + 2) = zi (brH (vG V) h)) ∧ mb = nI (vb V) ∧ mq = nI (vf V) ∧
  ∀ i, i < vf V → mf (3 * i) = nI (fH V i) ∧ mf (3 * i + 1) = zi (fA V i) ∧ mf (3 * i + 2) = zi (fB V i)
/-- the tables that nobody writes -/
def ROK (M : mM) : Prop := (∀ j, j < 5 → M 1001 j = ([1, 0, 0, 1, 0] : List Int32).getD j 0) ∧ (∀ j, j < 5 → M 1002 j = ([50, 1000, 300, 30, 300] : List Int32).getD j 0) ∧
  (∀ j, j < 5 → M 1004 j = ([1000, 1000, 9999, 99, 63] : List Int32).getD j 0) ∧ ∀ j, j < 6 → M 1005 j = ([98, 100, 114, 99, 104, 108] : List Int32).getD j 0
def ImR (M : mM) (K t : Nat) : Prop := M 13 t = bI (K.testBit t) ∧ (K.testBit t = true → ∃ V, VOK V ∧ VC V M (46 + 11 * t) ∧ VM V (fun j => M 12 (80 * t + j)) (fun j => M 12 (80 * t + 5 + j)) (fun j => M 12 (80 * t + 35 + j)) (fun j => M 12 (80 * t + 59 + j)) (M 12 (80 * t + 77)) (M 12 (80 * t + 78)) (M 12 (80 * t + 79)))
/-- V: the valley as it is; c signs on the pad, p; K: the images that were kept -/
def InvP (V : AV) (c : Nat) (p : Nat → Nat) (K : Nat) (M : mM) : Prop := VOK V ∧ VC V M 35 ∧ VM V (M 1) (M 2) (M 4) (M 5) (M 0 4) (M 0 6) (M 0 7) ∧ (c ≤ 48 ∧ M 15 0 = nI c ∧ M 0 2 = nI c ∧ ∀ j, j < c → (33 ≤ p j ∧ p j ≤ 126) ∧ M 20 j = nI (p j) ∧ M 3 j = nI (p j)) ∧
  (K < 4 ∧ M 14 4 = nI K ∧ ImR M K 0 ∧ ImR M K 1) ∧ ROK M
/-- cells that calls may leave as they like -/
def scr (k j : Nat) : Prop := (k = 0 ∧ j ≠ 2 ∧ j ≠ 4 ∧ j ≠ 6 ∧ j ≠ 7) ∨ (6 ≤ k ∧ k ≤ 11) ∨ (k = 14 ∧ j ≠ 4) ∨ (k = 15 ∧ j ≠ 0) ∨ (16 ≤ k ∧ k ≤ 19) ∨ (21 ≤ k ∧ k ≤ 34) ∨ k = 68 ∨ k = 69
def Keep (M M' : mM) : Prop := ∀ k j, ¬ scr k j → M' k j = M k j
theorem Keep.rfl' (M : mM) : Keep M M := fun _ _ _ => rfl
theorem Keep.trans {M M' M'' : mM} (h : Keep M M') (h' : Keep M' M'') : Keep M M'' := fun k j q => (h' k j q).trans (h k j q)
theorem nscr {k j : Nat} (h : (1 ≤ k ∧ k ≤ 5) ∨ k = 12 ∨ k = 13 ∨ k = 20 ∨ (35 ≤ k ∧ k ≤ 67) ∨ 70 ≤ k) : ¬ scr k j := by
  unfold scr
  omega
theorem VC.of {V : AV} {M M' : mM} {v : Nat} (h : VC V M v) (f : ∀ k j, v ≤ k → k ≤ v + 10 → M' k j = M k j) : VC V M' v := by
  obtain ⟨h1, h2, h3, h4, h5⟩ := h
  exact ⟨h1.of (fun j => f _ _ (by omega) (by omega)) (fun j => f _ _ (by omega) (by omega)), h2.of (fun k j a c => f k j (by omega) (by omega)), by rw [f _ _ (by omega) (by omega)]; exact h3, by rw [f _ _ (by omega) (by omega)]; exact h4, fun i hi => by
    rw [f _ _ (by omega) (by omega), f _ _ (by omega) (by omega), f _ _ (by omega) (by omega)]; exact h5 i hi⟩
theorem ROK.of {M M' : mM} (h : ROK M) (f : ∀ k j, 1000 ≤ k → M' k j = M k j) : ROK M' :=
  ⟨fun j hj => by rw [f _ _ (by omega)]; exact h.1 j hj, fun j hj => by rw [f _ _ (by omega)]; exact h.2.1 j hj, fun j hj => by rw [f _ _ (by omega)]; exact h.2.2.1 j hj, fun j hj => by rw [f _ _ (by omega)]; exact h.2.2.2 j hj⟩
theorem ImR.of {M M' : mM} {K t : Nat} (h : ImR M K t) (ht : t < 2) (f12 : ∀ j, M' 12 j = M 12 j) (f13 : M' 13 t = M 13 t) (f : ∀ k j, 46 + 11 * t ≤ k → k ≤ 56 + 11 * t → M' k j = M k j) : ImR M' K t := by
  refine ⟨by rw [f13]; exact h.1, fun e => ?_⟩
  obtain ⟨V, h1, h2, h3⟩ := h.2 e
  refine ⟨V, h1, h2.of (fun k j a c => f k j (by omega) (by omega)), ?_⟩
  simp only [f12]
  exact h3
theorem InvP.keep {V : AV} {c K : Nat} {p : Nat → Nat} {M M' : mM} (h : InvP V c p K M) (f : Keep M M') : InvP V c p K M' := by
  obtain ⟨h1, h2, h3, ⟨h4, h5, h6, h7⟩, ⟨h8, h9, h10, h11⟩, h12⟩ := h
  have r : ∀ k, (1 ≤ k ∧ k ≤ 5) ∨ k = 12 ∨ k = 13 ∨ k = 20 ∨ (35 ≤ k ∧ k ≤ 67) ∨ 70 ≤ k → ∀ j, M' k j = M k j := fun k hk j => f k j (nscr hk)
  have r0 : ∀ j, j = 2 ∨ j = 4 ∨ j = 6 ∨ j = 7 → M' 0 j = M 0 j := fun j hj => f 0 j (by unfold scr; omega)
  refine ⟨h1, h2.of (fun k j a b => r k (by omega) j), ?_, ⟨h4, ?_, ?_, fun j hj => ?_⟩, ⟨h8, ?_, ?_, ?_⟩, h12.of (fun k j a => r k (by omega) j)⟩
  · have e1 : M' 1 = M 1 := funext (r 1 (by omega))
    have e2 : M' 2 = M 2 := funext (r 2 (by omega))
    have e4 : M' 4 = M 4 := funext (r 4 (by omega))
    have e5 : M' 5 = M 5 := funext (r 5 (by omega))
    rw [e1, e2, e4, e5, r0 4 (by omega), r0 6 (by omega), r0 7 (by omega)]
    exact h3
  · rw [f 15 0 (by unfold scr; omega)]; exact h5
  · rw [r0 2 (by omega)]; exact h6
  · rw [r 20 (by omega), r 3 (by omega)]; exact h7 j hj
  · rw [f 14 4 (by unfold scr; omega)]; exact h9
  · exact h10.of (by decide) (r 12 (by omega)) (r 13 (by omega) 0) (fun k j a b => r k (by omega) j)
  · exact h11.of (by decide) (r 12 (by omega)) (r 13 (by omega) 1) (fun k j a b => r k (by omega) j)
theorem InvP.ok {V : AV} {c K : Nat} {p : Nat → Nat} {M : mM} (h : InvP V c p K M) : VOK V := h.1
theorem InvP.hydC {V : AV} {c K : Nat} {p : Nat → Nat} {M : mM} (h : InvP V c p K M) : Hyd (gS (vG V)) (gK (vG V)) M 36 37 := h.2.1.1
theorem InvP.lnC {V : AV} {c K : Nat} {p : Nat → Nat} {M : mM} (h : InvP V c p K M) : LnC (vG V) M 38 (vn V) := h.2.1.2.1
theorem InvP.bC {V : AV} {c K : Nat} {p : Nat → Nat} {M : mM} (h : InvP V c p K M) : M 38 1 = nI (vb V) := h.2.1.2.2.1
theorem InvP.hydM {V : AV} {c K : Nat} {p : Nat → Nat} {M : mM} (h : InvP V c p K M) : Hyd (gS (vG V)) (gK (vG V)) M 1 2 := ⟨h.2.2.1.1, h.2.2.1.2.1⟩
theorem InvP.lnP {V : AV} {c K : Nat} {p : Nat → Nat} {M : mM} (h : InvP V c p K M) : LnP (vG V) M (vn V) := ⟨h.2.2.1.2.2.1, h.2.2.1.2.2.2.1⟩
theorem InvP.bM {V : AV} {c K : Nat} {p : Nat → Nat} {M : mM} (h : InvP V c p K M) : M 0 6 = nI (vb V) := h.2.2.1.2.2.2.2.1
/-! ints of calls -/
def tn (v : Int32) : Nat := v.toInt.toNat
theorem tn_eq {v : Int32} (h : 0 ≤ v.toInt) : v = nI (tn v) := by
  have := toInt_rng v
  rw [eq_zi, nI_ti (by unfold tn; omega)]
  unfold tn
  omega
theorem tn_lt {v : Int32} {m : Nat} (h0 : 0 ≤ v.toInt) (h : v.toInt < m) : tn v < m := by
  unfold tn
  omega
theorem tn_nI {n : Nat} (h : n < 2147483648) : tn (nI n) = n := by
  unfold tn
  rw [nI_ti h]
  rfl
theorem li0 : (0 : Int32).toInt = 0 := by decide
theorem li1 : (1 : Int32).toInt = 1 := by decide
theorem sp_isNoHour {d : Nat} {k : mQ} {M : mM} {v : Int32} (h1 : ¬ (0 ≤ v.toInt ∧ v.toInt ≤ 5) → k (mI 1) M) (h2 : 0 ≤ v.toInt ∧ v.toInt ≤ 5 → k (mI 0) M) : wpD mB mNL (d + 1) zX7_isNoHour [mI v] M k := by
  have e6 : (6 : Int32).toInt = 6 := by decide
  refine v_X7_isNoHour_0 _ ⟨fun c => h1 ?_, fun c => ⟨fun c2 => h2 ?_, fun c2 => h1 ?_⟩⟩ <;> simp only [lt_zi, li0, e6] at * <;> omega
theorem sp_isNoKind {d : Nat} {k : mQ} {M : mM} {v : Int32} (h1 : ¬ (0 ≤ v.toInt ∧ v.toInt ≤ 5) → k (mI 1) M) (h2 : 0 ≤ v.toInt ∧ v.toInt ≤ 5 → k (mI 0) M) : wpD mB mNL (d + 1) zX7_isNoKind [mI v] M k := by
  have e6 : (6 : Int32).toInt = 6 := by decide
  refine v_X7_isNoKind_0 _ ⟨fun c => h1 ?_, fun c => ⟨fun c2 => h2 ?_, fun c2 => h1 ?_⟩⟩ <;> simp only [lt_zi, li0, e6] at * <;> omega
theorem sp_isNoHouse {d : Nat} {k : mQ} {M : mM} {v : Int32} {n : Nat} (hn : M 38 0 = nI n) (h9 : n < 2147483648) (h1 : ¬ (0 ≤ v.toInt ∧ v.toInt < n) → k (mI 1) M) (h2 : 0 ≤ v.toInt ∧ v.toInt < n → k (mI 0) M) : wpD mB mNL (d + 1) zX7_isNoHouse [mR 7 0 14, mI v] M k := by
  refine v_X7_isNoHouse_0 _ ?_
  rw [hn]
  refine ⟨fun c => h1 ?_, fun c => ⟨fun c2 => h2 ?_, fun c2 => h1 ?_⟩⟩ <;> simp only [lt_zi, li0, nI_ti h9] at * <;> omega
theorem sp_areNoBrooks {d : Nat} {k : mQ} {M : mM} {v : Int32} {b : Nat} (hb : M 38 1 = nI b) (h9 : b ≤ 9) (h1 : ¬ (0 ≤ v.toInt ∧ v.toInt < 2 ^ b) → k (mI 1) M) (h2 : 0 ≤ v.toInt ∧ v.toInt < 2 ^ b → k (mI 0) M) : wpD mB mNL (d + 2) zX7_areNoBrooks [mR 7 0 14, mI v] M k := by
  have hp : 2 ^ b ≤ 512 := Nat.pow_le_pow_right (by decide) h9
  have e : ((2 ^ b : Nat) : Int) = 2 ^ b := by simp
  refine v_X7_areNoBrooks_0 _ ⟨fun c => h1 ?_, fun c => sp_brookSets hb (by omega) ⟨fun c2 => h2 ?_, fun c2 => h1 ?_⟩⟩ <;> simp only [lt_zi, li0, nI_ti (show 2 ^ b < 2147483648 by omega)] at * <;> omega
theorem sp_areNoDraws {d : Nat} {k : mQ} {M : mM} {v : Int32} {b : Nat} (hb : M 38 0 = nI b) (h9 : b ≤ 9) (h1 : ¬ (0 ≤ v.toInt ∧ v.toInt < 2 ^ b) → k (mI 1) M) (h2 : 0 ≤ v.toInt ∧ v.toInt < 2 ^ b → k (mI 0) M) : wpD mB mNL (d + 2) zX7_areNoDraws [mR 7 0 14, mI v] M k := by
  have hp : 2 ^ b ≤ 512 := Nat.pow_le_pow_right (by decide) h9
  have e : ((2 ^ b : Nat) : Int) = 2 ^ b := by simp
  refine v_X7_areNoDraws_0 _ ⟨fun c => h1 ?_, fun c => sp_houseSets hb (by omega) ⟨fun c2 => h2 ?_, fun c2 => h1 ?_⟩⟩ <;> simp only [lt_zi, li0, nI_ti (show 2 ^ b < 2147483648 by omega)] at * <;> omega
/-- the model's check of a range -/
theorem sp_inC {d : Nat} {k : mQ} {M : mM} {a b c : Int32} (h0 : ¬ (b.toInt ≤ a.toInt ∧ a.toInt ≤ c.toInt) → k (mI 0) M) (h1 : b.toInt ≤ a.toInt ∧ a.toInt ≤ c.toInt → k (mI 1) M) : wpD mB mNL (d + 1) zX8_in [mI a, mI b, mI c] M k := by
  refine sp_in ?_
  by_cases e : b.toInt ≤ a.toInt ∧ a.toInt ≤ c.toInt
  · rw [decide_eq_true e]; exact h1 e
  · rw [decide_eq_false e]; exact h0 e
/-- all of an hour's numbers are as told -/
abbrev okBits (V : AV) (v1 v2 v3 : Int32) : Prop := (0 ≤ v1.toInt ∧ v1.toInt ≤ 5) ∧ (0 ≤ v2.toInt ∧ v2.toInt < 2 ^ vb V) ∧ (0 ≤ v3.toInt ∧ v3.toInt < 2 ^ vn V)
theorem sp_areBitsC {d : Nat} {k : mQ} {M : mM} {V : AV} {v1 v2 v3 : Int32} (h4 : M 0 4 = nI (vn V)) (h6 : M 0 6 = nI (vb V)) (hn : vn V ≤ 9) (hb : vb V ≤ 9) (h0 : ¬ okBits V v1 v2 v3 → k (mI 0) M) (h1 : okBits V v1 v2 v3 → k (mI 1) M) : wpD mB mNL (d + 2) zX8_areBits [mR 8 0 0, mI v1, mI v2, mI v3] M k := by
  refine sp_areBits h4 h6 hn hb ?_
  by_cases e : okBits V v1 v2 v3
  · rw [show decide _ = true from decide_eq_true e]; exact h1 e
  · rw [show decide _ = false from decide_eq_false e]; exact h0 e
theorem bits_lt {v : Int32} {n : Nat} (hn : n ≤ 9) (h : 0 ≤ v.toInt ∧ v.toInt < 2 ^ n) : v = nI (tn v) ∧ tn v < 2 ^ n ∧ tn v < 512 := by
  have hp : 2 ^ n ≤ 512 := Nat.pow_le_pow_right (by decide) hn
  have e : ((2 ^ n : Nat) : Int) = 2 ^ n := by simp
  have := tn_lt (m := 2 ^ n) h.1 (by omega)
  exact ⟨tn_eq h.1, this, by omega⟩
