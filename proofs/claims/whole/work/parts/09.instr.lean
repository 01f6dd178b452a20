/-! ONE INSTRUCTION, BLOCKS, METHODS: what the small machine says comes true on the machine -/
def rtOK (cc : ByteArray) (rt : Option FieldType) (pc : Nat) : mV → Prop
  | none => decode cc pc = .ok (.return_, 1) ∧ rt = none
  | some (.inl x) => decode cc pc = .ok (.ireturn, 1) ∧ (rt = some .int ∨ (rt = some .boolean ∧ (x = 0 ∨ x = 1)))
  | some (.inr _) => decode cc pc = .ok (.areturn, 1) ∧ ∃ n, rt = some (.object n)
section MS
variable {p : Program} {l : Launch} {e : Env} {R : Room} {s : State} {m : MethodId} {args : Array Value} {below : List Frame} {meth : Method} {c : Code} {cells slots : Nat} {Q : State → Prop}
variable {D : va_G} {cA cB : ClassId} {ad roAd : Nat → Nat} {lay : List (Nat × Nat)} {ro : List Nat} {rc : Nat → Nat → Int32} {A : Nat → Prop} {Ts : List Cond} {cc : ByteArray} {nL : Nat} {own : Nat}
theorem gdc {v : mV} {st : List mV} (hv : Gd lay ro v) (h : ∀ v ∈ st, Gd lay ro v) : ∀ w ∈ v :: st, Gd lay ro w := fun w hw => by
  rcases List.mem_cons.mp hw with rfl | hw
  · exact hv
  · exact h w hw
theorem gdt {v : mV} {st : List mV} (h : ∀ w ∈ v :: st, Gd lay ro w) : ∀ w ∈ st, Gd lay ro w := fun w hw => h w (List.mem_cons_of_mem _ hw)
theorem gdh {v : mV} {st : List mV} (h : ∀ w ∈ v :: st, Gd lay ro w) : Gd lay ro v := h v List.mem_cons_self
theorem ref_rw {kd len id : Nat} (h : Gd lay ro (mR kd len id)) (hk : kd ≠ 51) : lay[id]? = some (kd, len) := by
  have : (if kd = 51 then ro[id]? = some len else lay[id]? = some (kd, len)) := h
  rwa [if_neg hk] at this
theorem ref_ro {len id : Nat} (h : Gd lay ro (mR 51 len id)) : ro[id]? = some len := h
theorem vl_rw {kd len id : Nat} (hk : kd ≠ 51) : vlG ad roAd (mR kd len id) = .ref (ad id) := by simp [vlG, hk]
theorem cell50 {M : mM} {k len : Nat} : cellE cA cB ad M k (50, len) = .inl (cA, len, .inl (M k)) := rfl
theorem cell52 {M : mM} {k len : Nat} : cellE cA cB ad M k (52, len) = .inl (cB, len, .inl (M k)) := rfl
theorem cellO {M : mM} {k kd len : Nat} (h : kd ≠ 50) (h2 : kd ≠ 52) : cellE cA cB ad M k (kd, len) = .inr (kd, slE ad M k (mSh kd)) := by simp [cellE, h, h2]
theorem contains_mem {α : Type} [BEq α] [LawfulBEq α] {x : α} {l : List α} (h : l.contains x = true) : x ∈ l := by simpa using h
theorem rest_sum (r : List mV) : ((r.map (vlG ad roAd)).map fun v => v.category).sum = r.length := by
  induction r with
  | nil => rfl
  | cons a r ih =>
    simp only [List.map_cons, List.sum_cons, List.length_cons, ih, vlG_cat]
    omega

theorem mGood (q : MethodName × ByteArray × Nat × Option FieldType × Nat × Nat × Nat) (hgT : ∀ w ∈ gT, w ∈ Ts) (hq : okMt q) : GoodIn Ts (mWs q) := by
  intro w hw
  rcases List.mem_cons.mp hw with rfl | hw
  · exact ⟨hgT _ hq.1, good_of_word (List.mem_filter.mp hq.1).2⟩
  · exact ⟨hgT _ hw, good_of_word (List.mem_filter.mp hw).2⟩
theorem mTab_at {z : Nat} {q : MethodName × ByteArray × Nat × Option FieldType × Nat × Nat × Nat} (h : mTab[z]? = some q) (hz : z < mCallable) : okMt q ∧ q.2.2.1 ≤ 41 := by
  refine ⟨mTab_ok q (List.mem_of_getElem? (i := z) ?_), ?_⟩
  · rw [List.getElem?_take]
    have : z < 129 := hz
    simp [this, h]
  · have := List.all_eq_true.mp mTab_small q (List.mem_of_getElem? h)
    simpa using this
set_option maxHeartbeats 4000000 in
theorem mInvS {n : Nat} {K : Nat → List mV → List mV → mM → Prop} {Rt : mQ} {Cl : Nat → List mV → mM → mQ → Prop} {aux : List Nat} {k : Int32} {nx : List mV → List mV → mM → Prop} {hd : Nat → Nat} {pc len : Nat} {rt : Option FieldType} {d : Nat} (hE : mEnv p s m args c D cA cB roAd lay ro rc A Ts cc nL own)  (hdec : decode cc pc = .ok (.invokestatic n, len)) (hok : okA own rt hd pc (.invokestatic n) len aux k = true) (hnx : ∀ ls st M, nx ls st M → mGo p l e R s m args below meth c cells slots Q D cA cB ad roAd lay ro rc A nL (pc + len) ls st M)
    (hcl : ∀ z as M k, Cl z as M k → z < mCallable → mCtr l D cA cB ad roAd lay ro rc d z as M k) (hroom : d + 1 ≤ R.frames ∧ 60 * (d + 1) ≤ R.locals) (hcs : cells ≤ R.cells ∧ slots ≤ R.slots)
    {ls st : List mV} {M : mM} (h : stp K Rt Cl (.invokestatic n) aux k nx ls st M) : mGo p l e R s m args below meth c cells slots Q D cA cB ad roAd lay ro rc A nL pc ls st M := by
  obtain ⟨hF, hgT, hK, hst, hlay, hA⟩ := id hE
  obtain ⟨hx, hb, hml, hown, hts⟩ := id hF
  unfold stp at h
  dsimp only at h
  split at h
  case h_1 t =>
    have h0 := p2_of h
    clear h
    obtain ⟨x, y, r, e1, h⟩ := h0
    subst e1
    have h0 := lim_of h
    clear h
    obtain ⟨h8, h⟩ := h0
    simp only [okA, Bool.and_eq_true, beq_iff_eq] at hok
    obtain ⟨rfl, hc⟩ := hok
    have hm := mXl_ok _ (contains_mem hc)
    intro H locs la hw hS hL hGl hGs
    obtain ⟨hn, lv, h1, h2⟩ := id hL
    have h9 := hnx _ _ _ h H locs la hw hS hL hGl (gdc trivial (gdt (gdt hGs)))
    cases t with
    | zero => exact va_mmax hx hb (by rw [hml]; exact h1.1.symm) hown (hts _ (hgT _ hm)) (hts _ (hgT _ math_in.1)) (hts _ (hgT _ math_in.2.2.1)) (hts _ (hgT _ math_in.2.2.2.1)) (by omega) (by rw [rest_sum]; omega) hcs.1 hcs.2 hdec h9
    | succ t => exact va_mmin hx hb (by rw [hml]; exact h1.1.symm) hown (hts _ (hgT _ hm)) (hts _ (hgT _ math_in.2.1)) (hts _ (hgT _ math_in.2.2.1)) (hts _ (hgT _ math_in.2.2.2.2)) (by omega) (by rw [rest_sum]; omega) hcs.1 hcs.2 hdec h9
  case h_2 =>
    have h0 := a3_of h
    clear h
    obtain ⟨z, na, ret, e1, h⟩ := h0
    subst e1
    have h0 := tk_of _ _ _ h
    clear h
    obtain ⟨xs, r, e1, hlen, h⟩ := h0
    subst e1
    have h0 := lim_of h
    clear h
    obtain ⟨h8, h⟩ := h0
    rw [List.append_nil] at h
    simp only [okA, Bool.and_eq_true, Bool.or_eq_true, beq_iff_eq, decide_eq_true_eq] at hok
    obtain ⟨rfl, ⟨hc, hz⟩, hq⟩ := hok
    split at hq
    case h_2 => cases hq
    case h_1 q hq0 =>
      simp only [Bool.and_eq_true, beq_iff_eq] at hq
      obtain ⟨hqn, hqr⟩ := hq
      obtain ⟨hmt, h41⟩ := mTab_at hq0 hz
      intro H locs la hw hS hL hGl hGs
      obtain ⟨hn, lv, h1, h2⟩ := id hL
      have hgx : ∀ v ∈ xs.reverse, Gd lay ro v := fun v hv => hGs v (List.mem_append_left _ (List.mem_reverse.mp hv))
      have hgr : ∀ v ∈ r, Gd lay ro v := fun v hv => hGs v (List.mem_append_right _ hv)
      have hMet := hcl _ _ _ _ h hz q hq0 (by rw [List.length_reverse, hlen, hqn]) hgx H.size
      have hstk : (xs ++ r).map (vlG ad roAd) = (xs.reverse.map (vlG ad roAd)).reverse ++ r.map (vlG ad roAd) := by simp
      have hpre : PreS s H (mPc D cA cB ad roAd lay ro rc H.size xs.reverse M) (xs.reverse.map (vlG ad roAd)) := ⟨mPc_blind, fun U hU hW => mPre_of hE hw hS hU hW⟩
      have hR : (mRm d).frames + 1 ≤ R.frames ∧ 8 + (q.2.2.1 + 11) + (mRm d).locals ≤ R.locals := ⟨hroom.1, by show 8 + (q.2.2.1 + 11) + 60 * d ≤ R.locals; omega⟩
      have hAl : (xs.reverse.map (vlG ad roAd)).length = q.2.2.2.2.2.1 := by rw [List.length_map, List.length_reverse, hlen, hqn]
      have hgo : ∀ v M', (rv ret v fun w => nx ls (w ++ r) M') → mGo p l e R s m args below meth c cells slots Q D cA cB ad roAd lay ro rc A nL (pc + 3) ls (rtS v ++ r) M' := fun v M' hv => hnx _ _ _ (rv_of hv)
      refine mBehind (as := (xs.reverse.map (vlG ad roAd)).toArray) hE hw hS hL hGl hgr (k := fun v M' => rv ret v fun w => nx ls (w ++ r) M') ?_ hgo
      rw [hstk]
      have key : ∀ b, mSc.contains (own, n, z, b) = true → (parseMethodDescriptor q.1.desc).map (fun d => d.parameters.length) = some q.2.2.2.2.2.1 := fun b hb => by
        have h5 := List.all_eq_true.mp mSc_pd _ (contains_mem hb)
        simp only [hq0, decide_eq_true_eq] at h5
        exact h5
      rcases hc with hc | hc
      · have hm := mSc_ok _ (contains_mem hc)
        simp only [okSc, hq0] at hm
        exact va_runS hF hMet ⟨callB_of q.2.2.2.2.2.1 hts (mGood q hgT hmt) rfl rfl rfl (hts _ (hgT _ hmt.2.1)) (hts _ (hgT _ hm.1)) ⟨hmt.2.2.2.2.1, hmt.2.2.2.2.2, key _ hc⟩ hR, hts _ (hgT _ hm.2)⟩ hpre rfl hAl h1.1 rfl (lv_room (by rw [rest_sum]; exact h8)) hdec ⟨hcs.1, hcs.2⟩
      · have hm := mSc_ok _ (contains_mem hc)
        simp only [okSc, hq0] at hm
        exact va_runSN hF hMet ⟨va_cnB q.2.2.2.2.2.1 hts (mGood q hgT hmt) rfl rfl rfl (hst.2.2 _ hm.1) (hts _ (hgT _ hmt.2.1)) ⟨hmt.2.2.2.2.1, hmt.2.2.2.2.2, key _ hc⟩ hR, hts _ (hgT _ hm.2), trivial⟩ hpre rfl hAl h1.1 rfl (lv_room (by rw [rest_sum]; exact h8)) hdec ⟨hcs.1, hcs.2⟩
set_option maxHeartbeats 4000000 in
theorem mInvV {n : Nat} {K : Nat → List mV → List mV → mM → Prop} {Rt : mQ} {Cl : Nat → List mV → mM → mQ → Prop} {aux : List Nat} {k : Int32} {nx : List mV → List mV → mM → Prop} {hd : Nat → Nat} {pc len : Nat} {rt : Option FieldType} {d : Nat} (hE : mEnv p s m args c D cA cB roAd lay ro rc A Ts cc nL own)  (hdec : decode cc pc = .ok (.invokevirtual n, len)) (hok : okA own rt hd pc (.invokevirtual n) len aux k = true) (hnx : ∀ ls st M, nx ls st M → mGo p l e R s m args below meth c cells slots Q D cA cB ad roAd lay ro rc A nL (pc + len) ls st M)
    (hcl : ∀ z as M k, Cl z as M k → z < mCallable → mCtr l D cA cB ad roAd lay ro rc d z as M k) (hroom : d + 1 ≤ R.frames ∧ 60 * (d + 1) ≤ R.locals) (hcs : cells ≤ R.cells ∧ slots ≤ R.slots)
    {ls st : List mV} {M : mM} (h : stp K Rt Cl (.invokevirtual n) aux k nx ls st M) : mGo p l e R s m args below meth c cells slots Q D cA cB ad roAd lay ro rc A nL pc ls st M := by
  obtain ⟨hF, hgT, hK, hst, hlay, hA⟩ := id hE
  obtain ⟨hx, hb, hml, hown, hts⟩ := id hF
  have h0 := a4_of h
  clear h
  obtain ⟨z, na, ret, ci, e1, h⟩ := h0
  subst e1
  have h0 := tk_of _ _ _ h
  clear h
  obtain ⟨xs, r, e1, hlen, h⟩ := h0
  subst e1
  have h0 := lim_of h
  clear h
  obtain ⟨h8, h⟩ := h0
  rw [List.append_nil] at h
  have h0 := rcv_of h
  clear h
  obtain ⟨rl, rid, ys, hys, h⟩ := h0
  simp only [okA, Bool.and_eq_true, beq_iff_eq, decide_eq_true_eq] at hok
  obtain ⟨rfl, ⟨hc, hz⟩, hq⟩ := hok
  split at hq
  case h_2 => cases hq
  case h_1 q hq0 =>
    simp only [Bool.and_eq_true, beq_iff_eq, decide_eq_true_eq] at hq
    obtain ⟨⟨⟨⟨hqn, hqr⟩, hci⟩, hna⟩, hc9⟩ := hq
    obtain ⟨hmt, h41⟩ := mTab_at hq0 hz
    intro H locs la hw hS hL hGl hGs
    obtain ⟨hn, lv, h1, h2⟩ := id hL
    have hgx : ∀ v ∈ xs.reverse, Gd lay ro v := fun v hv => hGs v (List.mem_append_left _ (List.mem_reverse.mp hv))
    have hgr : ∀ v ∈ r, Gd lay ro v := fun v hv => hGs v (List.mem_append_right _ hv)
    have hMet := hcl _ _ _ _ h hz q hq0 (by rw [List.length_reverse, hlen, hqn]) hgx H.size
    have h51 : ci ≠ 51 := by omega
    have hl := ref_rw (hgx _ (by rw [hys]; exact List.mem_cons_self)) h51
    have hws := wsM_at (cA := cA) (cB := cB) (ad := ad) (M := M) hl
    rw [cellO (by omega) (by omega)] at hws
    obtain ⟨qc, hqc, hqc1⟩ := mOwn_cl ci hc9
    have hrec := va_recv hK hw.1 hqc hws
    rw [hqc1, hci, hmt.2.2.1] at hrec
    have hstk : (xs ++ r).map (vlG ad roAd) = (ys.map (vlG ad roAd)).reverse ++ .ref (ad rid) :: r.map (vlG ad roAd) := by
      have : xs = (mR ci rl rid :: ys).reverse := by rw [← hys, List.reverse_reverse]
      rw [this]
      simp [vl_rw h51]
    have has : (xs.reverse.map (vlG ad roAd)) = .ref (ad rid) :: ys.map (vlG ad roAd) := by rw [hys, List.map_cons, vl_rw h51]
    have hpre : PreV s H q.1.cls (ad rid) (mPc D cA cB ad roAd lay ro rc H.size xs.reverse M) (ys.map (vlG ad roAd)) := ⟨mPc_blind, hrec, fun U hU hW => by rw [← has]; exact mPre_of hE hw hS hU hW⟩
    have hR : (mRm d).frames + 1 ≤ R.frames ∧ 8 + (q.2.2.1 + 11) + (mRm d).locals ≤ R.locals := ⟨hroom.1, by show 8 + (q.2.2.1 + 11) + 60 * d ≤ R.locals; omega⟩
    have hAl : (ys.map (vlG ad roAd)).length = q.2.2.2.2.2.1 - 1 := by
      have : xs.reverse.length = na := by rw [List.length_reverse, hlen]
      rw [hys, List.length_cons] at this
      rw [List.length_map]
      omega
    have hgo : ∀ v M', (rv ret v fun w => nx ls (w ++ r) M') → mGo p l e R s m args below meth c cells slots Q D cA cB ad roAd lay ro rc A nL (pc + 3) ls (rtS v ++ r) M' := fun v M' hv => hnx _ _ _ (rv_of hv)
    refine mBehind (as := (Value.ref (ad rid) :: ys.map (vlG ad roAd)).toArray) hE hw hS hL hGl hgr (k := fun v M' => rv ret v fun w => nx ls (w ++ r) M') ?_ hgo
    rw [hstk]
    have hpd : (parseMethodDescriptor q.1.desc).map (fun d => d.parameters.length) = some (q.2.2.2.2.2.1 - 1) := by
      have h5 := List.all_eq_true.mp mVc_pd _ (contains_mem hc)
      simp only [hq0, decide_eq_true_eq] at h5
      exact h5
    have hm := mVc_ok _ (contains_mem hc)
    simp only [okVc, hq0] at hm
    exact va_runV hF hMet ⟨callB_of (q.2.2.2.2.2.1 - 1) hts (mGood q hgT hmt) rfl rfl rfl (hts _ (hgT _ hmt.2.1)) (hts _ (hgT _ hm.1)) ⟨hmt.2.2.2.2.1, hmt.2.2.2.2.2, hpd⟩ hR, hts _ (hgT _ hm.2.1), hts _ (hgT _ hm.2.2)⟩ hpre rfl hAl h1.1 rfl (lv_room (by rw [rest_sum]; exact h8)) hdec ⟨hcs.1, hcs.2⟩

set_option maxHeartbeats 4000000 in
theorem mStp {i : Instr} {K : Nat → List mV → List mV → mM → Prop} {Rt : mQ} {Cl : Nat → List mV → mM → mQ → Prop} {aux : List Nat} {k : Int32} {nx : List mV → List mV → mM → Prop} {hd : Nat → Nat} {pc len : Nat} {rt : Option FieldType} {d : Nat} (hE : mEnv p s m args c D cA cB roAd lay ro rc A Ts cc nL own)  (hdec : decode cc pc = .ok (i, len)) (hok : okA own rt hd pc i len aux k = true)
    (hKt : ∀ t ls st M, K t ls st M → mGo p l e R s m args below meth c cells slots Q D cA cB ad roAd lay ro rc A nL (hd t) ls st M) (hnx : ∀ ls st M, nx ls st M → mGo p l e R s m args below meth c cells slots Q D cA cB ad roAd lay ro rc A nL (pc + len) ls st M)
    (hrt : ∀ (v : mV) M pc ls, Rt v M → rtOK cc rt pc v → (v ≠ none → Gd lay ro v) → mGo p l e R s m args below meth c cells slots Q D cA cB ad roAd lay ro rc A nL pc ls (rtS v) M)
    (hcl : ∀ z as M k, Cl z as M k → z < mCallable → mCtr l D cA cB ad roAd lay ro rc d z as M k) (hroom : d + 1 ≤ R.frames ∧ 60 * (d + 1) ≤ R.locals) (hcs : cells ≤ R.cells ∧ slots ≤ R.slots) (hnop : i ≠ .nop)
    {ls st : List mV} {M : mM} (h : stp K Rt Cl i aux k nx ls st M) : mGo p l e R s m args below meth c cells slots Q D cA cB ad roAd lay ro rc A nL pc ls st M := by
  obtain ⟨hF, hgT, hK, hst, hlay, hA⟩ := id hE
  obtain ⟨hx, hb, hml, hown, hts⟩ := id hF
  cases i
  case iconst n =>
    simp only [okA, Bool.and_eq_true, beq_iff_eq, decide_eq_true_eq] at hok
    obtain ⟨rfl, rfl⟩ := hok
    intro H locs la hw hS hL hGl hGs
    exact lv_iconst hx hb hdec rfl (hnx _ _ _ h H locs la hw hS hL hGl (gdc trivial hGs))
  case bipush n =>
    simp only [okA, Bool.and_eq_true, beq_iff_eq, decide_eq_true_eq] at hok
    obtain ⟨rfl, rfl⟩ := hok
    intro H locs la hw hS hL hGl hGs
    exact lv_bipush hx hb hdec rfl (hnx _ _ _ h H locs la hw hS hL hGl (gdc trivial hGs))
  case sipush n =>
    simp only [okA, Bool.and_eq_true, beq_iff_eq, decide_eq_true_eq] at hok
    obtain ⟨rfl, rfl⟩ := hok
    intro H locs la hw hS hL hGl hGs
    exact lv_sipush hx hb hdec rfl (hnx _ _ _ h H locs la hw hS hL hGl (gdc trivial hGs))
  case ldc n =>
    simp only [okA, Bool.and_eq_true, beq_iff_eq] at hok
    obtain ⟨rfl, hc⟩ := hok
    have hm := mKl_ok _ (contains_mem hc)
    intro H locs la hw hS hL hGl hGs
    exact lv_ldc hx hb hown (hts _ (hgT _ hm)) hdec (hnx _ _ _ h H locs la hw hS hL hGl (gdc trivial hGs))
  case ldc_w n =>
    simp only [okA, Bool.and_eq_true, beq_iff_eq] at hok
    obtain ⟨rfl, hc⟩ := hok
    have hm := mKl_ok _ (contains_mem hc)
    intro H locs la hw hS hL hGl hGs
    exact lv_ldcw hx hb hown (hts _ (hgT _ hm)) hdec (hnx _ _ _ h H locs la hw hS hL hGl (gdc trivial hGs))
  case iload_n n =>
    simp only [okA, beq_iff_eq] at hok
    subst hok
    have h0 := ldI_of h
    clear h
    obtain ⟨x, hi, h⟩ := h0
    intro H locs la hw hS hL hGl hGs
    exact lv_iload_n hx hb hdec rfl (hL.get hi) (hnx _ _ _ h H locs la hw hS hL hGl (gdc trivial hGs))
  case iload n =>
    simp only [okA, beq_iff_eq] at hok
    subst hok
    have h0 := ldI_of h
    clear h
    obtain ⟨x, hi, h⟩ := h0
    intro H locs la hw hS hL hGl hGs
    exact lv_iload hx hb hdec (hL.get hi) (hnx _ _ _ h H locs la hw hS hL hGl (gdc trivial hGs))
  case aload_n n =>
    simp only [okA, beq_iff_eq] at hok
    subst hok
    have h0 := ldR_of h
    clear h
    obtain ⟨kd, ln, id, hi, h⟩ := h0
    intro H locs la hw hS hL hGl hGs
    exact lv_aload_n hx hb hdec rfl (hL.get hi) (hnx _ _ _ h H locs la hw hS hL hGl (gdc (hGl _ _ hi) hGs))
  case aload n =>
    simp only [okA, beq_iff_eq] at hok
    subst hok
    have h0 := ldR_of h
    clear h
    obtain ⟨kd, ln, id, hi, h⟩ := h0
    intro H locs la hw hS hL hGl hGs
    exact lv_aload hx hb hdec (hL.get hi) (hnx _ _ _ h H locs la hw hS hL hGl (gdc (hGl _ _ hi) hGs))
  case istore_n n =>
    simp only [okA, beq_iff_eq] at hok
    subst hok
    have h0 := p1_of h
    clear h
    obtain ⟨x, r, e1, h⟩ := h0
    subst e1
    have h0 := sto_of h
    clear h
    obtain ⟨hi, h⟩ := h0
    intro H locs la hw hS hL hGl hGs
    obtain ⟨hn, lv, h1, h2⟩ := id hL
    exact lv_istore_n hx hb hdec rfl h1 (by rw [← hn]; exact hi) rfl (fun la' hla => hnx _ _ _ h H locs la' hw hS (LH.set (v := .inl x) rfl hn h2 hla) (GdL_set hGl trivial) (gdt hGs))
  case istore n =>
    simp only [okA, beq_iff_eq] at hok
    subst hok
    have h0 := p1_of h
    clear h
    obtain ⟨x, r, e1, h⟩ := h0
    subst e1
    have h0 := sto_of h
    clear h
    obtain ⟨hi, h⟩ := h0
    intro H locs la hw hS hL hGl hGs
    obtain ⟨hn, lv, h1, h2⟩ := id hL
    exact lv_istore hx hb hdec h1 (by rw [← hn]; exact hi) rfl (fun la' hla => hnx _ _ _ h H locs la' hw hS (LH.set (v := .inl x) rfl hn h2 hla) (GdL_set hGl trivial) (gdt hGs))
  case astore_n n =>
    simp only [okA, beq_iff_eq] at hok
    subst hok
    have h0 := pR_of h
    clear h
    obtain ⟨kd, ln, id, r, e1, h⟩ := h0
    subst e1
    have h0 := sto_of h
    clear h
    obtain ⟨hi, h⟩ := h0
    intro H locs la hw hS hL hGl hGs
    obtain ⟨hn, lv, h1, h2⟩ := _root_.id hL
    exact lv_astore_n hx hb hdec rfl h1 (by rw [← hn]; exact hi) rfl (fun la' hla => hnx _ _ _ h H locs la' hw hS (LH.set (v := .inr (kd, ln, id)) rfl hn h2 hla) (GdL_set hGl (gdh hGs)) (gdt hGs))
  case astore n =>
    simp only [okA, beq_iff_eq] at hok
    subst hok
    have h0 := pR_of h
    clear h
    obtain ⟨kd, ln, id, r, e1, h⟩ := h0
    subst e1
    have h0 := sto_of h
    clear h
    obtain ⟨hi, h⟩ := h0
    intro H locs la hw hS hL hGl hGs
    obtain ⟨hn, lv, h1, h2⟩ := _root_.id hL
    exact lv_astore hx hb hdec h1 (by rw [← hn]; exact hi) rfl (fun la' hla => hnx _ _ _ h H locs la' hw hS (LH.set (v := .inr (kd, ln, id)) rfl hn h2 hla) (GdL_set hGl (gdh hGs)) (gdt hGs))
  case iinc n j =>
    simp only [okA, Bool.and_eq_true, beq_iff_eq, decide_eq_true_eq] at hok
    obtain ⟨rfl, rfl⟩ := hok
    have h0 := ldI_of h
    clear h
    obtain ⟨x, hi, h⟩ := h0
    have h0 := sto_of h
    clear h
    obtain ⟨hi2, h⟩ := h0
    intro H locs la hw hS hL hGl hGs
    obtain ⟨hn, lv, h1, h2⟩ := id hL
    obtain ⟨q, hq⟩ := List.getElem?_of_mem (h2 _ _ hi)
    exact lv_iinc hx hb hdec h1 hq rfl (by rw [← hn]; exact hi2) rfl (fun la' hla => hnx _ _ _ h H locs la' hw hS (LH.set (v := .inl (x + Int32.ofInt j)) rfl hn h2 hla) (GdL_set hGl trivial) hGs)
  case iadd =>
    simp only [okA, beq_iff_eq] at hok
    subst hok
    have h0 := p2_of h
    clear h
    obtain ⟨x, y, r, e1, h⟩ := h0
    subst e1
    intro H locs la hw hS hL hGl hGs
    exact lv_iadd hx hb hdec (hnx _ _ _ h H locs la hw hS hL hGl (gdc trivial (gdt (gdt hGs))))
  case isub =>
    simp only [okA, beq_iff_eq] at hok
    subst hok
    have h0 := p2_of h
    clear h
    obtain ⟨x, y, r, e1, h⟩ := h0
    subst e1
    intro H locs la hw hS hL hGl hGs
    exact lv_isub hx hb hdec (hnx _ _ _ h H locs la hw hS hL hGl (gdc trivial (gdt (gdt hGs))))
  case imul =>
    simp only [okA, beq_iff_eq] at hok
    subst hok
    have h0 := p2_of h
    clear h
    obtain ⟨x, y, r, e1, h⟩ := h0
    subst e1
    intro H locs la hw hS hL hGl hGs
    exact lv_imul hx hb hdec (hnx _ _ _ h H locs la hw hS hL hGl (gdc trivial (gdt (gdt hGs))))
  case iand =>
    simp only [okA, beq_iff_eq] at hok
    subst hok
    have h0 := p2_of h
    clear h
    obtain ⟨x, y, r, e1, h⟩ := h0
    subst e1
    intro H locs la hw hS hL hGl hGs
    exact lv_iand hx hb hdec (hnx _ _ _ h H locs la hw hS hL hGl (gdc trivial (gdt (gdt hGs))))
  case ior =>
    simp only [okA, beq_iff_eq] at hok
    subst hok
    have h0 := p2_of h
    clear h
    obtain ⟨x, y, r, e1, h⟩ := h0
    subst e1
    intro H locs la hw hS hL hGl hGs
    exact lv_ior hx hb hdec (hnx _ _ _ h H locs la hw hS hL hGl (gdc trivial (gdt (gdt hGs))))
  case ixor =>
    simp only [okA, beq_iff_eq] at hok
    subst hok
    have h0 := p2_of h
    clear h
    obtain ⟨x, y, r, e1, h⟩ := h0
    subst e1
    intro H locs la hw hS hL hGl hGs
    exact lv_ixor hx hb hdec (hnx _ _ _ h H locs la hw hS hL hGl (gdc trivial (gdt (gdt hGs))))
  case ishl =>
    simp only [okA, beq_iff_eq] at hok
    subst hok
    have h0 := p2_of h
    clear h
    obtain ⟨x, y, r, e1, h⟩ := h0
    subst e1
    intro H locs la hw hS hL hGl hGs
    exact lv_ishl hx hb hdec (hnx _ _ _ h H locs la hw hS hL hGl (gdc trivial (gdt (gdt hGs))))
  case ishr =>
    simp only [okA, beq_iff_eq] at hok
    subst hok
    have h0 := p2_of h
    clear h
    obtain ⟨x, y, r, e1, h⟩ := h0
    subst e1
    intro H locs la hw hS hL hGl hGs
    exact lv_ishr hx hb hdec (hnx _ _ _ h H locs la hw hS hL hGl (gdc trivial (gdt (gdt hGs))))
  case iushr =>
    simp only [okA, beq_iff_eq] at hok
    subst hok
    have h0 := p2_of h
    clear h
    obtain ⟨x, y, r, e1, h⟩ := h0
    subst e1
    intro H locs la hw hS hL hGl hGs
    exact lv_iushr hx hb hdec rfl (hnx _ _ _ h H locs la hw hS hL hGl (gdc trivial (gdt (gdt hGs))))
  case idiv =>
    simp only [okA, beq_iff_eq] at hok
    subst hok
    have h0 := p2_of h
    clear h
    obtain ⟨x, y, r, e1, h0, h⟩ := h0
    subst e1
    intro H locs la hw hS hL hGl hGs
    exact lv_idiv hx hb hdec h0 (hnx _ _ _ h H locs la hw hS hL hGl (gdc trivial (gdt (gdt hGs))))
  case irem =>
    simp only [okA, beq_iff_eq] at hok
    subst hok
    have h0 := p2_of h
    clear h
    obtain ⟨x, y, r, e1, h0, h⟩ := h0
    subst e1
    intro H locs la hw hS hL hGl hGs
    exact lv_irem hx hb hdec h0 (hnx _ _ _ h H locs la hw hS hL hGl (gdc trivial (gdt (gdt hGs))))
  case pop =>
    simp only [okA, beq_iff_eq] at hok
    subst hok
    cases st with
    | nil => exact h.elim
    | cons v r =>
      intro H locs la hw hS hL hGl hGs
      exact lv_pop hx hb hdec (vlG_cat _ _ v) (hnx _ _ _ h H locs la hw hS hL hGl (gdt hGs))
  case dup =>
    simp only [okA, beq_iff_eq] at hok
    subst hok
    cases st with
    | nil => exact h.elim
    | cons v r =>
      intro H locs la hw hS hL hGl hGs
      exact lv_dup hx hb hdec (vlG_cat _ _ v) (hnx _ _ _ h H locs la hw hS hL hGl (gdc (gdh hGs) hGs))
  case ifCond c off =>
    have h0 := p1_of h
    clear h
    obtain ⟨x, r, e1, h⟩ := h0
    subst e1
    have h0 := a1_of h
    clear h
    obtain ⟨t, e1, h⟩ := h0
    subst e1
    simp only [okA, Bool.and_eq_true, beq_iff_eq, decide_eq_true_eq] at hok
    obtain ⟨rfl, ht⟩ := hok
    intro H locs la hw hS hL hGl hGs
    have g := gdt hGs
    cases c
    case eq => exact lv_if_eq hx hb hdec ht (fun q => hKt _ _ _ _ (h.1 q) H locs la hw hS hL hGl g) (fun q => hnx _ _ _ (h.2 q) H locs la hw hS hL hGl g)
    case ne => exact lv_if_ne hx hb hdec ht (fun q => hKt _ _ _ _ (h.1 q) H locs la hw hS hL hGl g) (fun q => hnx _ _ _ (h.2 q) H locs la hw hS hL hGl g)
    case lt => exact lv_if_lt hx hb hdec ht (fun q => hKt _ _ _ _ (h.1 q) H locs la hw hS hL hGl g) (fun q => hnx _ _ _ (h.2 q) H locs la hw hS hL hGl g)
    case ge => exact lv_if_ge hx hb hdec ht (fun q => hKt _ _ _ _ (h.1 q) H locs la hw hS hL hGl g) (fun q => hnx _ _ _ (h.2 q) H locs la hw hS hL hGl g)
    case gt => exact lv_if_gt hx hb hdec ht (fun q => hKt _ _ _ _ (h.1 q) H locs la hw hS hL hGl g) (fun q => hnx _ _ _ (h.2 q) H locs la hw hS hL hGl g)
    case le => exact lv_if_le hx hb hdec ht (fun q => hKt _ _ _ _ (h.1 q) H locs la hw hS hL hGl g) (fun q => hnx _ _ _ (h.2 q) H locs la hw hS hL hGl g)
  case if_icmp c off =>
    have h0 := p2_of h
    clear h
    obtain ⟨x, y, r, e1, h⟩ := h0
    subst e1
    have h0 := a1_of h
    clear h
    obtain ⟨t, e1, h⟩ := h0
    subst e1
    simp only [okA, Bool.and_eq_true, beq_iff_eq, decide_eq_true_eq] at hok
    obtain ⟨rfl, ht⟩ := hok
    intro H locs la hw hS hL hGl hGs
    have g := gdt (gdt hGs)
    cases c
    case eq => exact lv_icmp_eq hx hb hdec ht (fun q => hKt _ _ _ _ (h.1 q) H locs la hw hS hL hGl g) (fun q => hnx _ _ _ (h.2 q) H locs la hw hS hL hGl g)
    case ne => exact lv_icmp_ne hx hb hdec ht (fun q => hKt _ _ _ _ (h.1 q) H locs la hw hS hL hGl g) (fun q => hnx _ _ _ (h.2 q) H locs la hw hS hL hGl g)
    case lt => exact lv_icmp_lt hx hb hdec ht (fun q => hKt _ _ _ _ (h.1 q) H locs la hw hS hL hGl g) (fun q => hnx _ _ _ (h.2 q) H locs la hw hS hL hGl g)
    case ge => exact lv_icmp_ge hx hb hdec ht (fun q => hKt _ _ _ _ (h.1 q) H locs la hw hS hL hGl g) (fun q => hnx _ _ _ (h.2 q) H locs la hw hS hL hGl g)
    case gt => exact lv_icmp_gt hx hb hdec ht (fun q => hKt _ _ _ _ (h.1 q) H locs la hw hS hL hGl g) (fun q => hnx _ _ _ (h.2 q) H locs la hw hS hL hGl g)
    case le => exact lv_icmp_le hx hb hdec ht (fun q => hKt _ _ _ _ (h.1 q) H locs la hw hS hL hGl g) (fun q => hnx _ _ _ (h.2 q) H locs la hw hS hL hGl g)
  case goto off =>
    have h0 := a1_of h
    clear h
    obtain ⟨t, e1, h⟩ := h0
    subst e1
    simp only [okA, Bool.and_eq_true, beq_iff_eq, decide_eq_true_eq] at hok
    obtain ⟨rfl, ht⟩ := hok
    intro H locs la hw hS hL hGl hGs
    exact lv_goto hx hb hdec ht (hKt _ _ _ _ h H locs la hw hS hL hGl hGs)
  case nop =>
    exact absurd rfl hnop
  case tableswitch dd lo hi offs =>
    have h0 := p1_of h
    clear h
    obtain ⟨x, r, e1, h⟩ := h0
    subst e1
    cases aux with
    | nil => exact h.elim
    | cons t0 ts =>
      simp only [okA, Bool.and_eq_true, decide_eq_true_eq] at hok
      obtain ⟨⟨⟨ht, hhi⟩, hsz⟩, hall⟩ := hok
      intro H locs la hw hS hL hGl hGs
      have g := gdt hGs
      by_cases ho : x.toInt < lo ∨ hi < x.toInt
      · exact lv_tableOut hx hb hdec ho ht (hKt _ _ _ _ (h.1 ho) H locs la hw hS hL hGl g)
      · have h1 : ¬ x.toInt < lo := fun q => ho (Or.inl q)
        have h2 : ¬ hi < x.toInt := fun q => ho (Or.inr q)
        have hj : (x.toInt - lo).toNat < ts.length := by omega
        have h3 := List.all_eq_true.mp hall _ (List.mem_range.mpr hj)
        have e1 : ts[(x.toInt - lo).toNat]? = some ts[(x.toInt - lo).toNat] := List.getElem?_eq_getElem hj
        have e2 : offs[(x.toInt - lo).toNat]? = some (offs[(x.toInt - lo).toNat]'(by rw [← hsz]; exact hj)) := Array.getElem?_eq_getElem _
        rw [e1, e2] at h3
        simp only [decide_eq_true_eq] at h3
        exact lv_tableIn hx hb hdec h1 h2 e2 h3 (hKt _ _ _ _ (tsw_of _ _ h.2 _ _ e1 (by omega)) H locs la hw hS hL hGl g)
  case getfield n =>
    have h0 := pR_of h
    clear h
    obtain ⟨kd, ln, id, r, e1, h⟩ := h0
    subst e1
    have h0 := a2_of h
    clear h
    obtain ⟨ci, j, e1, h⟩ := h0
    subst e1
    simp only [okA, Bool.and_eq_true, beq_iff_eq] at hok
    obtain ⟨rfl, hc⟩ := hok
    have hm := mFl_ok _ (contains_mem hc)
    unfold gtf at h
    split at h
    case isFalse => exact h.elim
    case isTrue he =>
      subst he
      intro H locs la hw hS hL hGl hGs
      simp only [okF] at hm
      split at hm
      case h_2 => exact hm.elim
      case h_1 q hq =>
        obtain ⟨hj, hlk⟩ := hm
        have hq2 := vwCl_ok _ (List.mem_of_getElem? hq)
        have hne : kd ≠ 50 ∧ kd ≠ 52 ∧ kd ≠ 51 := by
          have : kd < vwCl.length := (List.getElem?_eq_some_iff.mp hq).1
          have : vwCl.length = 9 := rfl
          omega
        have hl := ref_rw (gdh hGs) hne.2.2
        have hws := wsM_at (cA := cA) (cB := cB) (ad := ad) (M := M) hl
        rw [cellO hne.1 hne.2.1] at hws
        have g := gdt hGs
        show W p l e R s m args below meth c H locs cells slots Q (F0 m pc la (vlG ad roAd (mR kd ln id) :: r.map (vlG ad roAd)))
        rw [vl_rw hne.2.2]
        split at h
        case h_1 hs =>
          exact va_get (v := .int (M id j)) (C := q.1) (T := q.2.1) (N := q.2.2) hx hb hts (fun w hw => hgT _ (hq2.1 w hw)) hown hK hw.1 id hws hq j hj (hts _ (hgT _ hlk)) (fun _ h => h) (by rw [slE_at, hs]; rfl) hdec (hnx _ _ _ h H locs la hw hS hL hGl (gdc trivial g))
        case h_2 kd' len' off hs =>
          have hl2 := (((hlay.2 _ _ _ hl).2 hne.1 hne.2.1).choose_spec).2.2 _ _ _ _ hs
          refine va_get (v := .ref (ad (id + off))) (C := q.1) (T := q.2.1) (N := q.2.2) hx hb hts (fun w hw => hgT _ (hq2.1 w hw)) hown hK hw.1 id hws hq j hj (hts _ (hgT _ hlk)) (fun _ h => h) (by rw [slE_at, hs]; rfl) hdec ?_
          have h9 := hnx _ _ _ h H locs la hw hS hL hGl (gdc (by show (if kd' = 51 then _ else _); rw [if_neg hl2.1]; exact hl2.2) g)
          rw [List.map_cons, vl_rw hl2.1] at h9
          exact h9
        case h_3 => exact h.elim
  case putfield n =>
    have h0 := p1_of h
    clear h
    obtain ⟨v, r1, e1, h⟩ := h0
    subst e1
    have h0 := pR_of h
    clear h
    obtain ⟨kd, ln, id, r, e1, h⟩ := h0
    subst e1
    have h0 := a2_of h
    clear h
    obtain ⟨ci, j, e1, h⟩ := h0
    subst e1
    simp only [okA, Bool.and_eq_true, beq_iff_eq] at hok
    obtain ⟨rfl, hc, hfi⟩ := hok
    have hm := mFl_ok _ (contains_mem hc)
    unfold ptf at h
    split at h
    case isFalse => exact h.elim
    case isTrue he =>
      subst he
      intro H locs la hw hS hL hGl hGs
      simp only [okF] at hm
      split at hm
      case h_2 => exact hm.elim
      case h_1 q hq =>
        rw [hq] at hfi
        simp only [Bool.and_eq_true, decide_eq_true_eq] at hfi
        obtain ⟨hj, hlk⟩ := hm
        have hq2 := vwCl_ok _ (List.mem_of_getElem? hq)
        obtain ⟨ty0, hty⟩ := hq2.2.1
        have hne : kd ≠ 50 ∧ kd ≠ 52 ∧ kd ≠ 51 := by
          have : kd < vwCl.length := (List.getElem?_eq_some_iff.mp hq).1
          have : vwCl.length = 9 := rfl
          omega
        have hl := ref_rw (gdh (gdt hGs)) hne.2.2
        have hws := wsM_at (cA := cA) (cB := cB) (ad := ad) (M := M) hl
        rw [cellO hne.1 hne.2.1] at hws
        have g := gdt (gdt hGs)
        show W p l e R s m args below meth c H locs cells slots Q (F0 m pc la (.int v :: vlG ad roAd (mR kd ln id) :: r.map (vlG ad roAd)))
        rw [vl_rw hne.2.2]
        split at h
        case h_1 hs =>
          refine va_put (v := .int v) (ty := .int) (C := q.1) (T := q.2.1) (N := q.2.2) hx hb hts (fun w hw => hgT _ (hq2.1 w hw)) ty0 hty hq2.2.2 hown hK hw.1 hw.2.1 hS id hws hq j hj (hts _ (hgT _ hlk)) (fun _ h => h) hfi.1 (by rw [hfi.2]; decide +kernel) rfl rfl (by have := (List.getElem?_eq_some_iff.mp hs).1; simpa [slE] using this) hdec (fun H1 locs1 hP1 hD1 hS1 => ?_)
          have e1 : (wsM cA cB ad lay M).set id (ad id, .inr (kd, (slE ad M id (mSh kd)).set j (.int v))) = wsM cA cB ad lay (up M id j v) := wsM_set hl (by rw [cellO hne.1 hne.2.1, slE_set hs])
          rw [e1] at hP1 hD1
          exact hnx _ _ _ h H1 locs1 la ⟨hP1, hD1, up_ro (layOK_lt hlay hl) hw.2.2⟩ hS1 hL hGl g
        case h_2 => exact h.elim
  case getstatic n =>
    have h0 := a1_of h
    clear h
    obtain ⟨j, e1, h⟩ := h0
    subst e1
    simp only [okA, Bool.and_eq_true, Bool.or_eq_true, beq_iff_eq] at hok
    obtain ⟨rfl, hc⟩ := hok
    intro H locs la hw hS hL hGl hGs
    split at h
    case h_2 => exact h.elim
    case h_1 q hq =>
      obtain ⟨hro, hZ⟩ := hst.2.1 j q hq
      have g : ∀ w ∈ mR 51 q.2.2 j :: st, Gd lay ro w := gdc (by exact hro) hGs
      have h9 := hnx _ _ _ h H locs la hw hS hL hGl g
      rcases hc with hc | hc
      · have hm := mSl_ok _ (contains_mem hc)
        simp only [okS, hq] at hm
        exact va_gets hx hb hZ hS hown (hts _ (hgT _ hm)) (fun _ h => h) hdec h9
      · have hm := mSl_ok _ (contains_mem hc)
        simp only [okS, hq] at hm
        exact va_getsN hx hb hZ hS hown (va_Nw.use rfl (hst.2.2 _ hm)) (fun _ h => h) hdec h9
  case iaload =>
    simp only [okA, beq_iff_eq] at hok
    subst hok
    have h0 := pIR_of h
    clear h
    obtain ⟨x, kd, ln, id, r, e1, h⟩ := h0
    subst e1
    intro H locs la hw hS hL hGl hGs
    have g := gdt (gdt hGs)
    unfold ald at h
    split at h
    case isTrue he =>
      subst he
      have hl := ref_rw (gdh (gdt hGs)) (by decide)
      have hws := wsM_at (cA := cA) (cB := cB) (ad := ad) (M := M) hl
      rw [cell50] at hws
      exact va_iald hx hb hK hw.1 id 0 hws rfl h.1 hdec (hnx _ _ _ h.2 H locs la hw hS hL hGl (gdc trivial g))
    case isFalse =>
      split at h
      case isFalse => exact h.elim
      case isTrue he =>
        subst he
        have hl := ref_ro (gdh (gdt hGs))
        have hT := hst.1 id ln hl
        exact va_ti hx hb hT hS h.1 (v := .int (M (1000 + id) x.toNatClampNeg)) (by rw [hw.2.2]) hdec (hnx _ _ _ h.2 H locs la hw hS hL hGl (gdc trivial g))
  case baload =>
    simp only [okA, beq_iff_eq] at hok
    subst hok
    have h0 := pIR_of h
    clear h
    obtain ⟨x, kd, ln, id, r, e1, h⟩ := h0
    subst e1
    intro H locs la hw hS hL hGl hGs
    have g := gdt (gdt hGs)
    unfold bld at h
    split at h
    case isTrue he =>
      subst he
      have hl := ref_rw (gdh (gdt hGs)) (by decide)
      have hws := wsM_at (cA := cA) (cB := cB) (ad := ad) (M := M) hl
      rw [cell52] at hws
      exact va_zald hx hb hK hw.1 id 1 hws rfl h.1 hdec (hnx _ _ _ h.2 H locs la hw hS hL hGl (gdc trivial g))
    case isFalse => exact h.elim
  case iastore =>
    simp only [okA, beq_iff_eq] at hok
    subst hok
    have h0 := pIIR_of h
    clear h
    obtain ⟨x, j, kd, ln, id, r, e1, h⟩ := h0
    subst e1
    intro H locs la hw hS hL hGl hGs
    have g := gdt (gdt (gdt hGs))
    unfold ast at h
    split at h
    case isTrue he =>
      subst he
      have hl := ref_rw (gdh (gdt (gdt hGs))) (by decide)
      have hws := wsM_at (cA := cA) (cB := cB) (ad := ad) (M := M) hl
      rw [cell50] at hws
      refine va_iast hx hb hK hw.1 hw.2.1 hS id 0 hws rfl h.1 hdec (fun H1 locs1 hP1 hD1 hS1 => ?_)
      rw [upd_up, wsM_set hl cell50.symm] at hP1 hD1
      exact hnx _ _ _ h.2 H1 locs1 la ⟨hP1, hD1, up_ro (layOK_lt hlay hl) hw.2.2⟩ hS1 hL hGl g
    case isFalse => exact h.elim
  case bastore =>
    simp only [okA, beq_iff_eq] at hok
    subst hok
    have h0 := pIIR_of h
    clear h
    obtain ⟨x, j, kd, ln, id, r, e1, h⟩ := h0
    subst e1
    intro H locs la hw hS hL hGl hGs
    have g := gdt (gdt (gdt hGs))
    unfold bst at h
    split at h
    case isTrue he =>
      subst he
      have hl := ref_rw (gdh (gdt (gdt hGs))) (by decide)
      have hws := wsM_at (cA := cA) (cB := cB) (ad := ad) (M := M) hl
      rw [cell52] at hws
      refine va_zast hx hb hK hw.1 hw.2.1 hS id 1 hws rfl h.1 hdec (fun H1 locs1 hP1 hD1 hS1 => ?_)
      rw [upd_up, wsM_set hl cell52.symm] at hP1 hD1
      exact hnx _ _ _ h.2 H1 locs1 la ⟨hP1, hD1, up_ro (layOK_lt hlay hl) hw.2.2⟩ hS1 hL hGl g
    case isFalse => exact h.elim
  case arraylength =>
    simp only [okA, beq_iff_eq] at hok
    subst hok
    have h0 := pR_of h
    clear h
    obtain ⟨kd, ln, id, r, e1, h⟩ := h0
    subst e1
    intro H locs la hw hS hL hGl hGs
    have g := gdt hGs
    unfold aln at h
    split at h
    case isTrue he =>
      subst he
      have hl := ref_rw (gdh hGs) (by decide)
      have hws := wsM_at (cA := cA) (cB := cB) (ad := ad) (M := M) hl
      rw [cell50] at hws
      exact va_alen hx hb hK hw.1 id 0 hws rfl rfl hdec (hnx _ _ _ h H locs la hw hS hL hGl (gdc trivial g))
    case isFalse =>
      split at h
      case isFalse => exact h.elim
      case isTrue he =>
        subst he
        have hT := hst.1 id ln (ref_ro (gdh hGs))
        exact va_tlen hx hb hT hS rfl hdec (hnx _ _ _ h H locs la hw hS hL hGl (gdc trivial g))
  case ireturn =>
    have h0 := a1_of h
    clear h
    obtain ⟨b, e1, h⟩ := h0
    subst e1
    simp only [okA, Bool.and_eq_true, beq_iff_eq] at hok
    obtain ⟨rfl, hr⟩ := hok
    split at h
    case h_2 => exact h.elim
    case h_1 x =>
      unfold ire at h
      split at h
      · exact hrt (mI x) M pc ls h ⟨hdec, Or.inl (by simpa using hr)⟩ (fun _ => trivial)
      · exact hrt (mI x) M pc ls h.2 ⟨hdec, Or.inr ⟨by simpa using hr, h.1⟩⟩ (fun _ => trivial)
      · exact h.elim
  case areturn =>
    simp only [okA, Bool.and_eq_true, beq_iff_eq] at hok
    obtain ⟨rfl, hr⟩ := hok
    unfold stp at h
    dsimp only at h
    split at h
    case h_2 => exact h.elim
    case h_1 kd ln id =>
      intro H locs la hw hS hL hGl hGs
      exact hrt (mR kd ln id) M pc ls h ⟨hdec, by split at hr; exact ⟨_, rfl⟩; cases hr⟩ (fun _ => gdh hGs) H locs la hw hS hL hGl hGs
  case return_ =>
    simp only [okA, Bool.and_eq_true, beq_iff_eq, decide_eq_true_eq] at hok
    obtain ⟨rfl, hr⟩ := hok
    unfold stp at h
    dsimp only at h
    split at h
    case h_2 => exact h.elim
    case h_1 => exact hrt none M pc ls h ⟨hdec, hr⟩ (fun h => absurd rfl h)
  case invokestatic n =>
    exact mInvS hE hdec hok hnx hcl hroom hcs h
  case invokevirtual n =>
    exact mInvV hE hdec hok hnx hcl hroom hcs h
  all_goals exact h.elim
end MS
