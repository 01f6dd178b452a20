/-! THE SMALL MACHINE: a weakest precondition over decoded instructions, a memory of ints (cell, place), references as (kind, length, cell) -/
abbrev mV : Type := Option (Int32 ⊕ (Nat × Nat × Nat))
abbrev mI (x : Int32) : mV := some (.inl x)
abbrev mR (kd len id : Nat) : mV := some (.inr (kd, len, id))
abbrev mM : Type := Nat → Nat → Int32
def up (M : mM) (k j : Nat) (v : Int32) : mM := fun k' j' => if k' = k ∧ j' = j then v else M k' j'
abbrev mIns : Type := Nat × Instr × Nat × List Nat × Int32
abbrev mQ : Type := mV → mM → Prop
def p1 (st : List mV) (f : Int32 → List mV → Prop) : Prop := match st with
  | some (.inl x) :: r => f x r
  | _ => False
def p2 (st : List mV) (f : Int32 → Int32 → List mV → Prop) : Prop := match st with
  | some (.inl y) :: some (.inl x) :: r => f x y r
  | _ => False
def pR (st : List mV) (f : Nat → Nat → Nat → List mV → Prop) : Prop := match st with
  | some (.inr (kd, len, id)) :: r => f kd len id r
  | _ => False
def pIR (st : List mV) (f : Int32 → Nat → Nat → Nat → List mV → Prop) : Prop := match st with
  | some (.inl x) :: some (.inr (kd, len, id)) :: r => f x kd len id r
  | _ => False
def pIIR (st : List mV) (f : Int32 → Int32 → Nat → Nat → Nat → List mV → Prop) : Prop := match st with
  | some (.inl x) :: some (.inl i) :: some (.inr (kd, len, id)) :: r => f x i kd len id r
  | _ => False
def a1 (aux : List Nat) (f : Nat → Prop) : Prop := match aux with
  | [a] => f a
  | _ => False
def a2 (aux : List Nat) (f : Nat → Nat → Prop) : Prop := match aux with
  | [a, b] => f a b
  | _ => False
def a3 (aux : List Nat) (f : Nat → Nat → Nat → Prop) : Prop := match aux with
  | [a, b, c] => f a b c
  | _ => False
def a4 (aux : List Nat) (f : Nat → Nat → Nat → Nat → Prop) : Prop := match aux with
  | [a, b, c, d] => f a b c d
  | _ => False
/-- the receiver is an object of class ci -/
def rcv (ci : Nat) (as : List mV) (P : Prop) : Prop := match as with
  | some (.inr (kd, _, _)) :: _ => if kd = ci then P else False
  | _ => False
/-- at most eight values lie below a call's arguments -/
def lim (r : List mV) (P : Prop) : Prop := if r.length ≤ 8 then P else False
def ldI (ls : List mV) (i : Nat) (f : Int32 → Prop) : Prop := match ls[i]? with
  | some (some (.inl x)) => f x
  | _ => False
def ldR (ls : List mV) (i : Nat) (f : Nat → Nat → Nat → Prop) : Prop := match ls[i]? with
  | some (some (.inr (kd, len, id))) => f kd len id
  | _ => False
def sto (ls : List mV) (i : Nat) (v : mV) (f : List mV → Prop) : Prop := match ls[i]? with
  | some _ => f (ls.set i v)
  | none => False
def tk : Nat → List mV → List mV → (List mV → List mV → Prop) → Prop
  | 0, st, acc, f => f acc st
  | n + 1, v :: st, acc, f => tk n st (v :: acc) f
  | _ + 1, [], _, _ => False
def rv (ret : Nat) (v : mV) (f : List mV → Prop) : Prop := match ret, v with
  | 0, none => f []
  | 1, some (.inl x) => f [mI x]
  | 2, some (.inr (kd, len, id)) => f [mR kd len id]
  | _, _ => False
def tsw (x : Int32) : List Nat → Int → (Nat → Prop) → Prop
  | [], _, _ => True
  | t :: ts, n, f => (x.toInt = n → f t) ∧ tsw x ts (n + 1) f
def cc1 (c : Jvm.ClassFile.Cond) (x : Int32) (A B : Prop) : Prop := match c with
  | .eq => (x = 0 → A) ∧ (¬ x = 0 → B)
  | .ne => (¬ x = 0 → A) ∧ (x = 0 → B)
  | .lt => (x < 0 → A) ∧ (¬ x < 0 → B)
  | .ge => (0 ≤ x → A) ∧ (¬ 0 ≤ x → B)
  | .gt => (0 < x → A) ∧ (¬ 0 < x → B)
  | .le => (x ≤ 0 → A) ∧ (¬ x ≤ 0 → B)
def cc2 (c : Jvm.ClassFile.Cond) (x y : Int32) (A B : Prop) : Prop := match c with
  | .eq => (x = y → A) ∧ (¬ x = y → B)
  | .ne => (¬ x = y → A) ∧ (x = y → B)
  | .lt => (x < y → A) ∧ (¬ x < y → B)
  | .ge => (y ≤ x → A) ∧ (¬ y ≤ x → B)
  | .gt => (y < x → A) ∧ (¬ y < x → B)
  | .le => (x ≤ y → A) ∧ (¬ x ≤ y → B)
def gtf (ci j kd id : Nat) (M : mM) (f : mV → Prop) : Prop := if kd = ci then (match (mSh ci)[j]? with
  | some none => f (mI (M id j))
  | some (some (kd', len', off)) => f (mR kd' len' (id + off))
  | none => False) else False
def ptf (ci j kd id : Nat) (M : mM) (v : Int32) (f : mM → Prop) : Prop := if kd = ci then (match (mSh ci)[j]? with
  | some none => f (up M id j v)
  | _ => False) else False
def ald (kd len id : Nat) (i : Int32) (M : mM) (f : Int32 → Prop) : Prop := if kd = 50 then (vp_in i len ∧ f (M id i.toNatClampNeg)) else if kd = 51 then (vp_in i len ∧ f (M (1000 + id) i.toNatClampNeg)) else False
def ast (kd len id : Nat) (i v : Int32) (M : mM) (f : mM → Prop) : Prop := if kd = 50 then (vp_in i len ∧ f (up M id i.toNatClampNeg v)) else False
def bld (kd len id : Nat) (i : Int32) (M : mM) (f : Int32 → Prop) : Prop := if kd = 52 then (vp_in i len ∧ f (M id i.toNatClampNeg)) else False
def bst (kd len id : Nat) (i v : Int32) (M : mM) (f : mM → Prop) : Prop := if kd = 52 then (vp_in i len ∧ f (up M id i.toNatClampNeg (vp_nar .boolean v))) else False
def aln (kd len : Nat) (f : Int32 → Prop) : Prop := if kd = 50 then f (Int32.ofNat len) else if kd = 51 then f (Int32.ofNat len) else False
def ire (b : Nat) (x : Int32) (A : Prop) : Prop := match b with
  | 0 => A
  | 1 => (x = 0 ∨ x = 1) ∧ A
  | _ => False
def mmx (t : Nat) (x y : Int32) : Int32 := match t with
  | 0 => if x < y then y else x
  | _ => if y < x then y else x
def stp (K : Nat → List mV → List mV → mM → Prop) (Rt : mQ) (Cl : Nat → List mV → mM → mQ → Prop) (i : Instr) (aux : List Nat) (k : Int32) (nx : List mV → List mV → mM → Prop) (ls st : List mV) (M : mM) : Prop := match i with
  | .iconst _ => nx ls (mI k :: st) M
  | .bipush _ => nx ls (mI k :: st) M
  | .sipush _ => nx ls (mI k :: st) M
  | .ldc _ => nx ls (mI k :: st) M
  | .ldc_w _ => nx ls (mI k :: st) M
  | .iload_n n => ldI ls n fun x => nx ls (mI x :: st) M
  | .iload n => ldI ls n fun x => nx ls (mI x :: st) M
  | .aload_n n => ldR ls n fun kd len id => nx ls (mR kd len id :: st) M
  | .aload n => ldR ls n fun kd len id => nx ls (mR kd len id :: st) M
  | .istore_n n => p1 st fun x r => sto ls n (mI x) fun ls' => nx ls' r M
  | .istore n => p1 st fun x r => sto ls n (mI x) fun ls' => nx ls' r M
  | .astore_n n => pR st fun kd len id r => sto ls n (mR kd len id) fun ls' => nx ls' r M
  | .astore n => pR st fun kd len id r => sto ls n (mR kd len id) fun ls' => nx ls' r M
  | .iinc n _ => ldI ls n fun x => sto ls n (mI (x + k)) fun ls' => nx ls' st M
  | .iadd => p2 st fun x y r => nx ls (mI (x + y) :: r) M
  | .isub => p2 st fun x y r => nx ls (mI (x - y) :: r) M
  | .imul => p2 st fun x y r => nx ls (mI (x * y) :: r) M
  | .iand => p2 st fun x y r => nx ls (mI (x &&& y) :: r) M
  | .ior => p2 st fun x y r => nx ls (mI (x ||| y) :: r) M
  | .ixor => p2 st fun x y r => nx ls (mI (x ^^^ y) :: r) M
  | .ishl => p2 st fun x y r => nx ls (mI (x <<< (y &&& 31)) :: r) M
  | .ishr => p2 st fun x y r => nx ls (mI (x >>> (y &&& 31)) :: r) M
  | .iushr => p2 st fun x y r => nx ls (mI ((x.toUInt32 >>> (y.toUInt32 &&& Int32.toUInt32 31)).toInt32) :: r) M
  | .idiv => p2 st fun x y r => ¬ y = 0 ∧ nx ls (mI (x / y) :: r) M
  | .irem => p2 st fun x y r => ¬ y = 0 ∧ nx ls (mI (x - x / y * y) :: r) M
  | .pop => match st with
    | _ :: r => nx ls r M
    | _ => False
  | .dup => match st with
    | v :: r => nx ls (v :: v :: r) M
    | _ => False
  | .ifCond c _ => p1 st fun x r => a1 aux fun t => cc1 c x (K t ls r M) (nx ls r M)
  | .if_icmp c _ => p2 st fun x y r => a1 aux fun t => cc2 c x y (K t ls r M) (nx ls r M)
  | .goto _ => a1 aux fun t => K t ls st M
  | .nop => a1 aux fun t => K t ls st M
  | .tableswitch _ lo hi _ => p1 st fun x r => match aux with
    | d :: ts => (x.toInt < lo ∨ hi < x.toInt → K d ls r M) ∧ tsw x ts lo fun t => K t ls r M
    | _ => False
  | .getfield _ => pR st fun kd _ id r => a2 aux fun ci j => gtf ci j kd id M fun v => nx ls (v :: r) M
  | .putfield _ => p1 st fun v r1 => pR r1 fun kd _ id r => a2 aux fun ci j => ptf ci j kd id M v fun M' => nx ls r M'
  | .getstatic _ => a1 aux fun i => match mStT[i]? with
    | some q => nx ls (mR 51 q.2.2 i :: st) M
    | none => False
  | .iaload => pIR st fun i kd len id r => ald kd len id i M fun x => nx ls (mI x :: r) M
  | .iastore => pIIR st fun v i kd len id r => ast kd len id i v M fun M' => nx ls r M'
  | .baload => pIR st fun i kd len id r => bld kd len id i M fun x => nx ls (mI x :: r) M
  | .bastore => pIIR st fun v i kd len id r => bst kd len id i v M fun M' => nx ls r M'
  | .arraylength => pR st fun kd len _ r => aln kd len fun x => nx ls (mI x :: r) M
  | .invokestatic _ => match aux with
    | [t] => p2 st fun x y r => lim r (nx ls (mI (mmx t x y) :: r) M)
    | aux => a3 aux fun z n ret => tk n st [] fun as r => lim r (Cl z as M fun v M' => rv ret v fun w => nx ls (w ++ r) M')
  | .invokevirtual _ => a4 aux fun z n ret ci => tk n st [] fun as r => lim r (rcv ci as (Cl z as M fun v M' => rv ret v fun w => nx ls (w ++ r) M'))
  | .ireturn => a1 aux fun b => match st with
    | [some (.inl x)] => ire b x (Rt (mI x) M)
    | _ => False
  | .areturn => match st with
    | [some (.inr (kd, len, id))] => Rt (mR kd len id) M
    | _ => False
  | .return_ => match st with
    | [] => Rt none M
    | _ => False
  | _ => False
def bx (K : Nat → List mV → List mV → mM → Prop) (Rt : mQ) (Cl : Nat → List mV → mM → mQ → Prop) : List mIns → List mV → List mV → mM → Prop
  | [] => fun _ _ _ => False
  | q :: r => stp K Rt Cl q.2.1 q.2.2.2.1 q.2.2.2.2 (bx K Rt Cl r)
/-- from label t on the method comes to an end that Rt holds of: the least such family -/
def Wt (Cl : Nat → List mV → mM → mQ → Prop) (B : Nat → List mIns) (Rt : mQ) (t : Nat) (ls st : List mV) (M : mM) : Prop := ∀ X : Nat → List mV → List mV → mM → Prop, (∀ t ls st M, bx X Rt Cl (B t) ls st M → X t ls st M) → X t ls st M
def mBk (b : List (List mIns)) : Nat → List mIns := fun t => b.getD t []
def entL (n : Nat) (as : List mV) : List mV := as ++ List.replicate (n - as.length) none
/-- method z, called on as in memory M, comes to an end that k holds of, with calls at most d deep -/
def wpD (B : Nat → List (List mIns)) (nL : Nat → Nat) : Nat → Nat → List mV → mM → mQ → Prop
  | 0 => fun _ _ _ _ => False
  | d + 1 => fun z as M k => Wt (wpD B nL d) (mBk (B z)) k 0 (entL (nL z) as) [] M
/-! monotone -/
theorem p1_mono {st : List mV} {f g : Int32 → List mV → Prop} (h : ∀ x r, f x r → g x r) : p1 st f → p1 st g := by
  unfold p1; split
  · exact h _ _
  · exact id
theorem p2_mono {st : List mV} {f g : Int32 → Int32 → List mV → Prop} (h : ∀ x y r, f x y r → g x y r) : p2 st f → p2 st g := by
  unfold p2; split
  · exact h _ _ _
  · exact id
theorem pR_mono {st : List mV} {f g : Nat → Nat → Nat → List mV → Prop} (h : ∀ a b c r, f a b c r → g a b c r) : pR st f → pR st g := by
  unfold pR; split
  · exact h _ _ _ _
  · exact id
theorem pIR_mono {st : List mV} {f g : Int32 → Nat → Nat → Nat → List mV → Prop} (h : ∀ x a b c r, f x a b c r → g x a b c r) : pIR st f → pIR st g := by
  unfold pIR; split
  · exact h _ _ _ _ _
  · exact id
theorem pIIR_mono {st : List mV} {f g : Int32 → Int32 → Nat → Nat → Nat → List mV → Prop} (h : ∀ x i a b c r, f x i a b c r → g x i a b c r) : pIIR st f → pIIR st g := by
  unfold pIIR; split
  · exact h _ _ _ _ _ _
  · exact id
theorem a1_mono {aux : List Nat} {f g : Nat → Prop} (h : ∀ x, f x → g x) : a1 aux f → a1 aux g := by
  unfold a1; split
  · exact h _
  · exact id
theorem a2_mono {aux : List Nat} {f g : Nat → Nat → Prop} (h : ∀ x y, f x y → g x y) : a2 aux f → a2 aux g := by
  unfold a2; split
  · exact h _ _
  · exact id
theorem a3_mono {aux : List Nat} {f g : Nat → Nat → Nat → Prop} (h : ∀ x y z, f x y z → g x y z) : a3 aux f → a3 aux g := by
  unfold a3; split
  · exact h _ _ _
  · exact id
theorem a4_mono {aux : List Nat} {f g : Nat → Nat → Nat → Nat → Prop} (h : ∀ x y z w, f x y z w → g x y z w) : a4 aux f → a4 aux g := by
  unfold a4; split
  · exact h _ _ _ _
  · exact id
theorem rcv_mono {ci : Nat} {as : List mV} {P Q : Prop} (h : P → Q) : rcv ci as P → rcv ci as Q := by
  unfold rcv; split
  · split
    · exact h
    · exact fun k => k
  · exact fun k => k
theorem lim_mono {r : List mV} {P Q : Prop} (h : P → Q) : lim r P → lim r Q := by
  unfold lim; split
  · exact h
  · exact fun k => k
theorem ldI_mono {ls : List mV} {i : Nat} {f g : Int32 → Prop} (h : ∀ x, f x → g x) : ldI ls i f → ldI ls i g := by
  unfold ldI; split
  · exact h _
  · exact id
theorem ldR_mono {ls : List mV} {i : Nat} {f g : Nat → Nat → Nat → Prop} (h : ∀ x y z, f x y z → g x y z) : ldR ls i f → ldR ls i g := by
  unfold ldR; split
  · exact h _ _ _
  · exact id
theorem sto_mono {ls : List mV} {i : Nat} {v : mV} {f g : List mV → Prop} (h : ∀ x, f x → g x) : sto ls i v f → sto ls i v g := by
  unfold sto; split
  · exact h _
  · exact id
theorem tk_mono {f g : List mV → List mV → Prop} (h : ∀ x y, f x y → g x y) : ∀ (n : Nat) (st acc : List mV), tk n st acc f → tk n st acc g
  | 0, st, acc, k => h _ _ k
  | n + 1, v :: st, acc, k => tk_mono h n st (v :: acc) k
  | _ + 1, [], _, k => k
theorem rv_mono {ret : Nat} {v : mV} {f g : List mV → Prop} (h : ∀ x, f x → g x) : rv ret v f → rv ret v g := by
  unfold rv; split
  · exact h _
  · exact h _
  · exact h _
  · exact id
theorem tsw_mono {x : Int32} {f g : Nat → Prop} (h : ∀ x, f x → g x) : ∀ (ts : List Nat) (n : Int), tsw x ts n f → tsw x ts n g
  | [], _, _ => trivial
  | t :: ts, n, k => ⟨fun e => h _ (k.1 e), tsw_mono h ts (n + 1) k.2⟩
theorem cc1_mono {c : Jvm.ClassFile.Cond} {x : Int32} {A B A' B' : Prop} (h : A → A') (h' : B → B') : cc1 c x A B → cc1 c x A' B' := by
  unfold cc1; cases c <;> exact fun k => ⟨fun e => h (k.1 e), fun e => h' (k.2 e)⟩
theorem cc2_mono {c : Jvm.ClassFile.Cond} {x y : Int32} {A B A' B' : Prop} (h : A → A') (h' : B → B') : cc2 c x y A B → cc2 c x y A' B' := by
  unfold cc2; cases c <;> exact fun k => ⟨fun e => h (k.1 e), fun e => h' (k.2 e)⟩
theorem gtf_mono {ci j kd id : Nat} {M : mM} {f g : mV → Prop} (h : ∀ x, f x → g x) : gtf ci j kd id M f → gtf ci j kd id M g := by
  unfold gtf; split
  · split
    · exact h _
    · exact h _
    · exact fun k => k
  · exact fun k => k
theorem ptf_mono {ci j kd id : Nat} {M : mM} {v : Int32} {f g : mM → Prop} (h : ∀ x, f x → g x) : ptf ci j kd id M v f → ptf ci j kd id M v g := by
  unfold ptf; split
  · split
    · exact h _
    · exact fun k => k
  · exact fun k => k
theorem ald_mono {kd len id : Nat} {i : Int32} {M : mM} {f g : Int32 → Prop} (h : ∀ x, f x → g x) : ald kd len id i M f → ald kd len id i M g := by
  unfold ald; split
  · exact fun k => ⟨k.1, h _ k.2⟩
  · split
    · exact fun k => ⟨k.1, h _ k.2⟩
    · exact fun k => k
theorem bld_mono {kd len id : Nat} {i : Int32} {M : mM} {f g : Int32 → Prop} (h : ∀ x, f x → g x) : bld kd len id i M f → bld kd len id i M g := by
  unfold bld; split
  · exact fun k => ⟨k.1, h _ k.2⟩
  · exact fun k => k
theorem ast_mono {kd len id : Nat} {i v : Int32} {M : mM} {f g : mM → Prop} (h : ∀ x, f x → g x) : ast kd len id i v M f → ast kd len id i v M g := by
  unfold ast; split
  · exact fun k => ⟨k.1, h _ k.2⟩
  · exact fun k => k
theorem bst_mono {kd len id : Nat} {i v : Int32} {M : mM} {f g : mM → Prop} (h : ∀ x, f x → g x) : bst kd len id i v M f → bst kd len id i v M g := by
  unfold bst; split
  · exact fun k => ⟨k.1, h _ k.2⟩
  · exact fun k => k
theorem aln_mono {kd len : Nat} {f g : Int32 → Prop} (h : ∀ x, f x → g x) : aln kd len f → aln kd len g := by
  unfold aln; split
  · exact h _
  · split
    · exact h _
    · exact fun k => k
theorem ire_mono {b : Nat} {x : Int32} {A B : Prop} (h : A → B) : ire b x A → ire b x B := by
  unfold ire; split
  · exact h
  · exact fun k => ⟨k.1, h k.2⟩
  · exact fun k => k
theorem stp_mono {K K' : Nat → List mV → List mV → mM → Prop} {Rt Rt' : mQ} {Cl Cl' : Nat → List mV → mM → mQ → Prop} {nx nx' : List mV → List mV → mM → Prop} (hK : ∀ t ls st M, K t ls st M → K' t ls st M) (hR : ∀ v M, Rt v M → Rt' v M)
    (hC : ∀ z as M (k k' : mQ), (∀ v M, k v M → k' v M) → Cl z as M k → Cl' z as M k') (hn : ∀ ls st M, nx ls st M → nx' ls st M) (i : Instr) (aux : List Nat) (k : Int32) (ls st : List mV) (M : mM) : stp K Rt Cl i aux k nx ls st M → stp K' Rt' Cl' i aux k nx' ls st M := by
  unfold stp
  split
  case h_1 => exact hn _ _ _
  case h_2 => exact hn _ _ _
  case h_3 => exact hn _ _ _
  case h_4 => exact hn _ _ _
  case h_5 => exact hn _ _ _
  case h_6 => exact ldI_mono fun _ => hn _ _ _
  case h_7 => exact ldI_mono fun _ => hn _ _ _
  case h_8 => exact ldR_mono fun _ _ _ => hn _ _ _
  case h_9 => exact ldR_mono fun _ _ _ => hn _ _ _
  case h_10 => exact p1_mono fun _ _ => sto_mono fun _ => hn _ _ _
  case h_11 => exact p1_mono fun _ _ => sto_mono fun _ => hn _ _ _
  case h_12 => exact pR_mono fun _ _ _ _ => sto_mono fun _ => hn _ _ _
  case h_13 => exact pR_mono fun _ _ _ _ => sto_mono fun _ => hn _ _ _
  case h_14 => exact ldI_mono fun _ => sto_mono fun _ => hn _ _ _
  case h_24 => exact p2_mono fun _ _ _ h => ⟨h.1, hn _ _ _ h.2⟩
  case h_25 => exact p2_mono fun _ _ _ h => ⟨h.1, hn _ _ _ h.2⟩
  case h_26 =>
    split
    · exact hn _ _ _
    · exact fun h => h
  case h_27 =>
    split
    · exact hn _ _ _
    · exact fun h => h
  case h_28 => exact p1_mono fun _ _ => a1_mono fun _ => cc1_mono (hK _ _ _ _) (hn _ _ _)
  case h_29 => exact p2_mono fun _ _ _ => a1_mono fun _ => cc2_mono (hK _ _ _ _) (hn _ _ _)
  case h_30 => exact a1_mono fun _ => hK _ _ _ _
  case h_31 => exact a1_mono fun _ => hK _ _ _ _
  case h_32 =>
    refine p1_mono fun _ _ => ?_
    split
    · exact fun h => ⟨fun e => hK _ _ _ _ (h.1 e), tsw_mono (fun _ => hK _ _ _ _) _ _ h.2⟩
    · exact fun h => h
  case h_33 => exact pR_mono fun _ _ _ _ => a2_mono fun _ _ => gtf_mono fun _ => hn _ _ _
  case h_34 => exact p1_mono fun _ _ => pR_mono fun _ _ _ _ => a2_mono fun _ _ => ptf_mono fun _ => hn _ _ _
  case h_35 =>
    refine a1_mono fun _ => ?_
    split
    · exact hn _ _ _
    · exact fun h => h
  case h_36 => exact pIR_mono fun _ _ _ _ _ => ald_mono fun _ => hn _ _ _
  case h_37 => exact pIIR_mono fun _ _ _ _ _ _ => ast_mono fun _ => hn _ _ _
  case h_38 => exact pIR_mono fun _ _ _ _ _ => bld_mono fun _ => hn _ _ _
  case h_39 => exact pIIR_mono fun _ _ _ _ _ _ => bst_mono fun _ => hn _ _ _
  case h_40 => exact pR_mono fun _ _ _ _ => aln_mono fun _ => hn _ _ _
  case h_41 =>
    split
    · exact p2_mono fun _ _ _ => lim_mono (hn _ _ _)
    · exact a3_mono fun _ _ _ => tk_mono (fun _ _ => lim_mono (hC _ _ _ _ _ fun _ _ => rv_mono fun _ => hn _ _ _)) _ _ _
  case h_42 => exact a4_mono fun _ _ _ _ => tk_mono (fun _ _ => lim_mono (rcv_mono (hC _ _ _ _ _ fun _ _ => rv_mono fun _ => hn _ _ _))) _ _ _
  case h_43 =>
    refine a1_mono fun _ => ?_
    split
    · exact ire_mono (hR _ _)
    · exact fun h => h
  case h_44 =>
    split
    · exact hR _ _
    · exact fun h => h
  case h_45 =>
    split
    · exact hR _ _
    · exact fun h => h
  case h_46 => exact fun h => h
  all_goals exact p2_mono fun _ _ _ => hn _ _ _
theorem bx_mono {K K' : Nat → List mV → List mV → mM → Prop} {Rt Rt' : mQ} {Cl Cl' : Nat → List mV → mM → mQ → Prop} (hK : ∀ t ls st M, K t ls st M → K' t ls st M) (hR : ∀ v M, Rt v M → Rt' v M)
    (hC : ∀ z as M (k k' : mQ), (∀ v M, k v M → k' v M) → Cl z as M k → Cl' z as M k') : ∀ (b : List mIns) (ls st : List mV) (M : mM), bx K Rt Cl b ls st M → bx K' Rt' Cl' b ls st M
  | [], _, _, _, h => h
  | q :: r, ls, st, M, h => stp_mono hK hR hC (bx_mono hK hR hC r) _ _ _ _ _ _ h
/-- a call says more, if more is known of its end -/
def ClM (Cl : Nat → List mV → mM → mQ → Prop) : Prop := ∀ z as M (k k' : mQ), (∀ v M, k v M → k' v M) → Cl z as M k → Cl z as M k'
theorem Wt.blk {Cl : Nat → List mV → mM → mQ → Prop} (hC : ClM Cl) {B : Nat → List mIns} {Rt : mQ} {t : Nat} {ls st : List mV} {M : mM} (h : bx (Wt Cl B Rt) Rt Cl (B t) ls st M) : Wt Cl B Rt t ls st M :=
  fun X hX => hX _ _ _ _ (bx_mono (fun _ _ _ _ k => k X hX) (fun _ _ k => k) hC _ _ _ _ h)
theorem Wt.mono {Cl Cl' : Nat → List mV → mM → mQ → Prop} (hC : ∀ z as M (k k' : mQ), (∀ v M, k v M → k' v M) → Cl z as M k → Cl' z as M k') {B : Nat → List mIns} {Rt Rt' : mQ} (hR : ∀ v M, Rt v M → Rt' v M) {t : Nat} {ls st : List mV} {M : mM} (h : Wt Cl B Rt t ls st M) : Wt Cl' B Rt' t ls st M :=
  fun X hX => h X (fun t ls st M k => hX _ _ _ _ (bx_mono (fun _ _ _ _ k => k) hR hC _ _ _ _ k))
theorem wpD_mono (B : Nat → List (List mIns)) (nL : Nat → Nat) : ∀ d, ClM (wpD B nL d)
  | 0 => fun _ _ _ _ _ _ h => h
  | d + 1 => fun _ _ _ _ _ hk h => Wt.mono (wpD_mono B nL d) hk h
theorem wpD_succ (B : Nat → List (List mIns)) (nL : Nat → Nat) : ∀ d z as M k, wpD B nL d z as M k → wpD B nL (d + 1) z as M k
  | 0 => fun _ _ _ _ h => h.elim
  | d + 1 => fun _ _ _ _ h => Wt.mono (fun z as M k k' hk h => wpD_succ B nL d _ _ _ _ (wpD_mono B nL d z as M k k' hk h)) (fun _ _ h => h) h
theorem wpD_le (B : Nat → List (List mIns)) (nL : Nat → Nat) {d d' : Nat} (hd : d ≤ d') {z : Nat} {as : List mV} {M : mM} {k : mQ} (h : wpD B nL d z as M k) : wpD B nL d' z as M k := by
  obtain ⟨n, rfl⟩ := Nat.le.dest hd
  clear hd
  induction n with
  | zero => exact h
  | succ n ih => exact wpD_succ B nL _ _ _ _ _ ih
