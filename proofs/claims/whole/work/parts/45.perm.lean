/-! ORDERS -/
/-- all ways to place m more of n houses, the first by numbers first -/
def lxP (n : Nat) : Nat → Nat → List (List Nat)
  | 0, _ => [[]]
  | m + 1, pl => (List.range n).flatMap (fun h => if pl.testBit h then [] else (lxP n m (pl ||| 2 ^ h)).map (fun l => h :: l))
def swL (a : List Nat) (i j : Nat) : List Nat := (a.set i (a.getD j 0)).set j (a.getD i 0)
def nfI (a : List Nat) : Nat → Option Nat
  | 0 => none
  | i + 1 => if a.getD i 0 ≤ a.getD (i + 1) 0 then some i else nfI a i
def nfJ (a : List Nat) (x : Nat) : Nat → Nat
  | 0 => 0
  | j + 1 => if x ≤ a.getD (j + 1) 0 then j + 1 else nfJ a x j
def nrv : Nat → List Nat → Nat → Nat → List Nat
  | 0, a, _, _ => a
  | f + 1, a, lo, hi => if hi ≤ lo then a else nrv f (swL a lo hi) (lo + 1) (hi - 1)
/-- the next order by numbers -/
def nxtL (n : Nat) (a : List Nat) : Option (List Nat) := match nfI a (n - 1) with | none => none | some i => some (nrv n (swL a i (nfJ a (a.getD i 0) (n - 1))) (i + 1) (n - 1))
def eqL : List Nat → List Nat → Bool
  | [], [] => true
  | a :: x, b :: y => Nat.beq a b && eqL x y
  | _, _ => false
def isN (o : Option (List Nat)) (b : List Nat) : Bool := match o with | none => false | some x => eqL x b
def chn (n : Nat) (a : List Nat) : List (List Nat) → Bool
  | [] => match nxtL n a with | none => true | some _ => false
  | b :: r => isN (nxtL n a) b && chn n b r
def chA (n : Nat) (ps : List (List Nat)) : Bool := match ps with | [] => false | a :: r => eqL a (List.range n) && chn n a r
theorem ch1 : chA 1 (lxP 1 1 0) = true := by decide +kernel
theorem ch2 : chA 2 (lxP 2 2 0) = true := by decide +kernel
theorem ch3 : chA 3 (lxP 3 3 0) = true := by decide +kernel
theorem ch4 : chA 4 (lxP 4 4 0) = true := by decide +kernel
theorem ch5 : chA 5 (lxP 5 5 0) = true := by decide +kernel
theorem ch6 : chA 6 (lxP 6 6 0) = true := by decide +kernel
theorem ch7 : chA 7 (lxP 7 7 0) = true := by decide +kernel
