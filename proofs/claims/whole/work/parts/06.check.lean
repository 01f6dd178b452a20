/-! what a program decides of a method's code: its decoded instructions are those of the bytes, its links are in the tables, its jumps come where the labels stand -/
def mCallable : Nat := 129
def okA (own : Nat) (rt : Option FieldType) (hd : Nat → Nat) (pc : Nat) (i : Instr) (len : Nat) (aux : List Nat) (k : Int32) : Bool := match i with
  | .iconst n => len == 1 && decide (Int32.ofInt n = k)
  | .bipush n => len == 2 && decide ((Int8.ofInt n).toInt32 = k)
  | .sipush n => len == 3 && decide ((Int16.ofInt n).toInt32 = k)
  | .ldc n => len == 2 && mKl.contains (own, n, k)
  | .ldc_w n => len == 3 && mKl.contains (own, n, k)
  | .iload_n _ => len == 1
  | .iload _ => len == 2
  | .aload_n _ => len == 1
  | .aload _ => len == 2
  | .istore_n _ => len == 1
  | .istore _ => len == 2
  | .astore_n _ => len == 1
  | .astore _ => len == 2
  | .iinc _ n => len == 3 && decide (Int32.ofInt n = k)
  | .ifCond _ off => len == 3 && (match aux with
    | [t] => decide ((pc : Int) + off = (hd t : Int))
    | _ => false)
  | .if_icmp _ off => len == 3 && (match aux with
    | [t] => decide ((pc : Int) + off = (hd t : Int))
    | _ => false)
  | .goto off => len == 3 && (match aux with
    | [t] => decide ((pc : Int) + off = (hd t : Int))
    | _ => false)
  | .tableswitch d lo hi offs => (match aux with
    | t :: ts => decide ((pc : Int) + d = (hd t : Int)) && decide (hi = lo + (ts.length : Int) - 1) && decide (ts.length = offs.size) && (List.range ts.length).all (fun j => match ts[j]?, offs[j]? with
      | some t', some o => decide ((pc : Int) + o = (hd t' : Int))
      | _, _ => false)
    | _ => false)
  | .getfield n => len == 3 && (match aux with
    | [ci, j] => mFl.contains (own, n, ci, j)
    | _ => false)
  | .putfield n => len == 3 && (match aux with
    | [ci, j] => mFl.contains (own, n, ci, j) && (match vwCl[ci]? with
      | some q => decide ((q.2.1 j).2.2.2 = false) && decide ((q.2.1 j).2.2.1 = "I")
      | none => false)
    | _ => false)
  | .getstatic n => len == 3 && (match aux with
    | [i] => mSl.contains (own, n, i, false) || mSl.contains (own, n, i, true)
    | _ => false)
  | .invokestatic n => len == 3 && (match aux with
    | [t] => mXl.contains (own, n, t)
    | [z, na, ret] => (mSc.contains (own, n, z, false) || mSc.contains (own, n, z, true)) && decide (z < mCallable) && (match mTab[z]? with
      | some q => na == q.2.2.2.2.2.1 && ret == q.2.2.2.2.2.2
      | none => false)
    | _ => false)
  | .invokevirtual n => len == 3 && (match aux with
    | [z, na, ret, ci] => mVc.contains (own, n, z) && decide (z < mCallable) && (match mTab[z]? with
      | some q => na == q.2.2.2.2.2.1 && ret == q.2.2.2.2.2.2 && ci == q.2.2.2.2.1 && decide (1 ≤ na) && decide (ci < 9)
      | none => false)
    | _ => false)
  | .ireturn => len == 1 && (match aux with
    | [0] => decide (rt = some .int)
    | [1] => decide (rt = some .boolean)
    | _ => false)
  | .areturn => len == 1 && (match rt with
    | some (.object _) => true
    | _ => false)
  | .return_ => len == 1 && decide (rt = none)
  | _ => len == 1
def okI (cc : ByteArray) (own : Nat) (rt : Option FieldType) (hd : Nat → Nat) (q : mIns) : Bool := match q.2.1 with
  | .nop => (match q.2.2.2.1 with
    | [t] => hd t == q.1
    | _ => false)
  | i => decide (decode cc q.1 = .ok (i, q.2.2.1)) && okA own rt hd q.1 i q.2.2.1 q.2.2.2.1 q.2.2.2.2
def okBl (cc : ByteArray) (own : Nat) (rt : Option FieldType) (hd : Nat → Nat) : List mIns → Bool
  | [] => true
  | q :: r => okI cc own rt hd q && (match r with
    | [] => true
    | q' :: _ => q'.1 == q.1 + q.2.2.1) && okBl cc own rt hd r
def mHd (b : List (List mIns)) (t : Nat) : Nat := match mBk b t with
  | q :: _ => q.1
  | [] => 0
def okM (z : Nat) : Bool := match mTab[z]? with
  | some q => mHd (mB z) 0 == 0 && (mB z).all (okBl q.2.1 q.2.2.2.2.1 q.2.2.2.1 (mHd (mB z)))
  | none => false
theorem okM_0 : okM 0 = true := by decide +kernel
theorem okM_1 : okM 1 = true := by decide +kernel
theorem okM_2 : okM 2 = true := by decide +kernel
theorem okM_3 : okM 3 = true := by decide +kernel
theorem okM_4 : okM 4 = true := by decide +kernel
theorem okM_5 : okM 5 = true := by decide +kernel
theorem okM_6 : okM 6 = true := by decide +kernel
theorem okM_7 : okM 7 = true := by decide +kernel
theorem okM_8 : okM 8 = true := by decide +kernel
theorem okM_9 : okM 9 = true := by decide +kernel
theorem okM_10 : okM 10 = true := by decide +kernel
theorem okM_11 : okM 11 = true := by decide +kernel
theorem okM_12 : okM 12 = true := by decide +kernel
theorem okM_13 : okM 13 = true := by decide +kernel
theorem okM_14 : okM 14 = true := by decide +kernel
theorem okM_15 : okM 15 = true := by decide +kernel
theorem okM_16 : okM 16 = true := by decide +kernel
theorem okM_17 : okM 17 = true := by decide +kernel
theorem okM_18 : okM 18 = true := by decide +kernel
theorem okM_19 : okM 19 = true := by decide +kernel
theorem okM_20 : okM 20 = true := by decide +kernel
theorem okM_21 : okM 21 = true := by decide +kernel
theorem okM_22 : okM 22 = true := by decide +kernel
theorem okM_23 : okM 23 = true := by decide +kernel
theorem okM_24 : okM 24 = true := by decide +kernel
theorem okM_25 : okM 25 = true := by decide +kernel
theorem okM_26 : okM 26 = true := by decide +kernel
theorem okM_27 : okM 27 = true := by decide +kernel
theorem okM_28 : okM 28 = true := by decide +kernel
theorem okM_29 : okM 29 = true := by decide +kernel
theorem okM_30 : okM 30 = true := by decide +kernel
theorem okM_31 : okM 31 = true := by decide +kernel
theorem okM_32 : okM 32 = true := by decide +kernel
theorem okM_33 : okM 33 = true := by decide +kernel
theorem okM_34 : okM 34 = true := by decide +kernel
theorem okM_35 : okM 35 = true := by decide +kernel
theorem okM_36 : okM 36 = true := by decide +kernel
theorem okM_37 : okM 37 = true := by decide +kernel
theorem okM_38 : okM 38 = true := by decide +kernel
theorem okM_39 : okM 39 = true := by decide +kernel
theorem okM_40 : okM 40 = true := by decide +kernel
theorem okM_41 : okM 41 = true := by decide +kernel
theorem okM_42 : okM 42 = true := by decide +kernel
theorem okM_43 : okM 43 = true := by decide +kernel
theorem okM_44 : okM 44 = true := by decide +kernel
theorem okM_45 : okM 45 = true := by decide +kernel
theorem okM_46 : okM 46 = true := by decide +kernel
theorem okM_47 : okM 47 = true := by decide +kernel
theorem okM_48 : okM 48 = true := by decide +kernel
theorem okM_49 : okM 49 = true := by decide +kernel
theorem okM_50 : okM 50 = true := by decide +kernel
theorem okM_51 : okM 51 = true := by decide +kernel
theorem okM_52 : okM 52 = true := by decide +kernel
theorem okM_53 : okM 53 = true := by decide +kernel
theorem okM_54 : okM 54 = true := by decide +kernel
theorem okM_55 : okM 55 = true := by decide +kernel
theorem okM_56 : okM 56 = true := by decide +kernel
theorem okM_57 : okM 57 = true := by decide +kernel
theorem okM_58 : okM 58 = true := by decide +kernel
theorem okM_59 : okM 59 = true := by decide +kernel
theorem okM_60 : okM 60 = true := by decide +kernel
theorem okM_61 : okM 61 = true := by decide +kernel
theorem okM_62 : okM 62 = true := by decide +kernel
theorem okM_63 : okM 63 = true := by decide +kernel
theorem okM_64 : okM 64 = true := by decide +kernel
theorem okM_65 : okM 65 = true := by decide +kernel
theorem okM_66 : okM 66 = true := by decide +kernel
theorem okM_67 : okM 67 = true := by decide +kernel
theorem okM_68 : okM 68 = true := by decide +kernel
theorem okM_69 : okM 69 = true := by decide +kernel
theorem okM_70 : okM 70 = true := by decide +kernel
theorem okM_71 : okM 71 = true := by decide +kernel
theorem okM_72 : okM 72 = true := by decide +kernel
theorem okM_73 : okM 73 = true := by decide +kernel
theorem okM_74 : okM 74 = true := by decide +kernel
theorem okM_75 : okM 75 = true := by decide +kernel
theorem okM_76 : okM 76 = true := by decide +kernel
theorem okM_77 : okM 77 = true := by decide +kernel
theorem okM_78 : okM 78 = true := by decide +kernel
theorem okM_79 : okM 79 = true := by decide +kernel
theorem okM_80 : okM 80 = true := by decide +kernel
theorem okM_81 : okM 81 = true := by decide +kernel
theorem okM_82 : okM 82 = true := by decide +kernel
theorem okM_83 : okM 83 = true := by decide +kernel
theorem okM_84 : okM 84 = true := by decide +kernel
theorem okM_85 : okM 85 = true := by decide +kernel
theorem okM_86 : okM 86 = true := by decide +kernel
theorem okM_87 : okM 87 = true := by decide +kernel
theorem okM_88 : okM 88 = true := by decide +kernel
theorem okM_89 : okM 89 = true := by decide +kernel
theorem okM_90 : okM 90 = true := by decide +kernel
theorem okM_91 : okM 91 = true := by decide +kernel
theorem okM_92 : okM 92 = true := by decide +kernel
theorem okM_93 : okM 93 = true := by decide +kernel
theorem okM_94 : okM 94 = true := by decide +kernel
theorem okM_95 : okM 95 = true := by decide +kernel
theorem okM_96 : okM 96 = true := by decide +kernel
theorem okM_97 : okM 97 = true := by decide +kernel
theorem okM_98 : okM 98 = true := by decide +kernel
theorem okM_99 : okM 99 = true := by decide +kernel
theorem okM_100 : okM 100 = true := by decide +kernel
theorem okM_101 : okM 101 = true := by decide +kernel
theorem okM_102 : okM 102 = true := by decide +kernel
theorem okM_103 : okM 103 = true := by decide +kernel
theorem okM_104 : okM 104 = true := by decide +kernel
theorem okM_105 : okM 105 = true := by decide +kernel
theorem okM_106 : okM 106 = true := by decide +kernel
theorem okM_107 : okM 107 = true := by decide +kernel
theorem okM_108 : okM 108 = true := by decide +kernel
theorem okM_109 : okM 109 = true := by decide +kernel
theorem okM_110 : okM 110 = true := by decide +kernel
theorem okM_111 : okM 111 = true := by decide +kernel
theorem okM_112 : okM 112 = true := by decide +kernel
theorem okM_113 : okM 113 = true := by decide +kernel
theorem okM_114 : okM 114 = true := by decide +kernel
theorem okM_115 : okM 115 = true := by decide +kernel
theorem okM_116 : okM 116 = true := by decide +kernel
theorem okM_117 : okM 117 = true := by decide +kernel
theorem okM_118 : okM 118 = true := by decide +kernel
theorem okM_119 : okM 119 = true := by decide +kernel
theorem okM_120 : okM 120 = true := by decide +kernel
theorem okM_121 : okM 121 = true := by decide +kernel
theorem okM_122 : okM 122 = true := by decide +kernel
theorem okM_123 : okM 123 = true := by decide +kernel
theorem okM_124 : okM 124 = true := by decide +kernel
theorem okM_125 : okM 125 = true := by decide +kernel
theorem okM_126 : okM 126 = true := by decide +kernel
theorem okM_127 : okM 127 = true := by decide +kernel
theorem okM_128 : okM 128 = true := by decide +kernel
theorem okL_1 : (((mB 129).drop 1).take 6).all (okBl code 9 (some .boolean) (mHd (mB 129))) = true := by decide +kernel
theorem okL_7 : (((mB 129).drop 7).take 6).all (okBl code 9 (some .boolean) (mHd (mB 129))) = true := by decide +kernel
theorem okL_13 : (((mB 129).drop 13).take 6).all (okBl code 9 (some .boolean) (mHd (mB 129))) = true := by decide +kernel
theorem okL_19 : (((mB 129).drop 19).take 6).all (okBl code 9 (some .boolean) (mHd (mB 129))) = true := by decide +kernel
theorem okL_25 : (((mB 129).drop 25).take 6).all (okBl code 9 (some .boolean) (mHd (mB 129))) = true := by decide +kernel
