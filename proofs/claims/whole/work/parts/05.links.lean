def mNest : Cond → Bool
  | .fieldLinkNest .. => true
  | .methodLinkNest .. => true
  | _ => false
def gT : List Cond := lw_tbl.filter goodWord
def nT : List Cond := lw_tbl.filter mNest
theorem gT_at {i : Nat} {w : Cond} (h : lw_tbl[i]? = some w) (g : goodWord w = true) : w ∈ gT := List.mem_filter.mpr ⟨List.mem_of_getElem? h, g⟩
theorem nT_at {i : Nat} {w : Cond} (h : lw_tbl[i]? = some w) (g : mNest w = true) : w ∈ nT := List.mem_filter.mpr ⟨List.mem_of_getElem? h, g⟩
def okF (e : Nat × Nat × Nat × Nat) : Prop := match vwCl[e.2.2.1]? with
  | some q => e.2.2.2 < q.2.2 ∧ Cond.fieldLink (mOwn e.1) e.2.1 (q.2.1 e.2.2.2).1 (q.2.1 e.2.2.2).2.1 (q.2.1 e.2.2.2).2.2.1 ∈ gT
  | none => False
def okS (e : Nat × Nat × Nat × Bool) : Prop := match mStT[e.2.2.1]? with
  | some q => if e.2.2.2 then Cond.fieldLinkNest (mOwn e.1) e.2.1 q.1 q.2.1 "[I" "HeatDown" ∈ nT else Cond.fieldLink (mOwn e.1) e.2.1 q.1 q.2.1 "[I" ∈ gT
  | none => False
def okK (e : Nat × Nat × Int32) : Prop := Cond.constant (mOwn e.1) e.2.1 e.2.2 ∈ gT
def okSc (e : Nat × Nat × Nat × Bool) : Prop := match mTab[e.2.2.1]? with
  | some q => (if e.2.2.2 then Cond.methodLinkNest (mOwn e.1) e.2.1 q.1 "HeatDown" ∈ nT else Cond.methodLink (mOwn e.1) e.2.1 q.1 ∈ gT) ∧ Cond.static q.1 ∈ gT
  | none => False
def okVc (e : Nat × Nat × Nat) : Prop := match mTab[e.2.2]? with
  | some q => Cond.methodLink (mOwn e.1) e.2.1 q.1 ∈ gT ∧ Cond.instanceMethod q.1 ∈ gT ∧ Cond.selects q.1.cls q.1 q.1 ∈ gT
  | none => False
/-- a method that may be called: its code stands in the tables, its class is ready -/
def okMt (q : MethodName × ByteArray × Nat × Option FieldType × Nat × Nat × Nat) : Prop := Cond.code q.1 q.2.1 q.2.2.1 q.2.2.2.1 ∈ gT ∧ Cond.initialized q.1.cls ∈ gT ∧ mOwn q.2.2.2.2.1 = q.1.cls ∧ plainName q.1.cls = true ∧ q.1.cls ≠ "java/lang/invoke/MethodHandle" ∧ q.1.cls ≠ "java/lang/invoke/VarHandle"
theorem okF_0 : okF (7, 10, 7, 0) := ⟨by decide, gT_at (i := 267) (by decide +kernel) rfl⟩
theorem okF_1 : okF (7, 19, 7, 1) := ⟨by decide, gT_at (i := 268) (by decide +kernel) rfl⟩
theorem okF_2 : okF (7, 23, 7, 2) := ⟨by decide, gT_at (i := 269) (by decide +kernel) rfl⟩
theorem okF_3 : okF (7, 26, 7, 3) := ⟨by decide, gT_at (i := 270) (by decide +kernel) rfl⟩
theorem okF_4 : okF (7, 29, 7, 4) := ⟨by decide, gT_at (i := 271) (by decide +kernel) rfl⟩
theorem okF_5 : okF (7, 38, 7, 5) := ⟨by decide, gT_at (i := 272) (by decide +kernel) rfl⟩
theorem okF_6 : okF (7, 45, 7, 6) := ⟨by decide, gT_at (i := 273) (by decide +kernel) rfl⟩
theorem okF_7 : okF (7, 52, 7, 7) := ⟨by decide, gT_at (i := 274) (by decide +kernel) rfl⟩
theorem okF_8 : okF (7, 56, 7, 8) := ⟨by decide, gT_at (i := 275) (by decide +kernel) rfl⟩
theorem okF_9 : okF (7, 60, 7, 9) := ⟨by decide, gT_at (i := 276) (by decide +kernel) rfl⟩
theorem okF_10 : okF (7, 63, 6, 2) := ⟨by decide, gT_at (i := 145) (by decide +kernel) rfl⟩
theorem okF_11 : okF (7, 83, 6, 0) := ⟨by decide, gT_at (i := 141) (by decide +kernel) rfl⟩
theorem okF_12 : okF (7, 97, 6, 1) := ⟨by decide, gT_at (i := 143) (by decide +kernel) rfl⟩
theorem okF_13 : okF (7, 103, 4, 0) := ⟨by decide, gT_at (i := 84) (by decide +kernel) rfl⟩
theorem okF_14 : okF (7, 117, 4, 1) := ⟨by decide, gT_at (i := 86) (by decide +kernel) rfl⟩
theorem okF_15 : okF (7, 124, 6, 3) := ⟨by decide, gT_at (i := 149) (by decide +kernel) rfl⟩
theorem okF_16 : okF (7, 131, 2, 0) := ⟨by decide, gT_at (i := 64) (by decide +kernel) rfl⟩
theorem okF_17 : okF (7, 169, 0, 0) := ⟨by decide, gT_at (i := 166) (by decide +kernel) rfl⟩
theorem okF_18 : okF (7, 172, 0, 1) := ⟨by decide, gT_at (i := 168) (by decide +kernel) rfl⟩
theorem okF_19 : okF (7, 175, 0, 3) := ⟨by decide, gT_at (i := 172) (by decide +kernel) rfl⟩
theorem okF_20 : okF (7, 178, 0, 4) := ⟨by decide, gT_at (i := 174) (by decide +kernel) rfl⟩
theorem okF_21 : okF (7, 187, 0, 2) := ⟨by decide, gT_at (i := 170) (by decide +kernel) rfl⟩
theorem okF_22 : okF (7, 197, 5, 1) := ⟨by decide, gT_at (i := 206) (by decide +kernel) rfl⟩
theorem okF_23 : okF (7, 200, 5, 2) := ⟨by decide, gT_at (i := 208) (by decide +kernel) rfl⟩
theorem okF_24 : okF (7, 203, 5, 3) := ⟨by decide, gT_at (i := 210) (by decide +kernel) rfl⟩
theorem okF_25 : okF (7, 217, 5, 0) := ⟨by decide, gT_at (i := 204) (by decide +kernel) rfl⟩
theorem okF_26 : okF (7, 233, 3, 0) := ⟨by decide, gT_at (i := 239) (by decide +kernel) rfl⟩
theorem okF_27 : okF (7, 234, 3, 1) := ⟨by decide, gT_at (i := 241) (by decide +kernel) rfl⟩
theorem okF_28 : okF (7, 241, 1, 0) := ⟨by decide, gT_at (i := 127) (by decide +kernel) rfl⟩
theorem okF_29 : okF (7, 275, 2, 1) := ⟨by decide, gT_at (i := 67) (by decide +kernel) rfl⟩
theorem okF_30 : okF (0, 9, 0, 0) := ⟨by decide, gT_at (i := 165) (by decide +kernel) rfl⟩
theorem okF_31 : okF (0, 15, 0, 1) := ⟨by decide, gT_at (i := 167) (by decide +kernel) rfl⟩
theorem okF_32 : okF (0, 21, 0, 3) := ⟨by decide, gT_at (i := 171) (by decide +kernel) rfl⟩
theorem okF_33 : okF (0, 24, 0, 4) := ⟨by decide, gT_at (i := 173) (by decide +kernel) rfl⟩
theorem okF_34 : okF (0, 27, 0, 6) := ⟨by decide, gT_at (i := 176) (by decide +kernel) rfl⟩
theorem okF_35 : okF (0, 31, 0, 7) := ⟨by decide, gT_at (i := 177) (by decide +kernel) rfl⟩
theorem okF_36 : okF (0, 34, 0, 5) := ⟨by decide, gT_at (i := 175) (by decide +kernel) rfl⟩
theorem okF_37 : okF (0, 49, 6, 2) := ⟨by decide, gT_at (i := 147) (by decide +kernel) rfl⟩
theorem okF_38 : okF (0, 58, 2, 0) := ⟨by decide, gT_at (i := 62) (by decide +kernel) rfl⟩
theorem okF_39 : okF (1, 9, 1, 0) := ⟨by decide, gT_at (i := 126) (by decide +kernel) rfl⟩
theorem okF_40 : okF (1, 15, 1, 1) := ⟨by decide, gT_at (i := 128) (by decide +kernel) rfl⟩
theorem okF_41 : okF (1, 19, 1, 2) := ⟨by decide, gT_at (i := 129) (by decide +kernel) rfl⟩
theorem okF_42 : okF (1, 22, 1, 3) := ⟨by decide, gT_at (i := 130) (by decide +kernel) rfl⟩
theorem okF_43 : okF (2, 9, 2, 0) := ⟨by decide, gT_at (i := 59) (by decide +kernel) rfl⟩
theorem okF_44 : okF (2, 15, 2, 1) := ⟨by decide, gT_at (i := 65) (by decide +kernel) rfl⟩
theorem okF_45 : okF (2, 18, 2, 2) := ⟨by decide, gT_at (i := 68) (by decide +kernel) rfl⟩
theorem okF_46 : okF (2, 22, 2, 3) := ⟨by decide, gT_at (i := 69) (by decide +kernel) rfl⟩
theorem okF_47 : okF (2, 25, 2, 4) := ⟨by decide, gT_at (i := 70) (by decide +kernel) rfl⟩
theorem okF_48 : okF (3, 9, 3, 0) := ⟨by decide, gT_at (i := 238) (by decide +kernel) rfl⟩
theorem okF_49 : okF (3, 15, 3, 1) := ⟨by decide, gT_at (i := 240) (by decide +kernel) rfl⟩
theorem okF_50 : okF (3, 19, 3, 3) := ⟨by decide, gT_at (i := 243) (by decide +kernel) rfl⟩
theorem okF_51 : okF (3, 22, 3, 4) := ⟨by decide, gT_at (i := 244) (by decide +kernel) rfl⟩
theorem okF_52 : okF (3, 25, 3, 2) := ⟨by decide, gT_at (i := 242) (by decide +kernel) rfl⟩
theorem okF_53 : okF (3, 39, 6, 2) := ⟨by decide, gT_at (i := 146) (by decide +kernel) rfl⟩
theorem okF_54 : okF (3, 43, 2, 0) := ⟨by decide, gT_at (i := 60) (by decide +kernel) rfl⟩
theorem okF_55 : okF (4, 9, 4, 0) := ⟨by decide, gT_at (i := 83) (by decide +kernel) rfl⟩
theorem okF_56 : okF (4, 18, 4, 1) := ⟨by decide, gT_at (i := 85) (by decide +kernel) rfl⟩
theorem okF_57 : okF (4, 22, 4, 2) := ⟨by decide, gT_at (i := 87) (by decide +kernel) rfl⟩
theorem okF_58 : okF (4, 26, 4, 3) := ⟨by decide, gT_at (i := 88) (by decide +kernel) rfl⟩
theorem okF_59 : okF (4, 29, 4, 4) := ⟨by decide, gT_at (i := 89) (by decide +kernel) rfl⟩
theorem okF_60 : okF (4, 55, 2, 1) := ⟨by decide, gT_at (i := 66) (by decide +kernel) rfl⟩
theorem okF_61 : okF (4, 58, 2, 0) := ⟨by decide, gT_at (i := 63) (by decide +kernel) rfl⟩
theorem okF_62 : okF (5, 12, 5, 0) := ⟨by decide, gT_at (i := 203) (by decide +kernel) rfl⟩
theorem okF_63 : okF (5, 18, 5, 1) := ⟨by decide, gT_at (i := 205) (by decide +kernel) rfl⟩
theorem okF_64 : okF (5, 22, 5, 2) := ⟨by decide, gT_at (i := 207) (by decide +kernel) rfl⟩
theorem okF_65 : okF (5, 25, 5, 3) := ⟨by decide, gT_at (i := 209) (by decide +kernel) rfl⟩
theorem okF_66 : okF (5, 28, 5, 5) := ⟨by decide, gT_at (i := 212) (by decide +kernel) rfl⟩
theorem okF_67 : okF (5, 31, 5, 6) := ⟨by decide, gT_at (i := 213) (by decide +kernel) rfl⟩
theorem okF_68 : okF (5, 34, 5, 7) := ⟨by decide, gT_at (i := 214) (by decide +kernel) rfl⟩
theorem okF_69 : okF (5, 38, 5, 4) := ⟨by decide, gT_at (i := 211) (by decide +kernel) rfl⟩
theorem okF_70 : okF (5, 59, 2, 0) := ⟨by decide, gT_at (i := 61) (by decide +kernel) rfl⟩
theorem okF_71 : okF (6, 18, 6, 0) := ⟨by decide, gT_at (i := 140) (by decide +kernel) rfl⟩
theorem okF_72 : okF (6, 26, 6, 1) := ⟨by decide, gT_at (i := 142) (by decide +kernel) rfl⟩
theorem okF_73 : okF (6, 32, 6, 2) := ⟨by decide, gT_at (i := 144) (by decide +kernel) rfl⟩
theorem okF_74 : okF (6, 39, 6, 3) := ⟨by decide, gT_at (i := 148) (by decide +kernel) rfl⟩
theorem okF_75 : okF (8, 7, 8, 0) := ⟨by decide, gT_at (i := 709) (by decide +kernel) rfl⟩
theorem okF_76 : okF (8, 13, 8, 1) := ⟨by decide, gT_at (i := 710) (by decide +kernel) rfl⟩
theorem okF_77 : okF (8, 16, 8, 3) := ⟨by decide, gT_at (i := 712) (by decide +kernel) rfl⟩
theorem okF_78 : okF (8, 19, 8, 4) := ⟨by decide, gT_at (i := 713) (by decide +kernel) rfl⟩
theorem okF_79 : okF (8, 23, 8, 5) := ⟨by decide, gT_at (i := 714) (by decide +kernel) rfl⟩
theorem okF_80 : okF (8, 26, 8, 8) := ⟨by decide, gT_at (i := 717) (by decide +kernel) rfl⟩
theorem okF_81 : okF (8, 29, 8, 10) := ⟨by decide, gT_at (i := 719) (by decide +kernel) rfl⟩
theorem okF_82 : okF (8, 32, 8, 11) := ⟨by decide, gT_at (i := 720) (by decide +kernel) rfl⟩
theorem okF_83 : okF (8, 35, 8, 12) := ⟨by decide, gT_at (i := 721) (by decide +kernel) rfl⟩
theorem okF_84 : okF (8, 38, 8, 18) := ⟨by decide, gT_at (i := 727) (by decide +kernel) rfl⟩
theorem okF_85 : okF (8, 41, 8, 19) := ⟨by decide, gT_at (i := 728) (by decide +kernel) rfl⟩
theorem okF_86 : okF (8, 44, 8, 20) := ⟨by decide, gT_at (i := 729) (by decide +kernel) rfl⟩
theorem okF_87 : okF (8, 47, 8, 21) := ⟨by decide, gT_at (i := 730) (by decide +kernel) rfl⟩
theorem okF_88 : okF (8, 50, 8, 22) := ⟨by decide, gT_at (i := 731) (by decide +kernel) rfl⟩
theorem okF_89 : okF (8, 66, 8, 2) := ⟨by decide, gT_at (i := 711) (by decide +kernel) rfl⟩
theorem okF_90 : okF (8, 72, 8, 6) := ⟨by decide, gT_at (i := 715) (by decide +kernel) rfl⟩
theorem okF_91 : okF (8, 86, 8, 7) := ⟨by decide, gT_at (i := 716) (by decide +kernel) rfl⟩
theorem okF_92 : okF (8, 89, 8, 9) := ⟨by decide, gT_at (i := 718) (by decide +kernel) rfl⟩
theorem okF_93 : okF (8, 92, 8, 13) := ⟨by decide, gT_at (i := 722) (by decide +kernel) rfl⟩
theorem okF_94 : okF (8, 95, 8, 14) := ⟨by decide, gT_at (i := 723) (by decide +kernel) rfl⟩
theorem okF_95 : okF (8, 98, 8, 15) := ⟨by decide, gT_at (i := 724) (by decide +kernel) rfl⟩
theorem okF_96 : okF (8, 101, 8, 16) := ⟨by decide, gT_at (i := 725) (by decide +kernel) rfl⟩
theorem okF_97 : okF (8, 114, 8, 17) := ⟨by decide, gT_at (i := 726) (by decide +kernel) rfl⟩
theorem okF_98 : okF (0, 18, 0, 2) := ⟨by decide, gT_at (i := 169) (by decide +kernel) rfl⟩
set_option maxRecDepth 100000 in
theorem mFl_ok : ∀ e ∈ mFl, okF e := List.forall_mem_cons.mpr ⟨okF_0, List.forall_mem_cons.mpr ⟨okF_1, List.forall_mem_cons.mpr ⟨okF_2, List.forall_mem_cons.mpr ⟨okF_3, List.forall_mem_cons.mpr ⟨okF_4, List.forall_mem_cons.mpr ⟨okF_5, List.forall_mem_cons.mpr ⟨okF_6, List.forall_mem_cons.mpr ⟨okF_7, List.forall_mem_cons.mpr ⟨okF_8, List.forall_mem_cons.mpr ⟨okF_9, List.forall_mem_cons.mpr ⟨okF_10, List.forall_mem_cons.mpr ⟨okF_11, List.forall_mem_cons.mpr ⟨okF_12, List.forall_mem_cons.mpr ⟨okF_13, List.forall_mem_cons.mpr ⟨okF_14, List.forall_mem_cons.mpr ⟨okF_15, List.forall_mem_cons.mpr ⟨okF_16, List.forall_mem_cons.mpr ⟨okF_17, List.forall_mem_cons.mpr ⟨okF_18, List.forall_mem_cons.mpr ⟨okF_19, List.forall_mem_cons.mpr ⟨okF_20, List.forall_mem_cons.mpr ⟨okF_21, List.forall_mem_cons.mpr ⟨okF_22, List.forall_mem_cons.mpr ⟨okF_23, List.forall_mem_cons.mpr ⟨okF_24, List.forall_mem_cons.mpr ⟨okF_25, List.forall_mem_cons.mpr ⟨okF_26, List.forall_mem_cons.mpr ⟨okF_27, List.forall_mem_cons.mpr ⟨okF_28, List.forall_mem_cons.mpr ⟨okF_29, List.forall_mem_cons.mpr ⟨okF_30, List.forall_mem_cons.mpr ⟨okF_31, List.forall_mem_cons.mpr ⟨okF_32, List.forall_mem_cons.mpr ⟨okF_33, List.forall_mem_cons.mpr ⟨okF_34, List.forall_mem_cons.mpr ⟨okF_35, List.forall_mem_cons.mpr ⟨okF_36, List.forall_mem_cons.mpr ⟨okF_37, List.forall_mem_cons.mpr ⟨okF_38, List.forall_mem_cons.mpr ⟨okF_39, List.forall_mem_cons.mpr ⟨okF_40, List.forall_mem_cons.mpr ⟨okF_41, List.forall_mem_cons.mpr ⟨okF_42, List.forall_mem_cons.mpr ⟨okF_43, List.forall_mem_cons.mpr ⟨okF_44, List.forall_mem_cons.mpr ⟨okF_45, List.forall_mem_cons.mpr ⟨okF_46, List.forall_mem_cons.mpr ⟨okF_47, List.forall_mem_cons.mpr ⟨okF_48, List.forall_mem_cons.mpr ⟨okF_49, List.forall_mem_cons.mpr ⟨okF_50, List.forall_mem_cons.mpr ⟨okF_51, List.forall_mem_cons.mpr ⟨okF_52, List.forall_mem_cons.mpr ⟨okF_53, List.forall_mem_cons.mpr ⟨okF_54, List.forall_mem_cons.mpr ⟨okF_55, List.forall_mem_cons.mpr ⟨okF_56, List.forall_mem_cons.mpr ⟨okF_57, List.forall_mem_cons.mpr ⟨okF_58, List.forall_mem_cons.mpr ⟨okF_59, List.forall_mem_cons.mpr ⟨okF_60, List.forall_mem_cons.mpr ⟨okF_61, List.forall_mem_cons.mpr ⟨okF_62, List.forall_mem_cons.mpr ⟨okF_63, List.forall_mem_cons.mpr ⟨okF_64, List.forall_mem_cons.mpr ⟨okF_65, List.forall_mem_cons.mpr ⟨okF_66, List.forall_mem_cons.mpr ⟨okF_67, List.forall_mem_cons.mpr ⟨okF_68, List.forall_mem_cons.mpr ⟨okF_69, List.forall_mem_cons.mpr ⟨okF_70, List.forall_mem_cons.mpr ⟨okF_71, List.forall_mem_cons.mpr ⟨okF_72, List.forall_mem_cons.mpr ⟨okF_73, List.forall_mem_cons.mpr ⟨okF_74, List.forall_mem_cons.mpr ⟨okF_75, List.forall_mem_cons.mpr ⟨okF_76, List.forall_mem_cons.mpr ⟨okF_77, List.forall_mem_cons.mpr ⟨okF_78, List.forall_mem_cons.mpr ⟨okF_79, List.forall_mem_cons.mpr ⟨okF_80, List.forall_mem_cons.mpr ⟨okF_81, List.forall_mem_cons.mpr ⟨okF_82, List.forall_mem_cons.mpr ⟨okF_83, List.forall_mem_cons.mpr ⟨okF_84, List.forall_mem_cons.mpr ⟨okF_85, List.forall_mem_cons.mpr ⟨okF_86, List.forall_mem_cons.mpr ⟨okF_87, List.forall_mem_cons.mpr ⟨okF_88, List.forall_mem_cons.mpr ⟨okF_89, List.forall_mem_cons.mpr ⟨okF_90, List.forall_mem_cons.mpr ⟨okF_91, List.forall_mem_cons.mpr ⟨okF_92, List.forall_mem_cons.mpr ⟨okF_93, List.forall_mem_cons.mpr ⟨okF_94, List.forall_mem_cons.mpr ⟨okF_95, List.forall_mem_cons.mpr ⟨okF_96, List.forall_mem_cons.mpr ⟨okF_97, List.forall_mem_cons.mpr ⟨okF_98, fun _ h => absurd h List.not_mem_nil⟩⟩⟩⟩⟩⟩⟩⟩⟩⟩⟩⟩⟩⟩⟩⟩⟩⟩⟩⟩⟩⟩⟩⟩⟩⟩⟩⟩⟩⟩⟩⟩⟩⟩⟩⟩⟩⟩⟩⟩⟩⟩⟩⟩⟩⟩⟩⟩⟩⟩⟩⟩⟩⟩⟩⟩⟩⟩⟩⟩⟩⟩⟩⟩⟩⟩⟩⟩⟩⟩⟩⟩⟩⟩⟩⟩⟩⟩⟩⟩⟩⟩⟩⟩⟩⟩⟩⟩⟩⟩⟩⟩⟩⟩⟩⟩⟩⟩⟩
theorem okS_0 : okS (7, 73, 1, false) := gT_at (i := 302) (by decide +kernel) rfl
theorem okS_1 : okS (7, 80, 2, false) := gT_at (i := 307) (by decide +kernel) rfl
theorem okS_2 : okS (7, 94, 4, false) := gT_at (i := 320) (by decide +kernel) rfl
theorem okS_3 : okS (4, 69, 5, true) := nT_at (i := 355) (by decide +kernel) rfl
theorem mSl_ok : ∀ e ∈ mSl, okS e := List.forall_mem_cons.mpr ⟨okS_0, List.forall_mem_cons.mpr ⟨okS_1, List.forall_mem_cons.mpr ⟨okS_2, List.forall_mem_cons.mpr ⟨okS_3, fun _ h => absurd h List.not_mem_nil⟩⟩⟩⟩
theorem okK_0 : okK (7, 248, 65537) := gT_at (i := 666) (by decide +kernel) rfl
theorem okK_1 : okK (8, 140, 65537) := gT_at (i := 923) (by decide +kernel) rfl
theorem okK_2 : okK (10, 265, 1431655765) := gT_at (i := 562) (by decide +kernel) rfl
theorem okK_3 : okK (10, 266, 858993459) := gT_at (i := 563) (by decide +kernel) rfl
theorem okK_4 : okK (10, 267, 252645135) := gT_at (i := 564) (by decide +kernel) rfl
theorem mKl_ok : ∀ e ∈ mKl, okK e := List.forall_mem_cons.mpr ⟨okK_0, List.forall_mem_cons.mpr ⟨okK_1, List.forall_mem_cons.mpr ⟨okK_2, List.forall_mem_cons.mpr ⟨okK_3, List.forall_mem_cons.mpr ⟨okK_4, fun _ h => absurd h List.not_mem_nil⟩⟩⟩⟩⟩
def okX (e : Nat × Nat × Nat) : Prop := match e.2.2 with
  | 0 => Cond.methodLink (mOwn e.1) e.2.1 Lib.Math.max.name ∈ gT
  | _ => Cond.methodLink (mOwn e.1) e.2.1 Lib.Math.min.name ∈ gT
theorem okX_0 : okX (7, 249, 0) := gT_at (i := 661) (by decide +kernel) rfl
theorem okX_1 : okX (7, 287, 1) := gT_at (i := 565) (by decide +kernel) rfl
theorem okX_2 : okX (6, 59, 0) := gT_at (i := 445) (by decide +kernel) rfl
theorem mXl_ok : ∀ e ∈ mXl, okX e := List.forall_mem_cons.mpr ⟨okX_0, List.forall_mem_cons.mpr ⟨okX_1, List.forall_mem_cons.mpr ⟨okX_2, fun _ h => absurd h List.not_mem_nil⟩⟩⟩
theorem math_in : Cond.static Lib.Math.max.name ∈ gT ∧ Cond.static Lib.Math.min.name ∈ gT ∧ Cond.initialized "java/lang/Math" ∈ gT ∧ Cond.code Lib.Math.max.name Lib.Math.max.code 2 (some .int) ∈ gT ∧ Cond.code Lib.Math.min.name Lib.Math.min.code 2 (some .int) ∈ gT := ⟨gT_at (i := 446) (by decide +kernel) rfl, gT_at (i := 566) (by decide +kernel) rfl, gT_at (i := 37) (by decide +kernel) rfl, gT_at (i := 447) (by decide +kernel) rfl, gT_at (i := 567) (by decide +kernel) rfl⟩
theorem okSc_0 : okSc (7, 76, 81, false) := ⟨gT_at (i := 304) (by decide +kernel) rfl, gT_at (i := 305) (by decide +kernel) rfl⟩
theorem okSc_1 : okSc (7, 86, 83, false) := ⟨gT_at (i := 309) (by decide +kernel) rfl, gT_at (i := 310) (by decide +kernel) rfl⟩
theorem okSc_2 : okSc (7, 90, 71, false) := ⟨gT_at (i := 317) (by decide +kernel) rfl, gT_at (i := 318) (by decide +kernel) rfl⟩
theorem okSc_3 : okSc (7, 147, 70, false) := ⟨gT_at (i := 410) (by decide +kernel) rfl, gT_at (i := 411) (by decide +kernel) rfl⟩
theorem okSc_4 : okSc (7, 190, 86, false) := ⟨gT_at (i := 495) (by decide +kernel) rfl, gT_at (i := 496) (by decide +kernel) rfl⟩
theorem okSc_5 : okSc (7, 257, 128, false) := ⟨gT_at (i := 559) (by decide +kernel) rfl, gT_at (i := 560) (by decide +kernel) rfl⟩
theorem okSc_6 : okSc (7, 268, 85, false) := ⟨gT_at (i := 498) (by decide +kernel) rfl, gT_at (i := 368) (by decide +kernel) rfl⟩
theorem okSc_7 : okSc (7, 297, 82, false) := ⟨gT_at (i := 312) (by decide +kernel) rfl, gT_at (i := 265) (by decide +kernel) rfl⟩
theorem okSc_8 : okSc (0, 38, 81, true) := ⟨nT_at (i := 474) (by decide +kernel) rfl, gT_at (i := 305) (by decide +kernel) rfl⟩
theorem okSc_9 : okSc (0, 73, 85, true) := ⟨nT_at (i := 449) (by decide +kernel) rfl, gT_at (i := 368) (by decide +kernel) rfl⟩
theorem okSc_10 : okSc (0, 77, 82, true) := ⟨nT_at (i := 450) (by decide +kernel) rfl, gT_at (i := 265) (by decide +kernel) rfl⟩
theorem okSc_11 : okSc (1, 25, 82, true) := ⟨nT_at (i := 628) (by decide +kernel) rfl, gT_at (i := 265) (by decide +kernel) rfl⟩
theorem okSc_12 : okSc (1, 29, 81, true) := ⟨nT_at (i := 645) (by decide +kernel) rfl, gT_at (i := 305) (by decide +kernel) rfl⟩
theorem okSc_13 : okSc (1, 39, 84, true) := ⟨nT_at (i := 689) (by decide +kernel) rfl, gT_at (i := 379) (by decide +kernel) rfl⟩
theorem okSc_14 : okSc (2, 28, 81, true) := ⟨nT_at (i := 397) (by decide +kernel) rfl, gT_at (i := 305) (by decide +kernel) rfl⟩
theorem okSc_15 : okSc (2, 40, 82, true) := ⟨nT_at (i := 264) (by decide +kernel) rfl, gT_at (i := 265) (by decide +kernel) rfl⟩
theorem okSc_16 : okSc (2, 44, 85, true) := ⟨nT_at (i := 572) (by decide +kernel) rfl, gT_at (i := 368) (by decide +kernel) rfl⟩
theorem okSc_17 : okSc (2, 48, 84, true) := ⟨nT_at (i := 378) (by decide +kernel) rfl, gT_at (i := 379) (by decide +kernel) rfl⟩
theorem okSc_18 : okSc (3, 35, 24, false) := ⟨gT_at (i := 603) (by decide +kernel) rfl, gT_at (i := 604) (by decide +kernel) rfl⟩
theorem okSc_19 : okSc (3, 51, 85, true) := ⟨nT_at (i := 611) (by decide +kernel) rfl, gT_at (i := 368) (by decide +kernel) rfl⟩
theorem okSc_20 : okSc (3, 65, 84, true) := ⟨nT_at (i := 614) (by decide +kernel) rfl, gT_at (i := 379) (by decide +kernel) rfl⟩
theorem okSc_21 : okSc (3, 84, 82, true) := ⟨nT_at (i := 619) (by decide +kernel) rfl, gT_at (i := 265) (by decide +kernel) rfl⟩
theorem okSc_22 : okSc (4, 32, 82, true) := ⟨nT_at (i := 330) (by decide +kernel) rfl, gT_at (i := 265) (by decide +kernel) rfl⟩
theorem okSc_23 : okSc (4, 36, 81, true) := ⟨nT_at (i := 351) (by decide +kernel) rfl, gT_at (i := 305) (by decide +kernel) rfl⟩
theorem okSc_24 : okSc (4, 43, 32, false) := ⟨gT_at (i := 352) (by decide +kernel) rfl, gT_at (i := 353) (by decide +kernel) rfl⟩
theorem okSc_25 : okSc (4, 65, 85, true) := ⟨nT_at (i := 367) (by decide +kernel) rfl, gT_at (i := 368) (by decide +kernel) rfl⟩
theorem okSc_26 : okSc (5, 55, 38, false) := ⟨gT_at (i := 528) (by decide +kernel) rfl, gT_at (i := 529) (by decide +kernel) rfl⟩
theorem okSc_27 : okSc (5, 62, 82, true) := ⟨nT_at (i := 520) (by decide +kernel) rfl, gT_at (i := 265) (by decide +kernel) rfl⟩
theorem okSc_28 : okSc (5, 81, 81, true) := ⟨nT_at (i := 535) (by decide +kernel) rfl, gT_at (i := 305) (by decide +kernel) rfl⟩
theorem okSc_29 : okSc (5, 99, 85, true) := ⟨nT_at (i := 543) (by decide +kernel) rfl, gT_at (i := 368) (by decide +kernel) rfl⟩
theorem okSc_30 : okSc (6, 43, 81, true) := ⟨nT_at (i := 433) (by decide +kernel) rfl, gT_at (i := 305) (by decide +kernel) rfl⟩
theorem okSc_31 : okSc (6, 51, 85, true) := ⟨nT_at (i := 468) (by decide +kernel) rfl, gT_at (i := 368) (by decide +kernel) rfl⟩
theorem okSc_32 : okSc (6, 64, 84, true) := ⟨nT_at (i := 683) (by decide +kernel) rfl, gT_at (i := 379) (by decide +kernel) rfl⟩
theorem okSc_33 : okSc (8, 58, 88, false) := ⟨gT_at (i := 784) (by decide +kernel) rfl, gT_at (i := 785) (by decide +kernel) rfl⟩
theorem okSc_34 : okSc (8, 62, 92, false) := ⟨gT_at (i := 791) (by decide +kernel) rfl, gT_at (i := 792) (by decide +kernel) rfl⟩
theorem okSc_35 : okSc (8, 69, 96, false) := ⟨gT_at (i := 810) (by decide +kernel) rfl, gT_at (i := 811) (by decide +kernel) rfl⟩
theorem okSc_36 : okSc (8, 75, 89, false) := ⟨gT_at (i := 817) (by decide +kernel) rfl, gT_at (i := 818) (by decide +kernel) rfl⟩
theorem okSc_37 : okSc (8, 123, 90, false) := ⟨gT_at (i := 868) (by decide +kernel) rfl, gT_at (i := 869) (by decide +kernel) rfl⟩
theorem mSc_ok : ∀ e ∈ mSc, okSc e := List.forall_mem_cons.mpr ⟨okSc_0, List.forall_mem_cons.mpr ⟨okSc_1, List.forall_mem_cons.mpr ⟨okSc_2, List.forall_mem_cons.mpr ⟨okSc_3, List.forall_mem_cons.mpr ⟨okSc_4, List.forall_mem_cons.mpr ⟨okSc_5, List.forall_mem_cons.mpr ⟨okSc_6, List.forall_mem_cons.mpr ⟨okSc_7, List.forall_mem_cons.mpr ⟨okSc_8, List.forall_mem_cons.mpr ⟨okSc_9, List.forall_mem_cons.mpr ⟨okSc_10, List.forall_mem_cons.mpr ⟨okSc_11, List.forall_mem_cons.mpr ⟨okSc_12, List.forall_mem_cons.mpr ⟨okSc_13, List.forall_mem_cons.mpr ⟨okSc_14, List.forall_mem_cons.mpr ⟨okSc_15, List.forall_mem_cons.mpr ⟨okSc_16, List.forall_mem_cons.mpr ⟨okSc_17, List.forall_mem_cons.mpr ⟨okSc_18, List.forall_mem_cons.mpr ⟨okSc_19, List.forall_mem_cons.mpr ⟨okSc_20, List.forall_mem_cons.mpr ⟨okSc_21, List.forall_mem_cons.mpr ⟨okSc_22, List.forall_mem_cons.mpr ⟨okSc_23, List.forall_mem_cons.mpr ⟨okSc_24, List.forall_mem_cons.mpr ⟨okSc_25, List.forall_mem_cons.mpr ⟨okSc_26, List.forall_mem_cons.mpr ⟨okSc_27, List.forall_mem_cons.mpr ⟨okSc_28, List.forall_mem_cons.mpr ⟨okSc_29, List.forall_mem_cons.mpr ⟨okSc_30, List.forall_mem_cons.mpr ⟨okSc_31, List.forall_mem_cons.mpr ⟨okSc_32, List.forall_mem_cons.mpr ⟨okSc_33, List.forall_mem_cons.mpr ⟨okSc_34, List.forall_mem_cons.mpr ⟨okSc_35, List.forall_mem_cons.mpr ⟨okSc_36, List.forall_mem_cons.mpr ⟨okSc_37, fun _ h => absurd h List.not_mem_nil⟩⟩⟩⟩⟩⟩⟩⟩⟩⟩⟩⟩⟩⟩⟩⟩⟩⟩⟩⟩⟩⟩⟩⟩⟩⟩⟩⟩⟩⟩⟩⟩⟩⟩⟩⟩⟩⟩
theorem okVc_0 : okVc (7, 67, 18) := ⟨gT_at (i := 256) (by decide +kernel) rfl, gT_at (i := 257) (by decide +kernel) rfl, gT_at (i := 258) (by decide +kernel) rfl⟩
theorem okVc_1 : okVc (7, 100, 25) := ⟨gT_at (i := 326) (by decide +kernel) rfl, gT_at (i := 327) (by decide +kernel) rfl, gT_at (i := 328) (by decide +kernel) rfl⟩
theorem okVc_2 : okVc (7, 106, 26) := ⟨gT_at (i := 335) (by decide +kernel) rfl, gT_at (i := 336) (by decide +kernel) rfl, gT_at (i := 337) (by decide +kernel) rfl⟩
theorem okVc_3 : okVc (7, 110, 29) := ⟨gT_at (i := 343) (by decide +kernel) rfl, gT_at (i := 344) (by decide +kernel) rfl, gT_at (i := 345) (by decide +kernel) rfl⟩
theorem okVc_4 : okVc (7, 113, 30) := ⟨gT_at (i := 359) (by decide +kernel) rfl, gT_at (i := 360) (by decide +kernel) rfl, gT_at (i := 361) (by decide +kernel) rfl⟩
theorem okVc_5 : okVc (7, 120, 21) := ⟨gT_at (i := 374) (by decide +kernel) rfl, gT_at (i := 375) (by decide +kernel) rfl, gT_at (i := 376) (by decide +kernel) rfl⟩
theorem okVc_6 : okVc (7, 128, 7) := ⟨gT_at (i := 381) (by decide +kernel) rfl, gT_at (i := 382) (by decide +kernel) rfl, gT_at (i := 383) (by decide +kernel) rfl⟩
theorem okVc_7 : okVc (7, 134, 72) := ⟨gT_at (i := 389) (by decide +kernel) rfl, gT_at (i := 391) (by decide +kernel) rfl, gT_at (i := 1) (by decide +kernel) rfl⟩
theorem okVc_8 : okVc (7, 137, 10) := ⟨gT_at (i := 393) (by decide +kernel) rfl, gT_at (i := 394) (by decide +kernel) rfl, gT_at (i := 395) (by decide +kernel) rfl⟩
theorem okVc_9 : okVc (7, 141, 11) := ⟨gT_at (i := 398) (by decide +kernel) rfl, gT_at (i := 399) (by decide +kernel) rfl, gT_at (i := 400) (by decide +kernel) rfl⟩
theorem okVc_10 : okVc (7, 144, 12) := ⟨gT_at (i := 402) (by decide +kernel) rfl, gT_at (i := 403) (by decide +kernel) rfl, gT_at (i := 404) (by decide +kernel) rfl⟩
theorem okVc_11 : okVc (7, 150, 73) := ⟨gT_at (i := 413) (by decide +kernel) rfl, gT_at (i := 415) (by decide +kernel) rfl, gT_at (i := 2) (by decide +kernel) rfl⟩
theorem okVc_12 : okVc (7, 153, 74) := ⟨gT_at (i := 421) (by decide +kernel) rfl, gT_at (i := 423) (by decide +kernel) rfl, gT_at (i := 3) (by decide +kernel) rfl⟩
theorem okVc_13 : okVc (7, 156, 39) := ⟨gT_at (i := 429) (by decide +kernel) rfl, gT_at (i := 430) (by decide +kernel) rfl, gT_at (i := 431) (by decide +kernel) rfl⟩
theorem okVc_14 : okVc (7, 159, 3) := ⟨gT_at (i := 434) (by decide +kernel) rfl, gT_at (i := 435) (by decide +kernel) rfl, gT_at (i := 436) (by decide +kernel) rfl⟩
theorem okVc_15 : okVc (7, 163, 0) := ⟨gT_at (i := 470) (by decide +kernel) rfl, gT_at (i := 471) (by decide +kernel) rfl, gT_at (i := 472) (by decide +kernel) rfl⟩
theorem okVc_16 : okVc (7, 166, 1) := ⟨gT_at (i := 475) (by decide +kernel) rfl, gT_at (i := 476) (by decide +kernel) rfl, gT_at (i := 477) (by decide +kernel) rfl⟩
theorem okVc_17 : okVc (7, 181, 27) := ⟨gT_at (i := 487) (by decide +kernel) rfl, gT_at (i := 488) (by decide +kernel) rfl, gT_at (i := 489) (by decide +kernel) rfl⟩
theorem okVc_18 : okVc (7, 184, 28) := ⟨gT_at (i := 491) (by decide +kernel) rfl, gT_at (i := 492) (by decide +kernel) rfl, gT_at (i := 493) (by decide +kernel) rfl⟩
theorem okVc_19 : okVc (7, 193, 76) := ⟨gT_at (i := 503) (by decide +kernel) rfl, gT_at (i := 505) (by decide +kernel) rfl, gT_at (i := 5) (by decide +kernel) rfl⟩
theorem okVc_20 : okVc (7, 206, 77) := ⟨gT_at (i := 550) (by decide +kernel) rfl, gT_at (i := 552) (by decide +kernel) rfl, gT_at (i := 9) (by decide +kernel) rfl⟩
theorem okVc_21 : okVc (7, 210, 13) := ⟨gT_at (i := 581) (by decide +kernel) rfl, gT_at (i := 261) (by decide +kernel) rfl, gT_at (i := 262) (by decide +kernel) rfl⟩
theorem okVc_22 : okVc (7, 214, 33) := ⟨gT_at (i := 507) (by decide +kernel) rfl, gT_at (i := 508) (by decide +kernel) rfl, gT_at (i := 509) (by decide +kernel) rfl⟩
theorem okVc_23 : okVc (7, 220, 19) := ⟨gT_at (i := 582) (by decide +kernel) rfl, gT_at (i := 583) (by decide +kernel) rfl, gT_at (i := 584) (by decide +kernel) rfl⟩
theorem okVc_24 : okVc (7, 224, 34) := ⟨gT_at (i := 511) (by decide +kernel) rfl, gT_at (i := 512) (by decide +kernel) rfl, gT_at (i := 513) (by decide +kernel) rfl⟩
theorem okVc_25 : okVc (7, 227, 78) := ⟨gT_at (i := 590) (by decide +kernel) rfl, gT_at (i := 592) (by decide +kernel) rfl, gT_at (i := 10) (by decide +kernel) rfl⟩
theorem okVc_26 : okVc (7, 230, 22) := ⟨gT_at (i := 598) (by decide +kernel) rfl, gT_at (i := 599) (by decide +kernel) rfl, gT_at (i := 600) (by decide +kernel) rfl⟩
theorem okVc_27 : okVc (7, 237, 6) := ⟨gT_at (i := 624) (by decide +kernel) rfl, gT_at (i := 625) (by decide +kernel) rfl, gT_at (i := 626) (by decide +kernel) rfl⟩
theorem okVc_28 : okVc (7, 242, 79) := ⟨gT_at (i := 637) (by decide +kernel) rfl, gT_at (i := 639) (by decide +kernel) rfl, gT_at (i := 12) (by decide +kernel) rfl⟩
theorem okVc_29 : okVc (7, 245, 80) := ⟨gT_at (i := 657) (by decide +kernel) rfl, gT_at (i := 659) (by decide +kernel) rfl, gT_at (i := 13) (by decide +kernel) rfl⟩
theorem okVc_30 : okVc (7, 254, 5) := ⟨gT_at (i := 667) (by decide +kernel) rfl, gT_at (i := 668) (by decide +kernel) rfl, gT_at (i := 669) (by decide +kernel) rfl⟩
theorem okVc_31 : okVc (7, 262, 75) := ⟨gT_at (i := 675) (by decide +kernel) rfl, gT_at (i := 677) (by decide +kernel) rfl, gT_at (i := 14) (by decide +kernel) rfl⟩
theorem okVc_32 : okVc (7, 266, 45) := ⟨gT_at (i := 679) (by decide +kernel) rfl, gT_at (i := 680) (by decide +kernel) rfl, gT_at (i := 681) (by decide +kernel) rfl⟩
theorem okVc_33 : okVc (7, 272, 40) := ⟨gT_at (i := 698) (by decide +kernel) rfl, gT_at (i := 461) (by decide +kernel) rfl, gT_at (i := 462) (by decide +kernel) rfl⟩
theorem okVc_34 : okVc (7, 278, 15) := ⟨gT_at (i := 417) (by decide +kernel) rfl, gT_at (i := 418) (by decide +kernel) rfl, gT_at (i := 419) (by decide +kernel) rfl⟩
theorem okVc_35 : okVc (7, 281, 14) := ⟨gT_at (i := 425) (by decide +kernel) rfl, gT_at (i := 426) (by decide +kernel) rfl, gT_at (i := 427) (by decide +kernel) rfl⟩
theorem okVc_36 : okVc (7, 284, 16) := ⟨gT_at (i := 554) (by decide +kernel) rfl, gT_at (i := 555) (by decide +kernel) rfl, gT_at (i := 556) (by decide +kernel) rfl⟩
theorem okVc_37 : okVc (7, 290, 20) := ⟨gT_at (i := 568) (by decide +kernel) rfl, gT_at (i := 569) (by decide +kernel) rfl, gT_at (i := 570) (by decide +kernel) rfl⟩
theorem okVc_38 : okVc (7, 293, 8) := ⟨gT_at (i := 641) (by decide +kernel) rfl, gT_at (i := 642) (by decide +kernel) rfl, gT_at (i := 643) (by decide +kernel) rfl⟩
theorem okVc_39 : okVc (7, 301, 2) := ⟨gT_at (i := 652) (by decide +kernel) rfl, gT_at (i := 647) (by decide +kernel) rfl, gT_at (i := 648) (by decide +kernel) rfl⟩
theorem okVc_40 : okVc (0, 42, 0) := ⟨gT_at (i := 650) (by decide +kernel) rfl, gT_at (i := 471) (by decide +kernel) rfl, gT_at (i := 472) (by decide +kernel) rfl⟩
theorem okVc_41 : okVc (0, 46, 1) := ⟨gT_at (i := 651) (by decide +kernel) rfl, gT_at (i := 476) (by decide +kernel) rfl, gT_at (i := 477) (by decide +kernel) rfl⟩
theorem okVc_42 : okVc (0, 55, 39) := ⟨gT_at (i := 438) (by decide +kernel) rfl, gT_at (i := 430) (by decide +kernel) rfl, gT_at (i := 431) (by decide +kernel) rfl⟩
theorem okVc_43 : okVc (0, 63, 11) := ⟨gT_at (i := 439) (by decide +kernel) rfl, gT_at (i := 399) (by decide +kernel) rfl, gT_at (i := 400) (by decide +kernel) rfl⟩
theorem okVc_44 : okVc (0, 66, 42) := ⟨gT_at (i := 440) (by decide +kernel) rfl, gT_at (i := 441) (by decide +kernel) rfl, gT_at (i := 442) (by decide +kernel) rfl⟩
theorem okVc_45 : okVc (0, 70, 12) := ⟨gT_at (i := 448) (by decide +kernel) rfl, gT_at (i := 403) (by decide +kernel) rfl, gT_at (i := 404) (by decide +kernel) rfl⟩
theorem okVc_46 : okVc (0, 81, 4) := ⟨gT_at (i := 451) (by decide +kernel) rfl, gT_at (i := 453) (by decide +kernel) rfl, gT_at (i := 4) (by decide +kernel) rfl⟩
theorem okVc_47 : okVc (0, 85, 10) := ⟨gT_at (i := 455) (by decide +kernel) rfl, gT_at (i := 394) (by decide +kernel) rfl, gT_at (i := 395) (by decide +kernel) rfl⟩
theorem okVc_48 : okVc (0, 88, 43) := ⟨gT_at (i := 456) (by decide +kernel) rfl, gT_at (i := 457) (by decide +kernel) rfl, gT_at (i := 458) (by decide +kernel) rfl⟩
theorem okVc_49 : okVc (0, 92, 44) := ⟨gT_at (i := 464) (by decide +kernel) rfl, gT_at (i := 465) (by decide +kernel) rfl, gT_at (i := 466) (by decide +kernel) rfl⟩
theorem okVc_50 : okVc (0, 96, 40) := ⟨gT_at (i := 469) (by decide +kernel) rfl, gT_at (i := 461) (by decide +kernel) rfl, gT_at (i := 462) (by decide +kernel) rfl⟩
theorem okVc_51 : okVc (1, 33, 2) := ⟨gT_at (i := 646) (by decide +kernel) rfl, gT_at (i := 647) (by decide +kernel) rfl, gT_at (i := 648) (by decide +kernel) rfl⟩
theorem okVc_52 : okVc (2, 32, 11) := ⟨gT_at (i := 558) (by decide +kernel) rfl, gT_at (i := 399) (by decide +kernel) rfl, gT_at (i := 400) (by decide +kernel) rfl⟩
theorem okVc_53 : okVc (2, 36, 13) := ⟨gT_at (i := 260) (by decide +kernel) rfl, gT_at (i := 261) (by decide +kernel) rfl, gT_at (i := 262) (by decide +kernel) rfl⟩
theorem okVc_54 : okVc (3, 29, 39) := ⟨gT_at (i := 602) (by decide +kernel) rfl, gT_at (i := 430) (by decide +kernel) rfl, gT_at (i := 431) (by decide +kernel) rfl⟩
theorem okVc_55 : okVc (3, 48, 10) := ⟨gT_at (i := 610) (by decide +kernel) rfl, gT_at (i := 394) (by decide +kernel) rfl, gT_at (i := 395) (by decide +kernel) rfl⟩
theorem okVc_56 : okVc (3, 55, 41) := ⟨gT_at (i := 612) (by decide +kernel) rfl, gT_at (i := 523) (by decide +kernel) rfl, gT_at (i := 524) (by decide +kernel) rfl⟩
theorem okVc_57 : okVc (3, 58, 40) := ⟨gT_at (i := 613) (by decide +kernel) rfl, gT_at (i := 461) (by decide +kernel) rfl, gT_at (i := 462) (by decide +kernel) rfl⟩
theorem okVc_58 : okVc (3, 62, 23) := ⟨gT_at (i := 606) (by decide +kernel) rfl, gT_at (i := 608) (by decide +kernel) rfl, gT_at (i := 11) (by decide +kernel) rfl⟩
theorem okVc_59 : okVc (3, 69, 11) := ⟨gT_at (i := 615) (by decide +kernel) rfl, gT_at (i := 399) (by decide +kernel) rfl, gT_at (i := 400) (by decide +kernel) rfl⟩
theorem okVc_60 : okVc (3, 72, 42) := ⟨gT_at (i := 616) (by decide +kernel) rfl, gT_at (i := 441) (by decide +kernel) rfl, gT_at (i := 442) (by decide +kernel) rfl⟩
theorem okVc_61 : okVc (3, 76, 43) := ⟨gT_at (i := 617) (by decide +kernel) rfl, gT_at (i := 457) (by decide +kernel) rfl, gT_at (i := 458) (by decide +kernel) rfl⟩
theorem okVc_62 : okVc (3, 80, 44) := ⟨gT_at (i := 618) (by decide +kernel) rfl, gT_at (i := 465) (by decide +kernel) rfl, gT_at (i := 466) (by decide +kernel) rfl⟩
theorem okVc_63 : okVc (4, 40, 17) := ⟨gT_at (i := 347) (by decide +kernel) rfl, gT_at (i := 348) (by decide +kernel) rfl, gT_at (i := 349) (by decide +kernel) rfl⟩
theorem okVc_64 : okVc (4, 47, 13) := ⟨gT_at (i := 357) (by decide +kernel) rfl, gT_at (i := 261) (by decide +kernel) rfl, gT_at (i := 262) (by decide +kernel) rfl⟩
theorem okVc_65 : okVc (4, 51, 18) := ⟨gT_at (i := 358) (by decide +kernel) rfl, gT_at (i := 257) (by decide +kernel) rfl, gT_at (i := 258) (by decide +kernel) rfl⟩
theorem okVc_66 : okVc (4, 61, 31) := ⟨gT_at (i := 363) (by decide +kernel) rfl, gT_at (i := 365) (by decide +kernel) rfl, gT_at (i := 0) (by decide +kernel) rfl⟩
theorem okVc_67 : okVc (5, 42, 39) := ⟨gT_at (i := 515) (by decide +kernel) rfl, gT_at (i := 430) (by decide +kernel) rfl, gT_at (i := 431) (by decide +kernel) rfl⟩
theorem okVc_68 : okVc (5, 48, 35) := ⟨gT_at (i := 516) (by decide +kernel) rfl, gT_at (i := 518) (by decide +kernel) rfl, gT_at (i := 6) (by decide +kernel) rfl⟩
theorem okVc_69 : okVc (5, 51, 15) := ⟨gT_at (i := 527) (by decide +kernel) rfl, gT_at (i := 418) (by decide +kernel) rfl, gT_at (i := 419) (by decide +kernel) rfl⟩
theorem okVc_70 : okVc (5, 66, 10) := ⟨gT_at (i := 521) (by decide +kernel) rfl, gT_at (i := 394) (by decide +kernel) rfl, gT_at (i := 395) (by decide +kernel) rfl⟩
theorem okVc_71 : okVc (5, 69, 41) := ⟨gT_at (i := 522) (by decide +kernel) rfl, gT_at (i := 523) (by decide +kernel) rfl, gT_at (i := 524) (by decide +kernel) rfl⟩
theorem okVc_72 : okVc (5, 73, 40) := ⟨gT_at (i := 526) (by decide +kernel) rfl, gT_at (i := 461) (by decide +kernel) rfl, gT_at (i := 462) (by decide +kernel) rfl⟩
theorem okVc_73 : okVc (5, 77, 37) := ⟨gT_at (i := 531) (by decide +kernel) rfl, gT_at (i := 533) (by decide +kernel) rfl, gT_at (i := 7) (by decide +kernel) rfl⟩
theorem okVc_74 : okVc (5, 85, 36) := ⟨gT_at (i := 536) (by decide +kernel) rfl, gT_at (i := 538) (by decide +kernel) rfl, gT_at (i := 8) (by decide +kernel) rfl⟩
theorem okVc_75 : okVc (5, 89, 11) := ⟨gT_at (i := 540) (by decide +kernel) rfl, gT_at (i := 399) (by decide +kernel) rfl, gT_at (i := 400) (by decide +kernel) rfl⟩
theorem okVc_76 : okVc (5, 92, 42) := ⟨gT_at (i := 541) (by decide +kernel) rfl, gT_at (i := 441) (by decide +kernel) rfl, gT_at (i := 442) (by decide +kernel) rfl⟩
theorem okVc_77 : okVc (5, 96, 12) := ⟨gT_at (i := 542) (by decide +kernel) rfl, gT_at (i := 403) (by decide +kernel) rfl, gT_at (i := 404) (by decide +kernel) rfl⟩
theorem okVc_78 : okVc (5, 102, 43) := ⟨gT_at (i := 544) (by decide +kernel) rfl, gT_at (i := 457) (by decide +kernel) rfl, gT_at (i := 458) (by decide +kernel) rfl⟩
theorem okVc_79 : okVc (5, 106, 44) := ⟨gT_at (i := 545) (by decide +kernel) rfl, gT_at (i := 465) (by decide +kernel) rfl, gT_at (i := 466) (by decide +kernel) rfl⟩
theorem okVc_80 : okVc (6, 47, 40) := ⟨gT_at (i := 460) (by decide +kernel) rfl, gT_at (i := 461) (by decide +kernel) rfl, gT_at (i := 462) (by decide +kernel) rfl⟩
theorem okVc_81 : okVc (6, 55, 39) := ⟨gT_at (i := 444) (by decide +kernel) rfl, gT_at (i := 430) (by decide +kernel) rfl, gT_at (i := 431) (by decide +kernel) rfl⟩
theorem okVc_82 : okVc (6, 68, 21) := ⟨gT_at (i := 684) (by decide +kernel) rfl, gT_at (i := 375) (by decide +kernel) rfl, gT_at (i := 376) (by decide +kernel) rfl⟩
theorem okVc_83 : okVc (6, 72, 9) := ⟨gT_at (i := 685) (by decide +kernel) rfl, gT_at (i := 686) (by decide +kernel) rfl, gT_at (i := 687) (by decide +kernel) rfl⟩
theorem okVc_84 : okVc (9, 13, 46) := ⟨gT_at (i := 298) (by decide +kernel) rfl, gT_at (i := 299) (by decide +kernel) rfl, gT_at (i := 300) (by decide +kernel) rfl⟩
theorem okVc_85 : okVc (9, 17, 91) := ⟨gT_at (i := 780) (by decide +kernel) rfl, gT_at (i := 781) (by decide +kernel) rfl, gT_at (i := 782) (by decide +kernel) rfl⟩
theorem okVc_86 : okVc (9, 18, 47) := ⟨gT_at (i := 313) (by decide +kernel) rfl, gT_at (i := 314) (by decide +kernel) rfl, gT_at (i := 315) (by decide +kernel) rfl⟩
theorem okVc_87 : okVc (9, 22, 93) := ⟨gT_at (i := 787) (by decide +kernel) rfl, gT_at (i := 788) (by decide +kernel) rfl, gT_at (i := 789) (by decide +kernel) rfl⟩
theorem okVc_88 : okVc (9, 23, 48) := ⟨gT_at (i := 322) (by decide +kernel) rfl, gT_at (i := 323) (by decide +kernel) rfl, gT_at (i := 324) (by decide +kernel) rfl⟩
theorem okVc_89 : okVc (9, 27, 94) := ⟨gT_at (i := 794) (by decide +kernel) rfl, gT_at (i := 795) (by decide +kernel) rfl, gT_at (i := 796) (by decide +kernel) rfl⟩
theorem okVc_90 : okVc (9, 28, 49) := ⟨gT_at (i := 331) (by decide +kernel) rfl, gT_at (i := 332) (by decide +kernel) rfl, gT_at (i := 333) (by decide +kernel) rfl⟩
theorem okVc_91 : okVc (9, 32, 95) := ⟨gT_at (i := 798) (by decide +kernel) rfl, gT_at (i := 799) (by decide +kernel) rfl, gT_at (i := 800) (by decide +kernel) rfl⟩
theorem okVc_92 : okVc (9, 33, 50) := ⟨gT_at (i := 339) (by decide +kernel) rfl, gT_at (i := 340) (by decide +kernel) rfl, gT_at (i := 341) (by decide +kernel) rfl⟩
theorem okVc_93 : okVc (9, 36, 99) := ⟨gT_at (i := 802) (by decide +kernel) rfl, gT_at (i := 803) (by decide +kernel) rfl, gT_at (i := 804) (by decide +kernel) rfl⟩
theorem okVc_94 : okVc (9, 37, 51) := ⟨gT_at (i := 370) (by decide +kernel) rfl, gT_at (i := 371) (by decide +kernel) rfl, gT_at (i := 372) (by decide +kernel) rfl⟩
theorem okVc_95 : okVc (9, 40, 100) := ⟨gT_at (i := 820) (by decide +kernel) rfl, gT_at (i := 821) (by decide +kernel) rfl, gT_at (i := 822) (by decide +kernel) rfl⟩
theorem okVc_96 : okVc (9, 41, 52) := ⟨gT_at (i := 385) (by decide +kernel) rfl, gT_at (i := 386) (by decide +kernel) rfl, gT_at (i := 387) (by decide +kernel) rfl⟩
theorem okVc_97 : okVc (9, 44, 101) := ⟨gT_at (i := 824) (by decide +kernel) rfl, gT_at (i := 825) (by decide +kernel) rfl, gT_at (i := 826) (by decide +kernel) rfl⟩
theorem okVc_98 : okVc (9, 45, 53) := ⟨gT_at (i := 406) (by decide +kernel) rfl, gT_at (i := 407) (by decide +kernel) rfl, gT_at (i := 408) (by decide +kernel) rfl⟩
theorem okVc_99 : okVc (9, 49, 105) := ⟨gT_at (i := 828) (by decide +kernel) rfl, gT_at (i := 829) (by decide +kernel) rfl, gT_at (i := 830) (by decide +kernel) rfl⟩
theorem okVc_100 : okVc (9, 50, 54) := ⟨gT_at (i := 479) (by decide +kernel) rfl, gT_at (i := 480) (by decide +kernel) rfl, gT_at (i := 481) (by decide +kernel) rfl⟩
theorem okVc_101 : okVc (9, 54, 106) := ⟨gT_at (i := 844) (by decide +kernel) rfl, gT_at (i := 845) (by decide +kernel) rfl, gT_at (i := 846) (by decide +kernel) rfl⟩
theorem okVc_102 : okVc (9, 55, 55) := ⟨gT_at (i := 483) (by decide +kernel) rfl, gT_at (i := 484) (by decide +kernel) rfl, gT_at (i := 485) (by decide +kernel) rfl⟩
theorem okVc_103 : okVc (9, 58, 107) := ⟨gT_at (i := 848) (by decide +kernel) rfl, gT_at (i := 849) (by decide +kernel) rfl, gT_at (i := 850) (by decide +kernel) rfl⟩
theorem okVc_104 : okVc (9, 59, 56) := ⟨gT_at (i := 499) (by decide +kernel) rfl, gT_at (i := 500) (by decide +kernel) rfl, gT_at (i := 501) (by decide +kernel) rfl⟩
theorem okVc_105 : okVc (9, 62, 110) := ⟨gT_at (i := 852) (by decide +kernel) rfl, gT_at (i := 853) (by decide +kernel) rfl, gT_at (i := 854) (by decide +kernel) rfl⟩
theorem okVc_106 : okVc (9, 63, 57) := ⟨gT_at (i := 546) (by decide +kernel) rfl, gT_at (i := 547) (by decide +kernel) rfl, gT_at (i := 548) (by decide +kernel) rfl⟩
theorem okVc_107 : okVc (9, 66, 111) := ⟨gT_at (i := 864) (by decide +kernel) rfl, gT_at (i := 865) (by decide +kernel) rfl, gT_at (i := 866) (by decide +kernel) rfl⟩
theorem okVc_108 : okVc (9, 67, 58) := ⟨gT_at (i := 573) (by decide +kernel) rfl, gT_at (i := 574) (by decide +kernel) rfl, gT_at (i := 575) (by decide +kernel) rfl⟩
theorem okVc_109 : okVc (9, 70, 112) := ⟨gT_at (i := 871) (by decide +kernel) rfl, gT_at (i := 872) (by decide +kernel) rfl, gT_at (i := 873) (by decide +kernel) rfl⟩
theorem okVc_110 : okVc (9, 71, 59) := ⟨gT_at (i := 577) (by decide +kernel) rfl, gT_at (i := 578) (by decide +kernel) rfl, gT_at (i := 579) (by decide +kernel) rfl⟩
theorem okVc_111 : okVc (9, 74, 114) := ⟨gT_at (i := 875) (by decide +kernel) rfl, gT_at (i := 876) (by decide +kernel) rfl, gT_at (i := 877) (by decide +kernel) rfl⟩
theorem okVc_112 : okVc (9, 75, 60) := ⟨gT_at (i := 586) (by decide +kernel) rfl, gT_at (i := 587) (by decide +kernel) rfl, gT_at (i := 588) (by decide +kernel) rfl⟩
theorem okVc_113 : okVc (9, 78, 115) := ⟨gT_at (i := 883) (by decide +kernel) rfl, gT_at (i := 884) (by decide +kernel) rfl, gT_at (i := 885) (by decide +kernel) rfl⟩
theorem okVc_114 : okVc (9, 79, 61) := ⟨gT_at (i := 594) (by decide +kernel) rfl, gT_at (i := 595) (by decide +kernel) rfl, gT_at (i := 596) (by decide +kernel) rfl⟩
theorem okVc_115 : okVc (9, 82, 118) := ⟨gT_at (i := 887) (by decide +kernel) rfl, gT_at (i := 888) (by decide +kernel) rfl, gT_at (i := 889) (by decide +kernel) rfl⟩
theorem okVc_116 : okVc (9, 83, 62) := ⟨gT_at (i := 620) (by decide +kernel) rfl, gT_at (i := 621) (by decide +kernel) rfl, gT_at (i := 622) (by decide +kernel) rfl⟩
theorem okVc_117 : okVc (9, 86, 119) := ⟨gT_at (i := 899) (by decide +kernel) rfl, gT_at (i := 900) (by decide +kernel) rfl, gT_at (i := 901) (by decide +kernel) rfl⟩
theorem okVc_118 : okVc (9, 87, 63) := ⟨gT_at (i := 629) (by decide +kernel) rfl, gT_at (i := 630) (by decide +kernel) rfl, gT_at (i := 631) (by decide +kernel) rfl⟩
theorem okVc_119 : okVc (9, 90, 120) := ⟨gT_at (i := 903) (by decide +kernel) rfl, gT_at (i := 904) (by decide +kernel) rfl, gT_at (i := 905) (by decide +kernel) rfl⟩
theorem okVc_120 : okVc (9, 91, 64) := ⟨gT_at (i := 633) (by decide +kernel) rfl, gT_at (i := 634) (by decide +kernel) rfl, gT_at (i := 635) (by decide +kernel) rfl⟩
theorem okVc_121 : okVc (9, 94, 122) := ⟨gT_at (i := 907) (by decide +kernel) rfl, gT_at (i := 908) (by decide +kernel) rfl, gT_at (i := 909) (by decide +kernel) rfl⟩
theorem okVc_122 : okVc (9, 95, 65) := ⟨gT_at (i := 653) (by decide +kernel) rfl, gT_at (i := 654) (by decide +kernel) rfl, gT_at (i := 655) (by decide +kernel) rfl⟩
theorem okVc_123 : okVc (9, 98, 123) := ⟨gT_at (i := 915) (by decide +kernel) rfl, gT_at (i := 916) (by decide +kernel) rfl, gT_at (i := 917) (by decide +kernel) rfl⟩
theorem okVc_124 : okVc (9, 99, 66) := ⟨gT_at (i := 662) (by decide +kernel) rfl, gT_at (i := 663) (by decide +kernel) rfl, gT_at (i := 664) (by decide +kernel) rfl⟩
theorem okVc_125 : okVc (9, 102, 124) := ⟨gT_at (i := 919) (by decide +kernel) rfl, gT_at (i := 920) (by decide +kernel) rfl, gT_at (i := 921) (by decide +kernel) rfl⟩
theorem okVc_126 : okVc (9, 103, 67) := ⟨gT_at (i := 671) (by decide +kernel) rfl, gT_at (i := 672) (by decide +kernel) rfl, gT_at (i := 673) (by decide +kernel) rfl⟩
theorem okVc_127 : okVc (9, 106, 125) := ⟨gT_at (i := 924) (by decide +kernel) rfl, gT_at (i := 925) (by decide +kernel) rfl, gT_at (i := 926) (by decide +kernel) rfl⟩
theorem okVc_128 : okVc (9, 107, 68) := ⟨gT_at (i := 690) (by decide +kernel) rfl, gT_at (i := 691) (by decide +kernel) rfl, gT_at (i := 692) (by decide +kernel) rfl⟩
theorem okVc_129 : okVc (9, 110, 126) := ⟨gT_at (i := 928) (by decide +kernel) rfl, gT_at (i := 929) (by decide +kernel) rfl, gT_at (i := 930) (by decide +kernel) rfl⟩
theorem okVc_130 : okVc (9, 111, 69) := ⟨gT_at (i := 694) (by decide +kernel) rfl, gT_at (i := 695) (by decide +kernel) rfl, gT_at (i := 696) (by decide +kernel) rfl⟩
theorem okVc_131 : okVc (9, 114, 127) := ⟨gT_at (i := 932) (by decide +kernel) rfl, gT_at (i := 933) (by decide +kernel) rfl, gT_at (i := 934) (by decide +kernel) rfl⟩
theorem okVc_132 : okVc (8, 54, 87) := ⟨gT_at (i := 705) (by decide +kernel) rfl, gT_at (i := 707) (by decide +kernel) rfl, gT_at (i := 15) (by decide +kernel) rfl⟩
theorem okVc_133 : okVc (8, 79, 97) := ⟨gT_at (i := 806) (by decide +kernel) rfl, gT_at (i := 808) (by decide +kernel) rfl, gT_at (i := 16) (by decide +kernel) rfl⟩
theorem okVc_134 : okVc (8, 83, 98) := ⟨gT_at (i := 813) (by decide +kernel) rfl, gT_at (i := 815) (by decide +kernel) rfl, gT_at (i := 17) (by decide +kernel) rfl⟩
theorem okVc_135 : okVc (8, 104, 104) := ⟨gT_at (i := 832) (by decide +kernel) rfl, gT_at (i := 834) (by decide +kernel) rfl, gT_at (i := 18) (by decide +kernel) rfl⟩
theorem okVc_136 : okVc (8, 107, 102) := ⟨gT_at (i := 836) (by decide +kernel) rfl, gT_at (i := 838) (by decide +kernel) rfl, gT_at (i := 19) (by decide +kernel) rfl⟩
theorem okVc_137 : okVc (8, 110, 103) := ⟨gT_at (i := 840) (by decide +kernel) rfl, gT_at (i := 842) (by decide +kernel) rfl, gT_at (i := 20) (by decide +kernel) rfl⟩
theorem okVc_138 : okVc (8, 117, 108) := ⟨gT_at (i := 860) (by decide +kernel) rfl, gT_at (i := 862) (by decide +kernel) rfl, gT_at (i := 22) (by decide +kernel) rfl⟩
theorem okVc_139 : okVc (8, 120, 109) := ⟨gT_at (i := 856) (by decide +kernel) rfl, gT_at (i := 858) (by decide +kernel) rfl, gT_at (i := 21) (by decide +kernel) rfl⟩
theorem okVc_140 : okVc (8, 126, 113) := ⟨gT_at (i := 879) (by decide +kernel) rfl, gT_at (i := 881) (by decide +kernel) rfl, gT_at (i := 23) (by decide +kernel) rfl⟩
theorem okVc_141 : okVc (8, 130, 117) := ⟨gT_at (i := 895) (by decide +kernel) rfl, gT_at (i := 897) (by decide +kernel) rfl, gT_at (i := 25) (by decide +kernel) rfl⟩
theorem okVc_142 : okVc (8, 133, 116) := ⟨gT_at (i := 891) (by decide +kernel) rfl, gT_at (i := 893) (by decide +kernel) rfl, gT_at (i := 24) (by decide +kernel) rfl⟩
theorem okVc_143 : okVc (8, 137, 121) := ⟨gT_at (i := 911) (by decide +kernel) rfl, gT_at (i := 913) (by decide +kernel) rfl, gT_at (i := 26) (by decide +kernel) rfl⟩
set_option maxRecDepth 100000 in
theorem mVc_ok : ∀ e ∈ mVc, okVc e := List.forall_mem_cons.mpr ⟨okVc_0, List.forall_mem_cons.mpr ⟨okVc_1, List.forall_mem_cons.mpr ⟨okVc_2, List.forall_mem_cons.mpr ⟨okVc_3, List.forall_mem_cons.mpr ⟨okVc_4, List.forall_mem_cons.mpr ⟨okVc_5, List.forall_mem_cons.mpr ⟨okVc_6, List.forall_mem_cons.mpr ⟨okVc_7, List.forall_mem_cons.mpr ⟨okVc_8, List.forall_mem_cons.mpr ⟨okVc_9, List.forall_mem_cons.mpr ⟨okVc_10, List.forall_mem_cons.mpr ⟨okVc_11, List.forall_mem_cons.mpr ⟨okVc_12, List.forall_mem_cons.mpr ⟨okVc_13, List.forall_mem_cons.mpr ⟨okVc_14, List.forall_mem_cons.mpr ⟨okVc_15, List.forall_mem_cons.mpr ⟨okVc_16, List.forall_mem_cons.mpr ⟨okVc_17, List.forall_mem_cons.mpr ⟨okVc_18, List.forall_mem_cons.mpr ⟨okVc_19, List.forall_mem_cons.mpr ⟨okVc_20, List.forall_mem_cons.mpr ⟨okVc_21, List.forall_mem_cons.mpr ⟨okVc_22, List.forall_mem_cons.mpr ⟨okVc_23, List.forall_mem_cons.mpr ⟨okVc_24, List.forall_mem_cons.mpr ⟨okVc_25, List.forall_mem_cons.mpr ⟨okVc_26, List.forall_mem_cons.mpr ⟨okVc_27, List.forall_mem_cons.mpr ⟨okVc_28, List.forall_mem_cons.mpr ⟨okVc_29, List.forall_mem_cons.mpr ⟨okVc_30, List.forall_mem_cons.mpr ⟨okVc_31, List.forall_mem_cons.mpr ⟨okVc_32, List.forall_mem_cons.mpr ⟨okVc_33, List.forall_mem_cons.mpr ⟨okVc_34, List.forall_mem_cons.mpr ⟨okVc_35, List.forall_mem_cons.mpr ⟨okVc_36, List.forall_mem_cons.mpr ⟨okVc_37, List.forall_mem_cons.mpr ⟨okVc_38, List.forall_mem_cons.mpr ⟨okVc_39, List.forall_mem_cons.mpr ⟨okVc_40, List.forall_mem_cons.mpr ⟨okVc_41, List.forall_mem_cons.mpr ⟨okVc_42, List.forall_mem_cons.mpr ⟨okVc_43, List.forall_mem_cons.mpr ⟨okVc_44, List.forall_mem_cons.mpr ⟨okVc_45, List.forall_mem_cons.mpr ⟨okVc_46, List.forall_mem_cons.mpr ⟨okVc_47, List.forall_mem_cons.mpr ⟨okVc_48, List.forall_mem_cons.mpr ⟨okVc_49, List.forall_mem_cons.mpr ⟨okVc_50, List.forall_mem_cons.mpr ⟨okVc_51, List.forall_mem_cons.mpr ⟨okVc_52, List.forall_mem_cons.mpr ⟨okVc_53, List.forall_mem_cons.mpr ⟨okVc_54, List.forall_mem_cons.mpr ⟨okVc_55, List.forall_mem_cons.mpr ⟨okVc_56, List.forall_mem_cons.mpr ⟨okVc_57, List.forall_mem_cons.mpr ⟨okVc_58, List.forall_mem_cons.mpr ⟨okVc_59, List.forall_mem_cons.mpr ⟨okVc_60, List.forall_mem_cons.mpr ⟨okVc_61, List.forall_mem_cons.mpr ⟨okVc_62, List.forall_mem_cons.mpr ⟨okVc_63, List.forall_mem_cons.mpr ⟨okVc_64, List.forall_mem_cons.mpr ⟨okVc_65, List.forall_mem_cons.mpr ⟨okVc_66, List.forall_mem_cons.mpr ⟨okVc_67, List.forall_mem_cons.mpr ⟨okVc_68, List.forall_mem_cons.mpr ⟨okVc_69, List.forall_mem_cons.mpr ⟨okVc_70, List.forall_mem_cons.mpr ⟨okVc_71, List.forall_mem_cons.mpr ⟨okVc_72, List.forall_mem_cons.mpr ⟨okVc_73, List.forall_mem_cons.mpr ⟨okVc_74, List.forall_mem_cons.mpr ⟨okVc_75, List.forall_mem_cons.mpr ⟨okVc_76, List.forall_mem_cons.mpr ⟨okVc_77, List.forall_mem_cons.mpr ⟨okVc_78, List.forall_mem_cons.mpr ⟨okVc_79, List.forall_mem_cons.mpr ⟨okVc_80, List.forall_mem_cons.mpr ⟨okVc_81, List.forall_mem_cons.mpr ⟨okVc_82, List.forall_mem_cons.mpr ⟨okVc_83, List.forall_mem_cons.mpr ⟨okVc_84, List.forall_mem_cons.mpr ⟨okVc_85, List.forall_mem_cons.mpr ⟨okVc_86, List.forall_mem_cons.mpr ⟨okVc_87, List.forall_mem_cons.mpr ⟨okVc_88, List.forall_mem_cons.mpr ⟨okVc_89, List.forall_mem_cons.mpr ⟨okVc_90, List.forall_mem_cons.mpr ⟨okVc_91, List.forall_mem_cons.mpr ⟨okVc_92, List.forall_mem_cons.mpr ⟨okVc_93, List.forall_mem_cons.mpr ⟨okVc_94, List.forall_mem_cons.mpr ⟨okVc_95, List.forall_mem_cons.mpr ⟨okVc_96, List.forall_mem_cons.mpr ⟨okVc_97, List.forall_mem_cons.mpr ⟨okVc_98, List.forall_mem_cons.mpr ⟨okVc_99, List.forall_mem_cons.mpr ⟨okVc_100, List.forall_mem_cons.mpr ⟨okVc_101, List.forall_mem_cons.mpr ⟨okVc_102, List.forall_mem_cons.mpr ⟨okVc_103, List.forall_mem_cons.mpr ⟨okVc_104, List.forall_mem_cons.mpr ⟨okVc_105, List.forall_mem_cons.mpr ⟨okVc_106, List.forall_mem_cons.mpr ⟨okVc_107, List.forall_mem_cons.mpr ⟨okVc_108, List.forall_mem_cons.mpr ⟨okVc_109, List.forall_mem_cons.mpr ⟨okVc_110, List.forall_mem_cons.mpr ⟨okVc_111, List.forall_mem_cons.mpr ⟨okVc_112, List.forall_mem_cons.mpr ⟨okVc_113, List.forall_mem_cons.mpr ⟨okVc_114, List.forall_mem_cons.mpr ⟨okVc_115, List.forall_mem_cons.mpr ⟨okVc_116, List.forall_mem_cons.mpr ⟨okVc_117, List.forall_mem_cons.mpr ⟨okVc_118, List.forall_mem_cons.mpr ⟨okVc_119, List.forall_mem_cons.mpr ⟨okVc_120, List.forall_mem_cons.mpr ⟨okVc_121, List.forall_mem_cons.mpr ⟨okVc_122, List.forall_mem_cons.mpr ⟨okVc_123, List.forall_mem_cons.mpr ⟨okVc_124, List.forall_mem_cons.mpr ⟨okVc_125, List.forall_mem_cons.mpr ⟨okVc_126, List.forall_mem_cons.mpr ⟨okVc_127, List.forall_mem_cons.mpr ⟨okVc_128, List.forall_mem_cons.mpr ⟨okVc_129, List.forall_mem_cons.mpr ⟨okVc_130, List.forall_mem_cons.mpr ⟨okVc_131, List.forall_mem_cons.mpr ⟨okVc_132, List.forall_mem_cons.mpr ⟨okVc_133, List.forall_mem_cons.mpr ⟨okVc_134, List.forall_mem_cons.mpr ⟨okVc_135, List.forall_mem_cons.mpr ⟨okVc_136, List.forall_mem_cons.mpr ⟨okVc_137, List.forall_mem_cons.mpr ⟨okVc_138, List.forall_mem_cons.mpr ⟨okVc_139, List.forall_mem_cons.mpr ⟨okVc_140, List.forall_mem_cons.mpr ⟨okVc_141, List.forall_mem_cons.mpr ⟨okVc_142, List.forall_mem_cons.mpr ⟨okVc_143, fun _ h => absurd h List.not_mem_nil⟩⟩⟩⟩⟩⟩⟩⟩⟩⟩⟩⟩⟩⟩⟩⟩⟩⟩⟩⟩⟩⟩⟩⟩⟩⟩⟩⟩⟩⟩⟩⟩⟩⟩⟩⟩⟩⟩⟩⟩⟩⟩⟩⟩⟩⟩⟩⟩⟩⟩⟩⟩⟩⟩⟩⟩⟩⟩⟩⟩⟩⟩⟩⟩⟩⟩⟩⟩⟩⟩⟩⟩⟩⟩⟩⟩⟩⟩⟩⟩⟩⟩⟩⟩⟩⟩⟩⟩⟩⟩⟩⟩⟩⟩⟩⟩⟩⟩⟩⟩⟩⟩⟩⟩⟩⟩⟩⟩⟩⟩⟩⟩⟩⟩⟩⟩⟩⟩⟩⟩⟩⟩⟩⟩⟩⟩⟩⟩⟩⟩⟩⟩⟩⟩⟩⟩⟩⟩⟩⟩⟩⟩⟩⟩
theorem okMt_0 : okMt (yX0_litresAt, cX0_litresAt, 2, (some .int), 0, 2, 1) := ⟨gT_at (i := 473) (by decide +kernel) rfl, gT_at (i := 33) (by decide +kernel) rfl, rfl, by decide +kernel, by decide +kernel, by decide +kernel⟩
theorem okMt_1 : okMt (yX0_heatAt, cX0_heatAt, 2, (some .int), 0, 2, 1) := ⟨gT_at (i := 478) (by decide +kernel) rfl, gT_at (i := 33) (by decide +kernel) rfl, rfl, by decide +kernel, by decide +kernel, by decide +kernel⟩
theorem okMt_2 : okMt (yX0_tenthsAt, cX0_tenthsAt, 3, (some .int), 0, 2, 1) := ⟨gT_at (i := 649) (by decide +kernel) rfl, gT_at (i := 33) (by decide +kernel) rfl, rfl, by decide +kernel, by decide +kernel, by decide +kernel⟩
theorem okMt_3 : okMt (yX0_follow, cX0_follow, 10, none, 0, 5, 0) := ⟨gT_at (i := 437) (by decide +kernel) rfl, gT_at (i := 33) (by decide +kernel) rfl, rfl, by decide +kernel, by decide +kernel, by decide +kernel⟩
theorem okMt_4 : okMt (yX0_meetHouse, cX0_meetHouse, 7, (some .int), 0, 6, 1) := ⟨gT_at (i := 454) (by decide +kernel) rfl, gT_at (i := 33) (by decide +kernel) rfl, rfl, by decide +kernel, by decide +kernel, by decide +kernel⟩
theorem okMt_5 : okMt (yX0_worthOfServed, cX0_worthOfServed, 3, (some .int), 0, 1, 1) := ⟨gT_at (i := 670) (by decide +kernel) rfl, gT_at (i := 33) (by decide +kernel) rfl, rfl, by decide +kernel, by decide +kernel, by decide +kernel⟩
theorem okMt_6 : okMt (yX1_add, cX1_add, 4, (some .boolean), 1, 4, 1) := ⟨gT_at (i := 627) (by decide +kernel) rfl, gT_at (i := 32) (by decide +kernel) rfl, rfl, by decide +kernel, by decide +kernel, by decide +kernel⟩
theorem okMt_7 : okMt (yX1_clear, cX1_clear, 2, (some .int), 1, 1, 1) := ⟨gT_at (i := 384) (by decide +kernel) rfl, gT_at (i := 32) (by decide +kernel) rfl, rfl, by decide +kernel, by decide +kernel, by decide +kernel⟩
theorem okMt_8 : okMt (yX1_fitsTo, cX1_fitsTo, 4, (some .boolean), 1, 2, 1) := ⟨gT_at (i := 644) (by decide +kernel) rfl, gT_at (i := 32) (by decide +kernel) rfl, rfl, by decide +kernel, by decide +kernel, by decide +kernel⟩
theorem okMt_9 : okMt (yX1_copyOf, cX1_copyOf, 2, none, 1, 2, 0) := ⟨gT_at (i := 688) (by decide +kernel) rfl, gT_at (i := 32) (by decide +kernel) rfl, rfl, by decide +kernel, by decide +kernel, by decide +kernel⟩
theorem okMt_10 : okMt (yX2_kindOf, cX2_kindOf, 2, (some .int), 2, 2, 1) := ⟨gT_at (i := 396) (by decide +kernel) rfl, gT_at (i := 30) (by decide +kernel) rfl, rfl, by decide +kernel, by decide +kernel, by decide +kernel⟩
theorem okMt_11 : okMt (yX2_lossAheadOf, cX2_lossAheadOf, 2, (some .int), 2, 2, 1) := ⟨gT_at (i := 401) (by decide +kernel) rfl, gT_at (i := 30) (by decide +kernel) rfl, rfl, by decide +kernel, by decide +kernel, by decide +kernel⟩
theorem okMt_12 : okMt (yX2_brookAheadOf, cX2_brookAheadOf, 2, (some .int), 2, 2, 1) := ⟨gT_at (i := 405) (by decide +kernel) rfl, gT_at (i := 30) (by decide +kernel) rfl, rfl, by decide +kernel, by decide +kernel, by decide +kernel⟩
theorem okMt_13 : okMt (yX2_isFull, cX2_isFull, 1, (some .boolean), 2, 1, 1) := ⟨gT_at (i := 263) (by decide +kernel) rfl, gT_at (i := 30) (by decide +kernel) rfl, rfl, by decide +kernel, by decide +kernel, by decide +kernel⟩
theorem okMt_14 : okMt (yX2_houseSets, cX2_houseSets, 1, (some .int), 2, 1, 1) := ⟨gT_at (i := 428) (by decide +kernel) rfl, gT_at (i := 30) (by decide +kernel) rfl, rfl, by decide +kernel, by decide +kernel, by decide +kernel⟩
theorem okMt_15 : okMt (yX2_brookSets, cX2_brookSets, 1, (some .int), 2, 1, 1) := ⟨gT_at (i := 420) (by decide +kernel) rfl, gT_at (i := 30) (by decide +kernel) rfl, rfl, by decide +kernel, by decide +kernel, by decide +kernel⟩
theorem okMt_16 : okMt (yX2_pipeBits, cX2_pipeBits, 3, (some .int), 2, 1, 1) := ⟨gT_at (i := 557) (by decide +kernel) rfl, gT_at (i := 30) (by decide +kernel) rfl, rfl, by decide +kernel, by decide +kernel, by decide +kernel⟩
theorem okMt_17 : okMt (yX2_clear, cX2_clear, 1, none, 2, 1, 0) := ⟨gT_at (i := 350) (by decide +kernel) rfl, gT_at (i := 30) (by decide +kernel) rfl, rfl, by decide +kernel, by decide +kernel, by decide +kernel⟩
theorem okMt_18 : okMt (yX2_addHouse, cX2_addHouse, 4, none, 2, 4, 0) := ⟨gT_at (i := 259) (by decide +kernel) rfl, gT_at (i := 30) (by decide +kernel) rfl, rfl, by decide +kernel, by decide +kernel, by decide +kernel⟩
theorem okMt_19 : okMt (yX2_insertHouse, cX2_insertHouse, 4, none, 2, 3, 0) := ⟨gT_at (i := 585) (by decide +kernel) rfl, gT_at (i := 30) (by decide +kernel) rfl, rfl, by decide +kernel, by decide +kernel, by decide +kernel⟩
theorem okMt_20 : okMt (yX2_coverPipes, cX2_coverPipes, 3, none, 2, 2, 0) := ⟨gT_at (i := 571) (by decide +kernel) rfl, gT_at (i := 30) (by decide +kernel) rfl, rfl, by decide +kernel, by decide +kernel, by decide +kernel⟩
theorem okMt_21 : okMt (yX2_copyOf, cX2_copyOf, 2, none, 2, 2, 0) := ⟨gT_at (i := 377) (by decide +kernel) rfl, gT_at (i := 30) (by decide +kernel) rfl, rfl, by decide +kernel, by decide +kernel, by decide +kernel⟩
theorem okMt_22 : okMt (yX3_search, cX3_search, 2, none, 3, 2, 0) := ⟨gT_at (i := 601) (by decide +kernel) rfl, gT_at (i := 35) (by decide +kernel) rfl, rfl, by decide +kernel, by decide +kernel, by decide +kernel⟩
theorem okMt_23 : okMt (yX3_worthLeft, cX3_worthLeft, 5, (some .int), 3, 2, 1) := ⟨gT_at (i := 609) (by decide +kernel) rfl, gT_at (i := 35) (by decide +kernel) rfl, rfl, by decide +kernel, by decide +kernel, by decide +kernel⟩
theorem okMt_24 : okMt (yX3_descend, cX3_descend, 11, none, 3, 5, 0) := ⟨gT_at (i := 605) (by decide +kernel) rfl, gT_at (i := 35) (by decide +kernel) rfl, rfl, by decide +kernel, by decide +kernel, by decide +kernel⟩
theorem okMt_25 : okMt (yX4_addSign, cX4_addSign, 2, (some .boolean), 4, 2, 1) := ⟨gT_at (i := 329) (by decide +kernel) rfl, gT_at (i := 29) (by decide +kernel) rfl, rfl, by decide +kernel, by decide +kernel, by decide +kernel⟩
theorem okMt_26 : okMt (yX4_clear, cX4_clear, 2, (some .int), 4, 1, 1) := ⟨gT_at (i := 338) (by decide +kernel) rfl, gT_at (i := 29) (by decide +kernel) rfl, rfl, by decide +kernel, by decide +kernel, by decide +kernel⟩
theorem okMt_27 : okMt (yX4_brooksIn, cX4_brooksIn, 2, (some .int), 4, 2, 1) := ⟨gT_at (i := 490) (by decide +kernel) rfl, gT_at (i := 29) (by decide +kernel) rfl, rfl, by decide +kernel, by decide +kernel, by decide +kernel⟩
theorem okMt_28 : okMt (yX4_drawsIn, cX4_drawsIn, 2, (some .int), 4, 2, 1) := ⟨gT_at (i := 494) (by decide +kernel) rfl, gT_at (i := 29) (by decide +kernel) rfl, rfl, by decide +kernel, by decide +kernel, by decide +kernel⟩
theorem okMt_29 : okMt (yX4_readLane, cX4_readLane, 6, (some .int), 4, 1, 1) := ⟨gT_at (i := 346) (by decide +kernel) rfl, gT_at (i := 29) (by decide +kernel) rfl, rfl, by decide +kernel, by decide +kernel, by decide +kernel⟩
theorem okMt_30 : okMt (yX4_readDay, cX4_readDay, 9, (some .int), 4, 2, 1) := ⟨gT_at (i := 362) (by decide +kernel) rfl, gT_at (i := 29) (by decide +kernel) rfl, rfl, by decide +kernel, by decide +kernel, by decide +kernel⟩
theorem okMt_31 : okMt (yX4_keepHour, cX4_keepHour, 4, none, 4, 4, 0) := ⟨gT_at (i := 366) (by decide +kernel) rfl, gT_at (i := 29) (by decide +kernel) rfl, rfl, by decide +kernel, by decide +kernel, by decide +kernel⟩
theorem okMt_32 : okMt (yX4_kindBySign, cX4_kindBySign, 2, (some .int), 4, 1, 1) := ⟨gT_at (i := 354) (by decide +kernel) rfl, gT_at (i := 29) (by decide +kernel) rfl, rfl, by decide +kernel, by decide +kernel, by decide +kernel⟩
theorem okMt_33 : okMt (yX5_forgetPlans, cX5_forgetPlans, 1, none, 5, 1, 0) := ⟨gT_at (i := 510) (by decide +kernel) rfl, gT_at (i := 34) (by decide +kernel) rfl, rfl, by decide +kernel, by decide +kernel, by decide +kernel⟩
theorem okMt_34 : okMt (yX5_improve, cX5_improve, 5, (some .boolean), 5, 2, 1) := ⟨gT_at (i := 514) (by decide +kernel) rfl, gT_at (i := 34) (by decide +kernel) rfl, rfl, by decide +kernel, by decide +kernel, by decide +kernel⟩
theorem okMt_35 : okMt (yX5_sumWorthBehind, cX5_sumWorthBehind, 4, none, 5, 1, 0) := ⟨gT_at (i := 519) (by decide +kernel) rfl, gT_at (i := 34) (by decide +kernel) rfl, rfl, by decide +kernel, by decide +kernel, by decide +kernel⟩
theorem okMt_36 : okMt (yX5_mayWin, cX5_mayWin, 2, (some .boolean), 5, 2, 1) := ⟨gT_at (i := 539) (by decide +kernel) rfl, gT_at (i := 34) (by decide +kernel) rfl, rfl, by decide +kernel, by decide +kernel, by decide +kernel⟩
theorem okMt_37 : okMt (yX5_offer, cX5_offer, 3, none, 5, 3, 0) := ⟨gT_at (i := 534) (by decide +kernel) rfl, gT_at (i := 34) (by decide +kernel) rfl, rfl, by decide +kernel, by decide +kernel, by decide +kernel⟩
theorem okMt_38 : okMt (yX5_descend, cX5_descend, 10, none, 5, 6, 0) := ⟨gT_at (i := 530) (by decide +kernel) rfl, gT_at (i := 34) (by decide +kernel) rfl, rfl, by decide +kernel, by decide +kernel, by decide +kernel⟩
theorem okMt_39 : okMt (yX6_springValue, cX6_springValue, 2, (some .int), 6, 2, 1) := ⟨gT_at (i := 432) (by decide +kernel) rfl, gT_at (i := 31) (by decide +kernel) rfl, rfl, by decide +kernel, by decide +kernel, by decide +kernel⟩
theorem okMt_40 : okMt (yX6_kindValue, cX6_kindValue, 3, (some .int), 6, 3, 1) := ⟨gT_at (i := 463) (by decide +kernel) rfl, gT_at (i := 31) (by decide +kernel) rfl, rfl, by decide +kernel, by decide +kernel, by decide +kernel⟩
theorem okMt_41 : okMt (yX6_isWanting, cX6_isWanting, 3, (some .boolean), 6, 3, 1) := ⟨gT_at (i := 525) (by decide +kernel) rfl, gT_at (i := 31) (by decide +kernel) rfl, rfl, by decide +kernel, by decide +kernel, by decide +kernel⟩
theorem okMt_42 : okMt (yX6_heatBehindPipe, cX6_heatBehindPipe, 5, (some .int), 6, 4, 1) := ⟨gT_at (i := 443) (by decide +kernel) rfl, gT_at (i := 31) (by decide +kernel) rfl, rfl, by decide +kernel, by decide +kernel, by decide +kernel⟩
theorem okMt_43 : okMt (yX6_isHarmed, cX6_isHarmed, 4, (some .boolean), 6, 4, 1) := ⟨gT_at (i := 459) (by decide +kernel) rfl, gT_at (i := 31) (by decide +kernel) rfl, rfl, by decide +kernel, by decide +kernel, by decide +kernel⟩
theorem okMt_44 : okMt (yX6_isServed, cX6_isServed, 5, (some .boolean), 6, 5, 1) := ⟨gT_at (i := 467) (by decide +kernel) rfl, gT_at (i := 31) (by decide +kernel) rfl, rfl, by decide +kernel, by decide +kernel, by decide +kernel⟩
theorem okMt_45 : okMt (yX6_copyOf, cX6_copyOf, 2, none, 6, 2, 0) := ⟨gT_at (i := 682) (by decide +kernel) rfl, gT_at (i := 31) (by decide +kernel) rfl, rfl, by decide +kernel, by decide +kernel, by decide +kernel⟩
theorem okMt_46 : okMt (yX7_spring, cX7_spring, 3, (some .int), 7, 3, 1) := ⟨gT_at (i := 301) (by decide +kernel) rfl, gT_at (i := 28) (by decide +kernel) rfl, rfl, by decide +kernel, by decide +kernel, by decide +kernel⟩
theorem okMt_47 : okMt (yX7_kind, cX7_kind, 4, (some .int), 7, 4, 1) := ⟨gT_at (i := 316) (by decide +kernel) rfl, gT_at (i := 28) (by decide +kernel) rfl, rfl, by decide +kernel, by decide +kernel, by decide +kernel⟩
theorem okMt_48 : okMt (yX7_say, cX7_say, 2, (some .int), 7, 2, 1) := ⟨gT_at (i := 325) (by decide +kernel) rfl, gT_at (i := 28) (by decide +kernel) rfl, rfl, by decide +kernel, by decide +kernel, by decide +kernel⟩
theorem okMt_49 : okMt (yX7_wipe, cX7_wipe, 1, (some .int), 7, 1, 1) := ⟨gT_at (i := 334) (by decide +kernel) rfl, gT_at (i := 28) (by decide +kernel) rfl, rfl, by decide +kernel, by decide +kernel, by decide +kernel⟩
theorem okMt_50 : okMt (yX7_fault, cX7_fault, 2, (some .int), 7, 2, 1) := ⟨gT_at (i := 342) (by decide +kernel) rfl, gT_at (i := 28) (by decide +kernel) rfl, rfl, by decide +kernel, by decide +kernel, by decide +kernel⟩
theorem okMt_51 : okMt (yX7_lane, cX7_lane, 1, (some .int), 7, 1, 1) := ⟨gT_at (i := 373) (by decide +kernel) rfl, gT_at (i := 28) (by decide +kernel) rfl, rfl, by decide +kernel, by decide +kernel, by decide +kernel⟩
theorem okMt_52 : okMt (yX7_house, cX7_house, 3, (some .int), 7, 3, 1) := ⟨gT_at (i := 388) (by decide +kernel) rfl, gT_at (i := 28) (by decide +kernel) rfl, rfl, by decide +kernel, by decide +kernel, by decide +kernel⟩
theorem okMt_53 : okMt (yX7_at, cX7_at, 6, (some .int), 7, 6, 1) := ⟨gT_at (i := 409) (by decide +kernel) rfl, gT_at (i := 28) (by decide +kernel) rfl, rfl, by decide +kernel, by decide +kernel, by decide +kernel⟩
theorem okMt_54 : okMt (yX7_run, cX7_run, 5, (some .int), 7, 5, 1) := ⟨gT_at (i := 482) (by decide +kernel) rfl, gT_at (i := 28) (by decide +kernel) rfl, rfl, by decide +kernel, by decide +kernel, by decide +kernel⟩
theorem okMt_55 : okMt (yX7_judge, cX7_judge, 3, (some .int), 7, 2, 1) := ⟨gT_at (i := 486) (by decide +kernel) rfl, gT_at (i := 28) (by decide +kernel) rfl, rfl, by decide +kernel, by decide +kernel, by decide +kernel⟩
theorem okMt_56 : okMt (yX7_best, cX7_best, 3, (some .int), 7, 3, 1) := ⟨gT_at (i := 502) (by decide +kernel) rfl, gT_at (i := 28) (by decide +kernel) rfl, rfl, by decide +kernel, by decide +kernel, by decide +kernel⟩
theorem okMt_57 : okMt (yX7_moss, cX7_moss, 5, (some .int), 7, 4, 1) := ⟨gT_at (i := 549) (by decide +kernel) rfl, gT_at (i := 28) (by decide +kernel) rfl, rfl, by decide +kernel, by decide +kernel, by decide +kernel⟩
theorem okMt_58 : okMt (yX7_cools, cX7_cools, 5, (some .int), 7, 4, 1) := ⟨gT_at (i := 576) (by decide +kernel) rfl, gT_at (i := 28) (by decide +kernel) rfl, rfl, by decide +kernel, by decide +kernel, by decide +kernel⟩
theorem okMt_59 : okMt (yX7_put, cX7_put, 4, (some .int), 7, 4, 1) := ⟨gT_at (i := 580) (by decide +kernel) rfl, gT_at (i := 28) (by decide +kernel) rfl, rfl, by decide +kernel, by decide +kernel, by decide +kernel⟩
theorem okMt_60 : okMt (yX7_where, cX7_where, 5, (some .int), 7, 4, 1) := ⟨gT_at (i := 589) (by decide +kernel) rfl, gT_at (i := 28) (by decide +kernel) rfl, rfl, by decide +kernel, by decide +kernel, by decide +kernel⟩
theorem okMt_61 : okMt (yX7_order, cX7_order, 3, (some .int), 7, 3, 1) := ⟨gT_at (i := 597) (by decide +kernel) rfl, gT_at (i := 28) (by decide +kernel) rfl, rfl, by decide +kernel, by decide +kernel, by decide +kernel⟩
theorem okMt_62 : okMt (yX7_felt, cX7_felt, 4, (some .int), 7, 4, 1) := ⟨gT_at (i := 623) (by decide +kernel) rfl, gT_at (i := 28) (by decide +kernel) rfl, rfl, by decide +kernel, by decide +kernel, by decide +kernel⟩
theorem okMt_63 : okMt (yX7_forget, cX7_forget, 1, (some .int), 7, 1, 1) := ⟨gT_at (i := 632) (by decide +kernel) rfl, gT_at (i := 28) (by decide +kernel) rfl, rfl, by decide +kernel, by decide +kernel, by decide +kernel⟩
theorem okMt_64 : okMt (yX7_fits, cX7_fits, 5, (some .int), 7, 4, 1) := ⟨gT_at (i := 636) (by decide +kernel) rfl, gT_at (i := 28) (by decide +kernel) rfl, rfl, by decide +kernel, by decide +kernel, by decide +kernel⟩
theorem okMt_65 : okMt (yX7_door, cX7_door, 9, (some .int), 7, 4, 1) := ⟨gT_at (i := 656) (by decide +kernel) rfl, gT_at (i := 28) (by decide +kernel) rfl, rfl, by decide +kernel, by decide +kernel, by decide +kernel⟩
theorem okMt_66 : okMt (yX7_winter, cX7_winter, 10, (some .int), 7, 4, 1) := ⟨gT_at (i := 665) (by decide +kernel) rfl, gT_at (i := 28) (by decide +kernel) rfl, rfl, by decide +kernel, by decide +kernel, by decide +kernel⟩
theorem okMt_67 : okMt (yX7_image, cX7_image, 2, (some .int), 7, 2, 1) := ⟨gT_at (i := 674) (by decide +kernel) rfl, gT_at (i := 28) (by decide +kernel) rfl, rfl, by decide +kernel, by decide +kernel, by decide +kernel⟩
theorem okMt_68 : okMt (yX7_restore, cX7_restore, 2, (some .int), 7, 2, 1) := ⟨gT_at (i := 693) (by decide +kernel) rfl, gT_at (i := 28) (by decide +kernel) rfl, rfl, by decide +kernel, by decide +kernel, by decide +kernel⟩
theorem okMt_69 : okMt (yX7_told, cX7_told, 3, (some .int), 7, 2, 1) := ⟨gT_at (i := 697) (by decide +kernel) rfl, gT_at (i := 28) (by decide +kernel) rfl, rfl, by decide +kernel, by decide +kernel, by decide +kernel⟩
theorem okMt_70 : okMt (yX7_isNoHour, cX7_isNoHour, 1, (some .boolean), 7, 1, 1) := ⟨gT_at (i := 412) (by decide +kernel) rfl, gT_at (i := 28) (by decide +kernel) rfl, rfl, by decide +kernel, by decide +kernel, by decide +kernel⟩
theorem okMt_71 : okMt (yX7_isNoKind, cX7_isNoKind, 1, (some .boolean), 7, 1, 1) := ⟨gT_at (i := 319) (by decide +kernel) rfl, gT_at (i := 28) (by decide +kernel) rfl, rfl, by decide +kernel, by decide +kernel, by decide +kernel⟩
theorem okMt_72 : okMt (yX7_isNoHouse, cX7_isNoHouse, 2, (some .boolean), 7, 2, 1) := ⟨gT_at (i := 392) (by decide +kernel) rfl, gT_at (i := 28) (by decide +kernel) rfl, rfl, by decide +kernel, by decide +kernel, by decide +kernel⟩
theorem okMt_73 : okMt (yX7_areNoBrooks, cX7_areNoBrooks, 2, (some .boolean), 7, 2, 1) := ⟨gT_at (i := 416) (by decide +kernel) rfl, gT_at (i := 28) (by decide +kernel) rfl, rfl, by decide +kernel, by decide +kernel, by decide +kernel⟩
theorem okMt_74 : okMt (yX7_areNoDraws, cX7_areNoDraws, 2, (some .boolean), 7, 2, 1) := ⟨gT_at (i := 424) (by decide +kernel) rfl, gT_at (i := 28) (by decide +kernel) rfl, rfl, by decide +kernel, by decide +kernel, by decide +kernel⟩
theorem okMt_75 : okMt (yX7_imageOf, cX7_imageOf, 2, (some (.object "HeatDown$Valley")), 7, 2, 2) := ⟨gT_at (i := 678) (by decide +kernel) rfl, gT_at (i := 28) (by decide +kernel) rfl, rfl, by decide +kernel, by decide +kernel, by decide +kernel⟩
theorem okMt_76 : okMt (yX7_planAsItIs, cX7_planAsItIs, 2, none, 7, 2, 0) := ⟨gT_at (i := 506) (by decide +kernel) rfl, gT_at (i := 28) (by decide +kernel) rfl, rfl, by decide +kernel, by decide +kernel, by decide +kernel⟩
theorem okMt_77 : okMt (yX7_searchMoss, cX7_searchMoss, 8, (some .int), 7, 3, 1) := ⟨gT_at (i := 553) (by decide +kernel) rfl, gT_at (i := 28) (by decide +kernel) rfl, rfl, by decide +kernel, by decide +kernel, by decide +kernel⟩
theorem okMt_78 : okMt (yX7_searchPlace, cX7_searchPlace, 5, (some .int), 7, 3, 1) := ⟨gT_at (i := 593) (by decide +kernel) rfl, gT_at (i := 28) (by decide +kernel) rfl, rfl, by decide +kernel, by decide +kernel, by decide +kernel⟩
theorem okMt_79 : okMt (yX7_gatherFitting, cX7_gatherFitting, 6, (some .int), 7, 3, 1) := ⟨gT_at (i := 640) (by decide +kernel) rfl, gT_at (i := 28) (by decide +kernel) rfl, rfl, by decide +kernel, by decide +kernel, by decide +kernel⟩
theorem okMt_80 : okMt (yX7_mostAlike, cX7_mostAlike, 8, (some .int), 7, 3, 1) := ⟨gT_at (i := 660) (by decide +kernel) rfl, gT_at (i := 28) (by decide +kernel) rfl, rfl, by decide +kernel, by decide +kernel, by decide +kernel⟩
theorem okMt_81 : okMt (yX7_cell, cX7_cell, 2, (some .int), 7, 2, 1) := ⟨gT_at (i := 306) (by decide +kernel) rfl, gT_at (i := 28) (by decide +kernel) rfl, rfl, by decide +kernel, by decide +kernel, by decide +kernel⟩
theorem okMt_82 : okMt (yX7_setCell, cX7_setCell, 3, none, 7, 3, 0) := ⟨gT_at (i := 266) (by decide +kernel) rfl, gT_at (i := 28) (by decide +kernel) rfl, rfl, by decide +kernel, by decide +kernel, by decide +kernel⟩
theorem okMt_83 : okMt (yX7_exchange, cX7_exchange, 4, (some .int), 7, 3, 1) := ⟨gT_at (i := 311) (by decide +kernel) rfl, gT_at (i := 28) (by decide +kernel) rfl, rfl, by decide +kernel, by decide +kernel, by decide +kernel⟩
theorem okMt_84 : okMt (yX7_copyRow, cX7_copyRow, 3, none, 7, 2, 0) := ⟨gT_at (i := 380) (by decide +kernel) rfl, gT_at (i := 28) (by decide +kernel) rfl, rfl, by decide +kernel, by decide +kernel, by decide +kernel⟩
theorem okMt_85 : okMt (yX7_hasBit, cX7_hasBit, 2, (some .boolean), 7, 2, 1) := ⟨gT_at (i := 369) (by decide +kernel) rfl, gT_at (i := 28) (by decide +kernel) rfl, rfl, by decide +kernel, by decide +kernel, by decide +kernel⟩
theorem okMt_86 : okMt (yX7_lowestBit, cX7_lowestBit, 2, (some .int), 7, 1, 1) := ⟨gT_at (i := 497) (by decide +kernel) rfl, gT_at (i := 28) (by decide +kernel) rfl, rfl, by decide +kernel, by decide +kernel, by decide +kernel⟩
theorem okMt_87 : okMt (yX8_layKind, cX8_layKind, 6, none, 8, 6, 0) := ⟨gT_at (i := 708) (by decide +kernel) rfl, gT_at (i := 36) (by decide +kernel) rfl, rfl, by decide +kernel, by decide +kernel, by decide +kernel⟩
theorem okMt_88 : okMt (yX8_in, cX8_in, 3, (some .boolean), 8, 3, 1) := ⟨gT_at (i := 786) (by decide +kernel) rfl, gT_at (i := 36) (by decide +kernel) rfl, rfl, by decide +kernel, by decide +kernel, by decide +kernel⟩
theorem okMt_89 : okMt (yX8_has, cX8_has, 2, (some .boolean), 8, 2, 1) := ⟨gT_at (i := 819) (by decide +kernel) rfl, gT_at (i := 36) (by decide +kernel) rfl, rfl, by decide +kernel, by decide +kernel, by decide +kernel⟩
theorem okMt_90 : okMt (yX8_bits, cX8_bits, 3, (some .int), 8, 1, 1) := ⟨gT_at (i := 870) (by decide +kernel) rfl, gT_at (i := 36) (by decide +kernel) rfl, rfl, by decide +kernel, by decide +kernel, by decide +kernel⟩
theorem okMt_91 : okMt (yX8_spring, cX8_spring, 6, (some .int), 8, 3, 1) := ⟨gT_at (i := 783) (by decide +kernel) rfl, gT_at (i := 36) (by decide +kernel) rfl, rfl, by decide +kernel, by decide +kernel, by decide +kernel⟩
theorem okMt_92 : okMt (yX8_mostOf, cX8_mostOf, 1, (some .int), 8, 1, 1) := ⟨gT_at (i := 793) (by decide +kernel) rfl, gT_at (i := 36) (by decide +kernel) rfl, rfl, by decide +kernel, by decide +kernel, by decide +kernel⟩
theorem okMt_93 : okMt (yX8_kind, cX8_kind, 5, (some .int), 8, 4, 1) := ⟨gT_at (i := 790) (by decide +kernel) rfl, gT_at (i := 36) (by decide +kernel) rfl, rfl, by decide +kernel, by decide +kernel, by decide +kernel⟩
theorem okMt_94 : okMt (yX8_say, cX8_say, 2, (some .int), 8, 2, 1) := ⟨gT_at (i := 797) (by decide +kernel) rfl, gT_at (i := 36) (by decide +kernel) rfl, rfl, by decide +kernel, by decide +kernel, by decide +kernel⟩
theorem okMt_95 : okMt (yX8_wipe, cX8_wipe, 2, (some .int), 8, 1, 1) := ⟨gT_at (i := 801) (by decide +kernel) rfl, gT_at (i := 36) (by decide +kernel) rfl, rfl, by decide +kernel, by decide +kernel, by decide +kernel⟩
theorem okMt_96 : okMt (yX8_kindOf, cX8_kindOf, 1, (some .int), 8, 1, 1) := ⟨gT_at (i := 812) (by decide +kernel) rfl, gT_at (i := 36) (by decide +kernel) rfl, rfl, by decide +kernel, by decide +kernel, by decide +kernel⟩
theorem okMt_97 : okMt (yX8_laneFault, cX8_laneFault, 9, (some .int), 8, 1, 1) := ⟨gT_at (i := 809) (by decide +kernel) rfl, gT_at (i := 36) (by decide +kernel) rfl, rfl, by decide +kernel, by decide +kernel, by decide +kernel⟩
theorem okMt_98 : okMt (yX8_dayFault, cX8_dayFault, 8, (some .int), 8, 1, 1) := ⟨gT_at (i := 816) (by decide +kernel) rfl, gT_at (i := 36) (by decide +kernel) rfl, rfl, by decide +kernel, by decide +kernel, by decide +kernel⟩
theorem okMt_99 : okMt (yX8_fault, cX8_fault, 2, (some .int), 8, 2, 1) := ⟨gT_at (i := 805) (by decide +kernel) rfl, gT_at (i := 36) (by decide +kernel) rfl, rfl, by decide +kernel, by decide +kernel, by decide +kernel⟩
theorem okMt_100 : okMt (yX8_lane, cX8_lane, 5, (some .int), 8, 1, 1) := ⟨gT_at (i := 823) (by decide +kernel) rfl, gT_at (i := 36) (by decide +kernel) rfl, rfl, by decide +kernel, by decide +kernel, by decide +kernel⟩
theorem okMt_101 : okMt (yX8_house, cX8_house, 3, (some .int), 8, 3, 1) := ⟨gT_at (i := 827) (by decide +kernel) rfl, gT_at (i := 36) (by decide +kernel) rfl, rfl, by decide +kernel, by decide +kernel, by decide +kernel⟩
theorem okMt_102 : okMt (yX8_asLane, cX8_asLane, 2, none, 8, 1, 0) := ⟨gT_at (i := 839) (by decide +kernel) rfl, gT_at (i := 36) (by decide +kernel) rfl, rfl, by decide +kernel, by decide +kernel, by decide +kernel⟩
theorem okMt_103 : okMt (yX8_go, cX8_go, 14, none, 8, 5, 0) := ⟨gT_at (i := 843) (by decide +kernel) rfl, gT_at (i := 36) (by decide +kernel) rfl, rfl, by decide +kernel, by decide +kernel, by decide +kernel⟩
theorem okMt_104 : okMt (yX8_areBits, cX8_areBits, 4, (some .boolean), 8, 4, 1) := ⟨gT_at (i := 835) (by decide +kernel) rfl, gT_at (i := 36) (by decide +kernel) rfl, rfl, by decide +kernel, by decide +kernel, by decide +kernel⟩
theorem okMt_105 : okMt (yX8_at, cX8_at, 6, (some .int), 8, 6, 1) := ⟨gT_at (i := 831) (by decide +kernel) rfl, gT_at (i := 36) (by decide +kernel) rfl, rfl, by decide +kernel, by decide +kernel, by decide +kernel⟩
theorem okMt_106 : okMt (yX8_run, cX8_run, 5, (some .int), 8, 5, 1) := ⟨gT_at (i := 847) (by decide +kernel) rfl, gT_at (i := 36) (by decide +kernel) rfl, rfl, by decide +kernel, by decide +kernel, by decide +kernel⟩
theorem okMt_107 : okMt (yX8_judge, cX8_judge, 8, (some .int), 8, 2, 1) := ⟨gT_at (i := 851) (by decide +kernel) rfl, gT_at (i := 36) (by decide +kernel) rfl, rfl, by decide +kernel, by decide +kernel, by decide +kernel⟩
theorem okMt_108 : okMt (yX8_worthOf, cX8_worthOf, 4, (some .int), 8, 2, 1) := ⟨gT_at (i := 863) (by decide +kernel) rfl, gT_at (i := 36) (by decide +kernel) rfl, rfl, by decide +kernel, by decide +kernel, by decide +kernel⟩
theorem okMt_109 : okMt (yX8_layBest, cX8_layBest, 5, (some .int), 8, 2, 1) := ⟨gT_at (i := 859) (by decide +kernel) rfl, gT_at (i := 36) (by decide +kernel) rfl, rfl, by decide +kernel, by decide +kernel, by decide +kernel⟩
theorem okMt_110 : okMt (yX8_best, cX8_best, 4, (some .int), 8, 3, 1) := ⟨gT_at (i := 855) (by decide +kernel) rfl, gT_at (i := 36) (by decide +kernel) rfl, rfl, by decide +kernel, by decide +kernel, by decide +kernel⟩
theorem okMt_111 : okMt (yX8_moss, cX8_moss, 8, (some .int), 8, 4, 1) := ⟨gT_at (i := 867) (by decide +kernel) rfl, gT_at (i := 36) (by decide +kernel) rfl, rfl, by decide +kernel, by decide +kernel, by decide +kernel⟩
theorem okMt_112 : okMt (yX8_cools, cX8_cools, 5, (some .int), 8, 4, 1) := ⟨gT_at (i := 874) (by decide +kernel) rfl, gT_at (i := 36) (by decide +kernel) rfl, rfl, by decide +kernel, by decide +kernel, by decide +kernel⟩
theorem okMt_113 : okMt (yX8_putAt, cX8_putAt, 4, none, 8, 3, 0) := ⟨gT_at (i := 882) (by decide +kernel) rfl, gT_at (i := 36) (by decide +kernel) rfl, rfl, by decide +kernel, by decide +kernel, by decide +kernel⟩
theorem okMt_114 : okMt (yX8_put, cX8_put, 4, (some .int), 8, 4, 1) := ⟨gT_at (i := 878) (by decide +kernel) rfl, gT_at (i := 36) (by decide +kernel) rfl, rfl, by decide +kernel, by decide +kernel, by decide +kernel⟩
theorem okMt_115 : okMt (yX8_where, cX8_where, 8, (some .int), 8, 4, 1) := ⟨gT_at (i := 886) (by decide +kernel) rfl, gT_at (i := 36) (by decide +kernel) rfl, rfl, by decide +kernel, by decide +kernel, by decide +kernel⟩
theorem okMt_116 : okMt (yX8_nextOrder, cX8_nextOrder, 5, (some .boolean), 8, 1, 1) := ⟨gT_at (i := 894) (by decide +kernel) rfl, gT_at (i := 36) (by decide +kernel) rfl, rfl, by decide +kernel, by decide +kernel, by decide +kernel⟩
theorem okMt_117 : okMt (yX8_change, cX8_change, 4, none, 8, 3, 0) := ⟨gT_at (i := 898) (by decide +kernel) rfl, gT_at (i := 36) (by decide +kernel) rfl, rfl, by decide +kernel, by decide +kernel, by decide +kernel⟩
theorem okMt_118 : okMt (yX8_order, cX8_order, 7, (some .int), 8, 3, 1) := ⟨gT_at (i := 890) (by decide +kernel) rfl, gT_at (i := 36) (by decide +kernel) rfl, rfl, by decide +kernel, by decide +kernel, by decide +kernel⟩
theorem okMt_119 : okMt (yX8_felt, cX8_felt, 4, (some .int), 8, 4, 1) := ⟨gT_at (i := 902) (by decide +kernel) rfl, gT_at (i := 36) (by decide +kernel) rfl, rfl, by decide +kernel, by decide +kernel, by decide +kernel⟩
theorem okMt_120 : okMt (yX8_forget, cX8_forget, 2, (some .int), 8, 1, 1) := ⟨gT_at (i := 906) (by decide +kernel) rfl, gT_at (i := 36) (by decide +kernel) rfl, rfl, by decide +kernel, by decide +kernel, by decide +kernel⟩
theorem okMt_121 : okMt (yX8_isFelt, cX8_isFelt, 7, (some .boolean), 8, 4, 1) := ⟨gT_at (i := 914) (by decide +kernel) rfl, gT_at (i := 36) (by decide +kernel) rfl, rfl, by decide +kernel, by decide +kernel, by decide +kernel⟩
theorem okMt_122 : okMt (yX8_fits, cX8_fits, 6, (some .int), 8, 4, 1) := ⟨gT_at (i := 910) (by decide +kernel) rfl, gT_at (i := 36) (by decide +kernel) rfl, rfl, by decide +kernel, by decide +kernel, by decide +kernel⟩
theorem okMt_123 : okMt (yX8_door, cX8_door, 11, (some .int), 8, 4, 1) := ⟨gT_at (i := 918) (by decide +kernel) rfl, gT_at (i := 36) (by decide +kernel) rfl, rfl, by decide +kernel, by decide +kernel, by decide +kernel⟩
theorem okMt_124 : okMt (yX8_winter, cX8_winter, 10, (some .int), 8, 4, 1) := ⟨gT_at (i := 922) (by decide +kernel) rfl, gT_at (i := 36) (by decide +kernel) rfl, rfl, by decide +kernel, by decide +kernel, by decide +kernel⟩
theorem okMt_125 : okMt (yX8_image, cX8_image, 4, (some .int), 8, 2, 1) := ⟨gT_at (i := 927) (by decide +kernel) rfl, gT_at (i := 36) (by decide +kernel) rfl, rfl, by decide +kernel, by decide +kernel, by decide +kernel⟩
theorem okMt_126 : okMt (yX8_restore, cX8_restore, 4, (some .int), 8, 2, 1) := ⟨gT_at (i := 931) (by decide +kernel) rfl, gT_at (i := 36) (by decide +kernel) rfl, rfl, by decide +kernel, by decide +kernel, by decide +kernel⟩
theorem okMt_127 : okMt (yX8_told, cX8_told, 3, (some .int), 8, 2, 1) := ⟨gT_at (i := 935) (by decide +kernel) rfl, gT_at (i := 36) (by decide +kernel) rfl, rfl, by decide +kernel, by decide +kernel, by decide +kernel⟩
theorem okMt_128 : okMt (yJ6_bitCount_0f7a4, cJ6_bitCount_0f7a4, 1, (some .int), 10, 1, 1) := ⟨gT_at (i := 561) (by decide +kernel) rfl, gT_at (i := 38) (by decide +kernel) rfl, rfl, by decide +kernel, by decide +kernel, by decide +kernel⟩
set_option maxRecDepth 100000 in
theorem mTab_ok : ∀ q ∈ mTab.take 129, okMt q := List.forall_mem_cons.mpr ⟨okMt_0, List.forall_mem_cons.mpr ⟨okMt_1, List.forall_mem_cons.mpr ⟨okMt_2, List.forall_mem_cons.mpr ⟨okMt_3, List.forall_mem_cons.mpr ⟨okMt_4, List.forall_mem_cons.mpr ⟨okMt_5, List.forall_mem_cons.mpr ⟨okMt_6, List.forall_mem_cons.mpr ⟨okMt_7, List.forall_mem_cons.mpr ⟨okMt_8, List.forall_mem_cons.mpr ⟨okMt_9, List.forall_mem_cons.mpr ⟨okMt_10, List.forall_mem_cons.mpr ⟨okMt_11, List.forall_mem_cons.mpr ⟨okMt_12, List.forall_mem_cons.mpr ⟨okMt_13, List.forall_mem_cons.mpr ⟨okMt_14, List.forall_mem_cons.mpr ⟨okMt_15, List.forall_mem_cons.mpr ⟨okMt_16, List.forall_mem_cons.mpr ⟨okMt_17, List.forall_mem_cons.mpr ⟨okMt_18, List.forall_mem_cons.mpr ⟨okMt_19, List.forall_mem_cons.mpr ⟨okMt_20, List.forall_mem_cons.mpr ⟨okMt_21, List.forall_mem_cons.mpr ⟨okMt_22, List.forall_mem_cons.mpr ⟨okMt_23, List.forall_mem_cons.mpr ⟨okMt_24, List.forall_mem_cons.mpr ⟨okMt_25, List.forall_mem_cons.mpr ⟨okMt_26, List.forall_mem_cons.mpr ⟨okMt_27, List.forall_mem_cons.mpr ⟨okMt_28, List.forall_mem_cons.mpr ⟨okMt_29, List.forall_mem_cons.mpr ⟨okMt_30, List.forall_mem_cons.mpr ⟨okMt_31, List.forall_mem_cons.mpr ⟨okMt_32, List.forall_mem_cons.mpr ⟨okMt_33, List.forall_mem_cons.mpr ⟨okMt_34, List.forall_mem_cons.mpr ⟨okMt_35, List.forall_mem_cons.mpr ⟨okMt_36, List.forall_mem_cons.mpr ⟨okMt_37, List.forall_mem_cons.mpr ⟨okMt_38, List.forall_mem_cons.mpr ⟨okMt_39, List.forall_mem_cons.mpr ⟨okMt_40, List.forall_mem_cons.mpr ⟨okMt_41, List.forall_mem_cons.mpr ⟨okMt_42, List.forall_mem_cons.mpr ⟨okMt_43, List.forall_mem_cons.mpr ⟨okMt_44, List.forall_mem_cons.mpr ⟨okMt_45, List.forall_mem_cons.mpr ⟨okMt_46, List.forall_mem_cons.mpr ⟨okMt_47, List.forall_mem_cons.mpr ⟨okMt_48, List.forall_mem_cons.mpr ⟨okMt_49, List.forall_mem_cons.mpr ⟨okMt_50, List.forall_mem_cons.mpr ⟨okMt_51, List.forall_mem_cons.mpr ⟨okMt_52, List.forall_mem_cons.mpr ⟨okMt_53, List.forall_mem_cons.mpr ⟨okMt_54, List.forall_mem_cons.mpr ⟨okMt_55, List.forall_mem_cons.mpr ⟨okMt_56, List.forall_mem_cons.mpr ⟨okMt_57, List.forall_mem_cons.mpr ⟨okMt_58, List.forall_mem_cons.mpr ⟨okMt_59, List.forall_mem_cons.mpr ⟨okMt_60, List.forall_mem_cons.mpr ⟨okMt_61, List.forall_mem_cons.mpr ⟨okMt_62, List.forall_mem_cons.mpr ⟨okMt_63, List.forall_mem_cons.mpr ⟨okMt_64, List.forall_mem_cons.mpr ⟨okMt_65, List.forall_mem_cons.mpr ⟨okMt_66, List.forall_mem_cons.mpr ⟨okMt_67, List.forall_mem_cons.mpr ⟨okMt_68, List.forall_mem_cons.mpr ⟨okMt_69, List.forall_mem_cons.mpr ⟨okMt_70, List.forall_mem_cons.mpr ⟨okMt_71, List.forall_mem_cons.mpr ⟨okMt_72, List.forall_mem_cons.mpr ⟨okMt_73, List.forall_mem_cons.mpr ⟨okMt_74, List.forall_mem_cons.mpr ⟨okMt_75, List.forall_mem_cons.mpr ⟨okMt_76, List.forall_mem_cons.mpr ⟨okMt_77, List.forall_mem_cons.mpr ⟨okMt_78, List.forall_mem_cons.mpr ⟨okMt_79, List.forall_mem_cons.mpr ⟨okMt_80, List.forall_mem_cons.mpr ⟨okMt_81, List.forall_mem_cons.mpr ⟨okMt_82, List.forall_mem_cons.mpr ⟨okMt_83, List.forall_mem_cons.mpr ⟨okMt_84, List.forall_mem_cons.mpr ⟨okMt_85, List.forall_mem_cons.mpr ⟨okMt_86, List.forall_mem_cons.mpr ⟨okMt_87, List.forall_mem_cons.mpr ⟨okMt_88, List.forall_mem_cons.mpr ⟨okMt_89, List.forall_mem_cons.mpr ⟨okMt_90, List.forall_mem_cons.mpr ⟨okMt_91, List.forall_mem_cons.mpr ⟨okMt_92, List.forall_mem_cons.mpr ⟨okMt_93, List.forall_mem_cons.mpr ⟨okMt_94, List.forall_mem_cons.mpr ⟨okMt_95, List.forall_mem_cons.mpr ⟨okMt_96, List.forall_mem_cons.mpr ⟨okMt_97, List.forall_mem_cons.mpr ⟨okMt_98, List.forall_mem_cons.mpr ⟨okMt_99, List.forall_mem_cons.mpr ⟨okMt_100, List.forall_mem_cons.mpr ⟨okMt_101, List.forall_mem_cons.mpr ⟨okMt_102, List.forall_mem_cons.mpr ⟨okMt_103, List.forall_mem_cons.mpr ⟨okMt_104, List.forall_mem_cons.mpr ⟨okMt_105, List.forall_mem_cons.mpr ⟨okMt_106, List.forall_mem_cons.mpr ⟨okMt_107, List.forall_mem_cons.mpr ⟨okMt_108, List.forall_mem_cons.mpr ⟨okMt_109, List.forall_mem_cons.mpr ⟨okMt_110, List.forall_mem_cons.mpr ⟨okMt_111, List.forall_mem_cons.mpr ⟨okMt_112, List.forall_mem_cons.mpr ⟨okMt_113, List.forall_mem_cons.mpr ⟨okMt_114, List.forall_mem_cons.mpr ⟨okMt_115, List.forall_mem_cons.mpr ⟨okMt_116, List.forall_mem_cons.mpr ⟨okMt_117, List.forall_mem_cons.mpr ⟨okMt_118, List.forall_mem_cons.mpr ⟨okMt_119, List.forall_mem_cons.mpr ⟨okMt_120, List.forall_mem_cons.mpr ⟨okMt_121, List.forall_mem_cons.mpr ⟨okMt_122, List.forall_mem_cons.mpr ⟨okMt_123, List.forall_mem_cons.mpr ⟨okMt_124, List.forall_mem_cons.mpr ⟨okMt_125, List.forall_mem_cons.mpr ⟨okMt_126, List.forall_mem_cons.mpr ⟨okMt_127, List.forall_mem_cons.mpr ⟨okMt_128, fun _ h => absurd h List.not_mem_nil⟩⟩⟩⟩⟩⟩⟩⟩⟩⟩⟩⟩⟩⟩⟩⟩⟩⟩⟩⟩⟩⟩⟩⟩⟩⟩⟩⟩⟩⟩⟩⟩⟩⟩⟩⟩⟩⟩⟩⟩⟩⟩⟩⟩⟩⟩⟩⟩⟩⟩⟩⟩⟩⟩⟩⟩⟩⟩⟩⟩⟩⟩⟩⟩⟩⟩⟩⟩⟩⟩⟩⟩⟩⟩⟩⟩⟩⟩⟩⟩⟩⟩⟩⟩⟩⟩⟩⟩⟩⟩⟩⟩⟩⟩⟩⟩⟩⟩⟩⟩⟩⟩⟩⟩⟩⟩⟩⟩⟩⟩⟩⟩⟩⟩⟩⟩⟩⟩⟩⟩⟩⟩⟩⟩⟩⟩⟩⟩⟩
theorem clw_0 : ∀ w ∈ u_ws RX0 TX0 8, w ∈ gT := by
  intro w hw
  have h : u_ws RX0 TX0 8 = ([178, 180, 182, 184, 186, 188, 190, 192] : List Nat).filterMap (fun i => lw_tbl[i]?) := by decide +kernel
  rw [h] at hw
  obtain ⟨i, -, hi⟩ := List.mem_filterMap.mp hw
  exact gT_at hi (List.all_eq_true.mp (show (u_ws RX0 TX0 8).all goodWord = true by decide +kernel) w (by rw [h]; exact hw))
theorem clw_1 : ∀ w ∈ u_ws RX1 TX1 4, w ∈ gT := by
  intro w hw
  have h : u_ws RX1 TX1 4 = ([131, 133, 135, 137] : List Nat).filterMap (fun i => lw_tbl[i]?) := by decide +kernel
  rw [h] at hw
  obtain ⟨i, -, hi⟩ := List.mem_filterMap.mp hw
  exact gT_at hi (List.all_eq_true.mp (show (u_ws RX1 TX1 4).all goodWord = true by decide +kernel) w (by rw [h]; exact hw))
theorem clw_2 : ∀ w ∈ u_ws RX2 TX2 5, w ∈ gT := by
  intro w hw
  have h : u_ws RX2 TX2 5 = ([71, 73, 75, 77, 79] : List Nat).filterMap (fun i => lw_tbl[i]?) := by decide +kernel
  rw [h] at hw
  obtain ⟨i, -, hi⟩ := List.mem_filterMap.mp hw
  exact gT_at hi (List.all_eq_true.mp (show (u_ws RX2 TX2 5).all goodWord = true by decide +kernel) w (by rw [h]; exact hw))
theorem clw_3 : ∀ w ∈ u_ws RX3 TX3 5, w ∈ gT := by
  intro w hw
  have h : u_ws RX3 TX3 5 = ([245, 247, 249, 251, 253] : List Nat).filterMap (fun i => lw_tbl[i]?) := by decide +kernel
  rw [h] at hw
  obtain ⟨i, -, hi⟩ := List.mem_filterMap.mp hw
  exact gT_at hi (List.all_eq_true.mp (show (u_ws RX3 TX3 5).all goodWord = true by decide +kernel) w (by rw [h]; exact hw))
theorem clw_4 : ∀ w ∈ u_ws RX4 TX4 5, w ∈ gT := by
  intro w hw
  have h : u_ws RX4 TX4 5 = ([90, 92, 94, 96, 98] : List Nat).filterMap (fun i => lw_tbl[i]?) := by decide +kernel
  rw [h] at hw
  obtain ⟨i, -, hi⟩ := List.mem_filterMap.mp hw
  exact gT_at hi (List.all_eq_true.mp (show (u_ws RX4 TX4 5).all goodWord = true by decide +kernel) w (by rw [h]; exact hw))
theorem clw_5 : ∀ w ∈ u_ws RX5 TX5 8, w ∈ gT := by
  intro w hw
  have h : u_ws RX5 TX5 8 = ([215, 217, 219, 221, 223, 225, 227, 229] : List Nat).filterMap (fun i => lw_tbl[i]?) := by decide +kernel
  rw [h] at hw
  obtain ⟨i, -, hi⟩ := List.mem_filterMap.mp hw
  exact gT_at hi (List.all_eq_true.mp (show (u_ws RX5 TX5 8).all goodWord = true by decide +kernel) w (by rw [h]; exact hw))
theorem clw_6 : ∀ w ∈ u_ws RX6 TX6 4, w ∈ gT := by
  intro w hw
  have h : u_ws RX6 TX6 4 = ([150, 152, 154, 156] : List Nat).filterMap (fun i => lw_tbl[i]?) := by decide +kernel
  rw [h] at hw
  obtain ⟨i, -, hi⟩ := List.mem_filterMap.mp hw
  exact gT_at hi (List.all_eq_true.mp (show (u_ws RX6 TX6 4).all goodWord = true by decide +kernel) w (by rw [h]; exact hw))
theorem clw_7 : ∀ w ∈ u_ws RX7 TX7 10, w ∈ gT := by
  intro w hw
  have h : u_ws RX7 TX7 10 = ([277, 279, 281, 283, 285, 287, 289, 291, 293, 295] : List Nat).filterMap (fun i => lw_tbl[i]?) := by decide +kernel
  rw [h] at hw
  obtain ⟨i, -, hi⟩ := List.mem_filterMap.mp hw
  exact gT_at hi (List.all_eq_true.mp (show (u_ws RX7 TX7 10).all goodWord = true by decide +kernel) w (by rw [h]; exact hw))
theorem clw_8 : ∀ w ∈ u_ws RX8 TX8 23, w ∈ gT := by
  intro w hw
  have h : u_ws RX8 TX8 23 = ([732, 734, 736, 738, 740, 742, 744, 746, 748, 750, 752, 754, 756, 758, 760, 762, 764, 766, 768, 770, 772, 774, 776] : List Nat).filterMap (fun i => lw_tbl[i]?) := by decide +kernel
  rw [h] at hw
  obtain ⟨i, -, hi⟩ := List.mem_filterMap.mp hw
  exact gT_at hi (List.all_eq_true.mp (show (u_ws RX8 TX8 23).all goodWord = true by decide +kernel) w (by rw [h]; exact hw))
def okCl (q : vw_C) : Prop := (∀ w ∈ u_ws q.1 q.2.1 q.2.2, w ∈ gT) ∧ (∃ ty : Nat → FieldType, ∀ k, k < q.2.2 → parseFieldDescriptor (q.2.1 k).2.2.1 = some (ty k)) ∧ ∀ a, a < q.2.2 → ∀ b, b < q.2.2 → a ≠ b → (q.2.1 a).2.1 ≠ (q.2.1 b).2.1
theorem vwCl_ok : ∀ q ∈ vwCl, okCl q := List.forall_mem_cons.mpr ⟨⟨clw_0, ⟨tyX0, tyX0_ok⟩, nmX0⟩, List.forall_mem_cons.mpr ⟨⟨clw_1, ⟨tyX1, tyX1_ok⟩, nmX1⟩, List.forall_mem_cons.mpr ⟨⟨clw_2, ⟨tyX2, tyX2_ok⟩, nmX2⟩, List.forall_mem_cons.mpr ⟨⟨clw_3, ⟨tyX3, tyX3_ok⟩, nmX3⟩, List.forall_mem_cons.mpr ⟨⟨clw_4, ⟨tyX4, tyX4_ok⟩, nmX4⟩, List.forall_mem_cons.mpr ⟨⟨clw_5, ⟨tyX5, tyX5_ok⟩, nmX5⟩, List.forall_mem_cons.mpr ⟨⟨clw_6, ⟨tyX6, tyX6_ok⟩, nmX6⟩, List.forall_mem_cons.mpr ⟨⟨clw_7, ⟨tyX7, tyX7_ok⟩, nmX7⟩, List.forall_mem_cons.mpr ⟨⟨clw_8, ⟨tyX8, tyX8_ok⟩, nmX8⟩, fun _ h => absurd h List.not_mem_nil⟩⟩⟩⟩⟩⟩⟩⟩⟩
