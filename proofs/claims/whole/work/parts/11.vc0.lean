abbrev jJ (b : List (List mIns)) (d : Nat) (k : mQ) (t : Nat) (ls st : List mV) (M : mM) : Prop := Wt (wpD mB mNL d) (mBk b) k t ls st M
abbrev wI (r : mV) (f : Int32 → Prop) : Prop := match r with
  | some (.inl x) => f x
  | _ => False
abbrev wV (r : mV) (P : Prop) : Prop := match r with
  | none => P
  | _ => False
abbrev wR (kd : Nat) (r : mV) (f : Nat → Prop) : Prop := match r with
  | some (.inr (kd', 0, id)) => if kd' = kd then f id else False
  | _ => False
theorem cI {d z : Nat} {as : List mV} {M : mM} {f : Int32 → mM → Prop} {g : mM → List mV → Prop} (hfg : ∀ x M', f x M' → g M' [mI x]) (h : wpD mB mNL d z as M (fun r M' => wI r fun x => f x M')) : wpD mB mNL d z as M (fun v M' => rv 1 v (g M')) :=
  wpD_mono mB mNL d _ _ _ _ _ (fun v M' h => by
    unfold wI at h; split at h
    · exact hfg _ _ h
    · exact h.elim) h
theorem cV {d z : Nat} {as : List mV} {M : mM} {f : mM → Prop} {g : mM → List mV → Prop} (hfg : ∀ M', f M' → g M' []) (h : wpD mB mNL d z as M (fun r M' => wV r (f M'))) : wpD mB mNL d z as M (fun v M' => rv 0 v (g M')) :=
  wpD_mono mB mNL d _ _ _ _ _ (fun v M' h => by
    unfold wV at h; split at h
    · exact hfg _ h
    · exact h.elim) h
theorem cR {kd d z : Nat} {as : List mV} {M : mM} {f : Nat → mM → Prop} {g : mM → List mV → Prop} (hfg : ∀ x M', f x M' → g M' [mR kd 0 x]) (h : wpD mB mNL d z as M (fun r M' => wR kd r fun x => f x M')) : wpD mB mNL d z as M (fun v M' => rv 2 v (g M')) :=
  wpD_mono mB mNL d _ _ _ _ _ (fun v M' h9 => by
    clear h
    unfold wR at h9; split at h9
    · split at h9
      · next e => subst e; exact hfg _ _ h9
      · exact h9.elim
    · exact h9.elim) h
abbrev zX0_litresAt : Nat := 0
abbrev zX0_heatAt : Nat := 1
abbrev zX0_tenthsAt : Nat := 2
abbrev zX0_follow : Nat := 3
abbrev zX0_meetHouse : Nat := 4
abbrev zX0_worthOfServed : Nat := 5
abbrev zX1_add : Nat := 6
abbrev zX1_clear : Nat := 7
abbrev zX1_fitsTo : Nat := 8
abbrev zX1_copyOf : Nat := 9
abbrev zX2_kindOf : Nat := 10
abbrev zX2_lossAheadOf : Nat := 11
abbrev zX2_brookAheadOf : Nat := 12
abbrev zX2_isFull : Nat := 13
abbrev zX2_houseSets : Nat := 14
abbrev zX2_brookSets : Nat := 15
abbrev zX2_pipeBits : Nat := 16
abbrev zX2_clear : Nat := 17
abbrev zX2_addHouse : Nat := 18
abbrev zX2_insertHouse : Nat := 19
abbrev zX2_coverPipes : Nat := 20
abbrev zX2_copyOf : Nat := 21
abbrev zX3_search : Nat := 22
abbrev zX3_worthLeft : Nat := 23
abbrev zX3_descend : Nat := 24
abbrev zX4_addSign : Nat := 25
abbrev zX4_clear : Nat := 26
abbrev zX4_brooksIn : Nat := 27
abbrev zX4_drawsIn : Nat := 28
abbrev zX4_readLane : Nat := 29
abbrev zX4_readDay : Nat := 30
abbrev zX4_keepHour : Nat := 31
abbrev zX4_kindBySign : Nat := 32
abbrev zX5_forgetPlans : Nat := 33
abbrev zX5_improve : Nat := 34
abbrev zX5_sumWorthBehind : Nat := 35
abbrev zX5_mayWin : Nat := 36
abbrev zX5_offer : Nat := 37
abbrev zX5_descend : Nat := 38
abbrev zX6_springValue : Nat := 39
abbrev zX6_kindValue : Nat := 40
abbrev zX6_isWanting : Nat := 41
abbrev zX6_heatBehindPipe : Nat := 42
abbrev zX6_isHarmed : Nat := 43
abbrev zX6_isServed : Nat := 44
abbrev zX6_copyOf : Nat := 45
abbrev zX7_spring : Nat := 46
abbrev zX7_kind : Nat := 47
abbrev zX7_say : Nat := 48
abbrev zX7_wipe : Nat := 49
abbrev zX7_fault : Nat := 50
abbrev zX7_lane : Nat := 51
abbrev zX7_house : Nat := 52
abbrev zX7_at : Nat := 53
abbrev zX7_run : Nat := 54
abbrev zX7_judge : Nat := 55
abbrev zX7_best : Nat := 56
abbrev zX7_moss : Nat := 57
abbrev zX7_cools : Nat := 58
abbrev zX7_put : Nat := 59
abbrev zX7_where : Nat := 60
abbrev zX7_order : Nat := 61
abbrev zX7_felt : Nat := 62
abbrev zX7_forget : Nat := 63
abbrev zX7_fits : Nat := 64
abbrev zX7_door : Nat := 65
abbrev zX7_winter : Nat := 66
abbrev zX7_image : Nat := 67
abbrev zX7_restore : Nat := 68
abbrev zX7_told : Nat := 69
abbrev zX7_isNoHour : Nat := 70
abbrev zX7_isNoKind : Nat := 71
abbrev zX7_isNoHouse : Nat := 72
abbrev zX7_areNoBrooks : Nat := 73
abbrev zX7_areNoDraws : Nat := 74
abbrev zX7_imageOf : Nat := 75
abbrev zX7_planAsItIs : Nat := 76
abbrev zX7_searchMoss : Nat := 77
abbrev zX7_searchPlace : Nat := 78
abbrev zX7_gatherFitting : Nat := 79
abbrev zX7_mostAlike : Nat := 80
abbrev zX7_cell : Nat := 81
abbrev zX7_setCell : Nat := 82
abbrev zX7_exchange : Nat := 83
abbrev zX7_copyRow : Nat := 84
abbrev zX7_hasBit : Nat := 85
abbrev zX7_lowestBit : Nat := 86
abbrev zX8_layKind : Nat := 87
abbrev zX8_in : Nat := 88
abbrev zX8_has : Nat := 89
abbrev zX8_bits : Nat := 90
abbrev zX8_spring : Nat := 91
abbrev zX8_mostOf : Nat := 92
abbrev zX8_kind : Nat := 93
abbrev zX8_say : Nat := 94
abbrev zX8_wipe : Nat := 95
abbrev zX8_kindOf : Nat := 96
abbrev zX8_laneFault : Nat := 97
abbrev zX8_dayFault : Nat := 98
abbrev zX8_fault : Nat := 99
abbrev zX8_lane : Nat := 100
abbrev zX8_house : Nat := 101
abbrev zX8_asLane : Nat := 102
abbrev zX8_go : Nat := 103
abbrev zX8_areBits : Nat := 104
abbrev zX8_at : Nat := 105
abbrev zX8_run : Nat := 106
abbrev zX8_judge : Nat := 107
abbrev zX8_worthOf : Nat := 108
abbrev zX8_layBest : Nat := 109
abbrev zX8_best : Nat := 110
abbrev zX8_moss : Nat := 111
abbrev zX8_cools : Nat := 112
abbrev zX8_putAt : Nat := 113
abbrev zX8_put : Nat := 114
abbrev zX8_where : Nat := 115
abbrev zX8_nextOrder : Nat := 116
abbrev zX8_change : Nat := 117
abbrev zX8_order : Nat := 118
abbrev zX8_felt : Nat := 119
abbrev zX8_forget : Nat := 120
abbrev zX8_isFelt : Nat := 121
abbrev zX8_fits : Nat := 122
abbrev zX8_door : Nat := 123
abbrev zX8_winter : Nat := 124
abbrev zX8_image : Nat := 125
abbrev zX8_restore : Nat := 126
abbrev zX8_told : Nat := 127
abbrev zJ6_bitCount_0f7a4 : Nat := 128
abbrev zL_law : Nat := 129
