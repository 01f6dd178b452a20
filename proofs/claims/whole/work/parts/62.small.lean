/-! CONSTRUCTORS: layouts, first memories, words -/
def lyCourse : List (Nat × Nat) := [(0, 0), (50, 9), (50, 9)]
def lyFelt : List (Nat × Nat) := [(1, 0), (50, 6), (50, 6), (50, 6)]
def lyLane : List (Nat × Nat) := [(2, 0), (50, 8), (50, 8), (50, 8)]
def lyOrder : List (Nat × Nat) := [(3, 0), (50, 7), (50, 7)]
def lyPad : List (Nat × Nat) := [(4, 0), (2, 0), (50, 8), (50, 8), (50, 8), (50, 48), (50, 6), (50, 6)]
def lyPlan : List (Nat × Nat) := [(5, 0), (2, 0), (50, 8), (50, 8), (50, 8), (50, 9)]
def lyValley : List (Nat × Nat) := [(6, 0), (50, 5), (50, 30), (2, 0), (50, 8), (50, 8), (50, 8), (1, 0), (50, 6), (50, 6), (50, 6)]
def lyX : List (Nat × Nat) := [(7, 0), (4, 0), (2, 0), (50, 8), (50, 8), (50, 8), (50, 48), (50, 6), (50, 6), (0, 0), (50, 9), (50, 9), (5, 0), (2, 0), (50, 8), (50, 8), (50, 8), (50, 9), (3, 0), (50, 7), (50, 7), (6, 0), (50, 5), (50, 30), (2, 0), (50, 8), (50, 8), (50, 8), (1, 0), (50, 6), (50, 6), (50, 6), (6, 0), (50, 5), (50, 30), (2, 0), (50, 8), (50, 8), (50, 8), (1, 0), (50, 6), (50, 6), (50, 6), (6, 0), (50, 5), (50, 30), (2, 0), (50, 8), (50, 8), (50, 8), (1, 0), (50, 6), (50, 6), (50, 6), (50, 16), (50, 128)]
def lyM : List (Nat × Nat) := [(8, 0), (50, 5), (50, 30), (50, 48), (50, 24), (50, 18), (50, 27), (50, 10), (50, 10), (50, 8), (50, 16), (50, 6), (50, 160), (52, 2)]
def mm0 : mM := fun _ _ => 0
def mmOrder : mM := fun k j => match k, j with
  | 0, 0 => -6
  | _, _ => 0
def mmPlan : mM := fun k j => match k, j with
  | 0, 1 => -6
  | 0, 2 => -6
  | _, _ => 0
def mmV (rc : Nat → Nat → Int32) : mM := fun k j => match k with
  | 1 => rc 0 j
  | 2 => rc 3 j
  | _ => 0
abbrev kF0 : List Value := [.int 0, .int 0, .int 0, .int 0, .int 0, .null, .null, .null]
theorem kF0_ok : ∀ j, j < 8 → defaultValue (tyX0 j) = vp_V kF0 j := fun j hj => match j, hj with
  | 0, _ => rfl
  | 1, _ => rfl
  | 2, _ => rfl
  | 3, _ => rfl
  | 4, _ => rfl
  | 5, _ => rfl
  | 6, _ => rfl
  | 7, _ => rfl
  | n + 8, h => absurd h (by omega)
theorem kI0 : Cond.instantiable RX0 8 ∈ gT := gT_at (i := 160) (by decide +kernel) rfl
theorem kN0 : Cond.initialized RX0 ∈ gT := gT_at (i := 33) (by decide +kernel) rfl
theorem kC0 : Cond.code yX0_init cX0_init 2 none ∈ gT := gT_at (i := 163) (by decide +kernel) rfl
theorem kM0 : Cond.instanceMethod yX0_init ∈ gT := gT_at (i := 162) (by decide +kernel) rfl
abbrev kF1 : List Value := [.int 0, .null, .null, .null]
theorem kF1_ok : ∀ j, j < 4 → defaultValue (tyX1 j) = vp_V kF1 j := fun j hj => match j, hj with
  | 0, _ => rfl
  | 1, _ => rfl
  | 2, _ => rfl
  | 3, _ => rfl
  | n + 4, h => absurd h (by omega)
theorem kI1 : Cond.instantiable RX1 4 ∈ gT := gT_at (i := 121) (by decide +kernel) rfl
theorem kN1 : Cond.initialized RX1 ∈ gT := gT_at (i := 32) (by decide +kernel) rfl
theorem kC1 : Cond.code yX1_init cX1_init 1 none ∈ gT := gT_at (i := 124) (by decide +kernel) rfl
theorem kM1 : Cond.instanceMethod yX1_init ∈ gT := gT_at (i := 123) (by decide +kernel) rfl
abbrev kF2 : List Value := [.int 0, .int 0, .null, .null, .null]
theorem kF2_ok : ∀ j, j < 5 → defaultValue (tyX2 j) = vp_V kF2 j := fun j hj => match j, hj with
  | 0, _ => rfl
  | 1, _ => rfl
  | 2, _ => rfl
  | 3, _ => rfl
  | 4, _ => rfl
  | n + 5, h => absurd h (by omega)
theorem kI2 : Cond.instantiable RX2 5 ∈ gT := gT_at (i := 54) (by decide +kernel) rfl
theorem kN2 : Cond.initialized RX2 ∈ gT := gT_at (i := 30) (by decide +kernel) rfl
theorem kC2 : Cond.code yX2_init cX2_init 1 none ∈ gT := gT_at (i := 57) (by decide +kernel) rfl
theorem kM2 : Cond.instanceMethod yX2_init ∈ gT := gT_at (i := 56) (by decide +kernel) rfl
abbrev kF3 : List Value := [.int 0, .null, .null, .null, .int 0]
theorem kF3_ok : ∀ j, j < 5 → defaultValue (tyX3 j) = vp_V kF3 j := fun j hj => match j, hj with
  | 0, _ => rfl
  | 1, _ => rfl
  | 2, _ => rfl
  | 3, _ => rfl
  | 4, _ => rfl
  | n + 5, h => absurd h (by omega)
theorem kI3 : Cond.instantiable RX3 5 ∈ gT := gT_at (i := 233) (by decide +kernel) rfl
theorem kN3 : Cond.initialized RX3 ∈ gT := gT_at (i := 35) (by decide +kernel) rfl
theorem kC3 : Cond.code yX3_init cX3_init 2 none ∈ gT := gT_at (i := 236) (by decide +kernel) rfl
theorem kM3 : Cond.instanceMethod yX3_init ∈ gT := gT_at (i := 235) (by decide +kernel) rfl
abbrev kF4 : List Value := [.int 0, .null, .null, .null, .null]
theorem kF4_ok : ∀ j, j < 5 → defaultValue (tyX4 j) = vp_V kF4 j := fun j hj => match j, hj with
  | 0, _ => rfl
  | 1, _ => rfl
  | 2, _ => rfl
  | 3, _ => rfl
  | 4, _ => rfl
  | n + 5, h => absurd h (by omega)
theorem kI4 : Cond.instantiable RX4 5 ∈ gT := gT_at (i := 48) (by decide +kernel) rfl
theorem kN4 : Cond.initialized RX4 ∈ gT := gT_at (i := 29) (by decide +kernel) rfl
theorem kC4 : Cond.code yX4_init cX4_init 1 none ∈ gT := gT_at (i := 51) (by decide +kernel) rfl
theorem kM4 : Cond.instanceMethod yX4_init ∈ gT := gT_at (i := 50) (by decide +kernel) rfl
abbrev kF5 : List Value := [.null, .int 0, .int 0, .int 0, .null, .int 0, .int 0, .null]
theorem kF5_ok : ∀ j, j < 8 → defaultValue (tyX5 j) = vp_V kF5 j := fun j hj => match j, hj with
  | 0, _ => rfl
  | 1, _ => rfl
  | 2, _ => rfl
  | 3, _ => rfl
  | 4, _ => rfl
  | 5, _ => rfl
  | 6, _ => rfl
  | 7, _ => rfl
  | n + 8, h => absurd h (by omega)
theorem kI5 : Cond.instantiable RX5 8 ∈ gT := gT_at (i := 196) (by decide +kernel) rfl
theorem kN5 : Cond.initialized RX5 ∈ gT := gT_at (i := 34) (by decide +kernel) rfl
theorem kC5 : Cond.code yX5_init cX5_init 2 none ∈ gT := gT_at (i := 199) (by decide +kernel) rfl
theorem kM5 : Cond.instanceMethod yX5_init ∈ gT := gT_at (i := 198) (by decide +kernel) rfl
abbrev kF6 : List Value := [.null, .null, .null, .null]
theorem kF6_ok : ∀ j, j < 4 → defaultValue (tyX6 j) = vp_V kF6 j := fun j hj => match j, hj with
  | 0, _ => rfl
  | 1, _ => rfl
  | 2, _ => rfl
  | 3, _ => rfl
  | n + 4, h => absurd h (by omega)
theorem kI6 : Cond.instantiable RX6 4 ∈ gT := gT_at (i := 102) (by decide +kernel) rfl
theorem kN6 : Cond.initialized RX6 ∈ gT := gT_at (i := 31) (by decide +kernel) rfl
theorem kC6 : Cond.code yX6_init cX6_init 1 none ∈ gT := gT_at (i := 105) (by decide +kernel) rfl
theorem kM6 : Cond.instanceMethod yX6_init ∈ gT := gT_at (i := 104) (by decide +kernel) rfl
abbrev kF7 : List Value := [.null, .null, .null, .null, .int 0, .null, .null, .null, .null, .null]
theorem kF7_ok : ∀ j, j < 10 → defaultValue (tyX7 j) = vp_V kF7 j := fun j hj => match j, hj with
  | 0, _ => rfl
  | 1, _ => rfl
  | 2, _ => rfl
  | 3, _ => rfl
  | 4, _ => rfl
  | 5, _ => rfl
  | 6, _ => rfl
  | 7, _ => rfl
  | 8, _ => rfl
  | 9, _ => rfl
  | n + 10, h => absurd h (by omega)
theorem kI7 : Cond.instantiable RX7 10 ∈ gT := gT_at (i := 40) (by decide +kernel) rfl
theorem kN7 : Cond.initialized RX7 ∈ gT := gT_at (i := 28) (by decide +kernel) rfl
theorem kC7 : Cond.code yX7_init cX7_init 1 none ∈ gT := gT_at (i := 43) (by decide +kernel) rfl
theorem kM7 : Cond.instanceMethod yX7_init ∈ gT := gT_at (i := 42) (by decide +kernel) rfl
abbrev kF8 : List Value := [.null, .null, .int 0, .null, .int 0, .null, .int 0, .int 0, .null, .int 0, .null, .null, .null, .int 0, .int 0, .int 0, .int 0, .int 0, .null, .null, .null, .null, .null]
theorem kF8_ok : ∀ j, j < 23 → defaultValue (tyX8 j) = vp_V kF8 j := fun j hj => match j, hj with
  | 0, _ => rfl
  | 1, _ => rfl
  | 2, _ => rfl
  | 3, _ => rfl
  | 4, _ => rfl
  | 5, _ => rfl
  | 6, _ => rfl
  | 7, _ => rfl
  | 8, _ => rfl
  | 9, _ => rfl
  | 10, _ => rfl
  | 11, _ => rfl
  | 12, _ => rfl
  | 13, _ => rfl
  | 14, _ => rfl
  | 15, _ => rfl
  | 16, _ => rfl
  | 17, _ => rfl
  | 18, _ => rfl
  | 19, _ => rfl
  | 20, _ => rfl
  | 21, _ => rfl
  | 22, _ => rfl
  | n + 23, h => absurd h (by omega)
theorem kI8 : Cond.instantiable RX8 23 ∈ gT := gT_at (i := 700) (by decide +kernel) rfl
theorem kN8 : Cond.initialized RX8 ∈ gT := gT_at (i := 36) (by decide +kernel) rfl
theorem kC8 : Cond.code yX8_init cX8_init 1 none ∈ gT := gT_at (i := 703) (by decide +kernel) rfl
theorem kM8 : Cond.instanceMethod yX8_init ∈ gT := gT_at (i := 702) (by decide +kernel) rfl
theorem kl_o_2_3 : Cond.methodLink (mOwn 2) 3 objectInit ∈ gT := gT_at (i := 58) (by decide +kernel) rfl
theorem kl_f_2_9 : Cond.fieldLink (mOwn 2) 9 (TX2 0).1 (TX2 0).2.1 (TX2 0).2.2.1 ∈ gT := gT_at (i := 59) (by decide +kernel) rfl
theorem kl_f_2_15 : Cond.fieldLink (mOwn 2) 15 (TX2 1).1 (TX2 1).2.1 (TX2 1).2.2.1 ∈ gT := gT_at (i := 65) (by decide +kernel) rfl
theorem kl_f_2_18 : Cond.fieldLink (mOwn 2) 18 (TX2 2).1 (TX2 2).2.1 (TX2 2).2.2.1 ∈ gT := gT_at (i := 68) (by decide +kernel) rfl
theorem kl_f_2_22 : Cond.fieldLink (mOwn 2) 22 (TX2 3).1 (TX2 3).2.1 (TX2 3).2.2.1 ∈ gT := gT_at (i := 69) (by decide +kernel) rfl
theorem kl_f_2_25 : Cond.fieldLink (mOwn 2) 25 (TX2 4).1 (TX2 4).2.1 (TX2 4).2.2.1 ∈ gT := gT_at (i := 70) (by decide +kernel) rfl
theorem kl_o_1_3 : Cond.methodLink (mOwn 1) 3 objectInit ∈ gT := gT_at (i := 125) (by decide +kernel) rfl
theorem kl_f_1_9 : Cond.fieldLink (mOwn 1) 9 (TX1 0).1 (TX1 0).2.1 (TX1 0).2.2.1 ∈ gT := gT_at (i := 126) (by decide +kernel) rfl
theorem kl_f_1_15 : Cond.fieldLink (mOwn 1) 15 (TX1 1).1 (TX1 1).2.1 (TX1 1).2.2.1 ∈ gT := gT_at (i := 128) (by decide +kernel) rfl
theorem kl_f_1_19 : Cond.fieldLink (mOwn 1) 19 (TX1 2).1 (TX1 2).2.1 (TX1 2).2.2.1 ∈ gT := gT_at (i := 129) (by decide +kernel) rfl
theorem kl_f_1_22 : Cond.fieldLink (mOwn 1) 22 (TX1 3).1 (TX1 3).2.1 (TX1 3).2.2.1 ∈ gT := gT_at (i := 130) (by decide +kernel) rfl
theorem kl_o_0_3 : Cond.methodLink (mOwn 0) 3 objectInit ∈ gT := gT_at (i := 164) (by decide +kernel) rfl
theorem kl_f_0_9 : Cond.fieldLink (mOwn 0) 9 (TX0 0).1 (TX0 0).2.1 (TX0 0).2.2.1 ∈ gT := gT_at (i := 165) (by decide +kernel) rfl
theorem kl_f_0_15 : Cond.fieldLink (mOwn 0) 15 (TX0 1).1 (TX0 1).2.1 (TX0 1).2.2.1 ∈ gT := gT_at (i := 167) (by decide +kernel) rfl
theorem kl_f_0_18 : Cond.fieldLink (mOwn 0) 18 (TX0 2).1 (TX0 2).2.1 (TX0 2).2.2.1 ∈ gT := gT_at (i := 169) (by decide +kernel) rfl
theorem kl_f_0_21 : Cond.fieldLink (mOwn 0) 21 (TX0 3).1 (TX0 3).2.1 (TX0 3).2.2.1 ∈ gT := gT_at (i := 171) (by decide +kernel) rfl
theorem kl_f_0_24 : Cond.fieldLink (mOwn 0) 24 (TX0 4).1 (TX0 4).2.1 (TX0 4).2.2.1 ∈ gT := gT_at (i := 173) (by decide +kernel) rfl
theorem kl_f_0_27 : Cond.fieldLink (mOwn 0) 27 (TX0 6).1 (TX0 6).2.1 (TX0 6).2.2.1 ∈ gT := gT_at (i := 176) (by decide +kernel) rfl
theorem kl_f_0_31 : Cond.fieldLink (mOwn 0) 31 (TX0 7).1 (TX0 7).2.1 (TX0 7).2.2.1 ∈ gT := gT_at (i := 177) (by decide +kernel) rfl
theorem kl_f_0_34 : Cond.fieldLink (mOwn 0) 34 (TX0 5).1 (TX0 5).2.1 (TX0 5).2.2.1 ∈ gT := gT_at (i := 175) (by decide +kernel) rfl
theorem kl_o_3_3 : Cond.methodLink (mOwn 3) 3 objectInit ∈ gT := gT_at (i := 237) (by decide +kernel) rfl
theorem kl_f_3_9 : Cond.fieldLink (mOwn 3) 9 (TX3 0).1 (TX3 0).2.1 (TX3 0).2.2.1 ∈ gT := gT_at (i := 238) (by decide +kernel) rfl
theorem kl_f_3_15 : Cond.fieldLink (mOwn 3) 15 (TX3 1).1 (TX3 1).2.1 (TX3 1).2.2.1 ∈ gT := gT_at (i := 240) (by decide +kernel) rfl
theorem kl_f_3_19 : Cond.fieldLink (mOwn 3) 19 (TX3 3).1 (TX3 3).2.1 (TX3 3).2.2.1 ∈ gT := gT_at (i := 243) (by decide +kernel) rfl
theorem kl_f_3_22 : Cond.fieldLink (mOwn 3) 22 (TX3 4).1 (TX3 4).2.1 (TX3 4).2.2.1 ∈ gT := gT_at (i := 244) (by decide +kernel) rfl
theorem kl_f_3_25 : Cond.fieldLink (mOwn 3) 25 (TX3 2).1 (TX3 2).2.1 (TX3 2).2.2.1 ∈ gT := gT_at (i := 242) (by decide +kernel) rfl
theorem kl_o_4_3 : Cond.methodLink (mOwn 4) 3 objectInit ∈ gT := gT_at (i := 52) (by decide +kernel) rfl
theorem kl_f_4_9 : Cond.fieldLink (mOwn 4) 9 (TX4 0).1 (TX4 0).2.1 (TX4 0).2.2.1 ∈ gT := gT_at (i := 83) (by decide +kernel) rfl
theorem kl_c_4_15 : Cond.classLink (mOwn 4) 15 RX2 ∈ gT := gT_at (i := 53) (by decide +kernel) rfl
theorem kl_i_4_17 : Cond.methodLinkNest (mOwn 4) 17 yX2_init "HeatDown" ∈ nT := nT_at (i := 55) (by decide +kernel) rfl
theorem kl_f_4_18 : Cond.fieldLink (mOwn 4) 18 (TX4 1).1 (TX4 1).2.1 (TX4 1).2.2.1 ∈ gT := gT_at (i := 85) (by decide +kernel) rfl
theorem kl_f_4_22 : Cond.fieldLink (mOwn 4) 22 (TX4 2).1 (TX4 2).2.1 (TX4 2).2.2.1 ∈ gT := gT_at (i := 87) (by decide +kernel) rfl
theorem kl_f_4_26 : Cond.fieldLink (mOwn 4) 26 (TX4 3).1 (TX4 3).2.1 (TX4 3).2.2.1 ∈ gT := gT_at (i := 88) (by decide +kernel) rfl
theorem kl_f_4_29 : Cond.fieldLink (mOwn 4) 29 (TX4 4).1 (TX4 4).2.1 (TX4 4).2.2.1 ∈ gT := gT_at (i := 89) (by decide +kernel) rfl
theorem kl_o_5_3 : Cond.methodLink (mOwn 5) 3 objectInit ∈ gT := gT_at (i := 200) (by decide +kernel) rfl
theorem kl_c_5_9 : Cond.classLink (mOwn 5) 9 RX2 ∈ gT := gT_at (i := 201) (by decide +kernel) rfl
theorem kl_i_5_11 : Cond.methodLinkNest (mOwn 5) 11 yX2_init "HeatDown" ∈ nT := nT_at (i := 202) (by decide +kernel) rfl
theorem kl_f_5_12 : Cond.fieldLink (mOwn 5) 12 (TX5 0).1 (TX5 0).2.1 (TX5 0).2.2.1 ∈ gT := gT_at (i := 203) (by decide +kernel) rfl
theorem kl_f_5_18 : Cond.fieldLink (mOwn 5) 18 (TX5 1).1 (TX5 1).2.1 (TX5 1).2.2.1 ∈ gT := gT_at (i := 205) (by decide +kernel) rfl
theorem kl_f_5_22 : Cond.fieldLink (mOwn 5) 22 (TX5 2).1 (TX5 2).2.1 (TX5 2).2.2.1 ∈ gT := gT_at (i := 207) (by decide +kernel) rfl
theorem kl_f_5_25 : Cond.fieldLink (mOwn 5) 25 (TX5 3).1 (TX5 3).2.1 (TX5 3).2.2.1 ∈ gT := gT_at (i := 209) (by decide +kernel) rfl
theorem kl_f_5_28 : Cond.fieldLink (mOwn 5) 28 (TX5 5).1 (TX5 5).2.1 (TX5 5).2.2.1 ∈ gT := gT_at (i := 212) (by decide +kernel) rfl
theorem kl_f_5_31 : Cond.fieldLink (mOwn 5) 31 (TX5 6).1 (TX5 6).2.1 (TX5 6).2.2.1 ∈ gT := gT_at (i := 213) (by decide +kernel) rfl
theorem kl_f_5_34 : Cond.fieldLink (mOwn 5) 34 (TX5 7).1 (TX5 7).2.1 (TX5 7).2.2.1 ∈ gT := gT_at (i := 214) (by decide +kernel) rfl
theorem kl_f_5_38 : Cond.fieldLink (mOwn 5) 38 (TX5 4).1 (TX5 4).2.1 (TX5 4).2.2.1 ∈ gT := gT_at (i := 211) (by decide +kernel) rfl
theorem kl_o_6_3 : Cond.methodLink (mOwn 6) 3 objectInit ∈ gT := gT_at (i := 106) (by decide +kernel) rfl
theorem kl_s_6_9 : Cond.fieldLinkNest (mOwn 6) 9 "HeatDown" "SPRING_FIRST" "[I" "HeatDown" ∈ nT := nT_at (i := 107) (by decide +kernel) rfl
theorem kl_k_6_13 : Cond.methodLink (mOwn 6) 13 ⟨"[I", "clone", "()Ljava/lang/Object;"⟩ ∈ gT := gT_at (i := 109) (by decide +kernel) rfl
theorem kl_c_6_14 : Cond.classLink (mOwn 6) 14 "[I" ∈ gT := gT_at (i := 115) (by decide +kernel) rfl
theorem kl_f_6_18 : Cond.fieldLink (mOwn 6) 18 (TX6 0).1 (TX6 0).2.1 (TX6 0).2.2.1 ∈ gT := gT_at (i := 140) (by decide +kernel) rfl
theorem kl_s_6_23 : Cond.fieldLinkNest (mOwn 6) 23 "HeatDown" "KIND_FIRST" "[I" "HeatDown" ∈ nT := nT_at (i := 116) (by decide +kernel) rfl
theorem kl_f_6_26 : Cond.fieldLink (mOwn 6) 26 (TX6 1).1 (TX6 1).2.1 (TX6 1).2.2.1 ∈ gT := gT_at (i := 142) (by decide +kernel) rfl
theorem kl_c_6_29 : Cond.classLink (mOwn 6) 29 RX2 ∈ gT := gT_at (i := 118) (by decide +kernel) rfl
theorem kl_i_6_31 : Cond.methodLinkNest (mOwn 6) 31 yX2_init "HeatDown" ∈ nT := nT_at (i := 119) (by decide +kernel) rfl
theorem kl_f_6_32 : Cond.fieldLink (mOwn 6) 32 (TX6 2).1 (TX6 2).2.1 (TX6 2).2.2.1 ∈ gT := gT_at (i := 144) (by decide +kernel) rfl
theorem kl_c_6_36 : Cond.classLink (mOwn 6) 36 RX1 ∈ gT := gT_at (i := 120) (by decide +kernel) rfl
theorem kl_i_6_38 : Cond.methodLinkNest (mOwn 6) 38 yX1_init "HeatDown" ∈ nT := nT_at (i := 122) (by decide +kernel) rfl
theorem kl_f_6_39 : Cond.fieldLink (mOwn 6) 39 (TX6 3).1 (TX6 3).2.1 (TX6 3).2.2.1 ∈ gT := gT_at (i := 148) (by decide +kernel) rfl
set_option maxHeartbeats 1000000 in
set_option maxRecDepth 20000 in
theorem cc_2 {l : Launch} {D : va_G} {cA cB : ClassId} {roAd : Nat → Nat} {ro : List Nat} {rc : Nat → Nat → Int32} : kCtr l D cA cB roAd ro rc yX2_init cX2_init 1 1 [] 2 kF2 lyLane (fun _ M => M = mm0) 3 24 := by
  refine kMeet (own := 2) (by decide +kernel) rfl rfl (fun _ => (Nat.le_of_ble_eq_true rfl)) (fun h0 p e s m args below meth c ls X hin hr hlk hw hl => ?_)
  have hx := X.1.1
  have hb := X.1.2.1
  refine lv_aload_n hx hb dX2_init_0 rfl (lv_at hl 0 rfl) ?_
  refine kObj X hl.1 kl_o_2_3 dX2_init_1 ⟨(Nat.le_of_ble_eq_true rfl), (Nat.le_of_ble_eq_true rfl)⟩ ?_
  refine lv_aload_n hx hb dX2_init_4 rfl (lv_at hl 0 rfl) ?_
  refine lv_iconst (v := 0) hx hb dX2_init_5 (by decide) ?_
  refine kPut X hw rfl 0 (by decide) kl_f_2_9 (Or.inl rfl) (v := .int 0) (ty := .int) (by decide +kernel) rfl rfl (Nat.le_of_ble_eq_true rfl) dX2_init_6 (fun H locs hw => ?_)
  refine lv_aload_n hx hb dX2_init_9 rfl (lv_at hl 0 rfl) ?_
  refine lv_iconst (v := 0) hx hb dX2_init_10 (by decide) ?_
  refine kPut X hw rfl 1 (by decide) kl_f_2_15 (Or.inl rfl) (v := .int 0) (ty := .int) (by decide +kernel) rfl rfl (Nat.le_of_ble_eq_true rfl) dX2_init_11 (fun H locs hw => ?_)
  refine lv_aload_n hx hb dX2_init_14 rfl (lv_at hl 0 rfl) ?_
  refine lv_bipush (v := 8) hx hb dX2_init_15 (by decide) ?_
  refine kNewa (N := 8) X hw (by decide) (by decide) (by decide) (Nat.le_of_ble_eq_true rfl) (Nat.le_of_ble_eq_true rfl) dX2_init_17 (fun q1 H hw => ?_)
  refine kPut X hw rfl 2 (by decide) kl_f_2_18 (Or.inr ⟨rfl, hin, rfl⟩) (v := .ref (q1)) (ty := .array .int) (by decide +kernel) rfl rfl (Nat.le_of_ble_eq_true rfl) dX2_init_19 (fun H locs hw => ?_)
  refine lv_aload_n hx hb dX2_init_22 rfl (lv_at hl 0 rfl) ?_
  refine lv_bipush (v := 8) hx hb dX2_init_23 (by decide) ?_
  refine kNewa (N := 8) X hw (by decide) (by decide) (by decide) (Nat.le_of_ble_eq_true rfl) (Nat.le_of_ble_eq_true rfl) dX2_init_25 (fun q2 H hw => ?_)
  refine kPut X hw rfl 3 (by decide) kl_f_2_22 (Or.inr ⟨rfl, hin, rfl⟩) (v := .ref (q2)) (ty := .array .int) (by decide +kernel) rfl rfl (Nat.le_of_ble_eq_true rfl) dX2_init_27 (fun H locs hw => ?_)
  refine lv_aload_n hx hb dX2_init_30 rfl (lv_at hl 0 rfl) ?_
  refine lv_bipush (v := 8) hx hb dX2_init_31 (by decide) ?_
  refine kNewa (N := 8) X hw (by decide) (by decide) (by decide) (Nat.le_of_ble_eq_true rfl) (Nat.le_of_ble_eq_true rfl) dX2_init_33 (fun q3 H hw => ?_)
  refine kPut X hw rfl 4 (by decide) kl_f_2_25 (Or.inr ⟨rfl, hin, rfl⟩) (v := .ref (q3)) (ty := .array .int) (by decide +kernel) rfl rfl (Nat.le_of_ble_eq_true rfl) dX2_init_35 (fun H locs hw => ?_)
  exact kRet X hr hlk rfl (lay := lyLane) (ad := fun k => [h0, q1, q2, q3].getD k 0) (M := mm0) hw rfl rfl dX2_init_38
set_option maxHeartbeats 1000000 in
set_option maxRecDepth 20000 in
theorem cc_1 {l : Launch} {D : va_G} {cA cB : ClassId} {roAd : Nat → Nat} {ro : List Nat} {rc : Nat → Nat → Int32} : kCtr l D cA cB roAd ro rc yX1_init cX1_init 1 1 [] 1 kF1 lyFelt (fun _ M => M = mm0) 3 18 := by
  refine kMeet (own := 1) (by decide +kernel) rfl rfl (fun _ => (Nat.le_of_ble_eq_true rfl)) (fun h0 p e s m args below meth c ls X hin hr hlk hw hl => ?_)
  have hx := X.1.1
  have hb := X.1.2.1
  refine lv_aload_n hx hb dX1_init_0 rfl (lv_at hl 0 rfl) ?_
  refine kObj X hl.1 kl_o_1_3 dX1_init_1 ⟨(Nat.le_of_ble_eq_true rfl), (Nat.le_of_ble_eq_true rfl)⟩ ?_
  refine lv_aload_n hx hb dX1_init_4 rfl (lv_at hl 0 rfl) ?_
  refine lv_iconst (v := 0) hx hb dX1_init_5 (by decide) ?_
  refine kPut X hw rfl 0 (by decide) kl_f_1_9 (Or.inl rfl) (v := .int 0) (ty := .int) (by decide +kernel) rfl rfl (Nat.le_of_ble_eq_true rfl) dX1_init_6 (fun H locs hw => ?_)
  refine lv_aload_n hx hb dX1_init_9 rfl (lv_at hl 0 rfl) ?_
  refine lv_bipush (v := 6) hx hb dX1_init_10 (by decide) ?_
  refine kNewa (N := 6) X hw (by decide) (by decide) (by decide) (Nat.le_of_ble_eq_true rfl) (Nat.le_of_ble_eq_true rfl) dX1_init_12 (fun q1 H hw => ?_)
  refine kPut X hw rfl 1 (by decide) kl_f_1_15 (Or.inr ⟨rfl, hin, rfl⟩) (v := .ref (q1)) (ty := .array .int) (by decide +kernel) rfl rfl (Nat.le_of_ble_eq_true rfl) dX1_init_14 (fun H locs hw => ?_)
  refine lv_aload_n hx hb dX1_init_17 rfl (lv_at hl 0 rfl) ?_
  refine lv_bipush (v := 6) hx hb dX1_init_18 (by decide) ?_
  refine kNewa (N := 6) X hw (by decide) (by decide) (by decide) (Nat.le_of_ble_eq_true rfl) (Nat.le_of_ble_eq_true rfl) dX1_init_20 (fun q2 H hw => ?_)
  refine kPut X hw rfl 2 (by decide) kl_f_1_19 (Or.inr ⟨rfl, hin, rfl⟩) (v := .ref (q2)) (ty := .array .int) (by decide +kernel) rfl rfl (Nat.le_of_ble_eq_true rfl) dX1_init_22 (fun H locs hw => ?_)
  refine lv_aload_n hx hb dX1_init_25 rfl (lv_at hl 0 rfl) ?_
  refine lv_bipush (v := 6) hx hb dX1_init_26 (by decide) ?_
  refine kNewa (N := 6) X hw (by decide) (by decide) (by decide) (Nat.le_of_ble_eq_true rfl) (Nat.le_of_ble_eq_true rfl) dX1_init_28 (fun q3 H hw => ?_)
  refine kPut X hw rfl 3 (by decide) kl_f_1_22 (Or.inr ⟨rfl, hin, rfl⟩) (v := .ref (q3)) (ty := .array .int) (by decide +kernel) rfl rfl (Nat.le_of_ble_eq_true rfl) dX1_init_30 (fun H locs hw => ?_)
  exact kRet X hr hlk rfl (lay := lyFelt) (ad := fun k => [h0, q1, q2, q3].getD k 0) (M := mm0) hw rfl rfl dX1_init_33
set_option maxHeartbeats 1000000 in
set_option maxRecDepth 20000 in
theorem cc_0 {l : Launch} {D : va_G} {cA cB : ClassId} {roAd : Nat → Nat} {ro : List Nat} {rc : Nat → Nat → Int32} (v : Nat) : kCtr l D cA cB roAd ro rc yX0_init cX0_init 2 1 [.ref v] 0 kF0 lyCourse (fun ad M => M = mm0 ∧ ad 12 = v) 2 18 := by
  refine kMeet (own := 0) (by decide +kernel) rfl rfl (fun _ => (Nat.le_of_ble_eq_true rfl)) (fun h0 p e s m args below meth c ls X hin hr hlk hw hl => ?_)
  have hx := X.1.1
  have hb := X.1.2.1
  refine lv_aload_n hx hb dX0_init_0 rfl (lv_at hl 0 rfl) ?_
  refine kObj X hl.1 kl_o_0_3 dX0_init_1 ⟨(Nat.le_of_ble_eq_true rfl), (Nat.le_of_ble_eq_true rfl)⟩ ?_
  refine lv_aload_n hx hb dX0_init_4 rfl (lv_at hl 0 rfl) ?_
  refine lv_iconst (v := 0) hx hb dX0_init_5 (by decide) ?_
  refine kPut X hw rfl 0 (by decide) kl_f_0_9 (Or.inl rfl) (v := .int 0) (ty := .int) (by decide +kernel) rfl rfl (Nat.le_of_ble_eq_true rfl) dX0_init_6 (fun H locs hw => ?_)
  refine lv_aload_n hx hb dX0_init_9 rfl (lv_at hl 0 rfl) ?_
  refine lv_iconst (v := 0) hx hb dX0_init_10 (by decide) ?_
  refine kPut X hw rfl 1 (by decide) kl_f_0_15 (Or.inl rfl) (v := .int 0) (ty := .int) (by decide +kernel) rfl rfl (Nat.le_of_ble_eq_true rfl) dX0_init_11 (fun H locs hw => ?_)
  refine lv_aload_n hx hb dX0_init_14 rfl (lv_at hl 0 rfl) ?_
  refine lv_iconst (v := 0) hx hb dX0_init_15 (by decide) ?_
  refine kPut X hw rfl 2 (by decide) kl_f_0_18 (Or.inl rfl) (v := .int 0) (ty := .int) (by decide +kernel) rfl rfl (Nat.le_of_ble_eq_true rfl) dX0_init_16 (fun H locs hw => ?_)
  refine lv_aload_n hx hb dX0_init_19 rfl (lv_at hl 0 rfl) ?_
  refine lv_iconst (v := 0) hx hb dX0_init_20 (by decide) ?_
  refine kPut X hw rfl 3 (by decide) kl_f_0_21 (Or.inl rfl) (v := .int 0) (ty := .int) (by decide +kernel) rfl rfl (Nat.le_of_ble_eq_true rfl) dX0_init_21 (fun H locs hw => ?_)
  refine lv_aload_n hx hb dX0_init_24 rfl (lv_at hl 0 rfl) ?_
  refine lv_iconst (v := 0) hx hb dX0_init_25 (by decide) ?_
  refine kPut X hw rfl 4 (by decide) kl_f_0_24 (Or.inl rfl) (v := .int 0) (ty := .int) (by decide +kernel) rfl rfl (Nat.le_of_ble_eq_true rfl) dX0_init_26 (fun H locs hw => ?_)
  refine lv_aload_n hx hb dX0_init_29 rfl (lv_at hl 0 rfl) ?_
  refine lv_bipush (v := 9) hx hb dX0_init_30 (by decide) ?_
  refine kNewa (N := 9) X hw (by decide) (by decide) (by decide) (Nat.le_of_ble_eq_true rfl) (Nat.le_of_ble_eq_true rfl) dX0_init_32 (fun q1 H hw => ?_)
  refine kPut X hw rfl 6 (by decide) kl_f_0_27 (Or.inr ⟨rfl, hin, rfl⟩) (v := .ref (q1)) (ty := .array .int) (by decide +kernel) rfl rfl (Nat.le_of_ble_eq_true rfl) dX0_init_34 (fun H locs hw => ?_)
  refine lv_aload_n hx hb dX0_init_37 rfl (lv_at hl 0 rfl) ?_
  refine lv_bipush (v := 9) hx hb dX0_init_38 (by decide) ?_
  refine kNewa (N := 9) X hw (by decide) (by decide) (by decide) (Nat.le_of_ble_eq_true rfl) (Nat.le_of_ble_eq_true rfl) dX0_init_40 (fun q2 H hw => ?_)
  refine kPut X hw rfl 7 (by decide) kl_f_0_31 (Or.inr ⟨rfl, hin, rfl⟩) (v := .ref (q2)) (ty := .array .int) (by decide +kernel) rfl rfl (Nat.le_of_ble_eq_true rfl) dX0_init_42 (fun H locs hw => ?_)
  refine lv_aload_n hx hb dX0_init_45 rfl (lv_at hl 0 rfl) ?_
  refine lv_aload_n hx hb dX0_init_46 rfl (lv_at hl 1 rfl) ?_
  refine kPut X hw rfl 5 (by decide) kl_f_0_34 (Or.inr ⟨rfl, hin, rfl⟩) (v := .ref (v)) (ty := .object "HeatDown$Valley") (by decide +kernel) rfl rfl (Nat.le_of_ble_eq_true rfl) dX0_init_47 (fun H locs hw => ?_)
  exact kRet X hr hlk rfl (lay := lyCourse) (ad := fun k => if k = 12 then v else [h0, q1, q2].getD k 0) (M := mm0) hw rfl ⟨rfl, rfl⟩ dX0_init_50
set_option maxHeartbeats 1000000 in
set_option maxRecDepth 20000 in
theorem cc_3 {l : Launch} {D : va_G} {cA cB : ClassId} {roAd : Nat → Nat} {ro : List Nat} {rc : Nat → Nat → Int32} (v : Nat) : kCtr l D cA cB roAd ro rc yX3_init cX3_init 2 1 [.ref v] 3 kF3 lyOrder (fun ad M => M = mmOrder ∧ ad 3 = v) 2 14 := by
  refine kMeet (own := 3) (by decide +kernel) rfl rfl (fun _ => (Nat.le_of_ble_eq_true rfl)) (fun h0 p e s m args below meth c ls X hin hr hlk hw hl => ?_)
  have hx := X.1.1
  have hb := X.1.2.1
  refine lv_aload_n hx hb dX3_init_0 rfl (lv_at hl 0 rfl) ?_
  refine kObj X hl.1 kl_o_3_3 dX3_init_1 ⟨(Nat.le_of_ble_eq_true rfl), (Nat.le_of_ble_eq_true rfl)⟩ ?_
  refine lv_aload_n hx hb dX3_init_4 rfl (lv_at hl 0 rfl) ?_
  refine lv_bipush (v := (-6)) hx hb dX3_init_5 (by decide) ?_
  refine kPut X hw rfl 0 (by decide) kl_f_3_9 (Or.inl rfl) (v := .int (-6)) (ty := .int) (by decide +kernel) rfl rfl (Nat.le_of_ble_eq_true rfl) dX3_init_7 (fun H locs hw => ?_)
  refine lv_aload_n hx hb dX3_init_10 rfl (lv_at hl 0 rfl) ?_
  refine lv_bipush (v := 7) hx hb dX3_init_11 (by decide) ?_
  refine kNewa (N := 7) X hw (by decide) (by decide) (by decide) (Nat.le_of_ble_eq_true rfl) (Nat.le_of_ble_eq_true rfl) dX3_init_13 (fun q1 H hw => ?_)
  refine kPut X hw rfl 1 (by decide) kl_f_3_15 (Or.inr ⟨rfl, hin, rfl⟩) (v := .ref (q1)) (ty := .array .int) (by decide +kernel) rfl rfl (Nat.le_of_ble_eq_true rfl) dX3_init_15 (fun H locs hw => ?_)
  refine lv_aload_n hx hb dX3_init_18 rfl (lv_at hl 0 rfl) ?_
  refine lv_bipush (v := 7) hx hb dX3_init_19 (by decide) ?_
  refine kNewa (N := 7) X hw (by decide) (by decide) (by decide) (Nat.le_of_ble_eq_true rfl) (Nat.le_of_ble_eq_true rfl) dX3_init_21 (fun q2 H hw => ?_)
  refine kPut X hw rfl 3 (by decide) kl_f_3_19 (Or.inr ⟨rfl, hin, rfl⟩) (v := .ref (q2)) (ty := .array .int) (by decide +kernel) rfl rfl (Nat.le_of_ble_eq_true rfl) dX3_init_23 (fun H locs hw => ?_)
  refine lv_aload_n hx hb dX3_init_26 rfl (lv_at hl 0 rfl) ?_
  refine lv_iconst (v := 0) hx hb dX3_init_27 (by decide) ?_
  refine kPut X hw rfl 4 (by decide) kl_f_3_22 (Or.inl rfl) (v := .int 0) (ty := .int) (by decide +kernel) rfl rfl (Nat.le_of_ble_eq_true rfl) dX3_init_28 (fun H locs hw => ?_)
  refine lv_aload_n hx hb dX3_init_31 rfl (lv_at hl 0 rfl) ?_
  refine lv_aload_n hx hb dX3_init_32 rfl (lv_at hl 1 rfl) ?_
  refine kPut X hw rfl 2 (by decide) kl_f_3_25 (Or.inr ⟨rfl, hin, rfl⟩) (v := .ref (v)) (ty := .object "HeatDown$Valley") (by decide +kernel) rfl rfl (Nat.le_of_ble_eq_true rfl) dX3_init_33 (fun H locs hw => ?_)
  exact kRet X hr hlk rfl (lay := lyOrder) (ad := fun k => if k = 3 then v else [h0, q1, q2].getD k 0) (M := mmOrder) hw rfl ⟨rfl, rfl⟩ dX3_init_36
set_option maxHeartbeats 1000000 in
set_option maxRecDepth 20000 in
theorem cc_4 {l : Launch} {D : va_G} {cA cB : ClassId} {roAd : Nat → Nat} {ro : List Nat} {rc : Nat → Nat → Int32} : kCtr l D cA cB roAd ro rc yX4_init cX4_init 1 2 [] 4 kF4 lyPad (fun _ M => M = mm0) 7 89 := by
  refine kMeet (own := 4) (by decide +kernel) rfl rfl (fun _ => (Nat.le_of_ble_eq_true rfl)) (fun h0 p e s m args below meth c ls X hin hr hlk hw hl => ?_)
  have hx := X.1.1
  have hb := X.1.2.1
  refine lv_aload_n hx hb dX4_init_0 rfl (lv_at hl 0 rfl) ?_
  refine kObj X hl.1 kl_o_4_3 dX4_init_1 ⟨(Nat.le_of_ble_eq_true rfl), (Nat.le_of_ble_eq_true rfl)⟩ ?_
  refine lv_aload_n hx hb dX4_init_4 rfl (lv_at hl 0 rfl) ?_
  refine lv_iconst (v := 0) hx hb dX4_init_5 (by decide) ?_
  refine kPut X hw rfl 0 (by decide) kl_f_4_9 (Or.inl rfl) (v := .int 0) (ty := .int) (by decide +kernel) rfl rfl (Nat.le_of_ble_eq_true rfl) dX4_init_6 (fun H locs hw => ?_)
  refine lv_aload_n hx hb dX4_init_9 rfl (lv_at hl 0 rfl) ?_
  refine kNew (ci := 2) (fs := kF2) X hw rfl tyX2 tyX2_ok kl_c_4_15 kI2 kN2 kF2_ok (Nat.le_of_ble_eq_true rfl) (Nat.le_of_ble_eq_true rfl) dX4_init_10 (fun q1 H hw => ?_)
  refine lv_dup hx hb dX4_init_13 rfl ?_
  refine kInitN (As := []) (d := 1) (mc := 3) (ms := 24) X hl.1 hw (cc_2 ) kC2 kN2 kM2 kl_i_4_17 ⟨rfl, by decide, by decide, (show (parseMethodDescriptor yX2_init.desc).map (fun d => d.parameters.length) = some 0 by decide +kernel)⟩ ⟨(Nat.le_of_ble_eq_true rfl), (Nat.le_of_ble_eq_true rfl)⟩ ⟨(Nat.le_of_ble_eq_true rfl), (Nat.le_of_ble_eq_true rfl)⟩ (Nat.le_of_ble_eq_true rfl) dX4_init_14 rfl (fun a1 M H locs ea1 hF hva1 => ?_)
  have hM : M = mm0 := hF
  subst hM
  subst ea1
  have hw := hva1
  refine kPut X hw rfl 1 (by decide) kl_f_4_18 (Or.inr ⟨rfl, hin, rfl⟩) (v := .ref (a1 0)) (ty := .object "HeatDown$Lane") (by decide +kernel) rfl rfl (Nat.le_of_ble_eq_true rfl) dX4_init_17 (fun H locs hw => ?_)
  refine lv_aload_n hx hb dX4_init_20 rfl (lv_at hl 0 rfl) ?_
  refine lv_bipush (v := 48) hx hb dX4_init_21 (by decide) ?_
  refine kNewa (N := 48) X hw (by decide) (by decide) (by decide) (Nat.le_of_ble_eq_true rfl) (Nat.le_of_ble_eq_true rfl) dX4_init_23 (fun q2 H hw => ?_)
  refine kPut X hw rfl 2 (by decide) kl_f_4_22 (Or.inr ⟨rfl, hin, rfl⟩) (v := .ref (q2)) (ty := .array .int) (by decide +kernel) rfl rfl (Nat.le_of_ble_eq_true rfl) dX4_init_25 (fun H locs hw => ?_)
  refine lv_aload_n hx hb dX4_init_28 rfl (lv_at hl 0 rfl) ?_
  refine lv_bipush (v := 6) hx hb dX4_init_29 (by decide) ?_
  refine kNewa (N := 6) X hw (by decide) (by decide) (by decide) (Nat.le_of_ble_eq_true rfl) (Nat.le_of_ble_eq_true rfl) dX4_init_31 (fun q3 H hw => ?_)
  refine kPut X hw rfl 3 (by decide) kl_f_4_26 (Or.inr ⟨rfl, hin, rfl⟩) (v := .ref (q3)) (ty := .array .int) (by decide +kernel) rfl rfl (Nat.le_of_ble_eq_true rfl) dX4_init_33 (fun H locs hw => ?_)
  refine lv_aload_n hx hb dX4_init_36 rfl (lv_at hl 0 rfl) ?_
  refine lv_bipush (v := 6) hx hb dX4_init_37 (by decide) ?_
  refine kNewa (N := 6) X hw (by decide) (by decide) (by decide) (Nat.le_of_ble_eq_true rfl) (Nat.le_of_ble_eq_true rfl) dX4_init_39 (fun q4 H hw => ?_)
  refine kPut X hw rfl 4 (by decide) kl_f_4_29 (Or.inr ⟨rfl, hin, rfl⟩) (v := .ref (q4)) (ty := .array .int) (by decide +kernel) rfl rfl (Nat.le_of_ble_eq_true rfl) dX4_init_41 (fun H locs hw => ?_)
  exact kRet X hr hlk rfl (lay := lyPad) (ad := fun k => [h0, a1 0, a1 1, a1 2, a1 3, q2, q3, q4].getD k 0) (M := mm0) hw rfl rfl dX4_init_44
set_option maxHeartbeats 1000000 in
set_option maxRecDepth 20000 in
theorem cc_5 {l : Launch} {D : va_G} {cA cB : ClassId} {roAd : Nat → Nat} {ro : List Nat} {rc : Nat → Nat → Int32} (v : Nat) : kCtr l D cA cB roAd ro rc yX5_init cX5_init 2 2 [.ref v] 5 kF5 lyPlan (fun ad M => M = mmPlan ∧ ad 9 = v) 5 38 := by
  refine kMeet (own := 5) (by decide +kernel) rfl rfl (fun _ => (Nat.le_of_ble_eq_true rfl)) (fun h0 p e s m args below meth c ls X hin hr hlk hw hl => ?_)
  have hx := X.1.1
  have hb := X.1.2.1
  refine lv_aload_n hx hb dX5_init_0 rfl (lv_at hl 0 rfl) ?_
  refine kObj X hl.1 kl_o_5_3 dX5_init_1 ⟨(Nat.le_of_ble_eq_true rfl), (Nat.le_of_ble_eq_true rfl)⟩ ?_
  refine lv_aload_n hx hb dX5_init_4 rfl (lv_at hl 0 rfl) ?_
  refine kNew (ci := 2) (fs := kF2) X hw rfl tyX2 tyX2_ok kl_c_5_9 kI2 kN2 kF2_ok (Nat.le_of_ble_eq_true rfl) (Nat.le_of_ble_eq_true rfl) dX5_init_5 (fun q1 H hw => ?_)
  refine lv_dup hx hb dX5_init_8 rfl ?_
  refine kInitN (As := []) (d := 1) (mc := 3) (ms := 24) X hl.1 hw (cc_2 ) kC2 kN2 kM2 kl_i_5_11 ⟨rfl, by decide, by decide, (show (parseMethodDescriptor yX2_init.desc).map (fun d => d.parameters.length) = some 0 by decide +kernel)⟩ ⟨(Nat.le_of_ble_eq_true rfl), (Nat.le_of_ble_eq_true rfl)⟩ ⟨(Nat.le_of_ble_eq_true rfl), (Nat.le_of_ble_eq_true rfl)⟩ (Nat.le_of_ble_eq_true rfl) dX5_init_9 rfl (fun a1 M H locs ea1 hF hva1 => ?_)
  have hM : M = mm0 := hF
  subst hM
  subst ea1
  have hw := hva1
  refine kPut X hw rfl 0 (by decide) kl_f_5_12 (Or.inr ⟨rfl, hin, rfl⟩) (v := .ref (a1 0)) (ty := .object "HeatDown$Lane") (by decide +kernel) rfl rfl (Nat.le_of_ble_eq_true rfl) dX5_init_12 (fun H locs hw => ?_)
  refine lv_aload_n hx hb dX5_init_15 rfl (lv_at hl 0 rfl) ?_
  refine lv_bipush (v := (-6)) hx hb dX5_init_16 (by decide) ?_
  refine kPut X hw rfl 1 (by decide) kl_f_5_18 (Or.inl rfl) (v := .int (-6)) (ty := .int) (by decide +kernel) rfl rfl (Nat.le_of_ble_eq_true rfl) dX5_init_18 (fun H locs hw => ?_)
  refine lv_aload_n hx hb dX5_init_21 rfl (lv_at hl 0 rfl) ?_
  refine lv_bipush (v := (-6)) hx hb dX5_init_22 (by decide) ?_
  refine kPut X hw rfl 2 (by decide) kl_f_5_22 (Or.inl rfl) (v := .int (-6)) (ty := .int) (by decide +kernel) rfl rfl (Nat.le_of_ble_eq_true rfl) dX5_init_24 (fun H locs hw => ?_)
  refine lv_aload_n hx hb dX5_init_27 rfl (lv_at hl 0 rfl) ?_
  refine lv_iconst (v := 0) hx hb dX5_init_28 (by decide) ?_
  refine kPut X hw rfl 3 (by decide) kl_f_5_25 (Or.inl rfl) (v := .int 0) (ty := .int) (by decide +kernel) rfl rfl (Nat.le_of_ble_eq_true rfl) dX5_init_29 (fun H locs hw => ?_)
  refine lv_aload_n hx hb dX5_init_32 rfl (lv_at hl 0 rfl) ?_
  refine lv_iconst (v := 0) hx hb dX5_init_33 (by decide) ?_
  refine kPut X hw rfl 5 (by decide) kl_f_5_28 (Or.inl rfl) (v := .int 0) (ty := .int) (by decide +kernel) rfl rfl (Nat.le_of_ble_eq_true rfl) dX5_init_34 (fun H locs hw => ?_)
  refine lv_aload_n hx hb dX5_init_37 rfl (lv_at hl 0 rfl) ?_
  refine lv_iconst (v := 0) hx hb dX5_init_38 (by decide) ?_
  refine kPut X hw rfl 6 (by decide) kl_f_5_31 (Or.inl rfl) (v := .int 0) (ty := .int) (by decide +kernel) rfl rfl (Nat.le_of_ble_eq_true rfl) dX5_init_39 (fun H locs hw => ?_)
  refine lv_aload_n hx hb dX5_init_42 rfl (lv_at hl 0 rfl) ?_
  refine lv_bipush (v := 9) hx hb dX5_init_43 (by decide) ?_
  refine kNewa (N := 9) X hw (by decide) (by decide) (by decide) (Nat.le_of_ble_eq_true rfl) (Nat.le_of_ble_eq_true rfl) dX5_init_45 (fun q2 H hw => ?_)
  refine kPut X hw rfl 7 (by decide) kl_f_5_34 (Or.inr ⟨rfl, hin, rfl⟩) (v := .ref (q2)) (ty := .array .int) (by decide +kernel) rfl rfl (Nat.le_of_ble_eq_true rfl) dX5_init_47 (fun H locs hw => ?_)
  refine lv_aload_n hx hb dX5_init_50 rfl (lv_at hl 0 rfl) ?_
  refine lv_aload_n hx hb dX5_init_51 rfl (lv_at hl 1 rfl) ?_
  refine kPut X hw rfl 4 (by decide) kl_f_5_38 (Or.inr ⟨rfl, hin, rfl⟩) (v := .ref (v)) (ty := .object "HeatDown$Valley") (by decide +kernel) rfl rfl (Nat.le_of_ble_eq_true rfl) dX5_init_52 (fun H locs hw => ?_)
  exact kRet X hr hlk rfl (lay := lyPlan) (ad := fun k => if k = 9 then v else [h0, a1 0, a1 1, a1 2, a1 3, q2].getD k 0) (M := mmPlan) hw rfl ⟨rfl, rfl⟩ dX5_init_55
set_option maxHeartbeats 1000000 in
set_option maxRecDepth 20000 in
theorem cc_6 {l : Launch} {D : va_G} {cA cB : ClassId} {roAd : Nat → Nat} {ro : List Nat} {rc : Nat → Nat → Int32} : kCtr l D cA cB roAd ro rc yX6_init cX6_init 1 2 [] 6 kF6 lyValley (fun _ M => M = (mmV rc)) 10 86 := by
  refine kMeet (own := 6) (by decide +kernel) rfl rfl (fun _ => (Nat.le_of_ble_eq_true rfl)) (fun h0 p e s m args below meth c ls X hin hr hlk hw hl => ?_)
  have hx := X.1.1
  have hb := X.1.2.1
  refine lv_aload_n hx hb dX6_init_0 rfl (lv_at hl 0 rfl) ?_
  refine kObj X hl.1 kl_o_6_3 dX6_init_1 ⟨(Nat.le_of_ble_eq_true rfl), (Nat.le_of_ble_eq_true rfl)⟩ ?_
  refine lv_aload_n hx hb dX6_init_4 rfl (lv_at hl 0 rfl) ?_
  refine va_getsN hx hb (X.2.2.2.1.1.2.1 0 ("HeatDown", "SPRING_FIRST", 5) rfl).2 hw.2.2 X.1.2.2.2.1 (va_Nw.use rfl (X.2.2.2.1.1.2.2 _ kl_s_6_9)) (fun _ h => h) dX6_init_5 ?_
  refine kClone X hl.1 hw X.2.2.2.1.2.1.1 kl_k_6_13 (Nat.le_of_ble_eq_true rfl) (Nat.le_of_ble_eq_true rfl) (Nat.le_of_ble_eq_true rfl) (Nat.le_of_ble_eq_true rfl) dX6_init_8 (fun q1 H hw => ?_)
  refine va_castA hx hb X.1.2.2.2.1 (X.1.2.2.2.2 _ (X.2.1 _ kl_c_6_14)) hw.1 1 rfl (va_nm_int (X.2.2.1.2 0 (cA, .int) rfl).2) dX6_init_11 ?_
  refine kPut X hw rfl 0 (by decide) kl_f_6_18 (Or.inr ⟨rfl, hin, rfl⟩) (v := .ref (q1)) (ty := .array .int) (by decide +kernel) rfl rfl (Nat.le_of_ble_eq_true rfl) dX6_init_14 (fun H locs hw => ?_)
  refine lv_aload_n hx hb dX6_init_17 rfl (lv_at hl 0 rfl) ?_
  refine va_getsN hx hb (X.2.2.2.1.1.2.1 3 ("HeatDown", "KIND_FIRST", 30) rfl).2 hw.2.2 X.1.2.2.2.1 (va_Nw.use rfl (X.2.2.2.1.1.2.2 _ kl_s_6_23)) (fun _ h => h) dX6_init_18 ?_
  refine kClone X hl.1 hw X.2.2.2.1.2.1.2 kl_k_6_13 (Nat.le_of_ble_eq_true rfl) (Nat.le_of_ble_eq_true rfl) (Nat.le_of_ble_eq_true rfl) (Nat.le_of_ble_eq_true rfl) dX6_init_21 (fun q2 H hw => ?_)
  refine va_castA hx hb X.1.2.2.2.1 (X.1.2.2.2.2 _ (X.2.1 _ kl_c_6_14)) hw.1 2 rfl (va_nm_int (X.2.2.1.2 0 (cA, .int) rfl).2) dX6_init_24 ?_
  refine kPut X hw rfl 1 (by decide) kl_f_6_26 (Or.inr ⟨rfl, hin, rfl⟩) (v := .ref (q2)) (ty := .array .int) (by decide +kernel) rfl rfl (Nat.le_of_ble_eq_true rfl) dX6_init_27 (fun H locs hw => ?_)
  refine lv_aload_n hx hb dX6_init_30 rfl (lv_at hl 0 rfl) ?_
  refine kNew (ci := 2) (fs := kF2) X hw rfl tyX2 tyX2_ok kl_c_6_29 kI2 kN2 kF2_ok (Nat.le_of_ble_eq_true rfl) (Nat.le_of_ble_eq_true rfl) dX6_init_31 (fun q3 H hw => ?_)
  refine lv_dup hx hb dX6_init_34 rfl ?_
  refine kInitN (As := []) (d := 1) (mc := 3) (ms := 24) X hl.1 hw (cc_2 ) kC2 kN2 kM2 kl_i_6_31 ⟨rfl, by decide, by decide, (show (parseMethodDescriptor yX2_init.desc).map (fun d => d.parameters.length) = some 0 by decide +kernel)⟩ ⟨(Nat.le_of_ble_eq_true rfl), (Nat.le_of_ble_eq_true rfl)⟩ ⟨(Nat.le_of_ble_eq_true rfl), (Nat.le_of_ble_eq_true rfl)⟩ (Nat.le_of_ble_eq_true rfl) dX6_init_35 rfl (fun a1 M H locs ea1 hF hva1 => ?_)
  have hM : M = mm0 := hF
  subst hM
  subst ea1
  have hw := hva1
  refine kPut X hw rfl 2 (by decide) kl_f_6_32 (Or.inr ⟨rfl, hin, rfl⟩) (v := .ref (a1 0)) (ty := .object "HeatDown$Lane") (by decide +kernel) rfl rfl (Nat.le_of_ble_eq_true rfl) dX6_init_38 (fun H locs hw => ?_)
  refine lv_aload_n hx hb dX6_init_41 rfl (lv_at hl 0 rfl) ?_
  refine kNew (ci := 1) (fs := kF1) X hw rfl tyX1 tyX1_ok kl_c_6_36 kI1 kN1 kF1_ok (Nat.le_of_ble_eq_true rfl) (Nat.le_of_ble_eq_true rfl) dX6_init_42 (fun q4 H hw => ?_)
  refine lv_dup hx hb dX6_init_45 rfl ?_
  refine kInitN (As := []) (d := 1) (mc := 3) (ms := 18) X hl.1 hw (cc_1 ) kC1 kN1 kM1 kl_i_6_38 ⟨rfl, by decide, by decide, (show (parseMethodDescriptor yX1_init.desc).map (fun d => d.parameters.length) = some 0 by decide +kernel)⟩ ⟨(Nat.le_of_ble_eq_true rfl), (Nat.le_of_ble_eq_true rfl)⟩ ⟨(Nat.le_of_ble_eq_true rfl), (Nat.le_of_ble_eq_true rfl)⟩ (Nat.le_of_ble_eq_true rfl) dX6_init_46 rfl (fun a2 M H locs ea2 hF hva2 => ?_)
  have hM : M = mm0 := hF
  subst hM
  subst ea2
  have hw := hva2
  refine kPut X hw rfl 3 (by decide) kl_f_6_39 (Or.inr ⟨rfl, hin, rfl⟩) (v := .ref (a2 0)) (ty := .object "HeatDown$Felt") (by decide +kernel) rfl rfl (Nat.le_of_ble_eq_true rfl) dX6_init_49 (fun H locs hw => ?_)
  exact kRet X hr hlk rfl (lay := lyValley) (ad := fun k => [h0, q1, q2, a1 0, a1 1, a1 2, a1 3, a2 0, a2 1, a2 2, a2 3].getD k 0) (M := (mmV rc)) hw rfl rfl dX6_init_52
