theorem v_X0_litresAt_0 {d : Nat} {k : mQ} {M : mM} (v1 : Int32)
  (h : wpD mB mNL d zX7_cell [mR 50 9 24, mI v1] M (fun r_2 M_1 => wI r_2 fun x_4 =>
  k (mI x_4) M_1)) :
  wpD mB mNL (d + 1) zX0_litresAt [mR 0 0 23, mI v1] M k := (show jJ kB_X0_litresAt d k 0 [mR 0 0 23, mI v1] [] M from Wt.blk (wpD_mono mB mNL d) (cI (fun x_4 M_1 h_3 => h_3) h))
theorem v_X0_heatAt_0 {d : Nat} {k : mQ} {M : mM} (v1 : Int32)
  (h : wpD mB mNL d zX7_cell [mR 50 9 25, mI v1] M (fun r_2 M_1 => wI r_2 fun x_4 =>
  k (mI x_4) M_1)) :
  wpD mB mNL (d + 1) zX0_heatAt [mR 0 0 23, mI v1] M k := (show jJ kB_X0_heatAt d k 0 [mR 0 0 23, mI v1] [] M from Wt.blk (wpD_mono mB mNL d) (cI (fun x_4 M_1 h_3 => h_3) h))
theorem v_X0_tenthsAt_0 {d : Nat} {k : mQ} {M : mM} (v1 : Int32)
  (h : wpD mB mNL d zX0_litresAt [mR 0 0 23, mI v1] M (fun r_2 M_1 => wI r_2 fun x_4 =>
  ((x_4 ≤ 0 → k (mI 0) M_1) ∧
     (¬ x_4 ≤ 0 → wpD mB mNL d zX0_heatAt [mR 0 0 23, mI v1] M_1 (fun r_6 M_5 => wI r_6 fun x_8 =>
      (¬ x_4 = (0 : Int32) ∧ k (mI (x_8 / x_4)) M_5)))))) :
  wpD mB mNL (d + 1) zX0_tenthsAt [mR 0 0 23, mI v1] M k := (show jJ kB_X0_tenthsAt d k 0 [mR 0 0 23, mI v1, none] [] M from Wt.blk (wpD_mono mB mNL d) (cI (fun x_4 M_1 h_3 => And.intro (fun c_9 => Wt.blk (wpD_mono mB mNL d) (Wt.blk (wpD_mono mB mNL d) ((h_3.1 c_9)))) (fun c_9 => cI (fun x_8 M_5 h_7 => And.intro h_7.1 (Wt.blk (wpD_mono mB mNL d) (h_7.2))) (h_3.2 c_9))) h))
theorem v_X0_follow_0 {d : Nat} {k : mQ} {M : mM} (v1 : Int32) (v2 : Int32) (v3 : Int32) (v4 : Int32)
  (h : wpD mB mNL d zX6_springValue [mR 6 0 35, mI 0] M (fun r_2 M_1 => wI r_2 fun x_4 =>
  jJ kB_X0_follow d k 1 [mR 0 0 23, mI v1, mI v2, mI v3, mI v4, mR 2 0 38, mI x_4, mI (x_4 * v1), mI 0, none] [] (up (up (up (up M_1 23 0 0) 23 1 0) 23 3 0) 23 4 0))) :
  wpD mB mNL (d + 1) zX0_follow [mR 0 0 23, mI v1, mI v2, mI v3, mI v4] M k := (show jJ kB_X0_follow d k 0 [mR 0 0 23, mI v1, mI v2, mI v3, mI v4, none, none, none, none, none] [] M from Wt.blk (wpD_mono mB mNL d) (cI (fun x_4 M_1 h_3 => h_3) h))
theorem v_X0_follow_1 {d : Nat} {k : mQ} {M : mM} (v1 : Int32) (v2 : Int32) (v3 : Int32) (v4 : Int32) (v6 : Int32) (v7 : Int32) (v8 : Int32) (u9 : mV)
  (h : (((M 38 0) ≤ v8 → wpD mB mNL d zX7_setCell [mR 50 9 24, mI (M 38 0), mI v6] M (fun r_6 M_5 => wV r_6 (
    wpD mB mNL d zX7_setCell [mR 50 9 25, mI (M_5 38 0), mI v7] M_5 (fun r_9 M_8 => wV r_9 (
      k none (up M_8 23 2 ((M_8 23 1) ||| (v4 &&& ((M_8 23 0) ^^^ (-1)))))))))) ∧
   (¬ (M 38 0) ≤ v8 → wpD mB mNL d zX2_lossAheadOf [mR 2 0 38, mI v8] M (fun r_12 M_11 => wI r_12 fun x_14 =>
    wpD mB mNL d zX6_heatBehindPipe [mR 6 0 35, mI x_14, mI v6, mI v7] M_11 (fun r_16 M_15 => wI r_16 fun x_18 =>
      wpD mB mNL d zX2_brookAheadOf [mR 2 0 38, mI v8] (up M_15 23 3 ((M_15 23 3) + (v7 - x_18))) (fun r_20 M_19 => wI r_20 fun x_22 =>
        wpD mB mNL d zX7_hasBit [mI v3, mI x_22] M_19 (fun r_24 M_23 => wI r_24 fun x_26 =>
          ((x_26 = 0 → jJ kB_X0_follow d k 2 [mR 0 0 23, mI v1, mI v2, mI v3, mI v4, mR 2 0 38, mI v6, mI x_18, mI v8, mI x_18] [] M_23) ∧
             (¬ x_26 = 0 → wpD mB mNL d zX6_springValue [mR 6 0 35, mI 3] M_23 (fun r_28 M_27 => wI r_28 fun x_30 =>
              wpD mB mNL d zX6_springValue [mR 6 0 35, mI 3] M_27 (fun r_32 M_31 => wI r_32 fun x_34 =>
                wpD mB mNL d zX6_springValue [mR 6 0 35, mI 4] M_31 (fun r_36 M_35 => wI r_36 fun x_38 =>
                  jJ kB_X0_follow d k 2 [mR 0 0 23, mI v1, mI v2, mI v3, mI v4, mR 2 0 38, mI (v6 + x_30), mI (x_18 + (x_34 * x_38)), mI v8, mI x_18] [] M_35)))))))))))) :
  jJ kB_X0_follow d k 1 [mR 0 0 23, mI v1, mI v2, mI v3, mI v4, mR 2 0 38, mI v6, mI v7, mI v8, u9] [] M := Wt.blk (wpD_mono mB mNL d) (And.intro (fun c_40 => Wt.blk (wpD_mono mB mNL d) (cV (fun M_5 h_7 => cV (fun M_8 h_10 => h_10) h_7) (h.1 c_40))) (fun c_40 => cI (fun x_14 M_11 h_13 => cI (fun x_18 M_15 h_17 => cI (fun x_22 M_19 h_21 => cI (fun x_26 M_23 h_25 => And.intro (fun c_39 => (h_25.1 c_39)) (fun c_39 => cI (fun x_30 M_27 h_29 => cI (fun x_34 M_31 h_33 => cI (fun x_38 M_35 h_37 => h_37) h_33) h_29) (h_25.2 c_39))) h_21) h_17) h_13) (h.2 c_40)))
theorem v_X0_follow_2 {d : Nat} {k : mQ} {M : mM} (v1 : Int32) (v2 : Int32) (v3 : Int32) (v4 : Int32) (v6 : Int32) (v7 : Int32) (v8 : Int32) (v9 : Int32)
  (h : wpD mB mNL d zX7_setCell [mR 50 9 24, mI v8, mI v6] M (fun r_42 M_41 => wV r_42 (
  wpD mB mNL d zX7_setCell [mR 50 9 25, mI v8, mI v7] M_41 (fun r_45 M_44 => wV r_45 (
    wpD mB mNL d zX7_hasBit [mI v4, mI v8] M_44 (fun r_48 M_47 => wI r_48 fun x_50 =>
      wpD mB mNL d zX0_meetHouse [mR 0 0 23, mI v8, mI v2, mI v6, mI v7, mI x_50] M_47 (fun r_52 M_51 => wI r_52 fun x_54 =>
        jJ kB_X0_follow d k 1 [mR 0 0 23, mI v1, mI v2, mI v3, mI v4, mR 2 0 38, mI v6, mI (v7 - x_54), mI (v8 + 1), mI v9] [] M_51))))))) :
  jJ kB_X0_follow d k 2 [mR 0 0 23, mI v1, mI v2, mI v3, mI v4, mR 2 0 38, mI v6, mI v7, mI v8, mI v9] [] M := Wt.blk (wpD_mono mB mNL d) (cV (fun M_41 h_43 => cV (fun M_44 h_46 => cI (fun x_50 M_47 h_49 => cI (fun x_54 M_51 h_53 => h_53) h_49) h_46) h_43) h)
theorem v_X0_meetHouse_0 {d : Nat} {k : mQ} {M : mM} (v1 : Int32) (v2 : Int32) (v3 : Int32) (v4 : Int32) (v5 : Int32)
  (h : wpD mB mNL d zX2_kindOf [mR 2 0 38, mI v1] M (fun r_2 M_1 => wI r_2 fun x_4 =>
  wpD mB mNL d zX6_isHarmed [mR 6 0 35, mI x_4, mI v3, mI v4] M_1 (fun r_6 M_5 => wI r_6 fun x_8 =>
    ((x_8 = 0 → ((v5 = 0 → k (mI 0) M_5) ∧
         (¬ v5 = 0 → wpD mB mNL d zX6_isServed [mR 6 0 35, mI x_4, mI v2, mI v3, mI v4] M_5 (fun r_10 M_9 => wI r_10 fun x_12 =>
          ((¬ x_12 = 0 → wpD mB mNL d zX6_kindValue [mR 6 0 35, mI 2, mI x_4] (up M_9 23 0 ((M_9 23 0) ||| (1 <<< (v1 &&& 31)))) (fun r_14 M_13 => wI r_14 fun x_16 =>
              wpD mB mNL d zX6_kindValue [mR 6 0 35, mI 2, mI x_4] (up M_13 23 4 ((M_9 23 4) + x_16)) (fun r_18 M_17 => wI r_18 fun x_20 =>
                k (mI x_20) M_17))) ∧
             (x_12 = 0 → k (mI 0) M_9)))))) ∧
       (¬ x_8 = 0 → k (mI 0) (up M_5 23 1 ((M_5 23 1) ||| (1 <<< (v1 &&& 31))))))))) :
  wpD mB mNL (d + 1) zX0_meetHouse [mR 0 0 23, mI v1, mI v2, mI v3, mI v4, mI v5] M k := (show jJ kB_X0_meetHouse d k 0 [mR 0 0 23, mI v1, mI v2, mI v3, mI v4, mI v5, none] [] M from Wt.blk (wpD_mono mB mNL d) (cI (fun x_4 M_1 h_3 => cI (fun x_8 M_5 h_7 => And.intro (fun c_23 => Wt.blk (wpD_mono mB mNL d) (And.intro (fun c_22 => Wt.blk (wpD_mono mB mNL d) (((h_7.1 c_23).1 c_22))) (fun c_22 => cI (fun x_12 M_9 h_11 => And.intro (fun c_21 => Wt.blk (wpD_mono mB mNL d) (cI (fun x_16 M_13 h_15 => cI (fun x_20 M_17 h_19 => h_19) h_15) (h_11.1 c_21))) (fun c_21 => Wt.blk (wpD_mono mB mNL d) ((h_11.2 c_21)))) ((h_7.1 c_23).2 c_22)))) (fun c_23 => (h_7.2 c_23))) h_3) h))
theorem v_X0_worthOfServed_0 {d : Nat} {k : mQ} {M : mM} 
  (h : jJ kB_X0_worthOfServed d k 1 [mR 0 0 23, mI 0, mI 0] [] M) :
  wpD mB mNL (d + 1) zX0_worthOfServed [mR 0 0 23] M k := (show jJ kB_X0_worthOfServed d k 0 [mR 0 0 23, none, none] [] M from Wt.blk (wpD_mono mB mNL d) (h))
theorem v_X0_worthOfServed_1 {d : Nat} {k : mQ} {M : mM} (v1 : Int32) (v2 : Int32)
  (h : (((M 38 0) ≤ v2 → k (mI v1) M) ∧
   (¬ (M 38 0) ≤ v2 → wpD mB mNL d zX7_hasBit [mI (M 23 0), mI v2] M (fun r_2 M_1 => wI r_2 fun x_4 =>
    ((x_4 = 0 → jJ kB_X0_worthOfServed d k 1 [mR 0 0 23, mI v1, mI (v2 + 1)] [] M_1) ∧
       (¬ x_4 = 0 → wpD mB mNL d zX2_kindOf [mR 2 0 38, mI v2] M_1 (fun r_6 M_5 => wI r_6 fun x_8 =>
        wpD mB mNL d zX6_kindValue [mR 6 0 35, mI 3, mI x_8] M_5 (fun r_10 M_9 => wI r_10 fun x_12 =>
          jJ kB_X0_worthOfServed d k 1 [mR 0 0 23, mI (v1 + x_12), mI (v2 + 1)] [] M_9)))))))) :
  jJ kB_X0_worthOfServed d k 1 [mR 0 0 23, mI v1, mI v2] [] M := Wt.blk (wpD_mono mB mNL d) (And.intro (fun c_14 => Wt.blk (wpD_mono mB mNL d) ((h.1 c_14))) (fun c_14 => cI (fun x_4 M_1 h_3 => And.intro (fun c_13 => Wt.blk (wpD_mono mB mNL d) ((h_3.1 c_13))) (fun c_13 => cI (fun x_8 M_5 h_7 => cI (fun x_12 M_9 h_11 => Wt.blk (wpD_mono mB mNL d) (h_11)) h_7) (h_3.2 c_13))) (h.2 c_14)))
theorem v_X1_add_0 {d : Nat} {k : mQ} {M : mM} (o : Nat) (v1 : Int32) (v2 : Int32) (v3 : Int32)
  (h : (((M o 0) < 6 → wpD mB mNL d zX7_setCell [mR 50 6 (o + 1), mI (M o 0), mI v1] M (fun r_2 M_1 => wV r_2 (
    wpD mB mNL d zX7_setCell [mR 50 6 (o + 2), mI (M_1 o 0), mI v2] M_1 (fun r_5 M_4 => wV r_5 (
      wpD mB mNL d zX7_setCell [mR 50 6 (o + 3), mI (M_4 o 0), mI v3] M_4 (fun r_8 M_7 => wV r_8 (
        k (mI 1) (up M_7 o 0 ((M_7 o 0) + 1))))))))) ∧
   (¬ (M o 0) < 6 → k (mI 0) M))) :
  wpD mB mNL (d + 1) zX1_add [mR 1 0 o, mI v1, mI v2, mI v3] M k := (show jJ kB_X1_add d k 0 [mR 1 0 o, mI v1, mI v2, mI v3] [] M from Wt.blk (wpD_mono mB mNL d) (And.intro (fun c_10 => Wt.blk (wpD_mono mB mNL d) (cV (fun M_1 h_3 => cV (fun M_4 h_6 => cV (fun M_7 h_9 => And.intro (Or.inr rfl) h_9) h_6) h_3) (h.1 c_10))) (fun c_10 => And.intro (Or.inl rfl) (h.2 c_10))))
theorem v_X1_clear_0 {d : Nat} {k : mQ} {M : mM} (o : Nat)
  (h : k (mI (M o 0)) (up M o 0 0)) :
  wpD mB mNL (d + 1) zX1_clear [mR 1 0 o] M k := (show jJ kB_X1_clear d k 0 [mR 1 0 o, none] [] M from Wt.blk (wpD_mono mB mNL d) (h))
theorem v_X1_fitsTo_0 {d : Nat} {k : mQ} {M : mM} (o : Nat)
  (h : jJ kB_X1_fitsTo d k 1 [mR 1 0 o, mR 0 0 23, mI 0, none] [] M) :
  wpD mB mNL (d + 1) zX1_fitsTo [mR 1 0 o, mR 0 0 23] M k := (show jJ kB_X1_fitsTo d k 0 [mR 1 0 o, mR 0 0 23, none, none] [] M from Wt.blk (wpD_mono mB mNL d) (h))
theorem v_X1_fitsTo_1 {d : Nat} {k : mQ} {M : mM} (o : Nat) (v2 : Int32) (u3 : mV)
  (h : (((M o 0) ≤ v2 → k (mI 1) M) ∧
   (¬ (M o 0) ≤ v2 → wpD mB mNL d zX7_cell [mR 50 6 (o + 1), mI v2] M (fun r_2 M_1 => wI r_2 fun x_4 =>
    wpD mB mNL d zX0_tenthsAt [mR 0 0 23, mI x_4] M_1 (fun r_6 M_5 => wI r_6 fun x_8 =>
      wpD mB mNL d zX7_cell [mR 50 6 (o + 2), mI v2] M_5 (fun r_10 M_9 => wI r_10 fun x_12 =>
        ((x_8 < x_12 → k (mI 0) M_9) ∧
           (¬ x_8 < x_12 → wpD mB mNL d zX7_cell [mR 50 6 (o + 3), mI v2] M_9 (fun r_14 M_13 => wI r_14 fun x_16 =>
            ((x_8 ≤ x_16 → jJ kB_X1_fitsTo d k 1 [mR 1 0 o, mR 0 0 23, mI (v2 + 1), mI x_8] [] M_13) ∧
               (¬ x_8 ≤ x_16 → k (mI 0) M_13))))))))))) :
  jJ kB_X1_fitsTo d k 1 [mR 1 0 o, mR 0 0 23, mI v2, u3] [] M := Wt.blk (wpD_mono mB mNL d) (And.intro (fun c_19 => Wt.blk (wpD_mono mB mNL d) (And.intro (Or.inr rfl) (h.1 c_19))) (fun c_19 => cI (fun x_4 M_1 h_3 => cI (fun x_8 M_5 h_7 => cI (fun x_12 M_9 h_11 => And.intro (fun c_18 => Wt.blk (wpD_mono mB mNL d) (And.intro (Or.inl rfl) (h_11.1 c_18))) (fun c_18 => cI (fun x_16 M_13 h_15 => And.intro (fun c_17 => Wt.blk (wpD_mono mB mNL d) ((h_15.1 c_17))) (fun c_17 => Wt.blk (wpD_mono mB mNL d) (And.intro (Or.inl rfl) (h_15.2 c_17)))) (h_11.2 c_18))) h_7) h_3) (h.2 c_19)))
theorem v_X1_copyOf_0 {d : Nat} {k : mQ} {M : mM} (o : Nat) (o1 : Nat)
  (h : wpD mB mNL d zX7_copyRow [mR 50 6 (o1 + 1), mR 50 6 (o + 1)] (up M o 0 (M o1 0)) (fun r_2 M_1 => wV r_2 (
  wpD mB mNL d zX7_copyRow [mR 50 6 (o1 + 2), mR 50 6 (o + 2)] M_1 (fun r_5 M_4 => wV r_5 (
    wpD mB mNL d zX7_copyRow [mR 50 6 (o1 + 3), mR 50 6 (o + 3)] M_4 (fun r_8 M_7 => wV r_8 (
      k none M_7))))))) :
  wpD mB mNL (d + 1) zX1_copyOf [mR 1 0 o, mR 1 0 o1] M k := (show jJ kB_X1_copyOf d k 0 [mR 1 0 o, mR 1 0 o1] [] M from Wt.blk (wpD_mono mB mNL d) (cV (fun M_1 h_3 => cV (fun M_4 h_6 => cV (fun M_7 h_9 => h_9) h_6) h_3) h))
theorem v_X2_kindOf_0 {d : Nat} {k : mQ} {M : mM} (o : Nat) (v1 : Int32)
  (h : wpD mB mNL d zX7_cell [mR 50 8 (o + 1), mI v1] M (fun r_2 M_1 => wI r_2 fun x_4 =>
  k (mI x_4) M_1)) :
  wpD mB mNL (d + 1) zX2_kindOf [mR 2 0 o, mI v1] M k := (show jJ kB_X2_kindOf d k 0 [mR 2 0 o, mI v1] [] M from Wt.blk (wpD_mono mB mNL d) (cI (fun x_4 M_1 h_3 => h_3) h))
theorem v_X2_lossAheadOf_0 {d : Nat} {k : mQ} {M : mM} (o : Nat) (v1 : Int32)
  (h : wpD mB mNL d zX7_cell [mR 50 8 (o + 2), mI v1] M (fun r_2 M_1 => wI r_2 fun x_4 =>
  k (mI x_4) M_1)) :
  wpD mB mNL (d + 1) zX2_lossAheadOf [mR 2 0 o, mI v1] M k := (show jJ kB_X2_lossAheadOf d k 0 [mR 2 0 o, mI v1] [] M from Wt.blk (wpD_mono mB mNL d) (cI (fun x_4 M_1 h_3 => h_3) h))
theorem v_X2_brookAheadOf_0 {d : Nat} {k : mQ} {M : mM} (o : Nat) (v1 : Int32)
  (h : wpD mB mNL d zX7_cell [mR 50 8 (o + 3), mI v1] M (fun r_2 M_1 => wI r_2 fun x_4 =>
  k (mI x_4) M_1)) :
  wpD mB mNL (d + 1) zX2_brookAheadOf [mR 2 0 o, mI v1] M k := (show jJ kB_X2_brookAheadOf d k 0 [mR 2 0 o, mI v1] [] M from Wt.blk (wpD_mono mB mNL d) (cI (fun x_4 M_1 h_3 => h_3) h))
theorem v_X2_isFull_0 {d : Nat} {k : mQ} {M : mM} (o : Nat)
  (h : (((M o 0) < 8 → k (mI 0) M) ∧
   (¬ (M o 0) < 8 → k (mI 1) M))) :
  wpD mB mNL (d + 1) zX2_isFull [mR 2 0 o] M k := (show jJ kB_X2_isFull d k 0 [mR 2 0 o] [] M from Wt.blk (wpD_mono mB mNL d) (And.intro (fun c_1 => Wt.blk (wpD_mono mB mNL d) (Wt.blk (wpD_mono mB mNL d) (And.intro (Or.inl rfl) (h.1 c_1)))) (fun c_1 => Wt.blk (wpD_mono mB mNL d) (And.intro (Or.inr rfl) (h.2 c_1)))))
theorem v_X2_houseSets_0 {d : Nat} {k : mQ} {M : mM} (o : Nat)
  (h : k (mI (1 <<< ((M o 0) &&& 31))) M) :
  wpD mB mNL (d + 1) zX2_houseSets [mR 2 0 o] M k := (show jJ kB_X2_houseSets d k 0 [mR 2 0 o] [] M from Wt.blk (wpD_mono mB mNL d) (h))
theorem v_X2_brookSets_0 {d : Nat} {k : mQ} {M : mM} (o : Nat)
  (h : k (mI (1 <<< ((M o 1) &&& 31))) M) :
  wpD mB mNL (d + 1) zX2_brookSets [mR 2 0 o] M k := (show jJ kB_X2_brookSets d k 0 [mR 2 0 o] [] M from Wt.blk (wpD_mono mB mNL d) (h))
theorem v_X2_pipeBits_0 {d : Nat} {k : mQ} {M : mM} (o : Nat)
  (h : jJ kB_X2_pipeBits d k 1 [mR 2 0 o, mI 0, mI 0] [] M) :
  wpD mB mNL (d + 1) zX2_pipeBits [mR 2 0 o] M k := (show jJ kB_X2_pipeBits d k 0 [mR 2 0 o, none, none] [] M from Wt.blk (wpD_mono mB mNL d) (h))
theorem v_X2_pipeBits_1 {d : Nat} {k : mQ} {M : mM} (o : Nat) (v1 : Int32) (v2 : Int32)
  (h : (((M o 0) ≤ v2 → k (mI v1) M) ∧
   (¬ (M o 0) ≤ v2 → wpD mB mNL d zX2_lossAheadOf [mR 2 0 o, mI v2] M (fun r_2 M_1 => wI r_2 fun x_4 =>
    ((x_4 ≤ 0 → jJ kB_X2_pipeBits d k 1 [mR 2 0 o, mI v1, mI (v2 + 1)] [] M_1) ∧
       (¬ x_4 ≤ 0 → jJ kB_X2_pipeBits d k 1 [mR 2 0 o, mI (v1 ||| (1 <<< (v2 &&& 31))), mI (v2 + 1)] [] M_1)))))) :
  jJ kB_X2_pipeBits d k 1 [mR 2 0 o, mI v1, mI v2] [] M := Wt.blk (wpD_mono mB mNL d) (And.intro (fun c_6 => Wt.blk (wpD_mono mB mNL d) ((h.1 c_6))) (fun c_6 => cI (fun x_4 M_1 h_3 => And.intro (fun c_5 => Wt.blk (wpD_mono mB mNL d) ((h_3.1 c_5))) (fun c_5 => Wt.blk (wpD_mono mB mNL d) ((h_3.2 c_5)))) (h.2 c_6)))
theorem v_X2_clear_0 {d : Nat} {k : mQ} {M : mM} (o : Nat)
  (h : k none (up (up M o 0 0) o 1 0)) :
  wpD mB mNL (d + 1) zX2_clear [mR 2 0 o] M k := (show jJ kB_X2_clear d k 0 [mR 2 0 o] [] M from Wt.blk (wpD_mono mB mNL d) (h))
theorem v_X2_addHouse_0 {d : Nat} {k : mQ} {M : mM} (o : Nat) (v1 : Int32) (v2 : Int32) (v3 : Int32)
  (h : wpD mB mNL d zX2_isFull [mR 2 0 o] M (fun r_2 M_1 => wI r_2 fun x_4 =>
  ((x_4 = 0 → wpD mB mNL d zX7_setCell [mR 50 8 (o + 1), mI (M_1 o 0), mI v1] M_1 (fun r_6 M_5 => wV r_6 (
      wpD mB mNL d zX7_setCell [mR 50 8 (o + 2), mI (M_5 o 0), mI v2] M_5 (fun r_9 M_8 => wV r_9 (
        ((v3 = 0 → jJ kB_X2_addHouse d k 3 [mR 2 0 o, mI v1, mI v2, mI v3] [mI (-6), mI (M_8 o 0), mR 50 8 (o + 3)] M_8) ∧
           (¬ v3 = 0 → jJ kB_X2_addHouse d k 3 [mR 2 0 o, mI v1, mI v2, mI v3] [mI (M_8 o 1), mI (M_8 o 0), mR 50 8 (o + 3)] M_8))))))) ∧
     (¬ x_4 = 0 → k none M_1)))) :
  wpD mB mNL (d + 1) zX2_addHouse [mR 2 0 o, mI v1, mI v2, mI v3] M k := (show jJ kB_X2_addHouse d k 0 [mR 2 0 o, mI v1, mI v2, mI v3] [] M from Wt.blk (wpD_mono mB mNL d) (cI (fun x_4 M_1 h_3 => And.intro (fun c_12 => Wt.blk (wpD_mono mB mNL d) (cV (fun M_5 h_7 => cV (fun M_8 h_10 => And.intro (fun c_11 => Wt.blk (wpD_mono mB mNL d) ((h_10.1 c_11))) (fun c_11 => (h_10.2 c_11))) h_7) (h_3.1 c_12))) (fun c_12 => (h_3.2 c_12))) h))
theorem v_X2_addHouse_3 {d : Nat} {k : mQ} {M : mM} (o : Nat) (v1 : Int32) (v2 : Int32) (v3 : Int32) (s1 : Int32) (s2 : Int32)
  (h : wpD mB mNL d zX7_setCell [mR 50 8 (o + 3), mI s1, mI s2] M (fun r_14 M_13 => wV r_14 (
  ((v3 = 0 → k none (up M_13 o 0 ((M_13 o 0) + 1))) ∧
     (¬ v3 = 0 → k none (up (up M_13 o 0 ((M_13 o 0) + 1)) o 1 (((up M_13 o 0 ((M_13 o 0) + 1)) o 1) + 1))))))) :
  jJ kB_X2_addHouse d k 3 [mR 2 0 o, mI v1, mI v2, mI v3] [mI s2, mI s1, mR 50 8 (o + 3)] M := Wt.blk (wpD_mono mB mNL d) (cV (fun M_13 h_15 => And.intro (fun c_16 => Wt.blk (wpD_mono mB mNL d) ((h_15.1 c_16))) (fun c_16 => Wt.blk (wpD_mono mB mNL d) ((h_15.2 c_16)))) h)
theorem v_X2_insertHouse_0 {d : Nat} {k : mQ} {M : mM} (o : Nat) (v1 : Int32) (v2 : Int32)
  (h : wpD mB mNL d zX2_isFull [mR 2 0 o] M (fun r_2 M_1 => wI r_2 fun x_4 =>
  ((x_4 = 0 → jJ kB_X2_insertHouse d k 2 [mR 2 0 o, mI v1, mI v2, mI (M_1 o 0)] [] M_1) ∧
     (¬ x_4 = 0 → k none M_1)))) :
  wpD mB mNL (d + 1) zX2_insertHouse [mR 2 0 o, mI v1, mI v2] M k := (show jJ kB_X2_insertHouse d k 0 [mR 2 0 o, mI v1, mI v2, none] [] M from Wt.blk (wpD_mono mB mNL d) (cI (fun x_4 M_1 h_3 => And.intro (fun c_5 => Wt.blk (wpD_mono mB mNL d) ((h_3.1 c_5))) (fun c_5 => (h_3.2 c_5))) h))
theorem v_X2_insertHouse_2 {d : Nat} {k : mQ} {M : mM} (o : Nat) (v1 : Int32) (v2 : Int32) (v3 : Int32)
  (h : ((v3 ≤ v2 → wpD mB mNL d zX7_setCell [mR 50 8 (o + 1), mI v2, mI v1] M (fun r_7 M_6 => wV r_7 (
    wpD mB mNL d zX7_setCell [mR 50 8 (o + 2), mI v2, mI 0] M_6 (fun r_10 M_9 => wV r_10 (
      wpD mB mNL d zX7_setCell [mR 50 8 (o + 3), mI v2, mI (-6)] M_9 (fun r_13 M_12 => wV r_13 (
        k none (up M_12 o 0 ((M_12 o 0) + 1))))))))) ∧
   (¬ v3 ≤ v2 → wpD mB mNL d zX7_cell [mR 50 8 (o + 1), mI (v3 - 1)] M (fun r_16 M_15 => wI r_16 fun x_18 =>
    wpD mB mNL d zX7_setCell [mR 50 8 (o + 1), mI v3, mI x_18] M_15 (fun r_20 M_19 => wV r_20 (
      wpD mB mNL d zX7_cell [mR 50 8 (o + 2), mI (v3 - 1)] M_19 (fun r_23 M_22 => wI r_23 fun x_25 =>
        wpD mB mNL d zX7_setCell [mR 50 8 (o + 2), mI v3, mI x_25] M_22 (fun r_27 M_26 => wV r_27 (
          wpD mB mNL d zX7_cell [mR 50 8 (o + 3), mI (v3 - 1)] M_26 (fun r_30 M_29 => wI r_30 fun x_32 =>
            wpD mB mNL d zX7_setCell [mR 50 8 (o + 3), mI v3, mI x_32] M_29 (fun r_34 M_33 => wV r_34 (
              jJ kB_X2_insertHouse d k 2 [mR 2 0 o, mI v1, mI v2, mI (v3 + (-1))] [] M_33)))))))))))) :
  jJ kB_X2_insertHouse d k 2 [mR 2 0 o, mI v1, mI v2, mI v3] [] M := Wt.blk (wpD_mono mB mNL d) (And.intro (fun c_36 => Wt.blk (wpD_mono mB mNL d) (cV (fun M_6 h_8 => cV (fun M_9 h_11 => cV (fun M_12 h_14 => h_14) h_11) h_8) (h.1 c_36))) (fun c_36 => cI (fun x_18 M_15 h_17 => cV (fun M_19 h_21 => cI (fun x_25 M_22 h_24 => cV (fun M_26 h_28 => cI (fun x_32 M_29 h_31 => cV (fun M_33 h_35 => h_35) h_31) h_28) h_24) h_21) h_17) (h.2 c_36)))
theorem v_X2_coverPipes_0 {d : Nat} {k : mQ} {M : mM} (o : Nat) (v1 : Int32)
  (h : jJ kB_X2_coverPipes d k 1 [mR 2 0 o, mI v1, mI 0] [] M) :
  wpD mB mNL (d + 1) zX2_coverPipes [mR 2 0 o, mI v1] M k := (show jJ kB_X2_coverPipes d k 0 [mR 2 0 o, mI v1, none] [] M from Wt.blk (wpD_mono mB mNL d) (h))
theorem v_X2_coverPipes_1 {d : Nat} {k : mQ} {M : mM} (o : Nat) (v1 : Int32) (v2 : Int32)
  (h : (((M o 0) ≤ v2 → k none M) ∧
   (¬ (M o 0) ≤ v2 → wpD mB mNL d zX7_hasBit [mI v1, mI v2] M (fun r_2 M_1 => wI r_2 fun x_4 =>
    ((x_4 = 0 → jJ kB_X2_coverPipes d k 1 [mR 2 0 o, mI v1, mI (v2 + 1)] [] M_1) ∧
       (¬ x_4 = 0 → wpD mB mNL d zX7_setCell [mR 50 8 (o + 2), mI v2, mI 0] M_1 (fun r_6 M_5 => wV r_6 (
        jJ kB_X2_coverPipes d k 1 [mR 2 0 o, mI v1, mI (v2 + 1)] [] M_5)))))))) :
  jJ kB_X2_coverPipes d k 1 [mR 2 0 o, mI v1, mI v2] [] M := Wt.blk (wpD_mono mB mNL d) (And.intro (fun c_9 => Wt.blk (wpD_mono mB mNL d) ((h.1 c_9))) (fun c_9 => cI (fun x_4 M_1 h_3 => And.intro (fun c_8 => Wt.blk (wpD_mono mB mNL d) ((h_3.1 c_8))) (fun c_8 => cV (fun M_5 h_7 => Wt.blk (wpD_mono mB mNL d) (h_7)) (h_3.2 c_8))) (h.2 c_9)))
theorem v_X2_copyOf_0 {d : Nat} {k : mQ} {M : mM} (o : Nat) (o1 : Nat)
  (h : wpD mB mNL d zX7_copyRow [mR 50 8 (o1 + 1), mR 50 8 (o + 1)] (up (up M o 0 (M o1 0)) o 1 ((up M o 0 (M o1 0)) o1 1)) (fun r_2 M_1 => wV r_2 (
  wpD mB mNL d zX7_copyRow [mR 50 8 (o1 + 2), mR 50 8 (o + 2)] M_1 (fun r_5 M_4 => wV r_5 (
    wpD mB mNL d zX7_copyRow [mR 50 8 (o1 + 3), mR 50 8 (o + 3)] M_4 (fun r_8 M_7 => wV r_8 (
      k none M_7))))))) :
  wpD mB mNL (d + 1) zX2_copyOf [mR 2 0 o, mR 2 0 o1] M k := (show jJ kB_X2_copyOf d k 0 [mR 2 0 o, mR 2 0 o1] [] M from Wt.blk (wpD_mono mB mNL d) (cV (fun M_1 h_3 => cV (fun M_4 h_6 => cV (fun M_7 h_9 => h_9) h_6) h_3) h))
theorem v_X3_search_0 {d : Nat} {k : mQ} {M : mM} (v1 : Int32)
  (h : wpD mB mNL d zX6_springValue [mR 6 0 35, mI 0] (up (up M 32 4 v1) 32 0 (-6)) (fun r_2 M_1 => wI r_2 fun x_4 =>
  wpD mB mNL d zX6_springValue [mR 6 0 35, mI 1] M_1 (fun r_6 M_5 => wI r_6 fun x_8 =>
    wpD mB mNL d zX3_descend [mR 3 0 32, mI 0, mI 0, mI (x_4 * x_8), mI 0] M_5 (fun r_10 M_9 => wV r_10 (
      k none M_9))))) :
  wpD mB mNL (d + 1) zX3_search [mR 3 0 32, mI v1] M k := (show jJ kB_X3_search d k 0 [mR 3 0 32, mI v1] [] M from Wt.blk (wpD_mono mB mNL d) (cI (fun x_4 M_1 h_3 => cI (fun x_8 M_5 h_7 => cV (fun M_9 h_11 => h_11) h_7) h_3) h))
theorem v_X3_worthLeft_0 {d : Nat} {k : mQ} {M : mM} (v1 : Int32)
  (h : jJ kB_X3_worthLeft d k 1 [mR 3 0 32, mI v1, mI 0, mI 0, none] [] M) :
  wpD mB mNL (d + 1) zX3_worthLeft [mR 3 0 32, mI v1] M k := (show jJ kB_X3_worthLeft d k 0 [mR 3 0 32, mI v1, none, none, none] [] M from Wt.blk (wpD_mono mB mNL d) (h))
theorem v_X3_worthLeft_1 {d : Nat} {k : mQ} {M : mM} (v1 : Int32) (v2 : Int32) (v3 : Int32) (u4 : mV)
  (h : (((M 38 0) ≤ v3 → k (mI v2) M) ∧
   (¬ (M 38 0) ≤ v3 → wpD mB mNL d zX2_kindOf [mR 2 0 38, mI v3] M (fun r_2 M_1 => wI r_2 fun x_4 =>
    wpD mB mNL d zX7_hasBit [mI v1, mI v3] M_1 (fun r_6 M_5 => wI r_6 fun x_8 =>
      ((¬ x_8 = 0 → jJ kB_X3_worthLeft d k 1 [mR 3 0 32, mI v1, mI v2, mI (v3 + 1), mI x_4] [] M_5) ∧
         (x_8 = 0 → wpD mB mNL d zX6_isWanting [mR 6 0 35, mI x_4, mI (M_5 32 4)] M_5 (fun r_10 M_9 => wI r_10 fun x_12 =>
          ((x_12 = 0 → jJ kB_X3_worthLeft d k 1 [mR 3 0 32, mI v1, mI v2, mI (v3 + 1), mI x_4] [] M_9) ∧
             (¬ x_12 = 0 → wpD mB mNL d zX6_kindValue [mR 6 0 35, mI 3, mI x_4] M_9 (fun r_14 M_13 => wI r_14 fun x_16 =>
              jJ kB_X3_worthLeft d k 1 [mR 3 0 32, mI v1, mI (v2 + x_16), mI (v3 + 1), mI x_4] [] M_13))))))))))) :
  jJ kB_X3_worthLeft d k 1 [mR 3 0 32, mI v1, mI v2, mI v3, u4] [] M := Wt.blk (wpD_mono mB mNL d) (And.intro (fun c_19 => Wt.blk (wpD_mono mB mNL d) ((h.1 c_19))) (fun c_19 => cI (fun x_4 M_1 h_3 => cI (fun x_8 M_5 h_7 => And.intro (fun c_18 => Wt.blk (wpD_mono mB mNL d) ((h_7.1 c_18))) (fun c_18 => cI (fun x_12 M_9 h_11 => And.intro (fun c_17 => Wt.blk (wpD_mono mB mNL d) ((h_11.1 c_17))) (fun c_17 => cI (fun x_16 M_13 h_15 => Wt.blk (wpD_mono mB mNL d) (h_15)) (h_11.2 c_17))) (h_7.2 c_18))) h_3) (h.2 c_19)))
theorem v_X3_descend_0 {d : Nat} {k : mQ} {M : mM} (v1 : Int32) (v2 : Int32) (v3 : Int32) (v4 : Int32)
  (h : wpD mB mNL d zX3_worthLeft [mR 3 0 32, mI v2] M (fun r_2 M_1 => wI r_2 fun x_4 =>
  (((M_1 32 0) < (v4 + x_4) → (((M_1 38 0) ≤ v1 → jJ kB_X3_descend d k 2 [mR 3 0 32, mI v1, mI v2, mI v3, mI v4, mR 6 0 35, none, none, none, none, none] [] M_1) ∧
       (¬ (M_1 38 0) ≤ v1 → ((v1 < 7 → wpD mB mNL d zX6_springValue [mR 6 0 35, mI 0] M_1 (fun r_6 M_5 => wI r_6 fun x_8 =>
          wpD mB mNL d zX2_lossAheadOf [mR 2 0 38, mI v1] M_5 (fun r_10 M_9 => wI r_10 fun x_12 =>
            wpD mB mNL d zX6_heatBehindPipe [mR 6 0 35, mI x_12, mI x_8, mI v3] M_9 (fun r_14 M_13 => wI r_14 fun x_16 =>
              jJ kB_X3_descend d k 4 [mR 3 0 32, mI v1, mI v2, mI v3, mI v4, mR 6 0 35, mI x_8, mI x_16, mI 0, none, none] [] M_13)))) ∧
         (¬ v1 < 7 → jJ kB_X3_descend d k 2 [mR 3 0 32, mI v1, mI v2, mI v3, mI v4, mR 6 0 35, none, none, none, none, none] [] M_1))))) ∧
     (¬ (M_1 32 0) < (v4 + x_4) → k none M_1)))) :
  wpD mB mNL (d + 1) zX3_descend [mR 3 0 32, mI v1, mI v2, mI v3, mI v4] M k := (show jJ kB_X3_descend d k 0 [mR 3 0 32, mI v1, mI v2, mI v3, mI v4, none, none, none, none, none, none] [] M from Wt.blk (wpD_mono mB mNL d) (cI (fun x_4 M_1 h_3 => And.intro (fun c_19 => Wt.blk (wpD_mono mB mNL d) (And.intro (fun c_18 => ((h_3.1 c_19).1 c_18)) (fun c_18 => And.intro (fun c_17 => Wt.blk (wpD_mono mB mNL d) (cI (fun x_8 M_5 h_7 => cI (fun x_12 M_9 h_11 => cI (fun x_16 M_13 h_15 => h_15) h_11) h_7) (((h_3.1 c_19).2 c_18).1 c_17))) (fun c_17 => (((h_3.1 c_19).2 c_18).2 c_17))))) (fun c_19 => (h_3.2 c_19))) h))
theorem v_X3_descend_2 {d : Nat} {k : mQ} {M : mM} (v1 : Int32) (v2 : Int32) (v3 : Int32) (v4 : Int32) (u6 : mV) (u7 : mV) (u8 : mV) (u9 : mV) (u10 : mV)
  (h : wpD mB mNL d zX7_copyRow [mR 50 7 34, mR 50 7 33] (up M 32 0 v4) (fun r_21 M_20 => wV r_21 (
  k none M_20))) :
  jJ kB_X3_descend d k 2 [mR 3 0 32, mI v1, mI v2, mI v3, mI v4, mR 6 0 35, u6, u7, u8, u9, u10] [] M := Wt.blk (wpD_mono mB mNL d) (cV (fun M_20 h_22 => h_22) h)
theorem v_X3_descend_4 {d : Nat} {k : mQ} {M : mM} (v1 : Int32) (v2 : Int32) (v3 : Int32) (v4 : Int32) (v6 : Int32) (v7 : Int32) (v8 : Int32) (u9 : mV) (u10 : mV)
  (h : (((M 38 0) ≤ v8 → k none M) ∧
   (¬ (M 38 0) ≤ v8 → wpD mB mNL d zX2_kindOf [mR 2 0 38, mI v8] M (fun r_24 M_23 => wI r_24 fun x_26 =>
    wpD mB mNL d zX7_hasBit [mI v2, mI v8] M_23 (fun r_28 M_27 => wI r_28 fun x_30 =>
      ((¬ x_30 = 0 → jJ kB_X3_descend d k 4 [mR 3 0 32, mI v1, mI v2, mI v3, mI v4, mR 6 0 35, mI v6, mI v7, mI (v8 + 1), mI x_26, u10] [] M_27) ∧
         (x_30 = 0 → wpD mB mNL d zX6_isHarmed [mR 6 0 35, mI x_26, mI v6, mI v7] M_27 (fun r_32 M_31 => wI r_32 fun x_34 =>
          ((¬ x_34 = 0 → jJ kB_X3_descend d k 4 [mR 3 0 32, mI v1, mI v2, mI v3, mI v4, mR 6 0 35, mI v6, mI v7, mI (v8 + 1), mI x_26, u10] [] M_31) ∧
             (x_34 = 0 → wpD mB mNL d zX6_isServed [mR 6 0 35, mI x_26, mI (M_31 32 4), mI v6, mI v7] M_31 (fun r_36 M_35 => wI r_36 fun x_38 =>
              wpD mB mNL d zX7_setCell [mR 50 7 34, mI v1, mI v8] M_35 (fun r_40 M_39 => wV r_40 (
                ((x_38 = 0 → jJ kB_X3_descend d k 6 [mR 3 0 32, mI v1, mI v2, mI v3, mI v4, mR 6 0 35, mI v6, mI v7, mI v8, mI x_26, mI x_38] [mI v7, mI (v2 ||| (1 <<< (v8 &&& 31))), mI (v1 + 1), mR 3 0 32] M_39) ∧
                   (¬ x_38 = 0 → wpD mB mNL d zX6_kindValue [mR 6 0 35, mI 2, mI x_26] M_39 (fun r_43 M_42 => wI r_43 fun x_45 =>
                    jJ kB_X3_descend d k 6 [mR 3 0 32, mI v1, mI v2, mI v3, mI v4, mR 6 0 35, mI v6, mI v7, mI v8, mI x_26, mI x_38] [mI (v7 - x_45), mI (v2 ||| (1 <<< (v8 &&& 31))), mI (v1 + 1), mR 3 0 32] M_42)))))))))))))))) :
  jJ kB_X3_descend d k 4 [mR 3 0 32, mI v1, mI v2, mI v3, mI v4, mR 6 0 35, mI v6, mI v7, mI v8, u9, u10] [] M := Wt.blk (wpD_mono mB mNL d) (And.intro (fun c_49 => Wt.blk (wpD_mono mB mNL d) ((h.1 c_49))) (fun c_49 => cI (fun x_26 M_23 h_25 => cI (fun x_30 M_27 h_29 => And.intro (fun c_48 => Wt.blk (wpD_mono mB mNL d) ((h_29.1 c_48))) (fun c_48 => cI (fun x_34 M_31 h_33 => And.intro (fun c_47 => Wt.blk (wpD_mono mB mNL d) ((h_33.1 c_47))) (fun c_47 => cI (fun x_38 M_35 h_37 => cV (fun M_39 h_41 => And.intro (fun c_46 => Wt.blk (wpD_mono mB mNL d) ((h_41.1 c_46))) (fun c_46 => cI (fun x_45 M_42 h_44 => h_44) (h_41.2 c_46))) h_37) (h_33.2 c_47))) (h_29.2 c_48))) h_25) (h.2 c_49)))
theorem v_X3_descend_6 {d : Nat} {k : mQ} {M : mM} (v1 : Int32) (v2 : Int32) (v3 : Int32) (v4 : Int32) (v6 : Int32) (v7 : Int32) (v8 : Int32) (v9 : Int32) (v10 : Int32) (s1 : Int32) (s2 : Int32) (s3 : Int32)
  (h : ((v10 = 0 → jJ kB_X3_descend d k 8 [mR 3 0 32, mI v1, mI v2, mI v3, mI v4, mR 6 0 35, mI v6, mI v7, mI v8, mI v9, mI v10] [mI v4, mI s3, mI s2, mI s1, mR 3 0 32] M) ∧
   (¬ v10 = 0 → wpD mB mNL d zX6_kindValue [mR 6 0 35, mI 3, mI v9] M (fun r_51 M_50 => wI r_51 fun x_53 =>
    jJ kB_X3_descend d k 8 [mR 3 0 32, mI v1, mI v2, mI v3, mI v4, mR 6 0 35, mI v6, mI v7, mI v8, mI v9, mI v10] [mI (v4 + x_53), mI s3, mI s2, mI s1, mR 3 0 32] M_50)))) :
  jJ kB_X3_descend d k 6 [mR 3 0 32, mI v1, mI v2, mI v3, mI v4, mR 6 0 35, mI v6, mI v7, mI v8, mI v9, mI v10] [mI s3, mI s2, mI s1, mR 3 0 32] M := Wt.blk (wpD_mono mB mNL d) (And.intro (fun c_54 => Wt.blk (wpD_mono mB mNL d) ((h.1 c_54))) (fun c_54 => cI (fun x_53 M_50 h_52 => h_52) (h.2 c_54)))
theorem v_X3_descend_8 {d : Nat} {k : mQ} {M : mM} (v1 : Int32) (v2 : Int32) (v3 : Int32) (v4 : Int32) (v6 : Int32) (v7 : Int32) (v8 : Int32) (v9 : Int32) (v10 : Int32) (s1 : Int32) (s2 : Int32) (s3 : Int32) (s4 : Int32)
  (h : wpD mB mNL d zX3_descend [mR 3 0 32, mI s1, mI s2, mI s3, mI s4] M (fun r_56 M_55 => wV r_56 (
  jJ kB_X3_descend d k 4 [mR 3 0 32, mI v1, mI v2, mI v3, mI v4, mR 6 0 35, mI v6, mI v7, mI (v8 + 1), mI v9, mI v10] [] M_55))) :
  jJ kB_X3_descend d k 8 [mR 3 0 32, mI v1, mI v2, mI v3, mI v4, mR 6 0 35, mI v6, mI v7, mI v8, mI v9, mI v10] [mI s4, mI s3, mI s2, mI s1, mR 3 0 32] M := Wt.blk (wpD_mono mB mNL d) (cV (fun M_55 h_57 => Wt.blk (wpD_mono mB mNL d) (h_57)) h)
theorem v_X4_addSign_0 {d : Nat} {k : mQ} {M : mM} (v1 : Int32)
  (h : (((M 15 0) < 48 → wpD mB mNL d zX7_setCell [mR 50 48 20, mI (M 15 0), mI v1] M (fun r_2 M_1 => wV r_2 (
    k (mI 1) (up M_1 15 0 ((M_1 15 0) + 1))))) ∧
   (¬ (M 15 0) < 48 → k (mI 0) M))) :
  wpD mB mNL (d + 1) zX4_addSign [mR 4 0 15, mI v1] M k := (show jJ kB_X4_addSign d k 0 [mR 4 0 15, mI v1] [] M from Wt.blk (wpD_mono mB mNL d) (And.intro (fun c_4 => Wt.blk (wpD_mono mB mNL d) (cV (fun M_1 h_3 => And.intro (Or.inr rfl) h_3) (h.1 c_4))) (fun c_4 => And.intro (Or.inl rfl) (h.2 c_4))))
theorem v_X4_clear_0 {d : Nat} {k : mQ} {M : mM} 
  (h : k (mI (M 15 0)) (up M 15 0 0)) :
  wpD mB mNL (d + 1) zX4_clear [mR 4 0 15] M k := (show jJ kB_X4_clear d k 0 [mR 4 0 15, none] [] M from Wt.blk (wpD_mono mB mNL d) (h))
theorem v_X4_brooksIn_0 {d : Nat} {k : mQ} {M : mM} (v1 : Int32)
  (h : wpD mB mNL d zX7_cell [mR 50 6 21, mI v1] M (fun r_2 M_1 => wI r_2 fun x_4 =>
  k (mI x_4) M_1)) :
  wpD mB mNL (d + 1) zX4_brooksIn [mR 4 0 15, mI v1] M k := (show jJ kB_X4_brooksIn d k 0 [mR 4 0 15, mI v1] [] M from Wt.blk (wpD_mono mB mNL d) (cI (fun x_4 M_1 h_3 => h_3) h))
theorem v_X4_drawsIn_0 {d : Nat} {k : mQ} {M : mM} (v1 : Int32)
  (h : wpD mB mNL d zX7_cell [mR 50 6 22, mI v1] M (fun r_2 M_1 => wI r_2 fun x_4 =>
  k (mI x_4) M_1)) :
  wpD mB mNL (d + 1) zX4_drawsIn [mR 4 0 15, mI v1] M k := (show jJ kB_X4_drawsIn d k 0 [mR 4 0 15, mI v1] [] M from Wt.blk (wpD_mono mB mNL d) (cI (fun x_4 M_1 h_3 => h_3) h))
theorem v_X4_readLane_0 {d : Nat} {k : mQ} {M : mM} 
  (h : wpD mB mNL d zX2_clear [mR 2 0 16] M (fun r_2 M_1 => wV r_2 (
  jJ kB_X4_readLane d k 1 [mR 4 0 15, mI 0, mI 0, mI 0, none, none] [] M_1))) :
  wpD mB mNL (d + 1) zX4_readLane [mR 4 0 15] M k := (show jJ kB_X4_readLane d k 0 [mR 4 0 15, none, none, none, none, none] [] M from Wt.blk (wpD_mono mB mNL d) (cV (fun M_1 h_3 => h_3) h))
theorem v_X4_readLane_1 {d : Nat} {k : mQ} {M : mM} (v1 : Int32) (v2 : Int32) (v3 : Int32) (u4 : mV) (u5 : mV)
  (h : (((M 15 0) ≤ v3 → (((M 16 0) = 0 → k (mI (M 15 0)) M) ∧
     (¬ (M 16 0) = 0 → ((0 < v1 → k (mI (M 15 0)) M) ∧
       (¬ 0 < v1 → ((v2 = 0 → k (mI (-6)) M) ∧
         (¬ v2 = 0 → k (mI (M 15 0)) M))))))) ∧
   (¬ (M 15 0) ≤ v3 → wpD mB mNL d zX7_cell [mR 50 48 20, mI v3] M (fun r_8 M_7 => wI r_8 fun x_10 =>
    wpD mB mNL d zX4_kindBySign [mI x_10] M_7 (fun r_12 M_11 => wI r_12 fun x_14 =>
      wpD mB mNL d zX2_isFull [mR 2 0 16] M_11 (fun r_16 M_15 => wI r_16 fun x_18 =>
        ((x_18 = 0 → ((x_14 = (-6) → ((x_10 < 49 → jJ kB_X4_readLane d k 4 [mR 4 0 15, mI v1, mI v2, mI v3, mI x_10, mI x_14] [] M_15) ∧
               (¬ x_10 < 49 → ((57 < x_10 → jJ kB_X4_readLane d k 4 [mR 4 0 15, mI v1, mI v2, mI v3, mI x_10, mI x_14] [] M_15) ∧
                 (¬ 57 < x_10 → ((¬ v1 = 0 → jJ kB_X4_readLane d k 4 [mR 4 0 15, mI v1, mI v2, mI v3, mI x_10, mI x_14] [] M_15) ∧
                   (v1 = 0 → ((¬ v2 = 0 → jJ kB_X4_readLane d k 4 [mR 4 0 15, mI v1, mI v2, mI v3, mI x_10, mI x_14] [] M_15) ∧
                     (v2 = 0 → jJ kB_X4_readLane d k 1 [mR 4 0 15, mI (x_10 - 48), mI v2, mI (v3 + 1), mI x_10, mI x_14] [] M_15))))))))) ∧
             (¬ x_14 = (-6) → wpD mB mNL d zX2_addHouse [mR 2 0 16, mI x_14, mI v1, mI v2] M_15 (fun r_24 M_23 => wV r_24 (
              jJ kB_X4_readLane d k 1 [mR 4 0 15, mI 0, mI 0, mI (v3 + 1), mI x_10, mI x_14] [] M_23))))) ∧
           (¬ x_18 = 0 → k (mI v3) M_15)))))))) :
  jJ kB_X4_readLane d k 1 [mR 4 0 15, mI v1, mI v2, mI v3, u4, u5] [] M := Wt.blk (wpD_mono mB mNL d) (And.intro (fun c_28 => Wt.blk (wpD_mono mB mNL d) (And.intro (fun c_6 => Wt.blk (wpD_mono mB mNL d) (Wt.blk (wpD_mono mB mNL d) (((h.1 c_28).1 c_6)))) (fun c_6 => And.intro (fun c_5 => Wt.blk (wpD_mono mB mNL d) (Wt.blk (wpD_mono mB mNL d) ((((h.1 c_28).2 c_6).1 c_5)))) (fun c_5 => And.intro (fun c_4 => Wt.blk (wpD_mono mB mNL d) (Wt.blk (wpD_mono mB mNL d) (((((h.1 c_28).2 c_6).2 c_5).1 c_4)))) (fun c_4 => Wt.blk (wpD_mono mB mNL d) (Wt.blk (wpD_mono mB mNL d) (((((h.1 c_28).2 c_6).2 c_5).2 c_4)))))))) (fun c_28 => cI (fun x_10 M_7 h_9 => cI (fun x_14 M_11 h_13 => cI (fun x_18 M_15 h_17 => And.intro (fun c_27 => Wt.blk (wpD_mono mB mNL d) (And.intro (fun c_26 => Wt.blk (wpD_mono mB mNL d) (And.intro (fun c_22 => (((h_17.1 c_27).1 c_26).1 c_22)) (fun c_22 => And.intro (fun c_21 => ((((h_17.1 c_27).1 c_26).2 c_22).1 c_21)) (fun c_21 => And.intro (fun c_20 => (((((h_17.1 c_27).1 c_26).2 c_22).2 c_21).1 c_20)) (fun c_20 => And.intro (fun c_19 => ((((((h_17.1 c_27).1 c_26).2 c_22).2 c_21).2 c_20).1 c_19)) (fun c_19 => Wt.blk (wpD_mono mB mNL d) (((((((h_17.1 c_27).1 c_26).2 c_22).2 c_21).2 c_20).2 c_19)))))))) (fun c_26 => cV (fun M_23 h_25 => Wt.blk (wpD_mono mB mNL d) (h_25)) ((h_17.1 c_27).2 c_26)))) (fun c_27 => (h_17.2 c_27))) h_13) h_9) (h.2 c_28)))
theorem v_X4_readLane_4 {d : Nat} {k : mQ} {M : mM} (v1 : Int32) (v2 : Int32) (v3 : Int32) (v4 : Int32) (v5 : Int32)
  (h : ((¬ v4 = 42 → k (mI v3) M) ∧
   (v4 = 42 → ((¬ v2 = 0 → k (mI v3) M) ∧
     (v2 = 0 → ((4 ≤ (M 16 1) → k (mI v3) M) ∧
       (¬ 4 ≤ (M 16 1) → jJ kB_X4_readLane d k 1 [mR 4 0 15, mI v1, mI 1, mI (v3 + 1), mI v4, mI v5] [] M))))))) :
  jJ kB_X4_readLane d k 4 [mR 4 0 15, mI v1, mI v2, mI v3, mI v4, mI v5] [] M := Wt.blk (wpD_mono mB mNL d) (And.intro (fun c_31 => Wt.blk (wpD_mono mB mNL d) ((h.1 c_31))) (fun c_31 => And.intro (fun c_30 => Wt.blk (wpD_mono mB mNL d) (((h.2 c_31).1 c_30))) (fun c_30 => And.intro (fun c_29 => Wt.blk (wpD_mono mB mNL d) ((((h.2 c_31).2 c_30).1 c_29))) (fun c_29 => Wt.blk (wpD_mono mB mNL d) ((((h.2 c_31).2 c_30).2 c_29))))))
theorem v_X4_readDay_0 {d : Nat} {k : mQ} {M : mM} (o1 : Nat)
  (h : jJ kB_X4_readDay d k 1 [mR 4 0 15, mR 2 0 o1, mI 0, mI 0, mI 0, mI 0, none, none, none] [] M) :
  wpD mB mNL (d + 1) zX4_readDay [mR 4 0 15, mR 2 0 o1] M k := (show jJ kB_X4_readDay d k 0 [mR 4 0 15, mR 2 0 o1, none, none, none, none, none, none, none] [] M from Wt.blk (wpD_mono mB mNL d) (h))
theorem v_X4_readDay_1 {d : Nat} {k : mQ} {M : mM} (o1 : Nat) (v2 : Int32) (v3 : Int32) (v4 : Int32) (v5 : Int32) (u6 : mV) (u7 : mV) (u8 : mV)
  (h : (((M 15 0) ≤ v5 → wpD mB mNL d zX4_keepHour [mR 4 0 15, mI v2, mI v3, mI v4] M (fun r_2 M_1 => wV r_2 (
    ((5 ≤ v2 → k (mI (-6)) M_1) ∧
       (¬ 5 ≤ v2 → k (mI (M_1 15 0)) M_1))))) ∧
   (¬ (M 15 0) ≤ v5 → wpD mB mNL d zX7_cell [mR 50 48 20, mI v5] M (fun r_6 M_5 => wI r_6 fun x_8 =>
    ((¬ x_8 = 47 → jJ kB_X4_readDay d k 2 [mR 4 0 15, mR 2 0 o1, mI v2, mI v3, mI v4, mI v5, mI x_8, mI (x_8 - 49), mI (x_8 - 65)] [] M_5) ∧
       (x_8 = 47 → ((5 ≤ v2 → jJ kB_X4_readDay d k 2 [mR 4 0 15, mR 2 0 o1, mI v2, mI v3, mI v4, mI v5, mI x_8, mI (x_8 - 49), mI (x_8 - 65)] [] M_5) ∧
         (¬ 5 ≤ v2 → wpD mB mNL d zX4_keepHour [mR 4 0 15, mI v2, mI v3, mI v4] M_5 (fun r_10 M_9 => wV r_10 (
          jJ kB_X4_readDay d k 1 [mR 4 0 15, mR 2 0 o1, mI (v2 + 1), mI 0, mI 0, mI (v5 + 1), mI x_8, mI (x_8 - 49), mI (x_8 - 65)] [] M_9)))))))))) :
  jJ kB_X4_readDay d k 1 [mR 4 0 15, mR 2 0 o1, mI v2, mI v3, mI v4, mI v5, u6, u7, u8] [] M := Wt.blk (wpD_mono mB mNL d) (And.intro (fun c_14 => Wt.blk (wpD_mono mB mNL d) (cV (fun M_1 h_3 => And.intro (fun c_4 => Wt.blk (wpD_mono mB mNL d) (Wt.blk (wpD_mono mB mNL d) ((h_3.1 c_4)))) (fun c_4 => Wt.blk (wpD_mono mB mNL d) ((h_3.2 c_4)))) (h.1 c_14))) (fun c_14 => cI (fun x_8 M_5 h_7 => And.intro (fun c_13 => (h_7.1 c_13)) (fun c_13 => And.intro (fun c_12 => ((h_7.2 c_13).1 c_12)) (fun c_12 => cV (fun M_9 h_11 => Wt.blk (wpD_mono mB mNL d) (h_11)) ((h_7.2 c_13).2 c_12)))) (h.2 c_14)))
theorem v_X4_readDay_2 {d : Nat} {k : mQ} {M : mM} (o1 : Nat) (v2 : Int32) (v3 : Int32) (v4 : Int32) (v5 : Int32) (v6 : Int32) (v7 : Int32) (v8 : Int32)
  (h : ((v7 < 0 → jJ kB_X4_readDay d k 3 [mR 4 0 15, mR 2 0 o1, mI v2, mI v3, mI v4, mI v5, mI v6, mI v7, mI v8] [] M) ∧
   (¬ v7 < 0 → (((M o1 1) ≤ v7 → jJ kB_X4_readDay d k 3 [mR 4 0 15, mR 2 0 o1, mI v2, mI v3, mI v4, mI v5, mI v6, mI v7, mI v8] [] M) ∧
     (¬ (M o1 1) ≤ v7 → wpD mB mNL d zX7_hasBit [mI v3, mI v7] M (fun r_16 M_15 => wI r_16 fun x_18 =>
      ((¬ x_18 = 0 → jJ kB_X4_readDay d k 3 [mR 4 0 15, mR 2 0 o1, mI v2, mI v3, mI v4, mI v5, mI v6, mI v7, mI v8] [] M_15) ∧
         (x_18 = 0 → jJ kB_X4_readDay d k 1 [mR 4 0 15, mR 2 0 o1, mI v2, mI (v3 ||| (1 <<< (v7 &&& 31))), mI v4, mI (v5 + 1), mI v6, mI v7, mI v8] [] M_15)))))))) :
  jJ kB_X4_readDay d k 2 [mR 4 0 15, mR 2 0 o1, mI v2, mI v3, mI v4, mI v5, mI v6, mI v7, mI v8] [] M := Wt.blk (wpD_mono mB mNL d) (And.intro (fun c_21 => (h.1 c_21)) (fun c_21 => And.intro (fun c_20 => ((h.2 c_21).1 c_20)) (fun c_20 => cI (fun x_18 M_15 h_17 => And.intro (fun c_19 => (h_17.1 c_19)) (fun c_19 => Wt.blk (wpD_mono mB mNL d) ((h_17.2 c_19)))) ((h.2 c_21).2 c_20))))
theorem v_X4_readDay_3 {d : Nat} {k : mQ} {M : mM} (o1 : Nat) (v2 : Int32) (v3 : Int32) (v4 : Int32) (v5 : Int32) (v6 : Int32) (v7 : Int32) (v8 : Int32)
  (h : ((v8 < 0 → k (mI v5) M) ∧
   (¬ v8 < 0 → (((M o1 0) ≤ v8 → k (mI v5) M) ∧
     (¬ (M o1 0) ≤ v8 → wpD mB mNL d zX7_hasBit [mI v4, mI v8] M (fun r_23 M_22 => wI r_23 fun x_25 =>
      ((¬ x_25 = 0 → k (mI v5) M_22) ∧
         (x_25 = 0 → jJ kB_X4_readDay d k 1 [mR 4 0 15, mR 2 0 o1, mI v2, mI v3, mI (v4 ||| (1 <<< (v8 &&& 31))), mI (v5 + 1), mI v6, mI v7, mI v8] [] M_22)))))))) :
  jJ kB_X4_readDay d k 3 [mR 4 0 15, mR 2 0 o1, mI v2, mI v3, mI v4, mI v5, mI v6, mI v7, mI v8] [] M := Wt.blk (wpD_mono mB mNL d) (And.intro (fun c_28 => Wt.blk (wpD_mono mB mNL d) ((h.1 c_28))) (fun c_28 => And.intro (fun c_27 => Wt.blk (wpD_mono mB mNL d) (((h.2 c_28).1 c_27))) (fun c_27 => cI (fun x_25 M_22 h_24 => And.intro (fun c_26 => Wt.blk (wpD_mono mB mNL d) ((h_24.1 c_26))) (fun c_26 => Wt.blk (wpD_mono mB mNL d) ((h_24.2 c_26)))) ((h.2 c_28).2 c_27))))
theorem v_X4_keepHour_0 {d : Nat} {k : mQ} {M : mM} (v1 : Int32) (v2 : Int32) (v3 : Int32)
  (h : wpD mB mNL d zX7_setCell [mR 50 6 21, mI v1, mI v2] M (fun r_2 M_1 => wV r_2 (
  wpD mB mNL d zX7_setCell [mR 50 6 22, mI v1, mI v3] M_1 (fun r_5 M_4 => wV r_5 (
    k none M_4))))) :
  wpD mB mNL (d + 1) zX4_keepHour [mR 4 0 15, mI v1, mI v2, mI v3] M k := (show jJ kB_X4_keepHour d k 0 [mR 4 0 15, mI v1, mI v2, mI v3] [] M from Wt.blk (wpD_mono mB mNL d) (cV (fun M_1 h_3 => cV (fun M_4 h_6 => h_6) h_3) h))
theorem v_X4_kindBySign_0 {d : Nat} {k : mQ} {M : mM} (v0 : Int32)
  (h : jJ kB_X4_kindBySign d k 1 [mI v0, mI 0] [] M) :
  wpD mB mNL (d + 1) zX4_kindBySign [mI v0] M k := (show jJ kB_X4_kindBySign d k 0 [mI v0, none] [] M from Wt.blk (wpD_mono mB mNL d) (h))
theorem v_X4_kindBySign_1 {d : Nat} {k : mQ} {M : mM} (v0 : Int32) (v1 : Int32)
  (h : ((6 ≤ v1 → k (mI (-6)) M) ∧
   (¬ 6 ≤ v1 → wpD mB mNL d zX7_cell [mR 51 6 5, mI v1] M (fun r_2 M_1 => wI r_2 fun x_4 =>
    ((¬ x_4 = v0 → jJ kB_X4_kindBySign d k 1 [mI v0, mI (v1 + 1)] [] M_1) ∧
       (x_4 = v0 → k (mI v1) M_1)))))) :
  jJ kB_X4_kindBySign d k 1 [mI v0, mI v1] [] M := Wt.blk (wpD_mono mB mNL d) (And.intro (fun c_6 => Wt.blk (wpD_mono mB mNL d) ((h.1 c_6))) (fun c_6 => cI (fun x_4 M_1 h_3 => And.intro (fun c_5 => Wt.blk (wpD_mono mB mNL d) ((h_3.1 c_5))) (fun c_5 => (h_3.2 c_5))) (h.2 c_6)))
theorem v_X5_forgetPlans_0 {d : Nat} {k : mQ} {M : mM} 
  (h : k none (up (up (up M 26 1 (-6)) 26 2 (-6)) 26 3 0)) :
  wpD mB mNL (d + 1) zX5_forgetPlans [mR 5 0 26] M k := (show jJ kB_X5_forgetPlans d k 0 [mR 5 0 26] [] M from Wt.blk (wpD_mono mB mNL d) (h))
theorem v_X5_improve_0 {d : Nat} {k : mQ} {M : mM} (v1 : Int32)
  (h : wpD mB mNL d zX6_springValue [mR 6 0 35, mI 0] M (fun r_2 M_1 => wI r_2 fun x_4 =>
  wpD mB mNL d zX5_sumWorthBehind [mR 5 0 26] (up (up M_1 26 5 v1) 26 2 (-6)) (fun r_6 M_5 => wV r_6 (
    jJ kB_X5_improve d k 1 [mR 5 0 26, mI v1, mI (M 26 1), mI x_4, mI 0] [] M_5)))) :
  wpD mB mNL (d + 1) zX5_improve [mR 5 0 26, mI v1] M k := (show jJ kB_X5_improve d k 0 [mR 5 0 26, mI v1, none, none, none] [] M from Wt.blk (wpD_mono mB mNL d) (cI (fun x_4 M_1 h_3 => cV (fun M_5 h_7 => h_7) h_3) h))
theorem v_X5_improve_1 {d : Nat} {k : mQ} {M : mM} (v1 : Int32) (v2 : Int32) (v3 : Int32) (v4 : Int32)
  (h : wpD mB mNL d zX2_brookSets [mR 2 0 27] M (fun r_9 M_8 => wI r_9 fun x_11 =>
  ((x_11 ≤ v4 → (((M_8 26 1) ≤ v2 → k (mI 0) M_8) ∧
       (¬ (M_8 26 1) ≤ v2 → k (mI 1) M_8))) ∧
     (¬ x_11 ≤ v4 → wpD mB mNL d zX6_springValue [mR 6 0 35, mI 1] (up M_8 26 6 v4) (fun r_14 M_13 => wI r_14 fun x_16 =>
      wpD mB mNL d zX5_descend [mR 5 0 26, mI 0, mI v3, mI (v3 * x_16), mI 0, mI 0] M_13 (fun r_18 M_17 => wV r_18 (
        jJ kB_X5_improve d k 1 [mR 5 0 26, mI v1, mI v2, mI v3, mI (v4 + 1)] [] M_17))))))) :
  jJ kB_X5_improve d k 1 [mR 5 0 26, mI v1, mI v2, mI v3, mI v4] [] M := Wt.blk (wpD_mono mB mNL d) (cI (fun x_11 M_8 h_10 => And.intro (fun c_20 => Wt.blk (wpD_mono mB mNL d) (And.intro (fun c_12 => Wt.blk (wpD_mono mB mNL d) (Wt.blk (wpD_mono mB mNL d) (And.intro (Or.inl rfl) ((h_10.1 c_20).1 c_12)))) (fun c_12 => Wt.blk (wpD_mono mB mNL d) (And.intro (Or.inr rfl) ((h_10.1 c_20).2 c_12))))) (fun c_20 => cI (fun x_16 M_13 h_15 => cV (fun M_17 h_19 => h_19) h_15) (h_10.2 c_20))) h)
theorem v_X5_sumWorthBehind_0 {d : Nat} {k : mQ} {M : mM} 
  (h : wpD mB mNL d zX7_setCell [mR 50 9 31, mI (M 27 0), mI 0] M (fun r_2 M_1 => wV r_2 (
  jJ kB_X5_sumWorthBehind d k 1 [mR 5 0 26, mI 0, mI ((M_1 27 0) - 1), none] [] M_1))) :
  wpD mB mNL (d + 1) zX5_sumWorthBehind [mR 5 0 26] M k := (show jJ kB_X5_sumWorthBehind d k 0 [mR 5 0 26, none, none, none] [] M from Wt.blk (wpD_mono mB mNL d) (cV (fun M_1 h_3 => h_3) h))
theorem v_X5_sumWorthBehind_1 {d : Nat} {k : mQ} {M : mM} (v1 : Int32) (v2 : Int32) (u3 : mV)
  (h : ((v2 < 0 → k none M) ∧
   (¬ v2 < 0 → wpD mB mNL d zX2_kindOf [mR 2 0 27, mI v2] M (fun r_5 M_4 => wI r_5 fun x_7 =>
    wpD mB mNL d zX6_isWanting [mR 6 0 35, mI x_7, mI (M_4 26 5)] M_4 (fun r_9 M_8 => wI r_9 fun x_11 =>
      ((x_11 = 0 → jJ kB_X5_sumWorthBehind d k 2 [mR 5 0 26, mI v1, mI v2, mI x_7] [] M_8) ∧
         (¬ x_11 = 0 → wpD mB mNL d zX6_kindValue [mR 6 0 35, mI 3, mI x_7] M_8 (fun r_13 M_12 => wI r_13 fun x_15 =>
          jJ kB_X5_sumWorthBehind d k 2 [mR 5 0 26, mI (v1 + x_15), mI v2, mI x_7] [] M_12)))))))) :
  jJ kB_X5_sumWorthBehind d k 1 [mR 5 0 26, mI v1, mI v2, u3] [] M := Wt.blk (wpD_mono mB mNL d) (And.intro (fun c_17 => Wt.blk (wpD_mono mB mNL d) ((h.1 c_17))) (fun c_17 => cI (fun x_7 M_4 h_6 => cI (fun x_11 M_8 h_10 => And.intro (fun c_16 => (h_10.1 c_16)) (fun c_16 => cI (fun x_15 M_12 h_14 => h_14) (h_10.2 c_16))) h_6) (h.2 c_17)))
theorem v_X5_sumWorthBehind_2 {d : Nat} {k : mQ} {M : mM} (v1 : Int32) (v2 : Int32) (v3 : Int32)
  (h : wpD mB mNL d zX7_setCell [mR 50 9 31, mI v2, mI v1] M (fun r_19 M_18 => wV r_19 (
  jJ kB_X5_sumWorthBehind d k 1 [mR 5 0 26, mI v1, mI (v2 + (-1)), mI v3] [] M_18))) :
  jJ kB_X5_sumWorthBehind d k 2 [mR 5 0 26, mI v1, mI v2, mI v3] [] M := Wt.blk (wpD_mono mB mNL d) (cV (fun M_18 h_20 => h_20) h)
theorem v_X5_mayWin_0 {d : Nat} {k : mQ} {M : mM} (v1 : Int32)
  (h : (((M 26 1) < v1 → k (mI 1) M) ∧
   (¬ (M 26 1) < v1 → ((¬ v1 = (M 26 1) → k (mI 0) M) ∧
     (v1 = (M 26 1) → ((¬ (M 26 6) = (M 26 2) → k (mI 0) M) ∧
       ((M 26 6) = (M 26 2) → k (mI 1) M))))))) :
  wpD mB mNL (d + 1) zX5_mayWin [mR 5 0 26, mI v1] M k := (show jJ kB_X5_mayWin d k 0 [mR 5 0 26, mI v1] [] M from Wt.blk (wpD_mono mB mNL d) (And.intro (fun c_3 => Wt.blk (wpD_mono mB mNL d) (Wt.blk (wpD_mono mB mNL d) (And.intro (Or.inr rfl) (h.1 c_3)))) (fun c_3 => And.intro (fun c_2 => Wt.blk (wpD_mono mB mNL d) (Wt.blk (wpD_mono mB mNL d) (And.intro (Or.inl rfl) ((h.2 c_3).1 c_2)))) (fun c_2 => And.intro (fun c_1 => Wt.blk (wpD_mono mB mNL d) (Wt.blk (wpD_mono mB mNL d) (And.intro (Or.inl rfl) (((h.2 c_3).2 c_2).1 c_1)))) (fun c_1 => Wt.blk (wpD_mono mB mNL d) (Wt.blk (wpD_mono mB mNL d) (And.intro (Or.inr rfl) (((h.2 c_3).2 c_2).2 c_1))))))))
theorem v_X5_offer_0 {d : Nat} {k : mQ} {M : mM} (v1 : Int32) (v2 : Int32)
  (h : (((M 26 1) < v2 → jJ kB_X5_offer d k 1 [mR 5 0 26, mI v1, mI v2] [] M) ∧
   (¬ (M 26 1) < v2 → ((¬ v2 = (M 26 1) → k none M) ∧
     (v2 = (M 26 1) → ((¬ (M 26 6) = (M 26 2) → k none M) ∧
       ((M 26 6) = (M 26 2) → (((M 26 3) ≤ v1 → k none M) ∧
         (¬ (M 26 3) ≤ v1 → jJ kB_X5_offer d k 1 [mR 5 0 26, mI v1, mI v2] [] M))))))))) :
  wpD mB mNL (d + 1) zX5_offer [mR 5 0 26, mI v1, mI v2] M k := (show jJ kB_X5_offer d k 0 [mR 5 0 26, mI v1, mI v2] [] M from Wt.blk (wpD_mono mB mNL d) (And.intro (fun c_4 => (h.1 c_4)) (fun c_4 => And.intro (fun c_3 => Wt.blk (wpD_mono mB mNL d) (((h.2 c_4).1 c_3))) (fun c_3 => And.intro (fun c_2 => Wt.blk (wpD_mono mB mNL d) ((((h.2 c_4).2 c_3).1 c_2))) (fun c_2 => And.intro (fun c_1 => Wt.blk (wpD_mono mB mNL d) (((((h.2 c_4).2 c_3).2 c_2).1 c_1))) (fun c_1 => ((((h.2 c_4).2 c_3).2 c_2).2 c_1)))))))
theorem v_X5_offer_1 {d : Nat} {k : mQ} {M : mM} (v1 : Int32) (v2 : Int32)
  (h : k none (up (up (up M 26 1 v2) 26 2 (M 26 6)) 26 3 v1)) :
  jJ kB_X5_offer d k 1 [mR 5 0 26, mI v1, mI v2] [] M := Wt.blk (wpD_mono mB mNL d) (Wt.blk (wpD_mono mB mNL d) (h))
theorem v_X5_descend_0 {d : Nat} {k : mQ} {M : mM} (v1 : Int32) (v2 : Int32) (v3 : Int32) (v4 : Int32) (v5 : Int32)
  (h : (((M 27 0) ≤ v1 → jJ kB_X5_descend d k 1 [mR 5 0 26, mI v1, mI v2, mI v3, mI v4, mI v5, none, none, none, none] [] M) ∧
   (¬ (M 27 0) ≤ v1 → ((v1 < 8 → wpD mB mNL d zX7_cell [mR 50 9 31, mI v1] M (fun r_2 M_1 => wI r_2 fun x_4 =>
      wpD mB mNL d zX5_mayWin [mR 5 0 26, mI (v5 + x_4)] M_1 (fun r_6 M_5 => wI r_6 fun x_8 =>
        ((¬ x_8 = 0 → wpD mB mNL d zX2_lossAheadOf [mR 2 0 27, mI v1] M_5 (fun r_10 M_9 => wI r_10 fun x_12 =>
            wpD mB mNL d zX6_heatBehindPipe [mR 6 0 35, mI x_12, mI v2, mI v3] M_9 (fun r_14 M_13 => wI r_14 fun x_16 =>
              wpD mB mNL d zX2_brookAheadOf [mR 2 0 27, mI v1] M_13 (fun r_18 M_17 => wI r_18 fun x_20 =>
                wpD mB mNL d zX7_hasBit [mI (M_13 26 6), mI x_20] M_17 (fun r_22 M_21 => wI r_22 fun x_24 =>
                  ((x_24 = 0 → jJ kB_X5_descend d k 4 [mR 5 0 26, mI v1, mI v2, mI v3, mI v4, mI v5, mR 6 0 35, mI v2, mI x_16, none] [] M_21) ∧
                     (¬ x_24 = 0 → wpD mB mNL d zX6_springValue [mR 6 0 35, mI 3] M_21 (fun r_26 M_25 => wI r_26 fun x_28 =>
                      wpD mB mNL d zX6_springValue [mR 6 0 35, mI 3] M_25 (fun r_30 M_29 => wI r_30 fun x_32 =>
                        wpD mB mNL d zX6_springValue [mR 6 0 35, mI 4] M_29 (fun r_34 M_33 => wI r_34 fun x_36 =>
                          jJ kB_X5_descend d k 4 [mR 5 0 26, mI v1, mI v2, mI v3, mI v4, mI v5, mR 6 0 35, mI (v2 + x_28), mI (x_16 + (x_32 * x_36)), none] [] M_33)))))))))) ∧
           (x_8 = 0 → k none M_5))))) ∧
     (¬ v1 < 8 → jJ kB_X5_descend d k 1 [mR 5 0 26, mI v1, mI v2, mI v3, mI v4, mI v5, none, none, none, none] [] M))))) :
  wpD mB mNL (d + 1) zX5_descend [mR 5 0 26, mI v1, mI v2, mI v3, mI v4, mI v5] M k := (show jJ kB_X5_descend d k 0 [mR 5 0 26, mI v1, mI v2, mI v3, mI v4, mI v5, none, none, none, none] [] M from Wt.blk (wpD_mono mB mNL d) (And.intro (fun c_40 => (h.1 c_40)) (fun c_40 => And.intro (fun c_39 => Wt.blk (wpD_mono mB mNL d) (cI (fun x_4 M_1 h_3 => cI (fun x_8 M_5 h_7 => And.intro (fun c_38 => Wt.blk (wpD_mono mB mNL d) (cI (fun x_12 M_9 h_11 => cI (fun x_16 M_13 h_15 => cI (fun x_20 M_17 h_19 => cI (fun x_24 M_21 h_23 => And.intro (fun c_37 => (h_23.1 c_37)) (fun c_37 => cI (fun x_28 M_25 h_27 => cI (fun x_32 M_29 h_31 => cI (fun x_36 M_33 h_35 => h_35) h_31) h_27) (h_23.2 c_37))) h_19) h_15) h_11) (h_7.1 c_38))) (fun c_38 => (h_7.2 c_38))) h_3) ((h.2 c_40).1 c_39))) (fun c_39 => ((h.2 c_40).2 c_39)))))
theorem v_X5_descend_1 {d : Nat} {k : mQ} {M : mM} (v1 : Int32) (v2 : Int32) (v3 : Int32) (v4 : Int32) (v5 : Int32) (u6 : mV) (u7 : mV) (u8 : mV) (u9 : mV)
  (h : wpD mB mNL d zX5_offer [mR 5 0 26, mI v4, mI v5] M (fun r_42 M_41 => wV r_42 (
  k none M_41))) :
  jJ kB_X5_descend d k 1 [mR 5 0 26, mI v1, mI v2, mI v3, mI v4, mI v5, u6, u7, u8, u9] [] M := Wt.blk (wpD_mono mB mNL d) (cV (fun M_41 h_43 => h_43) h)
theorem v_X5_descend_4 {d : Nat} {k : mQ} {M : mM} (v1 : Int32) (v2 : Int32) (v3 : Int32) (v4 : Int32) (v5 : Int32) (v7 : Int32) (v8 : Int32) (u9 : mV)
  (h : wpD mB mNL d zX2_kindOf [mR 2 0 27, mI v1] M (fun r_45 M_44 => wI r_45 fun x_47 =>
  wpD mB mNL d zX6_isHarmed [mR 6 0 35, mI x_47, mI v7, mI v8] M_44 (fun r_49 M_48 => wI r_49 fun x_51 =>
    ((x_51 = 0 → wpD mB mNL d zX6_isServed [mR 6 0 35, mI x_47, mI (M_48 26 5), mI v7, mI v8] M_48 (fun r_53 M_52 => wI r_53 fun x_55 =>
        ((x_55 = 0 → jJ kB_X5_descend d k 6 [mR 5 0 26, mI v1, mI v2, mI v3, mI v4, mI v5, mR 6 0 35, mI v7, mI v8, mI x_47] [] M_52) ∧
           (¬ x_55 = 0 → wpD mB mNL d zX6_kindValue [mR 6 0 35, mI 2, mI x_47] M_52 (fun r_57 M_56 => wI r_57 fun x_59 =>
            wpD mB mNL d zX6_kindValue [mR 6 0 35, mI 3, mI x_47] M_56 (fun r_61 M_60 => wI r_61 fun x_63 =>
              wpD mB mNL d zX5_descend [mR 5 0 26, mI (v1 + 1), mI v7, mI (v8 - x_59), mI (v4 ||| (1 <<< (v1 &&& 31))), mI (v5 + x_63)] M_60 (fun r_65 M_64 => wV r_65 (
                jJ kB_X5_descend d k 6 [mR 5 0 26, mI v1, mI v2, mI v3, mI v4, mI v5, mR 6 0 35, mI v7, mI v8, mI x_47] [] M_64)))))))) ∧
       (¬ x_51 = 0 → k none M_48))))) :
  jJ kB_X5_descend d k 4 [mR 5 0 26, mI v1, mI v2, mI v3, mI v4, mI v5, mR 6 0 35, mI v7, mI v8, u9] [] M := Wt.blk (wpD_mono mB mNL d) (cI (fun x_47 M_44 h_46 => cI (fun x_51 M_48 h_50 => And.intro (fun c_68 => Wt.blk (wpD_mono mB mNL d) (cI (fun x_55 M_52 h_54 => And.intro (fun c_67 => (h_54.1 c_67)) (fun c_67 => cI (fun x_59 M_56 h_58 => cI (fun x_63 M_60 h_62 => cV (fun M_64 h_66 => h_66) h_62) h_58) (h_54.2 c_67))) (h_50.1 c_68))) (fun c_68 => (h_50.2 c_68))) h_46) h)
theorem v_X5_descend_6 {d : Nat} {k : mQ} {M : mM} (v1 : Int32) (v2 : Int32) (v3 : Int32) (v4 : Int32) (v5 : Int32) (v7 : Int32) (v8 : Int32) (v9 : Int32)
  (h : wpD mB mNL d zX5_descend [mR 5 0 26, mI (v1 + 1), mI v7, mI v8, mI v4, mI v5] M (fun r_70 M_69 => wV r_70 (
  k none M_69))) :
  jJ kB_X5_descend d k 6 [mR 5 0 26, mI v1, mI v2, mI v3, mI v4, mI v5, mR 6 0 35, mI v7, mI v8, mI v9] [] M := Wt.blk (wpD_mono mB mNL d) (cV (fun M_69 h_71 => h_71) h)
theorem v_X6_springValue_0 {d : Nat} {k : mQ} {M : mM} (o : Nat) (v1 : Int32)
  (h : wpD mB mNL d zX7_cell [mR 50 5 (o + 1), mI v1] M (fun r_2 M_1 => wI r_2 fun x_4 =>
  k (mI x_4) M_1)) :
  wpD mB mNL (d + 1) zX6_springValue [mR 6 0 o, mI v1] M k := (show jJ kB_X6_springValue d k 0 [mR 6 0 o, mI v1] [] M from Wt.blk (wpD_mono mB mNL d) (cI (fun x_4 M_1 h_3 => h_3) h))
theorem v_X6_kindValue_0 {d : Nat} {k : mQ} {M : mM} (o : Nat) (v1 : Int32) (v2 : Int32)
  (h : wpD mB mNL d zX7_cell [mR 50 30 (o + 2), mI ((v1 * 6) + v2)] M (fun r_2 M_1 => wI r_2 fun x_4 =>
  k (mI x_4) M_1)) :
  wpD mB mNL (d + 1) zX6_kindValue [mR 6 0 o, mI v1, mI v2] M k := (show jJ kB_X6_kindValue d k 0 [mR 6 0 o, mI v1, mI v2] [] M from Wt.blk (wpD_mono mB mNL d) (cI (fun x_4 M_1 h_3 => h_3) h))
theorem v_X6_isWanting_0 {d : Nat} {k : mQ} {M : mM} (o : Nat) (v1 : Int32) (v2 : Int32)
  (h : wpD mB mNL d zX6_kindValue [mR 6 0 o, mI 4, mI v1] M (fun r_2 M_1 => wI r_2 fun x_4 =>
  wpD mB mNL d zX7_hasBit [mI x_4, mI v2] M_1 (fun r_6 M_5 => wI r_6 fun x_8 =>
    ((x_8 = 0 ∨ x_8 = 1) ∧ k (mI x_8) M_5)))) :
  wpD mB mNL (d + 1) zX6_isWanting [mR 6 0 o, mI v1, mI v2] M k := (show jJ kB_X6_isWanting d k 0 [mR 6 0 o, mI v1, mI v2] [] M from Wt.blk (wpD_mono mB mNL d) (cI (fun x_4 M_1 h_3 => cI (fun x_8 M_5 h_7 => h_7) h_3) h))
theorem v_X6_heatBehindPipe_0 {d : Nat} {k : mQ} {M : mM} (o : Nat) (v1 : Int32) (v2 : Int32) (v3 : Int32)
  (h : wpD mB mNL d zX6_springValue [mR 6 0 o, mI 2] M (fun r_2 M_1 => wI r_2 fun x_4 =>
  (((x_4 * v2) ≤ v3 → k (mI (if (v3 - ((10 * v1) * v2)) < (x_4 * v2) then (x_4 * v2) else (v3 - ((10 * v1) * v2)))) M_1) ∧
     (¬ (x_4 * v2) ≤ v3 → k (mI v3) M_1)))) :
  wpD mB mNL (d + 1) zX6_heatBehindPipe [mR 6 0 o, mI v1, mI v2, mI v3] M k := (show jJ kB_X6_heatBehindPipe d k 0 [mR 6 0 o, mI v1, mI v2, mI v3, none] [] M from Wt.blk (wpD_mono mB mNL d) (cI (fun x_4 M_1 h_3 => And.intro (fun c_5 => Wt.blk (wpD_mono mB mNL d) (Wt.blk (wpD_mono mB mNL d) ((h_3.1 c_5)))) (fun c_5 => Wt.blk (wpD_mono mB mNL d) ((h_3.2 c_5)))) h))
theorem v_X6_isHarmed_0 {d : Nat} {k : mQ} {M : mM} (o : Nat) (v1 : Int32) (v2 : Int32) (v3 : Int32)
  (h : wpD mB mNL d zX6_kindValue [mR 6 0 o, mI 1, mI v1] M (fun r_2 M_1 => wI r_2 fun x_4 =>
  ((v3 ≤ (x_4 * v2) → k (mI 0) M_1) ∧
     (¬ v3 ≤ (x_4 * v2) → k (mI 1) M_1)))) :
  wpD mB mNL (d + 1) zX6_isHarmed [mR 6 0 o, mI v1, mI v2, mI v3] M k := (show jJ kB_X6_isHarmed d k 0 [mR 6 0 o, mI v1, mI v2, mI v3] [] M from Wt.blk (wpD_mono mB mNL d) (cI (fun x_4 M_1 h_3 => And.intro (fun c_5 => Wt.blk (wpD_mono mB mNL d) (Wt.blk (wpD_mono mB mNL d) (And.intro (Or.inl rfl) (h_3.1 c_5)))) (fun c_5 => Wt.blk (wpD_mono mB mNL d) (And.intro (Or.inr rfl) (h_3.2 c_5)))) h))
theorem v_X6_isServed_0 {d : Nat} {k : mQ} {M : mM} (o : Nat) (v1 : Int32) (v2 : Int32) (v3 : Int32) (v4 : Int32)
  (h : wpD mB mNL d zX6_kindValue [mR 6 0 o, mI 4, mI v1] M (fun r_2 M_1 => wI r_2 fun x_4 =>
  wpD mB mNL d zX7_hasBit [mI x_4, mI v2] M_1 (fun r_6 M_5 => wI r_6 fun x_8 =>
    ((x_8 = 0 → k (mI 0) M_5) ∧
       (¬ x_8 = 0 → wpD mB mNL d zX6_kindValue [mR 6 0 o, mI 0, mI v1] M_5 (fun r_10 M_9 => wI r_10 fun x_12 =>
        ((v4 < (x_12 * v3) → k (mI 0) M_9) ∧
           (¬ v4 < (x_12 * v3) → wpD mB mNL d zX6_kindValue [mR 6 0 o, mI 2, mI v1] M_9 (fun r_14 M_13 => wI r_14 fun x_16 =>
            wpD mB mNL d zX6_springValue [mR 6 0 o, mI 2] M_13 (fun r_18 M_17 => wI r_18 fun x_20 =>
              (((v4 - x_16) < (x_20 * v3) → k (mI 0) M_17) ∧
                 (¬ (v4 - x_16) < (x_20 * v3) → k (mI 1) M_17)))))))))))) :
  wpD mB mNL (d + 1) zX6_isServed [mR 6 0 o, mI v1, mI v2, mI v3, mI v4] M k := (show jJ kB_X6_isServed d k 0 [mR 6 0 o, mI v1, mI v2, mI v3, mI v4] [] M from Wt.blk (wpD_mono mB mNL d) (cI (fun x_4 M_1 h_3 => cI (fun x_8 M_5 h_7 => And.intro (fun c_23 => Wt.blk (wpD_mono mB mNL d) (Wt.blk (wpD_mono mB mNL d) (And.intro (Or.inl rfl) (h_7.1 c_23)))) (fun c_23 => cI (fun x_12 M_9 h_11 => And.intro (fun c_22 => Wt.blk (wpD_mono mB mNL d) (Wt.blk (wpD_mono mB mNL d) (And.intro (Or.inl rfl) (h_11.1 c_22)))) (fun c_22 => cI (fun x_16 M_13 h_15 => cI (fun x_20 M_17 h_19 => And.intro (fun c_21 => Wt.blk (wpD_mono mB mNL d) (Wt.blk (wpD_mono mB mNL d) (And.intro (Or.inl rfl) (h_19.1 c_21)))) (fun c_21 => Wt.blk (wpD_mono mB mNL d) (And.intro (Or.inr rfl) (h_19.2 c_21)))) h_15) (h_11.2 c_22))) (h_7.2 c_23))) h_3) h))
theorem v_X6_copyOf_0 {d : Nat} {k : mQ} {M : mM} (o : Nat) (o1 : Nat)
  (h : wpD mB mNL d zX7_copyRow [mR 50 5 (o1 + 1), mR 50 5 (o + 1)] M (fun r_2 M_1 => wV r_2 (
  wpD mB mNL d zX7_copyRow [mR 50 30 (o1 + 2), mR 50 30 (o + 2)] M_1 (fun r_5 M_4 => wV r_5 (
    wpD mB mNL d zX2_copyOf [mR 2 0 (o + 3), mR 2 0 (o1 + 3)] M_4 (fun r_8 M_7 => wV r_8 (
      wpD mB mNL d zX1_copyOf [mR 1 0 (o + 7), mR 1 0 (o1 + 7)] M_7 (fun r_11 M_10 => wV r_11 (
        k none M_10))))))))) :
  wpD mB mNL (d + 1) zX6_copyOf [mR 6 0 o, mR 6 0 o1] M k := (show jJ kB_X6_copyOf d k 0 [mR 6 0 o, mR 6 0 o1] [] M from Wt.blk (wpD_mono mB mNL d) (cV (fun M_1 h_3 => cV (fun M_4 h_6 => cV (fun M_7 h_9 => cV (fun M_10 h_12 => h_12) h_9) h_6) h_3) h))
theorem v_J6_bitCount_0f7a4_0 {d : Nat} {k : mQ} {M : mM} (v0 : Int32)
  (h : k (mI ((((((((v0 - (((v0.toUInt32 >>> ((1 : Int32).toUInt32 &&& Int32.toUInt32 31)).toInt32) &&& 1431655765)) &&& 858993459) + ((((v0 - (((v0.toUInt32 >>> ((1 : Int32).toUInt32 &&& Int32.toUInt32 31)).toInt32) &&& 1431655765)).toUInt32 >>> ((2 : Int32).toUInt32 &&& Int32.toUInt32 31)).toInt32) &&& 858993459)) + (((((v0 - (((v0.toUInt32 >>> ((1 : Int32).toUInt32 &&& Int32.toUInt32 31)).toInt32) &&& 1431655765)) &&& 858993459) + ((((v0 - (((v0.toUInt32 >>> ((1 : Int32).toUInt32 &&& Int32.toUInt32 31)).toInt32) &&& 1431655765)).toUInt32 >>> ((2 : Int32).toUInt32 &&& Int32.toUInt32 31)).toInt32) &&& 858993459)).toUInt32 >>> ((4 : Int32).toUInt32 &&& Int32.toUInt32 31)).toInt32)) &&& 252645135) + (((((((v0 - (((v0.toUInt32 >>> ((1 : Int32).toUInt32 &&& Int32.toUInt32 31)).toInt32) &&& 1431655765)) &&& 858993459) + ((((v0 - (((v0.toUInt32 >>> ((1 : Int32).toUInt32 &&& Int32.toUInt32 31)).toInt32) &&& 1431655765)).toUInt32 >>> ((2 : Int32).toUInt32 &&& Int32.toUInt32 31)).toInt32) &&& 858993459)) + (((((v0 - (((v0.toUInt32 >>> ((1 : Int32).toUInt32 &&& Int32.toUInt32 31)).toInt32) &&& 1431655765)) &&& 858993459) + ((((v0 - (((v0.toUInt32 >>> ((1 : Int32).toUInt32 &&& Int32.toUInt32 31)).toInt32) &&& 1431655765)).toUInt32 >>> ((2 : Int32).toUInt32 &&& Int32.toUInt32 31)).toInt32) &&& 858993459)).toUInt32 >>> ((4 : Int32).toUInt32 &&& Int32.toUInt32 31)).toInt32)) &&& 252645135).toUInt32 >>> ((8 : Int32).toUInt32 &&& Int32.toUInt32 31)).toInt32)) + ((((((((v0 - (((v0.toUInt32 >>> ((1 : Int32).toUInt32 &&& Int32.toUInt32 31)).toInt32) &&& 1431655765)) &&& 858993459) + ((((v0 - (((v0.toUInt32 >>> ((1 : Int32).toUInt32 &&& Int32.toUInt32 31)).toInt32) &&& 1431655765)).toUInt32 >>> ((2 : Int32).toUInt32 &&& Int32.toUInt32 31)).toInt32) &&& 858993459)) + (((((v0 - (((v0.toUInt32 >>> ((1 : Int32).toUInt32 &&& Int32.toUInt32 31)).toInt32) &&& 1431655765)) &&& 858993459) + ((((v0 - (((v0.toUInt32 >>> ((1 : Int32).toUInt32 &&& Int32.toUInt32 31)).toInt32) &&& 1431655765)).toUInt32 >>> ((2 : Int32).toUInt32 &&& Int32.toUInt32 31)).toInt32) &&& 858993459)).toUInt32 >>> ((4 : Int32).toUInt32 &&& Int32.toUInt32 31)).toInt32)) &&& 252645135) + (((((((v0 - (((v0.toUInt32 >>> ((1 : Int32).toUInt32 &&& Int32.toUInt32 31)).toInt32) &&& 1431655765)) &&& 858993459) + ((((v0 - (((v0.toUInt32 >>> ((1 : Int32).toUInt32 &&& Int32.toUInt32 31)).toInt32) &&& 1431655765)).toUInt32 >>> ((2 : Int32).toUInt32 &&& Int32.toUInt32 31)).toInt32) &&& 858993459)) + (((((v0 - (((v0.toUInt32 >>> ((1 : Int32).toUInt32 &&& Int32.toUInt32 31)).toInt32) &&& 1431655765)) &&& 858993459) + ((((v0 - (((v0.toUInt32 >>> ((1 : Int32).toUInt32 &&& Int32.toUInt32 31)).toInt32) &&& 1431655765)).toUInt32 >>> ((2 : Int32).toUInt32 &&& Int32.toUInt32 31)).toInt32) &&& 858993459)).toUInt32 >>> ((4 : Int32).toUInt32 &&& Int32.toUInt32 31)).toInt32)) &&& 252645135).toUInt32 >>> ((8 : Int32).toUInt32 &&& Int32.toUInt32 31)).toInt32)).toUInt32 >>> ((16 : Int32).toUInt32 &&& Int32.toUInt32 31)).toInt32)) &&& 63)) M) :
  wpD mB mNL (d + 1) zJ6_bitCount_0f7a4 [mI v0] M k := (show jJ kB_J6_bitCount_0f7a4 d k 0 [mI v0] [] M from Wt.blk (wpD_mono mB mNL d) (h))
