theorem v_X7_spring_0 {d : Nat} {k : mQ} {M : mM} (v1 : Int32) (v2 : Int32)
  (h : ((v1 < 0 → k (mI (-1)) M) ∧
   (¬ v1 < 0 → ((v1 ≤ 4 → wpD mB mNL d zX7_cell [mR 51 5 1, mI v1] M (fun r_2 M_1 => wI r_2 fun x_4 =>
      ((v2 < x_4 → k (mI (-2)) M_1) ∧
         (¬ v2 < x_4 → wpD mB mNL d zX7_cell [mR 51 5 2, mI v1] M_1 (fun r_6 M_5 => wI r_6 fun x_8 =>
          ((v2 ≤ x_8 → wpD mB mNL d zX7_exchange [mR 50 5 36, mI v1, mI v2] M_5 (fun r_10 M_9 => wI r_10 fun x_12 =>
              k (mI x_12) M_9)) ∧
             (¬ v2 ≤ x_8 → k (mI (-2)) M_5))))))) ∧
     (¬ v1 ≤ 4 → k (mI (-1)) M))))) :
  wpD mB mNL (d + 1) zX7_spring [mR 7 0 14, mI v1, mI v2] M k := (show jJ kB_X7_spring d k 0 [mR 7 0 14, mI v1, mI v2] [] M from Wt.blk (wpD_mono mB mNL d) (And.intro (fun c_16 => Wt.blk (wpD_mono mB mNL d) ((h.1 c_16))) (fun c_16 => And.intro (fun c_15 => Wt.blk (wpD_mono mB mNL d) (cI (fun x_4 M_1 h_3 => And.intro (fun c_14 => Wt.blk (wpD_mono mB mNL d) ((h_3.1 c_14))) (fun c_14 => cI (fun x_8 M_5 h_7 => And.intro (fun c_13 => Wt.blk (wpD_mono mB mNL d) (cI (fun x_12 M_9 h_11 => h_11) (h_7.1 c_13))) (fun c_13 => Wt.blk (wpD_mono mB mNL d) ((h_7.2 c_13)))) (h_3.2 c_14))) ((h.2 c_16).1 c_15))) (fun c_15 => Wt.blk (wpD_mono mB mNL d) (((h.2 c_16).2 c_15))))))
theorem v_X7_kind_0 {d : Nat} {k : mQ} {M : mM} (v1 : Int32) (v2 : Int32) (v3 : Int32)
  (h : wpD mB mNL d zX7_isNoKind [mI v1] M (fun r_2 M_1 => wI r_2 fun x_4 =>
  ((x_4 = 0 → ((v2 < 0 → k (mI (-2)) M_1) ∧
       (¬ v2 < 0 → ((4 < v2 → k (mI (-2)) M_1) ∧
         (¬ 4 < v2 → ((v3 < 0 → k (mI (-2)) M_1) ∧
           (¬ v3 < 0 → wpD mB mNL d zX7_cell [mR 51 5 4, mI v2] M_1 (fun r_6 M_5 => wI r_6 fun x_8 =>
            ((v3 ≤ x_8 → wpD mB mNL d zX7_exchange [mR 50 30 37, mI ((v2 * 6) + v1), mI v3] M_5 (fun r_10 M_9 => wI r_10 fun x_12 =>
                k (mI x_12) M_9)) ∧
               (¬ v3 ≤ x_8 → k (mI (-2)) M_5)))))))))) ∧
     (¬ x_4 = 0 → k (mI (-1)) M_1)))) :
  wpD mB mNL (d + 1) zX7_kind [mR 7 0 14, mI v1, mI v2, mI v3] M k := (show jJ kB_X7_kind d k 0 [mR 7 0 14, mI v1, mI v2, mI v3] [] M from Wt.blk (wpD_mono mB mNL d) (cI (fun x_4 M_1 h_3 => And.intro (fun c_17 => Wt.blk (wpD_mono mB mNL d) (And.intro (fun c_16 => Wt.blk (wpD_mono mB mNL d) (((h_3.1 c_17).1 c_16))) (fun c_16 => And.intro (fun c_15 => Wt.blk (wpD_mono mB mNL d) ((((h_3.1 c_17).2 c_16).1 c_15))) (fun c_15 => And.intro (fun c_14 => Wt.blk (wpD_mono mB mNL d) (((((h_3.1 c_17).2 c_16).2 c_15).1 c_14))) (fun c_14 => cI (fun x_8 M_5 h_7 => And.intro (fun c_13 => Wt.blk (wpD_mono mB mNL d) (cI (fun x_12 M_9 h_11 => h_11) (h_7.1 c_13))) (fun c_13 => Wt.blk (wpD_mono mB mNL d) ((h_7.2 c_13)))) ((((h_3.1 c_17).2 c_16).2 c_15).2 c_14)))))) (fun c_17 => (h_3.2 c_17))) h))
theorem v_X7_say_0 {d : Nat} {k : mQ} {M : mM} (v1 : Int32)
  (h : ((v1 < 33 → k (mI (-2)) M) ∧
   (¬ v1 < 33 → ((v1 ≤ 126 → wpD mB mNL d zX4_addSign [mR 4 0 15, mI v1] M (fun r_2 M_1 => wI r_2 fun x_4 =>
      ((x_4 = 0 → k (mI (-4)) M_1) ∧
         (¬ x_4 = 0 → k (mI (M_1 15 0)) M_1)))) ∧
     (¬ v1 ≤ 126 → k (mI (-2)) M))))) :
  wpD mB mNL (d + 1) zX7_say [mR 7 0 14, mI v1] M k := (show jJ kB_X7_say d k 0 [mR 7 0 14, mI v1] [] M from Wt.blk (wpD_mono mB mNL d) (And.intro (fun c_7 => Wt.blk (wpD_mono mB mNL d) ((h.1 c_7))) (fun c_7 => And.intro (fun c_6 => Wt.blk (wpD_mono mB mNL d) (cI (fun x_4 M_1 h_3 => And.intro (fun c_5 => Wt.blk (wpD_mono mB mNL d) (Wt.blk (wpD_mono mB mNL d) ((h_3.1 c_5)))) (fun c_5 => Wt.blk (wpD_mono mB mNL d) ((h_3.2 c_5)))) ((h.2 c_7).1 c_6))) (fun c_6 => Wt.blk (wpD_mono mB mNL d) (((h.2 c_7).2 c_6))))))
theorem v_X7_wipe_0 {d : Nat} {k : mQ} {M : mM} 
  (h : wpD mB mNL d zX4_clear [mR 4 0 15] M (fun r_2 M_1 => wI r_2 fun x_4 =>
  k (mI x_4) M_1)) :
  wpD mB mNL (d + 1) zX7_wipe [mR 7 0 14] M k := (show jJ kB_X7_wipe d k 0 [mR 7 0 14] [] M from Wt.blk (wpD_mono mB mNL d) (cI (fun x_4 M_1 h_3 => h_3) h))
theorem v_X7_fault_0 {d : Nat} {k : mQ} {M : mM} (v1 : Int32)
  (h : ((¬ v1 = 0 → ((¬ v1 = 1 → k (mI (-2)) M) ∧
     (v1 = 1 → wpD mB mNL d zX4_readDay [mR 4 0 15, mR 2 0 38] M (fun r_2 M_1 => wI r_2 fun x_4 =>
      k (mI x_4) M_1)))) ∧
   (v1 = 0 → wpD mB mNL d zX4_readLane [mR 4 0 15] M (fun r_7 M_6 => wI r_7 fun x_9 =>
    k (mI x_9) M_6)))) :
  wpD mB mNL (d + 1) zX7_fault [mR 7 0 14, mI v1] M k := (show jJ kB_X7_fault d k 0 [mR 7 0 14, mI v1] [] M from Wt.blk (wpD_mono mB mNL d) (And.intro (fun c_10 => Wt.blk (wpD_mono mB mNL d) (And.intro (fun c_5 => Wt.blk (wpD_mono mB mNL d) (Wt.blk (wpD_mono mB mNL d) (((h.1 c_10).1 c_5)))) (fun c_5 => cI (fun x_4 M_1 h_3 => Wt.blk (wpD_mono mB mNL d) (h_3)) ((h.1 c_10).2 c_5)))) (fun c_10 => cI (fun x_9 M_6 h_8 => h_8) (h.2 c_10))))
theorem v_X7_lane_0 {d : Nat} {k : mQ} {M : mM} 
  (h : wpD mB mNL d zX4_readLane [mR 4 0 15] M (fun r_2 M_1 => wI r_2 fun x_4 =>
  ((x_4 = (-6) → wpD mB mNL d zX2_copyOf [mR 2 0 38, mR 2 0 16] M_1 (fun r_6 M_5 => wV r_6 (
      wpD mB mNL d zX1_clear [mR 1 0 42] M_5 (fun r_9 M_8 => wI r_9 fun x_11 =>
        wpD mB mNL d zX4_clear [mR 4 0 15] M_8 (fun r_13 M_12 => wI r_13 fun x_15 =>
          k (mI (M_12 38 0)) M_12))))) ∧
     (¬ x_4 = (-6) → k (mI (-5)) M_1)))) :
  wpD mB mNL (d + 1) zX7_lane [mR 7 0 14] M k := (show jJ kB_X7_lane d k 0 [mR 7 0 14] [] M from Wt.blk (wpD_mono mB mNL d) (cI (fun x_4 M_1 h_3 => And.intro (fun c_16 => Wt.blk (wpD_mono mB mNL d) (cV (fun M_5 h_7 => cI (fun x_11 M_8 h_10 => cI (fun x_15 M_12 h_14 => h_14) h_10) h_7) (h_3.1 c_16))) (fun c_16 => (h_3.2 c_16))) h))
theorem v_X7_house_0 {d : Nat} {k : mQ} {M : mM} (v1 : Int32) (v2 : Int32)
  (h : wpD mB mNL d zX7_isNoHouse [mR 7 0 14, mI v1] M (fun r_2 M_1 => wI r_2 fun x_4 =>
  ((x_4 = 0 → ((v2.toInt < 0 ∨ 2 < v2.toInt → k (mI (-2)) M_1) ∧
       ((v2.toInt = 0 → wpD mB mNL d zX2_kindOf [mR 2 0 38, mI v1] M_1 (fun r_6 M_5 => wI r_6 fun x_8 =>
        k (mI x_8) M_5)) ∧
       ((v2.toInt = 1 → wpD mB mNL d zX2_lossAheadOf [mR 2 0 38, mI v1] M_1 (fun r_10 M_9 => wI r_10 fun x_12 =>
        k (mI x_12) M_9)) ∧
       ((v2.toInt = 2 → wpD mB mNL d zX2_brookAheadOf [mR 2 0 38, mI v1] M_1 (fun r_14 M_13 => wI r_14 fun x_16 =>
        k (mI x_16) M_13)) ∧
       True))))) ∧
     (¬ x_4 = 0 → k (mI (-1)) M_1)))) :
  wpD mB mNL (d + 1) zX7_house [mR 7 0 14, mI v1, mI v2] M k := (show jJ kB_X7_house d k 0 [mR 7 0 14, mI v1, mI v2] [] M from Wt.blk (wpD_mono mB mNL d) (cI (fun x_4 M_1 h_3 => And.intro (fun c_18 => Wt.blk (wpD_mono mB mNL d) (And.intro (fun c_17 => Wt.blk (wpD_mono mB mNL d) (((h_3.1 c_18).1 c_17))) (And.intro (fun c_17 => Wt.blk (wpD_mono mB mNL d) (cI (fun x_8 M_5 h_7 => h_7) ((h_3.1 c_18).2.1 c_17))) (And.intro (fun c_17 => Wt.blk (wpD_mono mB mNL d) (cI (fun x_12 M_9 h_11 => h_11) ((h_3.1 c_18).2.2.1 c_17))) (And.intro (fun c_17 => Wt.blk (wpD_mono mB mNL d) (cI (fun x_16 M_13 h_15 => h_15) ((h_3.1 c_18).2.2.2.1 c_17))) (trivial)))))) (fun c_18 => (h_3.2 c_18))) h))
theorem v_X7_at_0 {d : Nat} {k : mQ} {M : mM} (v1 : Int32) (v2 : Int32) (v3 : Int32) (v4 : Int32) (v5 : Int32)
  (h : ((v4 < 0 → k (mI (-1)) M) ∧
   (¬ v4 < 0 → ((v4 ≤ (M 38 0) → wpD mB mNL d zX7_isNoHour [mI v1] M (fun r_2 M_1 => wI r_2 fun x_4 =>
      ((¬ x_4 = 0 → k (mI (-2)) M_1) ∧
         (x_4 = 0 → wpD mB mNL d zX7_areNoBrooks [mR 7 0 14, mI v2] M_1 (fun r_6 M_5 => wI r_6 fun x_8 =>
          ((¬ x_8 = 0 → k (mI (-2)) M_5) ∧
             (x_8 = 0 → wpD mB mNL d zX7_areNoDraws [mR 7 0 14, mI v3] M_5 (fun r_10 M_9 => wI r_10 fun x_12 =>
              ((¬ x_12 = 0 → k (mI (-2)) M_9) ∧
                 (x_12 = 0 → ((v5 < 0 → k (mI (-2)) M_9) ∧
                   (¬ v5 < 0 → ((v5 ≤ 1 → wpD mB mNL d zX6_springValue [mR 6 0 35, mI 1] M_9 (fun r_14 M_13 => wI r_14 fun x_16 =>
                      wpD mB mNL d zX0_follow [mR 0 0 23, mI x_16, mI v1, mI v2, mI v3] M_13 (fun r_18 M_17 => wV r_18 (
                        ((¬ v5 = 0 → wpD mB mNL d zX0_heatAt [mR 0 0 23, mI v4] M_17 (fun r_21 M_20 => wI r_21 fun x_23 =>
                            k (mI x_23) M_20)) ∧
                           (v5 = 0 → wpD mB mNL d zX0_litresAt [mR 0 0 23, mI v4] M_17 (fun r_25 M_24 => wI r_25 fun x_27 =>
                            k (mI x_27) M_24))))))) ∧
                     (¬ v5 ≤ 1 → k (mI (-2)) M_9)))))))))))))) ∧
     (¬ v4 ≤ (M 38 0) → k (mI (-1)) M))))) :
  wpD mB mNL (d + 1) zX7_at [mR 7 0 14, mI v1, mI v2, mI v3, mI v4, mI v5] M k := (show jJ kB_X7_at d k 0 [mR 7 0 14, mI v1, mI v2, mI v3, mI v4, mI v5] [] M from Wt.blk (wpD_mono mB mNL d) (And.intro (fun c_35 => Wt.blk (wpD_mono mB mNL d) ((h.1 c_35))) (fun c_35 => And.intro (fun c_34 => Wt.blk (wpD_mono mB mNL d) (cI (fun x_4 M_1 h_3 => And.intro (fun c_33 => Wt.blk (wpD_mono mB mNL d) ((h_3.1 c_33))) (fun c_33 => cI (fun x_8 M_5 h_7 => And.intro (fun c_32 => Wt.blk (wpD_mono mB mNL d) ((h_7.1 c_32))) (fun c_32 => cI (fun x_12 M_9 h_11 => And.intro (fun c_31 => Wt.blk (wpD_mono mB mNL d) ((h_11.1 c_31))) (fun c_31 => And.intro (fun c_30 => Wt.blk (wpD_mono mB mNL d) (((h_11.2 c_31).1 c_30))) (fun c_30 => And.intro (fun c_29 => Wt.blk (wpD_mono mB mNL d) (cI (fun x_16 M_13 h_15 => cV (fun M_17 h_19 => And.intro (fun c_28 => Wt.blk (wpD_mono mB mNL d) (cI (fun x_23 M_20 h_22 => Wt.blk (wpD_mono mB mNL d) (h_22)) (h_19.1 c_28))) (fun c_28 => cI (fun x_27 M_24 h_26 => Wt.blk (wpD_mono mB mNL d) (h_26)) (h_19.2 c_28))) h_15) (((h_11.2 c_31).2 c_30).1 c_29))) (fun c_29 => Wt.blk (wpD_mono mB mNL d) ((((h_11.2 c_31).2 c_30).2 c_29)))))) (h_7.2 c_32))) (h_3.2 c_33))) ((h.2 c_35).1 c_34))) (fun c_34 => Wt.blk (wpD_mono mB mNL d) (((h.2 c_35).2 c_34))))))
theorem v_X7_run_0 {d : Nat} {k : mQ} {M : mM} (v1 : Int32) (v2 : Int32) (v3 : Int32) (v4 : Int32)
  (h : wpD mB mNL d zX7_isNoHour [mI v1] M (fun r_2 M_1 => wI r_2 fun x_4 =>
  ((¬ x_4 = 0 → k (mI (-2)) M_1) ∧
     (x_4 = 0 → wpD mB mNL d zX7_areNoBrooks [mR 7 0 14, mI v2] M_1 (fun r_6 M_5 => wI r_6 fun x_8 =>
      ((¬ x_8 = 0 → k (mI (-2)) M_5) ∧
         (x_8 = 0 → wpD mB mNL d zX7_areNoDraws [mR 7 0 14, mI v3] M_5 (fun r_10 M_9 => wI r_10 fun x_12 =>
          ((x_12 = 0 → wpD mB mNL d zX6_springValue [mR 6 0 35, mI 1] M_9 (fun r_14 M_13 => wI r_14 fun x_16 =>
              wpD mB mNL d zX0_follow [mR 0 0 23, mI x_16, mI v1, mI v2, mI v3] M_13 (fun r_18 M_17 => wV r_18 (
                ((v4.toInt < 0 ∨ 3 < v4.toInt → k (mI (-2)) M_17) ∧
                   ((v4.toInt = 0 → k (mI (M_17 23 0)) M_17) ∧
                   ((v4.toInt = 1 → k (mI (M_17 23 1)) M_17) ∧
                   ((v4.toInt = 2 → k (mI (M_17 23 3)) M_17) ∧
                   ((v4.toInt = 3 → k (mI (M_17 23 4)) M_17) ∧
                   True))))))))) ∧
             (¬ x_12 = 0 → k (mI (-2)) M_9)))))))))) :
  wpD mB mNL (d + 1) zX7_run [mR 7 0 14, mI v1, mI v2, mI v3, mI v4] M k := (show jJ kB_X7_run d k 0 [mR 7 0 14, mI v1, mI v2, mI v3, mI v4] [] M from Wt.blk (wpD_mono mB mNL d) (cI (fun x_4 M_1 h_3 => And.intro (fun c_23 => Wt.blk (wpD_mono mB mNL d) ((h_3.1 c_23))) (fun c_23 => cI (fun x_8 M_5 h_7 => And.intro (fun c_22 => Wt.blk (wpD_mono mB mNL d) ((h_7.1 c_22))) (fun c_22 => cI (fun x_12 M_9 h_11 => And.intro (fun c_21 => Wt.blk (wpD_mono mB mNL d) (cI (fun x_16 M_13 h_15 => cV (fun M_17 h_19 => And.intro (fun c_20 => Wt.blk (wpD_mono mB mNL d) ((h_19.1 c_20))) (And.intro (fun c_20 => Wt.blk (wpD_mono mB mNL d) ((h_19.2.1 c_20))) (And.intro (fun c_20 => Wt.blk (wpD_mono mB mNL d) ((h_19.2.2.1 c_20))) (And.intro (fun c_20 => Wt.blk (wpD_mono mB mNL d) ((h_19.2.2.2.1 c_20))) (And.intro (fun c_20 => Wt.blk (wpD_mono mB mNL d) ((h_19.2.2.2.2.1 c_20))) (trivial)))))) h_15) (h_11.1 c_21))) (fun c_21 => Wt.blk (wpD_mono mB mNL d) ((h_11.2 c_21)))) (h_7.2 c_22))) (h_3.2 c_23))) h))
theorem v_X7_judge_0 {d : Nat} {k : mQ} {M : mM} (v1 : Int32)
  (h : ((v1 < 0 → k (mI (-2)) M) ∧
   (¬ v1 < 0 → ((v1 ≤ 1 → wpD mB mNL d zX4_readDay [mR 4 0 15, mR 2 0 38] M (fun r_2 M_1 => wI r_2 fun x_4 =>
      ((x_4 = (-6) → jJ kB_X7_judge d k 4 [mR 7 0 14, mI v1, mI 0] [] M_1) ∧
         (¬ x_4 = (-6) → k (mI (-5)) M_1)))) ∧
     (¬ v1 ≤ 1 → k (mI (-2)) M))))) :
  wpD mB mNL (d + 1) zX7_judge [mR 7 0 14, mI v1] M k := (show jJ kB_X7_judge d k 0 [mR 7 0 14, mI v1, none] [] M from Wt.blk (wpD_mono mB mNL d) (And.intro (fun c_7 => Wt.blk (wpD_mono mB mNL d) ((h.1 c_7))) (fun c_7 => And.intro (fun c_6 => Wt.blk (wpD_mono mB mNL d) (cI (fun x_4 M_1 h_3 => And.intro (fun c_5 => Wt.blk (wpD_mono mB mNL d) ((h_3.1 c_5))) (fun c_5 => (h_3.2 c_5))) ((h.2 c_7).1 c_6))) (fun c_6 => Wt.blk (wpD_mono mB mNL d) (((h.2 c_7).2 c_6))))))
theorem v_X7_judge_4 {d : Nat} {k : mQ} {M : mM} (v1 : Int32) (v2 : Int32)
  (h : ((6 ≤ v2 → k (mI (-6)) M) ∧
   (¬ 6 ≤ v2 → wpD mB mNL d zX6_springValue [mR 6 0 35, mI 1] M (fun r_9 M_8 => wI r_9 fun x_11 =>
    wpD mB mNL d zX4_brooksIn [mR 4 0 15, mI v2] M_8 (fun r_13 M_12 => wI r_13 fun x_15 =>
      wpD mB mNL d zX4_drawsIn [mR 4 0 15, mI v2] M_12 (fun r_17 M_16 => wI r_17 fun x_19 =>
        wpD mB mNL d zX0_follow [mR 0 0 23, mI x_11, mI v2, mI x_15, mI x_19] M_16 (fun r_21 M_20 => wV r_21 (
          (((M_20 23 2) = 0 → jJ kB_X7_judge d k 4 [mR 7 0 14, mI v1, mI (v2 + 1)] [] M_20) ∧
             (¬ (M_20 23 2) = 0 → ((¬ v1 = 0 → wpD mB mNL d zX7_lowestBit [mI (M_20 23 2)] M_20 (fun r_24 M_23 => wI r_24 fun x_26 =>
                k (mI x_26) M_23)) ∧
               (v1 = 0 → k (mI v2) M_20)))))))))))) :
  jJ kB_X7_judge d k 4 [mR 7 0 14, mI v1, mI v2] [] M := Wt.blk (wpD_mono mB mNL d) (And.intro (fun c_29 => Wt.blk (wpD_mono mB mNL d) ((h.1 c_29))) (fun c_29 => cI (fun x_11 M_8 h_10 => cI (fun x_15 M_12 h_14 => cI (fun x_19 M_16 h_18 => cV (fun M_20 h_22 => And.intro (fun c_28 => Wt.blk (wpD_mono mB mNL d) ((h_22.1 c_28))) (fun c_28 => And.intro (fun c_27 => Wt.blk (wpD_mono mB mNL d) (cI (fun x_26 M_23 h_25 => Wt.blk (wpD_mono mB mNL d) (h_25)) ((h_22.2 c_28).1 c_27))) (fun c_27 => Wt.blk (wpD_mono mB mNL d) (((h_22.2 c_28).2 c_27))))) h_18) h_14) h_10) (h.2 c_29)))
theorem v_X7_best_0 {d : Nat} {k : mQ} {M : mM} (v1 : Int32) (v2 : Int32)
  (h : wpD mB mNL d zX7_isNoHour [mI v1] M (fun r_2 M_1 => wI r_2 fun x_4 =>
  ((¬ x_4 = 0 → k (mI (-2)) M_1) ∧
     (x_4 = 0 → ((v2 < 0 → k (mI (-2)) M_1) ∧
       (¬ v2 < 0 → ((v2 ≤ 2 → wpD mB mNL d zX7_planAsItIs [mR 7 0 14, mI v1] M_1 (fun r_6 M_5 => wV r_6 (
          (((M_5 26 1) = (-6) → k (mI (M_5 26 1)) M_5) ∧
             (¬ (M_5 26 1) = (-6) → ((¬ v2 = 0 → ((¬ v2 = 1 → k (mI (M_5 26 3)) M_5) ∧
                 (v2 = 1 → k (mI (M_5 26 2)) M_5))) ∧
               (v2 = 0 → k (mI (M_5 26 1)) M_5))))))) ∧
         (¬ v2 ≤ 2 → k (mI (-2)) M_1)))))))) :
  wpD mB mNL (d + 1) zX7_best [mR 7 0 14, mI v1, mI v2] M k := (show jJ kB_X7_best d k 0 [mR 7 0 14, mI v1, mI v2] [] M from Wt.blk (wpD_mono mB mNL d) (cI (fun x_4 M_1 h_3 => And.intro (fun c_13 => Wt.blk (wpD_mono mB mNL d) ((h_3.1 c_13))) (fun c_13 => And.intro (fun c_12 => Wt.blk (wpD_mono mB mNL d) (((h_3.2 c_13).1 c_12))) (fun c_12 => And.intro (fun c_11 => Wt.blk (wpD_mono mB mNL d) (cV (fun M_5 h_7 => And.intro (fun c_10 => Wt.blk (wpD_mono mB mNL d) ((h_7.1 c_10))) (fun c_10 => And.intro (fun c_9 => Wt.blk (wpD_mono mB mNL d) (And.intro (fun c_8 => Wt.blk (wpD_mono mB mNL d) (Wt.blk (wpD_mono mB mNL d) ((((h_7.2 c_10).1 c_9).1 c_8)))) (fun c_8 => Wt.blk (wpD_mono mB mNL d) ((((h_7.2 c_10).1 c_9).2 c_8))))) (fun c_9 => Wt.blk (wpD_mono mB mNL d) (((h_7.2 c_10).2 c_9))))) (((h_3.2 c_13).2 c_12).1 c_11))) (fun c_11 => Wt.blk (wpD_mono mB mNL d) ((((h_3.2 c_13).2 c_12).2 c_11)))))) h))
theorem v_X7_moss_0 {d : Nat} {k : mQ} {M : mM} (v1 : Int32) (v2 : Int32) (v3 : Int32)
  (h : wpD mB mNL d zX7_isNoHour [mI v1] M (fun r_2 M_1 => wI r_2 fun x_4 =>
  ((¬ x_4 = 0 → k (mI (-2)) M_1) ∧
     (x_4 = 0 → ((v2 < 0 → k (mI (-2)) M_1) ∧
       (¬ v2 < 0 → ((8 < v2 → k (mI (-2)) M_1) ∧
         (¬ 8 < v2 → ((v3 < 0 → k (mI (-2)) M_1) ∧
           (¬ v3 < 0 → ((v3 ≤ 1 → wpD mB mNL d zX7_searchMoss [mR 7 0 14, mI v1, mI v2] M_1 (fun r_6 M_5 => wI r_6 fun x_8 =>
              ((¬ v3 = 0 → k (mI (M_5 26 1)) M_5) ∧
                 (v3 = 0 → k (mI x_8) M_5)))) ∧
             (¬ v3 ≤ 1 → k (mI (-2)) M_1)))))))))))) :
  wpD mB mNL (d + 1) zX7_moss [mR 7 0 14, mI v1, mI v2, mI v3] M k := (show jJ kB_X7_moss d k 0 [mR 7 0 14, mI v1, mI v2, mI v3, none] [] M from Wt.blk (wpD_mono mB mNL d) (cI (fun x_4 M_1 h_3 => And.intro (fun c_14 => Wt.blk (wpD_mono mB mNL d) ((h_3.1 c_14))) (fun c_14 => And.intro (fun c_13 => Wt.blk (wpD_mono mB mNL d) (((h_3.2 c_14).1 c_13))) (fun c_13 => And.intro (fun c_12 => Wt.blk (wpD_mono mB mNL d) ((((h_3.2 c_14).2 c_13).1 c_12))) (fun c_12 => And.intro (fun c_11 => Wt.blk (wpD_mono mB mNL d) (((((h_3.2 c_14).2 c_13).2 c_12).1 c_11))) (fun c_11 => And.intro (fun c_10 => Wt.blk (wpD_mono mB mNL d) (cI (fun x_8 M_5 h_7 => And.intro (fun c_9 => Wt.blk (wpD_mono mB mNL d) (Wt.blk (wpD_mono mB mNL d) ((h_7.1 c_9)))) (fun c_9 => Wt.blk (wpD_mono mB mNL d) ((h_7.2 c_9)))) (((((h_3.2 c_14).2 c_13).2 c_12).2 c_11).1 c_10))) (fun c_10 => Wt.blk (wpD_mono mB mNL d) ((((((h_3.2 c_14).2 c_13).2 c_12).2 c_11).2 c_10)))))))) h))
theorem v_X7_cools_0 {d : Nat} {k : mQ} {M : mM} (v1 : Int32) (v2 : Int32) (v3 : Int32)
  (h : wpD mB mNL d zX7_isNoHour [mI v1] M (fun r_2 M_1 => wI r_2 fun x_4 =>
  ((¬ x_4 = 0 → k (mI (-2)) M_1) ∧
     (x_4 = 0 → wpD mB mNL d zX7_areNoBrooks [mR 7 0 14, mI v2] M_1 (fun r_6 M_5 => wI r_6 fun x_8 =>
      ((¬ x_8 = 0 → k (mI (-2)) M_5) ∧
         (x_8 = 0 → wpD mB mNL d zX7_areNoDraws [mR 7 0 14, mI v3] M_5 (fun r_10 M_9 => wI r_10 fun x_12 =>
          ((x_12 = 0 → jJ kB_X7_cools d k 3 [mR 7 0 14, mI v1, mI v2, mI v3, mI 0] [] M_9) ∧
             (¬ x_12 = 0 → k (mI (-2)) M_9)))))))))) :
  wpD mB mNL (d + 1) zX7_cools [mR 7 0 14, mI v1, mI v2, mI v3] M k := (show jJ kB_X7_cools d k 0 [mR 7 0 14, mI v1, mI v2, mI v3, none] [] M from Wt.blk (wpD_mono mB mNL d) (cI (fun x_4 M_1 h_3 => And.intro (fun c_15 => Wt.blk (wpD_mono mB mNL d) ((h_3.1 c_15))) (fun c_15 => cI (fun x_8 M_5 h_7 => And.intro (fun c_14 => Wt.blk (wpD_mono mB mNL d) ((h_7.1 c_14))) (fun c_14 => cI (fun x_12 M_9 h_11 => And.intro (fun c_13 => Wt.blk (wpD_mono mB mNL d) ((h_11.1 c_13))) (fun c_13 => Wt.blk (wpD_mono mB mNL d) ((h_11.2 c_13)))) (h_7.2 c_14))) (h_3.2 c_15))) h))
theorem v_X7_cools_3 {d : Nat} {k : mQ} {M : mM} (v1 : Int32) (v2 : Int32) (v3 : Int32) (v4 : Int32)
  (h : ((1000 < v4 → k (mI (-6)) M) ∧
   (¬ 1000 < v4 → wpD mB mNL d zX0_follow [mR 0 0 23, mI v4, mI v1, mI v2, mI v3] M (fun r_17 M_16 => wV r_17 (
    ((¬ (M_16 23 2) = 0 → jJ kB_X7_cools d k 3 [mR 7 0 14, mI v1, mI v2, mI v3, mI (v4 + 1)] [] M_16) ∧
       ((M_16 23 2) = 0 → k (mI v4) M_16))))))) :
  jJ kB_X7_cools d k 3 [mR 7 0 14, mI v1, mI v2, mI v3, mI v4] [] M := Wt.blk (wpD_mono mB mNL d) (And.intro (fun c_20 => Wt.blk (wpD_mono mB mNL d) ((h.1 c_20))) (fun c_20 => cV (fun M_16 h_18 => And.intro (fun c_19 => Wt.blk (wpD_mono mB mNL d) ((h_18.1 c_19))) (fun c_19 => (h_18.2 c_19))) (h.2 c_20)))
theorem v_X7_put_0 {d : Nat} {k : mQ} {M : mM} (v1 : Int32) (v2 : Int32) (v3 : Int32)
  (h : wpD mB mNL d zX7_isNoKind [mI v2] M (fun r_2 M_1 => wI r_2 fun x_4 =>
  ((¬ x_4 = 0 → k (mI (-1)) M_1) ∧
     (x_4 = 0 → ((v3 < 0 → k (mI (-1)) M_1) ∧
       (¬ v3 < 0 → ((v3 ≤ (M_1 38 0) → wpD mB mNL d zX7_isNoHour [mI v1] M_1 (fun r_6 M_5 => wI r_6 fun x_8 =>
          ((x_8 = 0 → wpD mB mNL d zX2_isFull [mR 2 0 38] M_5 (fun r_10 M_9 => wI r_10 fun x_12 =>
              ((x_12 = 0 → wpD mB mNL d zX5_forgetPlans [mR 5 0 26] M_9 (fun r_14 M_13 => wV r_14 (
                  wpD mB mNL d zX2_copyOf [mR 2 0 27, mR 2 0 38] M_13 (fun r_17 M_16 => wV r_17 (
                    wpD mB mNL d zX2_insertHouse [mR 2 0 27, mI v2, mI v3] M_16 (fun r_20 M_19 => wV r_20 (
                      wpD mB mNL d zX5_improve [mR 5 0 26, mI v1] M_19 (fun r_23 M_22 => wI r_23 fun x_25 =>
                        k (mI (M_22 26 1)) M_22)))))))) ∧
                 (¬ x_12 = 0 → k (mI (-4)) M_9)))) ∧
             (¬ x_8 = 0 → k (mI (-2)) M_5)))) ∧
         (¬ v3 ≤ (M_1 38 0) → k (mI (-1)) M_1)))))))) :
  wpD mB mNL (d + 1) zX7_put [mR 7 0 14, mI v1, mI v2, mI v3] M k := (show jJ kB_X7_put d k 0 [mR 7 0 14, mI v1, mI v2, mI v3] [] M from Wt.blk (wpD_mono mB mNL d) (cI (fun x_4 M_1 h_3 => And.intro (fun c_30 => Wt.blk (wpD_mono mB mNL d) ((h_3.1 c_30))) (fun c_30 => And.intro (fun c_29 => Wt.blk (wpD_mono mB mNL d) (((h_3.2 c_30).1 c_29))) (fun c_29 => And.intro (fun c_28 => Wt.blk (wpD_mono mB mNL d) (cI (fun x_8 M_5 h_7 => And.intro (fun c_27 => Wt.blk (wpD_mono mB mNL d) (cI (fun x_12 M_9 h_11 => And.intro (fun c_26 => Wt.blk (wpD_mono mB mNL d) (cV (fun M_13 h_15 => cV (fun M_16 h_18 => cV (fun M_19 h_21 => cI (fun x_25 M_22 h_24 => h_24) h_21) h_18) h_15) (h_11.1 c_26))) (fun c_26 => (h_11.2 c_26))) (h_7.1 c_27))) (fun c_27 => (h_7.2 c_27))) (((h_3.2 c_30).2 c_29).1 c_28))) (fun c_28 => Wt.blk (wpD_mono mB mNL d) ((((h_3.2 c_30).2 c_29).2 c_28)))))) h))
theorem v_X7_where_0 {d : Nat} {k : mQ} {M : mM} (v1 : Int32) (v2 : Int32) (v3 : Int32)
  (h : wpD mB mNL d zX7_isNoKind [mI v2] M (fun r_2 M_1 => wI r_2 fun x_4 =>
  ((x_4 = 0 → wpD mB mNL d zX7_isNoHour [mI v1] M_1 (fun r_6 M_5 => wI r_6 fun x_8 =>
      ((¬ x_8 = 0 → k (mI (-2)) M_5) ∧
         (x_8 = 0 → ((v3 < 0 → k (mI (-2)) M_5) ∧
           (¬ v3 < 0 → ((v3 ≤ 1 → wpD mB mNL d zX2_isFull [mR 2 0 38] M_5 (fun r_10 M_9 => wI r_10 fun x_12 =>
              ((x_12 = 0 → wpD mB mNL d zX7_searchPlace [mR 7 0 14, mI v1, mI v2] M_9 (fun r_14 M_13 => wI r_14 fun x_16 =>
                  ((¬ v3 = 0 → k (mI (M_13 26 1)) M_13) ∧
                     (v3 = 0 → k (mI x_16) M_13)))) ∧
                 (¬ x_12 = 0 → k (mI (-4)) M_9)))) ∧
             (¬ v3 ≤ 1 → k (mI (-2)) M_5)))))))) ∧
     (¬ x_4 = 0 → k (mI (-1)) M_1)))) :
  wpD mB mNL (d + 1) zX7_where [mR 7 0 14, mI v1, mI v2, mI v3] M k := (show jJ kB_X7_where d k 0 [mR 7 0 14, mI v1, mI v2, mI v3, none] [] M from Wt.blk (wpD_mono mB mNL d) (cI (fun x_4 M_1 h_3 => And.intro (fun c_22 => Wt.blk (wpD_mono mB mNL d) (cI (fun x_8 M_5 h_7 => And.intro (fun c_21 => Wt.blk (wpD_mono mB mNL d) ((h_7.1 c_21))) (fun c_21 => And.intro (fun c_20 => Wt.blk (wpD_mono mB mNL d) (((h_7.2 c_21).1 c_20))) (fun c_20 => And.intro (fun c_19 => Wt.blk (wpD_mono mB mNL d) (cI (fun x_12 M_9 h_11 => And.intro (fun c_18 => Wt.blk (wpD_mono mB mNL d) (cI (fun x_16 M_13 h_15 => And.intro (fun c_17 => Wt.blk (wpD_mono mB mNL d) (Wt.blk (wpD_mono mB mNL d) ((h_15.1 c_17)))) (fun c_17 => Wt.blk (wpD_mono mB mNL d) ((h_15.2 c_17)))) (h_11.1 c_18))) (fun c_18 => (h_11.2 c_18))) (((h_7.2 c_21).2 c_20).1 c_19))) (fun c_19 => Wt.blk (wpD_mono mB mNL d) ((((h_7.2 c_21).2 c_20).2 c_19)))))) (h_3.1 c_22))) (fun c_22 => (h_3.2 c_22))) h))
theorem v_X7_order_0 {d : Nat} {k : mQ} {M : mM} (v1 : Int32) (v2 : Int32)
  (h : wpD mB mNL d zX7_isNoHour [mI v1] M (fun r_2 M_1 => wI r_2 fun x_4 =>
  ((¬ x_4 = 0 → k (mI (-2)) M_1) ∧
     (x_4 = 0 → ((v2 < (-1) → k (mI (-2)) M_1) ∧
       (¬ v2 < (-1) → ((v2 < (M_1 38 0) → (((M_1 38 0) ≤ 7 → wpD mB mNL d zX3_search [mR 3 0 32, mI v1] M_1 (fun r_6 M_5 => wV r_6 (
            (((M_5 32 0) = (-6) → k (mI (M_5 32 0)) M_5) ∧
               (¬ (M_5 32 0) = (-6) → ((¬ v2 = (-1) → wpD mB mNL d zX7_cell [mR 50 7 33, mI v2] M_5 (fun r_9 M_8 => wI r_9 fun x_11 =>
                  k (mI x_11) M_8)) ∧
                 (v2 = (-1) → k (mI (M_5 32 0)) M_5))))))) ∧
           (¬ (M_1 38 0) ≤ 7 → k (mI (-4)) M_1))) ∧
         (¬ v2 < (M_1 38 0) → k (mI (-2)) M_1)))))))) :
  wpD mB mNL (d + 1) zX7_order [mR 7 0 14, mI v1, mI v2] M k := (show jJ kB_X7_order d k 0 [mR 7 0 14, mI v1, mI v2] [] M from Wt.blk (wpD_mono mB mNL d) (cI (fun x_4 M_1 h_3 => And.intro (fun c_17 => Wt.blk (wpD_mono mB mNL d) ((h_3.1 c_17))) (fun c_17 => And.intro (fun c_16 => Wt.blk (wpD_mono mB mNL d) (((h_3.2 c_17).1 c_16))) (fun c_16 => And.intro (fun c_15 => Wt.blk (wpD_mono mB mNL d) (And.intro (fun c_14 => Wt.blk (wpD_mono mB mNL d) (cV (fun M_5 h_7 => And.intro (fun c_13 => Wt.blk (wpD_mono mB mNL d) ((h_7.1 c_13))) (fun c_13 => And.intro (fun c_12 => Wt.blk (wpD_mono mB mNL d) (cI (fun x_11 M_8 h_10 => h_10) ((h_7.2 c_13).1 c_12))) (fun c_12 => Wt.blk (wpD_mono mB mNL d) (((h_7.2 c_13).2 c_12))))) ((((h_3.2 c_17).2 c_16).1 c_15).1 c_14))) (fun c_14 => ((((h_3.2 c_17).2 c_16).1 c_15).2 c_14)))) (fun c_15 => Wt.blk (wpD_mono mB mNL d) ((((h_3.2 c_17).2 c_16).2 c_15)))))) h))
theorem v_X7_felt_0 {d : Nat} {k : mQ} {M : mM} (v1 : Int32) (v2 : Int32) (v3 : Int32)
  (h : wpD mB mNL d zX7_isNoHouse [mR 7 0 14, mI v1] M (fun r_2 M_1 => wI r_2 fun x_4 =>
  ((x_4 = 0 → ((v2 < 0 → k (mI (-2)) M_1) ∧
       (¬ v2 < 0 → ((1000 < v3 → k (mI (-2)) M_1) ∧
         (¬ 1000 < v3 → ((v2 ≤ v3 → wpD mB mNL d zX1_add [mR 1 0 42, mI v1, mI v2, mI v3] M_1 (fun r_6 M_5 => wI r_6 fun x_8 =>
            ((x_8 = 0 → k (mI (-4)) M_5) ∧
               (¬ x_8 = 0 → k (mI (M_5 42 0)) M_5)))) ∧
           (¬ v2 ≤ v3 → k (mI (-2)) M_1))))))) ∧
     (¬ x_4 = 0 → k (mI (-1)) M_1)))) :
  wpD mB mNL (d + 1) zX7_felt [mR 7 0 14, mI v1, mI v2, mI v3] M k := (show jJ kB_X7_felt d k 0 [mR 7 0 14, mI v1, mI v2, mI v3] [] M from Wt.blk (wpD_mono mB mNL d) (cI (fun x_4 M_1 h_3 => And.intro (fun c_13 => Wt.blk (wpD_mono mB mNL d) (And.intro (fun c_12 => Wt.blk (wpD_mono mB mNL d) (((h_3.1 c_13).1 c_12))) (fun c_12 => And.intro (fun c_11 => Wt.blk (wpD_mono mB mNL d) ((((h_3.1 c_13).2 c_12).1 c_11))) (fun c_11 => And.intro (fun c_10 => Wt.blk (wpD_mono mB mNL d) (cI (fun x_8 M_5 h_7 => And.intro (fun c_9 => Wt.blk (wpD_mono mB mNL d) (Wt.blk (wpD_mono mB mNL d) ((h_7.1 c_9)))) (fun c_9 => Wt.blk (wpD_mono mB mNL d) ((h_7.2 c_9)))) ((((h_3.1 c_13).2 c_12).2 c_11).1 c_10))) (fun c_10 => Wt.blk (wpD_mono mB mNL d) (((((h_3.1 c_13).2 c_12).2 c_11).2 c_10))))))) (fun c_13 => (h_3.2 c_13))) h))
theorem v_X7_forget_0 {d : Nat} {k : mQ} {M : mM} 
  (h : wpD mB mNL d zX1_clear [mR 1 0 42] M (fun r_2 M_1 => wI r_2 fun x_4 =>
  k (mI x_4) M_1)) :
  wpD mB mNL (d + 1) zX7_forget [mR 7 0 14] M k := (show jJ kB_X7_forget d k 0 [mR 7 0 14] [] M from Wt.blk (wpD_mono mB mNL d) (cI (fun x_4 M_1 h_3 => h_3) h))
theorem v_X7_fits_0 {d : Nat} {k : mQ} {M : mM} (v1 : Int32) (v2 : Int32) (v3 : Int32)
  (h : wpD mB mNL d zX7_isNoHour [mI v1] M (fun r_2 M_1 => wI r_2 fun x_4 =>
  ((¬ x_4 = 0 → k (mI (-2)) M_1) ∧
     (x_4 = 0 → wpD mB mNL d zX7_areNoDraws [mR 7 0 14, mI v2] M_1 (fun r_6 M_5 => wI r_6 fun x_8 =>
      ((x_8 = 0 → wpD mB mNL d zX7_gatherFitting [mR 7 0 14, mI v1, mI v2] M_5 (fun r_10 M_9 => wI r_10 fun x_12 =>
          ((¬ v3 = (-1) → ((v3 < 0 → k (mI (-6)) M_9) ∧
               (¬ v3 < 0 → ((x_12 ≤ v3 → k (mI (-6)) M_9) ∧
                 (¬ x_12 ≤ v3 → wpD mB mNL d zX7_cell [mR 50 16 68, mI v3] M_9 (fun r_14 M_13 => wI r_14 fun x_16 =>
                  k (mI x_16) M_13)))))) ∧
             (v3 = (-1) → k (mI x_12) M_9)))) ∧
         (¬ x_8 = 0 → k (mI (-2)) M_5))))))) :
  wpD mB mNL (d + 1) zX7_fits [mR 7 0 14, mI v1, mI v2, mI v3] M k := (show jJ kB_X7_fits d k 0 [mR 7 0 14, mI v1, mI v2, mI v3, none] [] M from Wt.blk (wpD_mono mB mNL d) (cI (fun x_4 M_1 h_3 => And.intro (fun c_21 => Wt.blk (wpD_mono mB mNL d) ((h_3.1 c_21))) (fun c_21 => cI (fun x_8 M_5 h_7 => And.intro (fun c_20 => Wt.blk (wpD_mono mB mNL d) (cI (fun x_12 M_9 h_11 => And.intro (fun c_19 => Wt.blk (wpD_mono mB mNL d) (And.intro (fun c_18 => Wt.blk (wpD_mono mB mNL d) (Wt.blk (wpD_mono mB mNL d) (((h_11.1 c_19).1 c_18)))) (fun c_18 => And.intro (fun c_17 => Wt.blk (wpD_mono mB mNL d) (Wt.blk (wpD_mono mB mNL d) ((((h_11.1 c_19).2 c_18).1 c_17)))) (fun c_17 => cI (fun x_16 M_13 h_15 => Wt.blk (wpD_mono mB mNL d) (h_15)) (((h_11.1 c_19).2 c_18).2 c_17))))) (fun c_19 => (h_11.2 c_19))) (h_7.1 c_20))) (fun c_20 => Wt.blk (wpD_mono mB mNL d) ((h_7.2 c_20)))) (h_3.2 c_21))) h))
theorem v_X7_door_0 {d : Nat} {k : mQ} {M : mM} (v1 : Int32) (v2 : Int32) (v3 : Int32)
  (h : wpD mB mNL d zX7_isNoHour [mI v1] M (fun r_2 M_1 => wI r_2 fun x_4 =>
  ((¬ x_4 = 0 → k (mI (-2)) M_1) ∧
     (x_4 = 0 → wpD mB mNL d zX7_areNoDraws [mR 7 0 14, mI v2] M_1 (fun r_6 M_5 => wI r_6 fun x_8 =>
      ((¬ x_8 = 0 → k (mI (-2)) M_5) ∧
         (x_8 = 0 → ((v3 < 0 → k (mI (-2)) M_5) ∧
           (¬ v3 < 0 → ((v3 ≤ 1 → wpD mB mNL d zX7_gatherFitting [mR 7 0 14, mI v1, mI v2] M_5 (fun r_10 M_9 => wI r_10 fun x_12 =>
              ((¬ x_12 = 0 → wpD mB mNL d zX7_mostAlike [mR 7 0 14, mI 0, mI x_12] M_9 (fun r_14 M_13 => wI r_14 fun x_16 =>
                  jJ kB_X7_door d k 4 [mR 7 0 14, mI v1, mI v2, mI v3, mI x_12, mI 0, mI x_16, mI 1, none] [] M_13)) ∧
                 (x_12 = 0 → k (mI (-6)) M_9)))) ∧
             (¬ v3 ≤ 1 → k (mI (-2)) M_5))))))))))) :
  wpD mB mNL (d + 1) zX7_door [mR 7 0 14, mI v1, mI v2, mI v3] M k := (show jJ kB_X7_door d k 0 [mR 7 0 14, mI v1, mI v2, mI v3, none, none, none, none, none] [] M from Wt.blk (wpD_mono mB mNL d) (cI (fun x_4 M_1 h_3 => And.intro (fun c_21 => Wt.blk (wpD_mono mB mNL d) ((h_3.1 c_21))) (fun c_21 => cI (fun x_8 M_5 h_7 => And.intro (fun c_20 => Wt.blk (wpD_mono mB mNL d) ((h_7.1 c_20))) (fun c_20 => And.intro (fun c_19 => Wt.blk (wpD_mono mB mNL d) (((h_7.2 c_20).1 c_19))) (fun c_19 => And.intro (fun c_18 => Wt.blk (wpD_mono mB mNL d) (cI (fun x_12 M_9 h_11 => And.intro (fun c_17 => Wt.blk (wpD_mono mB mNL d) (cI (fun x_16 M_13 h_15 => h_15) (h_11.1 c_17))) (fun c_17 => (h_11.2 c_17))) (((h_7.2 c_20).2 c_19).1 c_18))) (fun c_18 => Wt.blk (wpD_mono mB mNL d) ((((h_7.2 c_20).2 c_19).2 c_18)))))) (h_3.2 c_21))) h))
theorem v_X7_door_4 {d : Nat} {k : mQ} {M : mM} (v1 : Int32) (v2 : Int32) (v3 : Int32) (v4 : Int32) (v5 : Int32) (v6 : Int32) (v7 : Int32) (u8 : mV)
  (h : (((M 38 0) ≤ v7 → ((¬ v3 = 0 → k (mI v6) M) ∧
     (v3 = 0 → k (mI v5) M))) ∧
   (¬ (M 38 0) ≤ v7 → wpD mB mNL d zX7_mostAlike [mR 7 0 14, mI v7, mI v4] M (fun r_24 M_23 => wI r_24 fun x_26 =>
    ((v6 ≤ x_26 → jJ kB_X7_door d k 4 [mR 7 0 14, mI v1, mI v2, mI v3, mI v4, mI v5, mI v6, mI (v7 + 1), mI x_26] [] M_23) ∧
       (¬ v6 ≤ x_26 → jJ kB_X7_door d k 4 [mR 7 0 14, mI v1, mI v2, mI v3, mI v4, mI v7, mI x_26, mI (v7 + 1), mI x_26] [] M_23)))))) :
  jJ kB_X7_door d k 4 [mR 7 0 14, mI v1, mI v2, mI v3, mI v4, mI v5, mI v6, mI v7, u8] [] M := Wt.blk (wpD_mono mB mNL d) (And.intro (fun c_28 => Wt.blk (wpD_mono mB mNL d) (And.intro (fun c_22 => Wt.blk (wpD_mono mB mNL d) (Wt.blk (wpD_mono mB mNL d) (((h.1 c_28).1 c_22)))) (fun c_22 => Wt.blk (wpD_mono mB mNL d) (((h.1 c_28).2 c_22))))) (fun c_28 => cI (fun x_26 M_23 h_25 => And.intro (fun c_27 => Wt.blk (wpD_mono mB mNL d) ((h_25.1 c_27))) (fun c_27 => Wt.blk (wpD_mono mB mNL d) ((h_25.2 c_27)))) (h.2 c_28)))
theorem v_X7_winter_0 {d : Nat} {k : mQ} {M : mM} (v1 : Int32) (v2 : Int32) (v3 : Int32)
  (h : ((v1 < 0 → k (mI (-2)) M) ∧
   (¬ v1 < 0 → ((9999 < v1 → k (mI (-2)) M) ∧
     (¬ 9999 < v1 → ((v2 < 1 → k (mI (-2)) M) ∧
       (¬ v2 < 1 → ((30 < v2 → k (mI (-2)) M) ∧
         (¬ 30 < v2 → ((v3 < 0 → k (mI (-2)) M) ∧
           (¬ v3 < 0 → ((v3 ≤ 1 → jJ kB_X7_winter d k 3 [mR 7 0 14, mI v1, mI v2, mI v3, mI 0, mI 0, none, none, none, none] [] M) ∧
             (¬ v3 ≤ 1 → k (mI (-2)) M))))))))))))) :
  wpD mB mNL (d + 1) zX7_winter [mR 7 0 14, mI v1, mI v2, mI v3] M k := (show jJ kB_X7_winter d k 0 [mR 7 0 14, mI v1, mI v2, mI v3, none, none, none, none, none, none] [] M from Wt.blk (wpD_mono mB mNL d) (And.intro (fun c_6 => Wt.blk (wpD_mono mB mNL d) ((h.1 c_6))) (fun c_6 => And.intro (fun c_5 => Wt.blk (wpD_mono mB mNL d) (((h.2 c_6).1 c_5))) (fun c_5 => And.intro (fun c_4 => Wt.blk (wpD_mono mB mNL d) ((((h.2 c_6).2 c_5).1 c_4))) (fun c_4 => And.intro (fun c_3 => Wt.blk (wpD_mono mB mNL d) (((((h.2 c_6).2 c_5).2 c_4).1 c_3))) (fun c_3 => And.intro (fun c_2 => Wt.blk (wpD_mono mB mNL d) ((((((h.2 c_6).2 c_5).2 c_4).2 c_3).1 c_2))) (fun c_2 => And.intro (fun c_1 => Wt.blk (wpD_mono mB mNL d) (((((((h.2 c_6).2 c_5).2 c_4).2 c_3).2 c_2).1 c_1))) (fun c_1 => Wt.blk (wpD_mono mB mNL d) (((((((h.2 c_6).2 c_5).2 c_4).2 c_3).2 c_2).2 c_1))))))))))
theorem v_X7_winter_3 {d : Nat} {k : mQ} {M : mM} (v1 : Int32) (v2 : Int32) (v3 : Int32) (v4 : Int32) (v5 : Int32) (u6 : mV) (u7 : mV) (u8 : mV) (u9 : mV)
  (h : ((6 ≤ v5 → k (mI v4) M) ∧
   (¬ 6 ≤ v5 → wpD mB mNL d zX7_planAsItIs [mR 7 0 14, mI v5] M (fun r_8 M_7 => wV r_8 (
    ((¬ (M_7 26 1) = (-6) → jJ kB_X7_winter d k 5 [mR 7 0 14, mI v1, mI v2, mI v3, mI v4, mI v5, u6, u7, u8, u9] [mI (M_7 26 2)] M_7) ∧
       ((M_7 26 1) = (-6) → jJ kB_X7_winter d k 5 [mR 7 0 14, mI v1, mI v2, mI v3, mI v4, mI v5, u6, u7, u8, u9] [mI 0] M_7))))))) :
  jJ kB_X7_winter d k 3 [mR 7 0 14, mI v1, mI v2, mI v3, mI v4, mI v5, u6, u7, u8, u9] [] M := Wt.blk (wpD_mono mB mNL d) (And.intro (fun c_11 => Wt.blk (wpD_mono mB mNL d) ((h.1 c_11))) (fun c_11 => cV (fun M_7 h_9 => And.intro (fun c_10 => Wt.blk (wpD_mono mB mNL d) ((h_9.1 c_10))) (fun c_10 => (h_9.2 c_10))) (h.2 c_11)))
theorem v_X7_winter_5 {d : Nat} {k : mQ} {M : mM} (v1 : Int32) (v2 : Int32) (v3 : Int32) (v4 : Int32) (v5 : Int32) (u6 : mV) (u7 : mV) (u8 : mV) (u9 : mV) (s0 : Int32)
  (h : ((¬ (M 26 1) = (-6) → jJ kB_X7_winter d k 8 [mR 7 0 14, mI v1, mI v2, mI v3, mI v4, mI v5, mI s0, mI (M 26 3), mI v1, mI 0] [] M) ∧
   ((M 26 1) = (-6) → jJ kB_X7_winter d k 8 [mR 7 0 14, mI v1, mI v2, mI v3, mI v4, mI v5, mI s0, mI 0, mI v1, mI 0] [] M))) :
  jJ kB_X7_winter d k 5 [mR 7 0 14, mI v1, mI v2, mI v3, mI v4, mI v5, u6, u7, u8, u9] [mI s0] M := Wt.blk (wpD_mono mB mNL d) (And.intro (fun c_12 => Wt.blk (wpD_mono mB mNL d) (Wt.blk (wpD_mono mB mNL d) ((h.1 c_12)))) (fun c_12 => Wt.blk (wpD_mono mB mNL d) ((h.2 c_12))))
theorem v_X7_winter_8 {d : Nat} {k : mQ} {M : mM} (v1 : Int32) (v2 : Int32) (v3 : Int32) (v4 : Int32) (v5 : Int32) (v6 : Int32) (v7 : Int32) (v8 : Int32) (v9 : Int32)
  (h : ((v2 ≤ v9 → jJ kB_X7_winter d k 3 [mR 7 0 14, mI v1, mI v2, mI v3, mI v4, mI (v5 + 1), mI v6, mI v7, mI v8, mI v9] [] M) ∧
   (¬ v2 ≤ v9 → (¬ 65537 = (0 : Int32) ∧ wpD mB mNL d zX6_springValue [mR 6 0 35, mI 1] M (fun r_14 M_13 => wI r_14 fun x_16 =>
    (¬ 200 = (0 : Int32) ∧ wpD mB mNL d zX0_follow [mR 0 0 23, mI (if 0 < (x_16 - ((((75 * v8) + 74) - ((75 * v8) + 74) / 65537 * 65537) - (((75 * v8) + 74) - ((75 * v8) + 74) / 65537 * 65537) / 200 * 200)) then (x_16 - ((((75 * v8) + 74) - ((75 * v8) + 74) / 65537 * 65537) - (((75 * v8) + 74) - ((75 * v8) + 74) / 65537 * 65537) / 200 * 200)) else 0), mI v5, mI v6, mI v7] M_13 (fun r_18 M_17 => wV r_18 (
      ((¬ v3 = 0 → wpD mB mNL d zJ6_bitCount_0f7a4 [mI (M_17 23 1)] M_17 (fun r_21 M_20 => wI r_21 fun x_23 =>
          jJ kB_X7_winter d k 8 [mR 7 0 14, mI v1, mI v2, mI v3, mI (v4 + x_23), mI v5, mI v6, mI v7, mI (((75 * v8) + 74) - ((75 * v8) + 74) / 65537 * 65537), mI (v9 + 1)] [] M_20)) ∧
         (v3 = 0 → wpD mB mNL d zX0_worthOfServed [mR 0 0 23] M_17 (fun r_25 M_24 => wI r_25 fun x_27 =>
          jJ kB_X7_winter d k 8 [mR 7 0 14, mI v1, mI v2, mI v3, mI (v4 + x_27), mI v5, mI v6, mI v7, mI (((75 * v8) + 74) - ((75 * v8) + 74) / 65537 * 65537), mI (v9 + 1)] [] M_24))))))))))) :
  jJ kB_X7_winter d k 8 [mR 7 0 14, mI v1, mI v2, mI v3, mI v4, mI v5, mI v6, mI v7, mI v8, mI v9] [] M := Wt.blk (wpD_mono mB mNL d) (And.intro (fun c_29 => Wt.blk (wpD_mono mB mNL d) ((h.1 c_29))) (fun c_29 => And.intro (h.2 c_29).1 (cI (fun x_16 M_13 h_15 => And.intro h_15.1 (cV (fun M_17 h_19 => And.intro (fun c_28 => Wt.blk (wpD_mono mB mNL d) (cI (fun x_23 M_20 h_22 => Wt.blk (wpD_mono mB mNL d) (h_22)) (h_19.1 c_28))) (fun c_28 => cI (fun x_27 M_24 h_26 => Wt.blk (wpD_mono mB mNL d) (h_26)) (h_19.2 c_28))) h_15.2)) (h.2 c_29).2)))
theorem v_X7_image_0 {d : Nat} {k : mQ} {M : mM} (v1 : Int32)
  (h : ((v1 < 0 → k (mI (-2)) M) ∧
   (¬ v1 < 0 → ((v1 < 2 → wpD mB mNL d zX7_imageOf [mR 7 0 14, mI v1] M (fun r_2 M_1 => wR 6 r_2 fun x_4 =>
      wpD mB mNL d zX6_copyOf [mR 6 0 x_4, mR 6 0 35] M_1 (fun r_6 M_5 => wV r_6 (
        k (mI 1) (up M_5 14 4 ((M_5 14 4) ||| (1 <<< (v1 &&& 31)))))))) ∧
     (¬ v1 < 2 → k (mI (-2)) M))))) :
  wpD mB mNL (d + 1) zX7_image [mR 7 0 14, mI v1] M k := (show jJ kB_X7_image d k 0 [mR 7 0 14, mI v1] [] M from Wt.blk (wpD_mono mB mNL d) (And.intro (fun c_9 => Wt.blk (wpD_mono mB mNL d) ((h.1 c_9))) (fun c_9 => And.intro (fun c_8 => Wt.blk (wpD_mono mB mNL d) (cR (kd := 6) (fun x_4 M_1 h_3 => cV (fun M_5 h_7 => h_7) h_3) ((h.2 c_9).1 c_8))) (fun c_8 => Wt.blk (wpD_mono mB mNL d) (((h.2 c_9).2 c_8))))))
theorem v_X7_restore_0 {d : Nat} {k : mQ} {M : mM} (v1 : Int32)
  (h : ((v1 < 0 → k (mI (-2)) M) ∧
   (¬ v1 < 0 → ((v1 < 2 → wpD mB mNL d zX7_hasBit [mI (M 14 4), mI v1] M (fun r_2 M_1 => wI r_2 fun x_4 =>
      ((¬ x_4 = 0 → wpD mB mNL d zX7_imageOf [mR 7 0 14, mI v1] M_1 (fun r_6 M_5 => wR 6 r_6 fun x_8 =>
          wpD mB mNL d zX6_copyOf [mR 6 0 35, mR 6 0 x_8] M_5 (fun r_10 M_9 => wV r_10 (
            k (mI 1) M_9)))) ∧
         (x_4 = 0 → k (mI (-3)) M_1)))) ∧
     (¬ v1 < 2 → k (mI (-2)) M))))) :
  wpD mB mNL (d + 1) zX7_restore [mR 7 0 14, mI v1] M k := (show jJ kB_X7_restore d k 0 [mR 7 0 14, mI v1] [] M from Wt.blk (wpD_mono mB mNL d) (And.intro (fun c_14 => Wt.blk (wpD_mono mB mNL d) ((h.1 c_14))) (fun c_14 => And.intro (fun c_13 => Wt.blk (wpD_mono mB mNL d) (cI (fun x_4 M_1 h_3 => And.intro (fun c_12 => Wt.blk (wpD_mono mB mNL d) (cR (kd := 6) (fun x_8 M_5 h_7 => cV (fun M_9 h_11 => h_11) h_7) (h_3.1 c_12))) (fun c_12 => (h_3.2 c_12))) ((h.2 c_14).1 c_13))) (fun c_13 => Wt.blk (wpD_mono mB mNL d) (((h.2 c_14).2 c_13))))))
theorem v_X7_told_0 {d : Nat} {k : mQ} {M : mM} (v1 : Int32)
  (h : ((v1 < 10 → jJ kB_X7_told d k 1 [mR 7 0 14, mI v1, none] [] M) ∧
   (¬ v1 < 10 → ((14 < v1 → jJ kB_X7_told d k 1 [mR 7 0 14, mI v1, none] [] M) ∧
     (¬ 14 < v1 → wpD mB mNL d zX6_springValue [mR 6 0 35, mI (v1 - 10)] M (fun r_2 M_1 => wI r_2 fun x_4 =>
      k (mI x_4) M_1)))))) :
  wpD mB mNL (d + 1) zX7_told [mR 7 0 14, mI v1] M k := (show jJ kB_X7_told d k 0 [mR 7 0 14, mI v1, none] [] M from Wt.blk (wpD_mono mB mNL d) (And.intro (fun c_6 => (h.1 c_6)) (fun c_6 => And.intro (fun c_5 => ((h.2 c_6).1 c_5)) (fun c_5 => cI (fun x_4 M_1 h_3 => h_3) ((h.2 c_6).2 c_5)))))
theorem v_X7_told_1 {d : Nat} {k : mQ} {M : mM} (v1 : Int32) (u2 : mV)
  (h : ((v1 < 20 → jJ kB_X7_told d k 4 [mR 7 0 14, mI v1, u2] [] M) ∧
   (¬ v1 < 20 → ((69 < v1 → jJ kB_X7_told d k 4 [mR 7 0 14, mI v1, u2] [] M) ∧
     (¬ 69 < v1 → (¬ 10 = (0 : Int32) ∧ wpD mB mNL d zX7_isNoKind [mI (v1 - v1 / 10 * 10)] M (fun r_8 M_7 => wI r_8 fun x_10 =>
      ((x_10 = 0 → (¬ 10 = (0 : Int32) ∧ wpD mB mNL d zX6_kindValue [mR 6 0 35, mI ((v1 / 10) - 2), mI (v1 - v1 / 10 * 10)] M_7 (fun r_12 M_11 => wI r_12 fun x_14 =>
          k (mI x_14) M_11))) ∧
         (¬ x_10 = 0 → k (mI (-2)) M_7))))))))) :
  jJ kB_X7_told d k 1 [mR 7 0 14, mI v1, u2] [] M := Wt.blk (wpD_mono mB mNL d) (And.intro (fun c_17 => (h.1 c_17)) (fun c_17 => And.intro (fun c_16 => ((h.2 c_17).1 c_16)) (fun c_16 => And.intro ((h.2 c_17).2 c_16).1 (cI (fun x_10 M_7 h_9 => And.intro (fun c_15 => Wt.blk (wpD_mono mB mNL d) (And.intro (h_9.1 c_15).1 (cI (fun x_14 M_11 h_13 => Wt.blk (wpD_mono mB mNL d) (h_13)) (h_9.1 c_15).2))) (fun c_15 => Wt.blk (wpD_mono mB mNL d) ((h_9.2 c_15)))) ((h.2 c_17).2 c_16).2))))
theorem v_X7_told_4 {d : Nat} {k : mQ} {M : mM} (v1 : Int32) (u2 : mV)
  (h : ((v1.toInt < 0 ∨ 3 < v1.toInt → k (mI (-2)) M) ∧
   ((v1.toInt = 0 → k (mI (M 15 0)) M) ∧
   ((v1.toInt = 1 → k (mI (M 38 0)) M) ∧
   ((v1.toInt = 2 → k (mI (M 38 1)) M) ∧
   ((v1.toInt = 3 → k (mI (M 42 0)) M) ∧
   True)))))) :
  jJ kB_X7_told d k 4 [mR 7 0 14, mI v1, u2] [] M := Wt.blk (wpD_mono mB mNL d) (And.intro (fun c_18 => Wt.blk (wpD_mono mB mNL d) ((h.1 c_18))) (And.intro (fun c_18 => Wt.blk (wpD_mono mB mNL d) ((h.2.1 c_18))) (And.intro (fun c_18 => Wt.blk (wpD_mono mB mNL d) ((h.2.2.1 c_18))) (And.intro (fun c_18 => Wt.blk (wpD_mono mB mNL d) ((h.2.2.2.1 c_18))) (And.intro (fun c_18 => Wt.blk (wpD_mono mB mNL d) ((h.2.2.2.2.1 c_18))) (trivial))))))
theorem v_X7_isNoHour_0 {d : Nat} {k : mQ} {M : mM} (v0 : Int32)
  (h : ((v0 < 0 → k (mI 1) M) ∧
   (¬ v0 < 0 → ((v0 < 6 → k (mI 0) M) ∧
     (¬ v0 < 6 → k (mI 1) M))))) :
  wpD mB mNL (d + 1) zX7_isNoHour [mI v0] M k := (show jJ kB_X7_isNoHour d k 0 [mI v0] [] M from Wt.blk (wpD_mono mB mNL d) (And.intro (fun c_2 => Wt.blk (wpD_mono mB mNL d) (Wt.blk (wpD_mono mB mNL d) (And.intro (Or.inr rfl) (h.1 c_2)))) (fun c_2 => And.intro (fun c_1 => Wt.blk (wpD_mono mB mNL d) (Wt.blk (wpD_mono mB mNL d) (And.intro (Or.inl rfl) ((h.2 c_2).1 c_1)))) (fun c_1 => Wt.blk (wpD_mono mB mNL d) (Wt.blk (wpD_mono mB mNL d) (And.intro (Or.inr rfl) ((h.2 c_2).2 c_1)))))))
theorem v_X7_isNoKind_0 {d : Nat} {k : mQ} {M : mM} (v0 : Int32)
  (h : ((v0 < 0 → k (mI 1) M) ∧
   (¬ v0 < 0 → ((v0 < 6 → k (mI 0) M) ∧
     (¬ v0 < 6 → k (mI 1) M))))) :
  wpD mB mNL (d + 1) zX7_isNoKind [mI v0] M k := (show jJ kB_X7_isNoKind d k 0 [mI v0] [] M from Wt.blk (wpD_mono mB mNL d) (And.intro (fun c_2 => Wt.blk (wpD_mono mB mNL d) (Wt.blk (wpD_mono mB mNL d) (And.intro (Or.inr rfl) (h.1 c_2)))) (fun c_2 => And.intro (fun c_1 => Wt.blk (wpD_mono mB mNL d) (Wt.blk (wpD_mono mB mNL d) (And.intro (Or.inl rfl) ((h.2 c_2).1 c_1)))) (fun c_1 => Wt.blk (wpD_mono mB mNL d) (Wt.blk (wpD_mono mB mNL d) (And.intro (Or.inr rfl) ((h.2 c_2).2 c_1)))))))
theorem v_X7_isNoHouse_0 {d : Nat} {k : mQ} {M : mM} (v1 : Int32)
  (h : ((v1 < 0 → k (mI 1) M) ∧
   (¬ v1 < 0 → ((v1 < (M 38 0) → k (mI 0) M) ∧
     (¬ v1 < (M 38 0) → k (mI 1) M))))) :
  wpD mB mNL (d + 1) zX7_isNoHouse [mR 7 0 14, mI v1] M k := (show jJ kB_X7_isNoHouse d k 0 [mR 7 0 14, mI v1] [] M from Wt.blk (wpD_mono mB mNL d) (And.intro (fun c_2 => Wt.blk (wpD_mono mB mNL d) (Wt.blk (wpD_mono mB mNL d) (And.intro (Or.inr rfl) (h.1 c_2)))) (fun c_2 => And.intro (fun c_1 => Wt.blk (wpD_mono mB mNL d) (Wt.blk (wpD_mono mB mNL d) (And.intro (Or.inl rfl) ((h.2 c_2).1 c_1)))) (fun c_1 => Wt.blk (wpD_mono mB mNL d) (Wt.blk (wpD_mono mB mNL d) (And.intro (Or.inr rfl) ((h.2 c_2).2 c_1)))))))
theorem v_X7_areNoBrooks_0 {d : Nat} {k : mQ} {M : mM} (v1 : Int32)
  (h : ((v1 < 0 → k (mI 1) M) ∧
   (¬ v1 < 0 → wpD mB mNL d zX2_brookSets [mR 2 0 38] M (fun r_2 M_1 => wI r_2 fun x_4 =>
    ((v1 < x_4 → k (mI 0) M_1) ∧
       (¬ v1 < x_4 → k (mI 1) M_1)))))) :
  wpD mB mNL (d + 1) zX7_areNoBrooks [mR 7 0 14, mI v1] M k := (show jJ kB_X7_areNoBrooks d k 0 [mR 7 0 14, mI v1] [] M from Wt.blk (wpD_mono mB mNL d) (And.intro (fun c_6 => Wt.blk (wpD_mono mB mNL d) (Wt.blk (wpD_mono mB mNL d) (And.intro (Or.inr rfl) (h.1 c_6)))) (fun c_6 => cI (fun x_4 M_1 h_3 => And.intro (fun c_5 => Wt.blk (wpD_mono mB mNL d) (Wt.blk (wpD_mono mB mNL d) (And.intro (Or.inl rfl) (h_3.1 c_5)))) (fun c_5 => Wt.blk (wpD_mono mB mNL d) (Wt.blk (wpD_mono mB mNL d) (And.intro (Or.inr rfl) (h_3.2 c_5))))) (h.2 c_6))))
theorem v_X7_areNoDraws_0 {d : Nat} {k : mQ} {M : mM} (v1 : Int32)
  (h : ((v1 < 0 → k (mI 1) M) ∧
   (¬ v1 < 0 → wpD mB mNL d zX2_houseSets [mR 2 0 38] M (fun r_2 M_1 => wI r_2 fun x_4 =>
    ((v1 < x_4 → k (mI 0) M_1) ∧
       (¬ v1 < x_4 → k (mI 1) M_1)))))) :
  wpD mB mNL (d + 1) zX7_areNoDraws [mR 7 0 14, mI v1] M k := (show jJ kB_X7_areNoDraws d k 0 [mR 7 0 14, mI v1] [] M from Wt.blk (wpD_mono mB mNL d) (And.intro (fun c_6 => Wt.blk (wpD_mono mB mNL d) (Wt.blk (wpD_mono mB mNL d) (And.intro (Or.inr rfl) (h.1 c_6)))) (fun c_6 => cI (fun x_4 M_1 h_3 => And.intro (fun c_5 => Wt.blk (wpD_mono mB mNL d) (Wt.blk (wpD_mono mB mNL d) (And.intro (Or.inl rfl) (h_3.1 c_5)))) (fun c_5 => Wt.blk (wpD_mono mB mNL d) (Wt.blk (wpD_mono mB mNL d) (And.intro (Or.inr rfl) (h_3.2 c_5))))) (h.2 c_6))))
theorem v_X7_imageOf_0 {d : Nat} {k : mQ} {M : mM} (v1 : Int32)
  (h : ((¬ v1 = 0 → k (mR 6 0 57) M) ∧
   (v1 = 0 → k (mR 6 0 46) M))) :
  wpD mB mNL (d + 1) zX7_imageOf [mR 7 0 14, mI v1] M k := (show jJ kB_X7_imageOf d k 0 [mR 7 0 14, mI v1] [] M from Wt.blk (wpD_mono mB mNL d) (And.intro (fun c_1 => Wt.blk (wpD_mono mB mNL d) (Wt.blk (wpD_mono mB mNL d) ((h.1 c_1)))) (fun c_1 => Wt.blk (wpD_mono mB mNL d) ((h.2 c_1)))))
theorem v_X7_planAsItIs_0 {d : Nat} {k : mQ} {M : mM} (v1 : Int32)
  (h : wpD mB mNL d zX5_forgetPlans [mR 5 0 26] M (fun r_2 M_1 => wV r_2 (
  wpD mB mNL d zX2_copyOf [mR 2 0 27, mR 2 0 38] M_1 (fun r_5 M_4 => wV r_5 (
    wpD mB mNL d zX5_improve [mR 5 0 26, mI v1] M_4 (fun r_8 M_7 => wI r_8 fun x_10 =>
      k none M_7)))))) :
  wpD mB mNL (d + 1) zX7_planAsItIs [mR 7 0 14, mI v1] M k := (show jJ kB_X7_planAsItIs d k 0 [mR 7 0 14, mI v1] [] M from Wt.blk (wpD_mono mB mNL d) (cV (fun M_1 h_3 => cV (fun M_4 h_6 => cI (fun x_10 M_7 h_9 => h_9) h_6) h_3) h))
theorem v_X7_searchMoss_0 {d : Nat} {k : mQ} {M : mM} (v1 : Int32) (v2 : Int32)
  (h : wpD mB mNL d zX2_pipeBits [mR 2 0 38] M (fun r_2 M_1 => wI r_2 fun x_4 =>
  wpD mB mNL d zJ6_bitCount_0f7a4 [mI x_4] M_1 (fun r_6 M_5 => wI r_6 fun x_8 =>
    wpD mB mNL d zX5_forgetPlans [mR 5 0 26] M_5 (fun r_10 M_9 => wV r_10 (
      jJ kB_X7_searchMoss d k 1 [mR 7 0 14, mI v1, mI v2, mI (-6), mI x_4, mI (if x_8 < v2 then x_8 else v2), mI 0, none] [] M_9))))) :
  wpD mB mNL (d + 1) zX7_searchMoss [mR 7 0 14, mI v1, mI v2] M k := (show jJ kB_X7_searchMoss d k 0 [mR 7 0 14, mI v1, mI v2, none, none, none, none, none] [] M from Wt.blk (wpD_mono mB mNL d) (cI (fun x_4 M_1 h_3 => cI (fun x_8 M_5 h_7 => cV (fun M_9 h_11 => h_11) h_7) h_3) h))
theorem v_X7_searchMoss_1 {d : Nat} {k : mQ} {M : mM} (v1 : Int32) (v2 : Int32) (v3 : Int32) (v4 : Int32) (v5 : Int32) (v6 : Int32) (u7 : mV)
  (h : ((v5 < v6 → k (mI v3) M) ∧
   (¬ v5 < v6 → jJ kB_X7_searchMoss d k 2 [mR 7 0 14, mI v1, mI v2, mI v3, mI v4, mI v5, mI v6, mI 0] [] M))) :
  jJ kB_X7_searchMoss d k 1 [mR 7 0 14, mI v1, mI v2, mI v3, mI v4, mI v5, mI v6, u7] [] M := Wt.blk (wpD_mono mB mNL d) (And.intro (fun c_12 => Wt.blk (wpD_mono mB mNL d) ((h.1 c_12))) (fun c_12 => (h.2 c_12)))
theorem v_X7_searchMoss_2 {d : Nat} {k : mQ} {M : mM} (v1 : Int32) (v2 : Int32) (v3 : Int32) (v4 : Int32) (v5 : Int32) (v6 : Int32) (v7 : Int32)
  (h : wpD mB mNL d zX2_houseSets [mR 2 0 38] M (fun r_14 M_13 => wI r_14 fun x_16 =>
  ((x_16 ≤ v7 → jJ kB_X7_searchMoss d k 1 [mR 7 0 14, mI v1, mI v2, mI v3, mI v4, mI v5, mI (v6 + 1), mI v7] [] M_13) ∧
     (¬ x_16 ≤ v7 → ((¬ (v7 &&& (v4 ^^^ (-1))) = 0 → jJ kB_X7_searchMoss d k 2 [mR 7 0 14, mI v1, mI v2, mI v3, mI v4, mI v5, mI v6, mI (v7 + 1)] [] M_13) ∧
       ((v7 &&& (v4 ^^^ (-1))) = 0 → wpD mB mNL d zJ6_bitCount_0f7a4 [mI v7] M_13 (fun r_18 M_17 => wI r_18 fun x_20 =>
        ((¬ x_20 = v6 → jJ kB_X7_searchMoss d k 2 [mR 7 0 14, mI v1, mI v2, mI v3, mI v4, mI v5, mI v6, mI (v7 + 1)] [] M_17) ∧
           (x_20 = v6 → wpD mB mNL d zX2_copyOf [mR 2 0 27, mR 2 0 38] M_17 (fun r_22 M_21 => wV r_22 (
            wpD mB mNL d zX2_coverPipes [mR 2 0 27, mI v7] M_21 (fun r_25 M_24 => wV r_25 (
              wpD mB mNL d zX5_improve [mR 5 0 26, mI v1] M_24 (fun r_28 M_27 => wI r_28 fun x_30 =>
                ((x_30 = 0 → jJ kB_X7_searchMoss d k 2 [mR 7 0 14, mI v1, mI v2, mI v3, mI v4, mI v5, mI v6, mI (v7 + 1)] [] M_27) ∧
                   (¬ x_30 = 0 → jJ kB_X7_searchMoss d k 2 [mR 7 0 14, mI v1, mI v2, mI v7, mI v4, mI v5, mI v6, mI (v7 + 1)] [] M_27)))))))))))))))) :
  jJ kB_X7_searchMoss d k 2 [mR 7 0 14, mI v1, mI v2, mI v3, mI v4, mI v5, mI v6, mI v7] [] M := Wt.blk (wpD_mono mB mNL d) (cI (fun x_16 M_13 h_15 => And.intro (fun c_34 => Wt.blk (wpD_mono mB mNL d) ((h_15.1 c_34))) (fun c_34 => And.intro (fun c_33 => Wt.blk (wpD_mono mB mNL d) (((h_15.2 c_34).1 c_33))) (fun c_33 => cI (fun x_20 M_17 h_19 => And.intro (fun c_32 => Wt.blk (wpD_mono mB mNL d) ((h_19.1 c_32))) (fun c_32 => cV (fun M_21 h_23 => cV (fun M_24 h_26 => cI (fun x_30 M_27 h_29 => And.intro (fun c_31 => Wt.blk (wpD_mono mB mNL d) ((h_29.1 c_31))) (fun c_31 => Wt.blk (wpD_mono mB mNL d) ((h_29.2 c_31)))) h_26) h_23) (h_19.2 c_32))) ((h_15.2 c_34).2 c_33)))) h)
theorem v_X7_searchPlace_0 {d : Nat} {k : mQ} {M : mM} (v1 : Int32) (v2 : Int32)
  (h : wpD mB mNL d zX5_forgetPlans [mR 5 0 26] M (fun r_2 M_1 => wV r_2 (
  jJ kB_X7_searchPlace d k 1 [mR 7 0 14, mI v1, mI v2, mI (-6), mI 0] [] M_1))) :
  wpD mB mNL (d + 1) zX7_searchPlace [mR 7 0 14, mI v1, mI v2] M k := (show jJ kB_X7_searchPlace d k 0 [mR 7 0 14, mI v1, mI v2, none, none] [] M from Wt.blk (wpD_mono mB mNL d) (cV (fun M_1 h_3 => h_3) h))
theorem v_X7_searchPlace_1 {d : Nat} {k : mQ} {M : mM} (v1 : Int32) (v2 : Int32) (v3 : Int32) (v4 : Int32)
  (h : (((M 38 0) < v4 → k (mI v3) M) ∧
   (¬ (M 38 0) < v4 → wpD mB mNL d zX2_copyOf [mR 2 0 27, mR 2 0 38] M (fun r_5 M_4 => wV r_5 (
    wpD mB mNL d zX2_insertHouse [mR 2 0 27, mI v2, mI v4] M_4 (fun r_8 M_7 => wV r_8 (
      wpD mB mNL d zX5_improve [mR 5 0 26, mI v1] M_7 (fun r_11 M_10 => wI r_11 fun x_13 =>
        ((x_13 = 0 → jJ kB_X7_searchPlace d k 1 [mR 7 0 14, mI v1, mI v2, mI v3, mI (v4 + 1)] [] M_10) ∧
           (¬ x_13 = 0 → jJ kB_X7_searchPlace d k 1 [mR 7 0 14, mI v1, mI v2, mI v4, mI (v4 + 1)] [] M_10)))))))))) :
  jJ kB_X7_searchPlace d k 1 [mR 7 0 14, mI v1, mI v2, mI v3, mI v4] [] M := Wt.blk (wpD_mono mB mNL d) (And.intro (fun c_15 => Wt.blk (wpD_mono mB mNL d) ((h.1 c_15))) (fun c_15 => cV (fun M_4 h_6 => cV (fun M_7 h_9 => cI (fun x_13 M_10 h_12 => And.intro (fun c_14 => Wt.blk (wpD_mono mB mNL d) ((h_12.1 c_14))) (fun c_14 => Wt.blk (wpD_mono mB mNL d) ((h_12.2 c_14)))) h_9) h_6) (h.2 c_15)))
theorem v_X7_gatherFitting_0 {d : Nat} {k : mQ} {M : mM} (v1 : Int32) (v2 : Int32)
  (h : jJ kB_X7_gatherFitting d k 1 [mR 7 0 14, mI v1, mI v2, mI 0, mI 0, none] [] M) :
  wpD mB mNL (d + 1) zX7_gatherFitting [mR 7 0 14, mI v1, mI v2] M k := (show jJ kB_X7_gatherFitting d k 0 [mR 7 0 14, mI v1, mI v2, none, none, none] [] M from Wt.blk (wpD_mono mB mNL d) (h))
theorem v_X7_gatherFitting_1 {d : Nat} {k : mQ} {M : mM} (v1 : Int32) (v2 : Int32) (v3 : Int32) (v4 : Int32) (u5 : mV)
  (h : wpD mB mNL d zX2_brookSets [mR 2 0 38] M (fun r_2 M_1 => wI r_2 fun x_4 =>
  ((x_4 ≤ v4 → k (mI v3) M_1) ∧
     (¬ x_4 ≤ v4 → wpD mB mNL d zX6_springValue [mR 6 0 35, mI 1] M_1 (fun r_6 M_5 => wI r_6 fun x_8 =>
      wpD mB mNL d zX0_follow [mR 0 0 23, mI x_8, mI v1, mI v4, mI v2] M_5 (fun r_10 M_9 => wV r_10 (
        wpD mB mNL d zX1_fitsTo [mR 1 0 42, mR 0 0 23] M_9 (fun r_13 M_12 => wI r_13 fun x_15 =>
          ((x_15 = 0 → jJ kB_X7_gatherFitting d k 1 [mR 7 0 14, mI v1, mI v2, mI v3, mI (v4 + 1), u5] [] M_12) ∧
             (¬ x_15 = 0 → wpD mB mNL d zX7_setCell [mR 50 16 68, mI v3, mI v4] M_12 (fun r_17 M_16 => wV r_17 (
              jJ kB_X7_gatherFitting d k 2 [mR 7 0 14, mI v1, mI v2, mI v3, mI v4, mI 0] [] M_16)))))))))))) :
  jJ kB_X7_gatherFitting d k 1 [mR 7 0 14, mI v1, mI v2, mI v3, mI v4, u5] [] M := Wt.blk (wpD_mono mB mNL d) (cI (fun x_4 M_1 h_3 => And.intro (fun c_20 => Wt.blk (wpD_mono mB mNL d) ((h_3.1 c_20))) (fun c_20 => cI (fun x_8 M_5 h_7 => cV (fun M_9 h_11 => cI (fun x_15 M_12 h_14 => And.intro (fun c_19 => Wt.blk (wpD_mono mB mNL d) ((h_14.1 c_19))) (fun c_19 => cV (fun M_16 h_18 => h_18) (h_14.2 c_19))) h_11) h_7) (h_3.2 c_20))) h)
theorem v_X7_gatherFitting_2 {d : Nat} {k : mQ} {M : mM} (v1 : Int32) (v2 : Int32) (v3 : Int32) (v4 : Int32) (v5 : Int32)
  (h : (((M 38 0) ≤ v5 → jJ kB_X7_gatherFitting d k 1 [mR 7 0 14, mI v1, mI v2, mI (v3 + 1), mI (v4 + 1), mI v5] [] M) ∧
   (¬ (M 38 0) ≤ v5 → wpD mB mNL d zX0_tenthsAt [mR 0 0 23, mI v5] M (fun r_22 M_21 => wI r_22 fun x_24 =>
    wpD mB mNL d zX7_setCell [mR 50 128 69, mI ((v3 * 8) + v5), mI x_24] M_21 (fun r_26 M_25 => wV r_26 (
      jJ kB_X7_gatherFitting d k 2 [mR 7 0 14, mI v1, mI v2, mI v3, mI v4, mI (v5 + 1)] [] M_25)))))) :
  jJ kB_X7_gatherFitting d k 2 [mR 7 0 14, mI v1, mI v2, mI v3, mI v4, mI v5] [] M := Wt.blk (wpD_mono mB mNL d) (And.intro (fun c_28 => Wt.blk (wpD_mono mB mNL d) (Wt.blk (wpD_mono mB mNL d) ((h.1 c_28)))) (fun c_28 => cI (fun x_24 M_21 h_23 => cV (fun M_25 h_27 => h_27) h_23) (h.2 c_28)))
theorem v_X7_mostAlike_0 {d : Nat} {k : mQ} {M : mM} (v1 : Int32) (v2 : Int32)
  (h : jJ kB_X7_mostAlike d k 1 [mR 7 0 14, mI v1, mI v2, mI 0, mI 0, none, none, none] [] M) :
  wpD mB mNL (d + 1) zX7_mostAlike [mR 7 0 14, mI v1, mI v2] M k := (show jJ kB_X7_mostAlike d k 0 [mR 7 0 14, mI v1, mI v2, none, none, none, none, none] [] M from Wt.blk (wpD_mono mB mNL d) (h))
theorem v_X7_mostAlike_1 {d : Nat} {k : mQ} {M : mM} (v1 : Int32) (v2 : Int32) (v3 : Int32) (v4 : Int32) (u5 : mV) (u6 : mV) (u7 : mV)
  (h : ((v2 ≤ v4 → k (mI v3) M) ∧
   (¬ v2 ≤ v4 → wpD mB mNL d zX7_cell [mR 50 128 69, mI ((v4 * 8) + v1)] M (fun r_2 M_1 => wI r_2 fun x_4 =>
    jJ kB_X7_mostAlike d k 2 [mR 7 0 14, mI v1, mI v2, mI v3, mI v4, mI x_4, mI 0, mI 0] [] M_1)))) :
  jJ kB_X7_mostAlike d k 1 [mR 7 0 14, mI v1, mI v2, mI v3, mI v4, u5, u6, u7] [] M := Wt.blk (wpD_mono mB mNL d) (And.intro (fun c_5 => Wt.blk (wpD_mono mB mNL d) ((h.1 c_5))) (fun c_5 => cI (fun x_4 M_1 h_3 => h_3) (h.2 c_5)))
theorem v_X7_mostAlike_2 {d : Nat} {k : mQ} {M : mM} (v1 : Int32) (v2 : Int32) (v3 : Int32) (v4 : Int32) (v5 : Int32) (v6 : Int32) (v7 : Int32)
  (h : ((v2 ≤ v7 → jJ kB_X7_mostAlike d k 1 [mR 7 0 14, mI v1, mI v2, mI (if v3 < v6 then v6 else v3), mI (v4 + 1), mI v5, mI v6, mI v7] [] M) ∧
   (¬ v2 ≤ v7 → wpD mB mNL d zX7_cell [mR 50 128 69, mI ((v7 * 8) + v1)] M (fun r_7 M_6 => wI r_7 fun x_9 =>
    ((¬ x_9 = v5 → jJ kB_X7_mostAlike d k 2 [mR 7 0 14, mI v1, mI v2, mI v3, mI v4, mI v5, mI v6, mI (v7 + 1)] [] M_6) ∧
       (x_9 = v5 → jJ kB_X7_mostAlike d k 2 [mR 7 0 14, mI v1, mI v2, mI v3, mI v4, mI v5, mI (v6 + 1), mI (v7 + 1)] [] M_6)))))) :
  jJ kB_X7_mostAlike d k 2 [mR 7 0 14, mI v1, mI v2, mI v3, mI v4, mI v5, mI v6, mI v7] [] M := Wt.blk (wpD_mono mB mNL d) (And.intro (fun c_11 => Wt.blk (wpD_mono mB mNL d) ((h.1 c_11))) (fun c_11 => cI (fun x_9 M_6 h_8 => And.intro (fun c_10 => Wt.blk (wpD_mono mB mNL d) ((h_8.1 c_10))) (fun c_10 => Wt.blk (wpD_mono mB mNL d) ((h_8.2 c_10)))) (h.2 c_11)))
theorem v_X7_cell_0 {d : Nat} {k : mQ} {M : mM} (L0 r0 : Nat) (v1 : Int32)
  (h : ((v1 < 0 → k (mI 0) M) ∧
   (¬ v1 < 0 → (((Int32.ofNat L0) ≤ v1 → k (mI 0) M) ∧
     (¬ (Int32.ofNat L0) ≤ v1 → (vp_in v1 L0 ∧ k (mI (M r0 (v1.toNatClampNeg))) M)))))) :
  wpD mB mNL (d + 1) zX7_cell [mR 50 L0 r0, mI v1] M k := (show jJ kB_X7_cell d k 0 [mR 50 L0 r0, mI v1] [] M from Wt.blk (wpD_mono mB mNL d) (And.intro (fun c_2 => Wt.blk (wpD_mono mB mNL d) (Wt.blk (wpD_mono mB mNL d) ((h.1 c_2)))) (fun c_2 => And.intro (fun c_1 => Wt.blk (wpD_mono mB mNL d) (Wt.blk (wpD_mono mB mNL d) (((h.2 c_2).1 c_1)))) (fun c_1 => And.intro ((h.2 c_2).2 c_1).1 (Wt.blk (wpD_mono mB mNL d) (((h.2 c_2).2 c_1).2))))))
theorem v_X7_cell_ro_0 {d : Nat} {k : mQ} {M : mM} (L0 r0 : Nat) (v1 : Int32)
  (h : ((v1 < 0 → k (mI 0) M) ∧
   (¬ v1 < 0 → (((Int32.ofNat L0) ≤ v1 → k (mI 0) M) ∧
     (¬ (Int32.ofNat L0) ≤ v1 → (vp_in v1 L0 ∧ k (mI (M (1000 + r0) (v1.toNatClampNeg))) M)))))) :
  wpD mB mNL (d + 1) zX7_cell [mR 51 L0 r0, mI v1] M k := (show jJ kB_X7_cell d k 0 [mR 51 L0 r0, mI v1] [] M from Wt.blk (wpD_mono mB mNL d) (And.intro (fun c_2 => Wt.blk (wpD_mono mB mNL d) (Wt.blk (wpD_mono mB mNL d) ((h.1 c_2)))) (fun c_2 => And.intro (fun c_1 => Wt.blk (wpD_mono mB mNL d) (Wt.blk (wpD_mono mB mNL d) (((h.2 c_2).1 c_1)))) (fun c_1 => And.intro ((h.2 c_2).2 c_1).1 (Wt.blk (wpD_mono mB mNL d) (((h.2 c_2).2 c_1).2))))))
theorem v_X7_setCell_0 {d : Nat} {k : mQ} {M : mM} (L0 r0 : Nat) (v1 : Int32) (v2 : Int32)
  (h : ((v1 < 0 → k none M) ∧
   (¬ v1 < 0 → (((Int32.ofNat L0) ≤ v1 → k none M) ∧
     (¬ (Int32.ofNat L0) ≤ v1 → (vp_in v1 L0 ∧ k none (up M r0 (v1.toNatClampNeg) v2))))))) :
  wpD mB mNL (d + 1) zX7_setCell [mR 50 L0 r0, mI v1, mI v2] M k := (show jJ kB_X7_setCell d k 0 [mR 50 L0 r0, mI v1, mI v2] [] M from Wt.blk (wpD_mono mB mNL d) (And.intro (fun c_2 => Wt.blk (wpD_mono mB mNL d) ((h.1 c_2))) (fun c_2 => And.intro (fun c_1 => Wt.blk (wpD_mono mB mNL d) (((h.2 c_2).1 c_1))) (fun c_1 => And.intro ((h.2 c_2).2 c_1).1 (Wt.blk (wpD_mono mB mNL d) (((h.2 c_2).2 c_1).2))))))
theorem v_X7_exchange_0 {d : Nat} {k : mQ} {M : mM} (L0 r0 : Nat) (v1 : Int32) (v2 : Int32)
  (h : wpD mB mNL d zX7_cell [mR 50 L0 r0, mI v1] M (fun r_2 M_1 => wI r_2 fun x_4 =>
  wpD mB mNL d zX7_setCell [mR 50 L0 r0, mI v1, mI v2] M_1 (fun r_6 M_5 => wV r_6 (
    k (mI x_4) M_5)))) :
  wpD mB mNL (d + 1) zX7_exchange [mR 50 L0 r0, mI v1, mI v2] M k := (show jJ kB_X7_exchange d k 0 [mR 50 L0 r0, mI v1, mI v2, none] [] M from Wt.blk (wpD_mono mB mNL d) (cI (fun x_4 M_1 h_3 => cV (fun M_5 h_7 => h_7) h_3) h))
theorem v_X7_copyRow_0 {d : Nat} {k : mQ} {M : mM} (L0 r0 : Nat) (L1 r1 : Nat)
  (h : jJ kB_X7_copyRow d k 1 [mR 50 L0 r0, mR 50 L1 r1, mI 0] [] M) :
  wpD mB mNL (d + 1) zX7_copyRow [mR 50 L0 r0, mR 50 L1 r1] M k := (show jJ kB_X7_copyRow d k 0 [mR 50 L0 r0, mR 50 L1 r1, none] [] M from Wt.blk (wpD_mono mB mNL d) (h))
theorem v_X7_copyRow_1 {d : Nat} {k : mQ} {M : mM} (L0 r0 : Nat) (L1 r1 : Nat) (v2 : Int32)
  (h : (((Int32.ofNat L0) ≤ v2 → k none M) ∧
   (¬ (Int32.ofNat L0) ≤ v2 → (((Int32.ofNat L1) ≤ v2 → k none M) ∧
     (¬ (Int32.ofNat L1) ≤ v2 → (vp_in v2 L0 ∧ (vp_in v2 L1 ∧ jJ kB_X7_copyRow d k 1 [mR 50 L0 r0, mR 50 L1 r1, mI (v2 + 1)] [] (up M r1 (v2.toNatClampNeg) (M r0 (v2.toNatClampNeg)))))))))) :
  jJ kB_X7_copyRow d k 1 [mR 50 L0 r0, mR 50 L1 r1, mI v2] [] M := Wt.blk (wpD_mono mB mNL d) (And.intro (fun c_2 => Wt.blk (wpD_mono mB mNL d) ((h.1 c_2))) (fun c_2 => And.intro (fun c_1 => Wt.blk (wpD_mono mB mNL d) (((h.2 c_2).1 c_1))) (fun c_1 => And.intro ((h.2 c_2).2 c_1).1 (And.intro ((h.2 c_2).2 c_1).2.1 (((h.2 c_2).2 c_1).2.2)))))
theorem v_X7_hasBit_0 {d : Nat} {k : mQ} {M : mM} (v0 : Int32) (v1 : Int32)
  (h : ((v1 < 0 → k (mI 0) M) ∧
   (¬ v1 < 0 → ((32 ≤ v1 → k (mI 0) M) ∧
     (¬ 32 ≤ v1 → ((((v0 >>> (v1 &&& 31)) &&& 1) = 0 → k (mI 0) M) ∧
       (¬ ((v0 >>> (v1 &&& 31)) &&& 1) = 0 → k (mI 1) M))))))) :
  wpD mB mNL (d + 1) zX7_hasBit [mI v0, mI v1] M k := (show jJ kB_X7_hasBit d k 0 [mI v0, mI v1] [] M from Wt.blk (wpD_mono mB mNL d) (And.intro (fun c_3 => Wt.blk (wpD_mono mB mNL d) (Wt.blk (wpD_mono mB mNL d) (And.intro (Or.inl rfl) (h.1 c_3)))) (fun c_3 => And.intro (fun c_2 => Wt.blk (wpD_mono mB mNL d) (Wt.blk (wpD_mono mB mNL d) (And.intro (Or.inl rfl) ((h.2 c_3).1 c_2)))) (fun c_2 => And.intro (fun c_1 => Wt.blk (wpD_mono mB mNL d) (Wt.blk (wpD_mono mB mNL d) (And.intro (Or.inl rfl) (((h.2 c_3).2 c_2).1 c_1)))) (fun c_1 => Wt.blk (wpD_mono mB mNL d) (And.intro (Or.inr rfl) (((h.2 c_3).2 c_2).2 c_1)))))))
theorem v_X7_lowestBit_0 {d : Nat} {k : mQ} {M : mM} (v0 : Int32)
  (h : jJ kB_X7_lowestBit d k 1 [mI v0, mI 0] [] M) :
  wpD mB mNL (d + 1) zX7_lowestBit [mI v0] M k := (show jJ kB_X7_lowestBit d k 0 [mI v0, none] [] M from Wt.blk (wpD_mono mB mNL d) (h))
theorem v_X7_lowestBit_1 {d : Nat} {k : mQ} {M : mM} (v0 : Int32) (v1 : Int32)
  (h : ((32 ≤ v1 → k (mI (-6)) M) ∧
   (¬ 32 ≤ v1 → wpD mB mNL d zX7_hasBit [mI v0, mI v1] M (fun r_2 M_1 => wI r_2 fun x_4 =>
    ((x_4 = 0 → jJ kB_X7_lowestBit d k 1 [mI v0, mI (v1 + 1)] [] M_1) ∧
       (¬ x_4 = 0 → k (mI v1) M_1)))))) :
  jJ kB_X7_lowestBit d k 1 [mI v0, mI v1] [] M := Wt.blk (wpD_mono mB mNL d) (And.intro (fun c_6 => Wt.blk (wpD_mono mB mNL d) ((h.1 c_6))) (fun c_6 => cI (fun x_4 M_1 h_3 => And.intro (fun c_5 => Wt.blk (wpD_mono mB mNL d) ((h_3.1 c_5))) (fun c_5 => (h_3.2 c_5))) (h.2 c_6)))
