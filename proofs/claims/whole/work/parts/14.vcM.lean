theorem v_X8_layKind_0 {d : Nat} {k : mQ} {M : mM} (v1 : Int32) (v2 : Int32) (v3 : Int32) (v4 : Int32) (v5 : Int32)
  (h : (vp_in v1 30 ∧ (vp_in (6 + v1) 30 ∧ (vp_in (12 + v1) 30 ∧ (vp_in (18 + v1) 30 ∧ (vp_in (24 + v1) 30 ∧ k none (up (up (up (up (up M 2 (v1.toNatClampNeg) v2) 2 ((6 + v1).toNatClampNeg) v3) 2 ((12 + v1).toNatClampNeg) v4) 2 ((18 + v1).toNatClampNeg) v5) 2 ((24 + v1).toNatClampNeg) 63))))))) :
  wpD mB mNL (d + 1) zX8_layKind [mR 8 0 0, mI v1, mI v2, mI v3, mI v4, mI v5] M k := (show jJ kB_X8_layKind d k 0 [mR 8 0 0, mI v1, mI v2, mI v3, mI v4, mI v5] [] M from Wt.blk (wpD_mono mB mNL d) (And.intro h.1 (And.intro h.2.1 (And.intro h.2.2.1 (And.intro h.2.2.2.1 (And.intro h.2.2.2.2.1 (h.2.2.2.2.2)))))))
theorem v_X8_in_0 {d : Nat} {k : mQ} {M : mM} (v0 : Int32) (v1 : Int32) (v2 : Int32)
  (h : ((v0 < v1 → k (mI 0) M) ∧
   (¬ v0 < v1 → ((v2 < v0 → k (mI 0) M) ∧
     (¬ v2 < v0 → k (mI 1) M))))) :
  wpD mB mNL (d + 1) zX8_in [mI v0, mI v1, mI v2] M k := (show jJ kB_X8_in d k 0 [mI v0, mI v1, mI v2] [] M from Wt.blk (wpD_mono mB mNL d) (And.intro (fun c_2 => Wt.blk (wpD_mono mB mNL d) (Wt.blk (wpD_mono mB mNL d) (And.intro (Or.inl rfl) (h.1 c_2)))) (fun c_2 => And.intro (fun c_1 => Wt.blk (wpD_mono mB mNL d) (Wt.blk (wpD_mono mB mNL d) (And.intro (Or.inl rfl) ((h.2 c_2).1 c_1)))) (fun c_1 => Wt.blk (wpD_mono mB mNL d) (And.intro (Or.inr rfl) ((h.2 c_2).2 c_1))))))
theorem v_X8_has_0 {d : Nat} {k : mQ} {M : mM} (v0 : Int32) (v1 : Int32)
  (h : ((¬ ((v0 >>> (v1 &&& 31)) &&& 1) = 1 → k (mI 0) M) ∧
   (((v0 >>> (v1 &&& 31)) &&& 1) = 1 → k (mI 1) M))) :
  wpD mB mNL (d + 1) zX8_has [mI v0, mI v1] M k := (show jJ kB_X8_has d k 0 [mI v0, mI v1] [] M from Wt.blk (wpD_mono mB mNL d) (And.intro (fun c_1 => Wt.blk (wpD_mono mB mNL d) (Wt.blk (wpD_mono mB mNL d) (And.intro (Or.inl rfl) (h.1 c_1)))) (fun c_1 => Wt.blk (wpD_mono mB mNL d) (And.intro (Or.inr rfl) (h.2 c_1)))))
theorem v_X8_bits_0 {d : Nat} {k : mQ} {M : mM} (v0 : Int32)
  (h : jJ kB_X8_bits d k 1 [mI v0, mI 0, mI 0] [] M) :
  wpD mB mNL (d + 1) zX8_bits [mI v0] M k := (show jJ kB_X8_bits d k 0 [mI v0, none, none] [] M from Wt.blk (wpD_mono mB mNL d) (h))
theorem v_X8_bits_1 {d : Nat} {k : mQ} {M : mM} (v0 : Int32) (v1 : Int32) (v2 : Int32)
  (h : ((8 ≤ v2 → k (mI v1) M) ∧
   (¬ 8 ≤ v2 → jJ kB_X8_bits d k 1 [mI v0, mI (v1 + ((v0 >>> (v2 &&& 31)) &&& 1)), mI (v2 + 1)] [] M))) :
  jJ kB_X8_bits d k 1 [mI v0, mI v1, mI v2] [] M := Wt.blk (wpD_mono mB mNL d) (And.intro (fun c_1 => Wt.blk (wpD_mono mB mNL d) ((h.1 c_1))) (fun c_1 => (h.2 c_1)))
theorem v_X8_spring_0 {d : Nat} {k : mQ} {M : mM} (v1 : Int32) (v2 : Int32)
  (h : wpD mB mNL d zX8_in [mI v1, mI 0, mI 4] M (fun r_2 M_1 => wI r_2 fun x_4 =>
  ((¬ x_4 = 0 → ((v1 = 0 → jJ kB_X8_spring d k 2 [mR 8 0 0, mI v1, mI v2, none, none, none] [] M_1) ∧
       (¬ v1 = 0 → ((¬ v1 = 3 → jJ kB_X8_spring d k 4 [mR 8 0 0, mI v1, mI v2, none, none, none] [mI 0] M_1) ∧
         (v1 = 3 → jJ kB_X8_spring d k 2 [mR 8 0 0, mI v1, mI v2, none, none, none] [] M_1))))) ∧
     (x_4 = 0 → k (mI (-1)) M_1)))) :
  wpD mB mNL (d + 1) zX8_spring [mR 8 0 0, mI v1, mI v2] M k := (show jJ kB_X8_spring d k 0 [mR 8 0 0, mI v1, mI v2, none, none, none] [] M from Wt.blk (wpD_mono mB mNL d) (cI (fun x_4 M_1 h_3 => And.intro (fun c_7 => Wt.blk (wpD_mono mB mNL d) (And.intro (fun c_6 => ((h_3.1 c_7).1 c_6)) (fun c_6 => And.intro (fun c_5 => Wt.blk (wpD_mono mB mNL d) ((((h_3.1 c_7).2 c_6).1 c_5))) (fun c_5 => (((h_3.1 c_7).2 c_6).2 c_5))))) (fun c_7 => (h_3.2 c_7))) h))
theorem v_X8_spring_2 {d : Nat} {k : mQ} {M : mM} (v1 : Int32) (v2 : Int32) (u3 : mV) (u4 : mV) (u5 : mV)
  (h : jJ kB_X8_spring d k 4 [mR 8 0 0, mI v1, mI v2, u3, u4, u5] [mI 1] M) :
  jJ kB_X8_spring d k 2 [mR 8 0 0, mI v1, mI v2, u3, u4, u5] [] M := Wt.blk (wpD_mono mB mNL d) (h)
theorem v_X8_spring_4 {d : Nat} {k : mQ} {M : mM} (v1 : Int32) (v2 : Int32) (u3 : mV) (u4 : mV) (u5 : mV) (s0 : Int32)
  (h : ((¬ v1 = 0 → ((¬ v1 = 1 → ((¬ v1 = 3 → jJ kB_X8_spring d k 8 [mR 8 0 0, mI v1, mI v2, mI s0, u4, u5] [mI 300] M) ∧
       (v1 = 3 → jJ kB_X8_spring d k 8 [mR 8 0 0, mI v1, mI v2, mI s0, u4, u5] [mI 30] M))) ∧
     (v1 = 1 → jJ kB_X8_spring d k 8 [mR 8 0 0, mI v1, mI v2, mI s0, u4, u5] [mI 1000] M))) ∧
   (v1 = 0 → jJ kB_X8_spring d k 8 [mR 8 0 0, mI v1, mI v2, mI s0, u4, u5] [mI 50] M))) :
  jJ kB_X8_spring d k 4 [mR 8 0 0, mI v1, mI v2, u3, u4, u5] [mI s0] M := Wt.blk (wpD_mono mB mNL d) (And.intro (fun c_10 => Wt.blk (wpD_mono mB mNL d) (And.intro (fun c_9 => Wt.blk (wpD_mono mB mNL d) (And.intro (fun c_8 => Wt.blk (wpD_mono mB mNL d) ((((h.1 c_10).1 c_9).1 c_8))) (fun c_8 => (((h.1 c_10).1 c_9).2 c_8)))) (fun c_9 => ((h.1 c_10).2 c_9)))) (fun c_10 => (h.2 c_10)))
theorem v_X8_spring_8 {d : Nat} {k : mQ} {M : mM} (v1 : Int32) (v2 : Int32) (v3 : Int32) (u4 : mV) (u5 : mV) (s0 : Int32)
  (h : wpD mB mNL d zX8_in [mI v2, mI v3, mI s0] M (fun r_12 M_11 => wI r_12 fun x_14 =>
  ((¬ x_14 = 0 → (vp_in v1 5 ∧ (vp_in v1 5 ∧ k (mI (M_11 1 (v1.toNatClampNeg))) (up M_11 1 (v1.toNatClampNeg) v2)))) ∧
     (x_14 = 0 → k (mI (-2)) M_11)))) :
  jJ kB_X8_spring d k 8 [mR 8 0 0, mI v1, mI v2, mI v3, u4, u5] [mI s0] M := Wt.blk (wpD_mono mB mNL d) (cI (fun x_14 M_11 h_13 => And.intro (fun c_15 => Wt.blk (wpD_mono mB mNL d) (And.intro (h_13.1 c_15).1 (And.intro (h_13.1 c_15).2.1 ((h_13.1 c_15).2.2)))) (fun c_15 => (h_13.2 c_15))) h)
theorem v_X8_mostOf_0 {d : Nat} {k : mQ} {M : mM} (v0 : Int32)
  (h : ((2 ≤ v0 → ((¬ v0 = 2 → ((¬ v0 = 3 → k (mI 63) M) ∧
       (v0 = 3 → k (mI 99) M))) ∧
     (v0 = 2 → k (mI 9999) M))) ∧
   (¬ 2 ≤ v0 → k (mI 1000) M))) :
  wpD mB mNL (d + 1) zX8_mostOf [mI v0] M k := (show jJ kB_X8_mostOf d k 0 [mI v0] [] M from Wt.blk (wpD_mono mB mNL d) (And.intro (fun c_3 => Wt.blk (wpD_mono mB mNL d) (And.intro (fun c_2 => Wt.blk (wpD_mono mB mNL d) (And.intro (fun c_1 => Wt.blk (wpD_mono mB mNL d) (Wt.blk (wpD_mono mB mNL d) ((((h.1 c_3).1 c_2).1 c_1)))) (fun c_1 => Wt.blk (wpD_mono mB mNL d) ((((h.1 c_3).1 c_2).2 c_1))))) (fun c_2 => Wt.blk (wpD_mono mB mNL d) (((h.1 c_3).2 c_2))))) (fun c_3 => Wt.blk (wpD_mono mB mNL d) ((h.2 c_3)))))
theorem v_X8_kind_0 {d : Nat} {k : mQ} {M : mM} (v1 : Int32) (v2 : Int32) (v3 : Int32)
  (h : wpD mB mNL d zX8_in [mI v1, mI 0, mI 5] M (fun r_2 M_1 => wI r_2 fun x_4 =>
  ((¬ x_4 = 0 → wpD mB mNL d zX8_in [mI v2, mI 0, mI 4] M_1 (fun r_6 M_5 => wI r_6 fun x_8 =>
      ((x_8 = 0 → k (mI (-2)) M_5) ∧
         (¬ x_8 = 0 → wpD mB mNL d zX8_mostOf [mI v2] M_5 (fun r_10 M_9 => wI r_10 fun x_12 =>
          wpD mB mNL d zX8_in [mI v3, mI 0, mI x_12] M_9 (fun r_14 M_13 => wI r_14 fun x_16 =>
            ((¬ x_16 = 0 → (vp_in ((6 * v2) + v1) 30 ∧ (vp_in ((6 * v2) + v1) 30 ∧ k (mI (M_13 2 (((6 * v2) + v1).toNatClampNeg))) (up M_13 2 (((6 * v2) + v1).toNatClampNeg) v3)))) ∧
               (x_16 = 0 → k (mI (-2)) M_13)))))))) ∧
     (x_4 = 0 → k (mI (-1)) M_1)))) :
  wpD mB mNL (d + 1) zX8_kind [mR 8 0 0, mI v1, mI v2, mI v3] M k := (show jJ kB_X8_kind d k 0 [mR 8 0 0, mI v1, mI v2, mI v3, none] [] M from Wt.blk (wpD_mono mB mNL d) (cI (fun x_4 M_1 h_3 => And.intro (fun c_19 => Wt.blk (wpD_mono mB mNL d) (cI (fun x_8 M_5 h_7 => And.intro (fun c_18 => Wt.blk (wpD_mono mB mNL d) ((h_7.1 c_18))) (fun c_18 => cI (fun x_12 M_9 h_11 => cI (fun x_16 M_13 h_15 => And.intro (fun c_17 => Wt.blk (wpD_mono mB mNL d) (And.intro (h_15.1 c_17).1 (And.intro (h_15.1 c_17).2.1 ((h_15.1 c_17).2.2)))) (fun c_17 => Wt.blk (wpD_mono mB mNL d) ((h_15.2 c_17)))) h_11) (h_7.2 c_18))) (h_3.1 c_19))) (fun c_19 => (h_3.2 c_19))) h))
theorem v_X8_say_0 {d : Nat} {k : mQ} {M : mM} (v1 : Int32)
  (h : wpD mB mNL d zX8_in [mI v1, mI 33, mI 126] M (fun r_2 M_1 => wI r_2 fun x_4 =>
  ((¬ x_4 = 0 → ((¬ (M_1 0 2) = 48 → (vp_in (M_1 0 2) 48 ∧ k (mI ((M_1 0 2) + 1)) (up (up M_1 3 ((M_1 0 2).toNatClampNeg) v1) 0 2 ((M_1 0 2) + 1)))) ∧
       ((M_1 0 2) = 48 → k (mI (-4)) M_1))) ∧
     (x_4 = 0 → k (mI (-2)) M_1)))) :
  wpD mB mNL (d + 1) zX8_say [mR 8 0 0, mI v1] M k := (show jJ kB_X8_say d k 0 [mR 8 0 0, mI v1] [] M from Wt.blk (wpD_mono mB mNL d) (cI (fun x_4 M_1 h_3 => And.intro (fun c_6 => Wt.blk (wpD_mono mB mNL d) (And.intro (fun c_5 => Wt.blk (wpD_mono mB mNL d) (And.intro ((h_3.1 c_6).1 c_5).1 (((h_3.1 c_6).1 c_5).2))) (fun c_5 => ((h_3.1 c_6).2 c_5)))) (fun c_6 => (h_3.2 c_6))) h))
theorem v_X8_wipe_0 {d : Nat} {k : mQ} {M : mM} 
  (h : k (mI (M 0 2)) (up M 0 2 0)) :
  wpD mB mNL (d + 1) zX8_wipe [mR 8 0 0] M k := (show jJ kB_X8_wipe d k 0 [mR 8 0 0, none] [] M from Wt.blk (wpD_mono mB mNL d) (h))
theorem v_X8_kindOf_0 {d : Nat} {k : mQ} {M : mM} (v0 : Int32)
  (h : ((v0.toInt < 98 ∨ 114 < v0.toInt → k (mI (-6)) M) ∧
   ((v0.toInt = 98 → k (mI 0) M) ∧
   ((v0.toInt = 99 → k (mI 3) M) ∧
   ((v0.toInt = 100 → k (mI 1) M) ∧
   ((v0.toInt = 101 → k (mI (-6)) M) ∧
   ((v0.toInt = 102 → k (mI (-6)) M) ∧
   ((v0.toInt = 103 → k (mI (-6)) M) ∧
   ((v0.toInt = 104 → k (mI 4) M) ∧
   ((v0.toInt = 105 → k (mI (-6)) M) ∧
   ((v0.toInt = 106 → k (mI (-6)) M) ∧
   ((v0.toInt = 107 → k (mI (-6)) M) ∧
   ((v0.toInt = 108 → k (mI 5) M) ∧
   ((v0.toInt = 109 → k (mI (-6)) M) ∧
   ((v0.toInt = 110 → k (mI (-6)) M) ∧
   ((v0.toInt = 111 → k (mI (-6)) M) ∧
   ((v0.toInt = 112 → k (mI (-6)) M) ∧
   ((v0.toInt = 113 → k (mI (-6)) M) ∧
   ((v0.toInt = 114 → k (mI 2) M) ∧
   True))))))))))))))))))) :
  wpD mB mNL (d + 1) zX8_kindOf [mI v0] M k := (show jJ kB_X8_kindOf d k 0 [mI v0] [] M from Wt.blk (wpD_mono mB mNL d) (And.intro (fun c_1 => Wt.blk (wpD_mono mB mNL d) ((h.1 c_1))) (And.intro (fun c_1 => Wt.blk (wpD_mono mB mNL d) ((h.2.1 c_1))) (And.intro (fun c_1 => Wt.blk (wpD_mono mB mNL d) ((h.2.2.1 c_1))) (And.intro (fun c_1 => Wt.blk (wpD_mono mB mNL d) ((h.2.2.2.1 c_1))) (And.intro (fun c_1 => Wt.blk (wpD_mono mB mNL d) ((h.2.2.2.2.1 c_1))) (And.intro (fun c_1 => Wt.blk (wpD_mono mB mNL d) ((h.2.2.2.2.2.1 c_1))) (And.intro (fun c_1 => Wt.blk (wpD_mono mB mNL d) ((h.2.2.2.2.2.2.1 c_1))) (And.intro (fun c_1 => Wt.blk (wpD_mono mB mNL d) ((h.2.2.2.2.2.2.2.1 c_1))) (And.intro (fun c_1 => Wt.blk (wpD_mono mB mNL d) ((h.2.2.2.2.2.2.2.2.1 c_1))) (And.intro (fun c_1 => Wt.blk (wpD_mono mB mNL d) ((h.2.2.2.2.2.2.2.2.2.1 c_1))) (And.intro (fun c_1 => Wt.blk (wpD_mono mB mNL d) ((h.2.2.2.2.2.2.2.2.2.2.1 c_1))) (And.intro (fun c_1 => Wt.blk (wpD_mono mB mNL d) ((h.2.2.2.2.2.2.2.2.2.2.2.1 c_1))) (And.intro (fun c_1 => Wt.blk (wpD_mono mB mNL d) ((h.2.2.2.2.2.2.2.2.2.2.2.2.1 c_1))) (And.intro (fun c_1 => Wt.blk (wpD_mono mB mNL d) ((h.2.2.2.2.2.2.2.2.2.2.2.2.2.1 c_1))) (And.intro (fun c_1 => Wt.blk (wpD_mono mB mNL d) ((h.2.2.2.2.2.2.2.2.2.2.2.2.2.2.1 c_1))) (And.intro (fun c_1 => Wt.blk (wpD_mono mB mNL d) ((h.2.2.2.2.2.2.2.2.2.2.2.2.2.2.2.1 c_1))) (And.intro (fun c_1 => Wt.blk (wpD_mono mB mNL d) ((h.2.2.2.2.2.2.2.2.2.2.2.2.2.2.2.2.1 c_1))) (And.intro (fun c_1 => Wt.blk (wpD_mono mB mNL d) ((h.2.2.2.2.2.2.2.2.2.2.2.2.2.2.2.2.2.1 c_1))) (trivial))))))))))))))))))))
theorem v_X8_laneFault_0 {d : Nat} {k : mQ} {M : mM} 
  (h : jJ kB_X8_laneFault d k 1 [mR 8 0 0, mI 0, mI 0, mI 0, mI 0, none, none, none, none] [] M) :
  wpD mB mNL (d + 1) zX8_laneFault [mR 8 0 0] M k := (show jJ kB_X8_laneFault d k 0 [mR 8 0 0, none, none, none, none, none, none, none, none] [] M from Wt.blk (wpD_mono mB mNL d) (h))
theorem v_X8_laneFault_1 {d : Nat} {k : mQ} {M : mM} (v1 : Int32) (v2 : Int32) (v3 : Int32) (v4 : Int32) (u5 : mV) (u6 : mV) (u7 : mV) (u8 : mV)
  (h : (((M 0 2) ≤ v4 → ((v1 = 0 → k (mI (M 0 2)) M) ∧
     (¬ v1 = 0 → ((v3 ≤ 0 → k (mI (-6)) M) ∧
       (¬ v3 ≤ 0 → k (mI (M 0 2)) M))))) ∧
   (¬ (M 0 2) ≤ v4 → (vp_in v4 48 ∧ wpD mB mNL d zX8_in [mI (M 3 (v4.toNatClampNeg)), mI 49, mI 57] M (fun r_4 M_3 => wI r_4 fun x_6 =>
    ((x_6 = 0 → jJ kB_X8_laneFault d k 2 [mR 8 0 0, mI v1, mI v2, mI v3, mI v4, mI (M 3 (v4.toNatClampNeg)), u6, u7, u8] [] M_3) ∧
       (¬ x_6 = 0 → ((¬ v3 = 0 → jJ kB_X8_laneFault d k 2 [mR 8 0 0, mI v1, mI v2, mI v3, mI v4, mI (M 3 (v4.toNatClampNeg)), u6, u7, u8] [] M_3) ∧
         (v3 = 0 → jJ kB_X8_laneFault d k 3 [mR 8 0 0, mI v1, mI v2, mI v3, mI v4, mI (M 3 (v4.toNatClampNeg)), u6, u7, u8] [mI 1] M_3))))))))) :
  jJ kB_X8_laneFault d k 1 [mR 8 0 0, mI v1, mI v2, mI v3, mI v4, u5, u6, u7, u8] [] M := Wt.blk (wpD_mono mB mNL d) (And.intro (fun c_9 => Wt.blk (wpD_mono mB mNL d) (And.intro (fun c_2 => Wt.blk (wpD_mono mB mNL d) (Wt.blk (wpD_mono mB mNL d) (((h.1 c_9).1 c_2)))) (fun c_2 => And.intro (fun c_1 => Wt.blk (wpD_mono mB mNL d) (Wt.blk (wpD_mono mB mNL d) ((((h.1 c_9).2 c_2).1 c_1)))) (fun c_1 => Wt.blk (wpD_mono mB mNL d) (Wt.blk (wpD_mono mB mNL d) ((((h.1 c_9).2 c_2).2 c_1))))))) (fun c_9 => And.intro (h.2 c_9).1 (cI (fun x_6 M_3 h_5 => And.intro (fun c_8 => (h_5.1 c_8)) (fun c_8 => And.intro (fun c_7 => ((h_5.2 c_8).1 c_7)) (fun c_7 => ((h_5.2 c_8).2 c_7)))) (h.2 c_9).2)))
theorem v_X8_laneFault_2 {d : Nat} {k : mQ} {M : mM} (v1 : Int32) (v2 : Int32) (v3 : Int32) (v4 : Int32) (v5 : Int32) (u6 : mV) (u7 : mV) (u8 : mV)
  (h : jJ kB_X8_laneFault d k 3 [mR 8 0 0, mI v1, mI v2, mI v3, mI v4, mI v5, u6, u7, u8] [mI 0] M) :
  jJ kB_X8_laneFault d k 2 [mR 8 0 0, mI v1, mI v2, mI v3, mI v4, mI v5, u6, u7, u8] [] M := Wt.blk (wpD_mono mB mNL d) (h)
theorem v_X8_laneFault_3 {d : Nat} {k : mQ} {M : mM} (v1 : Int32) (v2 : Int32) (v3 : Int32) (v4 : Int32) (v5 : Int32) (u6 : mV) (u7 : mV) (u8 : mV) (s0 : Int32)
  (h : ((¬ v5 = 42 → jJ kB_X8_laneFault d k 4 [mR 8 0 0, mI v1, mI v2, mI v3, mI v4, mI v5, mI s0, u7, u8] [] M) ∧
   (v5 = 42 → ((2 ≤ v3 → jJ kB_X8_laneFault d k 4 [mR 8 0 0, mI v1, mI v2, mI v3, mI v4, mI v5, mI s0, u7, u8] [] M) ∧
     (¬ 2 ≤ v3 → ((4 ≤ v2 → jJ kB_X8_laneFault d k 4 [mR 8 0 0, mI v1, mI v2, mI v3, mI v4, mI v5, mI s0, u7, u8] [] M) ∧
       (¬ 4 ≤ v2 → jJ kB_X8_laneFault d k 5 [mR 8 0 0, mI v1, mI v2, mI v3, mI v4, mI v5, mI s0, u7, u8] [mI 1] M))))))) :
  jJ kB_X8_laneFault d k 3 [mR 8 0 0, mI v1, mI v2, mI v3, mI v4, mI v5, u6, u7, u8] [mI s0] M := Wt.blk (wpD_mono mB mNL d) (And.intro (fun c_12 => (h.1 c_12)) (fun c_12 => And.intro (fun c_11 => ((h.2 c_12).1 c_11)) (fun c_11 => And.intro (fun c_10 => (((h.2 c_12).2 c_11).1 c_10)) (fun c_10 => (((h.2 c_12).2 c_11).2 c_10)))))
theorem v_X8_laneFault_4 {d : Nat} {k : mQ} {M : mM} (v1 : Int32) (v2 : Int32) (v3 : Int32) (v4 : Int32) (v5 : Int32) (v6 : Int32) (u7 : mV) (u8 : mV)
  (h : jJ kB_X8_laneFault d k 5 [mR 8 0 0, mI v1, mI v2, mI v3, mI v4, mI v5, mI v6, u7, u8] [mI 0] M) :
  jJ kB_X8_laneFault d k 4 [mR 8 0 0, mI v1, mI v2, mI v3, mI v4, mI v5, mI v6, u7, u8] [] M := Wt.blk (wpD_mono mB mNL d) (h)
theorem v_X8_laneFault_5 {d : Nat} {k : mQ} {M : mM} (v1 : Int32) (v2 : Int32) (v3 : Int32) (v4 : Int32) (v5 : Int32) (v6 : Int32) (u7 : mV) (u8 : mV) (s0 : Int32)
  (h : wpD mB mNL d zX8_kindOf [mI v5] M (fun r_14 M_13 => wI r_14 fun x_16 =>
  ((x_16 < 0 → jJ kB_X8_laneFault d k 7 [mR 8 0 0, mI v1, mI v2, mI v3, mI v4, mI v5, mI v6, mI s0, u8] [mI 0] M_13) ∧
     (¬ x_16 < 0 → jJ kB_X8_laneFault d k 7 [mR 8 0 0, mI v1, mI v2, mI v3, mI v4, mI v5, mI v6, mI s0, u8] [mI 1] M_13)))) :
  jJ kB_X8_laneFault d k 5 [mR 8 0 0, mI v1, mI v2, mI v3, mI v4, mI v5, mI v6, u7, u8] [mI s0] M := Wt.blk (wpD_mono mB mNL d) (cI (fun x_16 M_13 h_15 => And.intro (fun c_17 => Wt.blk (wpD_mono mB mNL d) ((h_15.1 c_17))) (fun c_17 => (h_15.2 c_17))) h)
theorem v_X8_laneFault_7 {d : Nat} {k : mQ} {M : mM} (v1 : Int32) (v2 : Int32) (v3 : Int32) (v4 : Int32) (v5 : Int32) (v6 : Int32) (v7 : Int32) (u8 : mV) (s0 : Int32)
  (h : ((v1 = 8 → k (mI v4) M) ∧
   (¬ v1 = 8 → ((¬ v6 = 0 → jJ kB_X8_laneFault d k 9 [mR 8 0 0, mI v1, mI v2, mI v3, mI v4, mI v5, mI v6, mI v7, mI s0] [] M) ∧
     (v6 = 0 → ((¬ v7 = 0 → jJ kB_X8_laneFault d k 9 [mR 8 0 0, mI v1, mI v2, mI v3, mI v4, mI v5, mI v6, mI v7, mI s0] [] M) ∧
       (v7 = 0 → ((¬ s0 = 0 → jJ kB_X8_laneFault d k 9 [mR 8 0 0, mI v1, mI v2, mI v3, mI v4, mI v5, mI v6, mI v7, mI s0] [] M) ∧
         (s0 = 0 → k (mI v4) M))))))))) :
  jJ kB_X8_laneFault d k 7 [mR 8 0 0, mI v1, mI v2, mI v3, mI v4, mI v5, mI v6, mI v7, u8] [mI s0] M := Wt.blk (wpD_mono mB mNL d) (And.intro (fun c_21 => Wt.blk (wpD_mono mB mNL d) ((h.1 c_21))) (fun c_21 => And.intro (fun c_20 => ((h.2 c_21).1 c_20)) (fun c_20 => And.intro (fun c_19 => (((h.2 c_21).2 c_20).1 c_19)) (fun c_19 => And.intro (fun c_18 => ((((h.2 c_21).2 c_20).2 c_19).1 c_18)) (fun c_18 => Wt.blk (wpD_mono mB mNL d) (((((h.2 c_21).2 c_20).2 c_19).2 c_18)))))))
theorem v_X8_laneFault_9 {d : Nat} {k : mQ} {M : mM} (v1 : Int32) (v2 : Int32) (v3 : Int32) (v4 : Int32) (v5 : Int32) (v6 : Int32) (v7 : Int32) (v8 : Int32)
  (h : ((v8 = 0 → jJ kB_X8_laneFault d k 11 [mR 8 0 0, mI v1, mI v2, mI v3, mI v4, mI v5, mI v6, mI v7, mI v8] [mI 0, mI v1] M) ∧
   (¬ v8 = 0 → jJ kB_X8_laneFault d k 11 [mR 8 0 0, mI v1, mI v2, mI v3, mI v4, mI v5, mI v6, mI v7, mI v8] [mI 1, mI v1] M))) :
  jJ kB_X8_laneFault d k 9 [mR 8 0 0, mI v1, mI v2, mI v3, mI v4, mI v5, mI v6, mI v7, mI v8] [] M := Wt.blk (wpD_mono mB mNL d) (And.intro (fun c_22 => Wt.blk (wpD_mono mB mNL d) ((h.1 c_22))) (fun c_22 => (h.2 c_22)))
theorem v_X8_laneFault_11 {d : Nat} {k : mQ} {M : mM} (v1 : Int32) (v2 : Int32) (v3 : Int32) (v4 : Int32) (v5 : Int32) (v6 : Int32) (v7 : Int32) (v8 : Int32) (s0 : Int32) (s1 : Int32)
  (h : ((v7 = 0 → jJ kB_X8_laneFault d k 13 [mR 8 0 0, mI (s0 + s1), mI v2, mI v3, mI v4, mI v5, mI v6, mI v7, mI v8] [mI 0, mI v2] M) ∧
   (¬ v7 = 0 → jJ kB_X8_laneFault d k 13 [mR 8 0 0, mI (s0 + s1), mI v2, mI v3, mI v4, mI v5, mI v6, mI v7, mI v8] [mI 1, mI v2] M))) :
  jJ kB_X8_laneFault d k 11 [mR 8 0 0, mI v1, mI v2, mI v3, mI v4, mI v5, mI v6, mI v7, mI v8] [mI s1, mI s0] M := Wt.blk (wpD_mono mB mNL d) (And.intro (fun c_23 => Wt.blk (wpD_mono mB mNL d) ((h.1 c_23))) (fun c_23 => (h.2 c_23)))
theorem v_X8_laneFault_13 {d : Nat} {k : mQ} {M : mM} (v1 : Int32) (v2 : Int32) (v3 : Int32) (v4 : Int32) (v5 : Int32) (v6 : Int32) (v7 : Int32) (v8 : Int32) (s0 : Int32) (s1 : Int32)
  (h : ((v8 = 0 → ((v6 = 0 → jJ kB_X8_laneFault d k 1 [mR 8 0 0, mI v1, mI (s0 + s1), mI 2, mI (v4 + 1), mI v5, mI v6, mI v7, mI v8] [] M) ∧
     (¬ v6 = 0 → jJ kB_X8_laneFault d k 1 [mR 8 0 0, mI v1, mI (s0 + s1), mI 1, mI (v4 + 1), mI v5, mI v6, mI v7, mI v8] [] M))) ∧
   (¬ v8 = 0 → jJ kB_X8_laneFault d k 1 [mR 8 0 0, mI v1, mI (s0 + s1), mI 0, mI (v4 + 1), mI v5, mI v6, mI v7, mI v8] [] M))) :
  jJ kB_X8_laneFault d k 13 [mR 8 0 0, mI v1, mI v2, mI v3, mI v4, mI v5, mI v6, mI v7, mI v8] [mI s1, mI s0] M := Wt.blk (wpD_mono mB mNL d) (And.intro (fun c_25 => Wt.blk (wpD_mono mB mNL d) (And.intro (fun c_24 => Wt.blk (wpD_mono mB mNL d) (Wt.blk (wpD_mono mB mNL d) (((h.1 c_25).1 c_24)))) (fun c_24 => Wt.blk (wpD_mono mB mNL d) (((h.1 c_25).2 c_24))))) (fun c_25 => Wt.blk (wpD_mono mB mNL d) ((h.2 c_25))))
theorem v_X8_dayFault_0 {d : Nat} {k : mQ} {M : mM} 
  (h : jJ kB_X8_dayFault d k 1 [mR 8 0 0, mI 1, mI 0, mI 0, none, none, none, none] [] M) :
  wpD mB mNL (d + 1) zX8_dayFault [mR 8 0 0] M k := (show jJ kB_X8_dayFault d k 0 [mR 8 0 0, none, none, none, none, none, none, none] [] M from Wt.blk (wpD_mono mB mNL d) (h))
theorem v_X8_dayFault_1 {d : Nat} {k : mQ} {M : mM} (v1 : Int32) (v2 : Int32) (v3 : Int32) (u4 : mV) (u5 : mV) (u6 : mV) (u7 : mV)
  (h : (((M 0 2) ≤ v3 → ((¬ v1 = 6 → k (mI (M 0 2)) M) ∧
     (v1 = 6 → k (mI (-6)) M))) ∧
   (¬ (M 0 2) ≤ v3 → (vp_in v3 48 ∧ ((¬ (M 3 (v3.toNatClampNeg)) = 47 → wpD mB mNL d zX8_in [mI ((M 3 (v3.toNatClampNeg)) - 49), mI 0, mI ((M 0 6) - 1)] M (fun r_3 M_2 => wI r_3 fun x_5 =>
      ((x_5 = 0 → wpD mB mNL d zX8_in [mI ((M 3 (v3.toNatClampNeg)) - 65), mI 0, mI ((M_2 0 4) - 1)] M_2 (fun r_7 M_6 => wI r_7 fun x_9 =>
          ((x_9 = 0 → jJ kB_X8_dayFault d k 6 [mR 8 0 0, mI v1, mI v2, mI v3, mI (M 3 (v3.toNatClampNeg)), mI ((M 3 (v3.toNatClampNeg)) - 49), mI ((M 3 (v3.toNatClampNeg)) - 65), u7] [mI (-6)] M_6) ∧
             (¬ x_9 = 0 → jJ kB_X8_dayFault d k 6 [mR 8 0 0, mI v1, mI v2, mI v3, mI (M 3 (v3.toNatClampNeg)), mI ((M 3 (v3.toNatClampNeg)) - 49), mI ((M 3 (v3.toNatClampNeg)) - 65), u7] [mI (4 + ((M 3 (v3.toNatClampNeg)) - 65))] M_6)))) ∧
         (¬ x_5 = 0 → jJ kB_X8_dayFault d k 6 [mR 8 0 0, mI v1, mI v2, mI v3, mI (M 3 (v3.toNatClampNeg)), mI ((M 3 (v3.toNatClampNeg)) - 49), mI ((M 3 (v3.toNatClampNeg)) - 65), u7] [mI ((M 3 (v3.toNatClampNeg)) - 49)] M_2)))) ∧
     ((M 3 (v3.toNatClampNeg)) = 47 → ((¬ v1 = 6 → jJ kB_X8_dayFault d k 1 [mR 8 0 0, mI (v1 + 1), mI 0, mI (v3 + 1), mI (M 3 (v3.toNatClampNeg)), u5, u6, u7] [] M) ∧
       (v1 = 6 → k (mI v3) M)))))))) :
  jJ kB_X8_dayFault d k 1 [mR 8 0 0, mI v1, mI v2, mI v3, u4, u5, u6, u7] [] M := Wt.blk (wpD_mono mB mNL d) (And.intro (fun c_14 => Wt.blk (wpD_mono mB mNL d) (And.intro (fun c_1 => Wt.blk (wpD_mono mB mNL d) (Wt.blk (wpD_mono mB mNL d) (((h.1 c_14).1 c_1)))) (fun c_1 => Wt.blk (wpD_mono mB mNL d) (((h.1 c_14).2 c_1))))) (fun c_14 => And.intro (h.2 c_14).1 (And.intro (fun c_13 => Wt.blk (wpD_mono mB mNL d) (cI (fun x_5 M_2 h_4 => And.intro (fun c_11 => Wt.blk (wpD_mono mB mNL d) (cI (fun x_9 M_6 h_8 => And.intro (fun c_10 => Wt.blk (wpD_mono mB mNL d) ((h_8.1 c_10))) (fun c_10 => (h_8.2 c_10))) (h_4.1 c_11))) (fun c_11 => (h_4.2 c_11))) ((h.2 c_14).2.1 c_13))) (fun c_13 => And.intro (fun c_12 => Wt.blk (wpD_mono mB mNL d) (Wt.blk (wpD_mono mB mNL d) ((((h.2 c_14).2.2 c_13).1 c_12)))) (fun c_12 => (((h.2 c_14).2.2 c_13).2 c_12))))))
theorem v_X8_dayFault_6 {d : Nat} {k : mQ} {M : mM} (v1 : Int32) (v2 : Int32) (v3 : Int32) (v4 : Int32) (v5 : Int32) (v6 : Int32) (u7 : mV) (s0 : Int32)
  (h : ((s0 < 0 → k (mI v3) M) ∧
   (¬ s0 < 0 → wpD mB mNL d zX8_has [mI v2, mI s0] M (fun r_16 M_15 => wI r_16 fun x_18 =>
    ((x_18 = 0 → jJ kB_X8_dayFault d k 1 [mR 8 0 0, mI v1, mI (v2 ||| (1 <<< (s0 &&& 31))), mI (v3 + 1), mI v4, mI v5, mI v6, mI s0] [] M_15) ∧
       (¬ x_18 = 0 → k (mI v3) M_15)))))) :
  jJ kB_X8_dayFault d k 6 [mR 8 0 0, mI v1, mI v2, mI v3, mI v4, mI v5, mI v6, u7] [mI s0] M := Wt.blk (wpD_mono mB mNL d) (And.intro (fun c_20 => Wt.blk (wpD_mono mB mNL d) ((h.1 c_20))) (fun c_20 => cI (fun x_18 M_15 h_17 => And.intro (fun c_19 => Wt.blk (wpD_mono mB mNL d) (Wt.blk (wpD_mono mB mNL d) ((h_17.1 c_19)))) (fun c_19 => Wt.blk (wpD_mono mB mNL d) ((h_17.2 c_19)))) (h.2 c_20)))
theorem v_X8_fault_0 {d : Nat} {k : mQ} {M : mM} (v1 : Int32)
  (h : ((¬ v1 = 0 → ((¬ v1 = 1 → k (mI (-2)) M) ∧
     (v1 = 1 → wpD mB mNL d zX8_dayFault [mR 8 0 0] M (fun r_2 M_1 => wI r_2 fun x_4 =>
      k (mI x_4) M_1)))) ∧
   (v1 = 0 → wpD mB mNL d zX8_laneFault [mR 8 0 0] M (fun r_7 M_6 => wI r_7 fun x_9 =>
    k (mI x_9) M_6)))) :
  wpD mB mNL (d + 1) zX8_fault [mR 8 0 0, mI v1] M k := (show jJ kB_X8_fault d k 0 [mR 8 0 0, mI v1] [] M from Wt.blk (wpD_mono mB mNL d) (And.intro (fun c_10 => Wt.blk (wpD_mono mB mNL d) (And.intro (fun c_5 => Wt.blk (wpD_mono mB mNL d) (Wt.blk (wpD_mono mB mNL d) (((h.1 c_10).1 c_5)))) (fun c_5 => cI (fun x_4 M_1 h_3 => Wt.blk (wpD_mono mB mNL d) (h_3)) ((h.1 c_10).2 c_5)))) (fun c_10 => cI (fun x_9 M_6 h_8 => Wt.blk (wpD_mono mB mNL d) (h_8)) (h.2 c_10))))
theorem v_X8_lane_0 {d : Nat} {k : mQ} {M : mM} 
  (h : wpD mB mNL d zX8_laneFault [mR 8 0 0] M (fun r_2 M_1 => wI r_2 fun x_4 =>
  ((x_4 < 0 → jJ kB_X8_lane d k 2 [mR 8 0 0, mI 0, mI (-6), mI 0, none] [] (up (up (up M_1 0 4 0) 0 6 0) 0 7 0)) ∧
     (¬ x_4 < 0 → k (mI (-5)) M_1)))) :
  wpD mB mNL (d + 1) zX8_lane [mR 8 0 0] M k := (show jJ kB_X8_lane d k 0 [mR 8 0 0, none, none, none, none] [] M from Wt.blk (wpD_mono mB mNL d) (cI (fun x_4 M_1 h_3 => And.intro (fun c_5 => Wt.blk (wpD_mono mB mNL d) ((h_3.1 c_5))) (fun c_5 => (h_3.2 c_5))) h))
theorem v_X8_lane_2 {d : Nat} {k : mQ} {M : mM} (v1 : Int32) (v2 : Int32) (v3 : Int32) (u4 : mV)
  (h : (((M 0 2) ≤ v3 → k (mI (M 0 4)) (up M 0 2 0)) ∧
   (¬ (M 0 2) ≤ v3 → (vp_in v3 48 ∧ ((¬ (M 3 (v3.toNatClampNeg)) = 42 → wpD mB mNL d zX8_kindOf [mI (M 3 (v3.toNatClampNeg))] M (fun r_7 M_6 => wI r_7 fun x_9 =>
      ((x_9 < 0 → jJ kB_X8_lane d k 2 [mR 8 0 0, mI ((M 3 (v3.toNatClampNeg)) - 48), mI v2, mI (v3 + 1), mI (M 3 (v3.toNatClampNeg))] [] M_6) ∧
         (¬ x_9 < 0 → wpD mB mNL d zX8_kindOf [mI (M 3 (v3.toNatClampNeg))] M_6 (fun r_11 M_10 => wI r_11 fun x_13 =>
          (vp_in (3 * (M_6 0 4)) 24 ∧ (vp_in ((3 * (M_10 0 4)) + 1) 24 ∧ (vp_in ((3 * (M_10 0 4)) + 2) 24 ∧ jJ kB_X8_lane d k 2 [mR 8 0 0, mI 0, mI (-6), mI (v3 + 1), mI (M 3 (v3.toNatClampNeg))] [] (up (up (up (up M_10 4 ((3 * (M_6 0 4)).toNatClampNeg) x_13) 4 (((3 * (M_10 0 4)) + 1).toNatClampNeg) v1) 4 (((3 * (M_10 0 4)) + 2).toNatClampNeg) v2) 0 4 ((M_10 0 4) + 1)))))))))) ∧
     ((M 3 (v3.toNatClampNeg)) = 42 → jJ kB_X8_lane d k 2 [mR 8 0 0, mI v1, mI (M 0 6), mI (v3 + 1), mI (M 3 (v3.toNatClampNeg))] [] (up M 0 6 ((M 0 6) + 1)))))))) :
  jJ kB_X8_lane d k 2 [mR 8 0 0, mI v1, mI v2, mI v3, u4] [] M := Wt.blk (wpD_mono mB mNL d) (And.intro (fun c_16 => Wt.blk (wpD_mono mB mNL d) ((h.1 c_16))) (fun c_16 => And.intro (h.2 c_16).1 (And.intro (fun c_15 => Wt.blk (wpD_mono mB mNL d) (cI (fun x_9 M_6 h_8 => And.intro (fun c_14 => Wt.blk (wpD_mono mB mNL d) (Wt.blk (wpD_mono mB mNL d) ((h_8.1 c_14)))) (fun c_14 => cI (fun x_13 M_10 h_12 => And.intro h_12.1 (And.intro h_12.2.1 (And.intro h_12.2.2.1 (Wt.blk (wpD_mono mB mNL d) (h_12.2.2.2))))) (h_8.2 c_14))) ((h.2 c_16).2.1 c_15))) (fun c_15 => Wt.blk (wpD_mono mB mNL d) (((h.2 c_16).2.2 c_15))))))
theorem v_X8_house_0 {d : Nat} {k : mQ} {M : mM} (v1 : Int32) (v2 : Int32)
  (h : wpD mB mNL d zX8_in [mI v1, mI 0, mI ((M 0 4) - 1)] M (fun r_2 M_1 => wI r_2 fun x_4 =>
  ((¬ x_4 = 0 → wpD mB mNL d zX8_in [mI v2, mI 0, mI 2] M_1 (fun r_6 M_5 => wI r_6 fun x_8 =>
      ((x_8 = 0 → k (mI (-2)) M_5) ∧
         (¬ x_8 = 0 → (vp_in ((3 * v1) + v2) 24 ∧ k (mI (M_5 4 (((3 * v1) + v2).toNatClampNeg))) M_5))))) ∧
     (x_4 = 0 → k (mI (-1)) M_1)))) :
  wpD mB mNL (d + 1) zX8_house [mR 8 0 0, mI v1, mI v2] M k := (show jJ kB_X8_house d k 0 [mR 8 0 0, mI v1, mI v2] [] M from Wt.blk (wpD_mono mB mNL d) (cI (fun x_4 M_1 h_3 => And.intro (fun c_10 => Wt.blk (wpD_mono mB mNL d) (cI (fun x_8 M_5 h_7 => And.intro (fun c_9 => Wt.blk (wpD_mono mB mNL d) (Wt.blk (wpD_mono mB mNL d) ((h_7.1 c_9)))) (fun c_9 => And.intro (h_7.2 c_9).1 (Wt.blk (wpD_mono mB mNL d) ((h_7.2 c_9).2)))) (h_3.1 c_10))) (fun c_10 => (h_3.2 c_10))) h))
theorem v_X8_asLane_0 {d : Nat} {k : mQ} {M : mM} 
  (h : jJ kB_X8_asLane d k 1 [mR 8 0 0, mI 0] [] (up M 0 9 (M 0 4))) :
  wpD mB mNL (d + 1) zX8_asLane [mR 8 0 0] M k := (show jJ kB_X8_asLane d k 0 [mR 8 0 0, none] [] M from Wt.blk (wpD_mono mB mNL d) (h))
theorem v_X8_asLane_1 {d : Nat} {k : mQ} {M : mM} (v1 : Int32)
  (h : (((3 * (M 0 4)) ≤ v1 → k none M) ∧
   (¬ (3 * (M 0 4)) ≤ v1 → (vp_in v1 24 ∧ (vp_in v1 27 ∧ jJ kB_X8_asLane d k 1 [mR 8 0 0, mI (v1 + 1)] [] (up M 6 (v1.toNatClampNeg) (M 4 (v1.toNatClampNeg)))))))) :
  jJ kB_X8_asLane d k 1 [mR 8 0 0, mI v1] [] M := Wt.blk (wpD_mono mB mNL d) (And.intro (fun c_1 => Wt.blk (wpD_mono mB mNL d) ((h.1 c_1))) (fun c_1 => And.intro (h.2 c_1).1 (And.intro (h.2 c_1).2.1 ((h.2 c_1).2.2))))
theorem v_X8_go_0 {d : Nat} {k : mQ} {M : mM} (v1 : Int32) (v2 : Int32) (v3 : Int32) (v4 : Int32)
  (h : (vp_in 2 5 ∧ (vp_in 0 5 ∧ jJ kB_X8_go d k 1 [mR 8 0 0, mI v1, mI v2, mI v3, mI v4, mI (M 1 ((2 : Int32).toNatClampNeg)), mI (M 1 ((0 : Int32).toNatClampNeg)), mI ((M 1 ((0 : Int32).toNatClampNeg)) * v4), mI 0, none, none, none, none, none] [] (up (up (up (up M 0 13 0) 0 14 0) 0 15 0) 0 16 0)))) :
  wpD mB mNL (d + 1) zX8_go [mR 8 0 0, mI v1, mI v2, mI v3, mI v4] M k := (show jJ kB_X8_go d k 0 [mR 8 0 0, mI v1, mI v2, mI v3, mI v4, none, none, none, none, none, none, none, none, none] [] M from Wt.blk (wpD_mono mB mNL d) (And.intro h.1 (And.intro h.2.1 (h.2.2))))
theorem v_X8_go_1 {d : Nat} {k : mQ} {M : mM} (v1 : Int32) (v2 : Int32) (v3 : Int32) (v4 : Int32) (v5 : Int32) (v6 : Int32) (v7 : Int32) (v8 : Int32) (u9 : mV) (u10 : mV) (u11 : mV) (u12 : mV) (u13 : mV)
  (h : (((M 0 9) ≤ v8 → (vp_in (M 0 9) 10 ∧ (vp_in (M 0 9) 10 ∧ k none (up (up M 7 ((M 0 9).toNatClampNeg) v6) 8 ((M 0 9).toNatClampNeg) v7)))) ∧
   (¬ (M 0 9) ≤ v8 → (vp_in (3 * v8) 27 ∧ (vp_in ((3 * v8) + 2) 27 ∧ ((v7 ≤ (v5 * v6) → jJ kB_X8_go d k 4 [mR 8 0 0, mI v1, mI v2, mI v3, mI v4, mI v5, mI v6, mI v7, mI v8, mI (M 6 ((3 * v8).toNatClampNeg)), mI (M 6 (((3 * v8) + 2).toNatClampNeg)), u11, u12, u13] [] M) ∧
     (¬ v7 ≤ (v5 * v6) → (vp_in ((3 * v8) + 1) 27 ∧ (((v5 * v6) ≤ (v7 - ((10 * (M 6 (((3 * v8) + 1).toNatClampNeg))) * v6)) → jJ kB_X8_go d k 3 [mR 8 0 0, mI v1, mI v2, mI v3, mI v4, mI v5, mI v6, mI v7, mI v8, mI (M 6 ((3 * v8).toNatClampNeg)), mI (M 6 (((3 * v8) + 2).toNatClampNeg)), mI (v7 - ((10 * (M 6 (((3 * v8) + 1).toNatClampNeg))) * v6)), u12, u13] [mI (v7 - ((10 * (M 6 (((3 * v8) + 1).toNatClampNeg))) * v6))] M) ∧
       (¬ (v5 * v6) ≤ (v7 - ((10 * (M 6 (((3 * v8) + 1).toNatClampNeg))) * v6)) → jJ kB_X8_go d k 3 [mR 8 0 0, mI v1, mI v2, mI v3, mI v4, mI v5, mI v6, mI v7, mI v8, mI (M 6 ((3 * v8).toNatClampNeg)), mI (M 6 (((3 * v8) + 2).toNatClampNeg)), mI (v7 - ((10 * (M 6 (((3 * v8) + 1).toNatClampNeg))) * v6)), u12, u13] [mI (v5 * v6)] M)))))))))) :
  jJ kB_X8_go d k 1 [mR 8 0 0, mI v1, mI v2, mI v3, mI v4, mI v5, mI v6, mI v7, mI v8, u9, u10, u11, u12, u13] [] M := Wt.blk (wpD_mono mB mNL d) (And.intro (fun c_3 => Wt.blk (wpD_mono mB mNL d) (And.intro (h.1 c_3).1 (And.intro (h.1 c_3).2.1 ((h.1 c_3).2.2)))) (fun c_3 => And.intro (h.2 c_3).1 (And.intro (h.2 c_3).2.1 (And.intro (fun c_2 => ((h.2 c_3).2.2.1 c_2)) (fun c_2 => And.intro ((h.2 c_3).2.2.2 c_2).1 (And.intro (fun c_1 => Wt.blk (wpD_mono mB mNL d) ((((h.2 c_3).2.2.2 c_2).2.1 c_1))) (fun c_1 => (((h.2 c_3).2.2.2 c_2).2.2 c_1))))))))
theorem v_X8_go_3 {d : Nat} {k : mQ} {M : mM} (v1 : Int32) (v2 : Int32) (v3 : Int32) (v4 : Int32) (v5 : Int32) (v6 : Int32) (v7 : Int32) (v8 : Int32) (v9 : Int32) (v10 : Int32) (v11 : Int32) (u12 : mV) (u13 : mV) (s0 : Int32)
  (h : jJ kB_X8_go d k 4 [mR 8 0 0, mI v1, mI v2, mI v3, mI v4, mI v5, mI v6, mI s0, mI v8, mI v9, mI v10, mI s0, u12, u13] [] (up M 0 15 ((M 0 15) + (v7 - s0)))) :
  jJ kB_X8_go d k 3 [mR 8 0 0, mI v1, mI v2, mI v3, mI v4, mI v5, mI v6, mI v7, mI v8, mI v9, mI v10, mI v11, u12, u13] [mI s0] M := Wt.blk (wpD_mono mB mNL d) (h)
theorem v_X8_go_4 {d : Nat} {k : mQ} {M : mM} (v1 : Int32) (v2 : Int32) (v3 : Int32) (v4 : Int32) (v5 : Int32) (v6 : Int32) (v7 : Int32) (v8 : Int32) (v9 : Int32) (v10 : Int32) (u11 : mV) (u12 : mV) (u13 : mV)
  (h : ((v10 < 0 → jJ kB_X8_go d k 5 [mR 8 0 0, mI v1, mI v2, mI v3, mI v4, mI v5, mI v6, mI v7, mI v8, mI v9, mI v10, u11, u12, u13] [] M) ∧
   (¬ v10 < 0 → wpD mB mNL d zX8_has [mI v2, mI v10] M (fun r_5 M_4 => wI r_5 fun x_7 =>
    ((x_7 = 0 → jJ kB_X8_go d k 5 [mR 8 0 0, mI v1, mI v2, mI v3, mI v4, mI v5, mI v6, mI v7, mI v8, mI v9, mI v10, u11, u12, u13] [] M_4) ∧
       (¬ x_7 = 0 → (vp_in 3 5 ∧ (vp_in 3 5 ∧ (vp_in 4 5 ∧ jJ kB_X8_go d k 5 [mR 8 0 0, mI v1, mI v2, mI v3, mI v4, mI v5, mI (v6 + (M_4 1 ((3 : Int32).toNatClampNeg))), mI (v7 + ((M_4 1 ((3 : Int32).toNatClampNeg)) * (M_4 1 ((4 : Int32).toNatClampNeg)))), mI v8, mI v9, mI v10, u11, u12, u13] [] M_4))))))))) :
  jJ kB_X8_go d k 4 [mR 8 0 0, mI v1, mI v2, mI v3, mI v4, mI v5, mI v6, mI v7, mI v8, mI v9, mI v10, u11, u12, u13] [] M := Wt.blk (wpD_mono mB mNL d) (And.intro (fun c_9 => (h.1 c_9)) (fun c_9 => cI (fun x_7 M_4 h_6 => And.intro (fun c_8 => (h_6.1 c_8)) (fun c_8 => And.intro (h_6.2 c_8).1 (And.intro (h_6.2 c_8).2.1 (And.intro (h_6.2 c_8).2.2.1 ((h_6.2 c_8).2.2.2))))) (h.2 c_9)))
theorem v_X8_go_5 {d : Nat} {k : mQ} {M : mM} (v1 : Int32) (v2 : Int32) (v3 : Int32) (v4 : Int32) (v5 : Int32) (v6 : Int32) (v7 : Int32) (v8 : Int32) (v9 : Int32) (v10 : Int32) (u11 : mV) (u12 : mV) (u13 : mV)
  (h : (vp_in v8 10 ∧ (vp_in v8 10 ∧ (vp_in (6 + v9) 30 ∧ ((v7 ≤ ((M 2 ((6 + v9).toNatClampNeg)) * v6) → jJ kB_X8_go d k 7 [mR 8 0 0, mI v1, mI v2, mI v3, mI v4, mI v5, mI v6, mI v7, mI v8, mI v9, mI v10, u11, u12, u13] [mI 0] (up (up M 7 (v8.toNatClampNeg) v6) 8 (v8.toNatClampNeg) v7)) ∧
   (¬ v7 ≤ ((M 2 ((6 + v9).toNatClampNeg)) * v6) → jJ kB_X8_go d k 7 [mR 8 0 0, mI v1, mI v2, mI v3, mI v4, mI v5, mI v6, mI v7, mI v8, mI v9, mI v10, u11, u12, u13] [mI 1] (up (up M 7 (v8.toNatClampNeg) v6) 8 (v8.toNatClampNeg) v7))))))) :
  jJ kB_X8_go d k 5 [mR 8 0 0, mI v1, mI v2, mI v3, mI v4, mI v5, mI v6, mI v7, mI v8, mI v9, mI v10, u11, u12, u13] [] M := Wt.blk (wpD_mono mB mNL d) (And.intro h.1 (And.intro h.2.1 (And.intro h.2.2.1 (And.intro (fun c_10 => Wt.blk (wpD_mono mB mNL d) ((h.2.2.2.1 c_10))) (fun c_10 => (h.2.2.2.2 c_10))))))
theorem v_X8_go_7 {d : Nat} {k : mQ} {M : mM} (v1 : Int32) (v2 : Int32) (v3 : Int32) (v4 : Int32) (v5 : Int32) (v6 : Int32) (v7 : Int32) (v8 : Int32) (v9 : Int32) (v10 : Int32) (u11 : mV) (u12 : mV) (u13 : mV) (s0 : Int32)
  (h : (vp_in (12 + v9) 30 ∧ ((s0 = 0 → jJ kB_X8_go d k 9 [mR 8 0 0, mI v1, mI v2, mI v3, mI v4, mI v5, mI v6, mI v7, mI v8, mI v9, mI v10, mI s0, mI (M 2 ((12 + v9).toNatClampNeg)), u13] [mI 0, mI (M 0 14), mR 8 0 0] M) ∧
   (¬ s0 = 0 → jJ kB_X8_go d k 9 [mR 8 0 0, mI v1, mI v2, mI v3, mI v4, mI v5, mI v6, mI v7, mI v8, mI v9, mI v10, mI s0, mI (M 2 ((12 + v9).toNatClampNeg)), u13] [mI (1 <<< (v8 &&& 31)), mI (M 0 14), mR 8 0 0] M)))) :
  jJ kB_X8_go d k 7 [mR 8 0 0, mI v1, mI v2, mI v3, mI v4, mI v5, mI v6, mI v7, mI v8, mI v9, mI v10, u11, u12, u13] [mI s0] M := Wt.blk (wpD_mono mB mNL d) (And.intro h.1 (And.intro (fun c_11 => Wt.blk (wpD_mono mB mNL d) ((h.2.1 c_11))) (fun c_11 => (h.2.2 c_11))))
theorem v_X8_go_9 {d : Nat} {k : mQ} {M : mM} (v1 : Int32) (v2 : Int32) (v3 : Int32) (v4 : Int32) (v5 : Int32) (v6 : Int32) (v7 : Int32) (v8 : Int32) (v9 : Int32) (v10 : Int32) (v11 : Int32) (v12 : Int32) (u13 : mV) (s1 : Int32) (s2 : Int32)
  (h : wpD mB mNL d zX8_has [mI v3, mI v8] (up M 0 14 (s1 ||| s2)) (fun r_13 M_12 => wI r_13 fun x_15 =>
  ((x_15 = 0 → jJ kB_X8_go d k 10 [mR 8 0 0, mI v1, mI v2, mI v3, mI v4, mI v5, mI v6, mI v7, mI v8, mI v9, mI v10, mI v11, mI v12, u13] [] M_12) ∧
     (¬ x_15 = 0 → (vp_in (24 + v9) 30 ∧ wpD mB mNL d zX8_has [mI (M_12 2 ((24 + v9).toNatClampNeg)), mI v1] M_12 (fun r_17 M_16 => wI r_17 fun x_19 =>
      ((x_19 = 0 → jJ kB_X8_go d k 10 [mR 8 0 0, mI v1, mI v2, mI v3, mI v4, mI v5, mI v6, mI v7, mI v8, mI v9, mI v10, mI v11, mI v12, u13] [] M_16) ∧
         (¬ x_19 = 0 → jJ kB_X8_go d k 11 [mR 8 0 0, mI v1, mI v2, mI v3, mI v4, mI v5, mI v6, mI v7, mI v8, mI v9, mI v10, mI v11, mI v12, u13] [mI 1] M_16)))))))) :
  jJ kB_X8_go d k 9 [mR 8 0 0, mI v1, mI v2, mI v3, mI v4, mI v5, mI v6, mI v7, mI v8, mI v9, mI v10, mI v11, mI v12, u13] [mI s2, mI s1, mR 8 0 0] M := Wt.blk (wpD_mono mB mNL d) (cI (fun x_15 M_12 h_14 => And.intro (fun c_21 => (h_14.1 c_21)) (fun c_21 => And.intro (h_14.2 c_21).1 (cI (fun x_19 M_16 h_18 => And.intro (fun c_20 => (h_18.1 c_20)) (fun c_20 => (h_18.2 c_20))) (h_14.2 c_21).2))) h)
theorem v_X8_go_10 {d : Nat} {k : mQ} {M : mM} (v1 : Int32) (v2 : Int32) (v3 : Int32) (v4 : Int32) (v5 : Int32) (v6 : Int32) (v7 : Int32) (v8 : Int32) (v9 : Int32) (v10 : Int32) (v11 : Int32) (v12 : Int32) (u13 : mV)
  (h : jJ kB_X8_go d k 11 [mR 8 0 0, mI v1, mI v2, mI v3, mI v4, mI v5, mI v6, mI v7, mI v8, mI v9, mI v10, mI v11, mI v12, u13] [mI 0] M) :
  jJ kB_X8_go d k 10 [mR 8 0 0, mI v1, mI v2, mI v3, mI v4, mI v5, mI v6, mI v7, mI v8, mI v9, mI v10, mI v11, mI v12, u13] [] M := Wt.blk (wpD_mono mB mNL d) (h)
theorem v_X8_go_11 {d : Nat} {k : mQ} {M : mM} (v1 : Int32) (v2 : Int32) (v3 : Int32) (v4 : Int32) (v5 : Int32) (v6 : Int32) (v7 : Int32) (v8 : Int32) (v9 : Int32) (v10 : Int32) (v11 : Int32) (v12 : Int32) (u13 : mV) (s0 : Int32)
  (h : ((s0 = 0 → jJ kB_X8_go d k 1 [mR 8 0 0, mI v1, mI v2, mI v3, mI v4, mI v5, mI v6, mI v7, mI (v8 + 1), mI v9, mI v10, mI v11, mI v12, mI s0] [] M) ∧
   (¬ s0 = 0 → ((¬ v11 = 0 → jJ kB_X8_go d k 1 [mR 8 0 0, mI v1, mI v2, mI v3, mI v4, mI v5, mI v6, mI v7, mI (v8 + 1), mI v9, mI v10, mI v11, mI v12, mI s0] [] M) ∧
     (v11 = 0 → (vp_in v9 30 ∧ ((v7 < ((M 2 (v9.toNatClampNeg)) * v6) → jJ kB_X8_go d k 1 [mR 8 0 0, mI v1, mI v2, mI v3, mI v4, mI v5, mI v6, mI v7, mI (v8 + 1), mI v9, mI v10, mI v11, mI v12, mI s0] [] M) ∧
       (¬ v7 < ((M 2 (v9.toNatClampNeg)) * v6) → (((v7 - v12) < (v5 * v6) → jJ kB_X8_go d k 1 [mR 8 0 0, mI v1, mI v2, mI v3, mI v4, mI v5, mI v6, mI v7, mI (v8 + 1), mI v9, mI v10, mI v11, mI v12, mI s0] [] M) ∧
         (¬ (v7 - v12) < (v5 * v6) → jJ kB_X8_go d k 1 [mR 8 0 0, mI v1, mI v2, mI v3, mI v4, mI v5, mI v6, mI (v7 - v12), mI (v8 + 1), mI v9, mI v10, mI v11, mI v12, mI s0] [] (up (up M 0 13 ((M 0 13) ||| (1 <<< (v8 &&& 31)))) 0 16 ((M 0 16) + v12)))))))))))) :
  jJ kB_X8_go d k 11 [mR 8 0 0, mI v1, mI v2, mI v3, mI v4, mI v5, mI v6, mI v7, mI v8, mI v9, mI v10, mI v11, mI v12, u13] [mI s0] M := Wt.blk (wpD_mono mB mNL d) (And.intro (fun c_25 => Wt.blk (wpD_mono mB mNL d) ((h.1 c_25))) (fun c_25 => And.intro (fun c_24 => Wt.blk (wpD_mono mB mNL d) (((h.2 c_25).1 c_24))) (fun c_24 => And.intro ((h.2 c_25).2 c_24).1 (And.intro (fun c_23 => Wt.blk (wpD_mono mB mNL d) ((((h.2 c_25).2 c_24).2.1 c_23))) (fun c_23 => And.intro (fun c_22 => Wt.blk (wpD_mono mB mNL d) (((((h.2 c_25).2 c_24).2.2 c_23).1 c_22))) (fun c_22 => Wt.blk (wpD_mono mB mNL d) (((((h.2 c_25).2 c_24).2.2 c_23).2 c_22))))))))
theorem v_X8_areBits_0 {d : Nat} {k : mQ} {M : mM} (v1 : Int32) (v2 : Int32) (v3 : Int32)
  (h : wpD mB mNL d zX8_in [mI v1, mI 0, mI 5] M (fun r_2 M_1 => wI r_2 fun x_4 =>
  ((x_4 = 0 → k (mI 0) M_1) ∧
     (¬ x_4 = 0 → wpD mB mNL d zX8_in [mI v2, mI 0, mI ((1 <<< ((M_1 0 6) &&& 31)) - 1)] M_1 (fun r_6 M_5 => wI r_6 fun x_8 =>
      ((x_8 = 0 → k (mI 0) M_5) ∧
         (¬ x_8 = 0 → wpD mB mNL d zX8_in [mI v3, mI 0, mI ((1 <<< ((M_5 0 4) &&& 31)) - 1)] M_5 (fun r_10 M_9 => wI r_10 fun x_12 =>
          ((x_12 = 0 → k (mI 0) M_9) ∧
             (¬ x_12 = 0 → k (mI 1) M_9)))))))))) :
  wpD mB mNL (d + 1) zX8_areBits [mR 8 0 0, mI v1, mI v2, mI v3] M k := (show jJ kB_X8_areBits d k 0 [mR 8 0 0, mI v1, mI v2, mI v3] [] M from Wt.blk (wpD_mono mB mNL d) (cI (fun x_4 M_1 h_3 => And.intro (fun c_15 => Wt.blk (wpD_mono mB mNL d) (Wt.blk (wpD_mono mB mNL d) (And.intro (Or.inl rfl) (h_3.1 c_15)))) (fun c_15 => cI (fun x_8 M_5 h_7 => And.intro (fun c_14 => Wt.blk (wpD_mono mB mNL d) (Wt.blk (wpD_mono mB mNL d) (And.intro (Or.inl rfl) (h_7.1 c_14)))) (fun c_14 => cI (fun x_12 M_9 h_11 => And.intro (fun c_13 => Wt.blk (wpD_mono mB mNL d) (Wt.blk (wpD_mono mB mNL d) (And.intro (Or.inl rfl) (h_11.1 c_13)))) (fun c_13 => Wt.blk (wpD_mono mB mNL d) (And.intro (Or.inr rfl) (h_11.2 c_13)))) (h_7.2 c_14))) (h_3.2 c_15))) h))
theorem v_X8_at_0 {d : Nat} {k : mQ} {M : mM} (v1 : Int32) (v2 : Int32) (v3 : Int32) (v4 : Int32) (v5 : Int32)
  (h : wpD mB mNL d zX8_in [mI v4, mI 0, mI (M 0 4)] M (fun r_2 M_1 => wI r_2 fun x_4 =>
  ((¬ x_4 = 0 → wpD mB mNL d zX8_areBits [mR 8 0 0, mI v1, mI v2, mI v3] M_1 (fun r_6 M_5 => wI r_6 fun x_8 =>
      ((x_8 = 0 → k (mI (-2)) M_5) ∧
         (¬ x_8 = 0 → wpD mB mNL d zX8_in [mI v5, mI 0, mI 1] M_5 (fun r_10 M_9 => wI r_10 fun x_12 =>
          ((¬ x_12 = 0 → wpD mB mNL d zX8_asLane [mR 8 0 0] M_9 (fun r_14 M_13 => wV r_14 (
              (vp_in 1 5 ∧ wpD mB mNL d zX8_go [mR 8 0 0, mI v1, mI v2, mI v3, mI (M_13 1 ((1 : Int32).toNatClampNeg))] M_13 (fun r_17 M_16 => wV r_17 (
                ((¬ v5 = 0 → (vp_in v4 10 ∧ k (mI (M_16 8 (v4.toNatClampNeg))) M_16)) ∧
                   (v5 = 0 → (vp_in v4 10 ∧ k (mI (M_16 7 (v4.toNatClampNeg))) M_16))))))))) ∧
             (x_12 = 0 → k (mI (-2)) M_9))))))) ∧
     (x_4 = 0 → k (mI (-1)) M_1)))) :
  wpD mB mNL (d + 1) zX8_at [mR 8 0 0, mI v1, mI v2, mI v3, mI v4, mI v5] M k := (show jJ kB_X8_at d k 0 [mR 8 0 0, mI v1, mI v2, mI v3, mI v4, mI v5] [] M from Wt.blk (wpD_mono mB mNL d) (cI (fun x_4 M_1 h_3 => And.intro (fun c_22 => Wt.blk (wpD_mono mB mNL d) (cI (fun x_8 M_5 h_7 => And.intro (fun c_21 => Wt.blk (wpD_mono mB mNL d) ((h_7.1 c_21))) (fun c_21 => cI (fun x_12 M_9 h_11 => And.intro (fun c_20 => Wt.blk (wpD_mono mB mNL d) (cV (fun M_13 h_15 => And.intro h_15.1 (cV (fun M_16 h_18 => And.intro (fun c_19 => Wt.blk (wpD_mono mB mNL d) (And.intro (h_18.1 c_19).1 (Wt.blk (wpD_mono mB mNL d) ((h_18.1 c_19).2)))) (fun c_19 => And.intro (h_18.2 c_19).1 (Wt.blk (wpD_mono mB mNL d) ((h_18.2 c_19).2)))) h_15.2)) (h_11.1 c_20))) (fun c_20 => Wt.blk (wpD_mono mB mNL d) ((h_11.2 c_20)))) (h_7.2 c_21))) (h_3.1 c_22))) (fun c_22 => (h_3.2 c_22))) h))
theorem v_X8_run_0 {d : Nat} {k : mQ} {M : mM} (v1 : Int32) (v2 : Int32) (v3 : Int32) (v4 : Int32)
  (h : wpD mB mNL d zX8_areBits [mR 8 0 0, mI v1, mI v2, mI v3] M (fun r_2 M_1 => wI r_2 fun x_4 =>
  ((x_4 = 0 → k (mI (-2)) M_1) ∧
     (¬ x_4 = 0 → wpD mB mNL d zX8_in [mI v4, mI 0, mI 3] M_1 (fun r_6 M_5 => wI r_6 fun x_8 =>
      ((¬ x_8 = 0 → wpD mB mNL d zX8_asLane [mR 8 0 0] M_5 (fun r_10 M_9 => wV r_10 (
          (vp_in 1 5 ∧ wpD mB mNL d zX8_go [mR 8 0 0, mI v1, mI v2, mI v3, mI (M_9 1 ((1 : Int32).toNatClampNeg))] M_9 (fun r_13 M_12 => wV r_13 (
            ((¬ v4 = 0 → ((¬ v4 = 1 → ((¬ v4 = 2 → k (mI (M_12 0 16)) M_12) ∧
                   (v4 = 2 → k (mI (M_12 0 15)) M_12))) ∧
                 (v4 = 1 → k (mI (M_12 0 14)) M_12))) ∧
               (v4 = 0 → k (mI (M_12 0 13)) M_12)))))))) ∧
         (x_8 = 0 → k (mI (-2)) M_5))))))) :
  wpD mB mNL (d + 1) zX8_run [mR 8 0 0, mI v1, mI v2, mI v3, mI v4] M k := (show jJ kB_X8_run d k 0 [mR 8 0 0, mI v1, mI v2, mI v3, mI v4] [] M from Wt.blk (wpD_mono mB mNL d) (cI (fun x_4 M_1 h_3 => And.intro (fun c_19 => Wt.blk (wpD_mono mB mNL d) ((h_3.1 c_19))) (fun c_19 => cI (fun x_8 M_5 h_7 => And.intro (fun c_18 => Wt.blk (wpD_mono mB mNL d) (cV (fun M_9 h_11 => And.intro h_11.1 (cV (fun M_12 h_14 => And.intro (fun c_17 => Wt.blk (wpD_mono mB mNL d) (And.intro (fun c_16 => Wt.blk (wpD_mono mB mNL d) (And.intro (fun c_15 => Wt.blk (wpD_mono mB mNL d) (Wt.blk (wpD_mono mB mNL d) ((((h_14.1 c_17).1 c_16).1 c_15)))) (fun c_15 => Wt.blk (wpD_mono mB mNL d) ((((h_14.1 c_17).1 c_16).2 c_15))))) (fun c_16 => Wt.blk (wpD_mono mB mNL d) (((h_14.1 c_17).2 c_16))))) (fun c_17 => Wt.blk (wpD_mono mB mNL d) ((h_14.2 c_17)))) h_11.2)) (h_7.1 c_18))) (fun c_18 => Wt.blk (wpD_mono mB mNL d) ((h_7.2 c_18)))) (h_3.2 c_19))) h))
theorem v_X8_judge_0 {d : Nat} {k : mQ} {M : mM} (v1 : Int32)
  (h : wpD mB mNL d zX8_in [mI v1, mI 0, mI 1] M (fun r_2 M_1 => wI r_2 fun x_4 =>
  ((¬ x_4 = 0 → wpD mB mNL d zX8_dayFault [mR 8 0 0] M_1 (fun r_6 M_5 => wI r_6 fun x_8 =>
      ((x_8 < 0 → wpD mB mNL d zX8_asLane [mR 8 0 0] M_5 (fun r_10 M_9 => wV r_10 (
          jJ kB_X8_judge d k 3 [mR 8 0 0, mI v1, mI 0, mI 0, none, none, none, none] [] M_9))) ∧
         (¬ x_8 < 0 → k (mI (-5)) M_5)))) ∧
     (x_4 = 0 → k (mI (-2)) M_1)))) :
  wpD mB mNL (d + 1) zX8_judge [mR 8 0 0, mI v1] M k := (show jJ kB_X8_judge d k 0 [mR 8 0 0, mI v1, none, none, none, none, none, none] [] M from Wt.blk (wpD_mono mB mNL d) (cI (fun x_4 M_1 h_3 => And.intro (fun c_13 => Wt.blk (wpD_mono mB mNL d) (cI (fun x_8 M_5 h_7 => And.intro (fun c_12 => Wt.blk (wpD_mono mB mNL d) (cV (fun M_9 h_11 => h_11) (h_7.1 c_12))) (fun c_12 => (h_7.2 c_12))) (h_3.1 c_13))) (fun c_13 => (h_3.2 c_13))) h))
theorem v_X8_judge_3 {d : Nat} {k : mQ} {M : mM} (v1 : Int32) (v2 : Int32) (v3 : Int32) (u4 : mV) (u5 : mV) (u6 : mV) (u7 : mV)
  (h : ((6 ≤ v3 → k (mI (-6)) M) ∧
   (¬ 6 ≤ v3 → jJ kB_X8_judge d k 4 [mR 8 0 0, mI v1, mI v2, mI v3, mI 0, mI 0, u6, u7] [] M))) :
  jJ kB_X8_judge d k 3 [mR 8 0 0, mI v1, mI v2, mI v3, u4, u5, u6, u7] [] M := Wt.blk (wpD_mono mB mNL d) (And.intro (fun c_14 => Wt.blk (wpD_mono mB mNL d) ((h.1 c_14))) (fun c_14 => (h.2 c_14)))
theorem v_X8_judge_4 {d : Nat} {k : mQ} {M : mM} (v1 : Int32) (v2 : Int32) (v3 : Int32) (v4 : Int32) (v5 : Int32) (u6 : mV) (u7 : mV)
  (h : (((M 0 2) ≤ v2 → jJ kB_X8_judge d k 9 [mR 8 0 0, mI v1, mI v2, mI v3, mI v4, mI v5, u6, u7] [] M) ∧
   (¬ (M 0 2) ≤ v2 → (vp_in v2 48 ∧ (((M 3 (v2.toNatClampNeg)) = 47 → jJ kB_X8_judge d k 9 [mR 8 0 0, mI v1, mI v2, mI v3, mI v4, mI v5, u6, u7] [] M) ∧
     (¬ (M 3 (v2.toNatClampNeg)) = 47 → (vp_in v2 48 ∧ wpD mB mNL d zX8_in [mI (M 3 (v2.toNatClampNeg)), mI 49, mI 52] M (fun r_16 M_15 => wI r_16 fun x_18 =>
      ((x_18 = 0 → jJ kB_X8_judge d k 6 [mR 8 0 0, mI v1, mI v2, mI v3, mI v4, mI v5, u6, u7] [mI 0, mI v4] M_15) ∧
         (¬ x_18 = 0 → (vp_in v2 48 ∧ jJ kB_X8_judge d k 6 [mR 8 0 0, mI v1, mI v2, mI v3, mI v4, mI v5, u6, u7] [mI (1 <<< (((M_15 3 (v2.toNatClampNeg)) - 49) &&& 31)), mI v4] M_15))))))))))) :
  jJ kB_X8_judge d k 4 [mR 8 0 0, mI v1, mI v2, mI v3, mI v4, mI v5, u6, u7] [] M := Wt.blk (wpD_mono mB mNL d) (And.intro (fun c_21 => (h.1 c_21)) (fun c_21 => And.intro (h.2 c_21).1 (And.intro (fun c_20 => ((h.2 c_21).2.1 c_20)) (fun c_20 => And.intro ((h.2 c_21).2.2 c_20).1 (cI (fun x_18 M_15 h_17 => And.intro (fun c_19 => Wt.blk (wpD_mono mB mNL d) ((h_17.1 c_19))) (fun c_19 => And.intro (h_17.2 c_19).1 ((h_17.2 c_19).2))) ((h.2 c_21).2.2 c_20).2)))))
theorem v_X8_judge_6 {d : Nat} {k : mQ} {M : mM} (v1 : Int32) (v2 : Int32) (v3 : Int32) (v4 : Int32) (v5 : Int32) (u6 : mV) (u7 : mV) (s0 : Int32) (s1 : Int32)
  (h : (vp_in v2 48 ∧ wpD mB mNL d zX8_in [mI (M 3 (v2.toNatClampNeg)), mI 65, mI 72] M (fun r_23 M_22 => wI r_23 fun x_25 =>
  ((x_25 = 0 → jJ kB_X8_judge d k 4 [mR 8 0 0, mI v1, mI (v2 + 1), mI v3, mI (s0 ||| s1), mI (v5 ||| 0), u6, u7] [] M_22) ∧
     (¬ x_25 = 0 → (vp_in v2 48 ∧ jJ kB_X8_judge d k 4 [mR 8 0 0, mI v1, mI (v2 + 1), mI v3, mI (s0 ||| s1), mI (v5 ||| (1 <<< (((M_22 3 (v2.toNatClampNeg)) - 65) &&& 31))), u6, u7] [] M_22)))))) :
  jJ kB_X8_judge d k 6 [mR 8 0 0, mI v1, mI v2, mI v3, mI v4, mI v5, u6, u7] [mI s1, mI s0] M := Wt.blk (wpD_mono mB mNL d) (And.intro h.1 (cI (fun x_25 M_22 h_24 => And.intro (fun c_26 => Wt.blk (wpD_mono mB mNL d) (Wt.blk (wpD_mono mB mNL d) ((h_24.1 c_26)))) (fun c_26 => And.intro (h_24.2 c_26).1 (Wt.blk (wpD_mono mB mNL d) ((h_24.2 c_26).2)))) h.2))
theorem v_X8_judge_9 {d : Nat} {k : mQ} {M : mM} (v1 : Int32) (v2 : Int32) (v3 : Int32) (v4 : Int32) (v5 : Int32) (u6 : mV) (u7 : mV)
  (h : (vp_in 1 5 ∧ wpD mB mNL d zX8_go [mR 8 0 0, mI v3, mI v4, mI v5, mI (M 1 ((1 : Int32).toNatClampNeg))] M (fun r_28 M_27 => wV r_28 (
  jJ kB_X8_judge d k 10 [mR 8 0 0, mI v1, mI (v2 + 1), mI v3, mI v4, mI v5, mI ((M_27 0 14) ||| (v5 &&& ((M_27 0 13) ^^^ (-1)))), mI 0] [] M_27)))) :
  jJ kB_X8_judge d k 9 [mR 8 0 0, mI v1, mI v2, mI v3, mI v4, mI v5, u6, u7] [] M := Wt.blk (wpD_mono mB mNL d) (And.intro h.1 (cV (fun M_27 h_29 => h_29) h.2))
theorem v_X8_judge_10 {d : Nat} {k : mQ} {M : mM} (v1 : Int32) (v2 : Int32) (v3 : Int32) (v4 : Int32) (v5 : Int32) (v6 : Int32) (v7 : Int32)
  (h : (((M 0 9) ≤ v7 → jJ kB_X8_judge d k 3 [mR 8 0 0, mI v1, mI v2, mI (v3 + 1), mI v4, mI v5, mI v6, mI v7] [] M) ∧
   (¬ (M 0 9) ≤ v7 → wpD mB mNL d zX8_has [mI v6, mI v7] M (fun r_31 M_30 => wI r_31 fun x_33 =>
    ((x_33 = 0 → jJ kB_X8_judge d k 10 [mR 8 0 0, mI v1, mI v2, mI v3, mI v4, mI v5, mI v6, mI (v7 + 1)] [] M_30) ∧
       (¬ x_33 = 0 → ((¬ v1 = 0 → k (mI v7) M_30) ∧
         (v1 = 0 → k (mI v3) M_30)))))))) :
  jJ kB_X8_judge d k 10 [mR 8 0 0, mI v1, mI v2, mI v3, mI v4, mI v5, mI v6, mI v7] [] M := Wt.blk (wpD_mono mB mNL d) (And.intro (fun c_36 => Wt.blk (wpD_mono mB mNL d) ((h.1 c_36))) (fun c_36 => cI (fun x_33 M_30 h_32 => And.intro (fun c_35 => Wt.blk (wpD_mono mB mNL d) ((h_32.1 c_35))) (fun c_35 => And.intro (fun c_34 => Wt.blk (wpD_mono mB mNL d) (Wt.blk (wpD_mono mB mNL d) (((h_32.2 c_35).1 c_34)))) (fun c_34 => Wt.blk (wpD_mono mB mNL d) (((h_32.2 c_35).2 c_34))))) (h.2 c_36)))
theorem v_X8_worthOf_0 {d : Nat} {k : mQ} {M : mM} (v1 : Int32)
  (h : jJ kB_X8_worthOf d k 1 [mR 8 0 0, mI v1, mI 0, mI 0] [] M) :
  wpD mB mNL (d + 1) zX8_worthOf [mR 8 0 0, mI v1] M k := (show jJ kB_X8_worthOf d k 0 [mR 8 0 0, mI v1, none, none] [] M from Wt.blk (wpD_mono mB mNL d) (h))
theorem v_X8_worthOf_1 {d : Nat} {k : mQ} {M : mM} (v1 : Int32) (v2 : Int32) (v3 : Int32)
  (h : (((M 0 9) ≤ v3 → k (mI v2) M) ∧
   (¬ (M 0 9) ≤ v3 → wpD mB mNL d zX8_has [mI v1, mI v3] M (fun r_2 M_1 => wI r_2 fun x_4 =>
    ((x_4 = 0 → jJ kB_X8_worthOf d k 1 [mR 8 0 0, mI v1, mI (v2 + 0), mI (v3 + 1)] [] M_1) ∧
       (¬ x_4 = 0 → (vp_in (3 * v3) 27 ∧ (vp_in (18 + (M_1 6 ((3 * v3).toNatClampNeg))) 30 ∧ jJ kB_X8_worthOf d k 1 [mR 8 0 0, mI v1, mI (v2 + (M_1 2 ((18 + (M_1 6 ((3 * v3).toNatClampNeg))).toNatClampNeg))), mI (v3 + 1)] [] M_1)))))))) :
  jJ kB_X8_worthOf d k 1 [mR 8 0 0, mI v1, mI v2, mI v3] [] M := Wt.blk (wpD_mono mB mNL d) (And.intro (fun c_6 => Wt.blk (wpD_mono mB mNL d) ((h.1 c_6))) (fun c_6 => cI (fun x_4 M_1 h_3 => And.intro (fun c_5 => Wt.blk (wpD_mono mB mNL d) (Wt.blk (wpD_mono mB mNL d) ((h_3.1 c_5)))) (fun c_5 => And.intro (h_3.2 c_5).1 (And.intro (h_3.2 c_5).2.1 (Wt.blk (wpD_mono mB mNL d) ((h_3.2 c_5).2.2))))) (h.2 c_6)))
theorem v_X8_layBest_0 {d : Nat} {k : mQ} {M : mM} (v1 : Int32)
  (h : jJ kB_X8_layBest d k 1 [mR 8 0 0, mI v1, mI (-6), mI 0, none] [] (up M 0 17 0)) :
  wpD mB mNL (d + 1) zX8_layBest [mR 8 0 0, mI v1] M k := (show jJ kB_X8_layBest d k 0 [mR 8 0 0, mI v1, none, none, none] [] M from Wt.blk (wpD_mono mB mNL d) (h))
theorem v_X8_layBest_1 {d : Nat} {k : mQ} {M : mM} (v1 : Int32) (v2 : Int32) (v3 : Int32) (u4 : mV)
  (h : (((1 <<< ((M 0 6) &&& 31)) ≤ v3 → k (mI v2) M) ∧
   (¬ (1 <<< ((M 0 6) &&& 31)) ≤ v3 → jJ kB_X8_layBest d k 2 [mR 8 0 0, mI v1, mI v2, mI v3, mI 0] [] M))) :
  jJ kB_X8_layBest d k 1 [mR 8 0 0, mI v1, mI v2, mI v3, u4] [] M := Wt.blk (wpD_mono mB mNL d) (And.intro (fun c_1 => Wt.blk (wpD_mono mB mNL d) ((h.1 c_1))) (fun c_1 => (h.2 c_1)))
theorem v_X8_layBest_2 {d : Nat} {k : mQ} {M : mM} (v1 : Int32) (v2 : Int32) (v3 : Int32) (v4 : Int32)
  (h : (((1 <<< ((M 0 9) &&& 31)) ≤ v4 → jJ kB_X8_layBest d k 1 [mR 8 0 0, mI v1, mI v2, mI (v3 + 1), mI v4] [] M) ∧
   (¬ (1 <<< ((M 0 9) &&& 31)) ≤ v4 → (vp_in 1 5 ∧ wpD mB mNL d zX8_go [mR 8 0 0, mI v1, mI v3, mI v4, mI (M 1 ((1 : Int32).toNatClampNeg))] M (fun r_3 M_2 => wV r_3 (
    ((¬ (M_2 0 14) = 0 → jJ kB_X8_layBest d k 2 [mR 8 0 0, mI v1, mI v2, mI v3, mI (v4 + 1)] [] M_2) ∧
       ((M_2 0 14) = 0 → ((¬ (M_2 0 13) = v4 → jJ kB_X8_layBest d k 2 [mR 8 0 0, mI v1, mI v2, mI v3, mI (v4 + 1)] [] M_2) ∧
         ((M_2 0 13) = v4 → wpD mB mNL d zX8_worthOf [mR 8 0 0, mI (M_2 0 13)] M_2 (fun r_6 M_5 => wI r_6 fun x_8 =>
          ((x_8 ≤ v2 → jJ kB_X8_layBest d k 2 [mR 8 0 0, mI v1, mI v2, mI v3, mI (v4 + 1)] [] M_5) ∧
             (¬ x_8 ≤ v2 → wpD mB mNL d zX8_worthOf [mR 8 0 0, mI (M_5 0 13)] M_5 (fun r_10 M_9 => wI r_10 fun x_12 =>
              jJ kB_X8_layBest d k 2 [mR 8 0 0, mI v1, mI x_12, mI v3, mI (v4 + 1)] [] (up M_9 0 17 ((v3 <<< (9 &&& 31)) + v4)))))))))))))))) :
  jJ kB_X8_layBest d k 2 [mR 8 0 0, mI v1, mI v2, mI v3, mI v4] [] M := Wt.blk (wpD_mono mB mNL d) (And.intro (fun c_16 => Wt.blk (wpD_mono mB mNL d) ((h.1 c_16))) (fun c_16 => And.intro (h.2 c_16).1 (cV (fun M_2 h_4 => And.intro (fun c_15 => Wt.blk (wpD_mono mB mNL d) ((h_4.1 c_15))) (fun c_15 => And.intro (fun c_14 => Wt.blk (wpD_mono mB mNL d) (((h_4.2 c_15).1 c_14))) (fun c_14 => cI (fun x_8 M_5 h_7 => And.intro (fun c_13 => Wt.blk (wpD_mono mB mNL d) ((h_7.1 c_13))) (fun c_13 => cI (fun x_12 M_9 h_11 => Wt.blk (wpD_mono mB mNL d) (h_11)) (h_7.2 c_13))) ((h_4.2 c_15).2 c_14)))) (h.2 c_16).2)))
theorem v_X8_best_0 {d : Nat} {k : mQ} {M : mM} (v1 : Int32) (v2 : Int32)
  (h : wpD mB mNL d zX8_in [mI v1, mI 0, mI 5] M (fun r_2 M_1 => wI r_2 fun x_4 =>
  ((x_4 = 0 → k (mI (-2)) M_1) ∧
     (¬ x_4 = 0 → wpD mB mNL d zX8_in [mI v2, mI 0, mI 2] M_1 (fun r_6 M_5 => wI r_6 fun x_8 =>
      ((¬ x_8 = 0 → wpD mB mNL d zX8_asLane [mR 8 0 0] M_5 (fun r_10 M_9 => wV r_10 (
          wpD mB mNL d zX8_layBest [mR 8 0 0, mI v1] M_9 (fun r_13 M_12 => wI r_13 fun x_15 =>
            ((x_15 < 0 → k (mI x_15) M_12) ∧
               (¬ x_15 < 0 → ((¬ v2 = 0 → ((¬ v2 = 1 → k (mI ((M_12 0 17) &&& 511)) M_12) ∧
                   (v2 = 1 → k (mI ((M_12 0 17) >>> (9 &&& 31))) M_12))) ∧
                 (v2 = 0 → k (mI x_15) M_12)))))))) ∧
         (x_8 = 0 → k (mI (-2)) M_5))))))) :
  wpD mB mNL (d + 1) zX8_best [mR 8 0 0, mI v1, mI v2] M k := (show jJ kB_X8_best d k 0 [mR 8 0 0, mI v1, mI v2, none] [] M from Wt.blk (wpD_mono mB mNL d) (cI (fun x_4 M_1 h_3 => And.intro (fun c_20 => Wt.blk (wpD_mono mB mNL d) ((h_3.1 c_20))) (fun c_20 => cI (fun x_8 M_5 h_7 => And.intro (fun c_19 => Wt.blk (wpD_mono mB mNL d) (cV (fun M_9 h_11 => cI (fun x_15 M_12 h_14 => And.intro (fun c_18 => Wt.blk (wpD_mono mB mNL d) (Wt.blk (wpD_mono mB mNL d) ((h_14.1 c_18)))) (fun c_18 => And.intro (fun c_17 => Wt.blk (wpD_mono mB mNL d) (And.intro (fun c_16 => Wt.blk (wpD_mono mB mNL d) (Wt.blk (wpD_mono mB mNL d) ((((h_14.2 c_18).1 c_17).1 c_16)))) (fun c_16 => Wt.blk (wpD_mono mB mNL d) ((((h_14.2 c_18).1 c_17).2 c_16))))) (fun c_17 => Wt.blk (wpD_mono mB mNL d) (Wt.blk (wpD_mono mB mNL d) (((h_14.2 c_18).2 c_17)))))) h_11) (h_7.1 c_19))) (fun c_19 => Wt.blk (wpD_mono mB mNL d) ((h_7.2 c_19)))) (h_3.2 c_20))) h))
theorem v_X8_moss_0 {d : Nat} {k : mQ} {M : mM} (v1 : Int32) (v2 : Int32) (v3 : Int32)
  (h : wpD mB mNL d zX8_in [mI v1, mI 0, mI 5] M (fun r_2 M_1 => wI r_2 fun x_4 =>
  ((x_4 = 0 → k (mI (-2)) M_1) ∧
     (¬ x_4 = 0 → wpD mB mNL d zX8_in [mI v2, mI 0, mI 8] M_1 (fun r_6 M_5 => wI r_6 fun x_8 =>
      ((x_8 = 0 → k (mI (-2)) M_5) ∧
         (¬ x_8 = 0 → wpD mB mNL d zX8_in [mI v3, mI 0, mI 1] M_5 (fun r_10 M_9 => wI r_10 fun x_12 =>
          ((¬ x_12 = 0 → jJ kB_X8_moss d k 3 [mR 8 0 0, mI v1, mI v2, mI v3, mI (-6), mI (-6), mI 0, none] [] M_9) ∧
             (x_12 = 0 → k (mI (-2)) M_9)))))))))) :
  wpD mB mNL (d + 1) zX8_moss [mR 8 0 0, mI v1, mI v2, mI v3] M k := (show jJ kB_X8_moss d k 0 [mR 8 0 0, mI v1, mI v2, mI v3, none, none, none, none] [] M from Wt.blk (wpD_mono mB mNL d) (cI (fun x_4 M_1 h_3 => And.intro (fun c_15 => Wt.blk (wpD_mono mB mNL d) ((h_3.1 c_15))) (fun c_15 => cI (fun x_8 M_5 h_7 => And.intro (fun c_14 => Wt.blk (wpD_mono mB mNL d) ((h_7.1 c_14))) (fun c_14 => cI (fun x_12 M_9 h_11 => And.intro (fun c_13 => Wt.blk (wpD_mono mB mNL d) ((h_11.1 c_13))) (fun c_13 => Wt.blk (wpD_mono mB mNL d) ((h_11.2 c_13)))) (h_7.2 c_14))) (h_3.2 c_15))) h))
theorem v_X8_moss_3 {d : Nat} {k : mQ} {M : mM} (v1 : Int32) (v2 : Int32) (v3 : Int32) (v4 : Int32) (v5 : Int32) (v6 : Int32) (u7 : mV)
  (h : (((1 <<< ((M 0 4) &&& 31)) ≤ v6 → ((¬ v3 = 0 → k (mI v5) M) ∧
     (v3 = 0 → k (mI v4) M))) ∧
   (¬ (1 <<< ((M 0 4) &&& 31)) ≤ v6 → wpD mB mNL d zX8_bits [mI v6] M (fun r_18 M_17 => wI r_18 fun x_20 =>
    ((v2 < x_20 → jJ kB_X8_moss d k 3 [mR 8 0 0, mI v1, mI v2, mI v3, mI v4, mI v5, mI (v6 + 1), u7] [] M_17) ∧
       (¬ v2 < x_20 → wpD mB mNL d zX8_asLane [mR 8 0 0] M_17 (fun r_22 M_21 => wV r_22 (
        jJ kB_X8_moss d k 4 [mR 8 0 0, mI v1, mI v2, mI v3, mI v4, mI v5, mI v6, mI 0] [] M_21)))))))) :
  jJ kB_X8_moss d k 3 [mR 8 0 0, mI v1, mI v2, mI v3, mI v4, mI v5, mI v6, u7] [] M := Wt.blk (wpD_mono mB mNL d) (And.intro (fun c_25 => Wt.blk (wpD_mono mB mNL d) (And.intro (fun c_16 => Wt.blk (wpD_mono mB mNL d) (Wt.blk (wpD_mono mB mNL d) (((h.1 c_25).1 c_16)))) (fun c_16 => Wt.blk (wpD_mono mB mNL d) (((h.1 c_25).2 c_16))))) (fun c_25 => cI (fun x_20 M_17 h_19 => And.intro (fun c_24 => Wt.blk (wpD_mono mB mNL d) ((h_19.1 c_24))) (fun c_24 => cV (fun M_21 h_23 => h_23) (h_19.2 c_24))) (h.2 c_25)))
theorem v_X8_moss_4 {d : Nat} {k : mQ} {M : mM} (v1 : Int32) (v2 : Int32) (v3 : Int32) (v4 : Int32) (v5 : Int32) (v6 : Int32) (v7 : Int32)
  (h : (((M 0 4) ≤ v7 → wpD mB mNL d zX8_layBest [mR 8 0 0, mI v1] M (fun r_27 M_26 => wI r_27 fun x_29 =>
    ((v5 < x_29 → jJ kB_X8_moss d k 8 [mR 8 0 0, mI v1, mI v2, mI v3, mI v4, mI v5, mI v6, mI x_29] [] M_26) ∧
       (¬ v5 < x_29 → ((¬ x_29 = v5 → jJ kB_X8_moss d k 3 [mR 8 0 0, mI v1, mI v2, mI v3, mI v4, mI v5, mI (v6 + 1), mI x_29] [] M_26) ∧
         (x_29 = v5 → ((v4 < 0 → jJ kB_X8_moss d k 3 [mR 8 0 0, mI v1, mI v2, mI v3, mI v4, mI v5, mI (v6 + 1), mI x_29] [] M_26) ∧
           (¬ v4 < 0 → wpD mB mNL d zX8_bits [mI v6] M_26 (fun r_31 M_30 => wI r_31 fun x_33 =>
            wpD mB mNL d zX8_bits [mI v4] M_30 (fun r_35 M_34 => wI r_35 fun x_37 =>
              ((x_37 ≤ x_33 → jJ kB_X8_moss d k 3 [mR 8 0 0, mI v1, mI v2, mI v3, mI v4, mI v5, mI (v6 + 1), mI x_29] [] M_34) ∧
                 (¬ x_37 ≤ x_33 → jJ kB_X8_moss d k 8 [mR 8 0 0, mI v1, mI v2, mI v3, mI v4, mI v5, mI v6, mI x_29] [] M_34)))))))))))) ∧
   (¬ (M 0 4) ≤ v7 → wpD mB mNL d zX8_has [mI v6, mI v7] M (fun r_43 M_42 => wI r_43 fun x_45 =>
    ((x_45 = 0 → (vp_in ((3 * v7) + 1) 24 ∧ (vp_in ((3 * v7) + 1) 27 ∧ jJ kB_X8_moss d k 4 [mR 8 0 0, mI v1, mI v2, mI v3, mI v4, mI v5, mI v6, mI (v7 + 1)] [] (up M_42 6 (((3 * v7) + 1).toNatClampNeg) (M_42 4 (((3 * v7) + 1).toNatClampNeg)))))) ∧
       (¬ x_45 = 0 → (vp_in ((3 * v7) + 1) 27 ∧ jJ kB_X8_moss d k 4 [mR 8 0 0, mI v1, mI v2, mI v3, mI v4, mI v5, mI v6, mI (v7 + 1)] [] (up M_42 6 (((3 * v7) + 1).toNatClampNeg) 0)))))))) :
  jJ kB_X8_moss d k 4 [mR 8 0 0, mI v1, mI v2, mI v3, mI v4, mI v5, mI v6, mI v7] [] M := Wt.blk (wpD_mono mB mNL d) (And.intro (fun c_47 => Wt.blk (wpD_mono mB mNL d) (cI (fun x_29 M_26 h_28 => And.intro (fun c_41 => (h_28.1 c_41)) (fun c_41 => And.intro (fun c_40 => Wt.blk (wpD_mono mB mNL d) (((h_28.2 c_41).1 c_40))) (fun c_40 => And.intro (fun c_39 => Wt.blk (wpD_mono mB mNL d) ((((h_28.2 c_41).2 c_40).1 c_39))) (fun c_39 => cI (fun x_33 M_30 h_32 => cI (fun x_37 M_34 h_36 => And.intro (fun c_38 => Wt.blk (wpD_mono mB mNL d) ((h_36.1 c_38))) (fun c_38 => (h_36.2 c_38))) h_32) (((h_28.2 c_41).2 c_40).2 c_39))))) (h.1 c_47))) (fun c_47 => cI (fun x_45 M_42 h_44 => And.intro (fun c_46 => Wt.blk (wpD_mono mB mNL d) (And.intro (h_44.1 c_46).1 (Wt.blk (wpD_mono mB mNL d) (And.intro (h_44.1 c_46).2.1 ((h_44.1 c_46).2.2))))) (fun c_46 => Wt.blk (wpD_mono mB mNL d) (And.intro (h_44.2 c_46).1 ((h_44.2 c_46).2)))) (h.2 c_47)))
theorem v_X8_moss_8 {d : Nat} {k : mQ} {M : mM} (v1 : Int32) (v2 : Int32) (v3 : Int32) (v4 : Int32) (v5 : Int32) (v6 : Int32) (v7 : Int32)
  (h : ((0 ≤ v7 → jJ kB_X8_moss d k 3 [mR 8 0 0, mI v1, mI v2, mI v3, mI v6, mI v7, mI (v6 + 1), mI v7] [] M) ∧
   (¬ 0 ≤ v7 → jJ kB_X8_moss d k 3 [mR 8 0 0, mI v1, mI v2, mI v3, mI (-6), mI v7, mI (v6 + 1), mI v7] [] M))) :
  jJ kB_X8_moss d k 8 [mR 8 0 0, mI v1, mI v2, mI v3, mI v4, mI v5, mI v6, mI v7] [] M := Wt.blk (wpD_mono mB mNL d) (And.intro (fun c_48 => Wt.blk (wpD_mono mB mNL d) (Wt.blk (wpD_mono mB mNL d) (Wt.blk (wpD_mono mB mNL d) ((h.1 c_48))))) (fun c_48 => Wt.blk (wpD_mono mB mNL d) (Wt.blk (wpD_mono mB mNL d) ((h.2 c_48)))))
theorem v_X8_cools_0 {d : Nat} {k : mQ} {M : mM} (v1 : Int32) (v2 : Int32) (v3 : Int32)
  (h : wpD mB mNL d zX8_areBits [mR 8 0 0, mI v1, mI v2, mI v3] M (fun r_2 M_1 => wI r_2 fun x_4 =>
  ((¬ x_4 = 0 → wpD mB mNL d zX8_asLane [mR 8 0 0] M_1 (fun r_6 M_5 => wV r_6 (
      jJ kB_X8_cools d k 2 [mR 8 0 0, mI v1, mI v2, mI v3, mI 0] [] M_5))) ∧
     (x_4 = 0 → k (mI (-2)) M_1)))) :
  wpD mB mNL (d + 1) zX8_cools [mR 8 0 0, mI v1, mI v2, mI v3] M k := (show jJ kB_X8_cools d k 0 [mR 8 0 0, mI v1, mI v2, mI v3, none] [] M from Wt.blk (wpD_mono mB mNL d) (cI (fun x_4 M_1 h_3 => And.intro (fun c_8 => Wt.blk (wpD_mono mB mNL d) (cV (fun M_5 h_7 => h_7) (h_3.1 c_8))) (fun c_8 => (h_3.2 c_8))) h))
theorem v_X8_cools_2 {d : Nat} {k : mQ} {M : mM} (v1 : Int32) (v2 : Int32) (v3 : Int32) (v4 : Int32)
  (h : ((1000 < v4 → k (mI (-6)) M) ∧
   (¬ 1000 < v4 → wpD mB mNL d zX8_go [mR 8 0 0, mI v1, mI v2, mI v3, mI v4] M (fun r_10 M_9 => wV r_10 (
    ((¬ (M_9 0 14) = 0 → jJ kB_X8_cools d k 2 [mR 8 0 0, mI v1, mI v2, mI v3, mI (v4 + 1)] [] M_9) ∧
       ((M_9 0 14) = 0 → ((¬ (M_9 0 13) = v3 → jJ kB_X8_cools d k 2 [mR 8 0 0, mI v1, mI v2, mI v3, mI (v4 + 1)] [] M_9) ∧
         ((M_9 0 13) = v3 → k (mI v4) M_9))))))))) :
  jJ kB_X8_cools d k 2 [mR 8 0 0, mI v1, mI v2, mI v3, mI v4] [] M := Wt.blk (wpD_mono mB mNL d) (And.intro (fun c_14 => Wt.blk (wpD_mono mB mNL d) ((h.1 c_14))) (fun c_14 => cV (fun M_9 h_11 => And.intro (fun c_13 => Wt.blk (wpD_mono mB mNL d) ((h_11.1 c_13))) (fun c_13 => And.intro (fun c_12 => Wt.blk (wpD_mono mB mNL d) (((h_11.2 c_13).1 c_12))) (fun c_12 => ((h_11.2 c_13).2 c_12)))) (h.2 c_14)))
theorem v_X8_putAt_0 {d : Nat} {k : mQ} {M : mM} (v1 : Int32) (v2 : Int32)
  (h : wpD mB mNL d zX8_asLane [mR 8 0 0] M (fun r_2 M_1 => wV r_2 (
  jJ kB_X8_putAt d k 1 [mR 8 0 0, mI v1, mI v2, mI ((3 * (M_1 0 4)) - 1)] [] M_1))) :
  wpD mB mNL (d + 1) zX8_putAt [mR 8 0 0, mI v1, mI v2] M k := (show jJ kB_X8_putAt d k 0 [mR 8 0 0, mI v1, mI v2, none] [] M from Wt.blk (wpD_mono mB mNL d) (cV (fun M_1 h_3 => h_3) h))
theorem v_X8_putAt_1 {d : Nat} {k : mQ} {M : mM} (v1 : Int32) (v2 : Int32) (v3 : Int32)
  (h : ((v3 < (3 * v2) → (vp_in (3 * v2) 27 ∧ (vp_in ((3 * v2) + 1) 27 ∧ (vp_in ((3 * v2) + 2) 27 ∧ k none (up (up (up (up M 6 ((3 * v2).toNatClampNeg) v1) 6 (((3 * v2) + 1).toNatClampNeg) 0) 6 (((3 * v2) + 2).toNatClampNeg) (-6)) 0 9 ((M 0 4) + 1)))))) ∧
   (¬ v3 < (3 * v2) → (vp_in v3 27 ∧ (vp_in (v3 + 3) 27 ∧ jJ kB_X8_putAt d k 1 [mR 8 0 0, mI v1, mI v2, mI (v3 + (-1))] [] (up M 6 ((v3 + 3).toNatClampNeg) (M 6 (v3.toNatClampNeg)))))))) :
  jJ kB_X8_putAt d k 1 [mR 8 0 0, mI v1, mI v2, mI v3] [] M := Wt.blk (wpD_mono mB mNL d) (And.intro (fun c_4 => Wt.blk (wpD_mono mB mNL d) (And.intro (h.1 c_4).1 (And.intro (h.1 c_4).2.1 (And.intro (h.1 c_4).2.2.1 ((h.1 c_4).2.2.2))))) (fun c_4 => And.intro (h.2 c_4).1 (And.intro (h.2 c_4).2.1 ((h.2 c_4).2.2))))
theorem v_X8_put_0 {d : Nat} {k : mQ} {M : mM} (v1 : Int32) (v2 : Int32) (v3 : Int32)
  (h : wpD mB mNL d zX8_in [mI v2, mI 0, mI 5] M (fun r_2 M_1 => wI r_2 fun x_4 =>
  ((x_4 = 0 → k (mI (-1)) M_1) ∧
     (¬ x_4 = 0 → wpD mB mNL d zX8_in [mI v3, mI 0, mI (M_1 0 4)] M_1 (fun r_6 M_5 => wI r_6 fun x_8 =>
      ((¬ x_8 = 0 → wpD mB mNL d zX8_in [mI v1, mI 0, mI 5] M_5 (fun r_10 M_9 => wI r_10 fun x_12 =>
          ((¬ x_12 = 0 → ((¬ (M_9 0 4) = 8 → wpD mB mNL d zX8_putAt [mR 8 0 0, mI v2, mI v3] M_9 (fun r_14 M_13 => wV r_14 (
                wpD mB mNL d zX8_layBest [mR 8 0 0, mI v1] M_13 (fun r_17 M_16 => wI r_17 fun x_19 =>
                  k (mI x_19) M_16)))) ∧
               ((M_9 0 4) = 8 → k (mI (-4)) M_9))) ∧
             (x_12 = 0 → k (mI (-2)) M_9)))) ∧
         (x_8 = 0 → k (mI (-1)) M_5))))))) :
  wpD mB mNL (d + 1) zX8_put [mR 8 0 0, mI v1, mI v2, mI v3] M k := (show jJ kB_X8_put d k 0 [mR 8 0 0, mI v1, mI v2, mI v3] [] M from Wt.blk (wpD_mono mB mNL d) (cI (fun x_4 M_1 h_3 => And.intro (fun c_23 => Wt.blk (wpD_mono mB mNL d) ((h_3.1 c_23))) (fun c_23 => cI (fun x_8 M_5 h_7 => And.intro (fun c_22 => Wt.blk (wpD_mono mB mNL d) (cI (fun x_12 M_9 h_11 => And.intro (fun c_21 => Wt.blk (wpD_mono mB mNL d) (And.intro (fun c_20 => Wt.blk (wpD_mono mB mNL d) (cV (fun M_13 h_15 => cI (fun x_19 M_16 h_18 => h_18) h_15) ((h_11.1 c_21).1 c_20))) (fun c_20 => ((h_11.1 c_21).2 c_20)))) (fun c_21 => (h_11.2 c_21))) (h_7.1 c_22))) (fun c_22 => Wt.blk (wpD_mono mB mNL d) ((h_7.2 c_22)))) (h_3.2 c_23))) h))
theorem v_X8_where_0 {d : Nat} {k : mQ} {M : mM} (v1 : Int32) (v2 : Int32) (v3 : Int32)
  (h : wpD mB mNL d zX8_in [mI v2, mI 0, mI 5] M (fun r_2 M_1 => wI r_2 fun x_4 =>
  ((¬ x_4 = 0 → wpD mB mNL d zX8_in [mI v1, mI 0, mI 5] M_1 (fun r_6 M_5 => wI r_6 fun x_8 =>
      ((x_8 = 0 → k (mI (-2)) M_5) ∧
         (¬ x_8 = 0 → wpD mB mNL d zX8_in [mI v3, mI 0, mI 1] M_5 (fun r_10 M_9 => wI r_10 fun x_12 =>
          ((¬ x_12 = 0 → ((¬ (M_9 0 4) = 8 → jJ kB_X8_where d k 5 [mR 8 0 0, mI v1, mI v2, mI v3, mI (-6), mI (-6), mI 0, none] [] M_9) ∧
               ((M_9 0 4) = 8 → k (mI (-4)) M_9))) ∧
             (x_12 = 0 → k (mI (-2)) M_9))))))) ∧
     (x_4 = 0 → k (mI (-1)) M_1)))) :
  wpD mB mNL (d + 1) zX8_where [mR 8 0 0, mI v1, mI v2, mI v3] M k := (show jJ kB_X8_where d k 0 [mR 8 0 0, mI v1, mI v2, mI v3, none, none, none, none] [] M from Wt.blk (wpD_mono mB mNL d) (cI (fun x_4 M_1 h_3 => And.intro (fun c_16 => Wt.blk (wpD_mono mB mNL d) (cI (fun x_8 M_5 h_7 => And.intro (fun c_15 => Wt.blk (wpD_mono mB mNL d) ((h_7.1 c_15))) (fun c_15 => cI (fun x_12 M_9 h_11 => And.intro (fun c_14 => Wt.blk (wpD_mono mB mNL d) (And.intro (fun c_13 => Wt.blk (wpD_mono mB mNL d) (((h_11.1 c_14).1 c_13))) (fun c_13 => ((h_11.1 c_14).2 c_13)))) (fun c_14 => Wt.blk (wpD_mono mB mNL d) ((h_11.2 c_14)))) (h_7.2 c_15))) (h_3.1 c_16))) (fun c_16 => (h_3.2 c_16))) h))
theorem v_X8_where_5 {d : Nat} {k : mQ} {M : mM} (v1 : Int32) (v2 : Int32) (v3 : Int32) (v4 : Int32) (v5 : Int32) (v6 : Int32) (u7 : mV)
  (h : (((M 0 4) < v6 → ((¬ v3 = 0 → k (mI v5) M) ∧
     (v3 = 0 → k (mI v4) M))) ∧
   (¬ (M 0 4) < v6 → wpD mB mNL d zX8_putAt [mR 8 0 0, mI v2, mI v6] M (fun r_19 M_18 => wV r_19 (
    wpD mB mNL d zX8_layBest [mR 8 0 0, mI v1] M_18 (fun r_22 M_21 => wI r_22 fun x_24 =>
      ((x_24 ≤ v5 → jJ kB_X8_where d k 5 [mR 8 0 0, mI v1, mI v2, mI v3, mI v4, mI v5, mI (v6 + 1), mI x_24] [] M_21) ∧
         (¬ x_24 ≤ v5 → jJ kB_X8_where d k 5 [mR 8 0 0, mI v1, mI v2, mI v3, mI v6, mI x_24, mI (v6 + 1), mI x_24] [] M_21)))))))) :
  jJ kB_X8_where d k 5 [mR 8 0 0, mI v1, mI v2, mI v3, mI v4, mI v5, mI v6, u7] [] M := Wt.blk (wpD_mono mB mNL d) (And.intro (fun c_26 => Wt.blk (wpD_mono mB mNL d) (And.intro (fun c_17 => Wt.blk (wpD_mono mB mNL d) (Wt.blk (wpD_mono mB mNL d) (((h.1 c_26).1 c_17)))) (fun c_17 => Wt.blk (wpD_mono mB mNL d) (((h.1 c_26).2 c_17))))) (fun c_26 => cV (fun M_18 h_20 => cI (fun x_24 M_21 h_23 => And.intro (fun c_25 => Wt.blk (wpD_mono mB mNL d) ((h_23.1 c_25))) (fun c_25 => Wt.blk (wpD_mono mB mNL d) ((h_23.2 c_25)))) h_20) (h.2 c_26)))
theorem v_X8_nextOrder_0 {d : Nat} {k : mQ} {M : mM} 
  (h : jJ kB_X8_nextOrder d k 1 [mR 8 0 0, mI ((M 0 4) - 2), none, none, none] [] M) :
  wpD mB mNL (d + 1) zX8_nextOrder [mR 8 0 0] M k := (show jJ kB_X8_nextOrder d k 0 [mR 8 0 0, none, none, none, none] [] M from Wt.blk (wpD_mono mB mNL d) (h))
theorem v_X8_nextOrder_1 {d : Nat} {k : mQ} {M : mM} (v1 : Int32) (u2 : mV) (u3 : mV) (u4 : mV)
  (h : ((v1 < 0 → jJ kB_X8_nextOrder d k 2 [mR 8 0 0, mI v1, u2, u3, u4] [] M) ∧
   (¬ v1 < 0 → (vp_in v1 8 ∧ (vp_in (v1 + 1) 8 ∧ (((M 9 (v1.toNatClampNeg)) ≤ (M 9 ((v1 + 1).toNatClampNeg)) → jJ kB_X8_nextOrder d k 2 [mR 8 0 0, mI v1, u2, u3, u4] [] M) ∧
     (¬ (M 9 (v1.toNatClampNeg)) ≤ (M 9 ((v1 + 1).toNatClampNeg)) → jJ kB_X8_nextOrder d k 1 [mR 8 0 0, mI (v1 + (-1)), u2, u3, u4] [] M))))))) :
  jJ kB_X8_nextOrder d k 1 [mR 8 0 0, mI v1, u2, u3, u4] [] M := Wt.blk (wpD_mono mB mNL d) (And.intro (fun c_2 => (h.1 c_2)) (fun c_2 => And.intro (h.2 c_2).1 (And.intro (h.2 c_2).2.1 (And.intro (fun c_1 => ((h.2 c_2).2.2.1 c_1)) (fun c_1 => ((h.2 c_2).2.2.2 c_1))))))
theorem v_X8_nextOrder_2 {d : Nat} {k : mQ} {M : mM} (v1 : Int32) (u2 : mV) (u3 : mV) (u4 : mV)
  (h : ((0 ≤ v1 → jJ kB_X8_nextOrder d k 4 [mR 8 0 0, mI v1, mI ((M 0 4) - 1), u3, u4] [] M) ∧
   (¬ 0 ≤ v1 → k (mI 0) M))) :
  jJ kB_X8_nextOrder d k 2 [mR 8 0 0, mI v1, u2, u3, u4] [] M := Wt.blk (wpD_mono mB mNL d) (And.intro (fun c_3 => Wt.blk (wpD_mono mB mNL d) ((h.1 c_3))) (fun c_3 => And.intro (Or.inl rfl) (h.2 c_3)))
theorem v_X8_nextOrder_4 {d : Nat} {k : mQ} {M : mM} (v1 : Int32) (v2 : Int32) (u3 : mV) (u4 : mV)
  (h : (vp_in v2 8 ∧ (vp_in v1 8 ∧ (((M 9 (v1.toNatClampNeg)) ≤ (M 9 (v2.toNatClampNeg)) → wpD mB mNL d zX8_change [mR 8 0 0, mI v1, mI v2] M (fun r_5 M_4 => wV r_5 (
    jJ kB_X8_nextOrder d k 6 [mR 8 0 0, mI v1, mI v2, mI (v1 + 1), mI ((M_4 0 4) - 1)] [] M_4))) ∧
   (¬ (M 9 (v1.toNatClampNeg)) ≤ (M 9 (v2.toNatClampNeg)) → jJ kB_X8_nextOrder d k 4 [mR 8 0 0, mI v1, mI (v2 + (-1)), u3, u4] [] M))))) :
  jJ kB_X8_nextOrder d k 4 [mR 8 0 0, mI v1, mI v2, u3, u4] [] M := Wt.blk (wpD_mono mB mNL d) (And.intro h.1 (And.intro h.2.1 (And.intro (fun c_7 => Wt.blk (wpD_mono mB mNL d) (cV (fun M_4 h_6 => h_6) (h.2.2.1 c_7))) (fun c_7 => (h.2.2.2 c_7)))))
theorem v_X8_nextOrder_6 {d : Nat} {k : mQ} {M : mM} (v1 : Int32) (v2 : Int32) (v3 : Int32) (v4 : Int32)
  (h : ((v4 ≤ v3 → k (mI 1) M) ∧
   (¬ v4 ≤ v3 → wpD mB mNL d zX8_change [mR 8 0 0, mI v3, mI v4] M (fun r_9 M_8 => wV r_9 (
    jJ kB_X8_nextOrder d k 6 [mR 8 0 0, mI v1, mI v2, mI (v3 + 1), mI (v4 + (-1))] [] M_8))))) :
  jJ kB_X8_nextOrder d k 6 [mR 8 0 0, mI v1, mI v2, mI v3, mI v4] [] M := Wt.blk (wpD_mono mB mNL d) (And.intro (fun c_11 => Wt.blk (wpD_mono mB mNL d) (And.intro (Or.inr rfl) (h.1 c_11))) (fun c_11 => cV (fun M_8 h_10 => h_10) (h.2 c_11)))
theorem v_X8_change_0 {d : Nat} {k : mQ} {M : mM} (v1 : Int32) (v2 : Int32)
  (h : (vp_in v1 8 ∧ (vp_in v2 8 ∧ (vp_in v1 8 ∧ (vp_in v2 8 ∧ k none (up (up M 9 (v1.toNatClampNeg) (M 9 (v2.toNatClampNeg))) 9 (v2.toNatClampNeg) (M 9 (v1.toNatClampNeg)))))))) :
  wpD mB mNL (d + 1) zX8_change [mR 8 0 0, mI v1, mI v2] M k := (show jJ kB_X8_change d k 0 [mR 8 0 0, mI v1, mI v2, none] [] M from Wt.blk (wpD_mono mB mNL d) (And.intro h.1 (And.intro h.2.1 (And.intro h.2.2.1 (And.intro h.2.2.2.1 (h.2.2.2.2))))))
theorem v_X8_order_0 {d : Nat} {k : mQ} {M : mM} (v1 : Int32) (v2 : Int32)
  (h : wpD mB mNL d zX8_in [mI v1, mI 0, mI 5] M (fun r_2 M_1 => wI r_2 fun x_4 =>
  ((x_4 = 0 → k (mI (-2)) M_1) ∧
     (¬ x_4 = 0 → wpD mB mNL d zX8_in [mI v2, mI (-1), mI ((M_1 0 4) - 1)] M_1 (fun r_6 M_5 => wI r_6 fun x_8 =>
      ((¬ x_8 = 0 → (((M_5 0 4) ≤ 7 → wpD mB mNL d zX8_asLane [mR 8 0 0] M_5 (fun r_10 M_9 => wV r_10 (
            jJ kB_X8_order d k 4 [mR 8 0 0, mI v1, mI v2, mI 0, none, none, none] [] M_9))) ∧
           (¬ (M_5 0 4) ≤ 7 → k (mI (-4)) M_5))) ∧
         (x_8 = 0 → k (mI (-2)) M_5))))))) :
  wpD mB mNL (d + 1) zX8_order [mR 8 0 0, mI v1, mI v2] M k := (show jJ kB_X8_order d k 0 [mR 8 0 0, mI v1, mI v2, none, none, none, none] [] M from Wt.blk (wpD_mono mB mNL d) (cI (fun x_4 M_1 h_3 => And.intro (fun c_14 => Wt.blk (wpD_mono mB mNL d) ((h_3.1 c_14))) (fun c_14 => cI (fun x_8 M_5 h_7 => And.intro (fun c_13 => Wt.blk (wpD_mono mB mNL d) (And.intro (fun c_12 => Wt.blk (wpD_mono mB mNL d) (cV (fun M_9 h_11 => h_11) ((h_7.1 c_13).1 c_12))) (fun c_12 => ((h_7.1 c_13).2 c_12)))) (fun c_13 => Wt.blk (wpD_mono mB mNL d) ((h_7.2 c_13)))) (h_3.2 c_14))) h))
theorem v_X8_order_4 {d : Nat} {k : mQ} {M : mM} (v1 : Int32) (v2 : Int32) (v3 : Int32) (u4 : mV) (u5 : mV) (u6 : mV)
  (h : (((M 0 4) ≤ v3 → jJ kB_X8_order d k 6 [mR 8 0 0, mI v1, mI v2, mI (-6), mI (-6), mI 1, u6] [] M) ∧
   (¬ (M 0 4) ≤ v3 → (vp_in v3 8 ∧ jJ kB_X8_order d k 4 [mR 8 0 0, mI v1, mI v2, mI (v3 + 1), u4, u5, u6] [] (up M 9 (v3.toNatClampNeg) v3))))) :
  jJ kB_X8_order d k 4 [mR 8 0 0, mI v1, mI v2, mI v3, u4, u5, u6] [] M := Wt.blk (wpD_mono mB mNL d) (And.intro (fun c_15 => Wt.blk (wpD_mono mB mNL d) ((h.1 c_15))) (fun c_15 => And.intro (h.2 c_15).1 ((h.2 c_15).2)))
theorem v_X8_order_6 {d : Nat} {k : mQ} {M : mM} (v1 : Int32) (v2 : Int32) (v3 : Int32) (v4 : Int32) (v5 : Int32) (u6 : mV)
  (h : ((v5 = 0 → k (mI v4) M) ∧
   (¬ v5 = 0 → jJ kB_X8_order d k 7 [mR 8 0 0, mI v1, mI v2, mI v3, mI v4, mI v5, mI 0] [] M))) :
  jJ kB_X8_order d k 6 [mR 8 0 0, mI v1, mI v2, mI v3, mI v4, mI v5, u6] [] M := Wt.blk (wpD_mono mB mNL d) (And.intro (fun c_16 => Wt.blk (wpD_mono mB mNL d) ((h.1 c_16))) (fun c_16 => (h.2 c_16)))
theorem v_X8_order_7 {d : Nat} {k : mQ} {M : mM} (v1 : Int32) (v2 : Int32) (v3 : Int32) (v4 : Int32) (v5 : Int32) (v6 : Int32)
  (h : (((M 0 4) ≤ v6 → (vp_in 1 5 ∧ wpD mB mNL d zX8_go [mR 8 0 0, mI v1, mI 0, mI ((1 <<< ((M 0 4) &&& 31)) - 1), mI (M 1 ((1 : Int32).toNatClampNeg))] M (fun r_18 M_17 => wV r_18 (
    ((¬ (M_17 0 14) = 0 → jJ kB_X8_order d k 11 [mR 8 0 0, mI v1, mI v2, mI v3, mI v4, mI v5, mI v6] [] M_17) ∧
       ((M_17 0 14) = 0 → wpD mB mNL d zX8_worthOf [mR 8 0 0, mI (M_17 0 13)] M_17 (fun r_21 M_20 => wI r_21 fun x_23 =>
        ((x_23 ≤ v3 → jJ kB_X8_order d k 11 [mR 8 0 0, mI v1, mI v2, mI v3, mI v4, mI v5, mI v6] [] M_20) ∧
           (¬ x_23 ≤ v3 → wpD mB mNL d zX8_worthOf [mR 8 0 0, mI (M_20 0 13)] M_20 (fun r_25 M_24 => wI r_25 fun x_27 =>
            ((0 ≤ v2 → (vp_in v2 8 ∧ jJ kB_X8_order d k 10 [mR 8 0 0, mI v1, mI v2, mI x_27, mI v4, mI v5, mI v6] [mI (M_24 9 (v2.toNatClampNeg))] M_24)) ∧
               (¬ 0 ≤ v2 → jJ kB_X8_order d k 10 [mR 8 0 0, mI v1, mI v2, mI x_27, mI v4, mI v5, mI v6] [mI x_27] M_24)))))))))))) ∧
   (¬ (M 0 4) ≤ v6 → (vp_in v6 8 ∧ (vp_in (3 * (M 9 (v6.toNatClampNeg))) 24 ∧ (vp_in (3 * v6) 27 ∧ jJ kB_X8_order d k 7 [mR 8 0 0, mI v1, mI v2, mI v3, mI v4, mI v5, mI (v6 + 1)] [] (up M 6 ((3 * v6).toNatClampNeg) (M 4 ((3 * (M 9 (v6.toNatClampNeg))).toNatClampNeg))))))))) :
  jJ kB_X8_order d k 7 [mR 8 0 0, mI v1, mI v2, mI v3, mI v4, mI v5, mI v6] [] M := Wt.blk (wpD_mono mB mNL d) (And.intro (fun c_31 => Wt.blk (wpD_mono mB mNL d) (And.intro (h.1 c_31).1 (cV (fun M_17 h_19 => And.intro (fun c_30 => (h_19.1 c_30)) (fun c_30 => cI (fun x_23 M_20 h_22 => And.intro (fun c_29 => (h_22.1 c_29)) (fun c_29 => cI (fun x_27 M_24 h_26 => And.intro (fun c_28 => Wt.blk (wpD_mono mB mNL d) (And.intro (h_26.1 c_28).1 ((h_26.1 c_28).2))) (fun c_28 => (h_26.2 c_28))) (h_22.2 c_29))) (h_19.2 c_30))) (h.1 c_31).2))) (fun c_31 => And.intro (h.2 c_31).1 (And.intro (h.2 c_31).2.1 (And.intro (h.2 c_31).2.2.1 ((h.2 c_31).2.2.2)))))
theorem v_X8_order_10 {d : Nat} {k : mQ} {M : mM} (v1 : Int32) (v2 : Int32) (v3 : Int32) (v4 : Int32) (v5 : Int32) (v6 : Int32) (s0 : Int32)
  (h : jJ kB_X8_order d k 11 [mR 8 0 0, mI v1, mI v2, mI v3, mI s0, mI v5, mI v6] [] M) :
  jJ kB_X8_order d k 10 [mR 8 0 0, mI v1, mI v2, mI v3, mI v4, mI v5, mI v6] [mI s0] M := Wt.blk (wpD_mono mB mNL d) (h)
theorem v_X8_order_11 {d : Nat} {k : mQ} {M : mM} (v1 : Int32) (v2 : Int32) (v3 : Int32) (v4 : Int32) (v5 : Int32) (v6 : Int32)
  (h : wpD mB mNL d zX8_nextOrder [mR 8 0 0] M (fun r_33 M_32 => wI r_33 fun x_35 =>
  jJ kB_X8_order d k 6 [mR 8 0 0, mI v1, mI v2, mI v3, mI v4, mI x_35, mI v6] [] M_32)) :
  jJ kB_X8_order d k 11 [mR 8 0 0, mI v1, mI v2, mI v3, mI v4, mI v5, mI v6] [] M := Wt.blk (wpD_mono mB mNL d) (cI (fun x_35 M_32 h_34 => h_34) h)
theorem v_X8_felt_0 {d : Nat} {k : mQ} {M : mM} (v1 : Int32) (v2 : Int32) (v3 : Int32)
  (h : wpD mB mNL d zX8_in [mI v1, mI 0, mI ((M 0 4) - 1)] M (fun r_2 M_1 => wI r_2 fun x_4 =>
  ((¬ x_4 = 0 → wpD mB mNL d zX8_in [mI v2, mI 0, mI 1000] M_1 (fun r_6 M_5 => wI r_6 fun x_8 =>
      ((x_8 = 0 → k (mI (-2)) M_5) ∧
         (¬ x_8 = 0 → wpD mB mNL d zX8_in [mI v3, mI v2, mI 1000] M_5 (fun r_10 M_9 => wI r_10 fun x_12 =>
          ((¬ x_12 = 0 → ((¬ (M_9 0 7) = 6 → (vp_in (3 * (M_9 0 7)) 18 ∧ (vp_in ((3 * (M_9 0 7)) + 1) 18 ∧ (vp_in ((3 * (M_9 0 7)) + 2) 18 ∧ k (mI ((M_9 0 7) + 1)) (up (up (up (up M_9 5 ((3 * (M_9 0 7)).toNatClampNeg) v1) 5 (((3 * (M_9 0 7)) + 1).toNatClampNeg) v2) 5 (((3 * (M_9 0 7)) + 2).toNatClampNeg) v3) 0 7 ((M_9 0 7) + 1)))))) ∧
               ((M_9 0 7) = 6 → k (mI (-4)) M_9))) ∧
             (x_12 = 0 → k (mI (-2)) M_9))))))) ∧
     (x_4 = 0 → k (mI (-1)) M_1)))) :
  wpD mB mNL (d + 1) zX8_felt [mR 8 0 0, mI v1, mI v2, mI v3] M k := (show jJ kB_X8_felt d k 0 [mR 8 0 0, mI v1, mI v2, mI v3] [] M from Wt.blk (wpD_mono mB mNL d) (cI (fun x_4 M_1 h_3 => And.intro (fun c_16 => Wt.blk (wpD_mono mB mNL d) (cI (fun x_8 M_5 h_7 => And.intro (fun c_15 => Wt.blk (wpD_mono mB mNL d) ((h_7.1 c_15))) (fun c_15 => cI (fun x_12 M_9 h_11 => And.intro (fun c_14 => Wt.blk (wpD_mono mB mNL d) (And.intro (fun c_13 => Wt.blk (wpD_mono mB mNL d) (And.intro ((h_11.1 c_14).1 c_13).1 (And.intro ((h_11.1 c_14).1 c_13).2.1 (And.intro ((h_11.1 c_14).1 c_13).2.2.1 (((h_11.1 c_14).1 c_13).2.2.2))))) (fun c_13 => ((h_11.1 c_14).2 c_13)))) (fun c_14 => Wt.blk (wpD_mono mB mNL d) ((h_11.2 c_14)))) (h_7.2 c_15))) (h_3.1 c_16))) (fun c_16 => (h_3.2 c_16))) h))
theorem v_X8_forget_0 {d : Nat} {k : mQ} {M : mM} 
  (h : k (mI (M 0 7)) (up M 0 7 0)) :
  wpD mB mNL (d + 1) zX8_forget [mR 8 0 0] M k := (show jJ kB_X8_forget d k 0 [mR 8 0 0, none] [] M from Wt.blk (wpD_mono mB mNL d) (h))
theorem v_X8_isFelt_0 {d : Nat} {k : mQ} {M : mM} (v1 : Int32) (v2 : Int32) (v3 : Int32)
  (h : (vp_in 1 5 ∧ wpD mB mNL d zX8_go [mR 8 0 0, mI v1, mI v2, mI v3, mI (M 1 ((1 : Int32).toNatClampNeg))] M (fun r_2 M_1 => wV r_2 (
  jJ kB_X8_isFelt d k 1 [mR 8 0 0, mI v1, mI v2, mI v3, mI 1, mI 0, none] [] M_1)))) :
  wpD mB mNL (d + 1) zX8_isFelt [mR 8 0 0, mI v1, mI v2, mI v3] M k := (show jJ kB_X8_isFelt d k 0 [mR 8 0 0, mI v1, mI v2, mI v3, none, none, none] [] M from Wt.blk (wpD_mono mB mNL d) (And.intro h.1 (cV (fun M_1 h_3 => h_3) h.2)))
theorem v_X8_isFelt_1 {d : Nat} {k : mQ} {M : mM} (v1 : Int32) (v2 : Int32) (v3 : Int32) (v4 : Int32) (v5 : Int32) (u6 : mV)
  (h : (((M 0 7) ≤ v5 → ((v4 = 0 ∨ v4 = 1) ∧ k (mI v4) M)) ∧
   (¬ (M 0 7) ≤ v5 → (vp_in (3 * v5) 18 ∧ ((v4 = 0 → jJ kB_X8_isFelt d k 1 [mR 8 0 0, mI v1, mI v2, mI v3, mI 0, mI (v5 + 1), mI (M 5 ((3 * v5).toNatClampNeg))] [] M) ∧
     (¬ v4 = 0 → (vp_in (M 5 ((3 * v5).toNatClampNeg)) 10 ∧ (vp_in (M 5 ((3 * v5).toNatClampNeg)) 10 ∧ (¬ (M 7 ((M 5 ((3 * v5).toNatClampNeg)).toNatClampNeg)) = (0 : Int32) ∧ (vp_in ((3 * v5) + 1) 18 ∧ (vp_in ((3 * v5) + 2) 18 ∧ wpD mB mNL d zX8_in [mI ((M 8 ((M 5 ((3 * v5).toNatClampNeg)).toNatClampNeg)) / (M 7 ((M 5 ((3 * v5).toNatClampNeg)).toNatClampNeg))), mI (M 5 (((3 * v5) + 1).toNatClampNeg)), mI (M 5 (((3 * v5) + 2).toNatClampNeg))] M (fun r_5 M_4 => wI r_5 fun x_7 =>
      ((x_7 = 0 → jJ kB_X8_isFelt d k 1 [mR 8 0 0, mI v1, mI v2, mI v3, mI 0, mI (v5 + 1), mI (M 5 ((3 * v5).toNatClampNeg))] [] M_4) ∧
         (¬ x_7 = 0 → jJ kB_X8_isFelt d k 1 [mR 8 0 0, mI v1, mI v2, mI v3, mI 1, mI (v5 + 1), mI (M 5 ((3 * v5).toNatClampNeg))] [] M_4)))))))))))))) :
  jJ kB_X8_isFelt d k 1 [mR 8 0 0, mI v1, mI v2, mI v3, mI v4, mI v5, u6] [] M := Wt.blk (wpD_mono mB mNL d) (And.intro (fun c_10 => Wt.blk (wpD_mono mB mNL d) ((h.1 c_10))) (fun c_10 => And.intro (h.2 c_10).1 (And.intro (fun c_9 => Wt.blk (wpD_mono mB mNL d) (Wt.blk (wpD_mono mB mNL d) (((h.2 c_10).2.1 c_9)))) (fun c_9 => And.intro ((h.2 c_10).2.2 c_9).1 (And.intro ((h.2 c_10).2.2 c_9).2.1 (And.intro ((h.2 c_10).2.2 c_9).2.2.1 (And.intro ((h.2 c_10).2.2 c_9).2.2.2.1 (And.intro ((h.2 c_10).2.2 c_9).2.2.2.2.1 (cI (fun x_7 M_4 h_6 => And.intro (fun c_8 => Wt.blk (wpD_mono mB mNL d) (Wt.blk (wpD_mono mB mNL d) ((h_6.1 c_8)))) (fun c_8 => Wt.blk (wpD_mono mB mNL d) ((h_6.2 c_8)))) ((h.2 c_10).2.2 c_9).2.2.2.2.2)))))))))
theorem v_X8_fits_0 {d : Nat} {k : mQ} {M : mM} (v1 : Int32) (v2 : Int32) (v3 : Int32)
  (h : wpD mB mNL d zX8_areBits [mR 8 0 0, mI v1, mI 0, mI v2] M (fun r_2 M_1 => wI r_2 fun x_4 =>
  ((¬ x_4 = 0 → wpD mB mNL d zX8_asLane [mR 8 0 0] M_1 (fun r_6 M_5 => wV r_6 (
      jJ kB_X8_fits d k 2 [mR 8 0 0, mI v1, mI v2, mI v3, mI 0, mI 0] [] M_5))) ∧
     (x_4 = 0 → k (mI (-2)) M_1)))) :
  wpD mB mNL (d + 1) zX8_fits [mR 8 0 0, mI v1, mI v2, mI v3] M k := (show jJ kB_X8_fits d k 0 [mR 8 0 0, mI v1, mI v2, mI v3, none, none] [] M from Wt.blk (wpD_mono mB mNL d) (cI (fun x_4 M_1 h_3 => And.intro (fun c_8 => Wt.blk (wpD_mono mB mNL d) (cV (fun M_5 h_7 => h_7) (h_3.1 c_8))) (fun c_8 => (h_3.2 c_8))) h))
theorem v_X8_fits_2 {d : Nat} {k : mQ} {M : mM} (v1 : Int32) (v2 : Int32) (v3 : Int32) (v4 : Int32) (v5 : Int32)
  (h : (((1 <<< ((M 0 6) &&& 31)) ≤ v5 → ((¬ v3 = (-1) → k (mI (-6)) M) ∧
     (v3 = (-1) → k (mI v4) M))) ∧
   (¬ (1 <<< ((M 0 6) &&& 31)) ≤ v5 → wpD mB mNL d zX8_isFelt [mR 8 0 0, mI v1, mI v5, mI v2] M (fun r_11 M_10 => wI r_11 fun x_13 =>
    ((x_13 = 0 → jJ kB_X8_fits d k 2 [mR 8 0 0, mI v1, mI v2, mI v3, mI v4, mI (v5 + 1)] [] M_10) ∧
       (¬ x_13 = 0 → ((¬ v4 = v3 → jJ kB_X8_fits d k 2 [mR 8 0 0, mI v1, mI v2, mI v3, mI (v4 + 1), mI (v5 + 1)] [] M_10) ∧
         (v4 = v3 → k (mI v5) M_10)))))))) :
  jJ kB_X8_fits d k 2 [mR 8 0 0, mI v1, mI v2, mI v3, mI v4, mI v5] [] M := Wt.blk (wpD_mono mB mNL d) (And.intro (fun c_16 => Wt.blk (wpD_mono mB mNL d) (And.intro (fun c_9 => Wt.blk (wpD_mono mB mNL d) (Wt.blk (wpD_mono mB mNL d) (((h.1 c_16).1 c_9)))) (fun c_9 => Wt.blk (wpD_mono mB mNL d) (((h.1 c_16).2 c_9))))) (fun c_16 => cI (fun x_13 M_10 h_12 => And.intro (fun c_15 => Wt.blk (wpD_mono mB mNL d) ((h_12.1 c_15))) (fun c_15 => And.intro (fun c_14 => Wt.blk (wpD_mono mB mNL d) (Wt.blk (wpD_mono mB mNL d) (((h_12.2 c_15).1 c_14)))) (fun c_14 => ((h_12.2 c_15).2 c_14)))) (h.2 c_16)))
theorem v_X8_door_0 {d : Nat} {k : mQ} {M : mM} (v1 : Int32) (v2 : Int32) (v3 : Int32)
  (h : wpD mB mNL d zX8_areBits [mR 8 0 0, mI v1, mI 0, mI v2] M (fun r_2 M_1 => wI r_2 fun x_4 =>
  ((x_4 = 0 → k (mI (-2)) M_1) ∧
     (¬ x_4 = 0 → wpD mB mNL d zX8_in [mI v3, mI 0, mI 1] M_1 (fun r_6 M_5 => wI r_6 fun x_8 =>
      ((¬ x_8 = 0 → wpD mB mNL d zX8_asLane [mR 8 0 0] M_5 (fun r_10 M_9 => wV r_10 (
          jJ kB_X8_door d k 3 [mR 8 0 0, mI v1, mI v2, mI v3, mI (-6), mI (-6), mI 0, none, none, none, none] [] M_9))) ∧
         (x_8 = 0 → k (mI (-2)) M_5))))))) :
  wpD mB mNL (d + 1) zX8_door [mR 8 0 0, mI v1, mI v2, mI v3] M k := (show jJ kB_X8_door d k 0 [mR 8 0 0, mI v1, mI v2, mI v3, none, none, none, none, none, none, none] [] M from Wt.blk (wpD_mono mB mNL d) (cI (fun x_4 M_1 h_3 => And.intro (fun c_13 => Wt.blk (wpD_mono mB mNL d) ((h_3.1 c_13))) (fun c_13 => cI (fun x_8 M_5 h_7 => And.intro (fun c_12 => Wt.blk (wpD_mono mB mNL d) (cV (fun M_9 h_11 => h_11) (h_7.1 c_12))) (fun c_12 => Wt.blk (wpD_mono mB mNL d) ((h_7.2 c_12)))) (h_3.2 c_13))) h))
theorem v_X8_door_3 {d : Nat} {k : mQ} {M : mM} (v1 : Int32) (v2 : Int32) (v3 : Int32) (v4 : Int32) (v5 : Int32) (v6 : Int32) (u7 : mV) (u8 : mV) (u9 : mV) (u10 : mV)
  (h : (((M 0 4) ≤ v6 → ((¬ v3 = 0 → k (mI v5) M) ∧
     (v3 = 0 → k (mI v4) M))) ∧
   (¬ (M 0 4) ≤ v6 → jJ kB_X8_door d k 4 [mR 8 0 0, mI v1, mI v2, mI v3, mI v4, mI v5, mI v6, mI 0, mI 0, u9, u10] [] M))) :
  jJ kB_X8_door d k 3 [mR 8 0 0, mI v1, mI v2, mI v3, mI v4, mI v5, mI v6, u7, u8, u9, u10] [] M := Wt.blk (wpD_mono mB mNL d) (And.intro (fun c_15 => Wt.blk (wpD_mono mB mNL d) (And.intro (fun c_14 => Wt.blk (wpD_mono mB mNL d) (Wt.blk (wpD_mono mB mNL d) (((h.1 c_15).1 c_14)))) (fun c_14 => Wt.blk (wpD_mono mB mNL d) (((h.1 c_15).2 c_14))))) (fun c_15 => (h.2 c_15)))
theorem v_X8_door_4 {d : Nat} {k : mQ} {M : mM} (v1 : Int32) (v2 : Int32) (v3 : Int32) (v4 : Int32) (v5 : Int32) (v6 : Int32) (v7 : Int32) (v8 : Int32) (u9 : mV) (u10 : mV)
  (h : (((1 <<< ((M 0 6) &&& 31)) ≤ v8 → jJ kB_X8_door d k 8 [mR 8 0 0, mI v1, mI v2, mI v3, mI v4, mI v5, mI v6, mI v7, mI 0, u9, u10] [] M) ∧
   (¬ (1 <<< ((M 0 6) &&& 31)) ≤ v8 → wpD mB mNL d zX8_isFelt [mR 8 0 0, mI v1, mI v8, mI v2] M (fun r_17 M_16 => wI r_17 fun x_19 =>
    ((x_19 = 0 → (vp_in v8 16 ∧ jJ kB_X8_door d k 4 [mR 8 0 0, mI v1, mI v2, mI v3, mI v4, mI v5, mI v6, mI v7, mI (v8 + 1), u9, u10] [] (up M_16 10 (v8.toNatClampNeg) (-6)))) ∧
       (¬ x_19 = 0 → (vp_in v6 10 ∧ (vp_in v6 10 ∧ (¬ (M_16 7 (v6.toNatClampNeg)) = (0 : Int32) ∧ (vp_in v8 16 ∧ jJ kB_X8_door d k 4 [mR 8 0 0, mI v1, mI v2, mI v3, mI v4, mI v5, mI v6, mI v7, mI (v8 + 1), u9, u10] [] (up M_16 10 (v8.toNatClampNeg) ((M_16 8 (v6.toNatClampNeg)) / (M_16 7 (v6.toNatClampNeg)))))))))))))) :
  jJ kB_X8_door d k 4 [mR 8 0 0, mI v1, mI v2, mI v3, mI v4, mI v5, mI v6, mI v7, mI v8, u9, u10] [] M := Wt.blk (wpD_mono mB mNL d) (And.intro (fun c_21 => Wt.blk (wpD_mono mB mNL d) ((h.1 c_21))) (fun c_21 => cI (fun x_19 M_16 h_18 => And.intro (fun c_20 => Wt.blk (wpD_mono mB mNL d) (Wt.blk (wpD_mono mB mNL d) (And.intro (h_18.1 c_20).1 ((h_18.1 c_20).2)))) (fun c_20 => And.intro (h_18.2 c_20).1 (And.intro (h_18.2 c_20).2.1 (And.intro (h_18.2 c_20).2.2.1 (Wt.blk (wpD_mono mB mNL d) (And.intro (h_18.2 c_20).2.2.2.1 ((h_18.2 c_20).2.2.2.2))))))) (h.2 c_21)))
theorem v_X8_door_8 {d : Nat} {k : mQ} {M : mM} (v1 : Int32) (v2 : Int32) (v3 : Int32) (v4 : Int32) (v5 : Int32) (v6 : Int32) (v7 : Int32) (v8 : Int32) (u9 : mV) (u10 : mV)
  (h : (((1 <<< ((M 0 6) &&& 31)) ≤ v8 → ((v7 ≤ 0 → jJ kB_X8_door d k 3 [mR 8 0 0, mI v1, mI v2, mI v3, mI v4, mI v5, mI (v6 + 1), mI v7, mI v8, u9, u10] [] M) ∧
     (¬ v7 ≤ 0 → ((v4 < 0 → jJ kB_X8_door d k 3 [mR 8 0 0, mI v1, mI v2, mI v3, mI v6, mI v7, mI (v6 + 1), mI v7, mI v8, u9, u10] [] M) ∧
       (¬ v4 < 0 → ((v5 ≤ v7 → jJ kB_X8_door d k 3 [mR 8 0 0, mI v1, mI v2, mI v3, mI v4, mI v5, mI (v6 + 1), mI v7, mI v8, u9, u10] [] M) ∧
         (¬ v5 ≤ v7 → jJ kB_X8_door d k 3 [mR 8 0 0, mI v1, mI v2, mI v3, mI v6, mI v7, mI (v6 + 1), mI v7, mI v8, u9, u10] [] M))))))) ∧
   (¬ (1 <<< ((M 0 6) &&& 31)) ≤ v8 → jJ kB_X8_door d k 9 [mR 8 0 0, mI v1, mI v2, mI v3, mI v4, mI v5, mI v6, mI v7, mI v8, mI 0, mI 0] [] M))) :
  jJ kB_X8_door d k 8 [mR 8 0 0, mI v1, mI v2, mI v3, mI v4, mI v5, mI v6, mI v7, mI v8, u9, u10] [] M := Wt.blk (wpD_mono mB mNL d) (And.intro (fun c_25 => Wt.blk (wpD_mono mB mNL d) (And.intro (fun c_24 => Wt.blk (wpD_mono mB mNL d) (((h.1 c_25).1 c_24))) (fun c_24 => And.intro (fun c_23 => Wt.blk (wpD_mono mB mNL d) (Wt.blk (wpD_mono mB mNL d) ((((h.1 c_25).2 c_24).1 c_23)))) (fun c_23 => And.intro (fun c_22 => Wt.blk (wpD_mono mB mNL d) (((((h.1 c_25).2 c_24).2 c_23).1 c_22))) (fun c_22 => Wt.blk (wpD_mono mB mNL d) (Wt.blk (wpD_mono mB mNL d) (((((h.1 c_25).2 c_24).2 c_23).2 c_22)))))))) (fun c_25 => (h.2 c_25)))
theorem v_X8_door_9 {d : Nat} {k : mQ} {M : mM} (v1 : Int32) (v2 : Int32) (v3 : Int32) (v4 : Int32) (v5 : Int32) (v6 : Int32) (v7 : Int32) (v8 : Int32) (v9 : Int32) (v10 : Int32)
  (h : (((1 <<< ((M 0 6) &&& 31)) ≤ v10 → ((v9 ≤ v7 → jJ kB_X8_door d k 8 [mR 8 0 0, mI v1, mI v2, mI v3, mI v4, mI v5, mI v6, mI v7, mI (v8 + 1), mI v9, mI v10] [] M) ∧
     (¬ v9 ≤ v7 → jJ kB_X8_door d k 8 [mR 8 0 0, mI v1, mI v2, mI v3, mI v4, mI v5, mI v6, mI v9, mI (v8 + 1), mI v9, mI v10] [] M))) ∧
   (¬ (1 <<< ((M 0 6) &&& 31)) ≤ v10 → (vp_in v8 16 ∧ (((M 10 (v8.toNatClampNeg)) < 0 → jJ kB_X8_door d k 9 [mR 8 0 0, mI v1, mI v2, mI v3, mI v4, mI v5, mI v6, mI v7, mI v8, mI (v9 + 0), mI (v10 + 1)] [] M) ∧
     (¬ (M 10 (v8.toNatClampNeg)) < 0 → (vp_in v10 16 ∧ (vp_in v8 16 ∧ ((¬ (M 10 (v10.toNatClampNeg)) = (M 10 (v8.toNatClampNeg)) → jJ kB_X8_door d k 9 [mR 8 0 0, mI v1, mI v2, mI v3, mI v4, mI v5, mI v6, mI v7, mI v8, mI (v9 + 0), mI (v10 + 1)] [] M) ∧
       ((M 10 (v10.toNatClampNeg)) = (M 10 (v8.toNatClampNeg)) → jJ kB_X8_door d k 9 [mR 8 0 0, mI v1, mI v2, mI v3, mI v4, mI v5, mI v6, mI v7, mI v8, mI (v9 + 1), mI (v10 + 1)] [] M)))))))))) :
  jJ kB_X8_door d k 9 [mR 8 0 0, mI v1, mI v2, mI v3, mI v4, mI v5, mI v6, mI v7, mI v8, mI v9, mI v10] [] M := Wt.blk (wpD_mono mB mNL d) (And.intro (fun c_29 => Wt.blk (wpD_mono mB mNL d) (And.intro (fun c_26 => Wt.blk (wpD_mono mB mNL d) (Wt.blk (wpD_mono mB mNL d) (((h.1 c_29).1 c_26)))) (fun c_26 => Wt.blk (wpD_mono mB mNL d) (((h.1 c_29).2 c_26))))) (fun c_29 => And.intro (h.2 c_29).1 (And.intro (fun c_28 => Wt.blk (wpD_mono mB mNL d) (Wt.blk (wpD_mono mB mNL d) (((h.2 c_29).2.1 c_28)))) (fun c_28 => And.intro ((h.2 c_29).2.2 c_28).1 (And.intro ((h.2 c_29).2.2 c_28).2.1 (And.intro (fun c_27 => Wt.blk (wpD_mono mB mNL d) (Wt.blk (wpD_mono mB mNL d) ((((h.2 c_29).2.2 c_28).2.2.1 c_27)))) (fun c_27 => Wt.blk (wpD_mono mB mNL d) ((((h.2 c_29).2.2 c_28).2.2.2 c_27)))))))))
theorem v_X8_winter_0 {d : Nat} {k : mQ} {M : mM} (v1 : Int32) (v2 : Int32) (v3 : Int32)
  (h : wpD mB mNL d zX8_in [mI v1, mI 0, mI 9999] M (fun r_2 M_1 => wI r_2 fun x_4 =>
  ((x_4 = 0 → k (mI (-2)) M_1) ∧
     (¬ x_4 = 0 → wpD mB mNL d zX8_in [mI v2, mI 1, mI 30] M_1 (fun r_6 M_5 => wI r_6 fun x_8 =>
      ((x_8 = 0 → k (mI (-2)) M_5) ∧
         (¬ x_8 = 0 → wpD mB mNL d zX8_in [mI v3, mI 0, mI 1] M_5 (fun r_10 M_9 => wI r_10 fun x_12 =>
          ((¬ x_12 = 0 → wpD mB mNL d zX8_asLane [mR 8 0 0] M_9 (fun r_14 M_13 => wV r_14 (
              jJ kB_X8_winter d k 3 [mR 8 0 0, mI v1, mI v2, mI v3, mI 0, none, none, none, none, none] [] M_13))) ∧
             (x_12 = 0 → k (mI (-2)) M_9)))))))))) :
  wpD mB mNL (d + 1) zX8_winter [mR 8 0 0, mI v1, mI v2, mI v3] M k := (show jJ kB_X8_winter d k 0 [mR 8 0 0, mI v1, mI v2, mI v3, none, none, none, none, none, none] [] M from Wt.blk (wpD_mono mB mNL d) (cI (fun x_4 M_1 h_3 => And.intro (fun c_18 => Wt.blk (wpD_mono mB mNL d) ((h_3.1 c_18))) (fun c_18 => cI (fun x_8 M_5 h_7 => And.intro (fun c_17 => Wt.blk (wpD_mono mB mNL d) ((h_7.1 c_17))) (fun c_17 => cI (fun x_12 M_9 h_11 => And.intro (fun c_16 => Wt.blk (wpD_mono mB mNL d) (cV (fun M_13 h_15 => h_15) (h_11.1 c_16))) (fun c_16 => Wt.blk (wpD_mono mB mNL d) ((h_11.2 c_16)))) (h_7.2 c_17))) (h_3.2 c_18))) h))
theorem v_X8_winter_3 {d : Nat} {k : mQ} {M : mM} (v1 : Int32) (v2 : Int32) (v3 : Int32) (v4 : Int32) (u5 : mV) (u6 : mV) (u7 : mV) (u8 : mV) (u9 : mV)
  (h : ((6 ≤ v4 → jJ kB_X8_winter d k 7 [mR 8 0 0, mI v1, mI v2, mI v3, mI v1, mI 0, mI 0, mI 0, u8, u9] [] M) ∧
   (¬ 6 ≤ v4 → wpD mB mNL d zX8_layBest [mR 8 0 0, mI v4] M (fun r_20 M_19 => wI r_20 fun x_22 =>
    ((0 ≤ x_22 → (vp_in v4 6 ∧ jJ kB_X8_winter d k 3 [mR 8 0 0, mI v1, mI v2, mI v3, mI (v4 + 1), u5, u6, u7, u8, u9] [] (up M_19 11 (v4.toNatClampNeg) (M_19 0 17)))) ∧
       (¬ 0 ≤ x_22 → (vp_in v4 6 ∧ jJ kB_X8_winter d k 3 [mR 8 0 0, mI v1, mI v2, mI v3, mI (v4 + 1), u5, u6, u7, u8, u9] [] (up M_19 11 (v4.toNatClampNeg) 0)))))))) :
  jJ kB_X8_winter d k 3 [mR 8 0 0, mI v1, mI v2, mI v3, mI v4, u5, u6, u7, u8, u9] [] M := Wt.blk (wpD_mono mB mNL d) (And.intro (fun c_24 => Wt.blk (wpD_mono mB mNL d) ((h.1 c_24))) (fun c_24 => cI (fun x_22 M_19 h_21 => And.intro (fun c_23 => Wt.blk (wpD_mono mB mNL d) (Wt.blk (wpD_mono mB mNL d) (And.intro (h_21.1 c_23).1 ((h_21.1 c_23).2)))) (fun c_23 => Wt.blk (wpD_mono mB mNL d) (And.intro (h_21.2 c_23).1 ((h_21.2 c_23).2)))) (h.2 c_24)))
theorem v_X8_winter_7 {d : Nat} {k : mQ} {M : mM} (v1 : Int32) (v2 : Int32) (v3 : Int32) (v4 : Int32) (v5 : Int32) (v6 : Int32) (v7 : Int32) (u8 : mV) (u9 : mV)
  (h : ((v2 ≤ v7 → ((¬ v3 = 0 → k (mI v6) M) ∧
     (v3 = 0 → k (mI v5) M))) ∧
   (¬ v2 ≤ v7 → (¬ 65537 = (0 : Int32) ∧ (vp_in 1 5 ∧ (¬ 200 = (0 : Int32) ∧ jJ kB_X8_winter d k 8 [mR 8 0 0, mI v1, mI v2, mI v3, mI (((75 * v4) + 74) - ((75 * v4) + 74) / 65537 * 65537), mI v5, mI v6, mI v7, mI ((M 1 ((1 : Int32).toNatClampNeg)) - ((((75 * v4) + 74) - ((75 * v4) + 74) / 65537 * 65537) - (((75 * v4) + 74) - ((75 * v4) + 74) / 65537 * 65537) / 200 * 200)), mI 0] [] M)))))) :
  jJ kB_X8_winter d k 7 [mR 8 0 0, mI v1, mI v2, mI v3, mI v4, mI v5, mI v6, mI v7, u8, u9] [] M := Wt.blk (wpD_mono mB mNL d) (And.intro (fun c_26 => Wt.blk (wpD_mono mB mNL d) (And.intro (fun c_25 => Wt.blk (wpD_mono mB mNL d) (Wt.blk (wpD_mono mB mNL d) (((h.1 c_26).1 c_25)))) (fun c_25 => Wt.blk (wpD_mono mB mNL d) (((h.1 c_26).2 c_25))))) (fun c_26 => And.intro (h.2 c_26).1 (And.intro (h.2 c_26).2.1 (And.intro (h.2 c_26).2.2.1 ((h.2 c_26).2.2.2)))))
theorem v_X8_winter_8 {d : Nat} {k : mQ} {M : mM} (v1 : Int32) (v2 : Int32) (v3 : Int32) (v4 : Int32) (v5 : Int32) (v6 : Int32) (v7 : Int32) (v8 : Int32) (v9 : Int32)
  (h : ((6 ≤ v9 → jJ kB_X8_winter d k 7 [mR 8 0 0, mI v1, mI v2, mI v3, mI v4, mI v5, mI v6, mI (v7 + 1), mI v8, mI v9] [] M) ∧
   (¬ 6 ≤ v9 → (vp_in v9 6 ∧ (vp_in v9 6 ∧ ((0 ≤ v8 → jJ kB_X8_winter d k 10 [mR 8 0 0, mI v1, mI v2, mI v3, mI v4, mI v5, mI v6, mI v7, mI v8, mI v9] [mI v8, mI ((M 11 (v9.toNatClampNeg)) &&& 511), mI ((M 11 (v9.toNatClampNeg)) >>> (9 &&& 31)), mI v9, mR 8 0 0] M) ∧
     (¬ 0 ≤ v8 → jJ kB_X8_winter d k 10 [mR 8 0 0, mI v1, mI v2, mI v3, mI v4, mI v5, mI v6, mI v7, mI v8, mI v9] [mI 0, mI ((M 11 (v9.toNatClampNeg)) &&& 511), mI ((M 11 (v9.toNatClampNeg)) >>> (9 &&& 31)), mI v9, mR 8 0 0] M))))))) :
  jJ kB_X8_winter d k 8 [mR 8 0 0, mI v1, mI v2, mI v3, mI v4, mI v5, mI v6, mI v7, mI v8, mI v9] [] M := Wt.blk (wpD_mono mB mNL d) (And.intro (fun c_28 => Wt.blk (wpD_mono mB mNL d) ((h.1 c_28))) (fun c_28 => And.intro (h.2 c_28).1 (And.intro (h.2 c_28).2.1 (And.intro (fun c_27 => Wt.blk (wpD_mono mB mNL d) (((h.2 c_28).2.2.1 c_27))) (fun c_27 => ((h.2 c_28).2.2.2 c_27))))))
theorem v_X8_winter_10 {d : Nat} {k : mQ} {M : mM} (v1 : Int32) (v2 : Int32) (v3 : Int32) (v4 : Int32) (v5 : Int32) (v6 : Int32) (v7 : Int32) (v8 : Int32) (v9 : Int32) (s1 : Int32) (s2 : Int32) (s3 : Int32) (s4 : Int32)
  (h : wpD mB mNL d zX8_go [mR 8 0 0, mI s1, mI s2, mI s3, mI s4] M (fun r_30 M_29 => wV r_30 (
  wpD mB mNL d zX8_worthOf [mR 8 0 0, mI (M_29 0 13)] M_29 (fun r_33 M_32 => wI r_33 fun x_35 =>
    wpD mB mNL d zX8_bits [mI (M_32 0 14)] M_32 (fun r_37 M_36 => wI r_37 fun x_39 =>
      jJ kB_X8_winter d k 8 [mR 8 0 0, mI v1, mI v2, mI v3, mI v4, mI (v5 + x_35), mI (v6 + x_39), mI v7, mI v8, mI (v9 + 1)] [] M_36))))) :
  jJ kB_X8_winter d k 10 [mR 8 0 0, mI v1, mI v2, mI v3, mI v4, mI v5, mI v6, mI v7, mI v8, mI v9] [mI s4, mI s3, mI s2, mI s1, mR 8 0 0] M := Wt.blk (wpD_mono mB mNL d) (cV (fun M_29 h_31 => cI (fun x_35 M_32 h_34 => cI (fun x_39 M_36 h_38 => h_38) h_34) h_31) h)
theorem v_X8_image_0 {d : Nat} {k : mQ} {M : mM} (v1 : Int32)
  (h : wpD mB mNL d zX8_in [mI v1, mI 0, mI 1] M (fun r_2 M_1 => wI r_2 fun x_4 =>
  ((¬ x_4 = 0 → jJ kB_X8_image d k 2 [mR 8 0 0, mI v1, mI (80 * v1), mI 0] [] M_1) ∧
     (x_4 = 0 → k (mI (-2)) M_1)))) :
  wpD mB mNL (d + 1) zX8_image [mR 8 0 0, mI v1] M k := (show jJ kB_X8_image d k 0 [mR 8 0 0, mI v1, none, none] [] M from Wt.blk (wpD_mono mB mNL d) (cI (fun x_4 M_1 h_3 => And.intro (fun c_5 => Wt.blk (wpD_mono mB mNL d) ((h_3.1 c_5))) (fun c_5 => (h_3.2 c_5))) h))
theorem v_X8_image_2 {d : Nat} {k : mQ} {M : mM} (v1 : Int32) (v2 : Int32) (v3 : Int32)
  (h : ((5 ≤ v3 → jJ kB_X8_image d k 4 [mR 8 0 0, mI v1, mI v2, mI 0] [] M) ∧
   (¬ 5 ≤ v3 → (vp_in v3 5 ∧ (vp_in (v2 + v3) 160 ∧ jJ kB_X8_image d k 2 [mR 8 0 0, mI v1, mI v2, mI (v3 + 1)] [] (up M 12 ((v2 + v3).toNatClampNeg) (M 1 (v3.toNatClampNeg)))))))) :
  jJ kB_X8_image d k 2 [mR 8 0 0, mI v1, mI v2, mI v3] [] M := Wt.blk (wpD_mono mB mNL d) (And.intro (fun c_6 => Wt.blk (wpD_mono mB mNL d) ((h.1 c_6))) (fun c_6 => And.intro (h.2 c_6).1 (And.intro (h.2 c_6).2.1 ((h.2 c_6).2.2))))
theorem v_X8_image_4 {d : Nat} {k : mQ} {M : mM} (v1 : Int32) (v2 : Int32) (v3 : Int32)
  (h : ((30 ≤ v3 → jJ kB_X8_image d k 6 [mR 8 0 0, mI v1, mI v2, mI 0] [] M) ∧
   (¬ 30 ≤ v3 → (vp_in v3 30 ∧ (vp_in ((v2 + 5) + v3) 160 ∧ jJ kB_X8_image d k 4 [mR 8 0 0, mI v1, mI v2, mI (v3 + 1)] [] (up M 12 (((v2 + 5) + v3).toNatClampNeg) (M 2 (v3.toNatClampNeg)))))))) :
  jJ kB_X8_image d k 4 [mR 8 0 0, mI v1, mI v2, mI v3] [] M := Wt.blk (wpD_mono mB mNL d) (And.intro (fun c_7 => Wt.blk (wpD_mono mB mNL d) ((h.1 c_7))) (fun c_7 => And.intro (h.2 c_7).1 (And.intro (h.2 c_7).2.1 ((h.2 c_7).2.2))))
theorem v_X8_image_6 {d : Nat} {k : mQ} {M : mM} (v1 : Int32) (v2 : Int32) (v3 : Int32)
  (h : ((24 ≤ v3 → jJ kB_X8_image d k 8 [mR 8 0 0, mI v1, mI v2, mI 0] [] M) ∧
   (¬ 24 ≤ v3 → (vp_in v3 24 ∧ (vp_in ((v2 + 35) + v3) 160 ∧ jJ kB_X8_image d k 6 [mR 8 0 0, mI v1, mI v2, mI (v3 + 1)] [] (up M 12 (((v2 + 35) + v3).toNatClampNeg) (M 4 (v3.toNatClampNeg)))))))) :
  jJ kB_X8_image d k 6 [mR 8 0 0, mI v1, mI v2, mI v3] [] M := Wt.blk (wpD_mono mB mNL d) (And.intro (fun c_8 => Wt.blk (wpD_mono mB mNL d) ((h.1 c_8))) (fun c_8 => And.intro (h.2 c_8).1 (And.intro (h.2 c_8).2.1 ((h.2 c_8).2.2))))
theorem v_X8_image_8 {d : Nat} {k : mQ} {M : mM} (v1 : Int32) (v2 : Int32) (v3 : Int32)
  (h : ((18 ≤ v3 → (vp_in (v2 + 77) 160 ∧ (vp_in (v2 + 78) 160 ∧ (vp_in (v2 + 79) 160 ∧ (vp_in v1 2 ∧ k (mI 1) (up (up (up (up M 12 ((v2 + 77).toNatClampNeg) (M 0 4)) 12 ((v2 + 78).toNatClampNeg) (M 0 6)) 12 ((v2 + 79).toNatClampNeg) (M 0 7)) 13 (v1.toNatClampNeg) (vp_nar .boolean 1))))))) ∧
   (¬ 18 ≤ v3 → (vp_in v3 18 ∧ (vp_in ((v2 + 59) + v3) 160 ∧ jJ kB_X8_image d k 8 [mR 8 0 0, mI v1, mI v2, mI (v3 + 1)] [] (up M 12 (((v2 + 59) + v3).toNatClampNeg) (M 5 (v3.toNatClampNeg)))))))) :
  jJ kB_X8_image d k 8 [mR 8 0 0, mI v1, mI v2, mI v3] [] M := Wt.blk (wpD_mono mB mNL d) (And.intro (fun c_9 => Wt.blk (wpD_mono mB mNL d) (And.intro (h.1 c_9).1 (And.intro (h.1 c_9).2.1 (And.intro (h.1 c_9).2.2.1 (And.intro (h.1 c_9).2.2.2.1 ((h.1 c_9).2.2.2.2)))))) (fun c_9 => And.intro (h.2 c_9).1 (And.intro (h.2 c_9).2.1 ((h.2 c_9).2.2))))
theorem v_X8_restore_0 {d : Nat} {k : mQ} {M : mM} (v1 : Int32)
  (h : wpD mB mNL d zX8_in [mI v1, mI 0, mI 1] M (fun r_2 M_1 => wI r_2 fun x_4 =>
  ((¬ x_4 = 0 → (vp_in v1 2 ∧ ((¬ (M_1 13 (v1.toNatClampNeg)) = 0 → jJ kB_X8_restore d k 3 [mR 8 0 0, mI v1, mI (80 * v1), mI 0] [] M_1) ∧
       ((M_1 13 (v1.toNatClampNeg)) = 0 → k (mI (-3)) M_1)))) ∧
     (x_4 = 0 → k (mI (-2)) M_1)))) :
  wpD mB mNL (d + 1) zX8_restore [mR 8 0 0, mI v1] M k := (show jJ kB_X8_restore d k 0 [mR 8 0 0, mI v1, none, none] [] M from Wt.blk (wpD_mono mB mNL d) (cI (fun x_4 M_1 h_3 => And.intro (fun c_6 => Wt.blk (wpD_mono mB mNL d) (And.intro (h_3.1 c_6).1 (And.intro (fun c_5 => Wt.blk (wpD_mono mB mNL d) (((h_3.1 c_6).2.1 c_5))) (fun c_5 => ((h_3.1 c_6).2.2 c_5))))) (fun c_6 => (h_3.2 c_6))) h))
theorem v_X8_restore_3 {d : Nat} {k : mQ} {M : mM} (v1 : Int32) (v2 : Int32) (v3 : Int32)
  (h : ((5 ≤ v3 → jJ kB_X8_restore d k 5 [mR 8 0 0, mI v1, mI v2, mI 0] [] M) ∧
   (¬ 5 ≤ v3 → (vp_in (v2 + v3) 160 ∧ (vp_in v3 5 ∧ jJ kB_X8_restore d k 3 [mR 8 0 0, mI v1, mI v2, mI (v3 + 1)] [] (up M 1 (v3.toNatClampNeg) (M 12 ((v2 + v3).toNatClampNeg)))))))) :
  jJ kB_X8_restore d k 3 [mR 8 0 0, mI v1, mI v2, mI v3] [] M := Wt.blk (wpD_mono mB mNL d) (And.intro (fun c_7 => Wt.blk (wpD_mono mB mNL d) ((h.1 c_7))) (fun c_7 => And.intro (h.2 c_7).1 (And.intro (h.2 c_7).2.1 ((h.2 c_7).2.2))))
theorem v_X8_restore_5 {d : Nat} {k : mQ} {M : mM} (v1 : Int32) (v2 : Int32) (v3 : Int32)
  (h : ((30 ≤ v3 → jJ kB_X8_restore d k 7 [mR 8 0 0, mI v1, mI v2, mI 0] [] M) ∧
   (¬ 30 ≤ v3 → (vp_in ((v2 + 5) + v3) 160 ∧ (vp_in v3 30 ∧ jJ kB_X8_restore d k 5 [mR 8 0 0, mI v1, mI v2, mI (v3 + 1)] [] (up M 2 (v3.toNatClampNeg) (M 12 (((v2 + 5) + v3).toNatClampNeg)))))))) :
  jJ kB_X8_restore d k 5 [mR 8 0 0, mI v1, mI v2, mI v3] [] M := Wt.blk (wpD_mono mB mNL d) (And.intro (fun c_8 => Wt.blk (wpD_mono mB mNL d) ((h.1 c_8))) (fun c_8 => And.intro (h.2 c_8).1 (And.intro (h.2 c_8).2.1 ((h.2 c_8).2.2))))
theorem v_X8_restore_7 {d : Nat} {k : mQ} {M : mM} (v1 : Int32) (v2 : Int32) (v3 : Int32)
  (h : ((24 ≤ v3 → jJ kB_X8_restore d k 9 [mR 8 0 0, mI v1, mI v2, mI 0] [] M) ∧
   (¬ 24 ≤ v3 → (vp_in ((v2 + 35) + v3) 160 ∧ (vp_in v3 24 ∧ jJ kB_X8_restore d k 7 [mR 8 0 0, mI v1, mI v2, mI (v3 + 1)] [] (up M 4 (v3.toNatClampNeg) (M 12 (((v2 + 35) + v3).toNatClampNeg)))))))) :
  jJ kB_X8_restore d k 7 [mR 8 0 0, mI v1, mI v2, mI v3] [] M := Wt.blk (wpD_mono mB mNL d) (And.intro (fun c_9 => Wt.blk (wpD_mono mB mNL d) ((h.1 c_9))) (fun c_9 => And.intro (h.2 c_9).1 (And.intro (h.2 c_9).2.1 ((h.2 c_9).2.2))))
theorem v_X8_restore_9 {d : Nat} {k : mQ} {M : mM} (v1 : Int32) (v2 : Int32) (v3 : Int32)
  (h : ((18 ≤ v3 → (vp_in (v2 + 77) 160 ∧ (vp_in (v2 + 78) 160 ∧ (vp_in (v2 + 79) 160 ∧ k (mI 1) (up (up (up M 0 4 (M 12 ((v2 + 77).toNatClampNeg))) 0 6 (M 12 ((v2 + 78).toNatClampNeg))) 0 7 (M 12 ((v2 + 79).toNatClampNeg))))))) ∧
   (¬ 18 ≤ v3 → (vp_in ((v2 + 59) + v3) 160 ∧ (vp_in v3 18 ∧ jJ kB_X8_restore d k 9 [mR 8 0 0, mI v1, mI v2, mI (v3 + 1)] [] (up M 5 (v3.toNatClampNeg) (M 12 (((v2 + 59) + v3).toNatClampNeg)))))))) :
  jJ kB_X8_restore d k 9 [mR 8 0 0, mI v1, mI v2, mI v3] [] M := Wt.blk (wpD_mono mB mNL d) (And.intro (fun c_10 => Wt.blk (wpD_mono mB mNL d) (And.intro (h.1 c_10).1 (And.intro (h.1 c_10).2.1 (And.intro (h.1 c_10).2.2.1 ((h.1 c_10).2.2.2))))) (fun c_10 => And.intro (h.2 c_10).1 (And.intro (h.2 c_10).2.1 ((h.2 c_10).2.2))))
theorem v_X8_told_0 {d : Nat} {k : mQ} {M : mM} (v1 : Int32)
  (h : (¬ 10 = (0 : Int32) ∧ wpD mB mNL d zX8_in [mI v1, mI 10, mI 14] M (fun r_2 M_1 => wI r_2 fun x_4 =>
  ((x_4 = 0 → wpD mB mNL d zX8_in [mI v1, mI 20, mI 69] M_1 (fun r_6 M_5 => wI r_6 fun x_8 =>
      ((x_8 = 0 → jJ kB_X8_told d k 2 [mR 8 0 0, mI v1, mI (v1 - v1 / 10 * 10)] [] M_5) ∧
         (¬ x_8 = 0 → wpD mB mNL d zX8_in [mI (v1 - v1 / 10 * 10), mI 0, mI 5] M_5 (fun r_10 M_9 => wI r_10 fun x_12 =>
          ((x_12 = 0 → jJ kB_X8_told d k 2 [mR 8 0 0, mI v1, mI (v1 - v1 / 10 * 10)] [] M_9) ∧
             (¬ x_12 = 0 → (¬ 10 = (0 : Int32) ∧ (vp_in ((6 * ((v1 / 10) - 2)) + (v1 - v1 / 10 * 10)) 30 ∧ k (mI (M_9 2 (((6 * ((v1 / 10) - 2)) + (v1 - v1 / 10 * 10)).toNatClampNeg))) M_9))))))))) ∧
     (¬ x_4 = 0 → (vp_in (v1 - v1 / 10 * 10) 5 ∧ k (mI (M_1 1 ((v1 - v1 / 10 * 10).toNatClampNeg))) M_1)))))) :
  wpD mB mNL (d + 1) zX8_told [mR 8 0 0, mI v1] M k := (show jJ kB_X8_told d k 0 [mR 8 0 0, mI v1, none] [] M from Wt.blk (wpD_mono mB mNL d) (And.intro h.1 (cI (fun x_4 M_1 h_3 => And.intro (fun c_15 => Wt.blk (wpD_mono mB mNL d) (cI (fun x_8 M_5 h_7 => And.intro (fun c_14 => (h_7.1 c_14)) (fun c_14 => cI (fun x_12 M_9 h_11 => And.intro (fun c_13 => (h_11.1 c_13)) (fun c_13 => And.intro (h_11.2 c_13).1 (And.intro (h_11.2 c_13).2.1 ((h_11.2 c_13).2.2)))) (h_7.2 c_14))) (h_3.1 c_15))) (fun c_15 => And.intro (h_3.2 c_15).1 ((h_3.2 c_15).2))) h.2)))
theorem v_X8_told_2 {d : Nat} {k : mQ} {M : mM} (v1 : Int32) (v2 : Int32)
  (h : ((¬ v1 = 0 → ((¬ v1 = 1 → ((¬ v1 = 2 → ((¬ v1 = 3 → k (mI (-2)) M) ∧
         (v1 = 3 → k (mI (M 0 7)) M))) ∧
       (v1 = 2 → k (mI (M 0 6)) M))) ∧
     (v1 = 1 → k (mI (M 0 4)) M))) ∧
   (v1 = 0 → k (mI (M 0 2)) M))) :
  jJ kB_X8_told d k 2 [mR 8 0 0, mI v1, mI v2] [] M := Wt.blk (wpD_mono mB mNL d) (And.intro (fun c_19 => Wt.blk (wpD_mono mB mNL d) (And.intro (fun c_18 => Wt.blk (wpD_mono mB mNL d) (And.intro (fun c_17 => Wt.blk (wpD_mono mB mNL d) (And.intro (fun c_16 => Wt.blk (wpD_mono mB mNL d) (Wt.blk (wpD_mono mB mNL d) (((((h.1 c_19).1 c_18).1 c_17).1 c_16)))) (fun c_16 => Wt.blk (wpD_mono mB mNL d) (((((h.1 c_19).1 c_18).1 c_17).2 c_16))))) (fun c_17 => Wt.blk (wpD_mono mB mNL d) ((((h.1 c_19).1 c_18).2 c_17))))) (fun c_18 => Wt.blk (wpD_mono mB mNL d) (((h.1 c_19).2 c_18))))) (fun c_19 => Wt.blk (wpD_mono mB mNL d) ((h.2 c_19))))
